section
-- ===== PART A: goes FIRST, ahead of the names: the tables' words, and 'selects' of the private methods out of them =====
/-- a private method of a class that the tables say can be made, by its rows of tables_1 -/
def lw_okq (q : MethodName × Nat) : Prop := (q.1.cls ≠ "java/lang/invoke/MethodHandle" ∧ q.1.cls ≠ "java/lang/invoke/VarHandle") ∧ Cond.instantiable q.1.cls q.2 ∈ tables_1 ∧ Cond.privateMethod q.1 ∈ tables_1 ∧ Cond.instanceMethod q.1 ∈ tables_1
theorem lw_p0 : lw_okq (⟨"SownSeeds$Text", "readClause", "(LSownSeeds$Board;)Z"⟩, 5) := ⟨⟨by decide +kernel, by decide +kernel⟩, List.mem_of_getElem? (i := 63) (by decide +kernel), List.mem_of_getElem? (i := 238) (by decide +kernel), List.mem_of_getElem? (i := 239) (by decide +kernel)⟩
theorem lw_p1 : lw_okq (⟨"SownSeeds$Text", "advance", "()V"⟩, 5) := ⟨⟨by decide +kernel, by decide +kernel⟩, List.mem_of_getElem? (i := 63) (by decide +kernel), List.mem_of_getElem? (i := 242) (by decide +kernel), List.mem_of_getElem? (i := 243) (by decide +kernel)⟩
theorem lw_p2 : lw_okq (⟨"SownSeeds$Text", "isAt", "(ICC)Z"⟩, 5) := ⟨⟨by decide +kernel, by decide +kernel⟩, List.mem_of_getElem? (i := 63) (by decide +kernel), List.mem_of_getElem? (i := 246) (by decide +kernel), List.mem_of_getElem? (i := 247) (by decide +kernel)⟩
theorem lw_p3 : lw_okq (⟨"SownSeeds$Text", "word", "()I"⟩, 5) := ⟨⟨by decide +kernel, by decide +kernel⟩, List.mem_of_getElem? (i := 63) (by decide +kernel), List.mem_of_getElem? (i := 250) (by decide +kernel), List.mem_of_getElem? (i := 251) (by decide +kernel)⟩
theorem lw_p4 : lw_okq (⟨"SownSeeds$Text", "isWord", "(Ljava/lang/String;)Z"⟩, 5) := ⟨⟨by decide +kernel, by decide +kernel⟩, List.mem_of_getElem? (i := 63) (by decide +kernel), List.mem_of_getElem? (i := 255) (by decide +kernel), List.mem_of_getElem? (i := 256) (by decide +kernel)⟩
theorem lw_p5 : lw_okq (⟨"SownSeeds$Text", "readFirst", "(II)I"⟩, 5) := ⟨⟨by decide +kernel, by decide +kernel⟩, List.mem_of_getElem? (i := 63) (by decide +kernel), List.mem_of_getElem? (i := 319) (by decide +kernel), List.mem_of_getElem? (i := 320) (by decide +kernel)⟩
theorem lw_p6 : lw_okq (⟨"SownSeeds$Text", "readNumber", "(II)I"⟩, 5) := ⟨⟨by decide +kernel, by decide +kernel⟩, List.mem_of_getElem? (i := 63) (by decide +kernel), List.mem_of_getElem? (i := 323) (by decide +kernel), List.mem_of_getElem? (i := 324) (by decide +kernel)⟩
theorem lw_p7 : lw_okq (⟨"SownSeeds$Text", "readSecond", "(I)I"⟩, 5) := ⟨⟨by decide +kernel, by decide +kernel⟩, List.mem_of_getElem? (i := 63) (by decide +kernel), List.mem_of_getElem? (i := 328) (by decide +kernel), List.mem_of_getElem? (i := 329) (by decide +kernel)⟩
theorem lw_p8 : lw_okq (⟨"SownSeeds", "remember", "()V"⟩, 11) := ⟨⟨by decide +kernel, by decide +kernel⟩, List.mem_of_getElem? (i := 18) (by decide +kernel), List.mem_of_getElem? (i := 443) (by decide +kernel), List.mem_of_getElem? (i := 444) (by decide +kernel)⟩
theorem lw_p9 : lw_okq (⟨"SownSeeds$Board", "spread", "(I)I"⟩, 6) := ⟨⟨by decide +kernel, by decide +kernel⟩, List.mem_of_getElem? (i := 26) (by decide +kernel), List.mem_of_getElem? (i := 451) (by decide +kernel), List.mem_of_getElem? (i := 452) (by decide +kernel)⟩
theorem lw_p10 : lw_okq (⟨"SownSeeds$Board", "nextTaker", "(II)I"⟩, 6) := ⟨⟨by decide +kernel, by decide +kernel⟩, List.mem_of_getElem? (i := 26) (by decide +kernel), List.mem_of_getElem? (i := 455) (by decide +kernel), List.mem_of_getElem? (i := 456) (by decide +kernel)⟩
theorem lw_p11 : lw_okq (⟨"SownSeeds$Board", "reap", "(I)V"⟩, 6) := ⟨⟨by decide +kernel, by decide +kernel⟩, List.mem_of_getElem? (i := 26) (by decide +kernel), List.mem_of_getElem? (i := 459) (by decide +kernel), List.mem_of_getElem? (i := 460) (by decide +kernel)⟩
theorem lw_p12 : lw_okq (⟨"SownSeeds$Foresight", "search", "(IIII)I"⟩, 2) := ⟨⟨by decide +kernel, by decide +kernel⟩, List.mem_of_getElem? (i := 87) (by decide +kernel), List.mem_of_getElem? (i := 512) (by decide +kernel), List.mem_of_getElem? (i := 513) (by decide +kernel)⟩
theorem lw_p13 : lw_okq (⟨"SownSeeds$Foresight", "rashHouse", "()I"⟩, 2) := ⟨⟨by decide +kernel, by decide +kernel⟩, List.mem_of_getElem? (i := 87) (by decide +kernel), List.mem_of_getElem? (i := 539) (by decide +kernel), List.mem_of_getElem? (i := 540) (by decide +kernel)⟩
theorem lw_p14 : lw_okq (⟨"SownSeeds$Foresight", "leading", "(IIII)I"⟩, 2) := ⟨⟨by decide +kernel, by decide +kernel⟩, List.mem_of_getElem? (i := 87) (by decide +kernel), List.mem_of_getElem? (i := 572) (by decide +kernel), List.mem_of_getElem? (i := 573) (by decide +kernel)⟩
theorem lw_p15 : lw_okq (⟨"SownSeeds$Sightings", "fits", "(I)Z"⟩, 5) := ⟨⟨by decide +kernel, by decide +kernel⟩, List.mem_of_getElem? (i := 102) (by decide +kernel), List.mem_of_getElem? (i := 610) (by decide +kernel), List.mem_of_getElem? (i := 611) (by decide +kernel)⟩
def lw_privs_1 : List (MethodName × Nat) := [(⟨"SownSeeds$Text", "readClause", "(LSownSeeds$Board;)Z"⟩, 5), (⟨"SownSeeds$Text", "advance", "()V"⟩, 5), (⟨"SownSeeds$Text", "isAt", "(ICC)Z"⟩, 5), (⟨"SownSeeds$Text", "word", "()I"⟩, 5), (⟨"SownSeeds$Text", "isWord", "(Ljava/lang/String;)Z"⟩, 5), (⟨"SownSeeds$Text", "readFirst", "(II)I"⟩, 5), (⟨"SownSeeds$Text", "readNumber", "(II)I"⟩, 5), (⟨"SownSeeds$Text", "readSecond", "(I)I"⟩, 5), (⟨"SownSeeds", "remember", "()V"⟩, 11), (⟨"SownSeeds$Board", "spread", "(I)I"⟩, 6), (⟨"SownSeeds$Board", "nextTaker", "(II)I"⟩, 6), (⟨"SownSeeds$Board", "reap", "(I)V"⟩, 6), (⟨"SownSeeds$Foresight", "search", "(IIII)I"⟩, 2), (⟨"SownSeeds$Foresight", "rashHouse", "()I"⟩, 2), (⟨"SownSeeds$Foresight", "leading", "(IIII)I"⟩, 2), (⟨"SownSeeds$Sightings", "fits", "(I)Z"⟩, 5)]
theorem lw_r1 : ∀ q ∈ lw_privs_1, lw_okq q := List.forall_mem_cons.mpr ⟨lw_p0, List.forall_mem_cons.mpr ⟨lw_p1, List.forall_mem_cons.mpr ⟨lw_p2, List.forall_mem_cons.mpr ⟨lw_p3, List.forall_mem_cons.mpr ⟨lw_p4, List.forall_mem_cons.mpr ⟨lw_p5, List.forall_mem_cons.mpr ⟨lw_p6, List.forall_mem_cons.mpr ⟨lw_p7, List.forall_mem_cons.mpr ⟨lw_p8, List.forall_mem_cons.mpr ⟨lw_p9, List.forall_mem_cons.mpr ⟨lw_p10, List.forall_mem_cons.mpr ⟨lw_p11, List.forall_mem_cons.mpr ⟨lw_p12, List.forall_mem_cons.mpr ⟨lw_p13, List.forall_mem_cons.mpr ⟨lw_p14, List.forall_mem_cons.mpr ⟨lw_p15, fun _ h => absurd h List.not_mem_nil⟩⟩⟩⟩⟩⟩⟩⟩⟩⟩⟩⟩⟩⟩⟩⟩
theorem lw_p16 : lw_okq (⟨"SownSeeds$Boxes", "stepsUp", "(II)I"⟩, 1) := ⟨⟨by decide +kernel, by decide +kernel⟩, List.mem_of_getElem? (i := 124) (by decide +kernel), List.mem_of_getElem? (i := 659) (by decide +kernel), List.mem_of_getElem? (i := 660) (by decide +kernel)⟩
theorem lw_p17 : lw_okq (⟨"SownSeeds$Boxes", "withInner", "(IIII)I"⟩, 1) := ⟨⟨by decide +kernel, by decide +kernel⟩, List.mem_of_getElem? (i := 124) (by decide +kernel), List.mem_of_getElem? (i := 697) (by decide +kernel), List.mem_of_getElem? (i := 698) (by decide +kernel)⟩
theorem lw_p18 : lw_okq (⟨"SownSeeds$Boxes", "holdSameFrom", "(III)Z"⟩, 1) := ⟨⟨by decide +kernel, by decide +kernel⟩, List.mem_of_getElem? (i := 124) (by decide +kernel), List.mem_of_getElem? (i := 722) (by decide +kernel), List.mem_of_getElem? (i := 723) (by decide +kernel)⟩
theorem lw_p19 : lw_okq (⟨"SownSeeds$Boxes", "isSame", "(IIII)Z"⟩, 1) := ⟨⟨by decide +kernel, by decide +kernel⟩, List.mem_of_getElem? (i := 124) (by decide +kernel), List.mem_of_getElem? (i := 726) (by decide +kernel), List.mem_of_getElem? (i := 727) (by decide +kernel)⟩
theorem lw_p20 : lw_okq (⟨"SownSeedsModel", "noBoxes", "()V"⟩, 31) := ⟨⟨by decide +kernel, by decide +kernel⟩, List.mem_of_getElem? (i := 753) (by decide +kernel), List.mem_of_getElem? (i := 762) (by decide +kernel), List.mem_of_getElem? (i := 763) (by decide +kernel)⟩
theorem lw_p21 : lw_okq (⟨"SownSeedsModel", "clauses", "()I"⟩, 31) := ⟨⟨by decide +kernel, by decide +kernel⟩, List.mem_of_getElem? (i := 753) (by decide +kernel), List.mem_of_getElem? (i := 877) (by decide +kernel), List.mem_of_getElem? (i := 878) (by decide +kernel)⟩
theorem lw_p22 : lw_okq (⟨"SownSeedsModel", "looksOn", "()V"⟩, 31) := ⟨⟨by decide +kernel, by decide +kernel⟩, List.mem_of_getElem? (i := 753) (by decide +kernel), List.mem_of_getElem? (i := 881) (by decide +kernel), List.mem_of_getElem? (i := 882) (by decide +kernel)⟩
theorem lw_p23 : lw_okq (⟨"SownSeedsModel", "letterAt", "(I)I"⟩, 31) := ⟨⟨by decide +kernel, by decide +kernel⟩, List.mem_of_getElem? (i := 753) (by decide +kernel), List.mem_of_getElem? (i := 885) (by decide +kernel), List.mem_of_getElem? (i := 886) (by decide +kernel)⟩
theorem lw_p24 : lw_okq (⟨"SownSeedsModel", "said", "(II)I"⟩, 31) := ⟨⟨by decide +kernel, by decide +kernel⟩, List.mem_of_getElem? (i := 753) (by decide +kernel), List.mem_of_getElem? (i := 891) (by decide +kernel), List.mem_of_getElem? (i := 892) (by decide +kernel)⟩
theorem lw_p25 : lw_okq (⟨"SownSeedsModel", "reads", "()V"⟩, 31) := ⟨⟨by decide +kernel, by decide +kernel⟩, List.mem_of_getElem? (i := 753) (by decide +kernel), List.mem_of_getElem? (i := 915) (by decide +kernel), List.mem_of_getElem? (i := 916) (by decide +kernel)⟩
theorem lw_p26 : lw_okq (⟨"SownSeedsModel", "must", "(Z)V"⟩, 31) := ⟨⟨by decide +kernel, by decide +kernel⟩, List.mem_of_getElem? (i := 753) (by decide +kernel), List.mem_of_getElem? (i := 919) (by decide +kernel), List.mem_of_getElem? (i := 920) (by decide +kernel)⟩
theorem lw_p27 : lw_okq (⟨"SownSeedsModel", "number", "(II)I"⟩, 31) := ⟨⟨by decide +kernel, by decide +kernel⟩, List.mem_of_getElem? (i := 753) (by decide +kernel), List.mem_of_getElem? (i := 923) (by decide +kernel), List.mem_of_getElem? (i := 924) (by decide +kernel)⟩
theorem lw_p28 : lw_okq (⟨"SownSeedsModel", "isHouse", "(I)Z"⟩, 31) := ⟨⟨by decide +kernel, by decide +kernel⟩, List.mem_of_getElem? (i := 753) (by decide +kernel), List.mem_of_getElem? (i := 935) (by decide +kernel), List.mem_of_getElem? (i := 936) (by decide +kernel)⟩
theorem lw_p29 : lw_okq (⟨"SownSeedsModel", "canGo", "(I)Z"⟩, 31) := ⟨⟨by decide +kernel, by decide +kernel⟩, List.mem_of_getElem? (i := 753) (by decide +kernel), List.mem_of_getElem? (i := 957) (by decide +kernel), List.mem_of_getElem? (i := 958) (by decide +kernel)⟩
theorem lw_p30 : lw_okq (⟨"SownSeedsModel", "sideOf", "(I)I"⟩, 31) := ⟨⟨by decide +kernel, by decide +kernel⟩, List.mem_of_getElem? (i := 753) (by decide +kernel), List.mem_of_getElem? (i := 961) (by decide +kernel), List.mem_of_getElem? (i := 962) (by decide +kernel)⟩
theorem lw_p31 : lw_okq (⟨"SownSeedsModel", "lifts", "(I)I"⟩, 31) := ⟨⟨by decide +kernel, by decide +kernel⟩, List.mem_of_getElem? (i := 753) (by decide +kernel), List.mem_of_getElem? (i := 965) (by decide +kernel), List.mem_of_getElem? (i := 966) (by decide +kernel)⟩
def lw_privs_2 : List (MethodName × Nat) := [(⟨"SownSeeds$Boxes", "stepsUp", "(II)I"⟩, 1), (⟨"SownSeeds$Boxes", "withInner", "(IIII)I"⟩, 1), (⟨"SownSeeds$Boxes", "holdSameFrom", "(III)Z"⟩, 1), (⟨"SownSeeds$Boxes", "isSame", "(IIII)Z"⟩, 1), (⟨"SownSeedsModel", "noBoxes", "()V"⟩, 31), (⟨"SownSeedsModel", "clauses", "()I"⟩, 31), (⟨"SownSeedsModel", "looksOn", "()V"⟩, 31), (⟨"SownSeedsModel", "letterAt", "(I)I"⟩, 31), (⟨"SownSeedsModel", "said", "(II)I"⟩, 31), (⟨"SownSeedsModel", "reads", "()V"⟩, 31), (⟨"SownSeedsModel", "must", "(Z)V"⟩, 31), (⟨"SownSeedsModel", "number", "(II)I"⟩, 31), (⟨"SownSeedsModel", "isHouse", "(I)Z"⟩, 31), (⟨"SownSeedsModel", "canGo", "(I)Z"⟩, 31), (⟨"SownSeedsModel", "sideOf", "(I)I"⟩, 31), (⟨"SownSeedsModel", "lifts", "(I)I"⟩, 31)]
theorem lw_r2 : ∀ q ∈ lw_privs_2, lw_okq q := List.forall_mem_cons.mpr ⟨lw_p16, List.forall_mem_cons.mpr ⟨lw_p17, List.forall_mem_cons.mpr ⟨lw_p18, List.forall_mem_cons.mpr ⟨lw_p19, List.forall_mem_cons.mpr ⟨lw_p20, List.forall_mem_cons.mpr ⟨lw_p21, List.forall_mem_cons.mpr ⟨lw_p22, List.forall_mem_cons.mpr ⟨lw_p23, List.forall_mem_cons.mpr ⟨lw_p24, List.forall_mem_cons.mpr ⟨lw_p25, List.forall_mem_cons.mpr ⟨lw_p26, List.forall_mem_cons.mpr ⟨lw_p27, List.forall_mem_cons.mpr ⟨lw_p28, List.forall_mem_cons.mpr ⟨lw_p29, List.forall_mem_cons.mpr ⟨lw_p30, List.forall_mem_cons.mpr ⟨lw_p31, fun _ h => absurd h List.not_mem_nil⟩⟩⟩⟩⟩⟩⟩⟩⟩⟩⟩⟩⟩⟩⟩⟩
theorem lw_p32 : lw_okq (⟨"SownSeedsModel", "notes", "()V"⟩, 31) := ⟨⟨by decide +kernel, by decide +kernel⟩, List.mem_of_getElem? (i := 753) (by decide +kernel), List.mem_of_getElem? (i := 969) (by decide +kernel), List.mem_of_getElem? (i := 970) (by decide +kernel)⟩
theorem lw_p33 : lw_okq (⟨"SownSeedsModel", "goes", "(I)I"⟩, 31) := ⟨⟨by decide +kernel, by decide +kernel⟩, List.mem_of_getElem? (i := 753) (by decide +kernel), List.mem_of_getElem? (i := 973) (by decide +kernel), List.mem_of_getElem? (i := 974) (by decide +kernel)⟩
theorem lw_p34 : lw_okq (⟨"SownSeedsModel", "anyTakes", "(I)Z"⟩, 31) := ⟨⟨by decide +kernel, by decide +kernel⟩, List.mem_of_getElem? (i := 753) (by decide +kernel), List.mem_of_getElem? (i := 977) (by decide +kernel), List.mem_of_getElem? (i := 978) (by decide +kernel)⟩
theorem lw_p35 : lw_okq (⟨"SownSeedsModel", "next", "(I)I"⟩, 31) := ⟨⟨by decide +kernel, by decide +kernel⟩, List.mem_of_getElem? (i := 753) (by decide +kernel), List.mem_of_getElem? (i := 981) (by decide +kernel), List.mem_of_getElem? (i := 982) (by decide +kernel)⟩
theorem lw_p36 : lw_okq (⟨"SownSeedsModel", "ahead", "(I)I"⟩, 31) := ⟨⟨by decide +kernel, by decide +kernel⟩, List.mem_of_getElem? (i := 753) (by decide +kernel), List.mem_of_getElem? (i := 985) (by decide +kernel), List.mem_of_getElem? (i := 986) (by decide +kernel)⟩
theorem lw_p37 : lw_okq (⟨"SownSeedsModel", "wouldBring", "(I)I"⟩, 31) := ⟨⟨by decide +kernel, by decide +kernel⟩, List.mem_of_getElem? (i := 753) (by decide +kernel), List.mem_of_getElem? (i := 1014) (by decide +kernel), List.mem_of_getElem? (i := 1015) (by decide +kernel)⟩
theorem lw_p38 : lw_okq (⟨"SownSeedsModel", "looksAhead", "(I)I"⟩, 31) := ⟨⟨by decide +kernel, by decide +kernel⟩, List.mem_of_getElem? (i := 753) (by decide +kernel), List.mem_of_getElem? (i := 1024) (by decide +kernel), List.mem_of_getElem? (i := 1025) (by decide +kernel)⟩
theorem lw_p39 : lw_okq (⟨"SownSeedsModel", "begins", "(I)V"⟩, 31) := ⟨⟨by decide +kernel, by decide +kernel⟩, List.mem_of_getElem? (i := 753) (by decide +kernel), List.mem_of_getElem? (i := 1028) (by decide +kernel), List.mem_of_getElem? (i := 1029) (by decide +kernel)⟩
theorem lw_p40 : lw_okq (⟨"SownSeedsModel", "laysBack", "(I)V"⟩, 31) := ⟨⟨by decide +kernel, by decide +kernel⟩, List.mem_of_getElem? (i := 753) (by decide +kernel), List.mem_of_getElem? (i := 1032) (by decide +kernel), List.mem_of_getElem? (i := 1033) (by decide +kernel)⟩
theorem lw_p41 : lw_okq (⟨"SownSeedsModel", "lead", "()I"⟩, 31) := ⟨⟨by decide +kernel, by decide +kernel⟩, List.mem_of_getElem? (i := 753) (by decide +kernel), List.mem_of_getElem? (i := 1036) (by decide +kernel), List.mem_of_getElem? (i := 1037) (by decide +kernel)⟩
theorem lw_p42 : lw_okq (⟨"SownSeedsModel", "ends", "(II)V"⟩, 31) := ⟨⟨by decide +kernel, by decide +kernel⟩, List.mem_of_getElem? (i := 753) (by decide +kernel), List.mem_of_getElem? (i := 1040) (by decide +kernel), List.mem_of_getElem? (i := 1041) (by decide +kernel)⟩
theorem lw_p43 : lw_okq (⟨"SownSeedsModel", "noted", "(I)V"⟩, 31) := ⟨⟨by decide +kernel, by decide +kernel⟩, List.mem_of_getElem? (i := 753) (by decide +kernel), List.mem_of_getElem? (i := 1044) (by decide +kernel), List.mem_of_getElem? (i := 1045) (by decide +kernel)⟩
theorem lw_p44 : lw_okq (⟨"SownSeedsModel", "asides", "()V"⟩, 31) := ⟨⟨by decide +kernel, by decide +kernel⟩, List.mem_of_getElem? (i := 753) (by decide +kernel), List.mem_of_getElem? (i := 1053) (by decide +kernel), List.mem_of_getElem? (i := 1054) (by decide +kernel)⟩
theorem lw_p45 : lw_okq (⟨"SownSeedsModel", "rashOnes", "(I)I"⟩, 31) := ⟨⟨by decide +kernel, by decide +kernel⟩, List.mem_of_getElem? (i := 753) (by decide +kernel), List.mem_of_getElem? (i := 1057) (by decide +kernel), List.mem_of_getElem? (i := 1058) (by decide +kernel)⟩
theorem lw_p46 : lw_okq (⟨"SownSeedsModel", "rashOne", "()I"⟩, 31) := ⟨⟨by decide +kernel, by decide +kernel⟩, List.mem_of_getElem? (i := 753) (by decide +kernel), List.mem_of_getElem? (i := 1061) (by decide +kernel), List.mem_of_getElem? (i := 1062) (by decide +kernel)⟩
theorem lw_p47 : lw_okq (⟨"SownSeedsModel", "backs", "()V"⟩, 31) := ⟨⟨by decide +kernel, by decide +kernel⟩, List.mem_of_getElem? (i := 753) (by decide +kernel), List.mem_of_getElem? (i := 1065) (by decide +kernel), List.mem_of_getElem? (i := 1066) (by decide +kernel)⟩
def lw_privs_3 : List (MethodName × Nat) := [(⟨"SownSeedsModel", "notes", "()V"⟩, 31), (⟨"SownSeedsModel", "goes", "(I)I"⟩, 31), (⟨"SownSeedsModel", "anyTakes", "(I)Z"⟩, 31), (⟨"SownSeedsModel", "next", "(I)I"⟩, 31), (⟨"SownSeedsModel", "ahead", "(I)I"⟩, 31), (⟨"SownSeedsModel", "wouldBring", "(I)I"⟩, 31), (⟨"SownSeedsModel", "looksAhead", "(I)I"⟩, 31), (⟨"SownSeedsModel", "begins", "(I)V"⟩, 31), (⟨"SownSeedsModel", "laysBack", "(I)V"⟩, 31), (⟨"SownSeedsModel", "lead", "()I"⟩, 31), (⟨"SownSeedsModel", "ends", "(II)V"⟩, 31), (⟨"SownSeedsModel", "noted", "(I)V"⟩, 31), (⟨"SownSeedsModel", "asides", "()V"⟩, 31), (⟨"SownSeedsModel", "rashOnes", "(I)I"⟩, 31), (⟨"SownSeedsModel", "rashOne", "()I"⟩, 31), (⟨"SownSeedsModel", "backs", "()V"⟩, 31)]
theorem lw_r3 : ∀ q ∈ lw_privs_3, lw_okq q := List.forall_mem_cons.mpr ⟨lw_p32, List.forall_mem_cons.mpr ⟨lw_p33, List.forall_mem_cons.mpr ⟨lw_p34, List.forall_mem_cons.mpr ⟨lw_p35, List.forall_mem_cons.mpr ⟨lw_p36, List.forall_mem_cons.mpr ⟨lw_p37, List.forall_mem_cons.mpr ⟨lw_p38, List.forall_mem_cons.mpr ⟨lw_p39, List.forall_mem_cons.mpr ⟨lw_p40, List.forall_mem_cons.mpr ⟨lw_p41, List.forall_mem_cons.mpr ⟨lw_p42, List.forall_mem_cons.mpr ⟨lw_p43, List.forall_mem_cons.mpr ⟨lw_p44, List.forall_mem_cons.mpr ⟨lw_p45, List.forall_mem_cons.mpr ⟨lw_p46, List.forall_mem_cons.mpr ⟨lw_p47, fun _ h => absurd h List.not_mem_nil⟩⟩⟩⟩⟩⟩⟩⟩⟩⟩⟩⟩⟩⟩⟩⟩
theorem lw_p48 : lw_okq (⟨"SownSeedsModel", "movesThere", "()I"⟩, 31) := ⟨⟨by decide +kernel, by decide +kernel⟩, List.mem_of_getElem? (i := 753) (by decide +kernel), List.mem_of_getElem? (i := 1083) (by decide +kernel), List.mem_of_getElem? (i := 1084) (by decide +kernel)⟩
theorem lw_p49 : lw_okq (⟨"SownSeedsModel", "loses", "(I)V"⟩, 31) := ⟨⟨by decide +kernel, by decide +kernel⟩, List.mem_of_getElem? (i := 753) (by decide +kernel), List.mem_of_getElem? (i := 1118) (by decide +kernel), List.mem_of_getElem? (i := 1119) (by decide +kernel)⟩
theorem lw_p50 : lw_okq (⟨"SownSeedsModel", "whyNotPut", "(III)I"⟩, 31) := ⟨⟨by decide +kernel, by decide +kernel⟩, List.mem_of_getElem? (i := 753) (by decide +kernel), List.mem_of_getElem? (i := 1129) (by decide +kernel), List.mem_of_getElem? (i := 1130) (by decide +kernel)⟩
theorem lw_p51 : lw_okq (⟨"SownSeedsModel", "isWithin", "(II)Z"⟩, 31) := ⟨⟨by decide +kernel, by decide +kernel⟩, List.mem_of_getElem? (i := 753) (by decide +kernel), List.mem_of_getElem? (i := 1133) (by decide +kernel), List.mem_of_getElem? (i := 1134) (by decide +kernel)⟩
theorem lw_p52 : lw_okq (⟨"SownSeedsModel", "whyNotOut", "(II)I"⟩, 31) := ⟨⟨by decide +kernel, by decide +kernel⟩, List.mem_of_getElem? (i := 753) (by decide +kernel), List.mem_of_getElem? (i := 1141) (by decide +kernel), List.mem_of_getElem? (i := 1142) (by decide +kernel)⟩
theorem lw_p53 : lw_okq (⟨"SownSeedsModel", "boxesIn", "(I)I"⟩, 31) := ⟨⟨by decide +kernel, by decide +kernel⟩, List.mem_of_getElem? (i := 753) (by decide +kernel), List.mem_of_getElem? (i := 1154) (by decide +kernel), List.mem_of_getElem? (i := 1155) (by decide +kernel)⟩
theorem lw_p54 : lw_okq (⟨"SownSeedsModel", "depth", "(I)I"⟩, 31) := ⟨⟨by decide +kernel, by decide +kernel⟩, List.mem_of_getElem? (i := 753) (by decide +kernel), List.mem_of_getElem? (i := 1158) (by decide +kernel), List.mem_of_getElem? (i := 1159) (by decide +kernel)⟩
theorem lw_p55 : lw_okq (⟨"SownSeedsModel", "seedsOfAll", "()I"⟩, 31) := ⟨⟨by decide +kernel, by decide +kernel⟩, List.mem_of_getElem? (i := 753) (by decide +kernel), List.mem_of_getElem? (i := 1174) (by decide +kernel), List.mem_of_getElem? (i := 1175) (by decide +kernel)⟩
theorem lw_p56 : lw_okq (⟨"SownSeedsModel", "goers", "()I"⟩, 31) := ⟨⟨by decide +kernel, by decide +kernel⟩, List.mem_of_getElem? (i := 753) (by decide +kernel), List.mem_of_getElem? (i := 1178) (by decide +kernel), List.mem_of_getElem? (i := 1179) (by decide +kernel)⟩
theorem lw_p57 : lw_okq (⟨"SownSeedsModel", "boxesThere", "()I"⟩, 31) := ⟨⟨by decide +kernel, by decide +kernel⟩, List.mem_of_getElem? (i := 753) (by decide +kernel), List.mem_of_getElem? (i := 1182) (by decide +kernel), List.mem_of_getElem? (i := 1183) (by decide +kernel)⟩
def lw_privs_4 : List (MethodName × Nat) := [(⟨"SownSeedsModel", "movesThere", "()I"⟩, 31), (⟨"SownSeedsModel", "loses", "(I)V"⟩, 31), (⟨"SownSeedsModel", "whyNotPut", "(III)I"⟩, 31), (⟨"SownSeedsModel", "isWithin", "(II)Z"⟩, 31), (⟨"SownSeedsModel", "whyNotOut", "(II)I"⟩, 31), (⟨"SownSeedsModel", "boxesIn", "(I)I"⟩, 31), (⟨"SownSeedsModel", "depth", "(I)I"⟩, 31), (⟨"SownSeedsModel", "seedsOfAll", "()I"⟩, 31), (⟨"SownSeedsModel", "goers", "()I"⟩, 31), (⟨"SownSeedsModel", "boxesThere", "()I"⟩, 31)]
theorem lw_r4 : ∀ q ∈ lw_privs_4, lw_okq q := List.forall_mem_cons.mpr ⟨lw_p48, List.forall_mem_cons.mpr ⟨lw_p49, List.forall_mem_cons.mpr ⟨lw_p50, List.forall_mem_cons.mpr ⟨lw_p51, List.forall_mem_cons.mpr ⟨lw_p52, List.forall_mem_cons.mpr ⟨lw_p53, List.forall_mem_cons.mpr ⟨lw_p54, List.forall_mem_cons.mpr ⟨lw_p55, List.forall_mem_cons.mpr ⟨lw_p56, List.forall_mem_cons.mpr ⟨lw_p57, fun _ h => absurd h List.not_mem_nil⟩⟩⟩⟩⟩⟩⟩⟩⟩⟩
def lw_privs : List (MethodName × Nat) := lw_privs_1 ++ (lw_privs_2 ++ (lw_privs_3 ++ (lw_privs_4)))
def lw_tbl : List Cond := k2_sels lw_privs ++ tables_1
theorem lw_privs_ok : ∀ q ∈ lw_privs, lw_okq q := by
  show ∀ q ∈ lw_privs_1 ++ (lw_privs_2 ++ (lw_privs_3 ++ (lw_privs_4))), lw_okq q
  exact List.forall_mem_append.mpr ⟨lw_r1, List.forall_mem_append.mpr ⟨lw_r2, List.forall_mem_append.mpr ⟨lw_r3, lw_r4⟩⟩⟩
-- ===== end of PART A; then your names; then what follows =====
end
section
/-! AN ABSTRACT MACHINE for the claim's classes: tagged numbers, a heap of rows of whole numbers, one step a function.
Tags of values: 0 int, 2 long, 3 a String constant (its number), 8 a long's second half, 9 nothing, 100 + t a reference to a cell of tag t (its place in the heap).
Tags of cells: 0 Board, 1 Box, 2 Boxes, 3 Foresight, 4 Sightings, 5 Text, 6 SownSeeds, 7 SownSeedsModel, 20 int[], 21 boolean[], 22 char[], 23 long[], 24 Board[], 25 Box[], 26 an int[] that is only read. -/
abbrev AV : Type := Nat × Int
abbrev AH : Type := List (Nat × List Int)
abbrev AR : Type := Option (Int × AH)
abbrev LK : Type := Nat × Nat × Nat × Int
abbrev AQ : Type := Nat × Instr × LK × List (Int × Nat)
/-- a function that no unfolding looks into -/
noncomputable def op_ {α : Type} (f : α) : α := Classical.choose (⟨f, rfl⟩ : ∃ g : α, g = f)
theorem op_eq {α : Type} (f : α) : op_ f = f := Classical.choose_spec (⟨f, rfl⟩ : ∃ g : α, g = f)
noncomputable def w32 : Int → Int := op_ (fun x => (Int32.ofInt x).toInt)
theorem w32_def (x : Int) : w32 x = (Int32.ofInt x).toInt := by unfold w32; rw [op_eq]
noncomputable def w64 : Int → Int := op_ (fun x => (Int64.ofInt x).toInt)
theorem w64_def (x : Int) : w64 x = (Int64.ofInt x).toInt := by unfold w64; rw [op_eq]
noncomputable def a_add : Int → Int → Int := op_ (fun x y => w32 (x + y))
theorem a_add_def (x y : Int) : a_add x y = w32 (x + y) := by unfold a_add; rw [op_eq]
noncomputable def a_sub : Int → Int → Int := op_ (fun x y => w32 (x - y))
theorem a_sub_def (x y : Int) : a_sub x y = w32 (x - y) := by unfold a_sub; rw [op_eq]
noncomputable def a_mul : Int → Int → Int := op_ (fun x y => w32 (x * y))
theorem a_mul_def (x y : Int) : a_mul x y = w32 (x * y) := by unfold a_mul; rw [op_eq]
noncomputable def a_neg : Int → Int := op_ (fun x => w32 (-x))
theorem a_neg_def (x : Int) : a_neg x = w32 (-x) := by unfold a_neg; rw [op_eq]
noncomputable def a_div : Int → Int → Int := op_ (fun x y => (Int32.ofInt x / Int32.ofInt y).toInt)
theorem a_div_def (x y : Int) : a_div x y = (Int32.ofInt x / Int32.ofInt y).toInt := by unfold a_div; rw [op_eq]
noncomputable def a_rem : Int → Int → Int := op_ (fun x y => (Int32.ofInt x - Int32.ofInt x / Int32.ofInt y * Int32.ofInt y).toInt)
theorem a_rem_def (x y : Int) : a_rem x y = (Int32.ofInt x - Int32.ofInt x / Int32.ofInt y * Int32.ofInt y).toInt := by unfold a_rem; rw [op_eq]
noncomputable def a_and : Int → Int → Int := op_ (fun x y => (Int32.ofInt x &&& Int32.ofInt y).toInt)
theorem a_and_def (x y : Int) : a_and x y = (Int32.ofInt x &&& Int32.ofInt y).toInt := by unfold a_and; rw [op_eq]
noncomputable def a_or : Int → Int → Int := op_ (fun x y => (Int32.ofInt x ||| Int32.ofInt y).toInt)
theorem a_or_def (x y : Int) : a_or x y = (Int32.ofInt x ||| Int32.ofInt y).toInt := by unfold a_or; rw [op_eq]
noncomputable def a_shl : Int → Int → Int := op_ (fun x y => (Int32.ofInt x <<< (Int32.ofInt y &&& 31)).toInt)
theorem a_shl_def (x y : Int) : a_shl x y = (Int32.ofInt x <<< (Int32.ofInt y &&& 31)).toInt := by unfold a_shl; rw [op_eq]
noncomputable def a_shr : Int → Int → Int := op_ (fun x y => (Int32.ofInt x >>> (Int32.ofInt y &&& 31)).toInt)
theorem a_shr_def (x y : Int) : a_shr x y = (Int32.ofInt x >>> (Int32.ofInt y &&& 31)).toInt := by unfold a_shr; rw [op_eq]
noncomputable def a_ushr : Int → Int → Int := op_ (fun x y => ((Int32.ofInt x).toUInt32 >>> ((Int32.ofInt y).toUInt32 &&& Int32.toUInt32 31)).toInt32.toInt)
theorem a_ushr_def (x y : Int) : a_ushr x y = ((Int32.ofInt x).toUInt32 >>> ((Int32.ofInt y).toUInt32 &&& Int32.toUInt32 31)).toInt32.toInt := by unfold a_ushr; rw [op_eq]
noncomputable def a_i2c : Int → Int := op_ (fun x => ((Int32.ofInt x).toUInt32 % 65536).toInt32.toInt)
theorem a_i2c_def (x : Int) : a_i2c x = ((Int32.ofInt x).toUInt32 % 65536).toInt32.toInt := by unfold a_i2c; rw [op_eq]
noncomputable def a_ladd : Int → Int → Int := op_ (fun x y => w64 (x + y))
theorem a_ladd_def (x y : Int) : a_ladd x y = w64 (x + y) := by unfold a_ladd; rw [op_eq]
noncomputable def a_lmul : Int → Int → Int := op_ (fun x y => w64 (x * y))
theorem a_lmul_def (x y : Int) : a_lmul x y = w64 (x * y) := by unfold a_lmul; rw [op_eq]
noncomputable def a_ldiv : Int → Int → Int := op_ (fun x y => (Int64.ofInt x / Int64.ofInt y).toInt)
theorem a_ldiv_def (x y : Int) : a_ldiv x y = (Int64.ofInt x / Int64.ofInt y).toInt := by unfold a_ldiv; rw [op_eq]
noncomputable def a_lrem : Int → Int → Int := op_ (fun x y => (Int64.ofInt x - Int64.ofInt x / Int64.ofInt y * Int64.ofInt y).toInt)
theorem a_lrem_def (x y : Int) : a_lrem x y = (Int64.ofInt x - Int64.ofInt x / Int64.ofInt y * Int64.ofInt y).toInt := by unfold a_lrem; rw [op_eq]
noncomputable def a_lor : Int → Int → Int := op_ (fun x y => (Int64.ofInt x ||| Int64.ofInt y).toInt)
theorem a_lor_def (x y : Int) : a_lor x y = (Int64.ofInt x ||| Int64.ofInt y).toInt := by unfold a_lor; rw [op_eq]
noncomputable def a_lshl : Int → Int → Int := op_ (fun x y => (Int64.ofInt x <<< ((Int32.ofInt y).toInt64 &&& 63)).toInt)
theorem a_lshl_def (x y : Int) : a_lshl x y = (Int64.ofInt x <<< ((Int32.ofInt y).toInt64 &&& 63)).toInt := by unfold a_lshl; rw [op_eq]
noncomputable def a_max : Int → Int → Int := op_ (fun x y => if x < y then y else x)
theorem a_max_def (x y : Int) : a_max x y = if x < y then y else x := by unfold a_max; rw [op_eq]
noncomputable def a_min : Int → Int → Int := op_ (fun x y => if y < x then y else x)
theorem a_min_def (x y : Int) : a_min x y = if y < x then y else x := by unfold a_min; rw [op_eq]
noncomputable def a_lcmp : Int → Int → Int := op_ (fun x y => if y < x then 1 else if x = y then 0 else -1)
theorem a_lcmp_def (x y : Int) : a_lcmp x y = if y < x then 1 else if x = y then 0 else -1 := by unfold a_lcmp; rw [op_eq]
def nthL {α : Type} : List α → Nat → Option α
  | [], _ => none
  | a :: _, 0 => some a
  | _ :: l, n + 1 => nthL l n
def setL {α : Type} : List α → Nat → α → List α
  | [], _, _ => []
  | _ :: l, 0, v => v :: l
  | a :: l, n + 1, v => a :: setL l n v
def catL : List AV → Nat
  | [] => 0
  | v :: l => cond (Nat.beq v.1 2) (2 + catL l) (1 + catL l)
/-- the row of a cell of this tag -/
def am_cl (t : Nat) (h : AH) (a : Int) : Option (List Int) := if 0 ≤ a then (match h[a.toNat]? with
  | some c => if c.1 = t then some c.2 else none
  | none => none) else none
def rdf (t : Nat) (h : AH) (a : Int) (k : Nat) : Option Int := (am_cl t h a).bind (fun xs => xs[k]?)
def rdr (t : Nat) (h : AH) (a : Int) (k : Nat) : Option Int := (rdf t h a k).bind (fun v => if 0 ≤ v then some v else none)
def rda (t : Nat) (h : AH) (a i : Int) : Option Int := if 0 ≤ i then rdf t h a i.toNat else none
def rdar (t : Nat) (h : AH) (a i : Int) : Option Int := if 0 ≤ i then rdr t h a i.toNat else none
def wrf (t : Nat) (h : AH) (a : Int) (k : Nat) (v : Int) : Option AH := (am_cl t h a).bind (fun xs => if k < xs.length then some (h.set a.toNat (t, xs.set k v)) else none)
def wrfb (t : Nat) (h : AH) (a : Int) (k : Nat) (v : Int) : Option AH := if v = 0 ∨ v = 1 then wrf t h a k v else none
def wra (t : Nat) (h : AH) (a i v : Int) : Option AH := if 0 ≤ i then wrf t h a i.toNat v else none
def wrab (t : Nat) (h : AH) (a i v : Int) : Option AH := if v = 0 ∨ v = 1 then wra t h a i v else none
def wrac (t : Nat) (h : AH) (a i v : Int) : Option AH := if 0 ≤ v ∧ v < 65536 then wra t h a i v else none
def a_cpy (xs ys : List Int) (n : Int) : List Int := xs.take n.toNat ++ ys.drop n.toNat
/-- System.arraycopy(a, 0, b, 0, n) of rows of ints -/
def wrcp (h : AH) (a b n : Int) : Option AH := (am_cl 20 h a).bind (fun xs => (am_cl 20 h b).bind (fun ys => if 0 ≤ n ∧ n.toNat ≤ xs.length ∧ n.toNat ≤ ys.length then some (h.set b.toNat (20, a_cpy xs ys n)) else none))
/-- the String constants of the class Text, by their numbers: plain deep rich barred mean board seeds barn turn -/
def am_str : List (List Int) := [[112, 108, 97, 105, 110], [100, 101, 101, 112], [114, 105, 99, 104], [98, 97, 114, 114, 101, 100], [109, 101, 97, 110], [98, 111, 97, 114, 100], [115, 101, 101, 100, 115], [98, 97, 114, 110], [116, 117, 114, 110]]
def strl (k : Int) : Option Int := (am_str[k.toNat]?).bind (fun s => if 0 ≤ k then some (Int.ofNat s.length) else none)
def strc (k i : Int) : Option Int := (am_str[k.toNat]?).bind (fun s => if 0 ≤ k ∧ 0 ≤ i then s[i.toNat]? else none)
/-- the tags of a kind's fields, in their order -/
def am_ft : Nat → List Nat
  | 0 => [120, 120, 120, 0, 0, 0]
  | 1 => [120, 120, 0, 0, 0, 0]
  | 2 => [125]
  | 3 => [124, 0]
  | 4 => [120, 120, 121, 121, 0]
  | 5 => [122, 0, 0, 0, 0]
  | 6 => [100, 100, 100, 124, 124, 121, 105, 103, 104, 102, 0]
  | 7 => [120, 120, 120, 0, 0, 0, 0, 0, 0, 120, 120, 0, 120, 0, 120, 120, 120, 120, 121, 120, 0, 123, 120, 0, 120, 120, 120, 120, 120, 120, 120]
  | _ => []
def am_ini (t : Nat) : List Int := (am_ft t).map (fun g => cond (Nat.ble 100 g) (-1) 0)
def am_p1 (t : Nat) (st : List AV) (k : Int → List AV → AR) : AR := match st with
  | [] => none
  | v :: r => cond (Nat.beq v.1 t) (k v.2 r) none
def am_ld (t i : Nat) (ls st : List AV) (k : List AV → AR) : AR := match nthL ls i with
  | none => none
  | some v => cond (Nat.beq v.1 t) (k ((t, v.2) :: st)) none
def am_ldl (i : Nat) (ls st : List AV) (k : List AV → AR) : AR := match nthL ls i with
  | none => none
  | some v => match nthL ls (i + 1) with
    | none => none
    | some u => cond (Nat.beq v.1 2 && Nat.beq u.1 8) (k ((2, v.2) :: st)) none
def am_isr (t : Nat) : Bool := Nat.ble 100 t || Nat.beq t 3
def am_lda (i : Nat) (ls st : List AV) (k : List AV → AR) : AR := match nthL ls i with
  | none => none
  | some v => cond (am_isr v.1) (k (v :: st)) none
def am_st (t i : Nat) (ls st : List AV) (k : List AV → List AV → AR) : AR := match st with
  | [] => none
  | v :: r => cond (Nat.beq v.1 t && Nat.ble (i + 1) ls.length) (k (setL ls i v) r) none
def am_stl (i : Nat) (ls st : List AV) (k : List AV → List AV → AR) : AR := match st with
  | [] => none
  | v :: r => cond (Nat.beq v.1 2 && Nat.ble (i + 2) ls.length) (k (setL (setL ls i v) (i + 1) (8, 0)) r) none
def am_sta (i : Nat) (ls st : List AV) (k : List AV → List AV → AR) : AR := match st with
  | [] => none
  | v :: r => cond (am_isr v.1 && Nat.ble (i + 1) ls.length) (k (setL ls i v) r) none
def am_br (c : ClassFile.Cond) (x y : Int) (a b : AR) : AR := match c with
  | .eq => if x = y then a else b
  | .ne => if x = y then b else a
  | .lt => if x < y then a else b
  | .ge => if x < y then b else a
  | .gt => if y < x then a else b
  | .le => if y < x then b else a
def am_sw (k : Nat → AR) (x : Int) : List (Int × Nat) → Nat → AR
  | [], d => k d
  | p :: r, d => if x = p.1 then k p.2 else am_sw k x r d
def am_pop : Nat → List AV → List AV → Option (List AV × List AV)
  | 0, st, acc => some (acc, st)
  | _ + 1, [], _ => none
  | n + 1, v :: st, acc => am_pop n st (v :: acc)
def am_b2 (f : Int → Int → Int) (st : List AV) (k : List AV → AR) : AR := am_p1 0 st (fun y st => am_p1 0 st (fun x st => k ((0, f x y) :: st)))
def am_l2 (f : Int → Int → Int) (st : List AV) (k : List AV → AR) : AR := am_p1 2 st (fun y st => am_p1 2 st (fun x st => k ((2, f x y) :: st)))
/-- the receiver is of this tag (0: there is none) -/
def am_rcv (t : Nat) (as : List AV) : Bool := Nat.beq t 0 || (match as with
  | [] => false
  | v :: _ => Nat.beq v.1 t)
def am_call (call : Nat → List AV → AH → AR) (lk : LK) (st : List AV) (h : AH) (k : List AV → AH → AR) : AR := match am_pop lk.2.1 st [] with
  | none => none
  | some ar => cond (Nat.ble (catL ar.2) 8 && am_rcv lk.2.2.2.toNat ar.1) ((call lk.1 ar.1 h).bind (fun q => cond (Nat.beq lk.2.2.1 9) (k ar.2 q.2) (k ((lk.2.2.1, q.1) :: ar.2) q.2))) none
/-- one step: the instruction, its link, what is on the stack and in the heap -/
noncomputable def stepF (self : Nat → List AV → List AV → AH → AR) (call : Nat → List AV → AH → AR) (ins : Instr) (lk : LK) (prs : List (Int × Nat)) (pc : Nat) (ls st : List AV) (h : AH) : AR :=
  match ins with
  | .iconst n => self (pc + 1) ls ((0, n) :: st) h
  | .bipush n => self (pc + 2) ls ((0, n) :: st) h
  | .sipush n => self (pc + 3) ls ((0, n) :: st) h
  | .ldc _ => cond (Nat.beq lk.1 0) (self (pc + 2) ls ((0, lk.2.2.2) :: st) h) (self (pc + 2) ls ((3, lk.2.2.2) :: st) h)
  | .ldc_w _ => self (pc + 3) ls ((0, lk.2.2.2) :: st) h
  | .ldc2_w _ => self (pc + 3) ls ((2, lk.2.2.2) :: st) h
  | .lconst _ => self (pc + 1) ls ((2, lk.2.2.2) :: st) h
  | .iload_n _ => am_ld 0 lk.1 ls st (fun st => self (pc + 1) ls st h)
  | .iload i => am_ld 0 i ls st (fun st => self (pc + 2) ls st h)
  | .lload_n _ => am_ldl lk.1 ls st (fun st => self (pc + 1) ls st h)
  | .lload i => am_ldl i ls st (fun st => self (pc + 2) ls st h)
  | .aload_n _ => am_lda lk.1 ls st (fun st => self (pc + 1) ls st h)
  | .aload i => am_lda i ls st (fun st => self (pc + 2) ls st h)
  | .istore_n _ => am_st 0 lk.1 ls st (fun ls st => self (pc + 1) ls st h)
  | .istore i => am_st 0 i ls st (fun ls st => self (pc + 2) ls st h)
  | .lstore_n _ => am_stl lk.1 ls st (fun ls st => self (pc + 1) ls st h)
  | .lstore i => am_stl i ls st (fun ls st => self (pc + 2) ls st h)
  | .astore_n _ => am_sta lk.1 ls st (fun ls st => self (pc + 1) ls st h)
  | .astore i => am_sta i ls st (fun ls st => self (pc + 2) ls st h)
  | .iinc i n => am_ld 0 i ls [] (fun q => am_p1 0 q (fun x _ => cond (Nat.ble (i + 1) ls.length) (self (pc + 3) (setL ls i (0, a_add x n)) st h) none))
  | .iadd => am_b2 a_add st (fun st => self (pc + 1) ls st h)
  | .isub => am_b2 a_sub st (fun st => self (pc + 1) ls st h)
  | .imul => am_b2 a_mul st (fun st => self (pc + 1) ls st h)
  | .iand => am_b2 a_and st (fun st => self (pc + 1) ls st h)
  | .ior => am_b2 a_or st (fun st => self (pc + 1) ls st h)
  | .ishl => am_b2 a_shl st (fun st => self (pc + 1) ls st h)
  | .ishr => am_b2 a_shr st (fun st => self (pc + 1) ls st h)
  | .iushr => am_b2 a_ushr st (fun st => self (pc + 1) ls st h)
  | .idiv => am_p1 0 st (fun y st => am_p1 0 st (fun x st => if y = 0 then none else self (pc + 1) ls ((0, a_div x y) :: st) h))
  | .irem => am_p1 0 st (fun y st => am_p1 0 st (fun x st => if y = 0 then none else self (pc + 1) ls ((0, a_rem x y) :: st) h))
  | .ineg => am_p1 0 st (fun x st => self (pc + 1) ls ((0, a_neg x) :: st) h)
  | .i2c => am_p1 0 st (fun x st => self (pc + 1) ls ((0, a_i2c x) :: st) h)
  | .i2l => am_p1 0 st (fun x st => self (pc + 1) ls ((2, x) :: st) h)
  | .l2i => am_p1 2 st (fun x st => self (pc + 1) ls ((0, w32 x) :: st) h)
  | .ladd => am_l2 a_ladd st (fun st => self (pc + 1) ls st h)
  | .lmul => am_l2 a_lmul st (fun st => self (pc + 1) ls st h)
  | .lor => am_l2 a_lor st (fun st => self (pc + 1) ls st h)
  | .ldiv => am_p1 2 st (fun y st => am_p1 2 st (fun x st => if y = 0 then none else self (pc + 1) ls ((2, a_ldiv x y) :: st) h))
  | .lrem => am_p1 2 st (fun y st => am_p1 2 st (fun x st => if y = 0 then none else self (pc + 1) ls ((2, a_lrem x y) :: st) h))
  | .lshl => am_p1 0 st (fun y st => am_p1 2 st (fun x st => self (pc + 1) ls ((2, a_lshl x y) :: st) h))
  | .lcmp => am_p1 2 st (fun y st => am_p1 2 st (fun x st => self (pc + 1) ls ((0, a_lcmp x y) :: st) h))
  | .dup => (match st with
    | [] => none
    | v :: r => cond (Nat.beq v.1 2) none (self (pc + 1) ls (v :: v :: r) h))
  | .dup2 => (match st with
    | v :: u :: r => cond (Nat.beq v.1 2 || Nat.beq u.1 2) none (self (pc + 1) ls (v :: u :: v :: u :: r) h)
    | _ => none)
  | .pop => (match st with
    | [] => none
    | v :: r => cond (Nat.beq v.1 2) none (self (pc + 1) ls r h))
  | .goto _ => self lk.1 ls st h
  | .ifCond c _ => am_p1 0 st (fun x st => am_br c x 0 (self lk.1 ls st h) (self (pc + 3) ls st h))
  | .if_icmp c _ => am_p1 0 st (fun y st => am_p1 0 st (fun x st => am_br c x y (self lk.1 ls st h) (self (pc + 3) ls st h)))
  | .tableswitch _ _ _ _ => am_p1 0 st (fun x st => am_sw (fun t => self t ls st h) x prs lk.1)
  | .lookupswitch _ _ => am_p1 0 st (fun x st => am_sw (fun t => self t ls st h) x prs lk.1)
  | .getfield _ => am_p1 (100 + lk.1) st (fun a st => cond (Nat.ble 100 lk.2.2.1) ((rdr lk.1 h a lk.2.1).bind (fun v => self (pc + 3) ls ((lk.2.2.1, v) :: st) h)) ((rdf lk.1 h a lk.2.1).bind (fun v => self (pc + 3) ls ((0, v) :: st) h)))
  | .putfield _ => cond (Nat.ble 100 lk.2.2.1) (am_p1 lk.2.2.1 st (fun v st => am_p1 (100 + lk.1) st (fun a st => (wrf lk.1 h a lk.2.1 v).bind (fun h => self (pc + 3) ls st h))))
      (am_p1 0 st (fun v st => am_p1 (100 + lk.1) st (fun a st => cond (Nat.beq lk.2.2.1 6) ((wrfb lk.1 h a lk.2.1 v).bind (fun h => self (pc + 3) ls st h)) ((wrf lk.1 h a lk.2.1 v).bind (fun h => self (pc + 3) ls st h)))))
  | .getstatic _ => self (pc + 3) ls ((126, 1) :: st) h
  | .iaload => am_p1 0 st (fun i st => am_p1 (100 + lk.1) st (fun a st => (rda lk.1 h a i).bind (fun v => self (pc + 1) ls ((0, v) :: st) h)))
  | .baload => am_p1 0 st (fun i st => am_p1 121 st (fun a st => (rda 21 h a i).bind (fun v => self (pc + 1) ls ((0, v) :: st) h)))
  | .caload => am_p1 0 st (fun i st => am_p1 122 st (fun a st => (rda 22 h a i).bind (fun v => self (pc + 1) ls ((0, v) :: st) h)))
  | .laload => am_p1 0 st (fun i st => am_p1 123 st (fun a st => (rda 23 h a i).bind (fun v => self (pc + 1) ls ((2, v) :: st) h)))
  | .aaload => am_p1 0 st (fun i st => am_p1 (100 + lk.1) st (fun a st => (rdar lk.1 h a i).bind (fun v => self (pc + 1) ls ((lk.2.1, v) :: st) h)))
  | .iastore => am_p1 0 st (fun v st => am_p1 0 st (fun i st => am_p1 120 st (fun a st => (wra 20 h a i v).bind (fun h => self (pc + 1) ls st h))))
  | .bastore => am_p1 0 st (fun v st => am_p1 0 st (fun i st => am_p1 121 st (fun a st => (wrab 21 h a i v).bind (fun h => self (pc + 1) ls st h))))
  | .castore => am_p1 0 st (fun v st => am_p1 0 st (fun i st => am_p1 122 st (fun a st => (wrac 22 h a i v).bind (fun h => self (pc + 1) ls st h))))
  | .lastore => am_p1 2 st (fun v st => am_p1 0 st (fun i st => am_p1 123 st (fun a st => (wra 23 h a i v).bind (fun h => self (pc + 1) ls st h))))
  | .aastore => am_p1 lk.2.1 st (fun v st => am_p1 0 st (fun i st => am_p1 (100 + lk.1) st (fun a st => (wra lk.1 h a i v).bind (fun h => self (pc + 1) ls st h))))
  | .arraylength => am_p1 126 st (fun a st => (am_cl 26 h a).bind (fun xs => self (pc + 1) ls ((0, Int.ofNat xs.length) :: st) h))
  | .new _ => self (pc + 3) ls ((100 + lk.1, Int.ofNat h.length) :: st) (h ++ [(lk.1, am_ini lk.1)])
  | .newarray _ => am_p1 0 st (fun n st => if 0 ≤ n ∧ n ≤ 1000 then self (pc + 2) ls ((100 + lk.1, Int.ofNat h.length) :: st) (h ++ [(lk.1, List.replicate n.toNat 0)]) else none)
  | .anewarray _ => am_p1 0 st (fun n st => if 0 ≤ n ∧ n ≤ 1000 then self (pc + 3) ls ((100 + lk.1, Int.ofNat h.length) :: st) (h ++ [(lk.1, List.replicate n.toNat (-1))]) else none)
  | .invokestatic _ => cond (Nat.beq lk.1 1003)
      (am_p1 0 st (fun n st => am_p1 0 st (fun dp st => am_p1 120 st (fun b st => am_p1 0 st (fun sp st => am_p1 120 st (fun a st => cond (Nat.ble (catL st) 8) (if sp = 0 ∧ dp = 0 then (wrcp h a b n).bind (fun h => self (pc + 3) ls st h) else none) none))))))
      (cond (Nat.beq lk.1 1001) (am_b2 a_max st (fun st => cond (Nat.ble (catL st) 8) (self (pc + 3) ls st h) none)) (cond (Nat.beq lk.1 1002) (am_b2 a_min st (fun st => cond (Nat.ble (catL st) 8) (self (pc + 3) ls st h) none))
        (am_call call lk st h (fun st h => self (pc + 3) ls st h))))
  | .invokevirtual _ => cond (Nat.beq lk.1 1004) (am_p1 3 st (fun k st => cond (Nat.ble (catL st) 8) ((strl k).bind (fun n => self (pc + 3) ls ((0, n) :: st) h)) none))
      (cond (Nat.beq lk.1 1005) (am_p1 0 st (fun i st => am_p1 3 st (fun k st => cond (Nat.ble (catL st) 8) ((strc k i).bind (fun n => self (pc + 3) ls ((0, n) :: st) h)) none)))
        (am_call call lk st h (fun st h => self (pc + 3) ls st h)))
  | .invokespecial _ => cond (Nat.beq lk.1 999) (am_p1 lk.2.1 st (fun _ st => cond (Nat.ble (catL st) 8) (self (pc + 3) ls st h) none))
      (am_call call lk st h (fun st h => self (pc + 3) ls st h))
  | .ireturn => am_p1 0 st (fun x st => (match st with
    | [] => cond (Nat.beq lk.1 6) (if x = 0 ∨ x = 1 then some (x, h) else none) (some (x, h))
    | _ :: _ => none))
  | .lreturn => am_p1 2 st (fun x st => (match st with
    | [] => some (x, h)
    | _ :: _ => none))
  | .areturn => am_p1 lk.1 st (fun x st => (match st with
    | [] => some (x, h)
    | _ :: _ => none))
  | .return_ => (match st with
    | [] => some (0, h)
    | _ :: _ => none)
  | _ => none
def fetL : List AQ → Nat → Option (Instr × LK × List (Int × Nat))
  | [], _ => none
  | q :: r, pc => cond (Nat.beq q.1 pc) (some q.2) (fetL r pc)
/-- arguments laid out as locals: a long takes two places -/
def argL : List AV → List AV
  | [] => []
  | v :: r => cond (Nat.beq v.1 2) (v :: (8, 0) :: argL r) (v :: argL r)
def padL : Nat → List AV → List AV
  | 0, _ => []
  | n + 1, [] => (9, 0) :: padL n []
  | n + 1, v :: r => v :: padL n r
end
section
/-! The methods as rows of the abstract machine: printed by program (wip/tools/prog.py) out of the claim's listing. -/
abbrev m_Bd_init : Nat := 0
abbrev m_Bd_setUp : Nat := 1
abbrev m_Bd_copy : Nat := 2
abbrev m_Bd_houses : Nat := 3
abbrev m_Bd_has : Nat := 4
abbrev m_Bd_sideOf : Nat := 5
abbrev m_Bd_moves : Nat := 6
abbrev m_Bd_turn : Nat := 7
abbrev m_Bd_barn : Nat := 8
abbrev m_Bd_lead : Nat := 9
abbrev m_Bd_kind : Nat := 10
abbrev m_Bd_seeds : Nat := 11
abbrev m_Bd_lifted : Nat := 12
abbrev m_Bd_takes : Nat := 13
abbrev m_Bd_yields : Nat := 14
abbrev m_Bd_goes : Nat := 15
abbrev m_Bd_goingBits : Nat := 16
abbrev m_Bd_allSeeds : Nat := 17
abbrev m_Bd_setKind : Nat := 18
abbrev m_Bd_setSeeds : Nat := 19
abbrev m_Bd_setBarn : Nat := 20
abbrev m_Bd_setTurn : Nat := 21
abbrev m_Bd_give : Nat := 22
abbrev m_Bd_exchangeKinds : Nat := 23
abbrev m_Bd_sow : Nat := 24
abbrev m_Bd_spread : Nat := 25
abbrev m_Bd_nextTaker : Nat := 26
abbrev m_Bd_reap : Nat := 27
abbrev m_Bx_init : Nat := 28
abbrev m_Bx_push : Nat := 29
abbrev m_Bx_hasOnTop : Nat := 30
abbrev m_Bx_pullBox : Nat := 31
abbrev m_Bx_numbers : Nat := 32
abbrev m_Bx_sum : Nat := 33
abbrev m_Bx_houseBits : Nat := 34
abbrev m_Bs_init : Nat := 35
abbrev m_Bs_has : Nat := 36
abbrev m_Bs_isThere : Nat := 37
abbrev m_Bs_thereBits : Nat := 38
abbrev m_Bs_clear : Nat := 39
abbrev m_Bs_make : Nat := 40
abbrev m_Bs_remove : Nat := 41
abbrev m_Bs_lay : Nat := 42
abbrev m_Bs_lift : Nat := 43
abbrev m_Bs_pour : Nat := 44
abbrev m_Bs_throughout : Nat := 45
abbrev m_Bs_withInner : Nat := 46
abbrev m_Bs_stepsUp : Nat := 47
abbrev m_Bs_holdSame : Nat := 48
abbrev m_Bs_holdSameFrom : Nat := 49
abbrev m_Bs_isSame : Nat := 50
abbrev m_Fo_init : Nat := 51
abbrev m_Fo_broughtBy : Nat := 52
abbrev m_Fo_bestLead : Nat := 53
abbrev m_Fo_lineMove : Nat := 54
abbrev m_Fo_search : Nat := 55
abbrev m_Fo_rashBoard : Nat := 56
abbrev m_Fo_rashHouse : Nat := 57
abbrev m_Fo_bestGift : Nat := 58
abbrev m_Fo_odds : Nat := 59
abbrev m_Fo_leading : Nat := 60
abbrev m_Fo_commonDivisor : Nat := 61
abbrev m_Ki_isUnder : Nat := 62
abbrev m_Ki_lifted : Nat := 63
abbrev m_Ki_takes : Nat := 64
abbrev m_Ki_yields : Nat := 65
abbrev m_Si_init : Nat := 66
abbrev m_Si_add : Nat := 67
abbrev m_Si_clear : Nat := 68
abbrev m_Si_size : Nat := 69
abbrev m_Si_possible : Nat := 70
abbrev m_Si_fits : Nat := 71
abbrev m_Si_question : Nat := 72
abbrev m_Si_greatestPart : Nat := 73
abbrev m_Si_doAlike : Nat := 74
abbrev m_Te_init : Nat := 75
abbrev m_Te_add : Nat := 76
abbrev m_Te_clear : Nat := 77
abbrev m_Te_length : Nat := 78
abbrev m_Te_clauses : Nat := 79
abbrev m_Te_read : Nat := 80
abbrev m_Te_readClause : Nat := 81
abbrev m_Te_readFirst : Nat := 82
abbrev m_Te_readSecond : Nat := 83
abbrev m_Te_perform : Nat := 84
abbrev m_Te_readNumber : Nat := 85
abbrev m_Te_word : Nat := 86
abbrev m_Te_isWord : Nat := 87
abbrev m_Te_advance : Nat := 88
abbrev m_Te_isAt : Nat := 89
abbrev m_Ss_init : Nat := 90
abbrev m_Ss_write : Nat := 91
abbrev m_Ss_erase : Nat := 92
abbrev m_Ss_fault : Nat := 93
abbrev m_Ss_board : Nat := 94
abbrev m_Ss_house : Nat := 95
abbrev m_Ss_as : Nat := 96
abbrev m_Ss_move : Nat := 97
abbrev m_Ss_drop : Nat := 98
abbrev m_Ss_swap : Nat := 99
abbrev m_Ss_undo : Nat := 100
abbrev m_Ss_keep : Nat := 101
abbrev m_Ss_back : Nat := 102
abbrev m_Ss_brings : Nat := 103
abbrev m_Ss_best : Nat := 104
abbrev m_Ss_rash : Nat := 105
abbrev m_Ss_over : Nat := 106
abbrev m_Ss_gift : Nat := 107
abbrev m_Ss_luck : Nat := 108
abbrev m_Ss_seen : Nat := 109
abbrev m_Ss_forget : Nat := 110
abbrev m_Ss_kinds : Nat := 111
abbrev m_Ss_ask : Nat := 112
abbrev m_Ss_box : Nat := 113
abbrev m_Ss_put : Nat := 114
abbrev m_Ss_take : Nat := 115
abbrev m_Ss_spill : Nat := 116
abbrev m_Ss_deep : Nat := 117
abbrev m_Ss_alike : Nat := 118
abbrev m_Ss_lose : Nat := 119
abbrev m_Ss_count : Nat := 120
abbrev m_Ss_isWithin : Nat := 121
abbrev m_Ss_remember : Nat := 122
abbrev m_Mo_in : Nat := 123
abbrev m_Mo_init : Nat := 124
abbrev m_Mo_atFirst : Nat := 125
abbrev m_Mo_write : Nat := 126
abbrev m_Mo_erase : Nat := 127
abbrev m_Mo_letterAt : Nat := 128
abbrev m_Mo_word : Nat := 129
abbrev m_Mo_said : Nat := 130
abbrev m_Mo_looksOn : Nat := 131
abbrev m_Mo_must : Nat := 132
abbrev m_Mo_number : Nat := 133
abbrev m_Mo_reads : Nat := 134
abbrev m_Mo_clauses : Nat := 135
abbrev m_Mo_fault : Nat := 136
abbrev m_Mo_board : Nat := 137
abbrev m_Mo_isHouse : Nat := 138
abbrev m_Mo_liftsOf : Nat := 139
abbrev m_Mo_takesOne : Nat := 140
abbrev m_Mo_yieldsAll : Nat := 141
abbrev m_Mo_lifts : Nat := 142
abbrev m_Mo_sideOf : Nat := 143
abbrev m_Mo_canGo : Nat := 144
abbrev m_Mo_house : Nat := 145
abbrev m_Mo_as : Nat := 146
abbrev m_Mo_next : Nat := 147
abbrev m_Mo_ahead : Nat := 148
abbrev m_Mo_anyTakes : Nat := 149
abbrev m_Mo_goes : Nat := 150
abbrev m_Mo_notes : Nat := 151
abbrev m_Mo_move : Nat := 152
abbrev m_Mo_drop : Nat := 153
abbrev m_Mo_swap : Nat := 154
abbrev m_Mo_undo : Nat := 155
abbrev m_Mo_keep : Nat := 156
abbrev m_Mo_back : Nat := 157
abbrev m_Mo_asides : Nat := 158
abbrev m_Mo_backs : Nat := 159
abbrev m_Mo_lead : Nat := 160
abbrev m_Mo_wouldBring : Nat := 161
abbrev m_Mo_brings : Nat := 162
abbrev m_Mo_noted : Nat := 163
abbrev m_Mo_begins : Nat := 164
abbrev m_Mo_laysBack : Nat := 165
abbrev m_Mo_ends : Nat := 166
abbrev m_Mo_looksAhead : Nat := 167
abbrev m_Mo_best : Nat := 168
abbrev m_Mo_rashOne : Nat := 169
abbrev m_Mo_rashOnes : Nat := 170
abbrev m_Mo_rash : Nat := 171
abbrev m_Mo_over : Nat := 172
abbrev m_Mo_gift : Nat := 173
abbrev m_Mo_movesThere : Nat := 174
abbrev m_Mo_luck : Nat := 175
abbrev m_Mo_part : Nat := 176
abbrev m_Mo_seen : Nat := 177
abbrev m_Mo_forget : Nat := 178
abbrev m_Mo_isOf : Nat := 179
abbrev m_Mo_kinds : Nat := 180
abbrev m_Mo_ask : Nat := 181
abbrev m_Mo_noBoxes : Nat := 182
abbrev m_Mo_isBox : Nat := 183
abbrev m_Mo_loses : Nat := 184
abbrev m_Mo_box : Nat := 185
abbrev m_Mo_isWithin : Nat := 186
abbrev m_Mo_whyNotPut : Nat := 187
abbrev m_Mo_put : Nat := 188
abbrev m_Mo_whyNotOut : Nat := 189
abbrev m_Mo_take : Nat := 190
abbrev m_Mo_spill : Nat := 191
abbrev m_Mo_boxesIn : Nat := 192
abbrev m_Mo_depth : Nat := 193
abbrev m_Mo_deep : Nat := 194
abbrev m_Mo_alike : Nat := 195
abbrev m_Mo_lose : Nat := 196
abbrev m_Mo_seedsOfAll : Nat := 197
abbrev m_Mo_goers : Nat := 198
abbrev m_Mo_boxesThere : Nat := 199
abbrev m_Mo_count : Nat := 200
abbrev m_Jd_bitCount : Nat := 201
abbrev m_La_law : Nat := 202
def pg_Bd_init : List AQ := [(0, .aload_n 0, (0, 0, 0, 0), []),
  (1, .invokespecial 3, (999, 100, 9, 0), []),
  (4, .aload_n 0, (0, 0, 0, 0), []),
  (5, .bipush 10, (0, 0, 0, 0), []),
  (7, .newarray .int, (20, 0, 0, 0), []),
  (9, .putfield 11, (0, 0, 120, 0), []),
  (12, .aload_n 0, (0, 0, 0, 0), []),
  (13, .bipush 10, (0, 0, 0, 0), []),
  (15, .newarray .int, (20, 0, 0, 0), []),
  (17, .putfield 15, (0, 1, 120, 0), []),
  (20, .aload_n 0, (0, 0, 0, 0), []),
  (21, .iconst 2, (0, 0, 0, 0), []),
  (22, .newarray .int, (20, 0, 0, 0), []),
  (24, .putfield 18, (0, 2, 120, 0), []),
  (27, .aload_n 0, (0, 0, 0, 0), []),
  (28, .iconst 3, (0, 0, 0, 0), []),
  (29, .invokevirtual 21, (1, 2, 9, 100), []),
  (32, .return_, (0, 0, 0, 0), [])]
def pg_Bd_setUp : List AQ := [(0, .aload_n 0, (0, 0, 0, 0), []),
  (1, .iconst 2, (0, 0, 0, 0), []),
  (2, .iload_n 1, (1, 0, 0, 0), []),
  (3, .iconst 5, (0, 0, 0, 0), []),
  (4, .invokestatic 25, (1002, 2, 0, 0), []),
  (7, .invokestatic 31, (1001, 2, 0, 0), []),
  (10, .putfield 34, (0, 3, 0, 0), []),
  (13, .iconst 0, (0, 0, 0, 0), []),
  (14, .istore_n 2, (2, 0, 0, 0), []),
  (15, .iload_n 2, (2, 0, 0, 0), []),
  (16, .bipush 10, (0, 0, 0, 0), []),
  (18, .if_icmp .ge 23, (41, 0, 0, 0), []),
  (21, .aload_n 0, (0, 0, 0, 0), []),
  (22, .getfield 11, (0, 0, 120, 0), []),
  (25, .iload_n 2, (2, 0, 0, 0), []),
  (26, .iconst 0, (0, 0, 0, 0), []),
  (27, .iastore, (0, 0, 0, 0), []),
  (28, .aload_n 0, (0, 0, 0, 0), []),
  (29, .getfield 15, (0, 1, 120, 0), []),
  (32, .iload_n 2, (2, 0, 0, 0), []),
  (33, .iconst 4, (0, 0, 0, 0), []),
  (34, .iastore, (0, 0, 0, 0), []),
  (35, .iinc 2 1, (0, 0, 0, 0), []),
  (38, .goto (-23), (15, 0, 0, 0), []),
  (41, .aload_n 0, (0, 0, 0, 0), []),
  (42, .getfield 18, (0, 2, 120, 0), []),
  (45, .iconst 0, (0, 0, 0, 0), []),
  (46, .iconst 0, (0, 0, 0, 0), []),
  (47, .iastore, (0, 0, 0, 0), []),
  (48, .aload_n 0, (0, 0, 0, 0), []),
  (49, .getfield 18, (0, 2, 120, 0), []),
  (52, .iconst 1, (0, 0, 0, 0), []),
  (53, .iconst 0, (0, 0, 0, 0), []),
  (54, .iastore, (0, 0, 0, 0), []),
  (55, .aload_n 0, (0, 0, 0, 0), []),
  (56, .iconst 0, (0, 0, 0, 0), []),
  (57, .putfield 40, (0, 4, 0, 0), []),
  (60, .aload_n 0, (0, 0, 0, 0), []),
  (61, .iconst 0, (0, 0, 0, 0), []),
  (62, .putfield 43, (0, 5, 0, 0), []),
  (65, .return_, (0, 0, 0, 0), [])]
def pg_Bd_copy : List AQ := [(0, .aload_n 1, (1, 0, 0, 0), []),
  (1, .getfield 11, (0, 0, 120, 0), []),
  (4, .iconst 0, (0, 0, 0, 0), []),
  (5, .aload_n 0, (0, 0, 0, 0), []),
  (6, .getfield 11, (0, 0, 120, 0), []),
  (9, .iconst 0, (0, 0, 0, 0), []),
  (10, .bipush 10, (0, 0, 0, 0), []),
  (12, .invokestatic 46, (1003, 5, 9, 0), []),
  (15, .aload_n 1, (1, 0, 0, 0), []),
  (16, .getfield 15, (0, 1, 120, 0), []),
  (19, .iconst 0, (0, 0, 0, 0), []),
  (20, .aload_n 0, (0, 0, 0, 0), []),
  (21, .getfield 15, (0, 1, 120, 0), []),
  (24, .iconst 0, (0, 0, 0, 0), []),
  (25, .bipush 10, (0, 0, 0, 0), []),
  (27, .invokestatic 46, (1003, 5, 9, 0), []),
  (30, .aload_n 0, (0, 0, 0, 0), []),
  (31, .getfield 18, (0, 2, 120, 0), []),
  (34, .iconst 0, (0, 0, 0, 0), []),
  (35, .aload_n 1, (1, 0, 0, 0), []),
  (36, .getfield 18, (0, 2, 120, 0), []),
  (39, .iconst 0, (0, 0, 0, 0), []),
  (40, .iaload, (20, 0, 0, 0), []),
  (41, .iastore, (0, 0, 0, 0), []),
  (42, .aload_n 0, (0, 0, 0, 0), []),
  (43, .getfield 18, (0, 2, 120, 0), []),
  (46, .iconst 1, (0, 0, 0, 0), []),
  (47, .aload_n 1, (1, 0, 0, 0), []),
  (48, .getfield 18, (0, 2, 120, 0), []),
  (51, .iconst 1, (0, 0, 0, 0), []),
  (52, .iaload, (20, 0, 0, 0), []),
  (53, .iastore, (0, 0, 0, 0), []),
  (54, .aload_n 0, (0, 0, 0, 0), []),
  (55, .aload_n 1, (1, 0, 0, 0), []),
  (56, .getfield 34, (0, 3, 0, 0), []),
  (59, .putfield 34, (0, 3, 0, 0), []),
  (62, .aload_n 0, (0, 0, 0, 0), []),
  (63, .aload_n 1, (1, 0, 0, 0), []),
  (64, .getfield 40, (0, 4, 0, 0), []),
  (67, .putfield 40, (0, 4, 0, 0), []),
  (70, .aload_n 0, (0, 0, 0, 0), []),
  (71, .aload_n 1, (1, 0, 0, 0), []),
  (72, .getfield 43, (0, 5, 0, 0), []),
  (75, .putfield 43, (0, 5, 0, 0), []),
  (78, .return_, (0, 0, 0, 0), [])]
def pg_Bd_houses : List AQ := [(0, .iconst 2, (0, 0, 0, 0), []),
  (1, .aload_n 0, (0, 0, 0, 0), []),
  (2, .getfield 34, (0, 3, 0, 0), []),
  (5, .imul, (0, 0, 0, 0), []),
  (6, .ireturn, (0, 0, 0, 0), [])]
def pg_Bd_has : List AQ := [(0, .iload_n 1, (1, 0, 0, 0), []),
  (1, .ifCond .lt 15, (16, 0, 0, 0), []),
  (4, .iload_n 1, (1, 0, 0, 0), []),
  (5, .aload_n 0, (0, 0, 0, 0), []),
  (6, .invokevirtual 52, (3, 1, 0, 100), []),
  (9, .if_icmp .ge 7, (16, 0, 0, 0), []),
  (12, .iconst 1, (0, 0, 0, 0), []),
  (13, .goto 4, (17, 0, 0, 0), []),
  (16, .iconst 0, (0, 0, 0, 0), []),
  (17, .ireturn, (6, 0, 0, 0), [])]
def pg_Bd_sideOf : List AQ := [(0, .iload_n 1, (1, 0, 0, 0), []),
  (1, .aload_n 0, (0, 0, 0, 0), []),
  (2, .getfield 34, (0, 3, 0, 0), []),
  (5, .if_icmp .ge 7, (12, 0, 0, 0), []),
  (8, .iconst 0, (0, 0, 0, 0), []),
  (9, .goto 4, (13, 0, 0, 0), []),
  (12, .iconst 1, (0, 0, 0, 0), []),
  (13, .ireturn, (0, 0, 0, 0), [])]
def pg_Bd_moves : List AQ := [(0, .aload_n 0, (0, 0, 0, 0), []),
  (1, .getfield 43, (0, 5, 0, 0), []),
  (4, .ireturn, (0, 0, 0, 0), [])]
def pg_Bd_turn : List AQ := [(0, .aload_n 0, (0, 0, 0, 0), []),
  (1, .getfield 40, (0, 4, 0, 0), []),
  (4, .ireturn, (0, 0, 0, 0), [])]
def pg_Bd_barn : List AQ := [(0, .aload_n 0, (0, 0, 0, 0), []),
  (1, .getfield 18, (0, 2, 120, 0), []),
  (4, .iload_n 1, (1, 0, 0, 0), []),
  (5, .iaload, (20, 0, 0, 0), []),
  (6, .ireturn, (0, 0, 0, 0), [])]
def pg_Bd_lead : List AQ := [(0, .iload_n 1, (1, 0, 0, 0), []),
  (1, .ifCond .ne 19, (20, 0, 0, 0), []),
  (4, .aload_n 0, (0, 0, 0, 0), []),
  (5, .getfield 18, (0, 2, 120, 0), []),
  (8, .iconst 0, (0, 0, 0, 0), []),
  (9, .iaload, (20, 0, 0, 0), []),
  (10, .aload_n 0, (0, 0, 0, 0), []),
  (11, .getfield 18, (0, 2, 120, 0), []),
  (14, .iconst 1, (0, 0, 0, 0), []),
  (15, .iaload, (20, 0, 0, 0), []),
  (16, .isub, (0, 0, 0, 0), []),
  (17, .goto 16, (33, 0, 0, 0), []),
  (20, .aload_n 0, (0, 0, 0, 0), []),
  (21, .getfield 18, (0, 2, 120, 0), []),
  (24, .iconst 1, (0, 0, 0, 0), []),
  (25, .iaload, (20, 0, 0, 0), []),
  (26, .aload_n 0, (0, 0, 0, 0), []),
  (27, .getfield 18, (0, 2, 120, 0), []),
  (30, .iconst 0, (0, 0, 0, 0), []),
  (31, .iaload, (20, 0, 0, 0), []),
  (32, .isub, (0, 0, 0, 0), []),
  (33, .ireturn, (0, 0, 0, 0), [])]
def pg_Bd_kind : List AQ := [(0, .aload_n 0, (0, 0, 0, 0), []),
  (1, .getfield 11, (0, 0, 120, 0), []),
  (4, .iload_n 1, (1, 0, 0, 0), []),
  (5, .iaload, (20, 0, 0, 0), []),
  (6, .ireturn, (0, 0, 0, 0), [])]
def pg_Bd_seeds : List AQ := [(0, .aload_n 0, (0, 0, 0, 0), []),
  (1, .getfield 15, (0, 1, 120, 0), []),
  (4, .iload_n 1, (1, 0, 0, 0), []),
  (5, .iaload, (20, 0, 0, 0), []),
  (6, .ireturn, (0, 0, 0, 0), [])]
def pg_Bd_lifted : List AQ := [(0, .aload_n 0, (0, 0, 0, 0), []),
  (1, .getfield 11, (0, 0, 120, 0), []),
  (4, .iload_n 1, (1, 0, 0, 0), []),
  (5, .iaload, (20, 0, 0, 0), []),
  (6, .aload_n 0, (0, 0, 0, 0), []),
  (7, .getfield 15, (0, 1, 120, 0), []),
  (10, .iload_n 1, (1, 0, 0, 0), []),
  (11, .iaload, (20, 0, 0, 0), []),
  (12, .invokestatic 56, (63, 2, 0, 0), []),
  (15, .ireturn, (0, 0, 0, 0), [])]
def pg_Bd_takes : List AQ := [(0, .aload_n 0, (0, 0, 0, 0), []),
  (1, .getfield 11, (0, 0, 120, 0), []),
  (4, .iload_n 1, (1, 0, 0, 0), []),
  (5, .iaload, (20, 0, 0, 0), []),
  (6, .aload_n 0, (0, 0, 0, 0), []),
  (7, .getfield 15, (0, 1, 120, 0), []),
  (10, .iload_n 1, (1, 0, 0, 0), []),
  (11, .iaload, (20, 0, 0, 0), []),
  (12, .invokestatic 59, (64, 2, 0, 0), []),
  (15, .ireturn, (6, 0, 0, 0), [])]
def pg_Bd_yields : List AQ := [(0, .aload_n 0, (0, 0, 0, 0), []),
  (1, .getfield 11, (0, 0, 120, 0), []),
  (4, .iload_n 1, (1, 0, 0, 0), []),
  (5, .iaload, (20, 0, 0, 0), []),
  (6, .aload_n 0, (0, 0, 0, 0), []),
  (7, .getfield 15, (0, 1, 120, 0), []),
  (10, .iload_n 1, (1, 0, 0, 0), []),
  (11, .iaload, (20, 0, 0, 0), []),
  (12, .invokestatic 63, (65, 2, 0, 0), []),
  (15, .ireturn, (6, 0, 0, 0), [])]
def pg_Bd_goes : List AQ := [(0, .aload_n 0, (0, 0, 0, 0), []),
  (1, .iload_n 1, (1, 0, 0, 0), []),
  (2, .invokevirtual 66, (5, 2, 0, 100), []),
  (5, .aload_n 0, (0, 0, 0, 0), []),
  (6, .getfield 40, (0, 4, 0, 0), []),
  (9, .if_icmp .ne 16, (25, 0, 0, 0), []),
  (12, .aload_n 0, (0, 0, 0, 0), []),
  (13, .iload_n 1, (1, 0, 0, 0), []),
  (14, .invokevirtual 70, (12, 2, 0, 100), []),
  (17, .iconst 1, (0, 0, 0, 0), []),
  (18, .if_icmp .lt 7, (25, 0, 0, 0), []),
  (21, .iconst 1, (0, 0, 0, 0), []),
  (22, .goto 4, (26, 0, 0, 0), []),
  (25, .iconst 0, (0, 0, 0, 0), []),
  (26, .ireturn, (6, 0, 0, 0), [])]
def pg_Bd_goingBits : List AQ := [(0, .iconst 0, (0, 0, 0, 0), []),
  (1, .istore_n 1, (1, 0, 0, 0), []),
  (2, .iconst 0, (0, 0, 0, 0), []),
  (3, .istore_n 2, (2, 0, 0, 0), []),
  (4, .iload_n 2, (2, 0, 0, 0), []),
  (5, .aload_n 0, (0, 0, 0, 0), []),
  (6, .invokevirtual 52, (3, 1, 0, 100), []),
  (9, .if_icmp .ge 27, (36, 0, 0, 0), []),
  (12, .iload_n 1, (1, 0, 0, 0), []),
  (13, .aload_n 0, (0, 0, 0, 0), []),
  (14, .iload_n 2, (2, 0, 0, 0), []),
  (15, .invokevirtual 72, (15, 2, 0, 100), []),
  (18, .ifCond .eq 9, (27, 0, 0, 0), []),
  (21, .iconst 1, (0, 0, 0, 0), []),
  (22, .iload_n 2, (2, 0, 0, 0), []),
  (23, .ishl, (0, 0, 0, 0), []),
  (24, .goto 4, (28, 0, 0, 0), []),
  (27, .iconst 0, (0, 0, 0, 0), []),
  (28, .ior, (0, 0, 0, 0), []),
  (29, .istore_n 1, (1, 0, 0, 0), []),
  (30, .iinc 2 1, (0, 0, 0, 0), []),
  (33, .goto (-29), (4, 0, 0, 0), []),
  (36, .iload_n 1, (1, 0, 0, 0), []),
  (37, .ireturn, (0, 0, 0, 0), [])]
def pg_Bd_allSeeds : List AQ := [(0, .iconst 0, (0, 0, 0, 0), []),
  (1, .istore_n 1, (1, 0, 0, 0), []),
  (2, .iconst 0, (0, 0, 0, 0), []),
  (3, .istore_n 2, (2, 0, 0, 0), []),
  (4, .iload_n 2, (2, 0, 0, 0), []),
  (5, .aload_n 0, (0, 0, 0, 0), []),
  (6, .invokevirtual 52, (3, 1, 0, 100), []),
  (9, .if_icmp .ge 18, (27, 0, 0, 0), []),
  (12, .iload_n 1, (1, 0, 0, 0), []),
  (13, .aload_n 0, (0, 0, 0, 0), []),
  (14, .getfield 15, (0, 1, 120, 0), []),
  (17, .iload_n 2, (2, 0, 0, 0), []),
  (18, .iaload, (20, 0, 0, 0), []),
  (19, .iadd, (0, 0, 0, 0), []),
  (20, .istore_n 1, (1, 0, 0, 0), []),
  (21, .iinc 2 1, (0, 0, 0, 0), []),
  (24, .goto (-20), (4, 0, 0, 0), []),
  (27, .iload_n 1, (1, 0, 0, 0), []),
  (28, .ireturn, (0, 0, 0, 0), [])]
def pg_Bd_setKind : List AQ := [(0, .aload_n 0, (0, 0, 0, 0), []),
  (1, .getfield 11, (0, 0, 120, 0), []),
  (4, .iload_n 1, (1, 0, 0, 0), []),
  (5, .iload_n 2, (2, 0, 0, 0), []),
  (6, .iastore, (0, 0, 0, 0), []),
  (7, .return_, (0, 0, 0, 0), [])]
def pg_Bd_setSeeds : List AQ := [(0, .aload_n 0, (0, 0, 0, 0), []),
  (1, .getfield 15, (0, 1, 120, 0), []),
  (4, .iload_n 1, (1, 0, 0, 0), []),
  (5, .iload_n 2, (2, 0, 0, 0), []),
  (6, .iastore, (0, 0, 0, 0), []),
  (7, .return_, (0, 0, 0, 0), [])]
def pg_Bd_setBarn : List AQ := [(0, .aload_n 0, (0, 0, 0, 0), []),
  (1, .getfield 18, (0, 2, 120, 0), []),
  (4, .iload_n 1, (1, 0, 0, 0), []),
  (5, .iload_n 2, (2, 0, 0, 0), []),
  (6, .iastore, (0, 0, 0, 0), []),
  (7, .return_, (0, 0, 0, 0), [])]
def pg_Bd_setTurn : List AQ := [(0, .aload_n 0, (0, 0, 0, 0), []),
  (1, .iload_n 1, (1, 0, 0, 0), []),
  (2, .putfield 40, (0, 4, 0, 0), []),
  (5, .return_, (0, 0, 0, 0), [])]
def pg_Bd_give : List AQ := [(0, .aload_n 0, (0, 0, 0, 0), []),
  (1, .getfield 15, (0, 1, 120, 0), []),
  (4, .iload_n 1, (1, 0, 0, 0), []),
  (5, .aload_n 0, (0, 0, 0, 0), []),
  (6, .getfield 15, (0, 1, 120, 0), []),
  (9, .iload_n 1, (1, 0, 0, 0), []),
  (10, .iaload, (20, 0, 0, 0), []),
  (11, .iload_n 2, (2, 0, 0, 0), []),
  (12, .iadd, (0, 0, 0, 0), []),
  (13, .bipush 99, (0, 0, 0, 0), []),
  (15, .invokestatic 25, (1002, 2, 0, 0), []),
  (18, .iastore, (0, 0, 0, 0), []),
  (19, .return_, (0, 0, 0, 0), [])]
def pg_Bd_exchangeKinds : List AQ := [(0, .aload_n 0, (0, 0, 0, 0), []),
  (1, .getfield 11, (0, 0, 120, 0), []),
  (4, .iload_n 1, (1, 0, 0, 0), []),
  (5, .iaload, (20, 0, 0, 0), []),
  (6, .istore_n 3, (3, 0, 0, 0), []),
  (7, .aload_n 0, (0, 0, 0, 0), []),
  (8, .getfield 11, (0, 0, 120, 0), []),
  (11, .iload_n 1, (1, 0, 0, 0), []),
  (12, .aload_n 0, (0, 0, 0, 0), []),
  (13, .getfield 11, (0, 0, 120, 0), []),
  (16, .iload_n 2, (2, 0, 0, 0), []),
  (17, .iaload, (20, 0, 0, 0), []),
  (18, .iastore, (0, 0, 0, 0), []),
  (19, .aload_n 0, (0, 0, 0, 0), []),
  (20, .getfield 11, (0, 0, 120, 0), []),
  (23, .iload_n 2, (2, 0, 0, 0), []),
  (24, .iload_n 3, (3, 0, 0, 0), []),
  (25, .iastore, (0, 0, 0, 0), []),
  (26, .return_, (0, 0, 0, 0), [])]
def pg_Bd_sow : List AQ := [(0, .aload_n 0, (0, 0, 0, 0), []),
  (1, .getfield 18, (0, 2, 120, 0), []),
  (4, .aload_n 0, (0, 0, 0, 0), []),
  (5, .getfield 40, (0, 4, 0, 0), []),
  (8, .iaload, (20, 0, 0, 0), []),
  (9, .istore_n 2, (2, 0, 0, 0), []),
  (10, .aload_n 0, (0, 0, 0, 0), []),
  (11, .iload_n 1, (1, 0, 0, 0), []),
  (12, .invokevirtual 76, (25, 2, 0, 100), []),
  (15, .istore_n 3, (3, 0, 0, 0), []),
  (16, .iload_n 3, (3, 0, 0, 0), []),
  (17, .iconst (-1), (0, 0, 0, 0), []),
  (18, .if_icmp .eq 8, (26, 0, 0, 0), []),
  (21, .aload_n 0, (0, 0, 0, 0), []),
  (22, .iload_n 3, (3, 0, 0, 0), []),
  (23, .invokevirtual 79, (27, 2, 9, 100), []),
  (26, .aload_n 0, (0, 0, 0, 0), []),
  (27, .getfield 18, (0, 2, 120, 0), []),
  (30, .aload_n 0, (0, 0, 0, 0), []),
  (31, .getfield 40, (0, 4, 0, 0), []),
  (34, .iaload, (20, 0, 0, 0), []),
  (35, .iload_n 2, (2, 0, 0, 0), []),
  (36, .isub, (0, 0, 0, 0), []),
  (37, .istore 4, (0, 0, 0, 0), []),
  (39, .aload_n 0, (0, 0, 0, 0), []),
  (40, .iconst 1, (0, 0, 0, 0), []),
  (41, .aload_n 0, (0, 0, 0, 0), []),
  (42, .getfield 40, (0, 4, 0, 0), []),
  (45, .isub, (0, 0, 0, 0), []),
  (46, .putfield 40, (0, 4, 0, 0), []),
  (49, .aload_n 0, (0, 0, 0, 0), []),
  (50, .dup, (0, 0, 0, 0), []),
  (51, .getfield 43, (0, 5, 0, 0), []),
  (54, .iconst 1, (0, 0, 0, 0), []),
  (55, .iadd, (0, 0, 0, 0), []),
  (56, .putfield 43, (0, 5, 0, 0), []),
  (59, .iload 4, (0, 0, 0, 0), []),
  (61, .ireturn, (0, 0, 0, 0), [])]
def pg_Bd_spread : List AQ := [(0, .aload_n 0, (0, 0, 0, 0), []),
  (1, .iload_n 1, (1, 0, 0, 0), []),
  (2, .invokevirtual 70, (12, 2, 0, 100), []),
  (5, .istore_n 2, (2, 0, 0, 0), []),
  (6, .aload_n 0, (0, 0, 0, 0), []),
  (7, .getfield 15, (0, 1, 120, 0), []),
  (10, .iload_n 1, (1, 0, 0, 0), []),
  (11, .dup2, (0, 0, 0, 0), []),
  (12, .iaload, (20, 0, 0, 0), []),
  (13, .iload_n 2, (2, 0, 0, 0), []),
  (14, .isub, (0, 0, 0, 0), []),
  (15, .iastore, (0, 0, 0, 0), []),
  (16, .iload_n 1, (1, 0, 0, 0), []),
  (17, .istore_n 3, (3, 0, 0, 0), []),
  (18, .iload_n 2, (2, 0, 0, 0), []),
  (19, .ifCond .le 52, (71, 0, 0, 0), []),
  (22, .aload_n 0, (0, 0, 0, 0), []),
  (23, .iload_n 3, (3, 0, 0, 0), []),
  (24, .iload_n 1, (1, 0, 0, 0), []),
  (25, .invokevirtual 82, (26, 3, 0, 100), []),
  (28, .istore 4, (0, 0, 0, 0), []),
  (30, .iload 4, (0, 0, 0, 0), []),
  (32, .iconst (-1), (0, 0, 0, 0), []),
  (33, .if_icmp .ne 18, (51, 0, 0, 0), []),
  (36, .aload_n 0, (0, 0, 0, 0), []),
  (37, .getfield 18, (0, 2, 120, 0), []),
  (40, .aload_n 0, (0, 0, 0, 0), []),
  (41, .getfield 40, (0, 4, 0, 0), []),
  (44, .dup2, (0, 0, 0, 0), []),
  (45, .iaload, (20, 0, 0, 0), []),
  (46, .iload_n 2, (2, 0, 0, 0), []),
  (47, .iadd, (0, 0, 0, 0), []),
  (48, .iastore, (0, 0, 0, 0), []),
  (49, .iconst (-1), (0, 0, 0, 0), []),
  (50, .ireturn, (0, 0, 0, 0), []),
  (51, .aload_n 0, (0, 0, 0, 0), []),
  (52, .getfield 15, (0, 1, 120, 0), []),
  (55, .iload 4, (0, 0, 0, 0), []),
  (57, .dup2, (0, 0, 0, 0), []),
  (58, .iaload, (20, 0, 0, 0), []),
  (59, .iconst 1, (0, 0, 0, 0), []),
  (60, .iadd, (0, 0, 0, 0), []),
  (61, .iastore, (0, 0, 0, 0), []),
  (62, .iload 4, (0, 0, 0, 0), []),
  (64, .istore_n 3, (3, 0, 0, 0), []),
  (65, .iinc 2 (-1), (0, 0, 0, 0), []),
  (68, .goto (-50), (18, 0, 0, 0), []),
  (71, .iload_n 3, (3, 0, 0, 0), []),
  (72, .ireturn, (0, 0, 0, 0), [])]
def pg_Bd_nextTaker : List AQ := [(0, .iload_n 1, (1, 0, 0, 0), []),
  (1, .istore_n 3, (3, 0, 0, 0), []),
  (2, .aload_n 0, (0, 0, 0, 0), []),
  (3, .invokevirtual 52, (3, 1, 0, 100), []),
  (6, .istore 4, (0, 0, 0, 0), []),
  (8, .iconst 0, (0, 0, 0, 0), []),
  (9, .istore 5, (0, 0, 0, 0), []),
  (11, .iload 5, (0, 0, 0, 0), []),
  (13, .iload 4, (0, 0, 0, 0), []),
  (15, .if_icmp .ge 50, (65, 0, 0, 0), []),
  (18, .iload_n 3, (3, 0, 0, 0), []),
  (19, .iconst 1, (0, 0, 0, 0), []),
  (20, .iadd, (0, 0, 0, 0), []),
  (21, .iload 4, (0, 0, 0, 0), []),
  (23, .if_icmp .ge 9, (32, 0, 0, 0), []),
  (26, .iload_n 3, (3, 0, 0, 0), []),
  (27, .iconst 1, (0, 0, 0, 0), []),
  (28, .iadd, (0, 0, 0, 0), []),
  (29, .goto 4, (33, 0, 0, 0), []),
  (32, .iconst 0, (0, 0, 0, 0), []),
  (33, .istore_n 3, (3, 0, 0, 0), []),
  (34, .iload_n 3, (3, 0, 0, 0), []),
  (35, .iload_n 2, (2, 0, 0, 0), []),
  (36, .if_icmp .eq 23, (59, 0, 0, 0), []),
  (39, .aload_n 0, (0, 0, 0, 0), []),
  (40, .getfield 11, (0, 0, 120, 0), []),
  (43, .iload_n 3, (3, 0, 0, 0), []),
  (44, .iaload, (20, 0, 0, 0), []),
  (45, .aload_n 0, (0, 0, 0, 0), []),
  (46, .getfield 15, (0, 1, 120, 0), []),
  (49, .iload_n 3, (3, 0, 0, 0), []),
  (50, .iaload, (20, 0, 0, 0), []),
  (51, .invokestatic 59, (64, 2, 0, 0), []),
  (54, .ifCond .eq 5, (59, 0, 0, 0), []),
  (57, .iload_n 3, (3, 0, 0, 0), []),
  (58, .ireturn, (0, 0, 0, 0), []),
  (59, .iinc 5 1, (0, 0, 0, 0), []),
  (62, .goto (-51), (11, 0, 0, 0), []),
  (65, .iconst (-1), (0, 0, 0, 0), []),
  (66, .ireturn, (0, 0, 0, 0), [])]
def pg_Bd_reap : List AQ := [(0, .iload_n 1, (1, 0, 0, 0), []),
  (1, .istore_n 2, (2, 0, 0, 0), []),
  (2, .iconst 0, (0, 0, 0, 0), []),
  (3, .istore_n 3, (3, 0, 0, 0), []),
  (4, .iload_n 3, (3, 0, 0, 0), []),
  (5, .aload_n 0, (0, 0, 0, 0), []),
  (6, .getfield 34, (0, 3, 0, 0), []),
  (9, .if_icmp .ge 71, (80, 0, 0, 0), []),
  (12, .aload_n 0, (0, 0, 0, 0), []),
  (13, .iload_n 2, (2, 0, 0, 0), []),
  (14, .invokevirtual 66, (5, 2, 0, 100), []),
  (17, .aload_n 0, (0, 0, 0, 0), []),
  (18, .getfield 40, (0, 4, 0, 0), []),
  (21, .if_icmp .eq 59, (80, 0, 0, 0), []),
  (24, .aload_n 0, (0, 0, 0, 0), []),
  (25, .iload_n 2, (2, 0, 0, 0), []),
  (26, .invokevirtual 85, (14, 2, 0, 100), []),
  (29, .ifCond .eq 51, (80, 0, 0, 0), []),
  (32, .aload_n 0, (0, 0, 0, 0), []),
  (33, .getfield 18, (0, 2, 120, 0), []),
  (36, .aload_n 0, (0, 0, 0, 0), []),
  (37, .getfield 40, (0, 4, 0, 0), []),
  (40, .dup2, (0, 0, 0, 0), []),
  (41, .iaload, (20, 0, 0, 0), []),
  (42, .aload_n 0, (0, 0, 0, 0), []),
  (43, .getfield 15, (0, 1, 120, 0), []),
  (46, .iload_n 2, (2, 0, 0, 0), []),
  (47, .iaload, (20, 0, 0, 0), []),
  (48, .iadd, (0, 0, 0, 0), []),
  (49, .iastore, (0, 0, 0, 0), []),
  (50, .aload_n 0, (0, 0, 0, 0), []),
  (51, .getfield 15, (0, 1, 120, 0), []),
  (54, .iload_n 2, (2, 0, 0, 0), []),
  (55, .iconst 0, (0, 0, 0, 0), []),
  (56, .iastore, (0, 0, 0, 0), []),
  (57, .iload_n 2, (2, 0, 0, 0), []),
  (58, .ifCond .le 9, (67, 0, 0, 0), []),
  (61, .iload_n 2, (2, 0, 0, 0), []),
  (62, .iconst 1, (0, 0, 0, 0), []),
  (63, .isub, (0, 0, 0, 0), []),
  (64, .goto 9, (73, 0, 0, 0), []),
  (67, .aload_n 0, (0, 0, 0, 0), []),
  (68, .invokevirtual 52, (3, 1, 0, 100), []),
  (71, .iconst 1, (0, 0, 0, 0), []),
  (72, .isub, (0, 0, 0, 0), []),
  (73, .istore_n 2, (2, 0, 0, 0), []),
  (74, .iinc 3 1, (0, 0, 0, 0), []),
  (77, .goto (-73), (4, 0, 0, 0), []),
  (80, .return_, (0, 0, 0, 0), [])]
def pg_Bx_init : List AQ := [(0, .aload_n 0, (0, 0, 0, 0), []),
  (1, .invokespecial 3, (999, 101, 9, 0), []),
  (4, .aload_n 0, (0, 0, 0, 0), []),
  (5, .iconst 4, (0, 0, 0, 0), []),
  (6, .newarray .int, (20, 0, 0, 0), []),
  (8, .putfield 11, (1, 0, 120, 0), []),
  (11, .aload_n 0, (0, 0, 0, 0), []),
  (12, .iconst 4, (0, 0, 0, 0), []),
  (13, .newarray .int, (20, 0, 0, 0), []),
  (15, .putfield 15, (1, 1, 120, 0), []),
  (18, .aload_n 0, (0, 0, 0, 0), []),
  (19, .iconst 0, (0, 0, 0, 0), []),
  (20, .putfield 18, (1, 2, 0, 0), []),
  (23, .aload_n 0, (0, 0, 0, 0), []),
  (24, .iconst 0, (0, 0, 0, 0), []),
  (25, .putfield 22, (1, 3, 0, 0), []),
  (28, .aload_n 0, (0, 0, 0, 0), []),
  (29, .iconst 0, (0, 0, 0, 0), []),
  (30, .putfield 25, (1, 4, 6, 0), []),
  (33, .aload_n 0, (0, 0, 0, 0), []),
  (34, .iconst (-1), (0, 0, 0, 0), []),
  (35, .putfield 29, (1, 5, 0, 0), []),
  (38, .return_, (0, 0, 0, 0), [])]
def pg_Bx_push : List AQ := [(0, .aload_n 0, (0, 0, 0, 0), []),
  (1, .getfield 22, (1, 3, 0, 0), []),
  (4, .iconst 4, (0, 0, 0, 0), []),
  (5, .if_icmp .ge 33, (38, 0, 0, 0), []),
  (8, .aload_n 0, (0, 0, 0, 0), []),
  (9, .getfield 11, (1, 0, 120, 0), []),
  (12, .aload_n 0, (0, 0, 0, 0), []),
  (13, .getfield 22, (1, 3, 0, 0), []),
  (16, .iload_n 1, (1, 0, 0, 0), []),
  (17, .iastore, (0, 0, 0, 0), []),
  (18, .aload_n 0, (0, 0, 0, 0), []),
  (19, .getfield 15, (1, 1, 120, 0), []),
  (22, .aload_n 0, (0, 0, 0, 0), []),
  (23, .getfield 22, (1, 3, 0, 0), []),
  (26, .iload_n 2, (2, 0, 0, 0), []),
  (27, .iastore, (0, 0, 0, 0), []),
  (28, .aload_n 0, (0, 0, 0, 0), []),
  (29, .dup, (0, 0, 0, 0), []),
  (30, .getfield 22, (1, 3, 0, 0), []),
  (33, .iconst 1, (0, 0, 0, 0), []),
  (34, .iadd, (0, 0, 0, 0), []),
  (35, .putfield 22, (1, 3, 0, 0), []),
  (38, .return_, (0, 0, 0, 0), [])]
def pg_Bx_hasOnTop : List AQ := [(0, .aload_n 0, (0, 0, 0, 0), []),
  (1, .getfield 22, (1, 3, 0, 0), []),
  (4, .ifCond .le 22, (26, 0, 0, 0), []),
  (7, .aload_n 0, (0, 0, 0, 0), []),
  (8, .getfield 11, (1, 0, 120, 0), []),
  (11, .aload_n 0, (0, 0, 0, 0), []),
  (12, .getfield 22, (1, 3, 0, 0), []),
  (15, .iconst 1, (0, 0, 0, 0), []),
  (16, .isub, (0, 0, 0, 0), []),
  (17, .iaload, (20, 0, 0, 0), []),
  (18, .iload_n 1, (1, 0, 0, 0), []),
  (19, .if_icmp .ne 7, (26, 0, 0, 0), []),
  (22, .iconst 1, (0, 0, 0, 0), []),
  (23, .goto 4, (27, 0, 0, 0), []),
  (26, .iconst 0, (0, 0, 0, 0), []),
  (27, .ireturn, (6, 0, 0, 0), [])]
def pg_Bx_pullBox : List AQ := [(0, .iconst 0, (0, 0, 0, 0), []),
  (1, .istore_n 2, (2, 0, 0, 0), []),
  (2, .iconst 0, (0, 0, 0, 0), []),
  (3, .istore_n 3, (3, 0, 0, 0), []),
  (4, .iload_n 3, (3, 0, 0, 0), []),
  (5, .aload_n 0, (0, 0, 0, 0), []),
  (6, .getfield 22, (1, 3, 0, 0), []),
  (9, .if_icmp .ge 56, (65, 0, 0, 0), []),
  (12, .aload_n 0, (0, 0, 0, 0), []),
  (13, .getfield 11, (1, 0, 120, 0), []),
  (16, .iload_n 3, (3, 0, 0, 0), []),
  (17, .iaload, (20, 0, 0, 0), []),
  (18, .iconst 2, (0, 0, 0, 0), []),
  (19, .if_icmp .ne 13, (32, 0, 0, 0), []),
  (22, .aload_n 0, (0, 0, 0, 0), []),
  (23, .getfield 15, (1, 1, 120, 0), []),
  (26, .iload_n 3, (3, 0, 0, 0), []),
  (27, .iaload, (20, 0, 0, 0), []),
  (28, .iload_n 1, (1, 0, 0, 0), []),
  (29, .if_icmp .eq 30, (59, 0, 0, 0), []),
  (32, .aload_n 0, (0, 0, 0, 0), []),
  (33, .getfield 11, (1, 0, 120, 0), []),
  (36, .iload_n 2, (2, 0, 0, 0), []),
  (37, .aload_n 0, (0, 0, 0, 0), []),
  (38, .getfield 11, (1, 0, 120, 0), []),
  (41, .iload_n 3, (3, 0, 0, 0), []),
  (42, .iaload, (20, 0, 0, 0), []),
  (43, .iastore, (0, 0, 0, 0), []),
  (44, .aload_n 0, (0, 0, 0, 0), []),
  (45, .getfield 15, (1, 1, 120, 0), []),
  (48, .iload_n 2, (2, 0, 0, 0), []),
  (49, .aload_n 0, (0, 0, 0, 0), []),
  (50, .getfield 15, (1, 1, 120, 0), []),
  (53, .iload_n 3, (3, 0, 0, 0), []),
  (54, .iaload, (20, 0, 0, 0), []),
  (55, .iastore, (0, 0, 0, 0), []),
  (56, .iinc 2 1, (0, 0, 0, 0), []),
  (59, .iinc 3 1, (0, 0, 0, 0), []),
  (62, .goto (-58), (4, 0, 0, 0), []),
  (65, .aload_n 0, (0, 0, 0, 0), []),
  (66, .iload_n 2, (2, 0, 0, 0), []),
  (67, .putfield 22, (1, 3, 0, 0), []),
  (70, .return_, (0, 0, 0, 0), [])]
def pg_Bx_numbers : List AQ := [(0, .iconst 0, (0, 0, 0, 0), []),
  (1, .istore_n 1, (1, 0, 0, 0), []),
  (2, .iconst 0, (0, 0, 0, 0), []),
  (3, .istore_n 2, (2, 0, 0, 0), []),
  (4, .iload_n 2, (2, 0, 0, 0), []),
  (5, .aload_n 0, (0, 0, 0, 0), []),
  (6, .getfield 22, (1, 3, 0, 0), []),
  (9, .if_icmp .ge 26, (35, 0, 0, 0), []),
  (12, .iload_n 1, (1, 0, 0, 0), []),
  (13, .aload_n 0, (0, 0, 0, 0), []),
  (14, .getfield 11, (1, 0, 120, 0), []),
  (17, .iload_n 2, (2, 0, 0, 0), []),
  (18, .iaload, (20, 0, 0, 0), []),
  (19, .ifCond .ne 7, (26, 0, 0, 0), []),
  (22, .iconst 1, (0, 0, 0, 0), []),
  (23, .goto 4, (27, 0, 0, 0), []),
  (26, .iconst 0, (0, 0, 0, 0), []),
  (27, .iadd, (0, 0, 0, 0), []),
  (28, .istore_n 1, (1, 0, 0, 0), []),
  (29, .iinc 2 1, (0, 0, 0, 0), []),
  (32, .goto (-28), (4, 0, 0, 0), []),
  (35, .iload_n 1, (1, 0, 0, 0), []),
  (36, .ireturn, (0, 0, 0, 0), [])]
def pg_Bx_sum : List AQ := [(0, .iconst 0, (0, 0, 0, 0), []),
  (1, .istore_n 1, (1, 0, 0, 0), []),
  (2, .iconst 0, (0, 0, 0, 0), []),
  (3, .istore_n 2, (2, 0, 0, 0), []),
  (4, .iload_n 2, (2, 0, 0, 0), []),
  (5, .aload_n 0, (0, 0, 0, 0), []),
  (6, .getfield 22, (1, 3, 0, 0), []),
  (9, .if_icmp .ge 31, (40, 0, 0, 0), []),
  (12, .iload_n 1, (1, 0, 0, 0), []),
  (13, .aload_n 0, (0, 0, 0, 0), []),
  (14, .getfield 11, (1, 0, 120, 0), []),
  (17, .iload_n 2, (2, 0, 0, 0), []),
  (18, .iaload, (20, 0, 0, 0), []),
  (19, .ifCond .ne 12, (31, 0, 0, 0), []),
  (22, .aload_n 0, (0, 0, 0, 0), []),
  (23, .getfield 15, (1, 1, 120, 0), []),
  (26, .iload_n 2, (2, 0, 0, 0), []),
  (27, .iaload, (20, 0, 0, 0), []),
  (28, .goto 4, (32, 0, 0, 0), []),
  (31, .iconst 0, (0, 0, 0, 0), []),
  (32, .iadd, (0, 0, 0, 0), []),
  (33, .istore_n 1, (1, 0, 0, 0), []),
  (34, .iinc 2 1, (0, 0, 0, 0), []),
  (37, .goto (-33), (4, 0, 0, 0), []),
  (40, .iload_n 1, (1, 0, 0, 0), []),
  (41, .ireturn, (0, 0, 0, 0), [])]
def pg_Bx_houseBits : List AQ := [(0, .iconst 0, (0, 0, 0, 0), []),
  (1, .istore_n 1, (1, 0, 0, 0), []),
  (2, .iconst 0, (0, 0, 0, 0), []),
  (3, .istore_n 2, (2, 0, 0, 0), []),
  (4, .iload_n 2, (2, 0, 0, 0), []),
  (5, .aload_n 0, (0, 0, 0, 0), []),
  (6, .getfield 22, (1, 3, 0, 0), []),
  (9, .if_icmp .ge 34, (43, 0, 0, 0), []),
  (12, .iload_n 1, (1, 0, 0, 0), []),
  (13, .aload_n 0, (0, 0, 0, 0), []),
  (14, .getfield 11, (1, 0, 120, 0), []),
  (17, .iload_n 2, (2, 0, 0, 0), []),
  (18, .iaload, (20, 0, 0, 0), []),
  (19, .iconst 1, (0, 0, 0, 0), []),
  (20, .if_icmp .ne 14, (34, 0, 0, 0), []),
  (23, .iconst 1, (0, 0, 0, 0), []),
  (24, .aload_n 0, (0, 0, 0, 0), []),
  (25, .getfield 15, (1, 1, 120, 0), []),
  (28, .iload_n 2, (2, 0, 0, 0), []),
  (29, .iaload, (20, 0, 0, 0), []),
  (30, .ishl, (0, 0, 0, 0), []),
  (31, .goto 4, (35, 0, 0, 0), []),
  (34, .iconst 0, (0, 0, 0, 0), []),
  (35, .ior, (0, 0, 0, 0), []),
  (36, .istore_n 1, (1, 0, 0, 0), []),
  (37, .iinc 2 1, (0, 0, 0, 0), []),
  (40, .goto (-36), (4, 0, 0, 0), []),
  (43, .iload_n 1, (1, 0, 0, 0), []),
  (44, .ireturn, (0, 0, 0, 0), [])]
def pg_Bs_init : List AQ := [(0, .aload_n 0, (0, 0, 0, 0), []),
  (1, .invokespecial 3, (999, 102, 9, 0), []),
  (4, .aload_n 0, (0, 0, 0, 0), []),
  (5, .iconst 5, (0, 0, 0, 0), []),
  (6, .anewarray 11, (25, 0, 0, 0), []),
  (9, .putfield 13, (2, 0, 125, 0), []),
  (12, .iconst 0, (0, 0, 0, 0), []),
  (13, .istore_n 1, (1, 0, 0, 0), []),
  (14, .iload_n 1, (1, 0, 0, 0), []),
  (15, .iconst 5, (0, 0, 0, 0), []),
  (16, .if_icmp .ge 22, (38, 0, 0, 0), []),
  (19, .aload_n 0, (0, 0, 0, 0), []),
  (20, .getfield 13, (2, 0, 125, 0), []),
  (23, .iload_n 1, (1, 0, 0, 0), []),
  (24, .new 11, (1, 0, 0, 0), []),
  (27, .dup, (0, 0, 0, 0), []),
  (28, .invokespecial 17, (28, 1, 9, 101), []),
  (31, .aastore, (25, 101, 0, 0), []),
  (32, .iinc 1 1, (0, 0, 0, 0), []),
  (35, .goto (-21), (14, 0, 0, 0), []),
  (38, .return_, (0, 0, 0, 0), [])]
def pg_Bs_has : List AQ := [(0, .iload_n 1, (1, 0, 0, 0), []),
  (1, .ifCond .lt 12, (13, 0, 0, 0), []),
  (4, .iload_n 1, (1, 0, 0, 0), []),
  (5, .iconst 5, (0, 0, 0, 0), []),
  (6, .if_icmp .ge 7, (13, 0, 0, 0), []),
  (9, .iconst 1, (0, 0, 0, 0), []),
  (10, .goto 4, (14, 0, 0, 0), []),
  (13, .iconst 0, (0, 0, 0, 0), []),
  (14, .ireturn, (6, 0, 0, 0), [])]
def pg_Bs_isThere : List AQ := [(0, .aload_n 0, (0, 0, 0, 0), []),
  (1, .getfield 13, (2, 0, 125, 0), []),
  (4, .iload_n 1, (1, 0, 0, 0), []),
  (5, .aaload, (25, 101, 0, 0), []),
  (6, .getfield 18, (1, 4, 0, 0), []),
  (9, .ireturn, (6, 0, 0, 0), [])]
def pg_Bs_thereBits : List AQ := [(0, .iconst 0, (0, 0, 0, 0), []),
  (1, .istore_n 1, (1, 0, 0, 0), []),
  (2, .iconst 0, (0, 0, 0, 0), []),
  (3, .istore_n 2, (2, 0, 0, 0), []),
  (4, .iload_n 2, (2, 0, 0, 0), []),
  (5, .iconst 5, (0, 0, 0, 0), []),
  (6, .if_icmp .ge 27, (33, 0, 0, 0), []),
  (9, .iload_n 1, (1, 0, 0, 0), []),
  (10, .aload_n 0, (0, 0, 0, 0), []),
  (11, .iload_n 2, (2, 0, 0, 0), []),
  (12, .invokevirtual 22, (37, 2, 0, 102), []),
  (15, .ifCond .eq 9, (24, 0, 0, 0), []),
  (18, .iconst 1, (0, 0, 0, 0), []),
  (19, .iload_n 2, (2, 0, 0, 0), []),
  (20, .ishl, (0, 0, 0, 0), []),
  (21, .goto 4, (25, 0, 0, 0), []),
  (24, .iconst 0, (0, 0, 0, 0), []),
  (25, .ior, (0, 0, 0, 0), []),
  (26, .istore_n 1, (1, 0, 0, 0), []),
  (27, .iinc 2 1, (0, 0, 0, 0), []),
  (30, .goto (-26), (4, 0, 0, 0), []),
  (33, .iload_n 1, (1, 0, 0, 0), []),
  (34, .ireturn, (0, 0, 0, 0), [])]
def pg_Bs_clear : List AQ := [(0, .iconst 0, (0, 0, 0, 0), []),
  (1, .istore_n 1, (1, 0, 0, 0), []),
  (2, .iload_n 1, (1, 0, 0, 0), []),
  (3, .iconst 5, (0, 0, 0, 0), []),
  (4, .if_icmp .ge 15, (19, 0, 0, 0), []),
  (7, .aload_n 0, (0, 0, 0, 0), []),
  (8, .iload_n 1, (1, 0, 0, 0), []),
  (9, .invokevirtual 25, (41, 2, 0, 102), []),
  (12, .pop, (0, 0, 0, 0), []),
  (13, .iinc 1 1, (0, 0, 0, 0), []),
  (16, .goto (-14), (2, 0, 0, 0), []),
  (19, .return_, (0, 0, 0, 0), [])]
def pg_Bs_make : List AQ := [(0, .aload_n 0, (0, 0, 0, 0), []),
  (1, .iload_n 1, (1, 0, 0, 0), []),
  (2, .invokevirtual 25, (41, 2, 0, 102), []),
  (5, .pop, (0, 0, 0, 0), []),
  (6, .aload_n 0, (0, 0, 0, 0), []),
  (7, .getfield 13, (2, 0, 125, 0), []),
  (10, .iload_n 1, (1, 0, 0, 0), []),
  (11, .aaload, (25, 101, 0, 0), []),
  (12, .iconst 1, (0, 0, 0, 0), []),
  (13, .putfield 18, (1, 4, 6, 0), []),
  (16, .aload_n 0, (0, 0, 0, 0), []),
  (17, .getfield 13, (2, 0, 125, 0), []),
  (20, .iload_n 1, (1, 0, 0, 0), []),
  (21, .aaload, (25, 101, 0, 0), []),
  (22, .iload_n 2, (2, 0, 0, 0), []),
  (23, .putfield 29, (1, 2, 0, 0), []),
  (26, .return_, (0, 0, 0, 0), [])]
def pg_Bs_remove : List AQ := [(0, .aload_n 0, (0, 0, 0, 0), []),
  (1, .getfield 13, (2, 0, 125, 0), []),
  (4, .iload_n 1, (1, 0, 0, 0), []),
  (5, .aaload, (25, 101, 0, 0), []),
  (6, .astore_n 2, (2, 0, 0, 0), []),
  (7, .aload_n 2, (2, 0, 0, 0), []),
  (8, .getfield 33, (1, 3, 0, 0), []),
  (11, .istore_n 3, (3, 0, 0, 0), []),
  (12, .iconst 0, (0, 0, 0, 0), []),
  (13, .istore 4, (0, 0, 0, 0), []),
  (15, .iload 4, (0, 0, 0, 0), []),
  (17, .iconst 5, (0, 0, 0, 0), []),
  (18, .if_icmp .ge 45, (63, 0, 0, 0), []),
  (21, .aload_n 0, (0, 0, 0, 0), []),
  (22, .getfield 13, (2, 0, 125, 0), []),
  (25, .iload 4, (0, 0, 0, 0), []),
  (27, .aaload, (25, 101, 0, 0), []),
  (28, .iload_n 1, (1, 0, 0, 0), []),
  (29, .invokevirtual 36, (31, 2, 9, 101), []),
  (32, .aload_n 0, (0, 0, 0, 0), []),
  (33, .getfield 13, (2, 0, 125, 0), []),
  (36, .iload 4, (0, 0, 0, 0), []),
  (38, .aaload, (25, 101, 0, 0), []),
  (39, .getfield 40, (1, 5, 0, 0), []),
  (42, .iload_n 1, (1, 0, 0, 0), []),
  (43, .if_icmp .ne 14, (57, 0, 0, 0), []),
  (46, .aload_n 0, (0, 0, 0, 0), []),
  (47, .getfield 13, (2, 0, 125, 0), []),
  (50, .iload 4, (0, 0, 0, 0), []),
  (52, .aaload, (25, 101, 0, 0), []),
  (53, .iconst (-1), (0, 0, 0, 0), []),
  (54, .putfield 40, (1, 5, 0, 0), []),
  (57, .iinc 4 1, (0, 0, 0, 0), []),
  (60, .goto (-45), (15, 0, 0, 0), []),
  (63, .aload_n 2, (2, 0, 0, 0), []),
  (64, .iconst (-1), (0, 0, 0, 0), []),
  (65, .putfield 40, (1, 5, 0, 0), []),
  (68, .aload_n 2, (2, 0, 0, 0), []),
  (69, .iconst 0, (0, 0, 0, 0), []),
  (70, .putfield 33, (1, 3, 0, 0), []),
  (73, .aload_n 2, (2, 0, 0, 0), []),
  (74, .iconst 0, (0, 0, 0, 0), []),
  (75, .putfield 18, (1, 4, 6, 0), []),
  (78, .iload_n 3, (3, 0, 0, 0), []),
  (79, .ireturn, (0, 0, 0, 0), [])]
def pg_Bs_lay_0 : List AQ := [(0, .aload_n 0, (0, 0, 0, 0), []),
  (1, .getfield 13, (2, 0, 125, 0), []),
  (4, .iload_n 1, (1, 0, 0, 0), []),
  (5, .aaload, (25, 101, 0, 0), []),
  (6, .astore 4, (0, 0, 0, 0), []),
  (8, .iload_n 2, (2, 0, 0, 0), []),
  (9, .iconst 2, (0, 0, 0, 0), []),
  (10, .if_icmp .ne 15, (25, 0, 0, 0), []),
  (13, .aload_n 0, (0, 0, 0, 0), []),
  (14, .iload_n 3, (3, 0, 0, 0), []),
  (15, .invokevirtual 43, (36, 2, 0, 102), []),
  (18, .ifCond .eq 7, (25, 0, 0, 0), []),
  (21, .iconst 1, (0, 0, 0, 0), []),
  (22, .goto 4, (26, 0, 0, 0), []),
  (25, .iconst 0, (0, 0, 0, 0), []),
  (26, .istore 5, (0, 0, 0, 0), []),
  (28, .iload 5, (0, 0, 0, 0), []),
  (30, .ifCond .eq 19, (49, 0, 0, 0), []),
  (33, .aload_n 0, (0, 0, 0, 0), []),
  (34, .getfield 13, (2, 0, 125, 0), []),
  (37, .iload_n 3, (3, 0, 0, 0), []),
  (38, .aaload, (25, 101, 0, 0), []),
  (39, .getfield 40, (1, 5, 0, 0), []),
  (42, .iconst (-1), (0, 0, 0, 0), []),
  (43, .if_icmp .eq 6, (49, 0, 0, 0), []),
  (46, .bipush (-4), (0, 0, 0, 0), []),
  (48, .ireturn, (0, 0, 0, 0), []),
  (49, .aload 4, (0, 0, 0, 0), []),
  (51, .getfield 18, (1, 4, 0, 0), []),
  (54, .ifCond .eq 16, (70, 0, 0, 0), []),
  (57, .iload 5, (0, 0, 0, 0), []),
  (59, .ifCond .eq 14, (73, 0, 0, 0), []),
  (62, .aload_n 0, (0, 0, 0, 0), []),
  (63, .iload_n 3, (3, 0, 0, 0), []),
  (64, .invokevirtual 22, (37, 2, 0, 102), []),
  (67, .ifCond .ne 6, (73, 0, 0, 0), []),
  (70, .bipush (-11), (0, 0, 0, 0), []),
  (72, .ireturn, (0, 0, 0, 0), []),
  (73, .aload 4, (0, 0, 0, 0), []),
  (75, .getfield 33, (1, 3, 0, 0), []),
  (78, .aload 4, (0, 0, 0, 0), []),
  (80, .getfield 29, (1, 2, 0, 0), []),
  (83, .if_icmp .lt 6, (89, 0, 0, 0), []),
  (86, .bipush (-14), (0, 0, 0, 0), []),
  (88, .ireturn, (0, 0, 0, 0), []),
  (89, .iload 5, (0, 0, 0, 0), []),
  (91, .ifCond .eq 16, (107, 0, 0, 0), []),
  (94, .aload_n 0, (0, 0, 0, 0), []),
  (95, .iload_n 1, (1, 0, 0, 0), []),
  (96, .iload_n 3, (3, 0, 0, 0), []),
  (97, .invokevirtual 46, (47, 3, 0, 102), []),
  (100, .iconst (-1), (0, 0, 0, 0), []),
  (101, .if_icmp .eq 6, (107, 0, 0, 0), []),
  (104, .bipush (-15), (0, 0, 0, 0), []),
  (106, .ireturn, (0, 0, 0, 0), []),
  (107, .aload 4, (0, 0, 0, 0), []),
  (109, .iload_n 2, (2, 0, 0, 0), []),
  (110, .iload_n 3, (3, 0, 0, 0), []),
  (111, .invokevirtual 50, (29, 3, 9, 101), []),
  (114, .iload 5, (0, 0, 0, 0), [])]
def pg_Bs_lay_1 : List AQ := [(116, .ifCond .eq 13, (129, 0, 0, 0), []),
  (119, .aload_n 0, (0, 0, 0, 0), []),
  (120, .getfield 13, (2, 0, 125, 0), []),
  (123, .iload_n 3, (3, 0, 0, 0), []),
  (124, .aaload, (25, 101, 0, 0), []),
  (125, .iload_n 1, (1, 0, 0, 0), []),
  (126, .putfield 40, (1, 5, 0, 0), []),
  (129, .aload 4, (0, 0, 0, 0), []),
  (131, .getfield 33, (1, 3, 0, 0), []),
  (134, .ireturn, (0, 0, 0, 0), [])]
def pg_Bs_lay : List AQ := pg_Bs_lay_0 ++ (pg_Bs_lay_1)
def pg_Bs_lift : List AQ := [(0, .aload_n 0, (0, 0, 0, 0), []),
  (1, .getfield 13, (2, 0, 125, 0), []),
  (4, .iload_n 1, (1, 0, 0, 0), []),
  (5, .aaload, (25, 101, 0, 0), []),
  (6, .astore_n 3, (3, 0, 0, 0), []),
  (7, .aload_n 3, (3, 0, 0, 0), []),
  (8, .getfield 18, (1, 4, 0, 0), []),
  (11, .ifCond .ne 6, (17, 0, 0, 0), []),
  (14, .bipush (-11), (0, 0, 0, 0), []),
  (16, .ireturn, (0, 0, 0, 0), []),
  (17, .aload_n 3, (3, 0, 0, 0), []),
  (18, .getfield 33, (1, 3, 0, 0), []),
  (21, .ifCond .gt 6, (27, 0, 0, 0), []),
  (24, .bipush (-12), (0, 0, 0, 0), []),
  (26, .ireturn, (0, 0, 0, 0), []),
  (27, .aload_n 3, (3, 0, 0, 0), []),
  (28, .iload_n 2, (2, 0, 0, 0), []),
  (29, .invokevirtual 54, (30, 2, 0, 101), []),
  (32, .ifCond .ne 6, (38, 0, 0, 0), []),
  (35, .bipush (-13), (0, 0, 0, 0), []),
  (37, .ireturn, (0, 0, 0, 0), []),
  (38, .aload_n 3, (3, 0, 0, 0), []),
  (39, .dup, (0, 0, 0, 0), []),
  (40, .getfield 33, (1, 3, 0, 0), []),
  (43, .iconst 1, (0, 0, 0, 0), []),
  (44, .isub, (0, 0, 0, 0), []),
  (45, .putfield 33, (1, 3, 0, 0), []),
  (48, .aload_n 3, (3, 0, 0, 0), []),
  (49, .getfield 57, (1, 1, 120, 0), []),
  (52, .aload_n 3, (3, 0, 0, 0), []),
  (53, .getfield 33, (1, 3, 0, 0), []),
  (56, .iaload, (20, 0, 0, 0), []),
  (57, .istore 4, (0, 0, 0, 0), []),
  (59, .iload_n 2, (2, 0, 0, 0), []),
  (60, .iconst 2, (0, 0, 0, 0), []),
  (61, .if_icmp .ne 23, (84, 0, 0, 0), []),
  (64, .aload_n 0, (0, 0, 0, 0), []),
  (65, .iload 4, (0, 0, 0, 0), []),
  (67, .invokevirtual 43, (36, 2, 0, 102), []),
  (70, .ifCond .eq 14, (84, 0, 0, 0), []),
  (73, .aload_n 0, (0, 0, 0, 0), []),
  (74, .getfield 13, (2, 0, 125, 0), []),
  (77, .iload 4, (0, 0, 0, 0), []),
  (79, .aaload, (25, 101, 0, 0), []),
  (80, .iconst (-1), (0, 0, 0, 0), []),
  (81, .putfield 40, (1, 5, 0, 0), []),
  (84, .iload_n 2, (2, 0, 0, 0), []),
  (85, .ifCond .ne 11, (96, 0, 0, 0), []),
  (88, .ldc 61, (0, 0, 0, 50000), []),
  (90, .iload 4, (0, 0, 0, 0), []),
  (92, .iadd, (0, 0, 0, 0), []),
  (93, .goto 5, (98, 0, 0, 0), []),
  (96, .iload 4, (0, 0, 0, 0), []),
  (98, .ireturn, (0, 0, 0, 0), [])]
def pg_Bs_pour_0 : List AQ := [(0, .aload_n 0, (0, 0, 0, 0), []),
  (1, .getfield 13, (2, 0, 125, 0), []),
  (4, .iload_n 1, (1, 0, 0, 0), []),
  (5, .aaload, (25, 101, 0, 0), []),
  (6, .astore_n 2, (2, 0, 0, 0), []),
  (7, .aload_n 2, (2, 0, 0, 0), []),
  (8, .getfield 18, (1, 4, 0, 0), []),
  (11, .ifCond .ne 6, (17, 0, 0, 0), []),
  (14, .bipush (-11), (0, 0, 0, 0), []),
  (16, .ireturn, (0, 0, 0, 0), []),
  (17, .aload_n 2, (2, 0, 0, 0), []),
  (18, .getfield 33, (1, 3, 0, 0), []),
  (21, .ifCond .gt 6, (27, 0, 0, 0), []),
  (24, .bipush (-12), (0, 0, 0, 0), []),
  (26, .ireturn, (0, 0, 0, 0), []),
  (27, .aload_n 2, (2, 0, 0, 0), []),
  (28, .getfield 57, (1, 1, 120, 0), []),
  (31, .aload_n 2, (2, 0, 0, 0), []),
  (32, .getfield 33, (1, 3, 0, 0), []),
  (35, .iconst 1, (0, 0, 0, 0), []),
  (36, .isub, (0, 0, 0, 0), []),
  (37, .iaload, (20, 0, 0, 0), []),
  (38, .istore_n 3, (3, 0, 0, 0), []),
  (39, .aload_n 2, (2, 0, 0, 0), []),
  (40, .iconst 2, (0, 0, 0, 0), []),
  (41, .invokevirtual 54, (30, 2, 0, 101), []),
  (44, .ifCond .eq 11, (55, 0, 0, 0), []),
  (47, .aload_n 0, (0, 0, 0, 0), []),
  (48, .iload_n 3, (3, 0, 0, 0), []),
  (49, .invokevirtual 43, (36, 2, 0, 102), []),
  (52, .ifCond .ne 6, (58, 0, 0, 0), []),
  (55, .bipush (-13), (0, 0, 0, 0), []),
  (57, .ireturn, (0, 0, 0, 0), []),
  (58, .aload_n 0, (0, 0, 0, 0), []),
  (59, .getfield 13, (2, 0, 125, 0), []),
  (62, .iload_n 3, (3, 0, 0, 0), []),
  (63, .aaload, (25, 101, 0, 0), []),
  (64, .astore 4, (0, 0, 0, 0), []),
  (66, .aload_n 2, (2, 0, 0, 0), []),
  (67, .getfield 33, (1, 3, 0, 0), []),
  (70, .iconst 1, (0, 0, 0, 0), []),
  (71, .isub, (0, 0, 0, 0), []),
  (72, .aload 4, (0, 0, 0, 0), []),
  (74, .getfield 33, (1, 3, 0, 0), []),
  (77, .iadd, (0, 0, 0, 0), []),
  (78, .aload_n 2, (2, 0, 0, 0), []),
  (79, .getfield 29, (1, 2, 0, 0), []),
  (82, .if_icmp .le 6, (88, 0, 0, 0), []),
  (85, .bipush (-14), (0, 0, 0, 0), []),
  (87, .ireturn, (0, 0, 0, 0), []),
  (88, .aload_n 2, (2, 0, 0, 0), []),
  (89, .dup, (0, 0, 0, 0), []),
  (90, .getfield 33, (1, 3, 0, 0), []),
  (93, .iconst 1, (0, 0, 0, 0), []),
  (94, .isub, (0, 0, 0, 0), []),
  (95, .putfield 33, (1, 3, 0, 0), []),
  (98, .aload 4, (0, 0, 0, 0), []),
  (100, .iconst (-1), (0, 0, 0, 0), []),
  (101, .putfield 40, (1, 5, 0, 0), []),
  (104, .iconst 0, (0, 0, 0, 0), [])]
def pg_Bs_pour_1 : List AQ := [(105, .istore 5, (0, 0, 0, 0), []),
  (107, .iload 5, (0, 0, 0, 0), []),
  (109, .aload 4, (0, 0, 0, 0), []),
  (111, .getfield 33, (1, 3, 0, 0), []),
  (114, .if_icmp .ge 73, (187, 0, 0, 0), []),
  (117, .aload_n 2, (2, 0, 0, 0), []),
  (118, .aload 4, (0, 0, 0, 0), []),
  (120, .getfield 62, (1, 0, 120, 0), []),
  (123, .iload 5, (0, 0, 0, 0), []),
  (125, .iaload, (20, 0, 0, 0), []),
  (126, .aload 4, (0, 0, 0, 0), []),
  (128, .getfield 57, (1, 1, 120, 0), []),
  (131, .iload 5, (0, 0, 0, 0), []),
  (133, .iaload, (20, 0, 0, 0), []),
  (134, .invokevirtual 50, (29, 3, 9, 101), []),
  (137, .aload 4, (0, 0, 0, 0), []),
  (139, .getfield 62, (1, 0, 120, 0), []),
  (142, .iload 5, (0, 0, 0, 0), []),
  (144, .iaload, (20, 0, 0, 0), []),
  (145, .iconst 2, (0, 0, 0, 0), []),
  (146, .if_icmp .ne 35, (181, 0, 0, 0), []),
  (149, .aload_n 0, (0, 0, 0, 0), []),
  (150, .aload 4, (0, 0, 0, 0), []),
  (152, .getfield 57, (1, 1, 120, 0), []),
  (155, .iload 5, (0, 0, 0, 0), []),
  (157, .iaload, (20, 0, 0, 0), []),
  (158, .invokevirtual 43, (36, 2, 0, 102), []),
  (161, .ifCond .eq 20, (181, 0, 0, 0), []),
  (164, .aload_n 0, (0, 0, 0, 0), []),
  (165, .getfield 13, (2, 0, 125, 0), []),
  (168, .aload 4, (0, 0, 0, 0), []),
  (170, .getfield 57, (1, 1, 120, 0), []),
  (173, .iload 5, (0, 0, 0, 0), []),
  (175, .iaload, (20, 0, 0, 0), []),
  (176, .aaload, (25, 101, 0, 0), []),
  (177, .iload_n 1, (1, 0, 0, 0), []),
  (178, .putfield 40, (1, 5, 0, 0), []),
  (181, .iinc 5 1, (0, 0, 0, 0), []),
  (184, .goto (-77), (107, 0, 0, 0), []),
  (187, .aload 4, (0, 0, 0, 0), []),
  (189, .iconst 0, (0, 0, 0, 0), []),
  (190, .putfield 33, (1, 3, 0, 0), []),
  (193, .aload_n 2, (2, 0, 0, 0), []),
  (194, .getfield 33, (1, 3, 0, 0), []),
  (197, .ireturn, (0, 0, 0, 0), [])]
def pg_Bs_pour : List AQ := pg_Bs_pour_0 ++ (pg_Bs_pour_1)
def pg_Bs_throughout : List AQ := [(0, .iload_n 2, (2, 0, 0, 0), []),
  (1, .iconst 1, (0, 0, 0, 0), []),
  (2, .if_icmp .ne 8, (10, 0, 0, 0), []),
  (5, .ldc 61, (0, 0, 0, 50000), []),
  (7, .goto 4, (11, 0, 0, 0), []),
  (10, .iconst 0, (0, 0, 0, 0), []),
  (11, .istore_n 3, (3, 0, 0, 0), []),
  (12, .iconst 0, (0, 0, 0, 0), []),
  (13, .istore 4, (0, 0, 0, 0), []),
  (15, .iload 4, (0, 0, 0, 0), []),
  (17, .iconst 5, (0, 0, 0, 0), []),
  (18, .if_icmp .ge 35, (53, 0, 0, 0), []),
  (21, .aload_n 0, (0, 0, 0, 0), []),
  (22, .iload 4, (0, 0, 0, 0), []),
  (24, .iload_n 1, (1, 0, 0, 0), []),
  (25, .invokevirtual 46, (47, 3, 0, 102), []),
  (28, .istore 5, (0, 0, 0, 0), []),
  (30, .iload 5, (0, 0, 0, 0), []),
  (32, .iconst (-1), (0, 0, 0, 0), []),
  (33, .if_icmp .eq 14, (47, 0, 0, 0), []),
  (36, .aload_n 0, (0, 0, 0, 0), []),
  (37, .iload_n 3, (3, 0, 0, 0), []),
  (38, .iload 4, (0, 0, 0, 0), []),
  (40, .iload 5, (0, 0, 0, 0), []),
  (42, .iload_n 2, (2, 0, 0, 0), []),
  (43, .invokevirtual 65, (46, 5, 0, 102), []),
  (46, .istore_n 3, (3, 0, 0, 0), []),
  (47, .iinc 4 1, (0, 0, 0, 0), []),
  (50, .goto (-35), (15, 0, 0, 0), []),
  (53, .iload_n 3, (3, 0, 0, 0), []),
  (54, .ireturn, (0, 0, 0, 0), [])]
def pg_Bs_withInner : List AQ := [(0, .iload 4, (0, 0, 0, 0), []),
  (2, .tableswitch 80 0 3 #[30, 42, 54, 66], (82, 0, 0, 0), [(0, 32), (1, 44), (2, 56), (3, 68)]),
  (32, .iload_n 1, (1, 0, 0, 0), []),
  (33, .aload_n 0, (0, 0, 0, 0), []),
  (34, .getfield 13, (2, 0, 125, 0), []),
  (37, .iload_n 2, (2, 0, 0, 0), []),
  (38, .aaload, (25, 101, 0, 0), []),
  (39, .invokevirtual 69, (32, 1, 0, 101), []),
  (42, .iadd, (0, 0, 0, 0), []),
  (43, .ireturn, (0, 0, 0, 0), []),
  (44, .iload_n 1, (1, 0, 0, 0), []),
  (45, .aload_n 0, (0, 0, 0, 0), []),
  (46, .getfield 13, (2, 0, 125, 0), []),
  (49, .iload_n 2, (2, 0, 0, 0), []),
  (50, .aaload, (25, 101, 0, 0), []),
  (51, .invokevirtual 73, (33, 1, 0, 101), []),
  (54, .iadd, (0, 0, 0, 0), []),
  (55, .ireturn, (0, 0, 0, 0), []),
  (56, .iload_n 1, (1, 0, 0, 0), []),
  (57, .aload_n 0, (0, 0, 0, 0), []),
  (58, .getfield 13, (2, 0, 125, 0), []),
  (61, .iload_n 2, (2, 0, 0, 0), []),
  (62, .aaload, (25, 101, 0, 0), []),
  (63, .invokevirtual 76, (34, 1, 0, 101), []),
  (66, .ior, (0, 0, 0, 0), []),
  (67, .ireturn, (0, 0, 0, 0), []),
  (68, .iload_n 3, (3, 0, 0, 0), []),
  (69, .ifCond .le 11, (80, 0, 0, 0), []),
  (72, .iload_n 1, (1, 0, 0, 0), []),
  (73, .iconst 1, (0, 0, 0, 0), []),
  (74, .iload_n 2, (2, 0, 0, 0), []),
  (75, .ishl, (0, 0, 0, 0), []),
  (76, .ior, (0, 0, 0, 0), []),
  (77, .goto 4, (81, 0, 0, 0), []),
  (80, .iload_n 1, (1, 0, 0, 0), []),
  (81, .ireturn, (0, 0, 0, 0), []),
  (82, .iload_n 1, (1, 0, 0, 0), []),
  (83, .iload_n 3, (3, 0, 0, 0), []),
  (84, .invokestatic 79, (1001, 2, 0, 0), []),
  (87, .ireturn, (0, 0, 0, 0), [])]
def pg_Bs_stepsUp : List AQ := [(0, .iload_n 1, (1, 0, 0, 0), []),
  (1, .istore_n 3, (3, 0, 0, 0), []),
  (2, .iconst 0, (0, 0, 0, 0), []),
  (3, .istore 4, (0, 0, 0, 0), []),
  (5, .iload 4, (0, 0, 0, 0), []),
  (7, .iconst 5, (0, 0, 0, 0), []),
  (8, .if_icmp .ge 32, (40, 0, 0, 0), []),
  (11, .iload_n 3, (3, 0, 0, 0), []),
  (12, .iconst (-1), (0, 0, 0, 0), []),
  (13, .if_icmp .eq 27, (40, 0, 0, 0), []),
  (16, .iload_n 3, (3, 0, 0, 0), []),
  (17, .iload_n 2, (2, 0, 0, 0), []),
  (18, .if_icmp .ne 6, (24, 0, 0, 0), []),
  (21, .iload 4, (0, 0, 0, 0), []),
  (23, .ireturn, (0, 0, 0, 0), []),
  (24, .aload_n 0, (0, 0, 0, 0), []),
  (25, .getfield 13, (2, 0, 125, 0), []),
  (28, .iload_n 3, (3, 0, 0, 0), []),
  (29, .aaload, (25, 101, 0, 0), []),
  (30, .getfield 40, (1, 5, 0, 0), []),
  (33, .istore_n 3, (3, 0, 0, 0), []),
  (34, .iinc 4 1, (0, 0, 0, 0), []),
  (37, .goto (-32), (5, 0, 0, 0), []),
  (40, .iconst (-1), (0, 0, 0, 0), []),
  (41, .ireturn, (0, 0, 0, 0), [])]
def pg_Bs_holdSame : List AQ := [(0, .aload_n 0, (0, 0, 0, 0), []),
  (1, .iload_n 1, (1, 0, 0, 0), []),
  (2, .iload_n 2, (2, 0, 0, 0), []),
  (3, .iconst 0, (0, 0, 0, 0), []),
  (4, .invokevirtual 84, (49, 4, 0, 102), []),
  (7, .ireturn, (6, 0, 0, 0), [])]
def pg_Bs_holdSameFrom : List AQ := [(0, .aload_n 0, (0, 0, 0, 0), []),
  (1, .getfield 13, (2, 0, 125, 0), []),
  (4, .iload_n 1, (1, 0, 0, 0), []),
  (5, .aaload, (25, 101, 0, 0), []),
  (6, .astore 4, (0, 0, 0, 0), []),
  (8, .aload_n 0, (0, 0, 0, 0), []),
  (9, .getfield 13, (2, 0, 125, 0), []),
  (12, .iload_n 2, (2, 0, 0, 0), []),
  (13, .aaload, (25, 101, 0, 0), []),
  (14, .astore 5, (0, 0, 0, 0), []),
  (16, .aload 4, (0, 0, 0, 0), []),
  (18, .getfield 33, (1, 3, 0, 0), []),
  (21, .aload 5, (0, 0, 0, 0), []),
  (23, .getfield 33, (1, 3, 0, 0), []),
  (26, .if_icmp .ne 8, (34, 0, 0, 0), []),
  (29, .iload_n 3, (3, 0, 0, 0), []),
  (30, .iconst 5, (0, 0, 0, 0), []),
  (31, .if_icmp .le 5, (36, 0, 0, 0), []),
  (34, .iconst 0, (0, 0, 0, 0), []),
  (35, .ireturn, (6, 0, 0, 0), []),
  (36, .iconst 0, (0, 0, 0, 0), []),
  (37, .istore 6, (0, 0, 0, 0), []),
  (39, .iload 6, (0, 0, 0, 0), []),
  (41, .aload 4, (0, 0, 0, 0), []),
  (43, .getfield 33, (1, 3, 0, 0), []),
  (46, .if_icmp .ge 62, (108, 0, 0, 0), []),
  (49, .aload 4, (0, 0, 0, 0), []),
  (51, .getfield 62, (1, 0, 120, 0), []),
  (54, .iload 6, (0, 0, 0, 0), []),
  (56, .iaload, (20, 0, 0, 0), []),
  (57, .aload 5, (0, 0, 0, 0), []),
  (59, .getfield 62, (1, 0, 120, 0), []),
  (62, .iload 6, (0, 0, 0, 0), []),
  (64, .iaload, (20, 0, 0, 0), []),
  (65, .if_icmp .ne 35, (100, 0, 0, 0), []),
  (68, .aload_n 0, (0, 0, 0, 0), []),
  (69, .aload 4, (0, 0, 0, 0), []),
  (71, .getfield 62, (1, 0, 120, 0), []),
  (74, .iload 6, (0, 0, 0, 0), []),
  (76, .iaload, (20, 0, 0, 0), []),
  (77, .aload 4, (0, 0, 0, 0), []),
  (79, .getfield 57, (1, 1, 120, 0), []),
  (82, .iload 6, (0, 0, 0, 0), []),
  (84, .iaload, (20, 0, 0, 0), []),
  (85, .aload 5, (0, 0, 0, 0), []),
  (87, .getfield 57, (1, 1, 120, 0), []),
  (90, .iload 6, (0, 0, 0, 0), []),
  (92, .iaload, (20, 0, 0, 0), []),
  (93, .iload_n 3, (3, 0, 0, 0), []),
  (94, .invokevirtual 88, (50, 5, 0, 102), []),
  (97, .ifCond .ne 5, (102, 0, 0, 0), []),
  (100, .iconst 0, (0, 0, 0, 0), []),
  (101, .ireturn, (6, 0, 0, 0), []),
  (102, .iinc 6 1, (0, 0, 0, 0), []),
  (105, .goto (-66), (39, 0, 0, 0), []),
  (108, .iconst 1, (0, 0, 0, 0), []),
  (109, .ireturn, (6, 0, 0, 0), [])]
def pg_Bs_isSame : List AQ := [(0, .iload_n 1, (1, 0, 0, 0), []),
  (1, .iconst 2, (0, 0, 0, 0), []),
  (2, .if_icmp .ne 30, (32, 0, 0, 0), []),
  (5, .aload_n 0, (0, 0, 0, 0), []),
  (6, .iload_n 2, (2, 0, 0, 0), []),
  (7, .invokevirtual 43, (36, 2, 0, 102), []),
  (10, .ifCond .eq 22, (32, 0, 0, 0), []),
  (13, .aload_n 0, (0, 0, 0, 0), []),
  (14, .iload_n 3, (3, 0, 0, 0), []),
  (15, .invokevirtual 43, (36, 2, 0, 102), []),
  (18, .ifCond .eq 14, (32, 0, 0, 0), []),
  (21, .aload_n 0, (0, 0, 0, 0), []),
  (22, .iload_n 2, (2, 0, 0, 0), []),
  (23, .iload_n 3, (3, 0, 0, 0), []),
  (24, .iload 4, (0, 0, 0, 0), []),
  (26, .iconst 1, (0, 0, 0, 0), []),
  (27, .iadd, (0, 0, 0, 0), []),
  (28, .invokevirtual 84, (49, 4, 0, 102), []),
  (31, .ireturn, (6, 0, 0, 0), []),
  (32, .iload_n 2, (2, 0, 0, 0), []),
  (33, .iload_n 3, (3, 0, 0, 0), []),
  (34, .if_icmp .ne 7, (41, 0, 0, 0), []),
  (37, .iconst 1, (0, 0, 0, 0), []),
  (38, .goto 4, (42, 0, 0, 0), []),
  (41, .iconst 0, (0, 0, 0, 0), []),
  (42, .ireturn, (6, 0, 0, 0), [])]
def pg_Fo_init : List AQ := [(0, .aload_n 0, (0, 0, 0, 0), []),
  (1, .invokespecial 3, (999, 103, 9, 0), []),
  (4, .aload_n 0, (0, 0, 0, 0), []),
  (5, .bipush 6, (0, 0, 0, 0), []),
  (7, .anewarray 11, (24, 0, 0, 0), []),
  (10, .putfield 13, (3, 0, 124, 0), []),
  (13, .aload_n 0, (0, 0, 0, 0), []),
  (14, .iconst (-1), (0, 0, 0, 0), []),
  (15, .putfield 17, (3, 1, 0, 0), []),
  (18, .iconst 0, (0, 0, 0, 0), []),
  (19, .istore_n 1, (1, 0, 0, 0), []),
  (20, .iload_n 1, (1, 0, 0, 0), []),
  (21, .iconst 5, (0, 0, 0, 0), []),
  (22, .if_icmp .gt 22, (44, 0, 0, 0), []),
  (25, .aload_n 0, (0, 0, 0, 0), []),
  (26, .getfield 13, (3, 0, 124, 0), []),
  (29, .iload_n 1, (1, 0, 0, 0), []),
  (30, .new 11, (0, 0, 0, 0), []),
  (33, .dup, (0, 0, 0, 0), []),
  (34, .invokespecial 21, (0, 1, 9, 100), []),
  (37, .aastore, (24, 100, 0, 0), []),
  (38, .iinc 1 1, (0, 0, 0, 0), []),
  (41, .goto (-21), (20, 0, 0, 0), []),
  (44, .return_, (0, 0, 0, 0), [])]
def pg_Fo_broughtBy : List AQ := [(0, .aload_n 0, (0, 0, 0, 0), []),
  (1, .getfield 13, (3, 0, 124, 0), []),
  (4, .iconst 0, (0, 0, 0, 0), []),
  (5, .aaload, (24, 100, 0, 0), []),
  (6, .aload_n 1, (1, 0, 0, 0), []),
  (7, .invokevirtual 22, (2, 2, 9, 100), []),
  (10, .aload_n 0, (0, 0, 0, 0), []),
  (11, .getfield 13, (3, 0, 124, 0), []),
  (14, .iconst 0, (0, 0, 0, 0), []),
  (15, .aaload, (24, 100, 0, 0), []),
  (16, .iload_n 2, (2, 0, 0, 0), []),
  (17, .invokevirtual 26, (24, 2, 0, 100), []),
  (20, .ireturn, (0, 0, 0, 0), [])]
def pg_Fo_bestLead : List AQ := [(0, .aload_n 0, (0, 0, 0, 0), []),
  (1, .getfield 13, (3, 0, 124, 0), []),
  (4, .iconst 0, (0, 0, 0, 0), []),
  (5, .aaload, (24, 100, 0, 0), []),
  (6, .aload_n 1, (1, 0, 0, 0), []),
  (7, .invokevirtual 22, (2, 2, 9, 100), []),
  (10, .aload_n 0, (0, 0, 0, 0), []),
  (11, .iconst 0, (0, 0, 0, 0), []),
  (12, .iload_n 2, (2, 0, 0, 0), []),
  (13, .ldc 30, (0, 0, 0, (-1000000)), []),
  (15, .ldc 31, (0, 0, 0, 1000000), []),
  (17, .invokevirtual 32, (55, 5, 0, 103), []),
  (20, .ireturn, (0, 0, 0, 0), [])]
def pg_Fo_lineMove : List AQ := [(0, .aload_n 0, (0, 0, 0, 0), []),
  (1, .getfield 13, (3, 0, 124, 0), []),
  (4, .iconst 0, (0, 0, 0, 0), []),
  (5, .aaload, (24, 100, 0, 0), []),
  (6, .aload_n 1, (1, 0, 0, 0), []),
  (7, .invokevirtual 22, (2, 2, 9, 100), []),
  (10, .iconst 0, (0, 0, 0, 0), []),
  (11, .istore 4, (0, 0, 0, 0), []),
  (13, .iload 4, (0, 0, 0, 0), []),
  (15, .iload_n 2, (2, 0, 0, 0), []),
  (16, .if_icmp .ge 62, (78, 0, 0, 0), []),
  (19, .iload 4, (0, 0, 0, 0), []),
  (21, .iload_n 3, (3, 0, 0, 0), []),
  (22, .if_icmp .gt 56, (78, 0, 0, 0), []),
  (25, .aload_n 0, (0, 0, 0, 0), []),
  (26, .iconst 0, (0, 0, 0, 0), []),
  (27, .iload_n 2, (2, 0, 0, 0), []),
  (28, .iload 4, (0, 0, 0, 0), []),
  (30, .isub, (0, 0, 0, 0), []),
  (31, .ldc 30, (0, 0, 0, (-1000000)), []),
  (33, .ldc 31, (0, 0, 0, 1000000), []),
  (35, .invokevirtual 32, (55, 5, 0, 103), []),
  (38, .pop, (0, 0, 0, 0), []),
  (39, .iload 4, (0, 0, 0, 0), []),
  (41, .iload_n 3, (3, 0, 0, 0), []),
  (42, .if_icmp .eq 11, (53, 0, 0, 0), []),
  (45, .aload_n 0, (0, 0, 0, 0), []),
  (46, .getfield 17, (3, 1, 0, 0), []),
  (49, .iconst (-1), (0, 0, 0, 0), []),
  (50, .if_icmp .ne 8, (58, 0, 0, 0), []),
  (53, .aload_n 0, (0, 0, 0, 0), []),
  (54, .getfield 17, (3, 1, 0, 0), []),
  (57, .ireturn, (0, 0, 0, 0), []),
  (58, .aload_n 0, (0, 0, 0, 0), []),
  (59, .getfield 13, (3, 0, 124, 0), []),
  (62, .iconst 0, (0, 0, 0, 0), []),
  (63, .aaload, (24, 100, 0, 0), []),
  (64, .aload_n 0, (0, 0, 0, 0), []),
  (65, .getfield 17, (3, 1, 0, 0), []),
  (68, .invokevirtual 26, (24, 2, 0, 100), []),
  (71, .pop, (0, 0, 0, 0), []),
  (72, .iinc 4 1, (0, 0, 0, 0), []),
  (75, .goto (-62), (13, 0, 0, 0), []),
  (78, .iconst (-1), (0, 0, 0, 0), []),
  (79, .ireturn, (0, 0, 0, 0), [])]
def pg_Fo_search_0 : List AQ := [(0, .aload_n 0, (0, 0, 0, 0), []),
  (1, .getfield 13, (3, 0, 124, 0), []),
  (4, .iload_n 1, (1, 0, 0, 0), []),
  (5, .aaload, (24, 100, 0, 0), []),
  (6, .astore 5, (0, 0, 0, 0), []),
  (8, .ldc 30, (0, 0, 0, (-1000000)), []),
  (10, .istore 6, (0, 0, 0, 0), []),
  (12, .iconst (-1), (0, 0, 0, 0), []),
  (13, .istore 7, (0, 0, 0, 0), []),
  (15, .iload_n 2, (2, 0, 0, 0), []),
  (16, .ifCond .le 107, (123, 0, 0, 0), []),
  (19, .iload_n 1, (1, 0, 0, 0), []),
  (20, .iconst 5, (0, 0, 0, 0), []),
  (21, .if_icmp .ge 102, (123, 0, 0, 0), []),
  (24, .aload_n 0, (0, 0, 0, 0), []),
  (25, .getfield 13, (3, 0, 124, 0), []),
  (28, .iload_n 1, (1, 0, 0, 0), []),
  (29, .iconst 1, (0, 0, 0, 0), []),
  (30, .iadd, (0, 0, 0, 0), []),
  (31, .aaload, (24, 100, 0, 0), []),
  (32, .astore 8, (0, 0, 0, 0), []),
  (34, .iconst 0, (0, 0, 0, 0), []),
  (35, .istore 9, (0, 0, 0, 0), []),
  (37, .iload 9, (0, 0, 0, 0), []),
  (39, .aload 5, (0, 0, 0, 0), []),
  (41, .invokevirtual 36, (3, 1, 0, 100), []),
  (44, .if_icmp .ge 79, (123, 0, 0, 0), []),
  (47, .iload 6, (0, 0, 0, 0), []),
  (49, .iload 4, (0, 0, 0, 0), []),
  (51, .if_icmp .ge 72, (123, 0, 0, 0), []),
  (54, .aload 5, (0, 0, 0, 0), []),
  (56, .iload 9, (0, 0, 0, 0), []),
  (58, .invokevirtual 40, (15, 2, 0, 100), []),
  (61, .ifCond .eq 56, (117, 0, 0, 0), []),
  (64, .aload 8, (0, 0, 0, 0), []),
  (66, .aload 5, (0, 0, 0, 0), []),
  (68, .invokevirtual 22, (2, 2, 9, 100), []),
  (71, .aload 8, (0, 0, 0, 0), []),
  (73, .iload 9, (0, 0, 0, 0), []),
  (75, .invokevirtual 26, (24, 2, 0, 100), []),
  (78, .pop, (0, 0, 0, 0), []),
  (79, .aload_n 0, (0, 0, 0, 0), []),
  (80, .iload_n 1, (1, 0, 0, 0), []),
  (81, .iconst 1, (0, 0, 0, 0), []),
  (82, .iadd, (0, 0, 0, 0), []),
  (83, .iload_n 2, (2, 0, 0, 0), []),
  (84, .iconst 1, (0, 0, 0, 0), []),
  (85, .isub, (0, 0, 0, 0), []),
  (86, .iload 4, (0, 0, 0, 0), []),
  (88, .ineg, (0, 0, 0, 0), []),
  (89, .iload_n 3, (3, 0, 0, 0), []),
  (90, .iload 6, (0, 0, 0, 0), []),
  (92, .invokestatic 44, (1001, 2, 0, 0), []),
  (95, .ineg, (0, 0, 0, 0), []),
  (96, .invokevirtual 32, (55, 5, 0, 103), []),
  (99, .ineg, (0, 0, 0, 0), []),
  (100, .istore 10, (0, 0, 0, 0), []),
  (102, .iload 10, (0, 0, 0, 0), []),
  (104, .iload 6, (0, 0, 0, 0), []),
  (106, .if_icmp .le 11, (117, 0, 0, 0), [])]
def pg_Fo_search_1 : List AQ := [(109, .iload 10, (0, 0, 0, 0), []),
  (111, .istore 6, (0, 0, 0, 0), []),
  (113, .iload 9, (0, 0, 0, 0), []),
  (115, .istore 7, (0, 0, 0, 0), []),
  (117, .iinc 9 1, (0, 0, 0, 0), []),
  (120, .goto (-83), (37, 0, 0, 0), []),
  (123, .iload_n 1, (1, 0, 0, 0), []),
  (124, .ifCond .ne 9, (133, 0, 0, 0), []),
  (127, .aload_n 0, (0, 0, 0, 0), []),
  (128, .iload 7, (0, 0, 0, 0), []),
  (130, .putfield 17, (3, 1, 0, 0), []),
  (133, .iload 7, (0, 0, 0, 0), []),
  (135, .iconst (-1), (0, 0, 0, 0), []),
  (136, .if_icmp .ne 16, (152, 0, 0, 0), []),
  (139, .aload 5, (0, 0, 0, 0), []),
  (141, .aload 5, (0, 0, 0, 0), []),
  (143, .invokevirtual 50, (7, 1, 0, 100), []),
  (146, .invokevirtual 53, (9, 2, 0, 100), []),
  (149, .goto 5, (154, 0, 0, 0), []),
  (152, .iload 6, (0, 0, 0, 0), []),
  (154, .ireturn, (0, 0, 0, 0), [])]
def pg_Fo_search : List AQ := pg_Fo_search_0 ++ (pg_Fo_search_1)
def pg_Fo_rashBoard : List AQ := [(0, .aload_n 0, (0, 0, 0, 0), []),
  (1, .getfield 13, (3, 0, 124, 0), []),
  (4, .iconst 0, (0, 0, 0, 0), []),
  (5, .aaload, (24, 100, 0, 0), []),
  (6, .aload_n 1, (1, 0, 0, 0), []),
  (7, .invokevirtual 22, (2, 2, 9, 100), []),
  (10, .iconst 0, (0, 0, 0, 0), []),
  (11, .istore_n 3, (3, 0, 0, 0), []),
  (12, .iload_n 3, (3, 0, 0, 0), []),
  (13, .iload_n 2, (2, 0, 0, 0), []),
  (14, .if_icmp .ge 36, (50, 0, 0, 0), []),
  (17, .aload_n 0, (0, 0, 0, 0), []),
  (18, .invokevirtual 56, (57, 1, 0, 103), []),
  (21, .istore 4, (0, 0, 0, 0), []),
  (23, .iload 4, (0, 0, 0, 0), []),
  (25, .iconst (-1), (0, 0, 0, 0), []),
  (26, .if_icmp .ne 6, (32, 0, 0, 0), []),
  (29, .goto 21, (50, 0, 0, 0), []),
  (32, .aload_n 0, (0, 0, 0, 0), []),
  (33, .getfield 13, (3, 0, 124, 0), []),
  (36, .iconst 0, (0, 0, 0, 0), []),
  (37, .aaload, (24, 100, 0, 0), []),
  (38, .iload 4, (0, 0, 0, 0), []),
  (40, .invokevirtual 26, (24, 2, 0, 100), []),
  (43, .pop, (0, 0, 0, 0), []),
  (44, .iinc 3 1, (0, 0, 0, 0), []),
  (47, .goto (-35), (12, 0, 0, 0), []),
  (50, .aload_n 0, (0, 0, 0, 0), []),
  (51, .getfield 13, (3, 0, 124, 0), []),
  (54, .iconst 0, (0, 0, 0, 0), []),
  (55, .aaload, (24, 100, 0, 0), []),
  (56, .areturn, (100, 0, 0, 0), [])]
def pg_Fo_rashHouse : List AQ := [(0, .iconst (-1), (0, 0, 0, 0), []),
  (1, .istore_n 1, (1, 0, 0, 0), []),
  (2, .iconst (-1), (0, 0, 0, 0), []),
  (3, .istore_n 2, (2, 0, 0, 0), []),
  (4, .iconst 0, (0, 0, 0, 0), []),
  (5, .istore_n 3, (3, 0, 0, 0), []),
  (6, .iload_n 3, (3, 0, 0, 0), []),
  (7, .aload_n 0, (0, 0, 0, 0), []),
  (8, .getfield 13, (3, 0, 124, 0), []),
  (11, .iconst 0, (0, 0, 0, 0), []),
  (12, .aaload, (24, 100, 0, 0), []),
  (13, .invokevirtual 36, (3, 1, 0, 100), []),
  (16, .if_icmp .ge 60, (76, 0, 0, 0), []),
  (19, .aload_n 0, (0, 0, 0, 0), []),
  (20, .getfield 13, (3, 0, 124, 0), []),
  (23, .iconst 0, (0, 0, 0, 0), []),
  (24, .aaload, (24, 100, 0, 0), []),
  (25, .iload_n 3, (3, 0, 0, 0), []),
  (26, .invokevirtual 40, (15, 2, 0, 100), []),
  (29, .ifCond .eq 41, (70, 0, 0, 0), []),
  (32, .aload_n 0, (0, 0, 0, 0), []),
  (33, .getfield 13, (3, 0, 124, 0), []),
  (36, .iconst 1, (0, 0, 0, 0), []),
  (37, .aaload, (24, 100, 0, 0), []),
  (38, .aload_n 0, (0, 0, 0, 0), []),
  (39, .getfield 13, (3, 0, 124, 0), []),
  (42, .iconst 0, (0, 0, 0, 0), []),
  (43, .aaload, (24, 100, 0, 0), []),
  (44, .invokevirtual 22, (2, 2, 9, 100), []),
  (47, .aload_n 0, (0, 0, 0, 0), []),
  (48, .getfield 13, (3, 0, 124, 0), []),
  (51, .iconst 1, (0, 0, 0, 0), []),
  (52, .aaload, (24, 100, 0, 0), []),
  (53, .iload_n 3, (3, 0, 0, 0), []),
  (54, .invokevirtual 26, (24, 2, 0, 100), []),
  (57, .istore 4, (0, 0, 0, 0), []),
  (59, .iload 4, (0, 0, 0, 0), []),
  (61, .iload_n 1, (1, 0, 0, 0), []),
  (62, .if_icmp .le 8, (70, 0, 0, 0), []),
  (65, .iload 4, (0, 0, 0, 0), []),
  (67, .istore_n 1, (1, 0, 0, 0), []),
  (68, .iload_n 3, (3, 0, 0, 0), []),
  (69, .istore_n 2, (2, 0, 0, 0), []),
  (70, .iinc 3 1, (0, 0, 0, 0), []),
  (73, .goto (-67), (6, 0, 0, 0), []),
  (76, .iload_n 2, (2, 0, 0, 0), []),
  (77, .ireturn, (0, 0, 0, 0), [])]
def pg_Fo_bestGift : List AQ := [(0, .aload_n 0, (0, 0, 0, 0), []),
  (1, .getfield 13, (3, 0, 124, 0), []),
  (4, .iconst 0, (0, 0, 0, 0), []),
  (5, .aaload, (24, 100, 0, 0), []),
  (6, .aload_n 1, (1, 0, 0, 0), []),
  (7, .invokevirtual 22, (2, 2, 9, 100), []),
  (10, .aload_n 0, (0, 0, 0, 0), []),
  (11, .iconst 0, (0, 0, 0, 0), []),
  (12, .iload_n 2, (2, 0, 0, 0), []),
  (13, .ldc 30, (0, 0, 0, (-1000000)), []),
  (15, .ldc 31, (0, 0, 0, 1000000), []),
  (17, .invokevirtual 32, (55, 5, 0, 103), []),
  (20, .istore_n 3, (3, 0, 0, 0), []),
  (21, .iconst (-1), (0, 0, 0, 0), []),
  (22, .istore 4, (0, 0, 0, 0), []),
  (24, .iconst 0, (0, 0, 0, 0), []),
  (25, .istore 5, (0, 0, 0, 0), []),
  (27, .iload 5, (0, 0, 0, 0), []),
  (29, .aload_n 1, (1, 0, 0, 0), []),
  (30, .invokevirtual 36, (3, 1, 0, 100), []),
  (33, .if_icmp .ge 69, (102, 0, 0, 0), []),
  (36, .aload_n 1, (1, 0, 0, 0), []),
  (37, .iload 5, (0, 0, 0, 0), []),
  (39, .invokevirtual 59, (5, 2, 0, 100), []),
  (42, .aload_n 1, (1, 0, 0, 0), []),
  (43, .invokevirtual 50, (7, 1, 0, 100), []),
  (46, .if_icmp .ne 50, (96, 0, 0, 0), []),
  (49, .aload_n 0, (0, 0, 0, 0), []),
  (50, .getfield 13, (3, 0, 124, 0), []),
  (53, .iconst 0, (0, 0, 0, 0), []),
  (54, .aaload, (24, 100, 0, 0), []),
  (55, .aload_n 1, (1, 0, 0, 0), []),
  (56, .invokevirtual 22, (2, 2, 9, 100), []),
  (59, .aload_n 0, (0, 0, 0, 0), []),
  (60, .getfield 13, (3, 0, 124, 0), []),
  (63, .iconst 0, (0, 0, 0, 0), []),
  (64, .aaload, (24, 100, 0, 0), []),
  (65, .iload 5, (0, 0, 0, 0), []),
  (67, .iconst 1, (0, 0, 0, 0), []),
  (68, .invokevirtual 62, (22, 3, 9, 100), []),
  (71, .aload_n 0, (0, 0, 0, 0), []),
  (72, .iconst 0, (0, 0, 0, 0), []),
  (73, .iload_n 2, (2, 0, 0, 0), []),
  (74, .ldc 30, (0, 0, 0, (-1000000)), []),
  (76, .ldc 31, (0, 0, 0, 1000000), []),
  (78, .invokevirtual 32, (55, 5, 0, 103), []),
  (81, .istore 6, (0, 0, 0, 0), []),
  (83, .iload 6, (0, 0, 0, 0), []),
  (85, .iload_n 3, (3, 0, 0, 0), []),
  (86, .if_icmp .le 10, (96, 0, 0, 0), []),
  (89, .iload 6, (0, 0, 0, 0), []),
  (91, .istore_n 3, (3, 0, 0, 0), []),
  (92, .iload 5, (0, 0, 0, 0), []),
  (94, .istore 4, (0, 0, 0, 0), []),
  (96, .iinc 5 1, (0, 0, 0, 0), []),
  (99, .goto (-72), (27, 0, 0, 0), []),
  (102, .iload 4, (0, 0, 0, 0), []),
  (104, .ireturn, (0, 0, 0, 0), [])]
def pg_Fo_odds : List AQ := [(0, .aload_n 0, (0, 0, 0, 0), []),
  (1, .getfield 13, (3, 0, 124, 0), []),
  (4, .iconst 0, (0, 0, 0, 0), []),
  (5, .aaload, (24, 100, 0, 0), []),
  (6, .aload_n 1, (1, 0, 0, 0), []),
  (7, .invokevirtual 22, (2, 2, 9, 100), []),
  (10, .aload_n 0, (0, 0, 0, 0), []),
  (11, .iconst 0, (0, 0, 0, 0), []),
  (12, .iload_n 2, (2, 0, 0, 0), []),
  (13, .ldc 66, (0, 0, 0, 216000), []),
  (15, .aload_n 1, (1, 0, 0, 0), []),
  (16, .invokevirtual 50, (7, 1, 0, 100), []),
  (19, .invokevirtual 67, (60, 5, 0, 103), []),
  (22, .istore 4, (0, 0, 0, 0), []),
  (24, .ldc 66, (0, 0, 0, 216000), []),
  (26, .iload 4, (0, 0, 0, 0), []),
  (28, .invokestatic 70, (61, 2, 0, 0), []),
  (31, .istore 5, (0, 0, 0, 0), []),
  (33, .iload 5, (0, 0, 0, 0), []),
  (35, .ifCond .gt 5, (40, 0, 0, 0), []),
  (38, .iconst 0, (0, 0, 0, 0), []),
  (39, .ireturn, (0, 0, 0, 0), []),
  (40, .iload_n 3, (3, 0, 0, 0), []),
  (41, .ifCond .ne 11, (52, 0, 0, 0), []),
  (44, .iload 4, (0, 0, 0, 0), []),
  (46, .iload 5, (0, 0, 0, 0), []),
  (48, .idiv, (0, 0, 0, 0), []),
  (49, .goto 8, (57, 0, 0, 0), []),
  (52, .ldc 66, (0, 0, 0, 216000), []),
  (54, .iload 5, (0, 0, 0, 0), []),
  (56, .idiv, (0, 0, 0, 0), []),
  (57, .ireturn, (0, 0, 0, 0), [])]
def pg_Fo_leading_0 : List AQ := [(0, .aload_n 0, (0, 0, 0, 0), []),
  (1, .getfield 13, (3, 0, 124, 0), []),
  (4, .iload_n 1, (1, 0, 0, 0), []),
  (5, .aaload, (24, 100, 0, 0), []),
  (6, .astore 5, (0, 0, 0, 0), []),
  (8, .aload 5, (0, 0, 0, 0), []),
  (10, .invokevirtual 73, (16, 1, 0, 100), []),
  (13, .invokestatic 76, (201, 1, 0, 0), []),
  (16, .istore 6, (0, 0, 0, 0), []),
  (18, .iload_n 2, (2, 0, 0, 0), []),
  (19, .ifCond .le 13, (32, 0, 0, 0), []),
  (22, .iload 6, (0, 0, 0, 0), []),
  (24, .ifCond .le 8, (32, 0, 0, 0), []),
  (27, .iload_n 1, (1, 0, 0, 0), []),
  (28, .iconst 5, (0, 0, 0, 0), []),
  (29, .if_icmp .lt 19, (48, 0, 0, 0), []),
  (32, .aload 5, (0, 0, 0, 0), []),
  (34, .iload 4, (0, 0, 0, 0), []),
  (36, .invokevirtual 53, (9, 2, 0, 100), []),
  (39, .ifCond .le 7, (46, 0, 0, 0), []),
  (42, .iload_n 3, (3, 0, 0, 0), []),
  (43, .goto 4, (47, 0, 0, 0), []),
  (46, .iconst 0, (0, 0, 0, 0), []),
  (47, .ireturn, (0, 0, 0, 0), []),
  (48, .aload_n 0, (0, 0, 0, 0), []),
  (49, .getfield 13, (3, 0, 124, 0), []),
  (52, .iload_n 1, (1, 0, 0, 0), []),
  (53, .iconst 1, (0, 0, 0, 0), []),
  (54, .iadd, (0, 0, 0, 0), []),
  (55, .aaload, (24, 100, 0, 0), []),
  (56, .astore 7, (0, 0, 0, 0), []),
  (58, .iconst 0, (0, 0, 0, 0), []),
  (59, .istore 8, (0, 0, 0, 0), []),
  (61, .iconst 0, (0, 0, 0, 0), []),
  (62, .istore 9, (0, 0, 0, 0), []),
  (64, .iload 9, (0, 0, 0, 0), []),
  (66, .aload 5, (0, 0, 0, 0), []),
  (68, .invokevirtual 36, (3, 1, 0, 100), []),
  (71, .if_icmp .ge 55, (126, 0, 0, 0), []),
  (74, .aload 5, (0, 0, 0, 0), []),
  (76, .iload 9, (0, 0, 0, 0), []),
  (78, .invokevirtual 40, (15, 2, 0, 100), []),
  (81, .ifCond .eq 39, (120, 0, 0, 0), []),
  (84, .aload 7, (0, 0, 0, 0), []),
  (86, .aload 5, (0, 0, 0, 0), []),
  (88, .invokevirtual 22, (2, 2, 9, 100), []),
  (91, .aload 7, (0, 0, 0, 0), []),
  (93, .iload 9, (0, 0, 0, 0), []),
  (95, .invokevirtual 26, (24, 2, 0, 100), []),
  (98, .pop, (0, 0, 0, 0), []),
  (99, .iload 8, (0, 0, 0, 0), []),
  (101, .aload_n 0, (0, 0, 0, 0), []),
  (102, .iload_n 1, (1, 0, 0, 0), []),
  (103, .iconst 1, (0, 0, 0, 0), []),
  (104, .iadd, (0, 0, 0, 0), []),
  (105, .iload_n 2, (2, 0, 0, 0), []),
  (106, .iconst 1, (0, 0, 0, 0), []),
  (107, .isub, (0, 0, 0, 0), []),
  (108, .iload_n 3, (3, 0, 0, 0), []),
  (109, .iload 6, (0, 0, 0, 0), [])]
def pg_Fo_leading_1 : List AQ := [(111, .idiv, (0, 0, 0, 0), []),
  (112, .iload 4, (0, 0, 0, 0), []),
  (114, .invokevirtual 67, (60, 5, 0, 103), []),
  (117, .iadd, (0, 0, 0, 0), []),
  (118, .istore 8, (0, 0, 0, 0), []),
  (120, .iinc 9 1, (0, 0, 0, 0), []),
  (123, .goto (-59), (64, 0, 0, 0), []),
  (126, .iload 8, (0, 0, 0, 0), []),
  (128, .ireturn, (0, 0, 0, 0), [])]
def pg_Fo_leading : List AQ := pg_Fo_leading_0 ++ (pg_Fo_leading_1)
def pg_Fo_commonDivisor : List AQ := [(0, .iload_n 0, (0, 0, 0, 0), []),
  (1, .istore_n 2, (2, 0, 0, 0), []),
  (2, .iload_n 1, (1, 0, 0, 0), []),
  (3, .istore_n 3, (3, 0, 0, 0), []),
  (4, .iconst 0, (0, 0, 0, 0), []),
  (5, .istore 4, (0, 0, 0, 0), []),
  (7, .iload 4, (0, 0, 0, 0), []),
  (9, .bipush 64, (0, 0, 0, 0), []),
  (11, .if_icmp .ge 23, (34, 0, 0, 0), []),
  (14, .iload_n 3, (3, 0, 0, 0), []),
  (15, .ifCond .le 19, (34, 0, 0, 0), []),
  (18, .iload_n 2, (2, 0, 0, 0), []),
  (19, .iload_n 3, (3, 0, 0, 0), []),
  (20, .irem, (0, 0, 0, 0), []),
  (21, .istore 5, (0, 0, 0, 0), []),
  (23, .iload_n 3, (3, 0, 0, 0), []),
  (24, .istore_n 2, (2, 0, 0, 0), []),
  (25, .iload 5, (0, 0, 0, 0), []),
  (27, .istore_n 3, (3, 0, 0, 0), []),
  (28, .iinc 4 1, (0, 0, 0, 0), []),
  (31, .goto (-24), (7, 0, 0, 0), []),
  (34, .iload_n 2, (2, 0, 0, 0), []),
  (35, .ireturn, (0, 0, 0, 0), [])]
def pg_Ki_isUnder : List AQ := [(0, .iload_n 0, (0, 0, 0, 0), []),
  (1, .iconst 0, (0, 0, 0, 0), []),
  (2, .iconst 4, (0, 0, 0, 0), []),
  (3, .invokestatic 9, (121, 3, 0, 0), []),
  (6, .ifCond .eq 29, (35, 0, 0, 0), []),
  (9, .iload_n 1, (1, 0, 0, 0), []),
  (10, .iconst 0, (0, 0, 0, 0), []),
  (11, .iconst 5, (0, 0, 0, 0), []),
  (12, .invokestatic 9, (121, 3, 0, 0), []),
  (15, .ifCond .eq 20, (35, 0, 0, 0), []),
  (18, .getstatic 15, (0, 0, 0, 0), []),
  (21, .iload_n 0, (0, 0, 0, 0), []),
  (22, .iaload, (26, 0, 0, 0), []),
  (23, .iload_n 1, (1, 0, 0, 0), []),
  (24, .ishr, (0, 0, 0, 0), []),
  (25, .iconst 1, (0, 0, 0, 0), []),
  (26, .iand, (0, 0, 0, 0), []),
  (27, .iconst 1, (0, 0, 0, 0), []),
  (28, .if_icmp .ne 7, (35, 0, 0, 0), []),
  (31, .iconst 1, (0, 0, 0, 0), []),
  (32, .goto 4, (36, 0, 0, 0), []),
  (35, .iconst 0, (0, 0, 0, 0), []),
  (36, .ireturn, (6, 0, 0, 0), [])]
def pg_Ki_lifted : List AQ := [(0, .iload_n 0, (0, 0, 0, 0), []),
  (1, .tableswitch 51 1 4 #[31, 51, 43, 45], (52, 0, 0, 0), [(1, 32), (2, 52), (3, 44), (4, 46)]),
  (32, .iload_n 1, (1, 0, 0, 0), []),
  (33, .ifCond .le 9, (42, 0, 0, 0), []),
  (36, .iload_n 1, (1, 0, 0, 0), []),
  (37, .iconst 1, (0, 0, 0, 0), []),
  (38, .isub, (0, 0, 0, 0), []),
  (39, .goto 4, (43, 0, 0, 0), []),
  (42, .iconst 0, (0, 0, 0, 0), []),
  (43, .ireturn, (0, 0, 0, 0), []),
  (44, .iconst 0, (0, 0, 0, 0), []),
  (45, .ireturn, (0, 0, 0, 0), []),
  (46, .iload_n 1, (1, 0, 0, 0), []),
  (47, .iconst 1, (0, 0, 0, 0), []),
  (48, .iadd, (0, 0, 0, 0), []),
  (49, .iconst 2, (0, 0, 0, 0), []),
  (50, .idiv, (0, 0, 0, 0), []),
  (51, .ireturn, (0, 0, 0, 0), []),
  (52, .iload_n 1, (1, 0, 0, 0), []),
  (53, .ireturn, (0, 0, 0, 0), [])]
def pg_Ki_takes : List AQ := [(0, .iload_n 0, (0, 0, 0, 0), []),
  (1, .lookupswitch 40 #[(3, 27), (4, 29)], (41, 0, 0, 0), [(3, 28), (4, 30)]),
  (28, .iconst 0, (0, 0, 0, 0), []),
  (29, .ireturn, (6, 0, 0, 0), []),
  (30, .iload_n 1, (1, 0, 0, 0), []),
  (31, .iconst 2, (0, 0, 0, 0), []),
  (32, .if_icmp .gt 7, (39, 0, 0, 0), []),
  (35, .iconst 1, (0, 0, 0, 0), []),
  (36, .goto 4, (40, 0, 0, 0), []),
  (39, .iconst 0, (0, 0, 0, 0), []),
  (40, .ireturn, (6, 0, 0, 0), []),
  (41, .iload_n 1, (1, 0, 0, 0), []),
  (42, .bipush 99, (0, 0, 0, 0), []),
  (44, .if_icmp .ge 7, (51, 0, 0, 0), []),
  (47, .iconst 1, (0, 0, 0, 0), []),
  (48, .goto 4, (52, 0, 0, 0), []),
  (51, .iconst 0, (0, 0, 0, 0), []),
  (52, .ireturn, (6, 0, 0, 0), [])]
def pg_Ki_yields : List AQ := [(0, .iload_n 0, (0, 0, 0, 0), []),
  (1, .tableswitch 45 2 4 #[29, 27, 27], (46, 0, 0, 0), [(2, 30), (3, 28), (4, 28)]),
  (28, .iconst 0, (0, 0, 0, 0), []),
  (29, .ireturn, (6, 0, 0, 0), []),
  (30, .iload_n 1, (1, 0, 0, 0), []),
  (31, .iconst 2, (0, 0, 0, 0), []),
  (32, .if_icmp .lt 12, (44, 0, 0, 0), []),
  (35, .iload_n 1, (1, 0, 0, 0), []),
  (36, .iconst 5, (0, 0, 0, 0), []),
  (37, .if_icmp .gt 7, (44, 0, 0, 0), []),
  (40, .iconst 1, (0, 0, 0, 0), []),
  (41, .goto 4, (45, 0, 0, 0), []),
  (44, .iconst 0, (0, 0, 0, 0), []),
  (45, .ireturn, (6, 0, 0, 0), []),
  (46, .iload_n 1, (1, 0, 0, 0), []),
  (47, .iconst 2, (0, 0, 0, 0), []),
  (48, .if_icmp .lt 12, (60, 0, 0, 0), []),
  (51, .iload_n 1, (1, 0, 0, 0), []),
  (52, .iconst 3, (0, 0, 0, 0), []),
  (53, .if_icmp .gt 7, (60, 0, 0, 0), []),
  (56, .iconst 1, (0, 0, 0, 0), []),
  (57, .goto 4, (61, 0, 0, 0), []),
  (60, .iconst 0, (0, 0, 0, 0), []),
  (61, .ireturn, (6, 0, 0, 0), [])]
def pg_Si_init : List AQ := [(0, .aload_n 0, (0, 0, 0, 0), []),
  (1, .invokespecial 3, (999, 104, 9, 0), []),
  (4, .aload_n 0, (0, 0, 0, 0), []),
  (5, .bipush 6, (0, 0, 0, 0), []),
  (7, .newarray .int, (20, 0, 0, 0), []),
  (9, .putfield 11, (4, 0, 120, 0), []),
  (12, .aload_n 0, (0, 0, 0, 0), []),
  (13, .bipush 6, (0, 0, 0, 0), []),
  (15, .newarray .int, (20, 0, 0, 0), []),
  (17, .putfield 15, (4, 1, 120, 0), []),
  (20, .aload_n 0, (0, 0, 0, 0), []),
  (21, .bipush 6, (0, 0, 0, 0), []),
  (23, .newarray .boolean, (21, 0, 0, 0), []),
  (25, .putfield 18, (4, 2, 121, 0), []),
  (28, .aload_n 0, (0, 0, 0, 0), []),
  (29, .bipush 6, (0, 0, 0, 0), []),
  (31, .newarray .boolean, (21, 0, 0, 0), []),
  (33, .putfield 22, (4, 3, 121, 0), []),
  (36, .aload_n 0, (0, 0, 0, 0), []),
  (37, .iconst 0, (0, 0, 0, 0), []),
  (38, .putfield 25, (4, 4, 0, 0), []),
  (41, .return_, (0, 0, 0, 0), [])]
def pg_Si_add : List AQ := [(0, .aload_n 0, (0, 0, 0, 0), []),
  (1, .getfield 25, (4, 4, 0, 0), []),
  (4, .bipush 6, (0, 0, 0, 0), []),
  (6, .if_icmp .lt 5, (11, 0, 0, 0), []),
  (9, .iconst 0, (0, 0, 0, 0), []),
  (10, .ireturn, (6, 0, 0, 0), []),
  (11, .aload_n 0, (0, 0, 0, 0), []),
  (12, .getfield 11, (4, 0, 120, 0), []),
  (15, .aload_n 0, (0, 0, 0, 0), []),
  (16, .getfield 25, (4, 4, 0, 0), []),
  (19, .iload_n 1, (1, 0, 0, 0), []),
  (20, .iastore, (0, 0, 0, 0), []),
  (21, .aload_n 0, (0, 0, 0, 0), []),
  (22, .getfield 15, (4, 1, 120, 0), []),
  (25, .aload_n 0, (0, 0, 0, 0), []),
  (26, .getfield 25, (4, 4, 0, 0), []),
  (29, .iload_n 2, (2, 0, 0, 0), []),
  (30, .iastore, (0, 0, 0, 0), []),
  (31, .aload_n 0, (0, 0, 0, 0), []),
  (32, .getfield 18, (4, 2, 121, 0), []),
  (35, .aload_n 0, (0, 0, 0, 0), []),
  (36, .getfield 25, (4, 4, 0, 0), []),
  (39, .iload_n 3, (3, 0, 0, 0), []),
  (40, .bastore, (0, 0, 0, 0), []),
  (41, .aload_n 0, (0, 0, 0, 0), []),
  (42, .getfield 22, (4, 3, 121, 0), []),
  (45, .aload_n 0, (0, 0, 0, 0), []),
  (46, .getfield 25, (4, 4, 0, 0), []),
  (49, .iload 4, (0, 0, 0, 0), []),
  (51, .bastore, (0, 0, 0, 0), []),
  (52, .aload_n 0, (0, 0, 0, 0), []),
  (53, .dup, (0, 0, 0, 0), []),
  (54, .getfield 25, (4, 4, 0, 0), []),
  (57, .iconst 1, (0, 0, 0, 0), []),
  (58, .iadd, (0, 0, 0, 0), []),
  (59, .putfield 25, (4, 4, 0, 0), []),
  (62, .iconst 1, (0, 0, 0, 0), []),
  (63, .ireturn, (6, 0, 0, 0), [])]
def pg_Si_clear : List AQ := [(0, .aload_n 0, (0, 0, 0, 0), []),
  (1, .iconst 0, (0, 0, 0, 0), []),
  (2, .putfield 25, (4, 4, 0, 0), []),
  (5, .return_, (0, 0, 0, 0), [])]
def pg_Si_size : List AQ := [(0, .aload_n 0, (0, 0, 0, 0), []),
  (1, .getfield 25, (4, 4, 0, 0), []),
  (4, .ireturn, (0, 0, 0, 0), [])]
def pg_Si_possible : List AQ := [(0, .iconst 0, (0, 0, 0, 0), []),
  (1, .istore_n 1, (1, 0, 0, 0), []),
  (2, .iconst 0, (0, 0, 0, 0), []),
  (3, .istore_n 2, (2, 0, 0, 0), []),
  (4, .iload_n 2, (2, 0, 0, 0), []),
  (5, .iconst 5, (0, 0, 0, 0), []),
  (6, .if_icmp .ge 27, (33, 0, 0, 0), []),
  (9, .iload_n 1, (1, 0, 0, 0), []),
  (10, .aload_n 0, (0, 0, 0, 0), []),
  (11, .iload_n 2, (2, 0, 0, 0), []),
  (12, .invokevirtual 31, (71, 2, 0, 104), []),
  (15, .ifCond .eq 9, (24, 0, 0, 0), []),
  (18, .iconst 1, (0, 0, 0, 0), []),
  (19, .iload_n 2, (2, 0, 0, 0), []),
  (20, .ishl, (0, 0, 0, 0), []),
  (21, .goto 4, (25, 0, 0, 0), []),
  (24, .iconst 0, (0, 0, 0, 0), []),
  (25, .ior, (0, 0, 0, 0), []),
  (26, .istore_n 1, (1, 0, 0, 0), []),
  (27, .iinc 2 1, (0, 0, 0, 0), []),
  (30, .goto (-26), (4, 0, 0, 0), []),
  (33, .iload_n 1, (1, 0, 0, 0), []),
  (34, .ireturn, (0, 0, 0, 0), [])]
def pg_Si_fits : List AQ := [(0, .iconst 0, (0, 0, 0, 0), []),
  (1, .istore_n 2, (2, 0, 0, 0), []),
  (2, .iload_n 2, (2, 0, 0, 0), []),
  (3, .aload_n 0, (0, 0, 0, 0), []),
  (4, .getfield 25, (4, 4, 0, 0), []),
  (7, .if_icmp .ge 78, (85, 0, 0, 0), []),
  (10, .iload_n 1, (1, 0, 0, 0), []),
  (11, .aload_n 0, (0, 0, 0, 0), []),
  (12, .getfield 11, (4, 0, 120, 0), []),
  (15, .iload_n 2, (2, 0, 0, 0), []),
  (16, .iaload, (20, 0, 0, 0), []),
  (17, .invokestatic 35, (63, 2, 0, 0), []),
  (20, .aload_n 0, (0, 0, 0, 0), []),
  (21, .getfield 15, (4, 1, 120, 0), []),
  (24, .iload_n 2, (2, 0, 0, 0), []),
  (25, .iaload, (20, 0, 0, 0), []),
  (26, .if_icmp .ne 45, (71, 0, 0, 0), []),
  (29, .iload_n 1, (1, 0, 0, 0), []),
  (30, .aload_n 0, (0, 0, 0, 0), []),
  (31, .getfield 11, (4, 0, 120, 0), []),
  (34, .iload_n 2, (2, 0, 0, 0), []),
  (35, .iaload, (20, 0, 0, 0), []),
  (36, .invokestatic 38, (64, 2, 0, 0), []),
  (39, .aload_n 0, (0, 0, 0, 0), []),
  (40, .getfield 18, (4, 2, 121, 0), []),
  (43, .iload_n 2, (2, 0, 0, 0), []),
  (44, .baload, (0, 0, 0, 0), []),
  (45, .if_icmp .ne 26, (71, 0, 0, 0), []),
  (48, .iload_n 1, (1, 0, 0, 0), []),
  (49, .aload_n 0, (0, 0, 0, 0), []),
  (50, .getfield 11, (4, 0, 120, 0), []),
  (53, .iload_n 2, (2, 0, 0, 0), []),
  (54, .iaload, (20, 0, 0, 0), []),
  (55, .invokestatic 41, (65, 2, 0, 0), []),
  (58, .aload_n 0, (0, 0, 0, 0), []),
  (59, .getfield 22, (4, 3, 121, 0), []),
  (62, .iload_n 2, (2, 0, 0, 0), []),
  (63, .baload, (0, 0, 0, 0), []),
  (64, .if_icmp .ne 7, (71, 0, 0, 0), []),
  (67, .iconst 1, (0, 0, 0, 0), []),
  (68, .goto 4, (72, 0, 0, 0), []),
  (71, .iconst 0, (0, 0, 0, 0), []),
  (72, .istore_n 3, (3, 0, 0, 0), []),
  (73, .iload_n 3, (3, 0, 0, 0), []),
  (74, .ifCond .ne 5, (79, 0, 0, 0), []),
  (77, .iconst 0, (0, 0, 0, 0), []),
  (78, .ireturn, (6, 0, 0, 0), []),
  (79, .iinc 2 1, (0, 0, 0, 0), []),
  (82, .goto (-80), (2, 0, 0, 0), []),
  (85, .iconst 1, (0, 0, 0, 0), []),
  (86, .ireturn, (6, 0, 0, 0), [])]
def pg_Si_question : List AQ := [(0, .aload_n 0, (0, 0, 0, 0), []),
  (1, .invokevirtual 43, (70, 1, 0, 104), []),
  (4, .istore_n 1, (1, 0, 0, 0), []),
  (5, .iload_n 1, (1, 0, 0, 0), []),
  (6, .invokestatic 47, (201, 1, 0, 0), []),
  (9, .istore_n 2, (2, 0, 0, 0), []),
  (10, .iconst (-1), (0, 0, 0, 0), []),
  (11, .istore_n 3, (3, 0, 0, 0), []),
  (12, .iconst 0, (0, 0, 0, 0), []),
  (13, .istore 4, (0, 0, 0, 0), []),
  (15, .iload 4, (0, 0, 0, 0), []),
  (17, .bipush 12, (0, 0, 0, 0), []),
  (19, .if_icmp .gt 29, (48, 0, 0, 0), []),
  (22, .iload_n 1, (1, 0, 0, 0), []),
  (23, .iload 4, (0, 0, 0, 0), []),
  (25, .invokestatic 53, (73, 2, 0, 0), []),
  (28, .istore 5, (0, 0, 0, 0), []),
  (30, .iload 5, (0, 0, 0, 0), []),
  (32, .iload_n 2, (2, 0, 0, 0), []),
  (33, .if_icmp .ge 9, (42, 0, 0, 0), []),
  (36, .iload 5, (0, 0, 0, 0), []),
  (38, .istore_n 2, (2, 0, 0, 0), []),
  (39, .iload 4, (0, 0, 0, 0), []),
  (41, .istore_n 3, (3, 0, 0, 0), []),
  (42, .iinc 4 1, (0, 0, 0, 0), []),
  (45, .goto (-30), (15, 0, 0, 0), []),
  (48, .iload_n 3, (3, 0, 0, 0), []),
  (49, .ireturn, (0, 0, 0, 0), [])]
def pg_Si_greatestPart : List AQ := [(0, .iconst 0, (0, 0, 0, 0), []),
  (1, .istore_n 2, (2, 0, 0, 0), []),
  (2, .iconst 0, (0, 0, 0, 0), []),
  (3, .istore_n 3, (3, 0, 0, 0), []),
  (4, .iload_n 3, (3, 0, 0, 0), []),
  (5, .iconst 5, (0, 0, 0, 0), []),
  (6, .if_icmp .ge 85, (91, 0, 0, 0), []),
  (9, .iconst 0, (0, 0, 0, 0), []),
  (10, .istore 4, (0, 0, 0, 0), []),
  (12, .iconst 0, (0, 0, 0, 0), []),
  (13, .istore 5, (0, 0, 0, 0), []),
  (15, .iload 5, (0, 0, 0, 0), []),
  (17, .iconst 5, (0, 0, 0, 0), []),
  (18, .if_icmp .ge 60, (78, 0, 0, 0), []),
  (21, .iload_n 0, (0, 0, 0, 0), []),
  (22, .iload_n 3, (3, 0, 0, 0), []),
  (23, .ishr, (0, 0, 0, 0), []),
  (24, .iconst 1, (0, 0, 0, 0), []),
  (25, .iand, (0, 0, 0, 0), []),
  (26, .iconst 1, (0, 0, 0, 0), []),
  (27, .if_icmp .ne 17, (44, 0, 0, 0), []),
  (30, .iload_n 0, (0, 0, 0, 0), []),
  (31, .iload 5, (0, 0, 0, 0), []),
  (33, .ishr, (0, 0, 0, 0), []),
  (34, .iconst 1, (0, 0, 0, 0), []),
  (35, .iand, (0, 0, 0, 0), []),
  (36, .iconst 1, (0, 0, 0, 0), []),
  (37, .if_icmp .ne 7, (44, 0, 0, 0), []),
  (40, .iconst 1, (0, 0, 0, 0), []),
  (41, .goto 4, (45, 0, 0, 0), []),
  (44, .iconst 0, (0, 0, 0, 0), []),
  (45, .istore 6, (0, 0, 0, 0), []),
  (47, .iload 4, (0, 0, 0, 0), []),
  (49, .iload 6, (0, 0, 0, 0), []),
  (51, .ifCond .eq 17, (68, 0, 0, 0), []),
  (54, .iload_n 3, (3, 0, 0, 0), []),
  (55, .iload 5, (0, 0, 0, 0), []),
  (57, .iload_n 1, (1, 0, 0, 0), []),
  (58, .invokestatic 56, (74, 3, 0, 0), []),
  (61, .ifCond .eq 7, (68, 0, 0, 0), []),
  (64, .iconst 1, (0, 0, 0, 0), []),
  (65, .goto 4, (69, 0, 0, 0), []),
  (68, .iconst 0, (0, 0, 0, 0), []),
  (69, .iadd, (0, 0, 0, 0), []),
  (70, .istore 4, (0, 0, 0, 0), []),
  (72, .iinc 5 1, (0, 0, 0, 0), []),
  (75, .goto (-60), (15, 0, 0, 0), []),
  (78, .iload_n 2, (2, 0, 0, 0), []),
  (79, .iload 4, (0, 0, 0, 0), []),
  (81, .invokestatic 60, (1001, 2, 0, 0), []),
  (84, .istore_n 2, (2, 0, 0, 0), []),
  (85, .iinc 3 1, (0, 0, 0, 0), []),
  (88, .goto (-84), (4, 0, 0, 0), []),
  (91, .iload_n 2, (2, 0, 0, 0), []),
  (92, .ireturn, (0, 0, 0, 0), [])]
def pg_Si_doAlike : List AQ := [(0, .iload_n 0, (0, 0, 0, 0), []),
  (1, .iload_n 2, (2, 0, 0, 0), []),
  (2, .invokestatic 35, (63, 2, 0, 0), []),
  (5, .iload_n 1, (1, 0, 0, 0), []),
  (6, .iload_n 2, (2, 0, 0, 0), []),
  (7, .invokestatic 35, (63, 2, 0, 0), []),
  (10, .if_icmp .ne 33, (43, 0, 0, 0), []),
  (13, .iload_n 0, (0, 0, 0, 0), []),
  (14, .iload_n 2, (2, 0, 0, 0), []),
  (15, .invokestatic 38, (64, 2, 0, 0), []),
  (18, .iload_n 1, (1, 0, 0, 0), []),
  (19, .iload_n 2, (2, 0, 0, 0), []),
  (20, .invokestatic 38, (64, 2, 0, 0), []),
  (23, .if_icmp .ne 20, (43, 0, 0, 0), []),
  (26, .iload_n 0, (0, 0, 0, 0), []),
  (27, .iload_n 2, (2, 0, 0, 0), []),
  (28, .invokestatic 41, (65, 2, 0, 0), []),
  (31, .iload_n 1, (1, 0, 0, 0), []),
  (32, .iload_n 2, (2, 0, 0, 0), []),
  (33, .invokestatic 41, (65, 2, 0, 0), []),
  (36, .if_icmp .ne 7, (43, 0, 0, 0), []),
  (39, .iconst 1, (0, 0, 0, 0), []),
  (40, .goto 4, (44, 0, 0, 0), []),
  (43, .iconst 0, (0, 0, 0, 0), []),
  (44, .ireturn, (6, 0, 0, 0), [])]
def pg_Te_init : List AQ := [(0, .aload_n 0, (0, 0, 0, 0), []),
  (1, .invokespecial 5, (999, 105, 9, 0), []),
  (4, .aload_n 0, (0, 0, 0, 0), []),
  (5, .sipush 200, (0, 0, 0, 0), []),
  (8, .newarray .char, (22, 0, 0, 0), []),
  (10, .putfield 13, (5, 0, 122, 0), []),
  (13, .aload_n 0, (0, 0, 0, 0), []),
  (14, .iconst 0, (0, 0, 0, 0), []),
  (15, .putfield 17, (5, 1, 0, 0), []),
  (18, .aload_n 0, (0, 0, 0, 0), []),
  (19, .iconst 0, (0, 0, 0, 0), []),
  (20, .putfield 21, (5, 2, 0, 0), []),
  (23, .aload_n 0, (0, 0, 0, 0), []),
  (24, .iconst 0, (0, 0, 0, 0), []),
  (25, .putfield 24, (5, 3, 0, 0), []),
  (28, .aload_n 0, (0, 0, 0, 0), []),
  (29, .iconst 0, (0, 0, 0, 0), []),
  (30, .putfield 27, (5, 4, 0, 0), []),
  (33, .return_, (0, 0, 0, 0), [])]
def pg_Te_add : List AQ := [(0, .aload_n 0, (0, 0, 0, 0), []),
  (1, .getfield 17, (5, 1, 0, 0), []),
  (4, .sipush 200, (0, 0, 0, 0), []),
  (7, .if_icmp .lt 5, (12, 0, 0, 0), []),
  (10, .iconst 0, (0, 0, 0, 0), []),
  (11, .ireturn, (6, 0, 0, 0), []),
  (12, .aload_n 0, (0, 0, 0, 0), []),
  (13, .getfield 13, (5, 0, 122, 0), []),
  (16, .aload_n 0, (0, 0, 0, 0), []),
  (17, .getfield 17, (5, 1, 0, 0), []),
  (20, .iload_n 1, (1, 0, 0, 0), []),
  (21, .i2c, (0, 0, 0, 0), []),
  (22, .castore, (0, 0, 0, 0), []),
  (23, .aload_n 0, (0, 0, 0, 0), []),
  (24, .dup, (0, 0, 0, 0), []),
  (25, .getfield 17, (5, 1, 0, 0), []),
  (28, .iconst 1, (0, 0, 0, 0), []),
  (29, .iadd, (0, 0, 0, 0), []),
  (30, .putfield 17, (5, 1, 0, 0), []),
  (33, .iconst 1, (0, 0, 0, 0), []),
  (34, .ireturn, (6, 0, 0, 0), [])]
def pg_Te_clear : List AQ := [(0, .aload_n 0, (0, 0, 0, 0), []),
  (1, .iconst 0, (0, 0, 0, 0), []),
  (2, .putfield 17, (5, 1, 0, 0), []),
  (5, .return_, (0, 0, 0, 0), [])]
def pg_Te_length : List AQ := [(0, .aload_n 0, (0, 0, 0, 0), []),
  (1, .getfield 17, (5, 1, 0, 0), []),
  (4, .ireturn, (0, 0, 0, 0), [])]
def pg_Te_clauses : List AQ := [(0, .aload_n 0, (0, 0, 0, 0), []),
  (1, .getfield 21, (5, 2, 0, 0), []),
  (4, .ireturn, (0, 0, 0, 0), [])]
def pg_Te_read : List AQ := [(0, .aload_n 0, (0, 0, 0, 0), []),
  (1, .iconst 0, (0, 0, 0, 0), []),
  (2, .putfield 27, (5, 4, 0, 0), []),
  (5, .aload_n 0, (0, 0, 0, 0), []),
  (6, .iconst 1, (0, 0, 0, 0), []),
  (7, .putfield 21, (5, 2, 0, 0), []),
  (10, .aload_n 0, (0, 0, 0, 0), []),
  (11, .getfield 21, (5, 2, 0, 0), []),
  (14, .bipush 24, (0, 0, 0, 0), []),
  (16, .if_icmp .gt 65, (81, 0, 0, 0), []),
  (19, .aload_n 0, (0, 0, 0, 0), []),
  (20, .aload_n 1, (1, 0, 0, 0), []),
  (21, .invokevirtual 30, (81, 2, 0, 105), []),
  (24, .ifCond .ne 8, (32, 0, 0, 0), []),
  (27, .aload_n 0, (0, 0, 0, 0), []),
  (28, .getfield 24, (5, 3, 0, 0), []),
  (31, .ireturn, (0, 0, 0, 0), []),
  (32, .aload_n 0, (0, 0, 0, 0), []),
  (33, .invokevirtual 34, (88, 1, 9, 105), []),
  (36, .aload_n 0, (0, 0, 0, 0), []),
  (37, .getfield 24, (5, 3, 0, 0), []),
  (40, .aload_n 0, (0, 0, 0, 0), []),
  (41, .getfield 17, (5, 1, 0, 0), []),
  (44, .if_icmp .lt 5, (49, 0, 0, 0), []),
  (47, .iconst (-1), (0, 0, 0, 0), []),
  (48, .ireturn, (0, 0, 0, 0), []),
  (49, .aload_n 0, (0, 0, 0, 0), []),
  (50, .getfield 13, (5, 0, 122, 0), []),
  (53, .aload_n 0, (0, 0, 0, 0), []),
  (54, .getfield 24, (5, 3, 0, 0), []),
  (57, .caload, (0, 0, 0, 0), []),
  (58, .bipush 59, (0, 0, 0, 0), []),
  (60, .if_icmp .eq 8, (68, 0, 0, 0), []),
  (63, .aload_n 0, (0, 0, 0, 0), []),
  (64, .getfield 24, (5, 3, 0, 0), []),
  (67, .ireturn, (0, 0, 0, 0), []),
  (68, .aload_n 0, (0, 0, 0, 0), []),
  (69, .dup, (0, 0, 0, 0), []),
  (70, .getfield 21, (5, 2, 0, 0), []),
  (73, .iconst 1, (0, 0, 0, 0), []),
  (74, .iadd, (0, 0, 0, 0), []),
  (75, .putfield 21, (5, 2, 0, 0), []),
  (78, .goto (-68), (10, 0, 0, 0), []),
  (81, .aload_n 0, (0, 0, 0, 0), []),
  (82, .getfield 24, (5, 3, 0, 0), []),
  (85, .ireturn, (0, 0, 0, 0), [])]
def pg_Te_readClause : List AQ := [(0, .aload_n 0, (0, 0, 0, 0), []),
  (1, .invokevirtual 34, (88, 1, 9, 105), []),
  (4, .aload_n 0, (0, 0, 0, 0), []),
  (5, .invokevirtual 37, (86, 1, 0, 105), []),
  (8, .istore_n 2, (2, 0, 0, 0), []),
  (9, .iload_n 2, (2, 0, 0, 0), []),
  (10, .iconst (-1), (0, 0, 0, 0), []),
  (11, .if_icmp .ne 5, (16, 0, 0, 0), []),
  (14, .iconst 0, (0, 0, 0, 0), []),
  (15, .ireturn, (6, 0, 0, 0), []),
  (16, .aload_n 0, (0, 0, 0, 0), []),
  (17, .iload_n 2, (2, 0, 0, 0), []),
  (18, .aload_n 1, (1, 0, 0, 0), []),
  (19, .invokevirtual 41, (3, 1, 0, 100), []),
  (22, .invokevirtual 46, (82, 3, 0, 105), []),
  (25, .istore_n 3, (3, 0, 0, 0), []),
  (26, .iload_n 3, (3, 0, 0, 0), []),
  (27, .iconst (-1), (0, 0, 0, 0), []),
  (28, .if_icmp .ne 5, (33, 0, 0, 0), []),
  (31, .iconst 0, (0, 0, 0, 0), []),
  (32, .ireturn, (6, 0, 0, 0), []),
  (33, .aload_n 0, (0, 0, 0, 0), []),
  (34, .iload_n 2, (2, 0, 0, 0), []),
  (35, .invokevirtual 50, (83, 2, 0, 105), []),
  (38, .istore 4, (0, 0, 0, 0), []),
  (40, .iload 4, (0, 0, 0, 0), []),
  (42, .iconst (-1), (0, 0, 0, 0), []),
  (43, .if_icmp .ne 5, (48, 0, 0, 0), []),
  (46, .iconst 0, (0, 0, 0, 0), []),
  (47, .ireturn, (6, 0, 0, 0), []),
  (48, .aload_n 1, (1, 0, 0, 0), []),
  (49, .iload_n 2, (2, 0, 0, 0), []),
  (50, .iload_n 3, (3, 0, 0, 0), []),
  (51, .iload 4, (0, 0, 0, 0), []),
  (53, .invokestatic 54, (84, 4, 9, 0), []),
  (56, .iconst 1, (0, 0, 0, 0), []),
  (57, .ireturn, (6, 0, 0, 0), [])]
def pg_Te_readFirst : List AQ := [(0, .iload_n 1, (1, 0, 0, 0), []),
  (1, .tableswitch 45 5 8 #[31, 45, 38, 38], (46, 0, 0, 0), [(5, 32), (6, 46), (7, 39), (8, 39)]),
  (32, .aload_n 0, (0, 0, 0, 0), []),
  (33, .iconst 2, (0, 0, 0, 0), []),
  (34, .iconst 5, (0, 0, 0, 0), []),
  (35, .invokevirtual 58, (85, 3, 0, 105), []),
  (38, .ireturn, (0, 0, 0, 0), []),
  (39, .aload_n 0, (0, 0, 0, 0), []),
  (40, .iconst 0, (0, 0, 0, 0), []),
  (41, .iconst 1, (0, 0, 0, 0), []),
  (42, .invokevirtual 58, (85, 3, 0, 105), []),
  (45, .ireturn, (0, 0, 0, 0), []),
  (46, .aload_n 0, (0, 0, 0, 0), []),
  (47, .iconst 0, (0, 0, 0, 0), []),
  (48, .iload_n 2, (2, 0, 0, 0), []),
  (49, .iconst 1, (0, 0, 0, 0), []),
  (50, .isub, (0, 0, 0, 0), []),
  (51, .invokevirtual 58, (85, 3, 0, 105), []),
  (54, .ireturn, (0, 0, 0, 0), [])]
def pg_Te_readSecond : List AQ := [(0, .iload_n 1, (1, 0, 0, 0), []),
  (1, .lookupswitch 43 #[(6, 27), (7, 35)], (44, 0, 0, 0), [(6, 28), (7, 36)]),
  (28, .aload_n 0, (0, 0, 0, 0), []),
  (29, .iconst 0, (0, 0, 0, 0), []),
  (30, .bipush 30, (0, 0, 0, 0), []),
  (32, .invokevirtual 58, (85, 3, 0, 105), []),
  (35, .ireturn, (0, 0, 0, 0), []),
  (36, .aload_n 0, (0, 0, 0, 0), []),
  (37, .iconst 0, (0, 0, 0, 0), []),
  (38, .bipush 99, (0, 0, 0, 0), []),
  (40, .invokevirtual 58, (85, 3, 0, 105), []),
  (43, .ireturn, (0, 0, 0, 0), []),
  (44, .iconst 0, (0, 0, 0, 0), []),
  (45, .ireturn, (0, 0, 0, 0), [])]
def pg_Te_perform : List AQ := [(0, .iload_n 1, (1, 0, 0, 0), []),
  (1, .tableswitch 65 5 8 #[31, 39, 48, 57], (66, 0, 0, 0), [(5, 32), (6, 40), (7, 49), (8, 58)]),
  (32, .aload_n 0, (0, 0, 0, 0), []),
  (33, .iload_n 2, (2, 0, 0, 0), []),
  (34, .invokevirtual 61, (1, 2, 9, 100), []),
  (37, .goto 35, (72, 0, 0, 0), []),
  (40, .aload_n 0, (0, 0, 0, 0), []),
  (41, .iload_n 2, (2, 0, 0, 0), []),
  (42, .iload_n 3, (3, 0, 0, 0), []),
  (43, .invokevirtual 65, (19, 3, 9, 100), []),
  (46, .goto 26, (72, 0, 0, 0), []),
  (49, .aload_n 0, (0, 0, 0, 0), []),
  (50, .iload_n 2, (2, 0, 0, 0), []),
  (51, .iload_n 3, (3, 0, 0, 0), []),
  (52, .invokevirtual 69, (20, 3, 9, 100), []),
  (55, .goto 17, (72, 0, 0, 0), []),
  (58, .aload_n 0, (0, 0, 0, 0), []),
  (59, .iload_n 2, (2, 0, 0, 0), []),
  (60, .invokevirtual 72, (21, 2, 9, 100), []),
  (63, .goto 9, (72, 0, 0, 0), []),
  (66, .aload_n 0, (0, 0, 0, 0), []),
  (67, .iload_n 2, (2, 0, 0, 0), []),
  (68, .iload_n 1, (1, 0, 0, 0), []),
  (69, .invokevirtual 75, (18, 3, 9, 100), []),
  (72, .return_, (0, 0, 0, 0), [])]
def pg_Te_readNumber : List AQ := [(0, .aload_n 0, (0, 0, 0, 0), []),
  (1, .invokevirtual 34, (88, 1, 9, 105), []),
  (4, .aload_n 0, (0, 0, 0, 0), []),
  (5, .aload_n 0, (0, 0, 0, 0), []),
  (6, .getfield 24, (5, 3, 0, 0), []),
  (9, .bipush 48, (0, 0, 0, 0), []),
  (11, .bipush 57, (0, 0, 0, 0), []),
  (13, .invokevirtual 78, (89, 4, 0, 105), []),
  (16, .ifCond .eq 16, (32, 0, 0, 0), []),
  (19, .aload_n 0, (0, 0, 0, 0), []),
  (20, .getfield 27, (5, 4, 0, 0), []),
  (23, .aload_n 0, (0, 0, 0, 0), []),
  (24, .getfield 24, (5, 3, 0, 0), []),
  (27, .isub, (0, 0, 0, 0), []),
  (28, .iconst 2, (0, 0, 0, 0), []),
  (29, .if_icmp .le 5, (34, 0, 0, 0), []),
  (32, .iconst (-1), (0, 0, 0, 0), []),
  (33, .ireturn, (0, 0, 0, 0), []),
  (34, .iconst 0, (0, 0, 0, 0), []),
  (35, .istore_n 3, (3, 0, 0, 0), []),
  (36, .aload_n 0, (0, 0, 0, 0), []),
  (37, .getfield 24, (5, 3, 0, 0), []),
  (40, .istore 4, (0, 0, 0, 0), []),
  (42, .iload 4, (0, 0, 0, 0), []),
  (44, .aload_n 0, (0, 0, 0, 0), []),
  (45, .getfield 27, (5, 4, 0, 0), []),
  (48, .if_icmp .ge 25, (73, 0, 0, 0), []),
  (51, .bipush 10, (0, 0, 0, 0), []),
  (53, .iload_n 3, (3, 0, 0, 0), []),
  (54, .imul, (0, 0, 0, 0), []),
  (55, .aload_n 0, (0, 0, 0, 0), []),
  (56, .getfield 13, (5, 0, 122, 0), []),
  (59, .iload 4, (0, 0, 0, 0), []),
  (61, .caload, (0, 0, 0, 0), []),
  (62, .iadd, (0, 0, 0, 0), []),
  (63, .bipush 48, (0, 0, 0, 0), []),
  (65, .isub, (0, 0, 0, 0), []),
  (66, .istore_n 3, (3, 0, 0, 0), []),
  (67, .iinc 4 1, (0, 0, 0, 0), []),
  (70, .goto (-28), (42, 0, 0, 0), []),
  (73, .iload_n 3, (3, 0, 0, 0), []),
  (74, .iload_n 1, (1, 0, 0, 0), []),
  (75, .iload_n 2, (2, 0, 0, 0), []),
  (76, .invokestatic 82, (121, 3, 0, 0), []),
  (79, .ifCond .eq 7, (86, 0, 0, 0), []),
  (82, .iload_n 3, (3, 0, 0, 0), []),
  (83, .goto 4, (87, 0, 0, 0), []),
  (86, .iconst (-1), (0, 0, 0, 0), []),
  (87, .ireturn, (0, 0, 0, 0), [])]
def pg_Te_word : List AQ := [(0, .aload_n 0, (0, 0, 0, 0), []),
  (1, .ldc 86, (1, 0, 0, 0), []),
  (3, .invokevirtual 88, (87, 2, 0, 105), []),
  (6, .ifCond .eq 5, (11, 0, 0, 0), []),
  (9, .iconst 0, (0, 0, 0, 0), []),
  (10, .ireturn, (0, 0, 0, 0), []),
  (11, .aload_n 0, (0, 0, 0, 0), []),
  (12, .ldc 92, (1, 0, 0, 1), []),
  (14, .invokevirtual 88, (87, 2, 0, 105), []),
  (17, .ifCond .eq 5, (22, 0, 0, 0), []),
  (20, .iconst 1, (0, 0, 0, 0), []),
  (21, .ireturn, (0, 0, 0, 0), []),
  (22, .aload_n 0, (0, 0, 0, 0), []),
  (23, .ldc 94, (1, 0, 0, 2), []),
  (25, .invokevirtual 88, (87, 2, 0, 105), []),
  (28, .ifCond .eq 5, (33, 0, 0, 0), []),
  (31, .iconst 2, (0, 0, 0, 0), []),
  (32, .ireturn, (0, 0, 0, 0), []),
  (33, .aload_n 0, (0, 0, 0, 0), []),
  (34, .ldc 96, (1, 0, 0, 3), []),
  (36, .invokevirtual 88, (87, 2, 0, 105), []),
  (39, .ifCond .eq 5, (44, 0, 0, 0), []),
  (42, .iconst 3, (0, 0, 0, 0), []),
  (43, .ireturn, (0, 0, 0, 0), []),
  (44, .aload_n 0, (0, 0, 0, 0), []),
  (45, .ldc 98, (1, 0, 0, 4), []),
  (47, .invokevirtual 88, (87, 2, 0, 105), []),
  (50, .ifCond .eq 5, (55, 0, 0, 0), []),
  (53, .iconst 4, (0, 0, 0, 0), []),
  (54, .ireturn, (0, 0, 0, 0), []),
  (55, .aload_n 0, (0, 0, 0, 0), []),
  (56, .ldc 100, (1, 0, 0, 5), []),
  (58, .invokevirtual 88, (87, 2, 0, 105), []),
  (61, .ifCond .eq 5, (66, 0, 0, 0), []),
  (64, .iconst 5, (0, 0, 0, 0), []),
  (65, .ireturn, (0, 0, 0, 0), []),
  (66, .aload_n 0, (0, 0, 0, 0), []),
  (67, .ldc 102, (1, 0, 0, 6), []),
  (69, .invokevirtual 88, (87, 2, 0, 105), []),
  (72, .ifCond .eq 6, (78, 0, 0, 0), []),
  (75, .bipush 6, (0, 0, 0, 0), []),
  (77, .ireturn, (0, 0, 0, 0), []),
  (78, .aload_n 0, (0, 0, 0, 0), []),
  (79, .ldc 104, (1, 0, 0, 7), []),
  (81, .invokevirtual 88, (87, 2, 0, 105), []),
  (84, .ifCond .eq 6, (90, 0, 0, 0), []),
  (87, .bipush 7, (0, 0, 0, 0), []),
  (89, .ireturn, (0, 0, 0, 0), []),
  (90, .aload_n 0, (0, 0, 0, 0), []),
  (91, .ldc 106, (1, 0, 0, 8), []),
  (93, .invokevirtual 88, (87, 2, 0, 105), []),
  (96, .ifCond .eq 8, (104, 0, 0, 0), []),
  (99, .bipush 8, (0, 0, 0, 0), []),
  (101, .goto 4, (105, 0, 0, 0), []),
  (104, .iconst (-1), (0, 0, 0, 0), []),
  (105, .ireturn, (0, 0, 0, 0), [])]
def pg_Te_isWord : List AQ := [(0, .aload_n 0, (0, 0, 0, 0), []),
  (1, .getfield 27, (5, 4, 0, 0), []),
  (4, .aload_n 0, (0, 0, 0, 0), []),
  (5, .getfield 24, (5, 3, 0, 0), []),
  (8, .isub, (0, 0, 0, 0), []),
  (9, .aload_n 1, (1, 0, 0, 0), []),
  (10, .invokevirtual 108, (1004, 1, 0, 0), []),
  (13, .if_icmp .eq 5, (18, 0, 0, 0), []),
  (16, .iconst 0, (0, 0, 0, 0), []),
  (17, .ireturn, (6, 0, 0, 0), []),
  (18, .iconst 0, (0, 0, 0, 0), []),
  (19, .istore_n 2, (2, 0, 0, 0), []),
  (20, .iload_n 2, (2, 0, 0, 0), []),
  (21, .aload_n 1, (1, 0, 0, 0), []),
  (22, .invokevirtual 108, (1004, 1, 0, 0), []),
  (25, .if_icmp .ge 30, (55, 0, 0, 0), []),
  (28, .aload_n 0, (0, 0, 0, 0), []),
  (29, .getfield 13, (5, 0, 122, 0), []),
  (32, .aload_n 0, (0, 0, 0, 0), []),
  (33, .getfield 24, (5, 3, 0, 0), []),
  (36, .iload_n 2, (2, 0, 0, 0), []),
  (37, .iadd, (0, 0, 0, 0), []),
  (38, .caload, (0, 0, 0, 0), []),
  (39, .aload_n 1, (1, 0, 0, 0), []),
  (40, .iload_n 2, (2, 0, 0, 0), []),
  (41, .invokevirtual 112, (1005, 2, 0, 0), []),
  (44, .if_icmp .eq 5, (49, 0, 0, 0), []),
  (47, .iconst 0, (0, 0, 0, 0), []),
  (48, .ireturn, (6, 0, 0, 0), []),
  (49, .iinc 2 1, (0, 0, 0, 0), []),
  (52, .goto (-32), (20, 0, 0, 0), []),
  (55, .iconst 1, (0, 0, 0, 0), []),
  (56, .ireturn, (6, 0, 0, 0), [])]
def pg_Te_advance_0 : List AQ := [(0, .aload_n 0, (0, 0, 0, 0), []),
  (1, .aload_n 0, (0, 0, 0, 0), []),
  (2, .getfield 27, (5, 4, 0, 0), []),
  (5, .putfield 24, (5, 3, 0, 0), []),
  (8, .aload_n 0, (0, 0, 0, 0), []),
  (9, .getfield 24, (5, 3, 0, 0), []),
  (12, .aload_n 0, (0, 0, 0, 0), []),
  (13, .getfield 17, (5, 1, 0, 0), []),
  (16, .if_icmp .ge 30, (46, 0, 0, 0), []),
  (19, .aload_n 0, (0, 0, 0, 0), []),
  (20, .getfield 13, (5, 0, 122, 0), []),
  (23, .aload_n 0, (0, 0, 0, 0), []),
  (24, .getfield 24, (5, 3, 0, 0), []),
  (27, .caload, (0, 0, 0, 0), []),
  (28, .bipush 32, (0, 0, 0, 0), []),
  (30, .if_icmp .ne 16, (46, 0, 0, 0), []),
  (33, .aload_n 0, (0, 0, 0, 0), []),
  (34, .dup, (0, 0, 0, 0), []),
  (35, .getfield 24, (5, 3, 0, 0), []),
  (38, .iconst 1, (0, 0, 0, 0), []),
  (39, .iadd, (0, 0, 0, 0), []),
  (40, .putfield 24, (5, 3, 0, 0), []),
  (43, .goto (-35), (8, 0, 0, 0), []),
  (46, .aload_n 0, (0, 0, 0, 0), []),
  (47, .aload_n 0, (0, 0, 0, 0), []),
  (48, .getfield 24, (5, 3, 0, 0), []),
  (51, .aload_n 0, (0, 0, 0, 0), []),
  (52, .getfield 17, (5, 1, 0, 0), []),
  (55, .if_icmp .ge 12, (67, 0, 0, 0), []),
  (58, .aload_n 0, (0, 0, 0, 0), []),
  (59, .getfield 24, (5, 3, 0, 0), []),
  (62, .iconst 1, (0, 0, 0, 0), []),
  (63, .iadd, (0, 0, 0, 0), []),
  (64, .goto 7, (71, 0, 0, 0), []),
  (67, .aload_n 0, (0, 0, 0, 0), []),
  (68, .getfield 17, (5, 1, 0, 0), []),
  (71, .putfield 27, (5, 4, 0, 0), []),
  (74, .aload_n 0, (0, 0, 0, 0), []),
  (75, .aload_n 0, (0, 0, 0, 0), []),
  (76, .getfield 24, (5, 3, 0, 0), []),
  (79, .bipush 97, (0, 0, 0, 0), []),
  (81, .bipush 122, (0, 0, 0, 0), []),
  (83, .invokevirtual 78, (89, 4, 0, 105), []),
  (86, .ifCond .eq 42, (128, 0, 0, 0), []),
  (89, .aload_n 0, (0, 0, 0, 0), []),
  (90, .getfield 27, (5, 4, 0, 0), []),
  (93, .aload_n 0, (0, 0, 0, 0), []),
  (94, .getfield 17, (5, 1, 0, 0), []),
  (97, .if_icmp .ge 85, (182, 0, 0, 0), []),
  (100, .aload_n 0, (0, 0, 0, 0), []),
  (101, .aload_n 0, (0, 0, 0, 0), []),
  (102, .getfield 27, (5, 4, 0, 0), []),
  (105, .bipush 97, (0, 0, 0, 0), []),
  (107, .bipush 122, (0, 0, 0, 0), []),
  (109, .invokevirtual 78, (89, 4, 0, 105), []),
  (112, .ifCond .eq 70, (182, 0, 0, 0), []),
  (115, .aload_n 0, (0, 0, 0, 0), []),
  (116, .dup, (0, 0, 0, 0), []),
  (117, .getfield 27, (5, 4, 0, 0), []),
  (120, .iconst 1, (0, 0, 0, 0), [])]
def pg_Te_advance_1 : List AQ := [(121, .iadd, (0, 0, 0, 0), []),
  (122, .putfield 27, (5, 4, 0, 0), []),
  (125, .goto (-36), (89, 0, 0, 0), []),
  (128, .aload_n 0, (0, 0, 0, 0), []),
  (129, .aload_n 0, (0, 0, 0, 0), []),
  (130, .getfield 24, (5, 3, 0, 0), []),
  (133, .bipush 48, (0, 0, 0, 0), []),
  (135, .bipush 57, (0, 0, 0, 0), []),
  (137, .invokevirtual 78, (89, 4, 0, 105), []),
  (140, .ifCond .eq 42, (182, 0, 0, 0), []),
  (143, .aload_n 0, (0, 0, 0, 0), []),
  (144, .getfield 27, (5, 4, 0, 0), []),
  (147, .aload_n 0, (0, 0, 0, 0), []),
  (148, .getfield 17, (5, 1, 0, 0), []),
  (151, .if_icmp .ge 31, (182, 0, 0, 0), []),
  (154, .aload_n 0, (0, 0, 0, 0), []),
  (155, .aload_n 0, (0, 0, 0, 0), []),
  (156, .getfield 27, (5, 4, 0, 0), []),
  (159, .bipush 48, (0, 0, 0, 0), []),
  (161, .bipush 57, (0, 0, 0, 0), []),
  (163, .invokevirtual 78, (89, 4, 0, 105), []),
  (166, .ifCond .eq 16, (182, 0, 0, 0), []),
  (169, .aload_n 0, (0, 0, 0, 0), []),
  (170, .dup, (0, 0, 0, 0), []),
  (171, .getfield 27, (5, 4, 0, 0), []),
  (174, .iconst 1, (0, 0, 0, 0), []),
  (175, .iadd, (0, 0, 0, 0), []),
  (176, .putfield 27, (5, 4, 0, 0), []),
  (179, .goto (-36), (143, 0, 0, 0), []),
  (182, .return_, (0, 0, 0, 0), [])]
def pg_Te_advance : List AQ := pg_Te_advance_0 ++ (pg_Te_advance_1)
def pg_Te_isAt : List AQ := [(0, .iload_n 1, (1, 0, 0, 0), []),
  (1, .aload_n 0, (0, 0, 0, 0), []),
  (2, .getfield 17, (5, 1, 0, 0), []),
  (5, .if_icmp .ge 27, (32, 0, 0, 0), []),
  (8, .aload_n 0, (0, 0, 0, 0), []),
  (9, .getfield 13, (5, 0, 122, 0), []),
  (12, .iload_n 1, (1, 0, 0, 0), []),
  (13, .caload, (0, 0, 0, 0), []),
  (14, .iload_n 2, (2, 0, 0, 0), []),
  (15, .if_icmp .lt 17, (32, 0, 0, 0), []),
  (18, .aload_n 0, (0, 0, 0, 0), []),
  (19, .getfield 13, (5, 0, 122, 0), []),
  (22, .iload_n 1, (1, 0, 0, 0), []),
  (23, .caload, (0, 0, 0, 0), []),
  (24, .iload_n 3, (3, 0, 0, 0), []),
  (25, .if_icmp .gt 7, (32, 0, 0, 0), []),
  (28, .iconst 1, (0, 0, 0, 0), []),
  (29, .goto 4, (33, 0, 0, 0), []),
  (32, .iconst 0, (0, 0, 0, 0), []),
  (33, .ireturn, (6, 0, 0, 0), [])]
def pg_Ss_init_0 : List AQ := [(0, .aload_n 0, (0, 0, 0, 0), []),
  (1, .invokespecial 1, (999, 106, 9, 0), []),
  (4, .aload_n 0, (0, 0, 0, 0), []),
  (5, .new 7, (0, 0, 0, 0), []),
  (8, .dup, (0, 0, 0, 0), []),
  (9, .invokespecial 9, (0, 1, 9, 100), []),
  (12, .putfield 10, (6, 0, 100, 0), []),
  (15, .aload_n 0, (0, 0, 0, 0), []),
  (16, .new 7, (0, 0, 0, 0), []),
  (19, .dup, (0, 0, 0, 0), []),
  (20, .invokespecial 9, (0, 1, 9, 100), []),
  (23, .putfield 16, (6, 1, 100, 0), []),
  (26, .aload_n 0, (0, 0, 0, 0), []),
  (27, .new 7, (0, 0, 0, 0), []),
  (30, .dup, (0, 0, 0, 0), []),
  (31, .invokespecial 9, (0, 1, 9, 100), []),
  (34, .putfield 19, (6, 2, 100, 0), []),
  (37, .aload_n 0, (0, 0, 0, 0), []),
  (38, .bipush 8, (0, 0, 0, 0), []),
  (40, .anewarray 7, (24, 0, 0, 0), []),
  (43, .putfield 22, (6, 3, 124, 0), []),
  (46, .aload_n 0, (0, 0, 0, 0), []),
  (47, .iconst 2, (0, 0, 0, 0), []),
  (48, .anewarray 7, (24, 0, 0, 0), []),
  (51, .putfield 26, (6, 4, 124, 0), []),
  (54, .aload_n 0, (0, 0, 0, 0), []),
  (55, .iconst 2, (0, 0, 0, 0), []),
  (56, .newarray .boolean, (21, 0, 0, 0), []),
  (58, .putfield 29, (6, 5, 121, 0), []),
  (61, .aload_n 0, (0, 0, 0, 0), []),
  (62, .new 33, (5, 0, 0, 0), []),
  (65, .dup, (0, 0, 0, 0), []),
  (66, .invokespecial 35, (75, 1, 9, 105), []),
  (69, .putfield 36, (6, 6, 105, 0), []),
  (72, .aload_n 0, (0, 0, 0, 0), []),
  (73, .new 40, (3, 0, 0, 0), []),
  (76, .dup, (0, 0, 0, 0), []),
  (77, .invokespecial 42, (51, 1, 9, 103), []),
  (80, .putfield 43, (6, 7, 103, 0), []),
  (83, .aload_n 0, (0, 0, 0, 0), []),
  (84, .new 47, (4, 0, 0, 0), []),
  (87, .dup, (0, 0, 0, 0), []),
  (88, .invokespecial 49, (66, 1, 9, 104), []),
  (91, .putfield 50, (6, 8, 104, 0), []),
  (94, .aload_n 0, (0, 0, 0, 0), []),
  (95, .new 54, (2, 0, 0, 0), []),
  (98, .dup, (0, 0, 0, 0), []),
  (99, .invokespecial 56, (35, 1, 9, 102), []),
  (102, .putfield 57, (6, 9, 102, 0), []),
  (105, .aload_n 0, (0, 0, 0, 0), []),
  (106, .iconst 0, (0, 0, 0, 0), []),
  (107, .putfield 61, (6, 10, 0, 0), []),
  (110, .iconst 0, (0, 0, 0, 0), []),
  (111, .istore_n 1, (1, 0, 0, 0), []),
  (112, .iload_n 1, (1, 0, 0, 0), []),
  (113, .bipush 8, (0, 0, 0, 0), []),
  (115, .if_icmp .ge 22, (137, 0, 0, 0), []),
  (118, .aload_n 0, (0, 0, 0, 0), []),
  (119, .getfield 22, (6, 3, 124, 0), []),
  (122, .iload_n 1, (1, 0, 0, 0), [])]
def pg_Ss_init_1 : List AQ := [(123, .new 7, (0, 0, 0, 0), []),
  (126, .dup, (0, 0, 0, 0), []),
  (127, .invokespecial 9, (0, 1, 9, 100), []),
  (130, .aastore, (24, 100, 0, 0), []),
  (131, .iinc 1 1, (0, 0, 0, 0), []),
  (134, .goto (-22), (112, 0, 0, 0), []),
  (137, .iconst 0, (0, 0, 0, 0), []),
  (138, .istore_n 1, (1, 0, 0, 0), []),
  (139, .iload_n 1, (1, 0, 0, 0), []),
  (140, .iconst 2, (0, 0, 0, 0), []),
  (141, .if_icmp .ge 22, (163, 0, 0, 0), []),
  (144, .aload_n 0, (0, 0, 0, 0), []),
  (145, .getfield 26, (6, 4, 124, 0), []),
  (148, .iload_n 1, (1, 0, 0, 0), []),
  (149, .new 7, (0, 0, 0, 0), []),
  (152, .dup, (0, 0, 0, 0), []),
  (153, .invokespecial 9, (0, 1, 9, 100), []),
  (156, .aastore, (24, 100, 0, 0), []),
  (157, .iinc 1 1, (0, 0, 0, 0), []),
  (160, .goto (-21), (139, 0, 0, 0), []),
  (163, .return_, (0, 0, 0, 0), [])]
def pg_Ss_init : List AQ := pg_Ss_init_0 ++ (pg_Ss_init_1)
def pg_Ss_write : List AQ := [(0, .iload_n 1, (1, 0, 0, 0), []),
  (1, .iconst 0, (0, 0, 0, 0), []),
  (2, .sipush 255, (0, 0, 0, 0), []),
  (5, .invokestatic 65, (121, 3, 0, 0), []),
  (8, .ifCond .ne 6, (14, 0, 0, 0), []),
  (11, .bipush (-3), (0, 0, 0, 0), []),
  (13, .ireturn, (0, 0, 0, 0), []),
  (14, .aload_n 0, (0, 0, 0, 0), []),
  (15, .getfield 36, (6, 6, 105, 0), []),
  (18, .iload_n 1, (1, 0, 0, 0), []),
  (19, .invokevirtual 69, (76, 2, 0, 105), []),
  (22, .ifCond .eq 13, (35, 0, 0, 0), []),
  (25, .aload_n 0, (0, 0, 0, 0), []),
  (26, .getfield 36, (6, 6, 105, 0), []),
  (29, .invokevirtual 73, (78, 1, 0, 105), []),
  (32, .goto 5, (37, 0, 0, 0), []),
  (35, .bipush (-5), (0, 0, 0, 0), []),
  (37, .ireturn, (0, 0, 0, 0), [])]
def pg_Ss_erase : List AQ := [(0, .aload_n 0, (0, 0, 0, 0), []),
  (1, .getfield 36, (6, 6, 105, 0), []),
  (4, .invokevirtual 73, (78, 1, 0, 105), []),
  (7, .istore_n 1, (1, 0, 0, 0), []),
  (8, .aload_n 0, (0, 0, 0, 0), []),
  (9, .getfield 36, (6, 6, 105, 0), []),
  (12, .invokevirtual 77, (77, 1, 9, 105), []),
  (15, .iload_n 1, (1, 0, 0, 0), []),
  (16, .ireturn, (0, 0, 0, 0), [])]
def pg_Ss_fault : List AQ := [(0, .aload_n 0, (0, 0, 0, 0), []),
  (1, .getfield 16, (6, 1, 100, 0), []),
  (4, .aload_n 0, (0, 0, 0, 0), []),
  (5, .getfield 10, (6, 0, 100, 0), []),
  (8, .invokevirtual 80, (2, 2, 9, 100), []),
  (11, .aload_n 0, (0, 0, 0, 0), []),
  (12, .getfield 36, (6, 6, 105, 0), []),
  (15, .aload_n 0, (0, 0, 0, 0), []),
  (16, .getfield 16, (6, 1, 100, 0), []),
  (19, .invokevirtual 84, (80, 2, 0, 105), []),
  (22, .ireturn, (0, 0, 0, 0), [])]
def pg_Ss_board : List AQ := [(0, .aload_n 0, (0, 0, 0, 0), []),
  (1, .getfield 16, (6, 1, 100, 0), []),
  (4, .aload_n 0, (0, 0, 0, 0), []),
  (5, .getfield 10, (6, 0, 100, 0), []),
  (8, .invokevirtual 80, (2, 2, 9, 100), []),
  (11, .aload_n 0, (0, 0, 0, 0), []),
  (12, .getfield 36, (6, 6, 105, 0), []),
  (15, .aload_n 0, (0, 0, 0, 0), []),
  (16, .getfield 16, (6, 1, 100, 0), []),
  (19, .invokevirtual 84, (80, 2, 0, 105), []),
  (22, .iconst (-1), (0, 0, 0, 0), []),
  (23, .if_icmp .eq 6, (29, 0, 0, 0), []),
  (26, .bipush (-4), (0, 0, 0, 0), []),
  (28, .ireturn, (0, 0, 0, 0), []),
  (29, .aload_n 0, (0, 0, 0, 0), []),
  (30, .getfield 10, (6, 0, 100, 0), []),
  (33, .aload_n 0, (0, 0, 0, 0), []),
  (34, .getfield 16, (6, 1, 100, 0), []),
  (37, .invokevirtual 80, (2, 2, 9, 100), []),
  (40, .aload_n 0, (0, 0, 0, 0), []),
  (41, .getfield 19, (6, 2, 100, 0), []),
  (44, .aload_n 0, (0, 0, 0, 0), []),
  (45, .getfield 10, (6, 0, 100, 0), []),
  (48, .invokevirtual 80, (2, 2, 9, 100), []),
  (51, .aload_n 0, (0, 0, 0, 0), []),
  (52, .iconst 0, (0, 0, 0, 0), []),
  (53, .putfield 61, (6, 10, 0, 0), []),
  (56, .iconst 0, (0, 0, 0, 0), []),
  (57, .istore_n 1, (1, 0, 0, 0), []),
  (58, .iload_n 1, (1, 0, 0, 0), []),
  (59, .iconst 2, (0, 0, 0, 0), []),
  (60, .if_icmp .ge 16, (76, 0, 0, 0), []),
  (63, .aload_n 0, (0, 0, 0, 0), []),
  (64, .getfield 29, (6, 5, 121, 0), []),
  (67, .iload_n 1, (1, 0, 0, 0), []),
  (68, .iconst 0, (0, 0, 0, 0), []),
  (69, .bastore, (0, 0, 0, 0), []),
  (70, .iinc 1 1, (0, 0, 0, 0), []),
  (73, .goto (-15), (58, 0, 0, 0), []),
  (76, .aload_n 0, (0, 0, 0, 0), []),
  (77, .getfield 50, (6, 8, 104, 0), []),
  (80, .invokevirtual 88, (68, 1, 9, 104), []),
  (83, .aload_n 0, (0, 0, 0, 0), []),
  (84, .getfield 57, (6, 9, 102, 0), []),
  (87, .invokevirtual 89, (39, 1, 9, 102), []),
  (90, .aload_n 0, (0, 0, 0, 0), []),
  (91, .getfield 36, (6, 6, 105, 0), []),
  (94, .invokevirtual 77, (77, 1, 9, 105), []),
  (97, .aload_n 0, (0, 0, 0, 0), []),
  (98, .getfield 36, (6, 6, 105, 0), []),
  (101, .invokevirtual 90, (79, 1, 0, 105), []),
  (104, .ireturn, (0, 0, 0, 0), [])]
def pg_Ss_house : List AQ := [(0, .aload_n 0, (0, 0, 0, 0), []),
  (1, .getfield 19, (6, 2, 100, 0), []),
  (4, .iload_n 1, (1, 0, 0, 0), []),
  (5, .invokevirtual 93, (4, 2, 0, 100), []),
  (8, .ifCond .ne 6, (14, 0, 0, 0), []),
  (11, .bipush (-2), (0, 0, 0, 0), []),
  (13, .ireturn, (0, 0, 0, 0), []),
  (14, .iload_n 2, (2, 0, 0, 0), []),
  (15, .tableswitch 94 0 4 #[33, 42, 51, 60, 77], (109, 0, 0, 0), [(0, 48), (1, 57), (2, 66), (3, 75), (4, 92)]),
  (48, .aload_n 0, (0, 0, 0, 0), []),
  (49, .getfield 19, (6, 2, 100, 0), []),
  (52, .iload_n 1, (1, 0, 0, 0), []),
  (53, .invokevirtual 96, (10, 2, 0, 100), []),
  (56, .ireturn, (0, 0, 0, 0), []),
  (57, .aload_n 0, (0, 0, 0, 0), []),
  (58, .getfield 19, (6, 2, 100, 0), []),
  (61, .iload_n 1, (1, 0, 0, 0), []),
  (62, .invokevirtual 100, (11, 2, 0, 100), []),
  (65, .ireturn, (0, 0, 0, 0), []),
  (66, .aload_n 0, (0, 0, 0, 0), []),
  (67, .getfield 19, (6, 2, 100, 0), []),
  (70, .iload_n 1, (1, 0, 0, 0), []),
  (71, .invokevirtual 103, (12, 2, 0, 100), []),
  (74, .ireturn, (0, 0, 0, 0), []),
  (75, .aload_n 0, (0, 0, 0, 0), []),
  (76, .getfield 19, (6, 2, 100, 0), []),
  (79, .iload_n 1, (1, 0, 0, 0), []),
  (80, .invokevirtual 106, (13, 2, 0, 100), []),
  (83, .ifCond .eq 7, (90, 0, 0, 0), []),
  (86, .iconst 1, (0, 0, 0, 0), []),
  (87, .goto 4, (91, 0, 0, 0), []),
  (90, .iconst 0, (0, 0, 0, 0), []),
  (91, .ireturn, (0, 0, 0, 0), []),
  (92, .aload_n 0, (0, 0, 0, 0), []),
  (93, .getfield 19, (6, 2, 100, 0), []),
  (96, .iload_n 1, (1, 0, 0, 0), []),
  (97, .invokevirtual 109, (14, 2, 0, 100), []),
  (100, .ifCond .eq 7, (107, 0, 0, 0), []),
  (103, .iconst 1, (0, 0, 0, 0), []),
  (104, .goto 4, (108, 0, 0, 0), []),
  (107, .iconst 0, (0, 0, 0, 0), []),
  (108, .ireturn, (0, 0, 0, 0), []),
  (109, .bipush (-3), (0, 0, 0, 0), []),
  (111, .ireturn, (0, 0, 0, 0), [])]
def pg_Ss_as : List AQ := [(0, .aload_n 0, (0, 0, 0, 0), []),
  (1, .getfield 19, (6, 2, 100, 0), []),
  (4, .iload_n 1, (1, 0, 0, 0), []),
  (5, .invokevirtual 93, (4, 2, 0, 100), []),
  (8, .ifCond .ne 6, (14, 0, 0, 0), []),
  (11, .bipush (-2), (0, 0, 0, 0), []),
  (13, .ireturn, (0, 0, 0, 0), []),
  (14, .iload_n 2, (2, 0, 0, 0), []),
  (15, .iconst 0, (0, 0, 0, 0), []),
  (16, .iconst 5, (0, 0, 0, 0), []),
  (17, .invokestatic 65, (121, 3, 0, 0), []),
  (20, .ifCond .ne 6, (26, 0, 0, 0), []),
  (23, .bipush (-3), (0, 0, 0, 0), []),
  (25, .ireturn, (0, 0, 0, 0), []),
  (26, .aload_n 0, (0, 0, 0, 0), []),
  (27, .getfield 19, (6, 2, 100, 0), []),
  (30, .iload_n 1, (1, 0, 0, 0), []),
  (31, .invokevirtual 96, (10, 2, 0, 100), []),
  (34, .iload_n 2, (2, 0, 0, 0), []),
  (35, .invokestatic 114, (62, 2, 0, 0), []),
  (38, .ifCond .eq 19, (57, 0, 0, 0), []),
  (41, .aload_n 0, (0, 0, 0, 0), []),
  (42, .getfield 19, (6, 2, 100, 0), []),
  (45, .iload_n 1, (1, 0, 0, 0), []),
  (46, .invokevirtual 96, (10, 2, 0, 100), []),
  (49, .bipush 7, (0, 0, 0, 0), []),
  (51, .invokestatic 118, (63, 2, 0, 0), []),
  (54, .goto 5, (59, 0, 0, 0), []),
  (57, .bipush (-4), (0, 0, 0, 0), []),
  (59, .ireturn, (0, 0, 0, 0), [])]
def pg_Ss_move : List AQ := [(0, .aload_n 0, (0, 0, 0, 0), []),
  (1, .getfield 19, (6, 2, 100, 0), []),
  (4, .iload_n 1, (1, 0, 0, 0), []),
  (5, .invokevirtual 93, (4, 2, 0, 100), []),
  (8, .ifCond .ne 6, (14, 0, 0, 0), []),
  (11, .bipush (-2), (0, 0, 0, 0), []),
  (13, .ireturn, (0, 0, 0, 0), []),
  (14, .aload_n 0, (0, 0, 0, 0), []),
  (15, .getfield 19, (6, 2, 100, 0), []),
  (18, .iload_n 1, (1, 0, 0, 0), []),
  (19, .invokevirtual 121, (15, 2, 0, 100), []),
  (22, .ifCond .ne 6, (28, 0, 0, 0), []),
  (25, .bipush (-4), (0, 0, 0, 0), []),
  (27, .ireturn, (0, 0, 0, 0), []),
  (28, .aload_n 0, (0, 0, 0, 0), []),
  (29, .getfield 19, (6, 2, 100, 0), []),
  (32, .invokevirtual 124, (6, 1, 0, 100), []),
  (35, .sipush 999, (0, 0, 0, 0), []),
  (38, .if_icmp .lt 6, (44, 0, 0, 0), []),
  (41, .bipush (-5), (0, 0, 0, 0), []),
  (43, .ireturn, (0, 0, 0, 0), []),
  (44, .aload_n 0, (0, 0, 0, 0), []),
  (45, .invokevirtual 127, (122, 1, 9, 106), []),
  (48, .aload_n 0, (0, 0, 0, 0), []),
  (49, .getfield 19, (6, 2, 100, 0), []),
  (52, .iload_n 1, (1, 0, 0, 0), []),
  (53, .invokevirtual 130, (24, 2, 0, 100), []),
  (56, .ireturn, (0, 0, 0, 0), [])]
def pg_Ss_drop : List AQ := [(0, .aload_n 0, (0, 0, 0, 0), []),
  (1, .getfield 19, (6, 2, 100, 0), []),
  (4, .iload_n 1, (1, 0, 0, 0), []),
  (5, .invokevirtual 93, (4, 2, 0, 100), []),
  (8, .ifCond .ne 6, (14, 0, 0, 0), []),
  (11, .bipush (-2), (0, 0, 0, 0), []),
  (13, .ireturn, (0, 0, 0, 0), []),
  (14, .iload_n 2, (2, 0, 0, 0), []),
  (15, .iconst 1, (0, 0, 0, 0), []),
  (16, .bipush 30, (0, 0, 0, 0), []),
  (18, .invokestatic 65, (121, 3, 0, 0), []),
  (21, .ifCond .ne 6, (27, 0, 0, 0), []),
  (24, .bipush (-3), (0, 0, 0, 0), []),
  (26, .ireturn, (0, 0, 0, 0), []),
  (27, .aload_n 0, (0, 0, 0, 0), []),
  (28, .getfield 19, (6, 2, 100, 0), []),
  (31, .iload_n 1, (1, 0, 0, 0), []),
  (32, .invokevirtual 100, (11, 2, 0, 100), []),
  (35, .bipush 99, (0, 0, 0, 0), []),
  (37, .if_icmp .lt 6, (43, 0, 0, 0), []),
  (40, .bipush (-4), (0, 0, 0, 0), []),
  (42, .ireturn, (0, 0, 0, 0), []),
  (43, .aload_n 0, (0, 0, 0, 0), []),
  (44, .invokevirtual 127, (122, 1, 9, 106), []),
  (47, .aload_n 0, (0, 0, 0, 0), []),
  (48, .getfield 19, (6, 2, 100, 0), []),
  (51, .iload_n 1, (1, 0, 0, 0), []),
  (52, .iload_n 2, (2, 0, 0, 0), []),
  (53, .invokevirtual 133, (22, 3, 9, 100), []),
  (56, .aload_n 0, (0, 0, 0, 0), []),
  (57, .getfield 19, (6, 2, 100, 0), []),
  (60, .iload_n 1, (1, 0, 0, 0), []),
  (61, .invokevirtual 100, (11, 2, 0, 100), []),
  (64, .ireturn, (0, 0, 0, 0), [])]
def pg_Ss_swap : List AQ := [(0, .aload_n 0, (0, 0, 0, 0), []),
  (1, .getfield 19, (6, 2, 100, 0), []),
  (4, .iload_n 1, (1, 0, 0, 0), []),
  (5, .invokevirtual 93, (4, 2, 0, 100), []),
  (8, .ifCond .eq 19, (27, 0, 0, 0), []),
  (11, .aload_n 0, (0, 0, 0, 0), []),
  (12, .getfield 19, (6, 2, 100, 0), []),
  (15, .iload_n 2, (2, 0, 0, 0), []),
  (16, .invokevirtual 93, (4, 2, 0, 100), []),
  (19, .ifCond .eq 8, (27, 0, 0, 0), []),
  (22, .iload_n 1, (1, 0, 0, 0), []),
  (23, .iload_n 2, (2, 0, 0, 0), []),
  (24, .if_icmp .ne 6, (30, 0, 0, 0), []),
  (27, .bipush (-2), (0, 0, 0, 0), []),
  (29, .ireturn, (0, 0, 0, 0), []),
  (30, .aload_n 0, (0, 0, 0, 0), []),
  (31, .getfield 19, (6, 2, 100, 0), []),
  (34, .iload_n 1, (1, 0, 0, 0), []),
  (35, .invokevirtual 96, (10, 2, 0, 100), []),
  (38, .aload_n 0, (0, 0, 0, 0), []),
  (39, .getfield 19, (6, 2, 100, 0), []),
  (42, .iload_n 2, (2, 0, 0, 0), []),
  (43, .invokevirtual 96, (10, 2, 0, 100), []),
  (46, .if_icmp .ne 6, (52, 0, 0, 0), []),
  (49, .bipush (-4), (0, 0, 0, 0), []),
  (51, .ireturn, (0, 0, 0, 0), []),
  (52, .aload_n 0, (0, 0, 0, 0), []),
  (53, .invokevirtual 127, (122, 1, 9, 106), []),
  (56, .aload_n 0, (0, 0, 0, 0), []),
  (57, .getfield 19, (6, 2, 100, 0), []),
  (60, .iload_n 1, (1, 0, 0, 0), []),
  (61, .iload_n 2, (2, 0, 0, 0), []),
  (62, .invokevirtual 137, (23, 3, 9, 100), []),
  (65, .aload_n 0, (0, 0, 0, 0), []),
  (66, .getfield 19, (6, 2, 100, 0), []),
  (69, .iload_n 1, (1, 0, 0, 0), []),
  (70, .invokevirtual 96, (10, 2, 0, 100), []),
  (73, .ireturn, (0, 0, 0, 0), [])]
def pg_Ss_undo : List AQ := [(0, .aload_n 0, (0, 0, 0, 0), []),
  (1, .getfield 61, (6, 10, 0, 0), []),
  (4, .ifCond .gt 6, (10, 0, 0, 0), []),
  (7, .bipush (-4), (0, 0, 0, 0), []),
  (9, .ireturn, (0, 0, 0, 0), []),
  (10, .aload_n 0, (0, 0, 0, 0), []),
  (11, .dup, (0, 0, 0, 0), []),
  (12, .getfield 61, (6, 10, 0, 0), []),
  (15, .iconst 1, (0, 0, 0, 0), []),
  (16, .isub, (0, 0, 0, 0), []),
  (17, .putfield 61, (6, 10, 0, 0), []),
  (20, .aload_n 0, (0, 0, 0, 0), []),
  (21, .getfield 19, (6, 2, 100, 0), []),
  (24, .aload_n 0, (0, 0, 0, 0), []),
  (25, .getfield 22, (6, 3, 124, 0), []),
  (28, .aload_n 0, (0, 0, 0, 0), []),
  (29, .getfield 61, (6, 10, 0, 0), []),
  (32, .aaload, (24, 100, 0, 0), []),
  (33, .invokevirtual 80, (2, 2, 9, 100), []),
  (36, .aload_n 0, (0, 0, 0, 0), []),
  (37, .getfield 61, (6, 10, 0, 0), []),
  (40, .ireturn, (0, 0, 0, 0), [])]
def pg_Ss_keep : List AQ := [(0, .iload_n 1, (1, 0, 0, 0), []),
  (1, .iconst 0, (0, 0, 0, 0), []),
  (2, .iconst 1, (0, 0, 0, 0), []),
  (3, .invokestatic 65, (121, 3, 0, 0), []),
  (6, .ifCond .ne 6, (12, 0, 0, 0), []),
  (9, .bipush (-2), (0, 0, 0, 0), []),
  (11, .ireturn, (0, 0, 0, 0), []),
  (12, .aload_n 0, (0, 0, 0, 0), []),
  (13, .getfield 26, (6, 4, 124, 0), []),
  (16, .iload_n 1, (1, 0, 0, 0), []),
  (17, .aaload, (24, 100, 0, 0), []),
  (18, .aload_n 0, (0, 0, 0, 0), []),
  (19, .getfield 19, (6, 2, 100, 0), []),
  (22, .invokevirtual 80, (2, 2, 9, 100), []),
  (25, .aload_n 0, (0, 0, 0, 0), []),
  (26, .getfield 29, (6, 5, 121, 0), []),
  (29, .iload_n 1, (1, 0, 0, 0), []),
  (30, .iconst 1, (0, 0, 0, 0), []),
  (31, .bastore, (0, 0, 0, 0), []),
  (32, .aload_n 0, (0, 0, 0, 0), []),
  (33, .getfield 19, (6, 2, 100, 0), []),
  (36, .invokevirtual 124, (6, 1, 0, 100), []),
  (39, .ireturn, (0, 0, 0, 0), [])]
def pg_Ss_back : List AQ := [(0, .iload_n 1, (1, 0, 0, 0), []),
  (1, .iconst 0, (0, 0, 0, 0), []),
  (2, .iconst 1, (0, 0, 0, 0), []),
  (3, .invokestatic 65, (121, 3, 0, 0), []),
  (6, .ifCond .ne 6, (12, 0, 0, 0), []),
  (9, .bipush (-2), (0, 0, 0, 0), []),
  (11, .ireturn, (0, 0, 0, 0), []),
  (12, .aload_n 0, (0, 0, 0, 0), []),
  (13, .getfield 29, (6, 5, 121, 0), []),
  (16, .iload_n 1, (1, 0, 0, 0), []),
  (17, .baload, (0, 0, 0, 0), []),
  (18, .ifCond .ne 6, (24, 0, 0, 0), []),
  (21, .bipush (-4), (0, 0, 0, 0), []),
  (23, .ireturn, (0, 0, 0, 0), []),
  (24, .aload_n 0, (0, 0, 0, 0), []),
  (25, .getfield 19, (6, 2, 100, 0), []),
  (28, .aload_n 0, (0, 0, 0, 0), []),
  (29, .getfield 26, (6, 4, 124, 0), []),
  (32, .iload_n 1, (1, 0, 0, 0), []),
  (33, .aaload, (24, 100, 0, 0), []),
  (34, .invokevirtual 80, (2, 2, 9, 100), []),
  (37, .aload_n 0, (0, 0, 0, 0), []),
  (38, .iconst 0, (0, 0, 0, 0), []),
  (39, .putfield 61, (6, 10, 0, 0), []),
  (42, .aload_n 0, (0, 0, 0, 0), []),
  (43, .getfield 19, (6, 2, 100, 0), []),
  (46, .invokevirtual 124, (6, 1, 0, 100), []),
  (49, .ireturn, (0, 0, 0, 0), [])]
def pg_Ss_brings : List AQ := [(0, .aload_n 0, (0, 0, 0, 0), []),
  (1, .getfield 19, (6, 2, 100, 0), []),
  (4, .iload_n 1, (1, 0, 0, 0), []),
  (5, .invokevirtual 93, (4, 2, 0, 100), []),
  (8, .ifCond .ne 6, (14, 0, 0, 0), []),
  (11, .bipush (-2), (0, 0, 0, 0), []),
  (13, .ireturn, (0, 0, 0, 0), []),
  (14, .aload_n 0, (0, 0, 0, 0), []),
  (15, .getfield 19, (6, 2, 100, 0), []),
  (18, .iload_n 1, (1, 0, 0, 0), []),
  (19, .invokevirtual 121, (15, 2, 0, 100), []),
  (22, .ifCond .eq 18, (40, 0, 0, 0), []),
  (25, .aload_n 0, (0, 0, 0, 0), []),
  (26, .getfield 43, (6, 7, 103, 0), []),
  (29, .aload_n 0, (0, 0, 0, 0), []),
  (30, .getfield 19, (6, 2, 100, 0), []),
  (33, .iload_n 1, (1, 0, 0, 0), []),
  (34, .invokevirtual 140, (52, 3, 0, 103), []),
  (37, .goto 5, (42, 0, 0, 0), []),
  (40, .bipush (-4), (0, 0, 0, 0), []),
  (42, .ireturn, (0, 0, 0, 0), [])]
def pg_Ss_best : List AQ := [(0, .iload_n 1, (1, 0, 0, 0), []),
  (1, .iconst 1, (0, 0, 0, 0), []),
  (2, .iconst 5, (0, 0, 0, 0), []),
  (3, .invokestatic 65, (121, 3, 0, 0), []),
  (6, .ifCond .eq 12, (18, 0, 0, 0), []),
  (9, .iload_n 2, (2, 0, 0, 0), []),
  (10, .iconst (-1), (0, 0, 0, 0), []),
  (11, .iconst 4, (0, 0, 0, 0), []),
  (12, .invokestatic 65, (121, 3, 0, 0), []),
  (15, .ifCond .ne 6, (21, 0, 0, 0), []),
  (18, .bipush (-3), (0, 0, 0, 0), []),
  (20, .ireturn, (0, 0, 0, 0), []),
  (21, .iload_n 2, (2, 0, 0, 0), []),
  (22, .iconst (-1), (0, 0, 0, 0), []),
  (23, .if_icmp .ne 22, (45, 0, 0, 0), []),
  (26, .sipush 5000, (0, 0, 0, 0), []),
  (29, .aload_n 0, (0, 0, 0, 0), []),
  (30, .getfield 43, (6, 7, 103, 0), []),
  (33, .aload_n 0, (0, 0, 0, 0), []),
  (34, .getfield 19, (6, 2, 100, 0), []),
  (37, .iload_n 1, (1, 0, 0, 0), []),
  (38, .invokevirtual 144, (53, 3, 0, 103), []),
  (41, .iadd, (0, 0, 0, 0), []),
  (42, .goto 16, (58, 0, 0, 0), []),
  (45, .aload_n 0, (0, 0, 0, 0), []),
  (46, .getfield 43, (6, 7, 103, 0), []),
  (49, .aload_n 0, (0, 0, 0, 0), []),
  (50, .getfield 19, (6, 2, 100, 0), []),
  (53, .iload_n 1, (1, 0, 0, 0), []),
  (54, .iload_n 2, (2, 0, 0, 0), []),
  (55, .invokevirtual 147, (54, 4, 0, 103), []),
  (58, .ireturn, (0, 0, 0, 0), [])]
def pg_Ss_rash : List AQ := [(0, .iload_n 1, (1, 0, 0, 0), []),
  (1, .iconst 0, (0, 0, 0, 0), []),
  (2, .bipush 40, (0, 0, 0, 0), []),
  (4, .invokestatic 65, (121, 3, 0, 0), []),
  (7, .ifCond .ne 6, (13, 0, 0, 0), []),
  (10, .bipush (-3), (0, 0, 0, 0), []),
  (12, .ireturn, (0, 0, 0, 0), []),
  (13, .sipush 5000, (0, 0, 0, 0), []),
  (16, .aload_n 0, (0, 0, 0, 0), []),
  (17, .getfield 43, (6, 7, 103, 0), []),
  (20, .aload_n 0, (0, 0, 0, 0), []),
  (21, .getfield 19, (6, 2, 100, 0), []),
  (24, .iload_n 1, (1, 0, 0, 0), []),
  (25, .invokevirtual 151, (56, 3, 100, 103), []),
  (28, .iconst 0, (0, 0, 0, 0), []),
  (29, .invokevirtual 155, (9, 2, 0, 100), []),
  (32, .iadd, (0, 0, 0, 0), []),
  (33, .ireturn, (0, 0, 0, 0), [])]
def pg_Ss_over : List AQ := [(0, .aload_n 0, (0, 0, 0, 0), []),
  (1, .getfield 43, (6, 7, 103, 0), []),
  (4, .aload_n 0, (0, 0, 0, 0), []),
  (5, .getfield 19, (6, 2, 100, 0), []),
  (8, .bipush 60, (0, 0, 0, 0), []),
  (10, .invokevirtual 151, (56, 3, 100, 103), []),
  (13, .astore_n 1, (1, 0, 0, 0), []),
  (14, .aload_n 1, (1, 0, 0, 0), []),
  (15, .invokevirtual 158, (16, 1, 0, 100), []),
  (18, .ifCond .ne 18, (36, 0, 0, 0), []),
  (21, .aload_n 1, (1, 0, 0, 0), []),
  (22, .invokevirtual 124, (6, 1, 0, 100), []),
  (25, .aload_n 0, (0, 0, 0, 0), []),
  (26, .getfield 19, (6, 2, 100, 0), []),
  (29, .invokevirtual 124, (6, 1, 0, 100), []),
  (32, .isub, (0, 0, 0, 0), []),
  (33, .goto 4, (37, 0, 0, 0), []),
  (36, .iconst (-1), (0, 0, 0, 0), []),
  (37, .ireturn, (0, 0, 0, 0), [])]
def pg_Ss_gift : List AQ := [(0, .iload_n 1, (1, 0, 0, 0), []),
  (1, .iconst 1, (0, 0, 0, 0), []),
  (2, .iconst 4, (0, 0, 0, 0), []),
  (3, .invokestatic 65, (121, 3, 0, 0), []),
  (6, .ifCond .ne 6, (12, 0, 0, 0), []),
  (9, .bipush (-3), (0, 0, 0, 0), []),
  (11, .ireturn, (0, 0, 0, 0), []),
  (12, .aload_n 0, (0, 0, 0, 0), []),
  (13, .getfield 43, (6, 7, 103, 0), []),
  (16, .aload_n 0, (0, 0, 0, 0), []),
  (17, .getfield 19, (6, 2, 100, 0), []),
  (20, .iload_n 1, (1, 0, 0, 0), []),
  (21, .invokevirtual 161, (58, 3, 0, 103), []),
  (24, .ireturn, (0, 0, 0, 0), [])]
def pg_Ss_luck : List AQ := [(0, .iload_n 1, (1, 0, 0, 0), []),
  (1, .iconst 1, (0, 0, 0, 0), []),
  (2, .iconst 3, (0, 0, 0, 0), []),
  (3, .invokestatic 65, (121, 3, 0, 0), []),
  (6, .ifCond .eq 12, (18, 0, 0, 0), []),
  (9, .iload_n 2, (2, 0, 0, 0), []),
  (10, .iconst 0, (0, 0, 0, 0), []),
  (11, .iconst 1, (0, 0, 0, 0), []),
  (12, .invokestatic 65, (121, 3, 0, 0), []),
  (15, .ifCond .ne 6, (21, 0, 0, 0), []),
  (18, .bipush (-3), (0, 0, 0, 0), []),
  (20, .ireturn, (0, 0, 0, 0), []),
  (21, .aload_n 0, (0, 0, 0, 0), []),
  (22, .getfield 43, (6, 7, 103, 0), []),
  (25, .aload_n 0, (0, 0, 0, 0), []),
  (26, .getfield 19, (6, 2, 100, 0), []),
  (29, .iload_n 1, (1, 0, 0, 0), []),
  (30, .iload_n 2, (2, 0, 0, 0), []),
  (31, .invokevirtual 164, (59, 4, 0, 103), []),
  (34, .ireturn, (0, 0, 0, 0), [])]
def pg_Ss_seen : List AQ := [(0, .iload_n 1, (1, 0, 0, 0), []),
  (1, .iconst 0, (0, 0, 0, 0), []),
  (2, .bipush 20, (0, 0, 0, 0), []),
  (4, .invokestatic 65, (121, 3, 0, 0), []),
  (7, .ifCond .eq 32, (39, 0, 0, 0), []),
  (10, .iload_n 2, (2, 0, 0, 0), []),
  (11, .iconst 0, (0, 0, 0, 0), []),
  (12, .bipush 20, (0, 0, 0, 0), []),
  (14, .invokestatic 65, (121, 3, 0, 0), []),
  (17, .ifCond .eq 22, (39, 0, 0, 0), []),
  (20, .iload_n 3, (3, 0, 0, 0), []),
  (21, .iconst 0, (0, 0, 0, 0), []),
  (22, .iconst 1, (0, 0, 0, 0), []),
  (23, .invokestatic 65, (121, 3, 0, 0), []),
  (26, .ifCond .eq 13, (39, 0, 0, 0), []),
  (29, .iload 4, (0, 0, 0, 0), []),
  (31, .iconst 0, (0, 0, 0, 0), []),
  (32, .iconst 1, (0, 0, 0, 0), []),
  (33, .invokestatic 65, (121, 3, 0, 0), []),
  (36, .ifCond .ne 6, (42, 0, 0, 0), []),
  (39, .bipush (-3), (0, 0, 0, 0), []),
  (41, .ireturn, (0, 0, 0, 0), []),
  (42, .aload_n 0, (0, 0, 0, 0), []),
  (43, .getfield 50, (6, 8, 104, 0), []),
  (46, .iload_n 1, (1, 0, 0, 0), []),
  (47, .iload_n 2, (2, 0, 0, 0), []),
  (48, .iload_n 3, (3, 0, 0, 0), []),
  (49, .iconst 1, (0, 0, 0, 0), []),
  (50, .if_icmp .ne 7, (57, 0, 0, 0), []),
  (53, .iconst 1, (0, 0, 0, 0), []),
  (54, .goto 4, (58, 0, 0, 0), []),
  (57, .iconst 0, (0, 0, 0, 0), []),
  (58, .iload 4, (0, 0, 0, 0), []),
  (60, .iconst 1, (0, 0, 0, 0), []),
  (61, .if_icmp .ne 7, (68, 0, 0, 0), []),
  (64, .iconst 1, (0, 0, 0, 0), []),
  (65, .goto 4, (69, 0, 0, 0), []),
  (68, .iconst 0, (0, 0, 0, 0), []),
  (69, .invokevirtual 167, (67, 5, 0, 104), []),
  (72, .ifCond .eq 13, (85, 0, 0, 0), []),
  (75, .aload_n 0, (0, 0, 0, 0), []),
  (76, .getfield 50, (6, 8, 104, 0), []),
  (79, .invokevirtual 170, (69, 1, 0, 104), []),
  (82, .goto 5, (87, 0, 0, 0), []),
  (85, .bipush (-5), (0, 0, 0, 0), []),
  (87, .ireturn, (0, 0, 0, 0), [])]
def pg_Ss_forget : List AQ := [(0, .aload_n 0, (0, 0, 0, 0), []),
  (1, .getfield 50, (6, 8, 104, 0), []),
  (4, .invokevirtual 170, (69, 1, 0, 104), []),
  (7, .istore_n 1, (1, 0, 0, 0), []),
  (8, .aload_n 0, (0, 0, 0, 0), []),
  (9, .getfield 50, (6, 8, 104, 0), []),
  (12, .invokevirtual 88, (68, 1, 9, 104), []),
  (15, .iload_n 1, (1, 0, 0, 0), []),
  (16, .ireturn, (0, 0, 0, 0), [])]
def pg_Ss_kinds : List AQ := [(0, .aload_n 0, (0, 0, 0, 0), []),
  (1, .getfield 50, (6, 8, 104, 0), []),
  (4, .invokevirtual 173, (70, 1, 0, 104), []),
  (7, .ireturn, (0, 0, 0, 0), [])]
def pg_Ss_ask : List AQ := [(0, .aload_n 0, (0, 0, 0, 0), []),
  (1, .getfield 50, (6, 8, 104, 0), []),
  (4, .invokevirtual 176, (72, 1, 0, 104), []),
  (7, .ireturn, (0, 0, 0, 0), [])]
def pg_Ss_box : List AQ := [(0, .aload_n 0, (0, 0, 0, 0), []),
  (1, .getfield 57, (6, 9, 102, 0), []),
  (4, .iload_n 1, (1, 0, 0, 0), []),
  (5, .invokevirtual 179, (36, 2, 0, 102), []),
  (8, .ifCond .ne 6, (14, 0, 0, 0), []),
  (11, .bipush (-2), (0, 0, 0, 0), []),
  (13, .ireturn, (0, 0, 0, 0), []),
  (14, .iload_n 2, (2, 0, 0, 0), []),
  (15, .iconst 4, (0, 0, 0, 0), []),
  (16, .if_icmp .le 6, (22, 0, 0, 0), []),
  (19, .bipush (-3), (0, 0, 0, 0), []),
  (21, .ireturn, (0, 0, 0, 0), []),
  (22, .iload_n 2, (2, 0, 0, 0), []),
  (23, .ifCond .ge 6, (29, 0, 0, 0), []),
  (26, .bipush (-16), (0, 0, 0, 0), []),
  (28, .ireturn, (0, 0, 0, 0), []),
  (29, .aload_n 0, (0, 0, 0, 0), []),
  (30, .getfield 57, (6, 9, 102, 0), []),
  (33, .iload_n 1, (1, 0, 0, 0), []),
  (34, .iload_n 2, (2, 0, 0, 0), []),
  (35, .invokevirtual 182, (40, 3, 9, 102), []),
  (38, .iload_n 2, (2, 0, 0, 0), []),
  (39, .ireturn, (0, 0, 0, 0), [])]
def pg_Ss_put_0 : List AQ := [(0, .iload_n 2, (2, 0, 0, 0), []),
  (1, .iconst 1, (0, 0, 0, 0), []),
  (2, .if_icmp .ne 18, (20, 0, 0, 0), []),
  (5, .aload_n 0, (0, 0, 0, 0), []),
  (6, .getfield 19, (6, 2, 100, 0), []),
  (9, .iload_n 3, (3, 0, 0, 0), []),
  (10, .invokevirtual 93, (4, 2, 0, 100), []),
  (13, .ifCond .ne 7, (20, 0, 0, 0), []),
  (16, .iconst 1, (0, 0, 0, 0), []),
  (17, .goto 4, (21, 0, 0, 0), []),
  (20, .iconst 0, (0, 0, 0, 0), []),
  (21, .istore 4, (0, 0, 0, 0), []),
  (23, .iload_n 2, (2, 0, 0, 0), []),
  (24, .iconst 2, (0, 0, 0, 0), []),
  (25, .if_icmp .ne 18, (43, 0, 0, 0), []),
  (28, .aload_n 0, (0, 0, 0, 0), []),
  (29, .getfield 57, (6, 9, 102, 0), []),
  (32, .iload_n 3, (3, 0, 0, 0), []),
  (33, .invokevirtual 179, (36, 2, 0, 102), []),
  (36, .ifCond .ne 7, (43, 0, 0, 0), []),
  (39, .iconst 1, (0, 0, 0, 0), []),
  (40, .goto 4, (44, 0, 0, 0), []),
  (43, .iconst 0, (0, 0, 0, 0), []),
  (44, .istore 5, (0, 0, 0, 0), []),
  (46, .aload_n 0, (0, 0, 0, 0), []),
  (47, .getfield 57, (6, 9, 102, 0), []),
  (50, .iload_n 1, (1, 0, 0, 0), []),
  (51, .invokevirtual 179, (36, 2, 0, 102), []),
  (54, .ifCond .eq 13, (67, 0, 0, 0), []),
  (57, .iload 4, (0, 0, 0, 0), []),
  (59, .ifCond .ne 8, (67, 0, 0, 0), []),
  (62, .iload 5, (0, 0, 0, 0), []),
  (64, .ifCond .eq 6, (70, 0, 0, 0), []),
  (67, .bipush (-2), (0, 0, 0, 0), []),
  (69, .ireturn, (0, 0, 0, 0), []),
  (70, .iload_n 2, (2, 0, 0, 0), []),
  (71, .ifCond .ne 20, (91, 0, 0, 0), []),
  (74, .iload_n 3, (3, 0, 0, 0), []),
  (75, .sipush (-9999), (0, 0, 0, 0), []),
  (78, .sipush 9999, (0, 0, 0, 0), []),
  (81, .invokestatic 65, (121, 3, 0, 0), []),
  (84, .ifCond .ne 7, (91, 0, 0, 0), []),
  (87, .iconst 1, (0, 0, 0, 0), []),
  (88, .goto 4, (92, 0, 0, 0), []),
  (91, .iconst 0, (0, 0, 0, 0), []),
  (92, .istore 6, (0, 0, 0, 0), []),
  (94, .iload_n 2, (2, 0, 0, 0), []),
  (95, .iconst 0, (0, 0, 0, 0), []),
  (96, .iconst 2, (0, 0, 0, 0), []),
  (97, .invokestatic 65, (121, 3, 0, 0), []),
  (100, .ifCond .eq 8, (108, 0, 0, 0), []),
  (103, .iload 6, (0, 0, 0, 0), []),
  (105, .ifCond .eq 6, (111, 0, 0, 0), []),
  (108, .bipush (-3), (0, 0, 0, 0), []),
  (110, .ireturn, (0, 0, 0, 0), []),
  (111, .aload_n 0, (0, 0, 0, 0), []),
  (112, .getfield 57, (6, 9, 102, 0), []),
  (115, .iload_n 1, (1, 0, 0, 0), []),
  (116, .iload_n 2, (2, 0, 0, 0), []),
  (117, .iload_n 3, (3, 0, 0, 0), [])]
def pg_Ss_put_1 : List AQ := [(118, .invokevirtual 185, (42, 4, 0, 102), []),
  (121, .ireturn, (0, 0, 0, 0), [])]
def pg_Ss_put : List AQ := pg_Ss_put_0 ++ (pg_Ss_put_1)
def pg_Ss_take : List AQ := [(0, .aload_n 0, (0, 0, 0, 0), []),
  (1, .getfield 57, (6, 9, 102, 0), []),
  (4, .iload_n 1, (1, 0, 0, 0), []),
  (5, .invokevirtual 179, (36, 2, 0, 102), []),
  (8, .ifCond .ne 6, (14, 0, 0, 0), []),
  (11, .bipush (-2), (0, 0, 0, 0), []),
  (13, .ireturn, (0, 0, 0, 0), []),
  (14, .iload_n 2, (2, 0, 0, 0), []),
  (15, .iconst 0, (0, 0, 0, 0), []),
  (16, .iconst 2, (0, 0, 0, 0), []),
  (17, .invokestatic 65, (121, 3, 0, 0), []),
  (20, .ifCond .ne 6, (26, 0, 0, 0), []),
  (23, .bipush (-3), (0, 0, 0, 0), []),
  (25, .ireturn, (0, 0, 0, 0), []),
  (26, .aload_n 0, (0, 0, 0, 0), []),
  (27, .getfield 57, (6, 9, 102, 0), []),
  (30, .iload_n 1, (1, 0, 0, 0), []),
  (31, .iload_n 2, (2, 0, 0, 0), []),
  (32, .invokevirtual 189, (43, 3, 0, 102), []),
  (35, .ireturn, (0, 0, 0, 0), [])]
def pg_Ss_spill : List AQ := [(0, .aload_n 0, (0, 0, 0, 0), []),
  (1, .getfield 57, (6, 9, 102, 0), []),
  (4, .iload_n 1, (1, 0, 0, 0), []),
  (5, .invokevirtual 179, (36, 2, 0, 102), []),
  (8, .ifCond .eq 14, (22, 0, 0, 0), []),
  (11, .aload_n 0, (0, 0, 0, 0), []),
  (12, .getfield 57, (6, 9, 102, 0), []),
  (15, .iload_n 1, (1, 0, 0, 0), []),
  (16, .invokevirtual 192, (44, 2, 0, 102), []),
  (19, .goto 5, (24, 0, 0, 0), []),
  (22, .bipush (-2), (0, 0, 0, 0), []),
  (24, .ireturn, (0, 0, 0, 0), [])]
def pg_Ss_deep : List AQ := [(0, .aload_n 0, (0, 0, 0, 0), []),
  (1, .getfield 57, (6, 9, 102, 0), []),
  (4, .iload_n 1, (1, 0, 0, 0), []),
  (5, .invokevirtual 179, (36, 2, 0, 102), []),
  (8, .ifCond .ne 6, (14, 0, 0, 0), []),
  (11, .bipush (-2), (0, 0, 0, 0), []),
  (13, .ireturn, (0, 0, 0, 0), []),
  (14, .iload_n 2, (2, 0, 0, 0), []),
  (15, .iconst 0, (0, 0, 0, 0), []),
  (16, .iconst 4, (0, 0, 0, 0), []),
  (17, .invokestatic 65, (121, 3, 0, 0), []),
  (20, .ifCond .ne 6, (26, 0, 0, 0), []),
  (23, .bipush (-3), (0, 0, 0, 0), []),
  (25, .ireturn, (0, 0, 0, 0), []),
  (26, .aload_n 0, (0, 0, 0, 0), []),
  (27, .getfield 57, (6, 9, 102, 0), []),
  (30, .iload_n 1, (1, 0, 0, 0), []),
  (31, .invokevirtual 195, (37, 2, 0, 102), []),
  (34, .ifCond .eq 15, (49, 0, 0, 0), []),
  (37, .aload_n 0, (0, 0, 0, 0), []),
  (38, .getfield 57, (6, 9, 102, 0), []),
  (41, .iload_n 1, (1, 0, 0, 0), []),
  (42, .iload_n 2, (2, 0, 0, 0), []),
  (43, .invokevirtual 198, (45, 3, 0, 102), []),
  (46, .goto 5, (51, 0, 0, 0), []),
  (49, .bipush (-11), (0, 0, 0, 0), []),
  (51, .ireturn, (0, 0, 0, 0), [])]
def pg_Ss_alike : List AQ := [(0, .aload_n 0, (0, 0, 0, 0), []),
  (1, .getfield 57, (6, 9, 102, 0), []),
  (4, .iload_n 1, (1, 0, 0, 0), []),
  (5, .invokevirtual 179, (36, 2, 0, 102), []),
  (8, .ifCond .eq 14, (22, 0, 0, 0), []),
  (11, .aload_n 0, (0, 0, 0, 0), []),
  (12, .getfield 57, (6, 9, 102, 0), []),
  (15, .iload_n 2, (2, 0, 0, 0), []),
  (16, .invokevirtual 179, (36, 2, 0, 102), []),
  (19, .ifCond .ne 6, (25, 0, 0, 0), []),
  (22, .bipush (-2), (0, 0, 0, 0), []),
  (24, .ireturn, (0, 0, 0, 0), []),
  (25, .aload_n 0, (0, 0, 0, 0), []),
  (26, .getfield 57, (6, 9, 102, 0), []),
  (29, .iload_n 1, (1, 0, 0, 0), []),
  (30, .invokevirtual 195, (37, 2, 0, 102), []),
  (33, .ifCond .eq 14, (47, 0, 0, 0), []),
  (36, .aload_n 0, (0, 0, 0, 0), []),
  (37, .getfield 57, (6, 9, 102, 0), []),
  (40, .iload_n 2, (2, 0, 0, 0), []),
  (41, .invokevirtual 195, (37, 2, 0, 102), []),
  (44, .ifCond .ne 6, (50, 0, 0, 0), []),
  (47, .bipush (-11), (0, 0, 0, 0), []),
  (49, .ireturn, (0, 0, 0, 0), []),
  (50, .aload_n 0, (0, 0, 0, 0), []),
  (51, .getfield 57, (6, 9, 102, 0), []),
  (54, .iload_n 1, (1, 0, 0, 0), []),
  (55, .iload_n 2, (2, 0, 0, 0), []),
  (56, .invokevirtual 201, (48, 3, 0, 102), []),
  (59, .ifCond .eq 7, (66, 0, 0, 0), []),
  (62, .iconst 1, (0, 0, 0, 0), []),
  (63, .goto 4, (67, 0, 0, 0), []),
  (66, .iconst 0, (0, 0, 0, 0), []),
  (67, .ireturn, (0, 0, 0, 0), [])]
def pg_Ss_lose : List AQ := [(0, .aload_n 0, (0, 0, 0, 0), []),
  (1, .getfield 57, (6, 9, 102, 0), []),
  (4, .iload_n 1, (1, 0, 0, 0), []),
  (5, .invokevirtual 179, (36, 2, 0, 102), []),
  (8, .ifCond .ne 6, (14, 0, 0, 0), []),
  (11, .bipush (-2), (0, 0, 0, 0), []),
  (13, .ireturn, (0, 0, 0, 0), []),
  (14, .aload_n 0, (0, 0, 0, 0), []),
  (15, .getfield 57, (6, 9, 102, 0), []),
  (18, .iload_n 1, (1, 0, 0, 0), []),
  (19, .invokevirtual 195, (37, 2, 0, 102), []),
  (22, .ifCond .eq 14, (36, 0, 0, 0), []),
  (25, .aload_n 0, (0, 0, 0, 0), []),
  (26, .getfield 57, (6, 9, 102, 0), []),
  (29, .iload_n 1, (1, 0, 0, 0), []),
  (30, .invokevirtual 204, (41, 2, 0, 102), []),
  (33, .goto 5, (38, 0, 0, 0), []),
  (36, .bipush (-11), (0, 0, 0, 0), []),
  (38, .ireturn, (0, 0, 0, 0), [])]
def pg_Ss_count : List AQ := [(0, .iload_n 1, (1, 0, 0, 0), []),
  (1, .tableswitch 146 0 10 #[59, 67, 75, 83, 92, 101, 109, 117, 125, 133, 138], (147, 0, 0, 0), [(0, 60), (1, 68), (2, 76), (3, 84), (4, 93), (5, 102), (6, 110), (7, 118), (8, 126), (9, 134), (10, 139)]),
  (60, .aload_n 0, (0, 0, 0, 0), []),
  (61, .getfield 19, (6, 2, 100, 0), []),
  (64, .invokevirtual 207, (3, 1, 0, 100), []),
  (67, .ireturn, (0, 0, 0, 0), []),
  (68, .aload_n 0, (0, 0, 0, 0), []),
  (69, .getfield 19, (6, 2, 100, 0), []),
  (72, .invokevirtual 124, (6, 1, 0, 100), []),
  (75, .ireturn, (0, 0, 0, 0), []),
  (76, .aload_n 0, (0, 0, 0, 0), []),
  (77, .getfield 19, (6, 2, 100, 0), []),
  (80, .invokevirtual 210, (7, 1, 0, 100), []),
  (83, .ireturn, (0, 0, 0, 0), []),
  (84, .aload_n 0, (0, 0, 0, 0), []),
  (85, .getfield 19, (6, 2, 100, 0), []),
  (88, .iconst 0, (0, 0, 0, 0), []),
  (89, .invokevirtual 213, (8, 2, 0, 100), []),
  (92, .ireturn, (0, 0, 0, 0), []),
  (93, .aload_n 0, (0, 0, 0, 0), []),
  (94, .getfield 19, (6, 2, 100, 0), []),
  (97, .iconst 1, (0, 0, 0, 0), []),
  (98, .invokevirtual 213, (8, 2, 0, 100), []),
  (101, .ireturn, (0, 0, 0, 0), []),
  (102, .aload_n 0, (0, 0, 0, 0), []),
  (103, .getfield 19, (6, 2, 100, 0), []),
  (106, .invokevirtual 216, (17, 1, 0, 100), []),
  (109, .ireturn, (0, 0, 0, 0), []),
  (110, .aload_n 0, (0, 0, 0, 0), []),
  (111, .getfield 19, (6, 2, 100, 0), []),
  (114, .invokevirtual 158, (16, 1, 0, 100), []),
  (117, .ireturn, (0, 0, 0, 0), []),
  (118, .aload_n 0, (0, 0, 0, 0), []),
  (119, .getfield 50, (6, 8, 104, 0), []),
  (122, .invokevirtual 170, (69, 1, 0, 104), []),
  (125, .ireturn, (0, 0, 0, 0), []),
  (126, .aload_n 0, (0, 0, 0, 0), []),
  (127, .getfield 57, (6, 9, 102, 0), []),
  (130, .invokevirtual 219, (38, 1, 0, 102), []),
  (133, .ireturn, (0, 0, 0, 0), []),
  (134, .aload_n 0, (0, 0, 0, 0), []),
  (135, .getfield 61, (6, 10, 0, 0), []),
  (138, .ireturn, (0, 0, 0, 0), []),
  (139, .aload_n 0, (0, 0, 0, 0), []),
  (140, .getfield 36, (6, 6, 105, 0), []),
  (143, .invokevirtual 73, (78, 1, 0, 105), []),
  (146, .ireturn, (0, 0, 0, 0), []),
  (147, .bipush (-3), (0, 0, 0, 0), []),
  (149, .ireturn, (0, 0, 0, 0), [])]
def pg_Ss_isWithin : List AQ := [(0, .iload_n 0, (0, 0, 0, 0), []),
  (1, .iload_n 1, (1, 0, 0, 0), []),
  (2, .if_icmp .lt 12, (14, 0, 0, 0), []),
  (5, .iload_n 0, (0, 0, 0, 0), []),
  (6, .iload_n 2, (2, 0, 0, 0), []),
  (7, .if_icmp .gt 7, (14, 0, 0, 0), []),
  (10, .iconst 1, (0, 0, 0, 0), []),
  (11, .goto 4, (15, 0, 0, 0), []),
  (14, .iconst 0, (0, 0, 0, 0), []),
  (15, .ireturn, (6, 0, 0, 0), [])]
def pg_Ss_remember : List AQ := [(0, .aload_n 0, (0, 0, 0, 0), []),
  (1, .getfield 61, (6, 10, 0, 0), []),
  (4, .bipush 8, (0, 0, 0, 0), []),
  (6, .if_icmp .lt 52, (58, 0, 0, 0), []),
  (9, .aload_n 0, (0, 0, 0, 0), []),
  (10, .getfield 22, (6, 3, 124, 0), []),
  (13, .iconst 0, (0, 0, 0, 0), []),
  (14, .aaload, (24, 100, 0, 0), []),
  (15, .astore_n 1, (1, 0, 0, 0), []),
  (16, .iconst 1, (0, 0, 0, 0), []),
  (17, .istore_n 2, (2, 0, 0, 0), []),
  (18, .iload_n 2, (2, 0, 0, 0), []),
  (19, .bipush 8, (0, 0, 0, 0), []),
  (21, .if_icmp .ge 23, (44, 0, 0, 0), []),
  (24, .aload_n 0, (0, 0, 0, 0), []),
  (25, .getfield 22, (6, 3, 124, 0), []),
  (28, .iload_n 2, (2, 0, 0, 0), []),
  (29, .iconst 1, (0, 0, 0, 0), []),
  (30, .isub, (0, 0, 0, 0), []),
  (31, .aload_n 0, (0, 0, 0, 0), []),
  (32, .getfield 22, (6, 3, 124, 0), []),
  (35, .iload_n 2, (2, 0, 0, 0), []),
  (36, .aaload, (24, 100, 0, 0), []),
  (37, .aastore, (24, 100, 0, 0), []),
  (38, .iinc 2 1, (0, 0, 0, 0), []),
  (41, .goto (-23), (18, 0, 0, 0), []),
  (44, .aload_n 0, (0, 0, 0, 0), []),
  (45, .getfield 22, (6, 3, 124, 0), []),
  (48, .bipush 7, (0, 0, 0, 0), []),
  (50, .aload_n 1, (1, 0, 0, 0), []),
  (51, .aastore, (24, 100, 0, 0), []),
  (52, .aload_n 0, (0, 0, 0, 0), []),
  (53, .bipush 7, (0, 0, 0, 0), []),
  (55, .putfield 61, (6, 10, 0, 0), []),
  (58, .aload_n 0, (0, 0, 0, 0), []),
  (59, .getfield 22, (6, 3, 124, 0), []),
  (62, .aload_n 0, (0, 0, 0, 0), []),
  (63, .getfield 61, (6, 10, 0, 0), []),
  (66, .aaload, (24, 100, 0, 0), []),
  (67, .aload_n 0, (0, 0, 0, 0), []),
  (68, .getfield 19, (6, 2, 100, 0), []),
  (71, .invokevirtual 80, (2, 2, 9, 100), []),
  (74, .aload_n 0, (0, 0, 0, 0), []),
  (75, .dup, (0, 0, 0, 0), []),
  (76, .getfield 61, (6, 10, 0, 0), []),
  (79, .iconst 1, (0, 0, 0, 0), []),
  (80, .iadd, (0, 0, 0, 0), []),
  (81, .putfield 61, (6, 10, 0, 0), []),
  (84, .return_, (0, 0, 0, 0), [])]
def pg_Mo_in : List AQ := [(0, .lload_n 0, (0, 0, 0, 0), []),
  (1, .lload_n 2, (2, 0, 0, 0), []),
  (2, .lcmp, (0, 0, 0, 0), []),
  (3, .ifCond .lt 14, (17, 0, 0, 0), []),
  (6, .lload_n 0, (0, 0, 0, 0), []),
  (7, .lload 4, (0, 0, 0, 0), []),
  (9, .lcmp, (0, 0, 0, 0), []),
  (10, .ifCond .gt 7, (17, 0, 0, 0), []),
  (13, .iconst 1, (0, 0, 0, 0), []),
  (14, .goto 4, (18, 0, 0, 0), []),
  (17, .iconst 0, (0, 0, 0, 0), []),
  (18, .ireturn, (6, 0, 0, 0), [])]
def pg_Mo_init_0 : List AQ := [(0, .aload_n 0, (0, 0, 0, 0), []),
  (1, .invokespecial 1, (999, 107, 9, 0), []),
  (4, .aload_n 0, (0, 0, 0, 0), []),
  (5, .bipush 25, (0, 0, 0, 0), []),
  (7, .newarray .int, (20, 0, 0, 0), []),
  (9, .putfield 7, (7, 0, 120, 0), []),
  (12, .aload_n 0, (0, 0, 0, 0), []),
  (13, .bipush 25, (0, 0, 0, 0), []),
  (15, .newarray .int, (20, 0, 0, 0), []),
  (17, .putfield 13, (7, 1, 120, 0), []),
  (20, .aload_n 0, (0, 0, 0, 0), []),
  (21, .sipush 200, (0, 0, 0, 0), []),
  (24, .newarray .int, (20, 0, 0, 0), []),
  (26, .putfield 16, (7, 2, 120, 0), []),
  (29, .aload_n 0, (0, 0, 0, 0), []),
  (30, .bipush 25, (0, 0, 0, 0), []),
  (32, .newarray .int, (20, 0, 0, 0), []),
  (34, .putfield 19, (7, 9, 120, 0), []),
  (37, .aload_n 0, (0, 0, 0, 0), []),
  (38, .sipush 200, (0, 0, 0, 0), []),
  (41, .newarray .int, (20, 0, 0, 0), []),
  (43, .putfield 22, (7, 10, 120, 0), []),
  (46, .aload_n 0, (0, 0, 0, 0), []),
  (47, .bipush 50, (0, 0, 0, 0), []),
  (49, .newarray .int, (20, 0, 0, 0), []),
  (51, .putfield 25, (7, 12, 120, 0), []),
  (54, .aload_n 0, (0, 0, 0, 0), []),
  (55, .bipush 25, (0, 0, 0, 0), []),
  (57, .newarray .int, (20, 0, 0, 0), []),
  (59, .putfield 28, (7, 14, 120, 0), []),
  (62, .aload_n 0, (0, 0, 0, 0), []),
  (63, .sipush 175, (0, 0, 0, 0), []),
  (66, .newarray .int, (20, 0, 0, 0), []),
  (68, .putfield 31, (7, 15, 120, 0), []),
  (71, .aload_n 0, (0, 0, 0, 0), []),
  (72, .bipush 6, (0, 0, 0, 0), []),
  (74, .newarray .int, (20, 0, 0, 0), []),
  (76, .putfield 34, (7, 16, 120, 0), []),
  (79, .aload_n 0, (0, 0, 0, 0), []),
  (80, .bipush 6, (0, 0, 0, 0), []),
  (82, .newarray .int, (20, 0, 0, 0), []),
  (84, .putfield 37, (7, 17, 120, 0), []),
  (87, .aload_n 0, (0, 0, 0, 0), []),
  (88, .bipush 6, (0, 0, 0, 0), []),
  (90, .newarray .boolean, (21, 0, 0, 0), []),
  (92, .putfield 40, (7, 18, 121, 0), []),
  (95, .aload_n 0, (0, 0, 0, 0), []),
  (96, .bipush 36, (0, 0, 0, 0), []),
  (98, .newarray .int, (20, 0, 0, 0), []),
  (100, .putfield 44, (7, 19, 120, 0), []),
  (103, .aload_n 0, (0, 0, 0, 0), []),
  (104, .bipush 6, (0, 0, 0, 0), []),
  (106, .newarray .long, (23, 0, 0, 0), []),
  (108, .putfield 47, (7, 21, 123, 0), []),
  (111, .aload_n 0, (0, 0, 0, 0), []),
  (112, .bipush 24, (0, 0, 0, 0), []),
  (114, .newarray .int, (20, 0, 0, 0), []),
  (116, .putfield 51, (7, 22, 120, 0), []),
  (119, .aload_n 0, (0, 0, 0, 0), []),
  (120, .iconst 5, (0, 0, 0, 0), [])]
def pg_Mo_init_1 : List AQ := [(121, .newarray .int, (20, 0, 0, 0), []),
  (123, .putfield 54, (7, 24, 120, 0), []),
  (126, .aload_n 0, (0, 0, 0, 0), []),
  (127, .iconst 5, (0, 0, 0, 0), []),
  (128, .newarray .int, (20, 0, 0, 0), []),
  (130, .putfield 57, (7, 25, 120, 0), []),
  (133, .aload_n 0, (0, 0, 0, 0), []),
  (134, .bipush 20, (0, 0, 0, 0), []),
  (136, .newarray .int, (20, 0, 0, 0), []),
  (138, .putfield 60, (7, 26, 120, 0), []),
  (141, .aload_n 0, (0, 0, 0, 0), []),
  (142, .bipush 20, (0, 0, 0, 0), []),
  (144, .newarray .int, (20, 0, 0, 0), []),
  (146, .putfield 63, (7, 27, 120, 0), []),
  (149, .aload_n 0, (0, 0, 0, 0), []),
  (150, .iconst 5, (0, 0, 0, 0), []),
  (151, .newarray .int, (20, 0, 0, 0), []),
  (153, .putfield 66, (7, 28, 120, 0), []),
  (156, .aload_n 0, (0, 0, 0, 0), []),
  (157, .bipush 24, (0, 0, 0, 0), []),
  (159, .newarray .int, (20, 0, 0, 0), []),
  (161, .putfield 69, (7, 29, 120, 0), []),
  (164, .aload_n 0, (0, 0, 0, 0), []),
  (165, .bipush 24, (0, 0, 0, 0), []),
  (167, .newarray .int, (20, 0, 0, 0), []),
  (169, .putfield 72, (7, 30, 120, 0), []),
  (172, .aload_n 0, (0, 0, 0, 0), []),
  (173, .getfield 13, (7, 1, 120, 0), []),
  (176, .iconst 3, (0, 0, 0, 0), []),
  (177, .invokestatic 75, (125, 2, 9, 0), []),
  (180, .aload_n 0, (0, 0, 0, 0), []),
  (181, .getfield 7, (7, 0, 120, 0), []),
  (184, .iconst 3, (0, 0, 0, 0), []),
  (185, .invokestatic 75, (125, 2, 9, 0), []),
  (188, .aload_n 0, (0, 0, 0, 0), []),
  (189, .invokevirtual 79, (182, 1, 9, 107), []),
  (192, .return_, (0, 0, 0, 0), [])]
def pg_Mo_init : List AQ := pg_Mo_init_0 ++ (pg_Mo_init_1)
def pg_Mo_atFirst : List AQ := [(0, .iconst 0, (0, 0, 0, 0), []),
  (1, .istore_n 2, (2, 0, 0, 0), []),
  (2, .iload_n 2, (2, 0, 0, 0), []),
  (3, .bipush 25, (0, 0, 0, 0), []),
  (5, .if_icmp .ge 13, (18, 0, 0, 0), []),
  (8, .aload_n 0, (0, 0, 0, 0), []),
  (9, .iload_n 2, (2, 0, 0, 0), []),
  (10, .iconst 0, (0, 0, 0, 0), []),
  (11, .iastore, (0, 0, 0, 0), []),
  (12, .iinc 2 1, (0, 0, 0, 0), []),
  (15, .goto (-13), (2, 0, 0, 0), []),
  (18, .aload_n 0, (0, 0, 0, 0), []),
  (19, .iconst 0, (0, 0, 0, 0), []),
  (20, .iload_n 1, (1, 0, 0, 0), []),
  (21, .iastore, (0, 0, 0, 0), []),
  (22, .iconst 0, (0, 0, 0, 0), []),
  (23, .istore_n 2, (2, 0, 0, 0), []),
  (24, .iload_n 2, (2, 0, 0, 0), []),
  (25, .iconst 2, (0, 0, 0, 0), []),
  (26, .iload_n 1, (1, 0, 0, 0), []),
  (27, .imul, (0, 0, 0, 0), []),
  (28, .if_icmp .ge 16, (44, 0, 0, 0), []),
  (31, .aload_n 0, (0, 0, 0, 0), []),
  (32, .bipush 15, (0, 0, 0, 0), []),
  (34, .iload_n 2, (2, 0, 0, 0), []),
  (35, .iadd, (0, 0, 0, 0), []),
  (36, .iconst 4, (0, 0, 0, 0), []),
  (37, .iastore, (0, 0, 0, 0), []),
  (38, .iinc 2 1, (0, 0, 0, 0), []),
  (41, .goto (-17), (24, 0, 0, 0), []),
  (44, .return_, (0, 0, 0, 0), [])]
def pg_Mo_write : List AQ := [(0, .iload_n 1, (1, 0, 0, 0), []),
  (1, .i2l, (0, 0, 0, 0), []),
  (2, .lconst 0, (0, 0, 0, 0), []),
  (3, .ldc2_w 82, (0, 0, 0, 255), []),
  (6, .invokestatic 84, (123, 3, 0, 0), []),
  (9, .ifCond .ne 6, (15, 0, 0, 0), []),
  (12, .bipush (-3), (0, 0, 0, 0), []),
  (14, .ireturn, (0, 0, 0, 0), []),
  (15, .aload_n 0, (0, 0, 0, 0), []),
  (16, .getfield 88, (7, 3, 0, 0), []),
  (19, .sipush 200, (0, 0, 0, 0), []),
  (22, .if_icmp .ne 6, (28, 0, 0, 0), []),
  (25, .bipush (-5), (0, 0, 0, 0), []),
  (27, .ireturn, (0, 0, 0, 0), []),
  (28, .aload_n 0, (0, 0, 0, 0), []),
  (29, .getfield 16, (7, 2, 120, 0), []),
  (32, .aload_n 0, (0, 0, 0, 0), []),
  (33, .getfield 88, (7, 3, 0, 0), []),
  (36, .iload_n 1, (1, 0, 0, 0), []),
  (37, .iastore, (0, 0, 0, 0), []),
  (38, .aload_n 0, (0, 0, 0, 0), []),
  (39, .dup, (0, 0, 0, 0), []),
  (40, .getfield 88, (7, 3, 0, 0), []),
  (43, .iconst 1, (0, 0, 0, 0), []),
  (44, .iadd, (0, 0, 0, 0), []),
  (45, .putfield 88, (7, 3, 0, 0), []),
  (48, .aload_n 0, (0, 0, 0, 0), []),
  (49, .getfield 88, (7, 3, 0, 0), []),
  (52, .ireturn, (0, 0, 0, 0), [])]
def pg_Mo_erase : List AQ := [(0, .aload_n 0, (0, 0, 0, 0), []),
  (1, .getfield 88, (7, 3, 0, 0), []),
  (4, .istore_n 1, (1, 0, 0, 0), []),
  (5, .aload_n 0, (0, 0, 0, 0), []),
  (6, .iconst 0, (0, 0, 0, 0), []),
  (7, .putfield 88, (7, 3, 0, 0), []),
  (10, .iload_n 1, (1, 0, 0, 0), []),
  (11, .ireturn, (0, 0, 0, 0), [])]
def pg_Mo_letterAt : List AQ := [(0, .iload_n 1, (1, 0, 0, 0), []),
  (1, .aload_n 0, (0, 0, 0, 0), []),
  (2, .getfield 88, (7, 3, 0, 0), []),
  (5, .if_icmp .ge 12, (17, 0, 0, 0), []),
  (8, .aload_n 0, (0, 0, 0, 0), []),
  (9, .getfield 16, (7, 2, 120, 0), []),
  (12, .iload_n 1, (1, 0, 0, 0), []),
  (13, .iaload, (20, 0, 0, 0), []),
  (14, .goto 4, (18, 0, 0, 0), []),
  (17, .iconst (-1), (0, 0, 0, 0), []),
  (18, .ireturn, (0, 0, 0, 0), [])]
def pg_Mo_word : List AQ := [(0, .lload_n 0, (0, 0, 0, 0), []),
  (1, .bipush 40, (0, 0, 0, 0), []),
  (3, .lshl, (0, 0, 0, 0), []),
  (4, .lload_n 2, (2, 0, 0, 0), []),
  (5, .bipush 32, (0, 0, 0, 0), []),
  (7, .lshl, (0, 0, 0, 0), []),
  (8, .lor, (0, 0, 0, 0), []),
  (9, .lload 4, (0, 0, 0, 0), []),
  (11, .bipush 24, (0, 0, 0, 0), []),
  (13, .lshl, (0, 0, 0, 0), []),
  (14, .lor, (0, 0, 0, 0), []),
  (15, .lload 6, (0, 0, 0, 0), []),
  (17, .bipush 16, (0, 0, 0, 0), []),
  (19, .lshl, (0, 0, 0, 0), []),
  (20, .lor, (0, 0, 0, 0), []),
  (21, .lload 8, (0, 0, 0, 0), []),
  (23, .bipush 8, (0, 0, 0, 0), []),
  (25, .lshl, (0, 0, 0, 0), []),
  (26, .lor, (0, 0, 0, 0), []),
  (27, .lload 10, (0, 0, 0, 0), []),
  (29, .lor, (0, 0, 0, 0), []),
  (30, .lreturn, (0, 0, 0, 0), [])]
def pg_Mo_said_0 : List AQ := [(0, .lconst 0, (0, 0, 0, 0), []),
  (1, .lstore_n 3, (3, 0, 0, 0), []),
  (2, .iload_n 1, (1, 0, 0, 0), []),
  (3, .istore 5, (0, 0, 0, 0), []),
  (5, .iload 5, (0, 0, 0, 0), []),
  (7, .iload_n 2, (2, 0, 0, 0), []),
  (8, .if_icmp .ge 35, (43, 0, 0, 0), []),
  (11, .iload_n 2, (2, 0, 0, 0), []),
  (12, .iload_n 1, (1, 0, 0, 0), []),
  (13, .isub, (0, 0, 0, 0), []),
  (14, .bipush 6, (0, 0, 0, 0), []),
  (16, .if_icmp .le 7, (23, 0, 0, 0), []),
  (19, .lconst 0, (0, 0, 0, 0), []),
  (20, .goto 16, (36, 0, 0, 0), []),
  (23, .lload_n 3, (3, 0, 0, 0), []),
  (24, .bipush 8, (0, 0, 0, 0), []),
  (26, .lshl, (0, 0, 0, 0), []),
  (27, .aload_n 0, (0, 0, 0, 0), []),
  (28, .getfield 16, (7, 2, 120, 0), []),
  (31, .iload 5, (0, 0, 0, 0), []),
  (33, .iaload, (20, 0, 0, 0), []),
  (34, .i2l, (0, 0, 0, 0), []),
  (35, .lor, (0, 0, 0, 0), []),
  (36, .lstore_n 3, (3, 0, 0, 0), []),
  (37, .iinc 5 1, (0, 0, 0, 0), []),
  (40, .goto (-35), (5, 0, 0, 0), []),
  (43, .lload_n 3, (3, 0, 0, 0), []),
  (44, .lconst 0, (0, 0, 0, 0), []),
  (45, .ldc2_w 92, (0, 0, 0, 98), []),
  (48, .ldc2_w 94, (0, 0, 0, 111), []),
  (51, .ldc2_w 96, (0, 0, 0, 97), []),
  (54, .ldc2_w 98, (0, 0, 0, 114), []),
  (57, .ldc2_w 100, (0, 0, 0, 100), []),
  (60, .invokestatic 102, (129, 6, 2, 0), []),
  (63, .lcmp, (0, 0, 0, 0), []),
  (64, .ifCond .ne 7, (71, 0, 0, 0), []),
  (67, .iconst 1, (0, 0, 0, 0), []),
  (68, .goto 224, (292, 0, 0, 0), []),
  (71, .lload_n 3, (3, 0, 0, 0), []),
  (72, .lconst 0, (0, 0, 0, 0), []),
  (73, .ldc2_w 106, (0, 0, 0, 115), []),
  (76, .ldc2_w 108, (0, 0, 0, 101), []),
  (79, .ldc2_w 108, (0, 0, 0, 101), []),
  (82, .ldc2_w 100, (0, 0, 0, 100), []),
  (85, .ldc2_w 106, (0, 0, 0, 115), []),
  (88, .invokestatic 102, (129, 6, 2, 0), []),
  (91, .lcmp, (0, 0, 0, 0), []),
  (92, .ifCond .ne 7, (99, 0, 0, 0), []),
  (95, .iconst 2, (0, 0, 0, 0), []),
  (96, .goto 196, (292, 0, 0, 0), []),
  (99, .lload_n 3, (3, 0, 0, 0), []),
  (100, .lconst 0, (0, 0, 0, 0), []),
  (101, .lconst 0, (0, 0, 0, 0), []),
  (102, .ldc2_w 92, (0, 0, 0, 98), []),
  (105, .ldc2_w 96, (0, 0, 0, 97), []),
  (108, .ldc2_w 98, (0, 0, 0, 114), []),
  (111, .ldc2_w 110, (0, 0, 0, 110), []),
  (114, .invokestatic 102, (129, 6, 2, 0), []),
  (117, .lcmp, (0, 0, 0, 0), []),
  (118, .ifCond .ne 7, (125, 0, 0, 0), [])]
def pg_Mo_said_1 : List AQ := [(121, .iconst 3, (0, 0, 0, 0), []),
  (122, .goto 170, (292, 0, 0, 0), []),
  (125, .lload_n 3, (3, 0, 0, 0), []),
  (126, .lconst 0, (0, 0, 0, 0), []),
  (127, .lconst 0, (0, 0, 0, 0), []),
  (128, .ldc2_w 112, (0, 0, 0, 116), []),
  (131, .ldc2_w 114, (0, 0, 0, 117), []),
  (134, .ldc2_w 98, (0, 0, 0, 114), []),
  (137, .ldc2_w 110, (0, 0, 0, 110), []),
  (140, .invokestatic 102, (129, 6, 2, 0), []),
  (143, .lcmp, (0, 0, 0, 0), []),
  (144, .ifCond .ne 7, (151, 0, 0, 0), []),
  (147, .iconst 4, (0, 0, 0, 0), []),
  (148, .goto 144, (292, 0, 0, 0), []),
  (151, .lload_n 3, (3, 0, 0, 0), []),
  (152, .lconst 0, (0, 0, 0, 0), []),
  (153, .ldc2_w 116, (0, 0, 0, 112), []),
  (156, .ldc2_w 118, (0, 0, 0, 108), []),
  (159, .ldc2_w 96, (0, 0, 0, 97), []),
  (162, .ldc2_w 120, (0, 0, 0, 105), []),
  (165, .ldc2_w 110, (0, 0, 0, 110), []),
  (168, .invokestatic 102, (129, 6, 2, 0), []),
  (171, .lcmp, (0, 0, 0, 0), []),
  (172, .ifCond .ne 7, (179, 0, 0, 0), []),
  (175, .iconst 5, (0, 0, 0, 0), []),
  (176, .goto 116, (292, 0, 0, 0), []),
  (179, .lload_n 3, (3, 0, 0, 0), []),
  (180, .lconst 0, (0, 0, 0, 0), []),
  (181, .lconst 0, (0, 0, 0, 0), []),
  (182, .ldc2_w 100, (0, 0, 0, 100), []),
  (185, .ldc2_w 108, (0, 0, 0, 101), []),
  (188, .ldc2_w 108, (0, 0, 0, 101), []),
  (191, .ldc2_w 116, (0, 0, 0, 112), []),
  (194, .invokestatic 102, (129, 6, 2, 0), []),
  (197, .lcmp, (0, 0, 0, 0), []),
  (198, .ifCond .ne 8, (206, 0, 0, 0), []),
  (201, .bipush 6, (0, 0, 0, 0), []),
  (203, .goto 89, (292, 0, 0, 0), []),
  (206, .lload_n 3, (3, 0, 0, 0), []),
  (207, .lconst 0, (0, 0, 0, 0), []),
  (208, .lconst 0, (0, 0, 0, 0), []),
  (209, .ldc2_w 98, (0, 0, 0, 114), []),
  (212, .ldc2_w 120, (0, 0, 0, 105), []),
  (215, .ldc2_w 122, (0, 0, 0, 99), []),
  (218, .ldc2_w 124, (0, 0, 0, 104), []),
  (221, .invokestatic 102, (129, 6, 2, 0), []),
  (224, .lcmp, (0, 0, 0, 0), []),
  (225, .ifCond .ne 8, (233, 0, 0, 0), []),
  (228, .bipush 7, (0, 0, 0, 0), []),
  (230, .goto 62, (292, 0, 0, 0), []),
  (233, .lload_n 3, (3, 0, 0, 0), []),
  (234, .ldc2_w 92, (0, 0, 0, 98), []),
  (237, .ldc2_w 96, (0, 0, 0, 97), []),
  (240, .ldc2_w 98, (0, 0, 0, 114), []),
  (243, .ldc2_w 98, (0, 0, 0, 114), []),
  (246, .ldc2_w 108, (0, 0, 0, 101), []),
  (249, .ldc2_w 100, (0, 0, 0, 100), []),
  (252, .invokestatic 102, (129, 6, 2, 0), []),
  (255, .lcmp, (0, 0, 0, 0), []),
  (256, .ifCond .ne 8, (264, 0, 0, 0), [])]
def pg_Mo_said_2 : List AQ := [(259, .bipush 8, (0, 0, 0, 0), []),
  (261, .goto 31, (292, 0, 0, 0), []),
  (264, .lload_n 3, (3, 0, 0, 0), []),
  (265, .lconst 0, (0, 0, 0, 0), []),
  (266, .lconst 0, (0, 0, 0, 0), []),
  (267, .ldc2_w 126, (0, 0, 0, 109), []),
  (270, .ldc2_w 108, (0, 0, 0, 101), []),
  (273, .ldc2_w 96, (0, 0, 0, 97), []),
  (276, .ldc2_w 110, (0, 0, 0, 110), []),
  (279, .invokestatic 102, (129, 6, 2, 0), []),
  (282, .lcmp, (0, 0, 0, 0), []),
  (283, .ifCond .ne 8, (291, 0, 0, 0), []),
  (286, .bipush 9, (0, 0, 0, 0), []),
  (288, .goto 4, (292, 0, 0, 0), []),
  (291, .iconst 0, (0, 0, 0, 0), []),
  (292, .ireturn, (0, 0, 0, 0), [])]
def pg_Mo_said : List AQ := pg_Mo_said_0 ++ (pg_Mo_said_1 ++ (pg_Mo_said_2))
def pg_Mo_looksOn_0 : List AQ := [(0, .aload_n 0, (0, 0, 0, 0), []),
  (1, .aload_n 0, (0, 0, 0, 0), []),
  (2, .getfield 128, (7, 4, 0, 0), []),
  (5, .invokevirtual 131, (128, 2, 0, 107), []),
  (8, .bipush 32, (0, 0, 0, 0), []),
  (10, .if_icmp .ne 16, (26, 0, 0, 0), []),
  (13, .aload_n 0, (0, 0, 0, 0), []),
  (14, .dup, (0, 0, 0, 0), []),
  (15, .getfield 128, (7, 4, 0, 0), []),
  (18, .iconst 1, (0, 0, 0, 0), []),
  (19, .iadd, (0, 0, 0, 0), []),
  (20, .putfield 128, (7, 4, 0, 0), []),
  (23, .goto (-23), (0, 0, 0, 0), []),
  (26, .aload_n 0, (0, 0, 0, 0), []),
  (27, .aload_n 0, (0, 0, 0, 0), []),
  (28, .getfield 128, (7, 4, 0, 0), []),
  (31, .putfield 135, (7, 5, 0, 0), []),
  (34, .aload_n 0, (0, 0, 0, 0), []),
  (35, .aload_n 0, (0, 0, 0, 0), []),
  (36, .getfield 128, (7, 4, 0, 0), []),
  (39, .invokevirtual 131, (128, 2, 0, 107), []),
  (42, .istore_n 1, (1, 0, 0, 0), []),
  (43, .iload_n 1, (1, 0, 0, 0), []),
  (44, .i2l, (0, 0, 0, 0), []),
  (45, .ldc2_w 96, (0, 0, 0, 97), []),
  (48, .ldc2_w 138, (0, 0, 0, 122), []),
  (51, .invokestatic 84, (123, 3, 0, 0), []),
  (54, .ifCond .eq 61, (115, 0, 0, 0), []),
  (57, .aload_n 0, (0, 0, 0, 0), []),
  (58, .aload_n 0, (0, 0, 0, 0), []),
  (59, .getfield 128, (7, 4, 0, 0), []),
  (62, .invokevirtual 131, (128, 2, 0, 107), []),
  (65, .i2l, (0, 0, 0, 0), []),
  (66, .ldc2_w 96, (0, 0, 0, 97), []),
  (69, .ldc2_w 138, (0, 0, 0, 122), []),
  (72, .invokestatic 84, (123, 3, 0, 0), []),
  (75, .ifCond .eq 16, (91, 0, 0, 0), []),
  (78, .aload_n 0, (0, 0, 0, 0), []),
  (79, .dup, (0, 0, 0, 0), []),
  (80, .getfield 128, (7, 4, 0, 0), []),
  (83, .iconst 1, (0, 0, 0, 0), []),
  (84, .iadd, (0, 0, 0, 0), []),
  (85, .putfield 128, (7, 4, 0, 0), []),
  (88, .goto (-31), (57, 0, 0, 0), []),
  (91, .aload_n 0, (0, 0, 0, 0), []),
  (92, .iconst 1, (0, 0, 0, 0), []),
  (93, .putfield 140, (7, 6, 0, 0), []),
  (96, .aload_n 0, (0, 0, 0, 0), []),
  (97, .aload_n 0, (0, 0, 0, 0), []),
  (98, .aload_n 0, (0, 0, 0, 0), []),
  (99, .getfield 135, (7, 5, 0, 0), []),
  (102, .aload_n 0, (0, 0, 0, 0), []),
  (103, .getfield 128, (7, 4, 0, 0), []),
  (106, .invokevirtual 143, (130, 3, 0, 107), []),
  (109, .putfield 147, (7, 7, 0, 0), []),
  (112, .goto 166, (278, 0, 0, 0), []),
  (115, .iload_n 1, (1, 0, 0, 0), []),
  (116, .i2l, (0, 0, 0, 0), []),
  (117, .ldc2_w 150, (0, 0, 0, 48), []),
  (120, .ldc2_w 152, (0, 0, 0, 57), [])]
def pg_Mo_looksOn_1 : List AQ := [(123, .invokestatic 84, (123, 3, 0, 0), []),
  (126, .ifCond .eq 111, (237, 0, 0, 0), []),
  (129, .aload_n 0, (0, 0, 0, 0), []),
  (130, .iconst 0, (0, 0, 0, 0), []),
  (131, .putfield 147, (7, 7, 0, 0), []),
  (134, .aload_n 0, (0, 0, 0, 0), []),
  (135, .aload_n 0, (0, 0, 0, 0), []),
  (136, .getfield 128, (7, 4, 0, 0), []),
  (139, .invokevirtual 131, (128, 2, 0, 107), []),
  (142, .i2l, (0, 0, 0, 0), []),
  (143, .ldc2_w 150, (0, 0, 0, 48), []),
  (146, .ldc2_w 152, (0, 0, 0, 57), []),
  (149, .invokestatic 84, (123, 3, 0, 0), []),
  (152, .ifCond .eq 60, (212, 0, 0, 0), []),
  (155, .aload_n 0, (0, 0, 0, 0), []),
  (156, .aload_n 0, (0, 0, 0, 0), []),
  (157, .getfield 128, (7, 4, 0, 0), []),
  (160, .aload_n 0, (0, 0, 0, 0), []),
  (161, .getfield 135, (7, 5, 0, 0), []),
  (164, .isub, (0, 0, 0, 0), []),
  (165, .iconst 2, (0, 0, 0, 0), []),
  (166, .if_icmp .ge 26, (192, 0, 0, 0), []),
  (169, .bipush 10, (0, 0, 0, 0), []),
  (171, .aload_n 0, (0, 0, 0, 0), []),
  (172, .getfield 147, (7, 7, 0, 0), []),
  (175, .imul, (0, 0, 0, 0), []),
  (176, .aload_n 0, (0, 0, 0, 0), []),
  (177, .getfield 16, (7, 2, 120, 0), []),
  (180, .aload_n 0, (0, 0, 0, 0), []),
  (181, .getfield 128, (7, 4, 0, 0), []),
  (184, .iaload, (20, 0, 0, 0), []),
  (185, .iadd, (0, 0, 0, 0), []),
  (186, .bipush 48, (0, 0, 0, 0), []),
  (188, .isub, (0, 0, 0, 0), []),
  (189, .goto 7, (196, 0, 0, 0), []),
  (192, .aload_n 0, (0, 0, 0, 0), []),
  (193, .getfield 147, (7, 7, 0, 0), []),
  (196, .putfield 147, (7, 7, 0, 0), []),
  (199, .aload_n 0, (0, 0, 0, 0), []),
  (200, .dup, (0, 0, 0, 0), []),
  (201, .getfield 128, (7, 4, 0, 0), []),
  (204, .iconst 1, (0, 0, 0, 0), []),
  (205, .iadd, (0, 0, 0, 0), []),
  (206, .putfield 128, (7, 4, 0, 0), []),
  (209, .goto (-75), (134, 0, 0, 0), []),
  (212, .aload_n 0, (0, 0, 0, 0), []),
  (213, .aload_n 0, (0, 0, 0, 0), []),
  (214, .getfield 128, (7, 4, 0, 0), []),
  (217, .aload_n 0, (0, 0, 0, 0), []),
  (218, .getfield 135, (7, 5, 0, 0), []),
  (221, .isub, (0, 0, 0, 0), []),
  (222, .iconst 2, (0, 0, 0, 0), []),
  (223, .if_icmp .le 7, (230, 0, 0, 0), []),
  (226, .iconst 5, (0, 0, 0, 0), []),
  (227, .goto 4, (231, 0, 0, 0), []),
  (230, .iconst 2, (0, 0, 0, 0), []),
  (231, .putfield 140, (7, 6, 0, 0), []),
  (234, .goto 44, (278, 0, 0, 0), []),
  (237, .aload_n 0, (0, 0, 0, 0), []),
  (238, .iload_n 1, (1, 0, 0, 0), [])]
def pg_Mo_looksOn_2 : List AQ := [(239, .bipush 59, (0, 0, 0, 0), []),
  (241, .if_icmp .ne 7, (248, 0, 0, 0), []),
  (244, .iconst 3, (0, 0, 0, 0), []),
  (245, .goto 12, (257, 0, 0, 0), []),
  (248, .iload_n 1, (1, 0, 0, 0), []),
  (249, .ifCond .ge 7, (256, 0, 0, 0), []),
  (252, .iconst 4, (0, 0, 0, 0), []),
  (253, .goto 4, (257, 0, 0, 0), []),
  (256, .iconst 5, (0, 0, 0, 0), []),
  (257, .putfield 140, (7, 6, 0, 0), []),
  (260, .aload_n 0, (0, 0, 0, 0), []),
  (261, .dup, (0, 0, 0, 0), []),
  (262, .getfield 128, (7, 4, 0, 0), []),
  (265, .iload_n 1, (1, 0, 0, 0), []),
  (266, .ifCond .ge 7, (273, 0, 0, 0), []),
  (269, .iconst 0, (0, 0, 0, 0), []),
  (270, .goto 4, (274, 0, 0, 0), []),
  (273, .iconst 1, (0, 0, 0, 0), []),
  (274, .iadd, (0, 0, 0, 0), []),
  (275, .putfield 128, (7, 4, 0, 0), []),
  (278, .return_, (0, 0, 0, 0), [])]
def pg_Mo_looksOn : List AQ := pg_Mo_looksOn_0 ++ (pg_Mo_looksOn_1 ++ (pg_Mo_looksOn_2))
def pg_Mo_must : List AQ := [(0, .aload_n 0, (0, 0, 0, 0), []),
  (1, .getfield 154, (7, 8, 0, 0), []),
  (4, .ifCond .ge 15, (19, 0, 0, 0), []),
  (7, .iload_n 1, (1, 0, 0, 0), []),
  (8, .ifCond .ne 11, (19, 0, 0, 0), []),
  (11, .aload_n 0, (0, 0, 0, 0), []),
  (12, .aload_n 0, (0, 0, 0, 0), []),
  (13, .getfield 135, (7, 5, 0, 0), []),
  (16, .putfield 154, (7, 8, 0, 0), []),
  (19, .aload_n 0, (0, 0, 0, 0), []),
  (20, .getfield 154, (7, 8, 0, 0), []),
  (23, .ifCond .ge 7, (30, 0, 0, 0), []),
  (26, .aload_n 0, (0, 0, 0, 0), []),
  (27, .invokevirtual 157, (131, 1, 9, 107), []),
  (30, .return_, (0, 0, 0, 0), [])]
def pg_Mo_number : List AQ := [(0, .aload_n 0, (0, 0, 0, 0), []),
  (1, .getfield 147, (7, 7, 0, 0), []),
  (4, .istore_n 3, (3, 0, 0, 0), []),
  (5, .aload_n 0, (0, 0, 0, 0), []),
  (6, .aload_n 0, (0, 0, 0, 0), []),
  (7, .getfield 140, (7, 6, 0, 0), []),
  (10, .iconst 2, (0, 0, 0, 0), []),
  (11, .if_icmp .ne 19, (30, 0, 0, 0), []),
  (14, .iload_n 3, (3, 0, 0, 0), []),
  (15, .i2l, (0, 0, 0, 0), []),
  (16, .iload_n 1, (1, 0, 0, 0), []),
  (17, .i2l, (0, 0, 0, 0), []),
  (18, .iload_n 2, (2, 0, 0, 0), []),
  (19, .i2l, (0, 0, 0, 0), []),
  (20, .invokestatic 84, (123, 3, 0, 0), []),
  (23, .ifCond .eq 7, (30, 0, 0, 0), []),
  (26, .iconst 1, (0, 0, 0, 0), []),
  (27, .goto 4, (31, 0, 0, 0), []),
  (30, .iconst 0, (0, 0, 0, 0), []),
  (31, .invokevirtual 160, (132, 2, 9, 107), []),
  (34, .iload_n 3, (3, 0, 0, 0), []),
  (35, .ireturn, (0, 0, 0, 0), [])]
def pg_Mo_reads_0 : List AQ := [(0, .aload_n 0, (0, 0, 0, 0), []),
  (1, .getfield 140, (7, 6, 0, 0), []),
  (4, .iconst 1, (0, 0, 0, 0), []),
  (5, .if_icmp .ne 10, (15, 0, 0, 0), []),
  (8, .aload_n 0, (0, 0, 0, 0), []),
  (9, .getfield 147, (7, 7, 0, 0), []),
  (12, .goto 4, (16, 0, 0, 0), []),
  (15, .iconst 0, (0, 0, 0, 0), []),
  (16, .istore_n 1, (1, 0, 0, 0), []),
  (17, .aload_n 0, (0, 0, 0, 0), []),
  (18, .iload_n 1, (1, 0, 0, 0), []),
  (19, .ifCond .le 7, (26, 0, 0, 0), []),
  (22, .iconst 1, (0, 0, 0, 0), []),
  (23, .goto 4, (27, 0, 0, 0), []),
  (26, .iconst 0, (0, 0, 0, 0), []),
  (27, .invokevirtual 160, (132, 2, 9, 107), []),
  (30, .iload_n 1, (1, 0, 0, 0), []),
  (31, .iconst 1, (0, 0, 0, 0), []),
  (32, .if_icmp .ne 28, (60, 0, 0, 0), []),
  (35, .aload_n 0, (0, 0, 0, 0), []),
  (36, .iconst 2, (0, 0, 0, 0), []),
  (37, .iconst 5, (0, 0, 0, 0), []),
  (38, .invokevirtual 164, (133, 3, 0, 107), []),
  (41, .istore_n 2, (2, 0, 0, 0), []),
  (42, .aload_n 0, (0, 0, 0, 0), []),
  (43, .getfield 154, (7, 8, 0, 0), []),
  (46, .ifCond .ge 11, (57, 0, 0, 0), []),
  (49, .aload_n 0, (0, 0, 0, 0), []),
  (50, .getfield 19, (7, 9, 120, 0), []),
  (53, .iload_n 2, (2, 0, 0, 0), []),
  (54, .invokestatic 75, (125, 2, 9, 0), []),
  (57, .goto 123, (180, 0, 0, 0), []),
  (60, .iload_n 1, (1, 0, 0, 0), []),
  (61, .iconst 4, (0, 0, 0, 0), []),
  (62, .if_icmp .ne 18, (80, 0, 0, 0), []),
  (65, .aload_n 0, (0, 0, 0, 0), []),
  (66, .getfield 19, (7, 9, 120, 0), []),
  (69, .iconst 1, (0, 0, 0, 0), []),
  (70, .aload_n 0, (0, 0, 0, 0), []),
  (71, .iconst 0, (0, 0, 0, 0), []),
  (72, .iconst 1, (0, 0, 0, 0), []),
  (73, .invokevirtual 164, (133, 3, 0, 107), []),
  (76, .iastore, (0, 0, 0, 0), []),
  (77, .goto 103, (180, 0, 0, 0), []),
  (80, .iload_n 1, (1, 0, 0, 0), []),
  (81, .iconst 3, (0, 0, 0, 0), []),
  (82, .if_icmp .ne 37, (119, 0, 0, 0), []),
  (85, .aload_n 0, (0, 0, 0, 0), []),
  (86, .iconst 0, (0, 0, 0, 0), []),
  (87, .iconst 1, (0, 0, 0, 0), []),
  (88, .invokevirtual 164, (133, 3, 0, 107), []),
  (91, .istore_n 2, (2, 0, 0, 0), []),
  (92, .aload_n 0, (0, 0, 0, 0), []),
  (93, .iconst 0, (0, 0, 0, 0), []),
  (94, .bipush 99, (0, 0, 0, 0), []),
  (96, .invokevirtual 164, (133, 3, 0, 107), []),
  (99, .istore_n 3, (3, 0, 0, 0), []),
  (100, .aload_n 0, (0, 0, 0, 0), []),
  (101, .getfield 154, (7, 8, 0, 0), []),
  (104, .ifCond .ge 12, (116, 0, 0, 0), [])]
def pg_Mo_reads_1 : List AQ := [(107, .aload_n 0, (0, 0, 0, 0), []),
  (108, .getfield 19, (7, 9, 120, 0), []),
  (111, .iconst 2, (0, 0, 0, 0), []),
  (112, .iload_n 2, (2, 0, 0, 0), []),
  (113, .iadd, (0, 0, 0, 0), []),
  (114, .iload_n 3, (3, 0, 0, 0), []),
  (115, .iastore, (0, 0, 0, 0), []),
  (116, .goto 64, (180, 0, 0, 0), []),
  (119, .aload_n 0, (0, 0, 0, 0), []),
  (120, .iconst 0, (0, 0, 0, 0), []),
  (121, .iconst 2, (0, 0, 0, 0), []),
  (122, .aload_n 0, (0, 0, 0, 0), []),
  (123, .getfield 19, (7, 9, 120, 0), []),
  (126, .iconst 0, (0, 0, 0, 0), []),
  (127, .iaload, (20, 0, 0, 0), []),
  (128, .imul, (0, 0, 0, 0), []),
  (129, .iconst 1, (0, 0, 0, 0), []),
  (130, .isub, (0, 0, 0, 0), []),
  (131, .invokevirtual 164, (133, 3, 0, 107), []),
  (134, .istore_n 2, (2, 0, 0, 0), []),
  (135, .iload_n 1, (1, 0, 0, 0), []),
  (136, .iconst 2, (0, 0, 0, 0), []),
  (137, .if_icmp .ne 13, (150, 0, 0, 0), []),
  (140, .aload_n 0, (0, 0, 0, 0), []),
  (141, .iconst 0, (0, 0, 0, 0), []),
  (142, .bipush 30, (0, 0, 0, 0), []),
  (144, .invokevirtual 164, (133, 3, 0, 107), []),
  (147, .goto 6, (153, 0, 0, 0), []),
  (150, .iload_n 1, (1, 0, 0, 0), []),
  (151, .iconst 5, (0, 0, 0, 0), []),
  (152, .isub, (0, 0, 0, 0), []),
  (153, .istore_n 3, (3, 0, 0, 0), []),
  (154, .aload_n 0, (0, 0, 0, 0), []),
  (155, .getfield 154, (7, 8, 0, 0), []),
  (158, .ifCond .ge 22, (180, 0, 0, 0), []),
  (161, .aload_n 0, (0, 0, 0, 0), []),
  (162, .getfield 19, (7, 9, 120, 0), []),
  (165, .iload_n 1, (1, 0, 0, 0), []),
  (166, .iconst 2, (0, 0, 0, 0), []),
  (167, .if_icmp .ne 8, (175, 0, 0, 0), []),
  (170, .bipush 15, (0, 0, 0, 0), []),
  (172, .goto 4, (176, 0, 0, 0), []),
  (175, .iconst 5, (0, 0, 0, 0), []),
  (176, .iload_n 2, (2, 0, 0, 0), []),
  (177, .iadd, (0, 0, 0, 0), []),
  (178, .iload_n 3, (3, 0, 0, 0), []),
  (179, .iastore, (0, 0, 0, 0), []),
  (180, .return_, (0, 0, 0, 0), [])]
def pg_Mo_reads : List AQ := pg_Mo_reads_0 ++ (pg_Mo_reads_1)
def pg_Mo_clauses_0 : List AQ := [(0, .iconst 0, (0, 0, 0, 0), []),
  (1, .istore_n 1, (1, 0, 0, 0), []),
  (2, .iload_n 1, (1, 0, 0, 0), []),
  (3, .bipush 25, (0, 0, 0, 0), []),
  (5, .if_icmp .ge 21, (26, 0, 0, 0), []),
  (8, .aload_n 0, (0, 0, 0, 0), []),
  (9, .getfield 19, (7, 9, 120, 0), []),
  (12, .iload_n 1, (1, 0, 0, 0), []),
  (13, .aload_n 0, (0, 0, 0, 0), []),
  (14, .getfield 13, (7, 1, 120, 0), []),
  (17, .iload_n 1, (1, 0, 0, 0), []),
  (18, .iaload, (20, 0, 0, 0), []),
  (19, .iastore, (0, 0, 0, 0), []),
  (20, .iinc 1 1, (0, 0, 0, 0), []),
  (23, .goto (-21), (2, 0, 0, 0), []),
  (26, .aload_n 0, (0, 0, 0, 0), []),
  (27, .iconst 0, (0, 0, 0, 0), []),
  (28, .putfield 128, (7, 4, 0, 0), []),
  (31, .aload_n 0, (0, 0, 0, 0), []),
  (32, .iconst (-1), (0, 0, 0, 0), []),
  (33, .putfield 154, (7, 8, 0, 0), []),
  (36, .aload_n 0, (0, 0, 0, 0), []),
  (37, .invokevirtual 157, (131, 1, 9, 107), []),
  (40, .iconst 0, (0, 0, 0, 0), []),
  (41, .istore_n 1, (1, 0, 0, 0), []),
  (42, .iconst 1, (0, 0, 0, 0), []),
  (43, .istore_n 2, (2, 0, 0, 0), []),
  (44, .iload_n 2, (2, 0, 0, 0), []),
  (45, .ifCond .eq 74, (119, 0, 0, 0), []),
  (48, .aload_n 0, (0, 0, 0, 0), []),
  (49, .invokevirtual 167, (134, 1, 9, 107), []),
  (52, .iinc 1 1, (0, 0, 0, 0), []),
  (55, .aload_n 0, (0, 0, 0, 0), []),
  (56, .getfield 154, (7, 8, 0, 0), []),
  (59, .ifCond .ge 15, (74, 0, 0, 0), []),
  (62, .aload_n 0, (0, 0, 0, 0), []),
  (63, .getfield 140, (7, 6, 0, 0), []),
  (66, .iconst 4, (0, 0, 0, 0), []),
  (67, .if_icmp .eq 7, (74, 0, 0, 0), []),
  (70, .iconst 1, (0, 0, 0, 0), []),
  (71, .goto 4, (75, 0, 0, 0), []),
  (74, .iconst 0, (0, 0, 0, 0), []),
  (75, .istore_n 2, (2, 0, 0, 0), []),
  (76, .iload_n 2, (2, 0, 0, 0), []),
  (77, .ifCond .eq (-33), (44, 0, 0, 0), []),
  (80, .aload_n 0, (0, 0, 0, 0), []),
  (81, .aload_n 0, (0, 0, 0, 0), []),
  (82, .getfield 140, (7, 6, 0, 0), []),
  (85, .iconst 3, (0, 0, 0, 0), []),
  (86, .if_icmp .ne 13, (99, 0, 0, 0), []),
  (89, .iload_n 1, (1, 0, 0, 0), []),
  (90, .bipush 24, (0, 0, 0, 0), []),
  (92, .if_icmp .ge 7, (99, 0, 0, 0), []),
  (95, .iconst 1, (0, 0, 0, 0), []),
  (96, .goto 4, (100, 0, 0, 0), []),
  (99, .iconst 0, (0, 0, 0, 0), []),
  (100, .invokevirtual 160, (132, 2, 9, 107), []),
  (103, .aload_n 0, (0, 0, 0, 0), []),
  (104, .getfield 154, (7, 8, 0, 0), []),
  (107, .ifCond .ge 7, (114, 0, 0, 0), [])]
def pg_Mo_clauses_1 : List AQ := [(110, .iconst 1, (0, 0, 0, 0), []),
  (111, .goto 4, (115, 0, 0, 0), []),
  (114, .iconst 0, (0, 0, 0, 0), []),
  (115, .istore_n 2, (2, 0, 0, 0), []),
  (116, .goto (-72), (44, 0, 0, 0), []),
  (119, .iload_n 1, (1, 0, 0, 0), []),
  (120, .ireturn, (0, 0, 0, 0), [])]
def pg_Mo_clauses : List AQ := pg_Mo_clauses_0 ++ (pg_Mo_clauses_1)
def pg_Mo_fault : List AQ := [(0, .aload_n 0, (0, 0, 0, 0), []),
  (1, .invokevirtual 170, (135, 1, 0, 107), []),
  (4, .ifCond .le 17, (21, 0, 0, 0), []),
  (7, .aload_n 0, (0, 0, 0, 0), []),
  (8, .getfield 154, (7, 8, 0, 0), []),
  (11, .ifCond .lt 10, (21, 0, 0, 0), []),
  (14, .aload_n 0, (0, 0, 0, 0), []),
  (15, .getfield 154, (7, 8, 0, 0), []),
  (18, .goto 4, (22, 0, 0, 0), []),
  (21, .iconst (-1), (0, 0, 0, 0), []),
  (22, .ireturn, (0, 0, 0, 0), [])]
def pg_Mo_board : List AQ := [(0, .aload_n 0, (0, 0, 0, 0), []),
  (1, .invokevirtual 170, (135, 1, 0, 107), []),
  (4, .istore_n 1, (1, 0, 0, 0), []),
  (5, .aload_n 0, (0, 0, 0, 0), []),
  (6, .getfield 154, (7, 8, 0, 0), []),
  (9, .ifCond .lt 6, (15, 0, 0, 0), []),
  (12, .bipush (-4), (0, 0, 0, 0), []),
  (14, .ireturn, (0, 0, 0, 0), []),
  (15, .iconst 0, (0, 0, 0, 0), []),
  (16, .istore_n 2, (2, 0, 0, 0), []),
  (17, .iload_n 2, (2, 0, 0, 0), []),
  (18, .bipush 25, (0, 0, 0, 0), []),
  (20, .if_icmp .ge 33, (53, 0, 0, 0), []),
  (23, .aload_n 0, (0, 0, 0, 0), []),
  (24, .getfield 13, (7, 1, 120, 0), []),
  (27, .iload_n 2, (2, 0, 0, 0), []),
  (28, .aload_n 0, (0, 0, 0, 0), []),
  (29, .getfield 19, (7, 9, 120, 0), []),
  (32, .iload_n 2, (2, 0, 0, 0), []),
  (33, .iaload, (20, 0, 0, 0), []),
  (34, .iastore, (0, 0, 0, 0), []),
  (35, .aload_n 0, (0, 0, 0, 0), []),
  (36, .getfield 7, (7, 0, 120, 0), []),
  (39, .iload_n 2, (2, 0, 0, 0), []),
  (40, .aload_n 0, (0, 0, 0, 0), []),
  (41, .getfield 19, (7, 9, 120, 0), []),
  (44, .iload_n 2, (2, 0, 0, 0), []),
  (45, .iaload, (20, 0, 0, 0), []),
  (46, .iastore, (0, 0, 0, 0), []),
  (47, .iinc 2 1, (0, 0, 0, 0), []),
  (50, .goto (-33), (17, 0, 0, 0), []),
  (53, .aload_n 0, (0, 0, 0, 0), []),
  (54, .iconst 0, (0, 0, 0, 0), []),
  (55, .putfield 88, (7, 3, 0, 0), []),
  (58, .aload_n 0, (0, 0, 0, 0), []),
  (59, .iconst 0, (0, 0, 0, 0), []),
  (60, .putfield 174, (7, 11, 0, 0), []),
  (63, .aload_n 0, (0, 0, 0, 0), []),
  (64, .iconst 0, (0, 0, 0, 0), []),
  (65, .putfield 177, (7, 13, 0, 0), []),
  (68, .aload_n 0, (0, 0, 0, 0), []),
  (69, .iconst 0, (0, 0, 0, 0), []),
  (70, .putfield 180, (7, 23, 0, 0), []),
  (73, .aload_n 0, (0, 0, 0, 0), []),
  (74, .invokevirtual 79, (182, 1, 9, 107), []),
  (77, .iload_n 1, (1, 0, 0, 0), []),
  (78, .ireturn, (0, 0, 0, 0), [])]
def pg_Mo_isHouse : List AQ := [(0, .iload_n 1, (1, 0, 0, 0), []),
  (1, .i2l, (0, 0, 0, 0), []),
  (2, .lconst 0, (0, 0, 0, 0), []),
  (3, .iconst 2, (0, 0, 0, 0), []),
  (4, .aload_n 0, (0, 0, 0, 0), []),
  (5, .getfield 7, (7, 0, 120, 0), []),
  (8, .iconst 0, (0, 0, 0, 0), []),
  (9, .iaload, (20, 0, 0, 0), []),
  (10, .imul, (0, 0, 0, 0), []),
  (11, .iconst 1, (0, 0, 0, 0), []),
  (12, .isub, (0, 0, 0, 0), []),
  (13, .i2l, (0, 0, 0, 0), []),
  (14, .invokestatic 84, (123, 3, 0, 0), []),
  (17, .ireturn, (6, 0, 0, 0), [])]
def pg_Mo_liftsOf : List AQ := [(0, .iload_n 0, (0, 0, 0, 0), []),
  (1, .iconst 1, (0, 0, 0, 0), []),
  (2, .if_icmp .ne 18, (20, 0, 0, 0), []),
  (5, .iload_n 1, (1, 0, 0, 0), []),
  (6, .iconst 1, (0, 0, 0, 0), []),
  (7, .if_icmp .ge 7, (14, 0, 0, 0), []),
  (10, .iconst 0, (0, 0, 0, 0), []),
  (11, .goto 32, (43, 0, 0, 0), []),
  (14, .iload_n 1, (1, 0, 0, 0), []),
  (15, .iconst 1, (0, 0, 0, 0), []),
  (16, .isub, (0, 0, 0, 0), []),
  (17, .goto 26, (43, 0, 0, 0), []),
  (20, .iload_n 0, (0, 0, 0, 0), []),
  (21, .iconst 3, (0, 0, 0, 0), []),
  (22, .if_icmp .ne 7, (29, 0, 0, 0), []),
  (25, .iconst 0, (0, 0, 0, 0), []),
  (26, .goto 17, (43, 0, 0, 0), []),
  (29, .iload_n 0, (0, 0, 0, 0), []),
  (30, .iconst 4, (0, 0, 0, 0), []),
  (31, .if_icmp .ne 11, (42, 0, 0, 0), []),
  (34, .iload_n 1, (1, 0, 0, 0), []),
  (35, .iconst 1, (0, 0, 0, 0), []),
  (36, .iadd, (0, 0, 0, 0), []),
  (37, .iconst 2, (0, 0, 0, 0), []),
  (38, .idiv, (0, 0, 0, 0), []),
  (39, .goto 4, (43, 0, 0, 0), []),
  (42, .iload_n 1, (1, 0, 0, 0), []),
  (43, .ireturn, (0, 0, 0, 0), [])]
def pg_Mo_takesOne : List AQ := [(0, .iload_n 0, (0, 0, 0, 0), []),
  (1, .iconst 3, (0, 0, 0, 0), []),
  (2, .if_icmp .ge 17, (19, 0, 0, 0), []),
  (5, .iload_n 1, (1, 0, 0, 0), []),
  (6, .bipush 98, (0, 0, 0, 0), []),
  (8, .if_icmp .gt 7, (15, 0, 0, 0), []),
  (11, .iconst 1, (0, 0, 0, 0), []),
  (12, .goto 22, (34, 0, 0, 0), []),
  (15, .iconst 0, (0, 0, 0, 0), []),
  (16, .goto 18, (34, 0, 0, 0), []),
  (19, .iload_n 0, (0, 0, 0, 0), []),
  (20, .iconst 4, (0, 0, 0, 0), []),
  (21, .if_icmp .ne 12, (33, 0, 0, 0), []),
  (24, .iload_n 1, (1, 0, 0, 0), []),
  (25, .iconst 2, (0, 0, 0, 0), []),
  (26, .if_icmp .gt 7, (33, 0, 0, 0), []),
  (29, .iconst 1, (0, 0, 0, 0), []),
  (30, .goto 4, (34, 0, 0, 0), []),
  (33, .iconst 0, (0, 0, 0, 0), []),
  (34, .ireturn, (6, 0, 0, 0), [])]
def pg_Mo_yieldsAll : List AQ := [(0, .iload_n 0, (0, 0, 0, 0), []),
  (1, .iconst 3, (0, 0, 0, 0), []),
  (2, .if_icmp .ge 27, (29, 0, 0, 0), []),
  (5, .iload_n 1, (1, 0, 0, 0), []),
  (6, .iconst 1, (0, 0, 0, 0), []),
  (7, .if_icmp .le 22, (29, 0, 0, 0), []),
  (10, .iload_n 1, (1, 0, 0, 0), []),
  (11, .iload_n 0, (0, 0, 0, 0), []),
  (12, .iconst 2, (0, 0, 0, 0), []),
  (13, .if_icmp .ne 8, (21, 0, 0, 0), []),
  (16, .bipush 6, (0, 0, 0, 0), []),
  (18, .goto 4, (22, 0, 0, 0), []),
  (21, .iconst 4, (0, 0, 0, 0), []),
  (22, .if_icmp .ge 7, (29, 0, 0, 0), []),
  (25, .iconst 1, (0, 0, 0, 0), []),
  (26, .goto 4, (30, 0, 0, 0), []),
  (29, .iconst 0, (0, 0, 0, 0), []),
  (30, .ireturn, (6, 0, 0, 0), [])]
def pg_Mo_lifts : List AQ := [(0, .aload_n 0, (0, 0, 0, 0), []),
  (1, .getfield 7, (7, 0, 120, 0), []),
  (4, .iconst 5, (0, 0, 0, 0), []),
  (5, .iload_n 1, (1, 0, 0, 0), []),
  (6, .iadd, (0, 0, 0, 0), []),
  (7, .iaload, (20, 0, 0, 0), []),
  (8, .aload_n 0, (0, 0, 0, 0), []),
  (9, .getfield 7, (7, 0, 120, 0), []),
  (12, .bipush 15, (0, 0, 0, 0), []),
  (14, .iload_n 1, (1, 0, 0, 0), []),
  (15, .iadd, (0, 0, 0, 0), []),
  (16, .iaload, (20, 0, 0, 0), []),
  (17, .invokestatic 183, (139, 2, 0, 0), []),
  (20, .ireturn, (0, 0, 0, 0), [])]
def pg_Mo_sideOf : List AQ := [(0, .iload_n 1, (1, 0, 0, 0), []),
  (1, .aload_n 0, (0, 0, 0, 0), []),
  (2, .getfield 7, (7, 0, 120, 0), []),
  (5, .iconst 0, (0, 0, 0, 0), []),
  (6, .iaload, (20, 0, 0, 0), []),
  (7, .if_icmp .ge 7, (14, 0, 0, 0), []),
  (10, .iconst 0, (0, 0, 0, 0), []),
  (11, .goto 4, (15, 0, 0, 0), []),
  (14, .iconst 1, (0, 0, 0, 0), []),
  (15, .ireturn, (0, 0, 0, 0), [])]
def pg_Mo_canGo : List AQ := [(0, .aload_n 0, (0, 0, 0, 0), []),
  (1, .iload_n 1, (1, 0, 0, 0), []),
  (2, .invokevirtual 186, (143, 2, 0, 107), []),
  (5, .aload_n 0, (0, 0, 0, 0), []),
  (6, .getfield 7, (7, 0, 120, 0), []),
  (9, .iconst 1, (0, 0, 0, 0), []),
  (10, .iaload, (20, 0, 0, 0), []),
  (11, .if_icmp .ne 15, (26, 0, 0, 0), []),
  (14, .aload_n 0, (0, 0, 0, 0), []),
  (15, .iload_n 1, (1, 0, 0, 0), []),
  (16, .invokevirtual 189, (142, 2, 0, 107), []),
  (19, .ifCond .le 7, (26, 0, 0, 0), []),
  (22, .iconst 1, (0, 0, 0, 0), []),
  (23, .goto 4, (27, 0, 0, 0), []),
  (26, .iconst 0, (0, 0, 0, 0), []),
  (27, .ireturn, (6, 0, 0, 0), [])]
def pg_Mo_house : List AQ := [(0, .aload_n 0, (0, 0, 0, 0), []),
  (1, .iload_n 1, (1, 0, 0, 0), []),
  (2, .invokevirtual 192, (138, 2, 0, 107), []),
  (5, .ifCond .ne 6, (11, 0, 0, 0), []),
  (8, .bipush (-2), (0, 0, 0, 0), []),
  (10, .ireturn, (0, 0, 0, 0), []),
  (11, .aload_n 0, (0, 0, 0, 0), []),
  (12, .getfield 7, (7, 0, 120, 0), []),
  (15, .iconst 5, (0, 0, 0, 0), []),
  (16, .iload_n 1, (1, 0, 0, 0), []),
  (17, .iadd, (0, 0, 0, 0), []),
  (18, .iaload, (20, 0, 0, 0), []),
  (19, .istore_n 3, (3, 0, 0, 0), []),
  (20, .aload_n 0, (0, 0, 0, 0), []),
  (21, .getfield 7, (7, 0, 120, 0), []),
  (24, .bipush 15, (0, 0, 0, 0), []),
  (26, .iload_n 1, (1, 0, 0, 0), []),
  (27, .iadd, (0, 0, 0, 0), []),
  (28, .iaload, (20, 0, 0, 0), []),
  (29, .istore 4, (0, 0, 0, 0), []),
  (31, .iload_n 2, (2, 0, 0, 0), []),
  (32, .tableswitch 78 0 4 #[36, 38, 41, 48, 63], (110, 0, 0, 0), [(0, 68), (1, 70), (2, 73), (3, 80), (4, 95)]),
  (68, .iload_n 3, (3, 0, 0, 0), []),
  (69, .ireturn, (0, 0, 0, 0), []),
  (70, .iload 4, (0, 0, 0, 0), []),
  (72, .ireturn, (0, 0, 0, 0), []),
  (73, .iload_n 3, (3, 0, 0, 0), []),
  (74, .iload 4, (0, 0, 0, 0), []),
  (76, .invokestatic 183, (139, 2, 0, 0), []),
  (79, .ireturn, (0, 0, 0, 0), []),
  (80, .iload_n 3, (3, 0, 0, 0), []),
  (81, .iload 4, (0, 0, 0, 0), []),
  (83, .invokestatic 196, (140, 2, 0, 0), []),
  (86, .ifCond .eq 7, (93, 0, 0, 0), []),
  (89, .iconst 1, (0, 0, 0, 0), []),
  (90, .goto 4, (94, 0, 0, 0), []),
  (93, .iconst 0, (0, 0, 0, 0), []),
  (94, .ireturn, (0, 0, 0, 0), []),
  (95, .iload_n 3, (3, 0, 0, 0), []),
  (96, .iload 4, (0, 0, 0, 0), []),
  (98, .invokestatic 200, (141, 2, 0, 0), []),
  (101, .ifCond .eq 7, (108, 0, 0, 0), []),
  (104, .iconst 1, (0, 0, 0, 0), []),
  (105, .goto 4, (109, 0, 0, 0), []),
  (108, .iconst 0, (0, 0, 0, 0), []),
  (109, .ireturn, (0, 0, 0, 0), []),
  (110, .bipush (-3), (0, 0, 0, 0), []),
  (112, .ireturn, (0, 0, 0, 0), [])]
def pg_Mo_as : List AQ := [(0, .aload_n 0, (0, 0, 0, 0), []),
  (1, .iload_n 1, (1, 0, 0, 0), []),
  (2, .invokevirtual 192, (138, 2, 0, 107), []),
  (5, .ifCond .ne 6, (11, 0, 0, 0), []),
  (8, .bipush (-2), (0, 0, 0, 0), []),
  (10, .ireturn, (0, 0, 0, 0), []),
  (11, .iload_n 2, (2, 0, 0, 0), []),
  (12, .i2l, (0, 0, 0, 0), []),
  (13, .lconst 0, (0, 0, 0, 0), []),
  (14, .ldc2_w 203, (0, 0, 0, 5), []),
  (17, .invokestatic 84, (123, 3, 0, 0), []),
  (20, .ifCond .ne 6, (26, 0, 0, 0), []),
  (23, .bipush (-3), (0, 0, 0, 0), []),
  (25, .ireturn, (0, 0, 0, 0), []),
  (26, .aload_n 0, (0, 0, 0, 0), []),
  (27, .getfield 7, (7, 0, 120, 0), []),
  (30, .iconst 5, (0, 0, 0, 0), []),
  (31, .iload_n 1, (1, 0, 0, 0), []),
  (32, .iadd, (0, 0, 0, 0), []),
  (33, .iaload, (20, 0, 0, 0), []),
  (34, .istore_n 3, (3, 0, 0, 0), []),
  (35, .iload_n 2, (2, 0, 0, 0), []),
  (36, .ifCond .eq 30, (66, 0, 0, 0), []),
  (39, .iload_n 2, (2, 0, 0, 0), []),
  (40, .iload_n 3, (3, 0, 0, 0), []),
  (41, .iconst 1, (0, 0, 0, 0), []),
  (42, .iadd, (0, 0, 0, 0), []),
  (43, .if_icmp .eq 23, (66, 0, 0, 0), []),
  (46, .iload_n 2, (2, 0, 0, 0), []),
  (47, .iconst 1, (0, 0, 0, 0), []),
  (48, .if_icmp .ne 8, (56, 0, 0, 0), []),
  (51, .iload_n 3, (3, 0, 0, 0), []),
  (52, .iconst 3, (0, 0, 0, 0), []),
  (53, .if_icmp .lt 13, (66, 0, 0, 0), []),
  (56, .iload_n 2, (2, 0, 0, 0), []),
  (57, .iconst 4, (0, 0, 0, 0), []),
  (58, .if_icmp .ne 12, (70, 0, 0, 0), []),
  (61, .iload_n 3, (3, 0, 0, 0), []),
  (62, .iconst 4, (0, 0, 0, 0), []),
  (63, .if_icmp .ne 7, (70, 0, 0, 0), []),
  (66, .iconst 1, (0, 0, 0, 0), []),
  (67, .goto 4, (71, 0, 0, 0), []),
  (70, .iconst 0, (0, 0, 0, 0), []),
  (71, .istore 4, (0, 0, 0, 0), []),
  (73, .iload 4, (0, 0, 0, 0), []),
  (75, .ifCond .eq 12, (87, 0, 0, 0), []),
  (78, .iload_n 3, (3, 0, 0, 0), []),
  (79, .bipush 7, (0, 0, 0, 0), []),
  (81, .invokestatic 183, (139, 2, 0, 0), []),
  (84, .goto 5, (89, 0, 0, 0), []),
  (87, .bipush (-4), (0, 0, 0, 0), []),
  (89, .ireturn, (0, 0, 0, 0), [])]
def pg_Mo_next : List AQ := [(0, .iload_n 1, (1, 0, 0, 0), []),
  (1, .iconst 1, (0, 0, 0, 0), []),
  (2, .iadd, (0, 0, 0, 0), []),
  (3, .iconst 2, (0, 0, 0, 0), []),
  (4, .aload_n 0, (0, 0, 0, 0), []),
  (5, .getfield 7, (7, 0, 120, 0), []),
  (8, .iconst 0, (0, 0, 0, 0), []),
  (9, .iaload, (20, 0, 0, 0), []),
  (10, .imul, (0, 0, 0, 0), []),
  (11, .irem, (0, 0, 0, 0), []),
  (12, .ireturn, (0, 0, 0, 0), [])]
def pg_Mo_ahead : List AQ := [(0, .iload_n 1, (1, 0, 0, 0), []),
  (1, .iconst 2, (0, 0, 0, 0), []),
  (2, .aload_n 0, (0, 0, 0, 0), []),
  (3, .getfield 7, (7, 0, 120, 0), []),
  (6, .iconst 0, (0, 0, 0, 0), []),
  (7, .iaload, (20, 0, 0, 0), []),
  (8, .imul, (0, 0, 0, 0), []),
  (9, .iadd, (0, 0, 0, 0), []),
  (10, .iconst 1, (0, 0, 0, 0), []),
  (11, .isub, (0, 0, 0, 0), []),
  (12, .iconst 2, (0, 0, 0, 0), []),
  (13, .aload_n 0, (0, 0, 0, 0), []),
  (14, .getfield 7, (7, 0, 120, 0), []),
  (17, .iconst 0, (0, 0, 0, 0), []),
  (18, .iaload, (20, 0, 0, 0), []),
  (19, .imul, (0, 0, 0, 0), []),
  (20, .irem, (0, 0, 0, 0), []),
  (21, .ireturn, (0, 0, 0, 0), [])]
def pg_Mo_anyTakes : List AQ := [(0, .iconst 0, (0, 0, 0, 0), []),
  (1, .istore_n 2, (2, 0, 0, 0), []),
  (2, .iconst 0, (0, 0, 0, 0), []),
  (3, .istore_n 3, (3, 0, 0, 0), []),
  (4, .iload_n 3, (3, 0, 0, 0), []),
  (5, .iconst 2, (0, 0, 0, 0), []),
  (6, .aload_n 0, (0, 0, 0, 0), []),
  (7, .getfield 7, (7, 0, 120, 0), []),
  (10, .iconst 0, (0, 0, 0, 0), []),
  (11, .iaload, (20, 0, 0, 0), []),
  (12, .imul, (0, 0, 0, 0), []),
  (13, .if_icmp .ge 47, (60, 0, 0, 0), []),
  (16, .iload_n 2, (2, 0, 0, 0), []),
  (17, .ifCond .ne 31, (48, 0, 0, 0), []),
  (20, .iload_n 3, (3, 0, 0, 0), []),
  (21, .iload_n 1, (1, 0, 0, 0), []),
  (22, .if_icmp .eq 30, (52, 0, 0, 0), []),
  (25, .aload_n 0, (0, 0, 0, 0), []),
  (26, .getfield 7, (7, 0, 120, 0), []),
  (29, .iconst 5, (0, 0, 0, 0), []),
  (30, .iload_n 3, (3, 0, 0, 0), []),
  (31, .iadd, (0, 0, 0, 0), []),
  (32, .iaload, (20, 0, 0, 0), []),
  (33, .aload_n 0, (0, 0, 0, 0), []),
  (34, .getfield 7, (7, 0, 120, 0), []),
  (37, .bipush 15, (0, 0, 0, 0), []),
  (39, .iload_n 3, (3, 0, 0, 0), []),
  (40, .iadd, (0, 0, 0, 0), []),
  (41, .iaload, (20, 0, 0, 0), []),
  (42, .invokestatic 196, (140, 2, 0, 0), []),
  (45, .ifCond .eq 7, (52, 0, 0, 0), []),
  (48, .iconst 1, (0, 0, 0, 0), []),
  (49, .goto 4, (53, 0, 0, 0), []),
  (52, .iconst 0, (0, 0, 0, 0), []),
  (53, .istore_n 2, (2, 0, 0, 0), []),
  (54, .iinc 3 1, (0, 0, 0, 0), []),
  (57, .goto (-53), (4, 0, 0, 0), []),
  (60, .iload_n 2, (2, 0, 0, 0), []),
  (61, .ireturn, (6, 0, 0, 0), [])]
def pg_Mo_goes_0 : List AQ := [(0, .aload_n 0, (0, 0, 0, 0), []),
  (1, .getfield 7, (7, 0, 120, 0), []),
  (4, .iconst 1, (0, 0, 0, 0), []),
  (5, .iaload, (20, 0, 0, 0), []),
  (6, .istore_n 2, (2, 0, 0, 0), []),
  (7, .aload_n 0, (0, 0, 0, 0), []),
  (8, .iload_n 1, (1, 0, 0, 0), []),
  (9, .invokevirtual 189, (142, 2, 0, 107), []),
  (12, .istore_n 3, (3, 0, 0, 0), []),
  (13, .aload_n 0, (0, 0, 0, 0), []),
  (14, .getfield 7, (7, 0, 120, 0), []),
  (17, .bipush 15, (0, 0, 0, 0), []),
  (19, .iload_n 1, (1, 0, 0, 0), []),
  (20, .iadd, (0, 0, 0, 0), []),
  (21, .dup2, (0, 0, 0, 0), []),
  (22, .iaload, (20, 0, 0, 0), []),
  (23, .iload_n 3, (3, 0, 0, 0), []),
  (24, .isub, (0, 0, 0, 0), []),
  (25, .iastore, (0, 0, 0, 0), []),
  (26, .iload_n 1, (1, 0, 0, 0), []),
  (27, .istore 4, (0, 0, 0, 0), []),
  (29, .iload_n 3, (3, 0, 0, 0), []),
  (30, .ifCond .le 81, (111, 0, 0, 0), []),
  (33, .aload_n 0, (0, 0, 0, 0), []),
  (34, .iload_n 1, (1, 0, 0, 0), []),
  (35, .invokevirtual 205, (149, 2, 0, 107), []),
  (38, .ifCond .eq 73, (111, 0, 0, 0), []),
  (41, .aload_n 0, (0, 0, 0, 0), []),
  (42, .iload 4, (0, 0, 0, 0), []),
  (44, .invokevirtual 208, (147, 2, 0, 107), []),
  (47, .istore 4, (0, 0, 0, 0), []),
  (49, .iload 4, (0, 0, 0, 0), []),
  (51, .iload_n 1, (1, 0, 0, 0), []),
  (52, .if_icmp .eq 28, (80, 0, 0, 0), []),
  (55, .aload_n 0, (0, 0, 0, 0), []),
  (56, .getfield 7, (7, 0, 120, 0), []),
  (59, .iconst 5, (0, 0, 0, 0), []),
  (60, .iload 4, (0, 0, 0, 0), []),
  (62, .iadd, (0, 0, 0, 0), []),
  (63, .iaload, (20, 0, 0, 0), []),
  (64, .aload_n 0, (0, 0, 0, 0), []),
  (65, .getfield 7, (7, 0, 120, 0), []),
  (68, .bipush 15, (0, 0, 0, 0), []),
  (70, .iload 4, (0, 0, 0, 0), []),
  (72, .iadd, (0, 0, 0, 0), []),
  (73, .iaload, (20, 0, 0, 0), []),
  (74, .invokestatic 196, (140, 2, 0, 0), []),
  (77, .ifCond .ne 14, (91, 0, 0, 0), []),
  (80, .aload_n 0, (0, 0, 0, 0), []),
  (81, .iload 4, (0, 0, 0, 0), []),
  (83, .invokevirtual 208, (147, 2, 0, 107), []),
  (86, .istore 4, (0, 0, 0, 0), []),
  (88, .goto (-39), (49, 0, 0, 0), []),
  (91, .aload_n 0, (0, 0, 0, 0), []),
  (92, .getfield 7, (7, 0, 120, 0), []),
  (95, .bipush 15, (0, 0, 0, 0), []),
  (97, .iload 4, (0, 0, 0, 0), []),
  (99, .iadd, (0, 0, 0, 0), []),
  (100, .dup2, (0, 0, 0, 0), []),
  (101, .iaload, (20, 0, 0, 0), [])]
def pg_Mo_goes_1 : List AQ := [(102, .iconst 1, (0, 0, 0, 0), []),
  (103, .iadd, (0, 0, 0, 0), []),
  (104, .iastore, (0, 0, 0, 0), []),
  (105, .iinc 3 (-1), (0, 0, 0, 0), []),
  (108, .goto (-79), (29, 0, 0, 0), []),
  (111, .iload_n 3, (3, 0, 0, 0), []),
  (112, .istore 5, (0, 0, 0, 0), []),
  (114, .iload_n 3, (3, 0, 0, 0), []),
  (115, .ifCond .ne 7, (122, 0, 0, 0), []),
  (118, .iconst 1, (0, 0, 0, 0), []),
  (119, .goto 4, (123, 0, 0, 0), []),
  (122, .iconst 0, (0, 0, 0, 0), []),
  (123, .istore 6, (0, 0, 0, 0), []),
  (125, .iload 6, (0, 0, 0, 0), []),
  (127, .ifCond .eq 75, (202, 0, 0, 0), []),
  (130, .aload_n 0, (0, 0, 0, 0), []),
  (131, .iload 4, (0, 0, 0, 0), []),
  (133, .invokevirtual 186, (143, 2, 0, 107), []),
  (136, .iload_n 2, (2, 0, 0, 0), []),
  (137, .if_icmp .eq 65, (202, 0, 0, 0), []),
  (140, .aload_n 0, (0, 0, 0, 0), []),
  (141, .getfield 7, (7, 0, 120, 0), []),
  (144, .iconst 5, (0, 0, 0, 0), []),
  (145, .iload 4, (0, 0, 0, 0), []),
  (147, .iadd, (0, 0, 0, 0), []),
  (148, .iaload, (20, 0, 0, 0), []),
  (149, .aload_n 0, (0, 0, 0, 0), []),
  (150, .getfield 7, (7, 0, 120, 0), []),
  (153, .bipush 15, (0, 0, 0, 0), []),
  (155, .iload 4, (0, 0, 0, 0), []),
  (157, .iadd, (0, 0, 0, 0), []),
  (158, .iaload, (20, 0, 0, 0), []),
  (159, .invokestatic 200, (141, 2, 0, 0), []),
  (162, .ifCond .eq 40, (202, 0, 0, 0), []),
  (165, .iload 5, (0, 0, 0, 0), []),
  (167, .aload_n 0, (0, 0, 0, 0), []),
  (168, .getfield 7, (7, 0, 120, 0), []),
  (171, .bipush 15, (0, 0, 0, 0), []),
  (173, .iload 4, (0, 0, 0, 0), []),
  (175, .iadd, (0, 0, 0, 0), []),
  (176, .iaload, (20, 0, 0, 0), []),
  (177, .iadd, (0, 0, 0, 0), []),
  (178, .istore 5, (0, 0, 0, 0), []),
  (180, .aload_n 0, (0, 0, 0, 0), []),
  (181, .getfield 7, (7, 0, 120, 0), []),
  (184, .bipush 15, (0, 0, 0, 0), []),
  (186, .iload 4, (0, 0, 0, 0), []),
  (188, .iadd, (0, 0, 0, 0), []),
  (189, .iconst 0, (0, 0, 0, 0), []),
  (190, .iastore, (0, 0, 0, 0), []),
  (191, .aload_n 0, (0, 0, 0, 0), []),
  (192, .iload 4, (0, 0, 0, 0), []),
  (194, .invokevirtual 211, (148, 2, 0, 107), []),
  (197, .istore 4, (0, 0, 0, 0), []),
  (199, .goto (-74), (125, 0, 0, 0), []),
  (202, .aload_n 0, (0, 0, 0, 0), []),
  (203, .getfield 7, (7, 0, 120, 0), []),
  (206, .iconst 2, (0, 0, 0, 0), []),
  (207, .iload_n 2, (2, 0, 0, 0), []),
  (208, .iadd, (0, 0, 0, 0), [])]
def pg_Mo_goes_2 : List AQ := [(209, .dup2, (0, 0, 0, 0), []),
  (210, .iaload, (20, 0, 0, 0), []),
  (211, .iload 5, (0, 0, 0, 0), []),
  (213, .iadd, (0, 0, 0, 0), []),
  (214, .iastore, (0, 0, 0, 0), []),
  (215, .aload_n 0, (0, 0, 0, 0), []),
  (216, .getfield 7, (7, 0, 120, 0), []),
  (219, .iconst 1, (0, 0, 0, 0), []),
  (220, .iconst 1, (0, 0, 0, 0), []),
  (221, .iload_n 2, (2, 0, 0, 0), []),
  (222, .isub, (0, 0, 0, 0), []),
  (223, .iastore, (0, 0, 0, 0), []),
  (224, .aload_n 0, (0, 0, 0, 0), []),
  (225, .getfield 7, (7, 0, 120, 0), []),
  (228, .iconst 4, (0, 0, 0, 0), []),
  (229, .dup2, (0, 0, 0, 0), []),
  (230, .iaload, (20, 0, 0, 0), []),
  (231, .iconst 1, (0, 0, 0, 0), []),
  (232, .iadd, (0, 0, 0, 0), []),
  (233, .iastore, (0, 0, 0, 0), []),
  (234, .iload 5, (0, 0, 0, 0), []),
  (236, .ireturn, (0, 0, 0, 0), [])]
def pg_Mo_goes : List AQ := pg_Mo_goes_0 ++ (pg_Mo_goes_1 ++ (pg_Mo_goes_2))
def pg_Mo_notes : List AQ := [(0, .aload_n 0, (0, 0, 0, 0), []),
  (1, .getfield 174, (7, 11, 0, 0), []),
  (4, .bipush 8, (0, 0, 0, 0), []),
  (6, .if_icmp .ne 40, (46, 0, 0, 0), []),
  (9, .bipush 25, (0, 0, 0, 0), []),
  (11, .istore_n 1, (1, 0, 0, 0), []),
  (12, .iload_n 1, (1, 0, 0, 0), []),
  (13, .sipush 200, (0, 0, 0, 0), []),
  (16, .if_icmp .ge 24, (40, 0, 0, 0), []),
  (19, .aload_n 0, (0, 0, 0, 0), []),
  (20, .getfield 22, (7, 10, 120, 0), []),
  (23, .iload_n 1, (1, 0, 0, 0), []),
  (24, .bipush 25, (0, 0, 0, 0), []),
  (26, .isub, (0, 0, 0, 0), []),
  (27, .aload_n 0, (0, 0, 0, 0), []),
  (28, .getfield 22, (7, 10, 120, 0), []),
  (31, .iload_n 1, (1, 0, 0, 0), []),
  (32, .iaload, (20, 0, 0, 0), []),
  (33, .iastore, (0, 0, 0, 0), []),
  (34, .iinc 1 1, (0, 0, 0, 0), []),
  (37, .goto (-25), (12, 0, 0, 0), []),
  (40, .aload_n 0, (0, 0, 0, 0), []),
  (41, .bipush 7, (0, 0, 0, 0), []),
  (43, .putfield 174, (7, 11, 0, 0), []),
  (46, .iconst 0, (0, 0, 0, 0), []),
  (47, .istore_n 1, (1, 0, 0, 0), []),
  (48, .iload_n 1, (1, 0, 0, 0), []),
  (49, .bipush 25, (0, 0, 0, 0), []),
  (51, .if_icmp .ge 29, (80, 0, 0, 0), []),
  (54, .aload_n 0, (0, 0, 0, 0), []),
  (55, .getfield 22, (7, 10, 120, 0), []),
  (58, .bipush 25, (0, 0, 0, 0), []),
  (60, .aload_n 0, (0, 0, 0, 0), []),
  (61, .getfield 174, (7, 11, 0, 0), []),
  (64, .imul, (0, 0, 0, 0), []),
  (65, .iload_n 1, (1, 0, 0, 0), []),
  (66, .iadd, (0, 0, 0, 0), []),
  (67, .aload_n 0, (0, 0, 0, 0), []),
  (68, .getfield 7, (7, 0, 120, 0), []),
  (71, .iload_n 1, (1, 0, 0, 0), []),
  (72, .iaload, (20, 0, 0, 0), []),
  (73, .iastore, (0, 0, 0, 0), []),
  (74, .iinc 1 1, (0, 0, 0, 0), []),
  (77, .goto (-29), (48, 0, 0, 0), []),
  (80, .aload_n 0, (0, 0, 0, 0), []),
  (81, .dup, (0, 0, 0, 0), []),
  (82, .getfield 174, (7, 11, 0, 0), []),
  (85, .iconst 1, (0, 0, 0, 0), []),
  (86, .iadd, (0, 0, 0, 0), []),
  (87, .putfield 174, (7, 11, 0, 0), []),
  (90, .return_, (0, 0, 0, 0), [])]
def pg_Mo_move : List AQ := [(0, .aload_n 0, (0, 0, 0, 0), []),
  (1, .iload_n 1, (1, 0, 0, 0), []),
  (2, .invokevirtual 192, (138, 2, 0, 107), []),
  (5, .ifCond .ne 6, (11, 0, 0, 0), []),
  (8, .bipush (-2), (0, 0, 0, 0), []),
  (10, .ireturn, (0, 0, 0, 0), []),
  (11, .aload_n 0, (0, 0, 0, 0), []),
  (12, .iload_n 1, (1, 0, 0, 0), []),
  (13, .invokevirtual 214, (144, 2, 0, 107), []),
  (16, .ifCond .ne 6, (22, 0, 0, 0), []),
  (19, .bipush (-4), (0, 0, 0, 0), []),
  (21, .ireturn, (0, 0, 0, 0), []),
  (22, .aload_n 0, (0, 0, 0, 0), []),
  (23, .getfield 7, (7, 0, 120, 0), []),
  (26, .iconst 4, (0, 0, 0, 0), []),
  (27, .iaload, (20, 0, 0, 0), []),
  (28, .sipush 999, (0, 0, 0, 0), []),
  (31, .if_icmp .ne 6, (37, 0, 0, 0), []),
  (34, .bipush (-5), (0, 0, 0, 0), []),
  (36, .ireturn, (0, 0, 0, 0), []),
  (37, .aload_n 0, (0, 0, 0, 0), []),
  (38, .invokevirtual 217, (151, 1, 9, 107), []),
  (41, .aload_n 0, (0, 0, 0, 0), []),
  (42, .iload_n 1, (1, 0, 0, 0), []),
  (43, .invokevirtual 220, (150, 2, 0, 107), []),
  (46, .ireturn, (0, 0, 0, 0), [])]
def pg_Mo_drop : List AQ := [(0, .aload_n 0, (0, 0, 0, 0), []),
  (1, .iload_n 1, (1, 0, 0, 0), []),
  (2, .invokevirtual 192, (138, 2, 0, 107), []),
  (5, .ifCond .ne 6, (11, 0, 0, 0), []),
  (8, .bipush (-2), (0, 0, 0, 0), []),
  (10, .ireturn, (0, 0, 0, 0), []),
  (11, .iload_n 2, (2, 0, 0, 0), []),
  (12, .i2l, (0, 0, 0, 0), []),
  (13, .lconst 1, (0, 0, 0, 1), []),
  (14, .ldc2_w 223, (0, 0, 0, 30), []),
  (17, .invokestatic 84, (123, 3, 0, 0), []),
  (20, .ifCond .ne 6, (26, 0, 0, 0), []),
  (23, .bipush (-3), (0, 0, 0, 0), []),
  (25, .ireturn, (0, 0, 0, 0), []),
  (26, .aload_n 0, (0, 0, 0, 0), []),
  (27, .getfield 7, (7, 0, 120, 0), []),
  (30, .bipush 15, (0, 0, 0, 0), []),
  (32, .iload_n 1, (1, 0, 0, 0), []),
  (33, .iadd, (0, 0, 0, 0), []),
  (34, .iaload, (20, 0, 0, 0), []),
  (35, .istore_n 3, (3, 0, 0, 0), []),
  (36, .iload_n 3, (3, 0, 0, 0), []),
  (37, .bipush 99, (0, 0, 0, 0), []),
  (39, .if_icmp .ne 6, (45, 0, 0, 0), []),
  (42, .bipush (-4), (0, 0, 0, 0), []),
  (44, .ireturn, (0, 0, 0, 0), []),
  (45, .aload_n 0, (0, 0, 0, 0), []),
  (46, .invokevirtual 217, (151, 1, 9, 107), []),
  (49, .aload_n 0, (0, 0, 0, 0), []),
  (50, .getfield 7, (7, 0, 120, 0), []),
  (53, .bipush 15, (0, 0, 0, 0), []),
  (55, .iload_n 1, (1, 0, 0, 0), []),
  (56, .iadd, (0, 0, 0, 0), []),
  (57, .iload_n 3, (3, 0, 0, 0), []),
  (58, .iload_n 2, (2, 0, 0, 0), []),
  (59, .iadd, (0, 0, 0, 0), []),
  (60, .bipush 99, (0, 0, 0, 0), []),
  (62, .if_icmp .le 8, (70, 0, 0, 0), []),
  (65, .bipush 99, (0, 0, 0, 0), []),
  (67, .goto 6, (73, 0, 0, 0), []),
  (70, .iload_n 3, (3, 0, 0, 0), []),
  (71, .iload_n 2, (2, 0, 0, 0), []),
  (72, .iadd, (0, 0, 0, 0), []),
  (73, .iastore, (0, 0, 0, 0), []),
  (74, .aload_n 0, (0, 0, 0, 0), []),
  (75, .getfield 7, (7, 0, 120, 0), []),
  (78, .bipush 15, (0, 0, 0, 0), []),
  (80, .iload_n 1, (1, 0, 0, 0), []),
  (81, .iadd, (0, 0, 0, 0), []),
  (82, .iaload, (20, 0, 0, 0), []),
  (83, .ireturn, (0, 0, 0, 0), [])]
def pg_Mo_swap : List AQ := [(0, .aload_n 0, (0, 0, 0, 0), []),
  (1, .iload_n 1, (1, 0, 0, 0), []),
  (2, .invokevirtual 192, (138, 2, 0, 107), []),
  (5, .ifCond .eq 16, (21, 0, 0, 0), []),
  (8, .aload_n 0, (0, 0, 0, 0), []),
  (9, .iload_n 2, (2, 0, 0, 0), []),
  (10, .invokevirtual 192, (138, 2, 0, 107), []),
  (13, .ifCond .eq 8, (21, 0, 0, 0), []),
  (16, .iload_n 1, (1, 0, 0, 0), []),
  (17, .iload_n 2, (2, 0, 0, 0), []),
  (18, .if_icmp .ne 6, (24, 0, 0, 0), []),
  (21, .bipush (-2), (0, 0, 0, 0), []),
  (23, .ireturn, (0, 0, 0, 0), []),
  (24, .aload_n 0, (0, 0, 0, 0), []),
  (25, .getfield 7, (7, 0, 120, 0), []),
  (28, .iconst 5, (0, 0, 0, 0), []),
  (29, .iload_n 1, (1, 0, 0, 0), []),
  (30, .iadd, (0, 0, 0, 0), []),
  (31, .iaload, (20, 0, 0, 0), []),
  (32, .istore_n 3, (3, 0, 0, 0), []),
  (33, .aload_n 0, (0, 0, 0, 0), []),
  (34, .getfield 7, (7, 0, 120, 0), []),
  (37, .iconst 5, (0, 0, 0, 0), []),
  (38, .iload_n 2, (2, 0, 0, 0), []),
  (39, .iadd, (0, 0, 0, 0), []),
  (40, .iaload, (20, 0, 0, 0), []),
  (41, .istore 4, (0, 0, 0, 0), []),
  (43, .iload_n 3, (3, 0, 0, 0), []),
  (44, .iload 4, (0, 0, 0, 0), []),
  (46, .if_icmp .ne 6, (52, 0, 0, 0), []),
  (49, .bipush (-4), (0, 0, 0, 0), []),
  (51, .ireturn, (0, 0, 0, 0), []),
  (52, .aload_n 0, (0, 0, 0, 0), []),
  (53, .invokevirtual 217, (151, 1, 9, 107), []),
  (56, .aload_n 0, (0, 0, 0, 0), []),
  (57, .getfield 7, (7, 0, 120, 0), []),
  (60, .iconst 5, (0, 0, 0, 0), []),
  (61, .iload_n 1, (1, 0, 0, 0), []),
  (62, .iadd, (0, 0, 0, 0), []),
  (63, .iload 4, (0, 0, 0, 0), []),
  (65, .iastore, (0, 0, 0, 0), []),
  (66, .aload_n 0, (0, 0, 0, 0), []),
  (67, .getfield 7, (7, 0, 120, 0), []),
  (70, .iconst 5, (0, 0, 0, 0), []),
  (71, .iload_n 2, (2, 0, 0, 0), []),
  (72, .iadd, (0, 0, 0, 0), []),
  (73, .iload_n 3, (3, 0, 0, 0), []),
  (74, .iastore, (0, 0, 0, 0), []),
  (75, .iload 4, (0, 0, 0, 0), []),
  (77, .ireturn, (0, 0, 0, 0), [])]
def pg_Mo_undo : List AQ := [(0, .aload_n 0, (0, 0, 0, 0), []),
  (1, .getfield 174, (7, 11, 0, 0), []),
  (4, .ifCond .ne 6, (10, 0, 0, 0), []),
  (7, .bipush (-4), (0, 0, 0, 0), []),
  (9, .ireturn, (0, 0, 0, 0), []),
  (10, .aload_n 0, (0, 0, 0, 0), []),
  (11, .dup, (0, 0, 0, 0), []),
  (12, .getfield 174, (7, 11, 0, 0), []),
  (15, .iconst 1, (0, 0, 0, 0), []),
  (16, .isub, (0, 0, 0, 0), []),
  (17, .putfield 174, (7, 11, 0, 0), []),
  (20, .iconst 0, (0, 0, 0, 0), []),
  (21, .istore_n 1, (1, 0, 0, 0), []),
  (22, .iload_n 1, (1, 0, 0, 0), []),
  (23, .bipush 25, (0, 0, 0, 0), []),
  (25, .if_icmp .ge 29, (54, 0, 0, 0), []),
  (28, .aload_n 0, (0, 0, 0, 0), []),
  (29, .getfield 7, (7, 0, 120, 0), []),
  (32, .iload_n 1, (1, 0, 0, 0), []),
  (33, .aload_n 0, (0, 0, 0, 0), []),
  (34, .getfield 22, (7, 10, 120, 0), []),
  (37, .bipush 25, (0, 0, 0, 0), []),
  (39, .aload_n 0, (0, 0, 0, 0), []),
  (40, .getfield 174, (7, 11, 0, 0), []),
  (43, .imul, (0, 0, 0, 0), []),
  (44, .iload_n 1, (1, 0, 0, 0), []),
  (45, .iadd, (0, 0, 0, 0), []),
  (46, .iaload, (20, 0, 0, 0), []),
  (47, .iastore, (0, 0, 0, 0), []),
  (48, .iinc 1 1, (0, 0, 0, 0), []),
  (51, .goto (-29), (22, 0, 0, 0), []),
  (54, .aload_n 0, (0, 0, 0, 0), []),
  (55, .getfield 174, (7, 11, 0, 0), []),
  (58, .ireturn, (0, 0, 0, 0), [])]
def pg_Mo_keep : List AQ := [(0, .iload_n 1, (1, 0, 0, 0), []),
  (1, .i2l, (0, 0, 0, 0), []),
  (2, .lconst 0, (0, 0, 0, 0), []),
  (3, .lconst 1, (0, 0, 0, 1), []),
  (4, .invokestatic 84, (123, 3, 0, 0), []),
  (7, .ifCond .ne 6, (13, 0, 0, 0), []),
  (10, .bipush (-2), (0, 0, 0, 0), []),
  (12, .ireturn, (0, 0, 0, 0), []),
  (13, .iconst 0, (0, 0, 0, 0), []),
  (14, .istore_n 2, (2, 0, 0, 0), []),
  (15, .iload_n 2, (2, 0, 0, 0), []),
  (16, .bipush 25, (0, 0, 0, 0), []),
  (18, .if_icmp .ge 26, (44, 0, 0, 0), []),
  (21, .aload_n 0, (0, 0, 0, 0), []),
  (22, .getfield 25, (7, 12, 120, 0), []),
  (25, .bipush 25, (0, 0, 0, 0), []),
  (27, .iload_n 1, (1, 0, 0, 0), []),
  (28, .imul, (0, 0, 0, 0), []),
  (29, .iload_n 2, (2, 0, 0, 0), []),
  (30, .iadd, (0, 0, 0, 0), []),
  (31, .aload_n 0, (0, 0, 0, 0), []),
  (32, .getfield 7, (7, 0, 120, 0), []),
  (35, .iload_n 2, (2, 0, 0, 0), []),
  (36, .iaload, (20, 0, 0, 0), []),
  (37, .iastore, (0, 0, 0, 0), []),
  (38, .iinc 2 1, (0, 0, 0, 0), []),
  (41, .goto (-26), (15, 0, 0, 0), []),
  (44, .aload_n 0, (0, 0, 0, 0), []),
  (45, .dup, (0, 0, 0, 0), []),
  (46, .getfield 177, (7, 13, 0, 0), []),
  (49, .iconst 1, (0, 0, 0, 0), []),
  (50, .iload_n 1, (1, 0, 0, 0), []),
  (51, .ishl, (0, 0, 0, 0), []),
  (52, .ior, (0, 0, 0, 0), []),
  (53, .putfield 177, (7, 13, 0, 0), []),
  (56, .aload_n 0, (0, 0, 0, 0), []),
  (57, .getfield 7, (7, 0, 120, 0), []),
  (60, .iconst 4, (0, 0, 0, 0), []),
  (61, .iaload, (20, 0, 0, 0), []),
  (62, .ireturn, (0, 0, 0, 0), [])]
def pg_Mo_back : List AQ := [(0, .iload_n 1, (1, 0, 0, 0), []),
  (1, .i2l, (0, 0, 0, 0), []),
  (2, .lconst 0, (0, 0, 0, 0), []),
  (3, .lconst 1, (0, 0, 0, 1), []),
  (4, .invokestatic 84, (123, 3, 0, 0), []),
  (7, .ifCond .ne 6, (13, 0, 0, 0), []),
  (10, .bipush (-2), (0, 0, 0, 0), []),
  (12, .ireturn, (0, 0, 0, 0), []),
  (13, .aload_n 0, (0, 0, 0, 0), []),
  (14, .getfield 177, (7, 13, 0, 0), []),
  (17, .iload_n 1, (1, 0, 0, 0), []),
  (18, .ishr, (0, 0, 0, 0), []),
  (19, .iconst 1, (0, 0, 0, 0), []),
  (20, .iand, (0, 0, 0, 0), []),
  (21, .ifCond .ne 6, (27, 0, 0, 0), []),
  (24, .bipush (-4), (0, 0, 0, 0), []),
  (26, .ireturn, (0, 0, 0, 0), []),
  (27, .iconst 0, (0, 0, 0, 0), []),
  (28, .istore_n 2, (2, 0, 0, 0), []),
  (29, .iload_n 2, (2, 0, 0, 0), []),
  (30, .bipush 25, (0, 0, 0, 0), []),
  (32, .if_icmp .ge 26, (58, 0, 0, 0), []),
  (35, .aload_n 0, (0, 0, 0, 0), []),
  (36, .getfield 7, (7, 0, 120, 0), []),
  (39, .iload_n 2, (2, 0, 0, 0), []),
  (40, .aload_n 0, (0, 0, 0, 0), []),
  (41, .getfield 25, (7, 12, 120, 0), []),
  (44, .bipush 25, (0, 0, 0, 0), []),
  (46, .iload_n 1, (1, 0, 0, 0), []),
  (47, .imul, (0, 0, 0, 0), []),
  (48, .iload_n 2, (2, 0, 0, 0), []),
  (49, .iadd, (0, 0, 0, 0), []),
  (50, .iaload, (20, 0, 0, 0), []),
  (51, .iastore, (0, 0, 0, 0), []),
  (52, .iinc 2 1, (0, 0, 0, 0), []),
  (55, .goto (-26), (29, 0, 0, 0), []),
  (58, .aload_n 0, (0, 0, 0, 0), []),
  (59, .iconst 0, (0, 0, 0, 0), []),
  (60, .putfield 174, (7, 11, 0, 0), []),
  (63, .aload_n 0, (0, 0, 0, 0), []),
  (64, .getfield 7, (7, 0, 120, 0), []),
  (67, .iconst 4, (0, 0, 0, 0), []),
  (68, .iaload, (20, 0, 0, 0), []),
  (69, .ireturn, (0, 0, 0, 0), [])]
def pg_Mo_asides : List AQ := [(0, .iconst 0, (0, 0, 0, 0), []),
  (1, .istore_n 1, (1, 0, 0, 0), []),
  (2, .iload_n 1, (1, 0, 0, 0), []),
  (3, .bipush 25, (0, 0, 0, 0), []),
  (5, .if_icmp .ge 21, (26, 0, 0, 0), []),
  (8, .aload_n 0, (0, 0, 0, 0), []),
  (9, .getfield 28, (7, 14, 120, 0), []),
  (12, .iload_n 1, (1, 0, 0, 0), []),
  (13, .aload_n 0, (0, 0, 0, 0), []),
  (14, .getfield 7, (7, 0, 120, 0), []),
  (17, .iload_n 1, (1, 0, 0, 0), []),
  (18, .iaload, (20, 0, 0, 0), []),
  (19, .iastore, (0, 0, 0, 0), []),
  (20, .iinc 1 1, (0, 0, 0, 0), []),
  (23, .goto (-21), (2, 0, 0, 0), []),
  (26, .return_, (0, 0, 0, 0), [])]
def pg_Mo_backs : List AQ := [(0, .iconst 0, (0, 0, 0, 0), []),
  (1, .istore_n 1, (1, 0, 0, 0), []),
  (2, .iload_n 1, (1, 0, 0, 0), []),
  (3, .bipush 25, (0, 0, 0, 0), []),
  (5, .if_icmp .ge 21, (26, 0, 0, 0), []),
  (8, .aload_n 0, (0, 0, 0, 0), []),
  (9, .getfield 7, (7, 0, 120, 0), []),
  (12, .iload_n 1, (1, 0, 0, 0), []),
  (13, .aload_n 0, (0, 0, 0, 0), []),
  (14, .getfield 28, (7, 14, 120, 0), []),
  (17, .iload_n 1, (1, 0, 0, 0), []),
  (18, .iaload, (20, 0, 0, 0), []),
  (19, .iastore, (0, 0, 0, 0), []),
  (20, .iinc 1 1, (0, 0, 0, 0), []),
  (23, .goto (-21), (2, 0, 0, 0), []),
  (26, .return_, (0, 0, 0, 0), [])]
def pg_Mo_lead : List AQ := [(0, .aload_n 0, (0, 0, 0, 0), []),
  (1, .getfield 7, (7, 0, 120, 0), []),
  (4, .iconst 2, (0, 0, 0, 0), []),
  (5, .iaload, (20, 0, 0, 0), []),
  (6, .aload_n 0, (0, 0, 0, 0), []),
  (7, .getfield 7, (7, 0, 120, 0), []),
  (10, .iconst 3, (0, 0, 0, 0), []),
  (11, .iaload, (20, 0, 0, 0), []),
  (12, .isub, (0, 0, 0, 0), []),
  (13, .ireturn, (0, 0, 0, 0), [])]
def pg_Mo_wouldBring : List AQ := [(0, .iconst 0, (0, 0, 0, 0), []),
  (1, .istore_n 2, (2, 0, 0, 0), []),
  (2, .iload_n 2, (2, 0, 0, 0), []),
  (3, .bipush 25, (0, 0, 0, 0), []),
  (5, .if_icmp .ge 25, (30, 0, 0, 0), []),
  (8, .aload_n 0, (0, 0, 0, 0), []),
  (9, .getfield 31, (7, 15, 120, 0), []),
  (12, .sipush 150, (0, 0, 0, 0), []),
  (15, .iload_n 2, (2, 0, 0, 0), []),
  (16, .iadd, (0, 0, 0, 0), []),
  (17, .aload_n 0, (0, 0, 0, 0), []),
  (18, .getfield 7, (7, 0, 120, 0), []),
  (21, .iload_n 2, (2, 0, 0, 0), []),
  (22, .iaload, (20, 0, 0, 0), []),
  (23, .iastore, (0, 0, 0, 0), []),
  (24, .iinc 2 1, (0, 0, 0, 0), []),
  (27, .goto (-25), (2, 0, 0, 0), []),
  (30, .aload_n 0, (0, 0, 0, 0), []),
  (31, .iload_n 1, (1, 0, 0, 0), []),
  (32, .invokevirtual 220, (150, 2, 0, 107), []),
  (35, .istore_n 2, (2, 0, 0, 0), []),
  (36, .iconst 0, (0, 0, 0, 0), []),
  (37, .istore_n 3, (3, 0, 0, 0), []),
  (38, .iload_n 3, (3, 0, 0, 0), []),
  (39, .bipush 25, (0, 0, 0, 0), []),
  (41, .if_icmp .ge 25, (66, 0, 0, 0), []),
  (44, .aload_n 0, (0, 0, 0, 0), []),
  (45, .getfield 7, (7, 0, 120, 0), []),
  (48, .iload_n 3, (3, 0, 0, 0), []),
  (49, .aload_n 0, (0, 0, 0, 0), []),
  (50, .getfield 31, (7, 15, 120, 0), []),
  (53, .sipush 150, (0, 0, 0, 0), []),
  (56, .iload_n 3, (3, 0, 0, 0), []),
  (57, .iadd, (0, 0, 0, 0), []),
  (58, .iaload, (20, 0, 0, 0), []),
  (59, .iastore, (0, 0, 0, 0), []),
  (60, .iinc 3 1, (0, 0, 0, 0), []),
  (63, .goto (-25), (38, 0, 0, 0), []),
  (66, .iload_n 2, (2, 0, 0, 0), []),
  (67, .ireturn, (0, 0, 0, 0), [])]
def pg_Mo_brings : List AQ := [(0, .aload_n 0, (0, 0, 0, 0), []),
  (1, .iload_n 1, (1, 0, 0, 0), []),
  (2, .invokevirtual 192, (138, 2, 0, 107), []),
  (5, .ifCond .ne 6, (11, 0, 0, 0), []),
  (8, .bipush (-2), (0, 0, 0, 0), []),
  (10, .ireturn, (0, 0, 0, 0), []),
  (11, .aload_n 0, (0, 0, 0, 0), []),
  (12, .iload_n 1, (1, 0, 0, 0), []),
  (13, .invokevirtual 214, (144, 2, 0, 107), []),
  (16, .ifCond .eq 11, (27, 0, 0, 0), []),
  (19, .aload_n 0, (0, 0, 0, 0), []),
  (20, .iload_n 1, (1, 0, 0, 0), []),
  (21, .invokevirtual 225, (161, 2, 0, 107), []),
  (24, .goto 5, (29, 0, 0, 0), []),
  (27, .bipush (-4), (0, 0, 0, 0), []),
  (29, .ireturn, (0, 0, 0, 0), [])]
def pg_Mo_noted : List AQ := [(0, .aload_n 0, (0, 0, 0, 0), []),
  (1, .iload_n 1, (1, 0, 0, 0), []),
  (2, .putfield 228, (7, 20, 0, 0), []),
  (5, .return_, (0, 0, 0, 0), [])]
def pg_Mo_begins : List AQ := [(0, .iconst 0, (0, 0, 0, 0), []),
  (1, .istore_n 2, (2, 0, 0, 0), []),
  (2, .iload_n 2, (2, 0, 0, 0), []),
  (3, .bipush 25, (0, 0, 0, 0), []),
  (5, .if_icmp .ge 26, (31, 0, 0, 0), []),
  (8, .aload_n 0, (0, 0, 0, 0), []),
  (9, .getfield 31, (7, 15, 120, 0), []),
  (12, .bipush 25, (0, 0, 0, 0), []),
  (14, .iload_n 1, (1, 0, 0, 0), []),
  (15, .imul, (0, 0, 0, 0), []),
  (16, .iload_n 2, (2, 0, 0, 0), []),
  (17, .iadd, (0, 0, 0, 0), []),
  (18, .aload_n 0, (0, 0, 0, 0), []),
  (19, .getfield 7, (7, 0, 120, 0), []),
  (22, .iload_n 2, (2, 0, 0, 0), []),
  (23, .iaload, (20, 0, 0, 0), []),
  (24, .iastore, (0, 0, 0, 0), []),
  (25, .iinc 2 1, (0, 0, 0, 0), []),
  (28, .goto (-26), (2, 0, 0, 0), []),
  (31, .aload_n 0, (0, 0, 0, 0), []),
  (32, .getfield 34, (7, 16, 120, 0), []),
  (35, .iload_n 1, (1, 0, 0, 0), []),
  (36, .iconst 0, (0, 0, 0, 0), []),
  (37, .iastore, (0, 0, 0, 0), []),
  (38, .aload_n 0, (0, 0, 0, 0), []),
  (39, .getfield 40, (7, 18, 121, 0), []),
  (42, .iload_n 1, (1, 0, 0, 0), []),
  (43, .iconst 0, (0, 0, 0, 0), []),
  (44, .bastore, (0, 0, 0, 0), []),
  (45, .iload_n 1, (1, 0, 0, 0), []),
  (46, .istore_n 2, (2, 0, 0, 0), []),
  (47, .iload_n 2, (2, 0, 0, 0), []),
  (48, .bipush 6, (0, 0, 0, 0), []),
  (50, .if_icmp .ge 21, (71, 0, 0, 0), []),
  (53, .aload_n 0, (0, 0, 0, 0), []),
  (54, .getfield 44, (7, 19, 120, 0), []),
  (57, .bipush 6, (0, 0, 0, 0), []),
  (59, .iload_n 1, (1, 0, 0, 0), []),
  (60, .imul, (0, 0, 0, 0), []),
  (61, .iload_n 2, (2, 0, 0, 0), []),
  (62, .iadd, (0, 0, 0, 0), []),
  (63, .iconst (-1), (0, 0, 0, 0), []),
  (64, .iastore, (0, 0, 0, 0), []),
  (65, .iinc 2 1, (0, 0, 0, 0), []),
  (68, .goto (-21), (47, 0, 0, 0), []),
  (71, .return_, (0, 0, 0, 0), [])]
def pg_Mo_laysBack : List AQ := [(0, .iconst 0, (0, 0, 0, 0), []),
  (1, .istore_n 2, (2, 0, 0, 0), []),
  (2, .iload_n 2, (2, 0, 0, 0), []),
  (3, .bipush 25, (0, 0, 0, 0), []),
  (5, .if_icmp .ge 26, (31, 0, 0, 0), []),
  (8, .aload_n 0, (0, 0, 0, 0), []),
  (9, .getfield 7, (7, 0, 120, 0), []),
  (12, .iload_n 2, (2, 0, 0, 0), []),
  (13, .aload_n 0, (0, 0, 0, 0), []),
  (14, .getfield 31, (7, 15, 120, 0), []),
  (17, .bipush 25, (0, 0, 0, 0), []),
  (19, .iload_n 1, (1, 0, 0, 0), []),
  (20, .imul, (0, 0, 0, 0), []),
  (21, .iload_n 2, (2, 0, 0, 0), []),
  (22, .iadd, (0, 0, 0, 0), []),
  (23, .iaload, (20, 0, 0, 0), []),
  (24, .iastore, (0, 0, 0, 0), []),
  (25, .iinc 2 1, (0, 0, 0, 0), []),
  (28, .goto (-26), (2, 0, 0, 0), []),
  (31, .return_, (0, 0, 0, 0), [])]
def pg_Mo_ends_0 : List AQ := [(0, .aload_n 0, (0, 0, 0, 0), []),
  (1, .getfield 31, (7, 15, 120, 0), []),
  (4, .bipush 25, (0, 0, 0, 0), []),
  (6, .iload_n 1, (1, 0, 0, 0), []),
  (7, .imul, (0, 0, 0, 0), []),
  (8, .iconst 1, (0, 0, 0, 0), []),
  (9, .iadd, (0, 0, 0, 0), []),
  (10, .iaload, (20, 0, 0, 0), []),
  (11, .ifCond .ne 7, (18, 0, 0, 0), []),
  (14, .iconst 1, (0, 0, 0, 0), []),
  (15, .goto 4, (19, 0, 0, 0), []),
  (18, .iconst 0, (0, 0, 0, 0), []),
  (19, .istore_n 3, (3, 0, 0, 0), []),
  (20, .aload_n 0, (0, 0, 0, 0), []),
  (21, .getfield 40, (7, 18, 121, 0), []),
  (24, .iload_n 1, (1, 0, 0, 0), []),
  (25, .baload, (0, 0, 0, 0), []),
  (26, .ifCond .eq 30, (56, 0, 0, 0), []),
  (29, .iload_n 3, (3, 0, 0, 0), []),
  (30, .ifCond .eq 16, (46, 0, 0, 0), []),
  (33, .iload_n 2, (2, 0, 0, 0), []),
  (34, .aload_n 0, (0, 0, 0, 0), []),
  (35, .getfield 37, (7, 17, 120, 0), []),
  (38, .iload_n 1, (1, 0, 0, 0), []),
  (39, .iaload, (20, 0, 0, 0), []),
  (40, .if_icmp .le 20, (60, 0, 0, 0), []),
  (43, .goto 13, (56, 0, 0, 0), []),
  (46, .iload_n 2, (2, 0, 0, 0), []),
  (47, .aload_n 0, (0, 0, 0, 0), []),
  (48, .getfield 37, (7, 17, 120, 0), []),
  (51, .iload_n 1, (1, 0, 0, 0), []),
  (52, .iaload, (20, 0, 0, 0), []),
  (53, .if_icmp .ge 7, (60, 0, 0, 0), []),
  (56, .iconst 1, (0, 0, 0, 0), []),
  (57, .goto 4, (61, 0, 0, 0), []),
  (60, .iconst 0, (0, 0, 0, 0), []),
  (61, .istore 4, (0, 0, 0, 0), []),
  (63, .iload 4, (0, 0, 0, 0), []),
  (65, .ifCond .eq 78, (143, 0, 0, 0), []),
  (68, .aload_n 0, (0, 0, 0, 0), []),
  (69, .getfield 37, (7, 17, 120, 0), []),
  (72, .iload_n 1, (1, 0, 0, 0), []),
  (73, .iload_n 2, (2, 0, 0, 0), []),
  (74, .iastore, (0, 0, 0, 0), []),
  (75, .aload_n 0, (0, 0, 0, 0), []),
  (76, .getfield 40, (7, 18, 121, 0), []),
  (79, .iload_n 1, (1, 0, 0, 0), []),
  (80, .iconst 1, (0, 0, 0, 0), []),
  (81, .bastore, (0, 0, 0, 0), []),
  (82, .aload_n 0, (0, 0, 0, 0), []),
  (83, .getfield 44, (7, 19, 120, 0), []),
  (86, .bipush 6, (0, 0, 0, 0), []),
  (88, .iload_n 1, (1, 0, 0, 0), []),
  (89, .imul, (0, 0, 0, 0), []),
  (90, .iload_n 1, (1, 0, 0, 0), []),
  (91, .iadd, (0, 0, 0, 0), []),
  (92, .aload_n 0, (0, 0, 0, 0), []),
  (93, .getfield 34, (7, 16, 120, 0), []),
  (96, .iload_n 1, (1, 0, 0, 0), []),
  (97, .iaload, (20, 0, 0, 0), [])]
def pg_Mo_ends_1 : List AQ := [(98, .iastore, (0, 0, 0, 0), []),
  (99, .iload_n 1, (1, 0, 0, 0), []),
  (100, .iconst 1, (0, 0, 0, 0), []),
  (101, .iadd, (0, 0, 0, 0), []),
  (102, .istore 5, (0, 0, 0, 0), []),
  (104, .iload 5, (0, 0, 0, 0), []),
  (106, .bipush 6, (0, 0, 0, 0), []),
  (108, .if_icmp .ge 35, (143, 0, 0, 0), []),
  (111, .aload_n 0, (0, 0, 0, 0), []),
  (112, .getfield 44, (7, 19, 120, 0), []),
  (115, .bipush 6, (0, 0, 0, 0), []),
  (117, .iload_n 1, (1, 0, 0, 0), []),
  (118, .imul, (0, 0, 0, 0), []),
  (119, .iload 5, (0, 0, 0, 0), []),
  (121, .iadd, (0, 0, 0, 0), []),
  (122, .aload_n 0, (0, 0, 0, 0), []),
  (123, .getfield 44, (7, 19, 120, 0), []),
  (126, .bipush 6, (0, 0, 0, 0), []),
  (128, .iload_n 1, (1, 0, 0, 0), []),
  (129, .iconst 1, (0, 0, 0, 0), []),
  (130, .iadd, (0, 0, 0, 0), []),
  (131, .imul, (0, 0, 0, 0), []),
  (132, .iload 5, (0, 0, 0, 0), []),
  (134, .iadd, (0, 0, 0, 0), []),
  (135, .iaload, (20, 0, 0, 0), []),
  (136, .iastore, (0, 0, 0, 0), []),
  (137, .iinc 5 1, (0, 0, 0, 0), []),
  (140, .goto (-36), (104, 0, 0, 0), []),
  (143, .aload_n 0, (0, 0, 0, 0), []),
  (144, .getfield 34, (7, 16, 120, 0), []),
  (147, .iload_n 1, (1, 0, 0, 0), []),
  (148, .dup2, (0, 0, 0, 0), []),
  (149, .iaload, (20, 0, 0, 0), []),
  (150, .iconst 1, (0, 0, 0, 0), []),
  (151, .iadd, (0, 0, 0, 0), []),
  (152, .iastore, (0, 0, 0, 0), []),
  (153, .return_, (0, 0, 0, 0), [])]
def pg_Mo_ends : List AQ := pg_Mo_ends_0 ++ (pg_Mo_ends_1)
def pg_Mo_looksAhead_0 : List AQ := [(0, .iconst 0, (0, 0, 0, 0), []),
  (1, .istore_n 2, (2, 0, 0, 0), []),
  (2, .aload_n 0, (0, 0, 0, 0), []),
  (3, .iconst 0, (0, 0, 0, 0), []),
  (4, .invokevirtual 231, (164, 2, 9, 107), []),
  (7, .iconst 2, (0, 0, 0, 0), []),
  (8, .aload_n 0, (0, 0, 0, 0), []),
  (9, .getfield 7, (7, 0, 120, 0), []),
  (12, .iconst 0, (0, 0, 0, 0), []),
  (13, .iaload, (20, 0, 0, 0), []),
  (14, .imul, (0, 0, 0, 0), []),
  (15, .istore_n 3, (3, 0, 0, 0), []),
  (16, .iload_n 2, (2, 0, 0, 0), []),
  (17, .ifCond .gt 13, (30, 0, 0, 0), []),
  (20, .aload_n 0, (0, 0, 0, 0), []),
  (21, .getfield 34, (7, 16, 120, 0), []),
  (24, .iconst 0, (0, 0, 0, 0), []),
  (25, .iaload, (20, 0, 0, 0), []),
  (26, .iload_n 3, (3, 0, 0, 0), []),
  (27, .if_icmp .ge 121, (148, 0, 0, 0), []),
  (30, .iload_n 2, (2, 0, 0, 0), []),
  (31, .iload_n 1, (1, 0, 0, 0), []),
  (32, .if_icmp .eq 13, (45, 0, 0, 0), []),
  (35, .aload_n 0, (0, 0, 0, 0), []),
  (36, .getfield 34, (7, 16, 120, 0), []),
  (39, .iload_n 2, (2, 0, 0, 0), []),
  (40, .iaload, (20, 0, 0, 0), []),
  (41, .iload_n 3, (3, 0, 0, 0), []),
  (42, .if_icmp .ne 50, (92, 0, 0, 0), []),
  (45, .aload_n 0, (0, 0, 0, 0), []),
  (46, .iload_n 2, (2, 0, 0, 0), []),
  (47, .invokevirtual 235, (165, 2, 9, 107), []),
  (50, .iload_n 2, (2, 0, 0, 0), []),
  (51, .iload_n 1, (1, 0, 0, 0), []),
  (52, .if_icmp .eq 12, (64, 0, 0, 0), []),
  (55, .aload_n 0, (0, 0, 0, 0), []),
  (56, .getfield 40, (7, 18, 121, 0), []),
  (59, .iload_n 2, (2, 0, 0, 0), []),
  (60, .baload, (0, 0, 0, 0), []),
  (61, .ifCond .ne 10, (71, 0, 0, 0), []),
  (64, .aload_n 0, (0, 0, 0, 0), []),
  (65, .invokevirtual 238, (160, 1, 0, 107), []),
  (68, .goto 9, (77, 0, 0, 0), []),
  (71, .aload_n 0, (0, 0, 0, 0), []),
  (72, .getfield 37, (7, 17, 120, 0), []),
  (75, .iload_n 2, (2, 0, 0, 0), []),
  (76, .iaload, (20, 0, 0, 0), []),
  (77, .istore 4, (0, 0, 0, 0), []),
  (79, .iinc 2 (-1), (0, 0, 0, 0), []),
  (82, .aload_n 0, (0, 0, 0, 0), []),
  (83, .iload_n 2, (2, 0, 0, 0), []),
  (84, .iload 4, (0, 0, 0, 0), []),
  (86, .invokevirtual 241, (166, 3, 9, 107), []),
  (89, .goto (-73), (16, 0, 0, 0), []),
  (92, .aload_n 0, (0, 0, 0, 0), []),
  (93, .iload_n 2, (2, 0, 0, 0), []),
  (94, .invokevirtual 235, (165, 2, 9, 107), []),
  (97, .aload_n 0, (0, 0, 0, 0), []),
  (98, .aload_n 0, (0, 0, 0, 0), []),
  (99, .getfield 34, (7, 16, 120, 0), [])]
def pg_Mo_looksAhead_1 : List AQ := [(102, .iload_n 2, (2, 0, 0, 0), []),
  (103, .iaload, (20, 0, 0, 0), []),
  (104, .invokevirtual 214, (144, 2, 0, 107), []),
  (107, .ifCond .eq 28, (135, 0, 0, 0), []),
  (110, .aload_n 0, (0, 0, 0, 0), []),
  (111, .aload_n 0, (0, 0, 0, 0), []),
  (112, .aload_n 0, (0, 0, 0, 0), []),
  (113, .getfield 34, (7, 16, 120, 0), []),
  (116, .iload_n 2, (2, 0, 0, 0), []),
  (117, .iaload, (20, 0, 0, 0), []),
  (118, .invokevirtual 220, (150, 2, 0, 107), []),
  (121, .invokevirtual 245, (163, 2, 9, 107), []),
  (124, .iinc 2 1, (0, 0, 0, 0), []),
  (127, .aload_n 0, (0, 0, 0, 0), []),
  (128, .iload_n 2, (2, 0, 0, 0), []),
  (129, .invokevirtual 231, (164, 2, 9, 107), []),
  (132, .goto (-116), (16, 0, 0, 0), []),
  (135, .aload_n 0, (0, 0, 0, 0), []),
  (136, .getfield 34, (7, 16, 120, 0), []),
  (139, .iload_n 2, (2, 0, 0, 0), []),
  (140, .dup2, (0, 0, 0, 0), []),
  (141, .iaload, (20, 0, 0, 0), []),
  (142, .iconst 1, (0, 0, 0, 0), []),
  (143, .iadd, (0, 0, 0, 0), []),
  (144, .iastore, (0, 0, 0, 0), []),
  (145, .goto (-129), (16, 0, 0, 0), []),
  (148, .aload_n 0, (0, 0, 0, 0), []),
  (149, .iconst 0, (0, 0, 0, 0), []),
  (150, .invokevirtual 235, (165, 2, 9, 107), []),
  (153, .aload_n 0, (0, 0, 0, 0), []),
  (154, .getfield 40, (7, 18, 121, 0), []),
  (157, .iconst 0, (0, 0, 0, 0), []),
  (158, .baload, (0, 0, 0, 0), []),
  (159, .ifCond .eq 12, (171, 0, 0, 0), []),
  (162, .aload_n 0, (0, 0, 0, 0), []),
  (163, .getfield 37, (7, 17, 120, 0), []),
  (166, .iconst 0, (0, 0, 0, 0), []),
  (167, .iaload, (20, 0, 0, 0), []),
  (168, .goto 7, (175, 0, 0, 0), []),
  (171, .aload_n 0, (0, 0, 0, 0), []),
  (172, .invokevirtual 238, (160, 1, 0, 107), []),
  (175, .ireturn, (0, 0, 0, 0), [])]
def pg_Mo_looksAhead : List AQ := pg_Mo_looksAhead_0 ++ (pg_Mo_looksAhead_1)
def pg_Mo_best : List AQ := [(0, .iload_n 1, (1, 0, 0, 0), []),
  (1, .i2l, (0, 0, 0, 0), []),
  (2, .lconst 1, (0, 0, 0, 1), []),
  (3, .ldc2_w 203, (0, 0, 0, 5), []),
  (6, .invokestatic 84, (123, 3, 0, 0), []),
  (9, .ifCond .eq 17, (26, 0, 0, 0), []),
  (12, .iload_n 2, (2, 0, 0, 0), []),
  (13, .i2l, (0, 0, 0, 0), []),
  (14, .ldc2_w 248, (0, 0, 0, (-1)), []),
  (17, .ldc2_w 250, (0, 0, 0, 4), []),
  (20, .invokestatic 84, (123, 3, 0, 0), []),
  (23, .ifCond .ne 6, (29, 0, 0, 0), []),
  (26, .bipush (-3), (0, 0, 0, 0), []),
  (28, .ireturn, (0, 0, 0, 0), []),
  (29, .aload_n 0, (0, 0, 0, 0), []),
  (30, .iload_n 1, (1, 0, 0, 0), []),
  (31, .invokevirtual 252, (167, 2, 0, 107), []),
  (34, .istore_n 3, (3, 0, 0, 0), []),
  (35, .iload_n 2, (2, 0, 0, 0), []),
  (36, .ifCond .ge 25, (61, 0, 0, 0), []),
  (39, .sipush 5000, (0, 0, 0, 0), []),
  (42, .aload_n 0, (0, 0, 0, 0), []),
  (43, .getfield 7, (7, 0, 120, 0), []),
  (46, .iconst 1, (0, 0, 0, 0), []),
  (47, .iaload, (20, 0, 0, 0), []),
  (48, .ifCond .ne 7, (55, 0, 0, 0), []),
  (51, .iload_n 3, (3, 0, 0, 0), []),
  (52, .goto 5, (57, 0, 0, 0), []),
  (55, .iload_n 3, (3, 0, 0, 0), []),
  (56, .ineg, (0, 0, 0, 0), []),
  (57, .iadd, (0, 0, 0, 0), []),
  (58, .goto 9, (67, 0, 0, 0), []),
  (61, .aload_n 0, (0, 0, 0, 0), []),
  (62, .getfield 44, (7, 19, 120, 0), []),
  (65, .iload_n 2, (2, 0, 0, 0), []),
  (66, .iaload, (20, 0, 0, 0), []),
  (67, .ireturn, (0, 0, 0, 0), [])]
def pg_Mo_rashOne : List AQ := [(0, .iconst (-1), (0, 0, 0, 0), []),
  (1, .istore_n 1, (1, 0, 0, 0), []),
  (2, .iconst (-1), (0, 0, 0, 0), []),
  (3, .istore_n 2, (2, 0, 0, 0), []),
  (4, .iconst 0, (0, 0, 0, 0), []),
  (5, .istore_n 3, (3, 0, 0, 0), []),
  (6, .iload_n 3, (3, 0, 0, 0), []),
  (7, .iconst 2, (0, 0, 0, 0), []),
  (8, .aload_n 0, (0, 0, 0, 0), []),
  (9, .getfield 7, (7, 0, 120, 0), []),
  (12, .iconst 0, (0, 0, 0, 0), []),
  (13, .iaload, (20, 0, 0, 0), []),
  (14, .imul, (0, 0, 0, 0), []),
  (15, .if_icmp .ge 53, (68, 0, 0, 0), []),
  (18, .aload_n 0, (0, 0, 0, 0), []),
  (19, .iload_n 3, (3, 0, 0, 0), []),
  (20, .invokevirtual 214, (144, 2, 0, 107), []),
  (23, .ifCond .eq 11, (34, 0, 0, 0), []),
  (26, .aload_n 0, (0, 0, 0, 0), []),
  (27, .iload_n 3, (3, 0, 0, 0), []),
  (28, .invokevirtual 225, (161, 2, 0, 107), []),
  (31, .goto 4, (35, 0, 0, 0), []),
  (34, .iconst (-1), (0, 0, 0, 0), []),
  (35, .istore 4, (0, 0, 0, 0), []),
  (37, .iload 4, (0, 0, 0, 0), []),
  (39, .iload_n 2, (2, 0, 0, 0), []),
  (40, .if_icmp .le 7, (47, 0, 0, 0), []),
  (43, .iload_n 3, (3, 0, 0, 0), []),
  (44, .goto 4, (48, 0, 0, 0), []),
  (47, .iload_n 1, (1, 0, 0, 0), []),
  (48, .istore_n 1, (1, 0, 0, 0), []),
  (49, .iload 4, (0, 0, 0, 0), []),
  (51, .iload_n 2, (2, 0, 0, 0), []),
  (52, .if_icmp .le 8, (60, 0, 0, 0), []),
  (55, .iload 4, (0, 0, 0, 0), []),
  (57, .goto 4, (61, 0, 0, 0), []),
  (60, .iload_n 2, (2, 0, 0, 0), []),
  (61, .istore_n 2, (2, 0, 0, 0), []),
  (62, .iinc 3 1, (0, 0, 0, 0), []),
  (65, .goto (-59), (6, 0, 0, 0), []),
  (68, .iload_n 1, (1, 0, 0, 0), []),
  (69, .ireturn, (0, 0, 0, 0), [])]
def pg_Mo_rashOnes : List AQ := [(0, .iconst 0, (0, 0, 0, 0), []),
  (1, .istore_n 2, (2, 0, 0, 0), []),
  (2, .aload_n 0, (0, 0, 0, 0), []),
  (3, .invokevirtual 255, (169, 1, 0, 107), []),
  (6, .istore_n 3, (3, 0, 0, 0), []),
  (7, .iload_n 2, (2, 0, 0, 0), []),
  (8, .iload_n 1, (1, 0, 0, 0), []),
  (9, .if_icmp .ge 28, (37, 0, 0, 0), []),
  (12, .iload_n 3, (3, 0, 0, 0), []),
  (13, .iconst (-1), (0, 0, 0, 0), []),
  (14, .if_icmp .eq 23, (37, 0, 0, 0), []),
  (17, .aload_n 0, (0, 0, 0, 0), []),
  (18, .aload_n 0, (0, 0, 0, 0), []),
  (19, .iload_n 3, (3, 0, 0, 0), []),
  (20, .invokevirtual 220, (150, 2, 0, 107), []),
  (23, .invokevirtual 245, (163, 2, 9, 107), []),
  (26, .iinc 2 1, (0, 0, 0, 0), []),
  (29, .aload_n 0, (0, 0, 0, 0), []),
  (30, .invokevirtual 255, (169, 1, 0, 107), []),
  (33, .istore_n 3, (3, 0, 0, 0), []),
  (34, .goto (-27), (7, 0, 0, 0), []),
  (37, .iload_n 2, (2, 0, 0, 0), []),
  (38, .ireturn, (0, 0, 0, 0), [])]
def pg_Mo_rash : List AQ := [(0, .iload_n 1, (1, 0, 0, 0), []),
  (1, .i2l, (0, 0, 0, 0), []),
  (2, .lconst 0, (0, 0, 0, 0), []),
  (3, .ldc2_w 258, (0, 0, 0, 40), []),
  (6, .invokestatic 84, (123, 3, 0, 0), []),
  (9, .ifCond .ne 6, (15, 0, 0, 0), []),
  (12, .bipush (-3), (0, 0, 0, 0), []),
  (14, .ireturn, (0, 0, 0, 0), []),
  (15, .aload_n 0, (0, 0, 0, 0), []),
  (16, .invokevirtual 260, (158, 1, 9, 107), []),
  (19, .aload_n 0, (0, 0, 0, 0), []),
  (20, .iload_n 1, (1, 0, 0, 0), []),
  (21, .invokevirtual 263, (170, 2, 0, 107), []),
  (24, .istore_n 2, (2, 0, 0, 0), []),
  (25, .iload_n 2, (2, 0, 0, 0), []),
  (26, .ifCond .ge 7, (33, 0, 0, 0), []),
  (29, .iconst 0, (0, 0, 0, 0), []),
  (30, .goto 7, (37, 0, 0, 0), []),
  (33, .aload_n 0, (0, 0, 0, 0), []),
  (34, .invokevirtual 238, (160, 1, 0, 107), []),
  (37, .istore_n 3, (3, 0, 0, 0), []),
  (38, .aload_n 0, (0, 0, 0, 0), []),
  (39, .invokevirtual 266, (159, 1, 9, 107), []),
  (42, .sipush 5000, (0, 0, 0, 0), []),
  (45, .iload_n 3, (3, 0, 0, 0), []),
  (46, .iadd, (0, 0, 0, 0), []),
  (47, .ireturn, (0, 0, 0, 0), [])]
def pg_Mo_over : List AQ := [(0, .aload_n 0, (0, 0, 0, 0), []),
  (1, .invokevirtual 260, (158, 1, 9, 107), []),
  (4, .aload_n 0, (0, 0, 0, 0), []),
  (5, .bipush 61, (0, 0, 0, 0), []),
  (7, .invokevirtual 263, (170, 2, 0, 107), []),
  (10, .istore_n 1, (1, 0, 0, 0), []),
  (11, .aload_n 0, (0, 0, 0, 0), []),
  (12, .invokevirtual 266, (159, 1, 9, 107), []),
  (15, .iload_n 1, (1, 0, 0, 0), []),
  (16, .bipush 61, (0, 0, 0, 0), []),
  (18, .if_icmp .ge 7, (25, 0, 0, 0), []),
  (21, .iload_n 1, (1, 0, 0, 0), []),
  (22, .goto 4, (26, 0, 0, 0), []),
  (25, .iconst (-1), (0, 0, 0, 0), []),
  (26, .ireturn, (0, 0, 0, 0), [])]
def pg_Mo_gift_0 : List AQ := [(0, .iload_n 1, (1, 0, 0, 0), []),
  (1, .i2l, (0, 0, 0, 0), []),
  (2, .lconst 1, (0, 0, 0, 1), []),
  (3, .ldc2_w 250, (0, 0, 0, 4), []),
  (6, .invokestatic 84, (123, 3, 0, 0), []),
  (9, .ifCond .ne 6, (15, 0, 0, 0), []),
  (12, .bipush (-3), (0, 0, 0, 0), []),
  (14, .ireturn, (0, 0, 0, 0), []),
  (15, .aload_n 0, (0, 0, 0, 0), []),
  (16, .getfield 7, (7, 0, 120, 0), []),
  (19, .iconst 1, (0, 0, 0, 0), []),
  (20, .iaload, (20, 0, 0, 0), []),
  (21, .ifCond .ne 7, (28, 0, 0, 0), []),
  (24, .iconst 1, (0, 0, 0, 0), []),
  (25, .goto 4, (29, 0, 0, 0), []),
  (28, .iconst (-1), (0, 0, 0, 0), []),
  (29, .istore_n 2, (2, 0, 0, 0), []),
  (30, .iload_n 2, (2, 0, 0, 0), []),
  (31, .aload_n 0, (0, 0, 0, 0), []),
  (32, .iload_n 1, (1, 0, 0, 0), []),
  (33, .invokevirtual 252, (167, 2, 0, 107), []),
  (36, .imul, (0, 0, 0, 0), []),
  (37, .istore_n 3, (3, 0, 0, 0), []),
  (38, .iconst (-1), (0, 0, 0, 0), []),
  (39, .istore 4, (0, 0, 0, 0), []),
  (41, .aload_n 0, (0, 0, 0, 0), []),
  (42, .invokevirtual 260, (158, 1, 9, 107), []),
  (45, .iconst 0, (0, 0, 0, 0), []),
  (46, .istore 5, (0, 0, 0, 0), []),
  (48, .iload 5, (0, 0, 0, 0), []),
  (50, .iconst 2, (0, 0, 0, 0), []),
  (51, .aload_n 0, (0, 0, 0, 0), []),
  (52, .getfield 7, (7, 0, 120, 0), []),
  (55, .iconst 0, (0, 0, 0, 0), []),
  (56, .iaload, (20, 0, 0, 0), []),
  (57, .imul, (0, 0, 0, 0), []),
  (58, .if_icmp .ge 94, (152, 0, 0, 0), []),
  (61, .aload_n 0, (0, 0, 0, 0), []),
  (62, .iload 5, (0, 0, 0, 0), []),
  (64, .invokevirtual 186, (143, 2, 0, 107), []),
  (67, .aload_n 0, (0, 0, 0, 0), []),
  (68, .getfield 7, (7, 0, 120, 0), []),
  (71, .iconst 1, (0, 0, 0, 0), []),
  (72, .iaload, (20, 0, 0, 0), []),
  (73, .if_icmp .ne 73, (146, 0, 0, 0), []),
  (76, .aload_n 0, (0, 0, 0, 0), []),
  (77, .getfield 7, (7, 0, 120, 0), []),
  (80, .bipush 15, (0, 0, 0, 0), []),
  (82, .iload 5, (0, 0, 0, 0), []),
  (84, .iadd, (0, 0, 0, 0), []),
  (85, .iaload, (20, 0, 0, 0), []),
  (86, .bipush 99, (0, 0, 0, 0), []),
  (88, .if_icmp .ge 58, (146, 0, 0, 0), []),
  (91, .aload_n 0, (0, 0, 0, 0), []),
  (92, .getfield 7, (7, 0, 120, 0), []),
  (95, .bipush 15, (0, 0, 0, 0), []),
  (97, .iload 5, (0, 0, 0, 0), []),
  (99, .iadd, (0, 0, 0, 0), []),
  (100, .dup2, (0, 0, 0, 0), []),
  (101, .iaload, (20, 0, 0, 0), [])]
def pg_Mo_gift_1 : List AQ := [(102, .iconst 1, (0, 0, 0, 0), []),
  (103, .iadd, (0, 0, 0, 0), []),
  (104, .iastore, (0, 0, 0, 0), []),
  (105, .iload_n 2, (2, 0, 0, 0), []),
  (106, .aload_n 0, (0, 0, 0, 0), []),
  (107, .iload_n 1, (1, 0, 0, 0), []),
  (108, .invokevirtual 252, (167, 2, 0, 107), []),
  (111, .imul, (0, 0, 0, 0), []),
  (112, .istore 6, (0, 0, 0, 0), []),
  (114, .aload_n 0, (0, 0, 0, 0), []),
  (115, .invokevirtual 266, (159, 1, 9, 107), []),
  (118, .iload 6, (0, 0, 0, 0), []),
  (120, .iload_n 3, (3, 0, 0, 0), []),
  (121, .if_icmp .le 8, (129, 0, 0, 0), []),
  (124, .iload 5, (0, 0, 0, 0), []),
  (126, .goto 5, (131, 0, 0, 0), []),
  (129, .iload 4, (0, 0, 0, 0), []),
  (131, .istore 4, (0, 0, 0, 0), []),
  (133, .iload 6, (0, 0, 0, 0), []),
  (135, .iload_n 3, (3, 0, 0, 0), []),
  (136, .if_icmp .le 8, (144, 0, 0, 0), []),
  (139, .iload 6, (0, 0, 0, 0), []),
  (141, .goto 4, (145, 0, 0, 0), []),
  (144, .iload_n 3, (3, 0, 0, 0), []),
  (145, .istore_n 3, (3, 0, 0, 0), []),
  (146, .iinc 5 1, (0, 0, 0, 0), []),
  (149, .goto (-101), (48, 0, 0, 0), []),
  (152, .iload 4, (0, 0, 0, 0), []),
  (154, .ireturn, (0, 0, 0, 0), [])]
def pg_Mo_gift : List AQ := pg_Mo_gift_0 ++ (pg_Mo_gift_1)
def pg_Mo_movesThere : List AQ := [(0, .iconst 0, (0, 0, 0, 0), []),
  (1, .istore_n 1, (1, 0, 0, 0), []),
  (2, .iconst 0, (0, 0, 0, 0), []),
  (3, .istore_n 2, (2, 0, 0, 0), []),
  (4, .iload_n 2, (2, 0, 0, 0), []),
  (5, .iconst 2, (0, 0, 0, 0), []),
  (6, .aload_n 0, (0, 0, 0, 0), []),
  (7, .getfield 7, (7, 0, 120, 0), []),
  (10, .iconst 0, (0, 0, 0, 0), []),
  (11, .iaload, (20, 0, 0, 0), []),
  (12, .imul, (0, 0, 0, 0), []),
  (13, .if_icmp .ge 25, (38, 0, 0, 0), []),
  (16, .iload_n 1, (1, 0, 0, 0), []),
  (17, .aload_n 0, (0, 0, 0, 0), []),
  (18, .iload_n 2, (2, 0, 0, 0), []),
  (19, .invokevirtual 214, (144, 2, 0, 107), []),
  (22, .ifCond .eq 7, (29, 0, 0, 0), []),
  (25, .iconst 1, (0, 0, 0, 0), []),
  (26, .goto 4, (30, 0, 0, 0), []),
  (29, .iconst 0, (0, 0, 0, 0), []),
  (30, .iadd, (0, 0, 0, 0), []),
  (31, .istore_n 1, (1, 0, 0, 0), []),
  (32, .iinc 2 1, (0, 0, 0, 0), []),
  (35, .goto (-31), (4, 0, 0, 0), []),
  (38, .iload_n 1, (1, 0, 0, 0), []),
  (39, .ireturn, (0, 0, 0, 0), [])]
def pg_Mo_luck_0 : List AQ := [(0, .iload_n 1, (1, 0, 0, 0), []),
  (1, .i2l, (0, 0, 0, 0), []),
  (2, .lconst 1, (0, 0, 0, 1), []),
  (3, .ldc2_w 269, (0, 0, 0, 3), []),
  (6, .invokestatic 84, (123, 3, 0, 0), []),
  (9, .ifCond .eq 13, (22, 0, 0, 0), []),
  (12, .iload_n 2, (2, 0, 0, 0), []),
  (13, .i2l, (0, 0, 0, 0), []),
  (14, .lconst 0, (0, 0, 0, 0), []),
  (15, .lconst 1, (0, 0, 0, 1), []),
  (16, .invokestatic 84, (123, 3, 0, 0), []),
  (19, .ifCond .ne 6, (25, 0, 0, 0), []),
  (22, .bipush (-3), (0, 0, 0, 0), []),
  (24, .ireturn, (0, 0, 0, 0), []),
  (25, .aload_n 0, (0, 0, 0, 0), []),
  (26, .getfield 7, (7, 0, 120, 0), []),
  (29, .iconst 1, (0, 0, 0, 0), []),
  (30, .iaload, (20, 0, 0, 0), []),
  (31, .istore_n 3, (3, 0, 0, 0), []),
  (32, .iconst 2, (0, 0, 0, 0), []),
  (33, .aload_n 0, (0, 0, 0, 0), []),
  (34, .getfield 7, (7, 0, 120, 0), []),
  (37, .iconst 0, (0, 0, 0, 0), []),
  (38, .iaload, (20, 0, 0, 0), []),
  (39, .imul, (0, 0, 0, 0), []),
  (40, .istore 4, (0, 0, 0, 0), []),
  (42, .lconst 1, (0, 0, 0, 1), []),
  (43, .lstore 5, (0, 0, 0, 0), []),
  (45, .iconst 0, (0, 0, 0, 0), []),
  (46, .istore 7, (0, 0, 0, 0), []),
  (48, .iload 7, (0, 0, 0, 0), []),
  (50, .iload_n 1, (1, 0, 0, 0), []),
  (51, .if_icmp .ge 17, (68, 0, 0, 0), []),
  (54, .lload 5, (0, 0, 0, 0), []),
  (56, .ldc2_w 271, (0, 0, 0, 60), []),
  (59, .lmul, (0, 0, 0, 0), []),
  (60, .lstore 5, (0, 0, 0, 0), []),
  (62, .iinc 7 1, (0, 0, 0, 0), []),
  (65, .goto (-17), (48, 0, 0, 0), []),
  (68, .lconst 0, (0, 0, 0, 0), []),
  (69, .lstore 7, (0, 0, 0, 0), []),
  (71, .iconst 0, (0, 0, 0, 0), []),
  (72, .istore 9, (0, 0, 0, 0), []),
  (74, .aload_n 0, (0, 0, 0, 0), []),
  (75, .iconst 0, (0, 0, 0, 0), []),
  (76, .invokevirtual 231, (164, 2, 9, 107), []),
  (79, .aload_n 0, (0, 0, 0, 0), []),
  (80, .getfield 47, (7, 21, 123, 0), []),
  (83, .iconst 0, (0, 0, 0, 0), []),
  (84, .lload 5, (0, 0, 0, 0), []),
  (86, .lastore, (0, 0, 0, 0), []),
  (87, .iload 9, (0, 0, 0, 0), []),
  (89, .ifCond .lt 190, (279, 0, 0, 0), []),
  (92, .aload_n 0, (0, 0, 0, 0), []),
  (93, .iload 9, (0, 0, 0, 0), []),
  (95, .invokevirtual 235, (165, 2, 9, 107), []),
  (98, .aload_n 0, (0, 0, 0, 0), []),
  (99, .invokevirtual 273, (174, 1, 0, 107), []),
  (102, .istore 10, (0, 0, 0, 0), []),
  (104, .iload_n 3, (3, 0, 0, 0), [])]
def pg_Mo_luck_1 : List AQ := [(105, .ifCond .ne 18, (123, 0, 0, 0), []),
  (108, .aload_n 0, (0, 0, 0, 0), []),
  (109, .invokevirtual 238, (160, 1, 0, 107), []),
  (112, .ifCond .le 7, (119, 0, 0, 0), []),
  (115, .iconst 1, (0, 0, 0, 0), []),
  (116, .goto 19, (135, 0, 0, 0), []),
  (119, .iconst 0, (0, 0, 0, 0), []),
  (120, .goto 15, (135, 0, 0, 0), []),
  (123, .aload_n 0, (0, 0, 0, 0), []),
  (124, .invokevirtual 238, (160, 1, 0, 107), []),
  (127, .ifCond .ge 7, (134, 0, 0, 0), []),
  (130, .iconst 1, (0, 0, 0, 0), []),
  (131, .goto 4, (135, 0, 0, 0), []),
  (134, .iconst 0, (0, 0, 0, 0), []),
  (135, .istore 11, (0, 0, 0, 0), []),
  (137, .iload 9, (0, 0, 0, 0), []),
  (139, .iload_n 1, (1, 0, 0, 0), []),
  (140, .if_icmp .eq 8, (148, 0, 0, 0), []),
  (143, .iload 10, (0, 0, 0, 0), []),
  (145, .ifCond .ne 30, (175, 0, 0, 0), []),
  (148, .lload 7, (0, 0, 0, 0), []),
  (150, .iload 11, (0, 0, 0, 0), []),
  (152, .ifCond .eq 13, (165, 0, 0, 0), []),
  (155, .aload_n 0, (0, 0, 0, 0), []),
  (156, .getfield 47, (7, 21, 123, 0), []),
  (159, .iload 9, (0, 0, 0, 0), []),
  (161, .laload, (0, 0, 0, 0), []),
  (162, .goto 4, (166, 0, 0, 0), []),
  (165, .lconst 0, (0, 0, 0, 0), []),
  (166, .ladd, (0, 0, 0, 0), []),
  (167, .lstore 7, (0, 0, 0, 0), []),
  (169, .iinc 9 (-1), (0, 0, 0, 0), []),
  (172, .goto 104, (276, 0, 0, 0), []),
  (175, .aload_n 0, (0, 0, 0, 0), []),
  (176, .getfield 34, (7, 16, 120, 0), []),
  (179, .iload 9, (0, 0, 0, 0), []),
  (181, .iaload, (20, 0, 0, 0), []),
  (182, .iload 4, (0, 0, 0, 0), []),
  (184, .if_icmp .ne 9, (193, 0, 0, 0), []),
  (187, .iinc 9 (-1), (0, 0, 0, 0), []),
  (190, .goto 86, (276, 0, 0, 0), []),
  (193, .aload_n 0, (0, 0, 0, 0), []),
  (194, .aload_n 0, (0, 0, 0, 0), []),
  (195, .getfield 34, (7, 16, 120, 0), []),
  (198, .iload 9, (0, 0, 0, 0), []),
  (200, .iaload, (20, 0, 0, 0), []),
  (201, .invokevirtual 214, (144, 2, 0, 107), []),
  (204, .ifCond .eq 61, (265, 0, 0, 0), []),
  (207, .aload_n 0, (0, 0, 0, 0), []),
  (208, .getfield 47, (7, 21, 123, 0), []),
  (211, .iload 9, (0, 0, 0, 0), []),
  (213, .iconst 1, (0, 0, 0, 0), []),
  (214, .iadd, (0, 0, 0, 0), []),
  (215, .aload_n 0, (0, 0, 0, 0), []),
  (216, .getfield 47, (7, 21, 123, 0), []),
  (219, .iload 9, (0, 0, 0, 0), []),
  (221, .laload, (0, 0, 0, 0), []),
  (222, .iload 10, (0, 0, 0, 0), []),
  (224, .i2l, (0, 0, 0, 0), []),
  (225, .ldiv, (0, 0, 0, 0), [])]
def pg_Mo_luck_2 : List AQ := [(226, .lastore, (0, 0, 0, 0), []),
  (227, .aload_n 0, (0, 0, 0, 0), []),
  (228, .aload_n 0, (0, 0, 0, 0), []),
  (229, .aload_n 0, (0, 0, 0, 0), []),
  (230, .getfield 34, (7, 16, 120, 0), []),
  (233, .iload 9, (0, 0, 0, 0), []),
  (235, .iaload, (20, 0, 0, 0), []),
  (236, .invokevirtual 220, (150, 2, 0, 107), []),
  (239, .invokevirtual 245, (163, 2, 9, 107), []),
  (242, .aload_n 0, (0, 0, 0, 0), []),
  (243, .getfield 34, (7, 16, 120, 0), []),
  (246, .iload 9, (0, 0, 0, 0), []),
  (248, .dup2, (0, 0, 0, 0), []),
  (249, .iaload, (20, 0, 0, 0), []),
  (250, .iconst 1, (0, 0, 0, 0), []),
  (251, .iadd, (0, 0, 0, 0), []),
  (252, .iastore, (0, 0, 0, 0), []),
  (253, .iinc 9 1, (0, 0, 0, 0), []),
  (256, .aload_n 0, (0, 0, 0, 0), []),
  (257, .iload 9, (0, 0, 0, 0), []),
  (259, .invokevirtual 231, (164, 2, 9, 107), []),
  (262, .goto 14, (276, 0, 0, 0), []),
  (265, .aload_n 0, (0, 0, 0, 0), []),
  (266, .getfield 34, (7, 16, 120, 0), []),
  (269, .iload 9, (0, 0, 0, 0), []),
  (271, .dup2, (0, 0, 0, 0), []),
  (272, .iaload, (20, 0, 0, 0), []),
  (273, .iconst 1, (0, 0, 0, 0), []),
  (274, .iadd, (0, 0, 0, 0), []),
  (275, .iastore, (0, 0, 0, 0), []),
  (276, .goto (-189), (87, 0, 0, 0), []),
  (279, .aload_n 0, (0, 0, 0, 0), []),
  (280, .iconst 0, (0, 0, 0, 0), []),
  (281, .invokevirtual 235, (165, 2, 9, 107), []),
  (284, .lload 7, (0, 0, 0, 0), []),
  (286, .lload 5, (0, 0, 0, 0), []),
  (288, .iload_n 2, (2, 0, 0, 0), []),
  (289, .invokestatic 276, (176, 3, 0, 0), []),
  (292, .ireturn, (0, 0, 0, 0), [])]
def pg_Mo_luck : List AQ := pg_Mo_luck_0 ++ (pg_Mo_luck_1 ++ (pg_Mo_luck_2))
def pg_Mo_part : List AQ := [(0, .lload_n 0, (0, 0, 0, 0), []),
  (1, .lstore 5, (0, 0, 0, 0), []),
  (3, .lload_n 2, (2, 0, 0, 0), []),
  (4, .lstore 7, (0, 0, 0, 0), []),
  (6, .lload 7, (0, 0, 0, 0), []),
  (8, .lconst 0, (0, 0, 0, 0), []),
  (9, .lcmp, (0, 0, 0, 0), []),
  (10, .ifCond .eq 21, (31, 0, 0, 0), []),
  (13, .lload 5, (0, 0, 0, 0), []),
  (15, .lload 7, (0, 0, 0, 0), []),
  (17, .lrem, (0, 0, 0, 0), []),
  (18, .lstore 9, (0, 0, 0, 0), []),
  (20, .lload 7, (0, 0, 0, 0), []),
  (22, .lstore 5, (0, 0, 0, 0), []),
  (24, .lload 9, (0, 0, 0, 0), []),
  (26, .lstore 7, (0, 0, 0, 0), []),
  (28, .goto (-22), (6, 0, 0, 0), []),
  (31, .iload 4, (0, 0, 0, 0), []),
  (33, .ifCond .ne 7, (40, 0, 0, 0), []),
  (36, .lload_n 0, (0, 0, 0, 0), []),
  (37, .goto 4, (41, 0, 0, 0), []),
  (40, .lload_n 2, (2, 0, 0, 0), []),
  (41, .lload 5, (0, 0, 0, 0), []),
  (43, .ldiv, (0, 0, 0, 0), []),
  (44, .l2i, (0, 0, 0, 0), []),
  (45, .ireturn, (0, 0, 0, 0), [])]
def pg_Mo_seen_0 : List AQ := [(0, .iload_n 1, (1, 0, 0, 0), []),
  (1, .i2l, (0, 0, 0, 0), []),
  (2, .lconst 0, (0, 0, 0, 0), []),
  (3, .ldc2_w 280, (0, 0, 0, 20), []),
  (6, .invokestatic 84, (123, 3, 0, 0), []),
  (9, .ifCond .eq 36, (45, 0, 0, 0), []),
  (12, .iload_n 2, (2, 0, 0, 0), []),
  (13, .i2l, (0, 0, 0, 0), []),
  (14, .lconst 0, (0, 0, 0, 0), []),
  (15, .ldc2_w 280, (0, 0, 0, 20), []),
  (18, .invokestatic 84, (123, 3, 0, 0), []),
  (21, .ifCond .eq 24, (45, 0, 0, 0), []),
  (24, .iload_n 3, (3, 0, 0, 0), []),
  (25, .i2l, (0, 0, 0, 0), []),
  (26, .lconst 0, (0, 0, 0, 0), []),
  (27, .lconst 1, (0, 0, 0, 1), []),
  (28, .invokestatic 84, (123, 3, 0, 0), []),
  (31, .ifCond .eq 14, (45, 0, 0, 0), []),
  (34, .iload 4, (0, 0, 0, 0), []),
  (36, .i2l, (0, 0, 0, 0), []),
  (37, .lconst 0, (0, 0, 0, 0), []),
  (38, .lconst 1, (0, 0, 0, 1), []),
  (39, .invokestatic 84, (123, 3, 0, 0), []),
  (42, .ifCond .ne 6, (48, 0, 0, 0), []),
  (45, .bipush (-3), (0, 0, 0, 0), []),
  (47, .ireturn, (0, 0, 0, 0), []),
  (48, .aload_n 0, (0, 0, 0, 0), []),
  (49, .getfield 180, (7, 23, 0, 0), []),
  (52, .bipush 6, (0, 0, 0, 0), []),
  (54, .if_icmp .ne 6, (60, 0, 0, 0), []),
  (57, .bipush (-5), (0, 0, 0, 0), []),
  (59, .ireturn, (0, 0, 0, 0), []),
  (60, .aload_n 0, (0, 0, 0, 0), []),
  (61, .getfield 51, (7, 22, 120, 0), []),
  (64, .iconst 4, (0, 0, 0, 0), []),
  (65, .aload_n 0, (0, 0, 0, 0), []),
  (66, .getfield 180, (7, 23, 0, 0), []),
  (69, .imul, (0, 0, 0, 0), []),
  (70, .iload_n 1, (1, 0, 0, 0), []),
  (71, .iastore, (0, 0, 0, 0), []),
  (72, .aload_n 0, (0, 0, 0, 0), []),
  (73, .getfield 51, (7, 22, 120, 0), []),
  (76, .iconst 4, (0, 0, 0, 0), []),
  (77, .aload_n 0, (0, 0, 0, 0), []),
  (78, .getfield 180, (7, 23, 0, 0), []),
  (81, .imul, (0, 0, 0, 0), []),
  (82, .iconst 1, (0, 0, 0, 0), []),
  (83, .iadd, (0, 0, 0, 0), []),
  (84, .iload_n 2, (2, 0, 0, 0), []),
  (85, .iastore, (0, 0, 0, 0), []),
  (86, .aload_n 0, (0, 0, 0, 0), []),
  (87, .getfield 51, (7, 22, 120, 0), []),
  (90, .iconst 4, (0, 0, 0, 0), []),
  (91, .aload_n 0, (0, 0, 0, 0), []),
  (92, .getfield 180, (7, 23, 0, 0), []),
  (95, .imul, (0, 0, 0, 0), []),
  (96, .iconst 2, (0, 0, 0, 0), []),
  (97, .iadd, (0, 0, 0, 0), []),
  (98, .iload_n 3, (3, 0, 0, 0), []),
  (99, .iastore, (0, 0, 0, 0), [])]
def pg_Mo_seen_1 : List AQ := [(100, .aload_n 0, (0, 0, 0, 0), []),
  (101, .getfield 51, (7, 22, 120, 0), []),
  (104, .iconst 4, (0, 0, 0, 0), []),
  (105, .aload_n 0, (0, 0, 0, 0), []),
  (106, .getfield 180, (7, 23, 0, 0), []),
  (109, .imul, (0, 0, 0, 0), []),
  (110, .iconst 3, (0, 0, 0, 0), []),
  (111, .iadd, (0, 0, 0, 0), []),
  (112, .iload 4, (0, 0, 0, 0), []),
  (114, .iastore, (0, 0, 0, 0), []),
  (115, .aload_n 0, (0, 0, 0, 0), []),
  (116, .dup, (0, 0, 0, 0), []),
  (117, .getfield 180, (7, 23, 0, 0), []),
  (120, .iconst 1, (0, 0, 0, 0), []),
  (121, .iadd, (0, 0, 0, 0), []),
  (122, .putfield 180, (7, 23, 0, 0), []),
  (125, .aload_n 0, (0, 0, 0, 0), []),
  (126, .getfield 180, (7, 23, 0, 0), []),
  (129, .ireturn, (0, 0, 0, 0), [])]
def pg_Mo_seen : List AQ := pg_Mo_seen_0 ++ (pg_Mo_seen_1)
def pg_Mo_forget : List AQ := [(0, .aload_n 0, (0, 0, 0, 0), []),
  (1, .getfield 180, (7, 23, 0, 0), []),
  (4, .istore_n 1, (1, 0, 0, 0), []),
  (5, .aload_n 0, (0, 0, 0, 0), []),
  (6, .iconst 0, (0, 0, 0, 0), []),
  (7, .putfield 180, (7, 23, 0, 0), []),
  (10, .iload_n 1, (1, 0, 0, 0), []),
  (11, .ireturn, (0, 0, 0, 0), [])]
def pg_Mo_isOf : List AQ := [(0, .iconst 4, (0, 0, 0, 0), []),
  (1, .iload_n 0, (0, 0, 0, 0), []),
  (2, .iload_n 1, (1, 0, 0, 0), []),
  (3, .invokestatic 183, (139, 2, 0, 0), []),
  (6, .imul, (0, 0, 0, 0), []),
  (7, .iload_n 0, (0, 0, 0, 0), []),
  (8, .iload_n 1, (1, 0, 0, 0), []),
  (9, .invokestatic 196, (140, 2, 0, 0), []),
  (12, .ifCond .eq 7, (19, 0, 0, 0), []),
  (15, .iconst 2, (0, 0, 0, 0), []),
  (16, .goto 4, (20, 0, 0, 0), []),
  (19, .iconst 0, (0, 0, 0, 0), []),
  (20, .iadd, (0, 0, 0, 0), []),
  (21, .iload_n 0, (0, 0, 0, 0), []),
  (22, .iload_n 1, (1, 0, 0, 0), []),
  (23, .invokestatic 200, (141, 2, 0, 0), []),
  (26, .ifCond .eq 7, (33, 0, 0, 0), []),
  (29, .iconst 1, (0, 0, 0, 0), []),
  (30, .goto 4, (34, 0, 0, 0), []),
  (33, .iconst 0, (0, 0, 0, 0), []),
  (34, .iadd, (0, 0, 0, 0), []),
  (35, .ireturn, (0, 0, 0, 0), [])]
def pg_Mo_kinds_0 : List AQ := [(0, .iconst 0, (0, 0, 0, 0), []),
  (1, .istore_n 1, (1, 0, 0, 0), []),
  (2, .iconst 0, (0, 0, 0, 0), []),
  (3, .istore_n 2, (2, 0, 0, 0), []),
  (4, .iload_n 2, (2, 0, 0, 0), []),
  (5, .iconst 5, (0, 0, 0, 0), []),
  (6, .if_icmp .ge 108, (114, 0, 0, 0), []),
  (9, .iconst 1, (0, 0, 0, 0), []),
  (10, .istore_n 3, (3, 0, 0, 0), []),
  (11, .iconst 0, (0, 0, 0, 0), []),
  (12, .istore 4, (0, 0, 0, 0), []),
  (14, .iload 4, (0, 0, 0, 0), []),
  (16, .aload_n 0, (0, 0, 0, 0), []),
  (17, .getfield 180, (7, 23, 0, 0), []),
  (20, .if_icmp .ge 74, (94, 0, 0, 0), []),
  (23, .iload_n 3, (3, 0, 0, 0), []),
  (24, .ifCond .eq 62, (86, 0, 0, 0), []),
  (27, .iload_n 2, (2, 0, 0, 0), []),
  (28, .aload_n 0, (0, 0, 0, 0), []),
  (29, .getfield 51, (7, 22, 120, 0), []),
  (32, .iconst 4, (0, 0, 0, 0), []),
  (33, .iload 4, (0, 0, 0, 0), []),
  (35, .imul, (0, 0, 0, 0), []),
  (36, .iaload, (20, 0, 0, 0), []),
  (37, .invokestatic 282, (179, 2, 0, 0), []),
  (40, .iconst 4, (0, 0, 0, 0), []),
  (41, .aload_n 0, (0, 0, 0, 0), []),
  (42, .getfield 51, (7, 22, 120, 0), []),
  (45, .iconst 4, (0, 0, 0, 0), []),
  (46, .iload 4, (0, 0, 0, 0), []),
  (48, .imul, (0, 0, 0, 0), []),
  (49, .iconst 1, (0, 0, 0, 0), []),
  (50, .iadd, (0, 0, 0, 0), []),
  (51, .iaload, (20, 0, 0, 0), []),
  (52, .imul, (0, 0, 0, 0), []),
  (53, .iconst 2, (0, 0, 0, 0), []),
  (54, .aload_n 0, (0, 0, 0, 0), []),
  (55, .getfield 51, (7, 22, 120, 0), []),
  (58, .iconst 4, (0, 0, 0, 0), []),
  (59, .iload 4, (0, 0, 0, 0), []),
  (61, .imul, (0, 0, 0, 0), []),
  (62, .iconst 2, (0, 0, 0, 0), []),
  (63, .iadd, (0, 0, 0, 0), []),
  (64, .iaload, (20, 0, 0, 0), []),
  (65, .imul, (0, 0, 0, 0), []),
  (66, .iadd, (0, 0, 0, 0), []),
  (67, .aload_n 0, (0, 0, 0, 0), []),
  (68, .getfield 51, (7, 22, 120, 0), []),
  (71, .iconst 4, (0, 0, 0, 0), []),
  (72, .iload 4, (0, 0, 0, 0), []),
  (74, .imul, (0, 0, 0, 0), []),
  (75, .iconst 3, (0, 0, 0, 0), []),
  (76, .iadd, (0, 0, 0, 0), []),
  (77, .iaload, (20, 0, 0, 0), []),
  (78, .iadd, (0, 0, 0, 0), []),
  (79, .if_icmp .ne 7, (86, 0, 0, 0), []),
  (82, .iconst 1, (0, 0, 0, 0), []),
  (83, .goto 4, (87, 0, 0, 0), []),
  (86, .iconst 0, (0, 0, 0, 0), []),
  (87, .istore_n 3, (3, 0, 0, 0), [])]
def pg_Mo_kinds_1 : List AQ := [(88, .iinc 4 1, (0, 0, 0, 0), []),
  (91, .goto (-77), (14, 0, 0, 0), []),
  (94, .iload_n 1, (1, 0, 0, 0), []),
  (95, .iload_n 3, (3, 0, 0, 0), []),
  (96, .ifCond .eq 9, (105, 0, 0, 0), []),
  (99, .iconst 1, (0, 0, 0, 0), []),
  (100, .iload_n 2, (2, 0, 0, 0), []),
  (101, .ishl, (0, 0, 0, 0), []),
  (102, .goto 4, (106, 0, 0, 0), []),
  (105, .iconst 0, (0, 0, 0, 0), []),
  (106, .ior, (0, 0, 0, 0), []),
  (107, .istore_n 1, (1, 0, 0, 0), []),
  (108, .iinc 2 1, (0, 0, 0, 0), []),
  (111, .goto (-107), (4, 0, 0, 0), []),
  (114, .iload_n 1, (1, 0, 0, 0), []),
  (115, .ireturn, (0, 0, 0, 0), [])]
def pg_Mo_kinds : List AQ := pg_Mo_kinds_0 ++ (pg_Mo_kinds_1)
def pg_Mo_ask_0 : List AQ := [(0, .aload_n 0, (0, 0, 0, 0), []),
  (1, .invokevirtual 285, (180, 1, 0, 107), []),
  (4, .istore_n 1, (1, 0, 0, 0), []),
  (5, .iconst 0, (0, 0, 0, 0), []),
  (6, .istore_n 2, (2, 0, 0, 0), []),
  (7, .iconst 0, (0, 0, 0, 0), []),
  (8, .istore_n 3, (3, 0, 0, 0), []),
  (9, .iload_n 3, (3, 0, 0, 0), []),
  (10, .iconst 5, (0, 0, 0, 0), []),
  (11, .if_icmp .ge 17, (28, 0, 0, 0), []),
  (14, .iload_n 2, (2, 0, 0, 0), []),
  (15, .iload_n 1, (1, 0, 0, 0), []),
  (16, .iload_n 3, (3, 0, 0, 0), []),
  (17, .ishr, (0, 0, 0, 0), []),
  (18, .iconst 1, (0, 0, 0, 0), []),
  (19, .iand, (0, 0, 0, 0), []),
  (20, .iadd, (0, 0, 0, 0), []),
  (21, .istore_n 2, (2, 0, 0, 0), []),
  (22, .iinc 3 1, (0, 0, 0, 0), []),
  (25, .goto (-16), (9, 0, 0, 0), []),
  (28, .iconst (-1), (0, 0, 0, 0), []),
  (29, .istore_n 3, (3, 0, 0, 0), []),
  (30, .iload_n 2, (2, 0, 0, 0), []),
  (31, .istore 4, (0, 0, 0, 0), []),
  (33, .iconst 0, (0, 0, 0, 0), []),
  (34, .istore 5, (0, 0, 0, 0), []),
  (36, .iload 5, (0, 0, 0, 0), []),
  (38, .bipush 13, (0, 0, 0, 0), []),
  (40, .if_icmp .ge 133, (173, 0, 0, 0), []),
  (43, .iconst 0, (0, 0, 0, 0), []),
  (44, .istore 6, (0, 0, 0, 0), []),
  (46, .iconst 0, (0, 0, 0, 0), []),
  (47, .istore 7, (0, 0, 0, 0), []),
  (49, .iload 7, (0, 0, 0, 0), []),
  (51, .iconst 5, (0, 0, 0, 0), []),
  (52, .if_icmp .ge 85, (137, 0, 0, 0), []),
  (55, .iconst 0, (0, 0, 0, 0), []),
  (56, .istore 8, (0, 0, 0, 0), []),
  (58, .iconst 0, (0, 0, 0, 0), []),
  (59, .istore 9, (0, 0, 0, 0), []),
  (61, .iload 9, (0, 0, 0, 0), []),
  (63, .iconst 5, (0, 0, 0, 0), []),
  (64, .if_icmp .ge 51, (115, 0, 0, 0), []),
  (67, .iload 8, (0, 0, 0, 0), []),
  (69, .iload_n 1, (1, 0, 0, 0), []),
  (70, .iload 7, (0, 0, 0, 0), []),
  (72, .ishr, (0, 0, 0, 0), []),
  (73, .iload_n 1, (1, 0, 0, 0), []),
  (74, .iload 9, (0, 0, 0, 0), []),
  (76, .ishr, (0, 0, 0, 0), []),
  (77, .iand, (0, 0, 0, 0), []),
  (78, .iconst 1, (0, 0, 0, 0), []),
  (79, .iand, (0, 0, 0, 0), []),
  (80, .iconst 1, (0, 0, 0, 0), []),
  (81, .if_icmp .ne 24, (105, 0, 0, 0), []),
  (84, .iload 7, (0, 0, 0, 0), []),
  (86, .iload 5, (0, 0, 0, 0), []),
  (88, .invokestatic 282, (179, 2, 0, 0), []),
  (91, .iload 9, (0, 0, 0, 0), []),
  (93, .iload 5, (0, 0, 0, 0), [])]
def pg_Mo_ask_1 : List AQ := [(95, .invokestatic 282, (179, 2, 0, 0), []),
  (98, .if_icmp .ne 7, (105, 0, 0, 0), []),
  (101, .iconst 1, (0, 0, 0, 0), []),
  (102, .goto 4, (106, 0, 0, 0), []),
  (105, .iconst 0, (0, 0, 0, 0), []),
  (106, .iadd, (0, 0, 0, 0), []),
  (107, .istore 8, (0, 0, 0, 0), []),
  (109, .iinc 9 1, (0, 0, 0, 0), []),
  (112, .goto (-51), (61, 0, 0, 0), []),
  (115, .iload 8, (0, 0, 0, 0), []),
  (117, .iload 6, (0, 0, 0, 0), []),
  (119, .if_icmp .le 8, (127, 0, 0, 0), []),
  (122, .iload 8, (0, 0, 0, 0), []),
  (124, .goto 5, (129, 0, 0, 0), []),
  (127, .iload 6, (0, 0, 0, 0), []),
  (129, .istore 6, (0, 0, 0, 0), []),
  (131, .iinc 7 1, (0, 0, 0, 0), []),
  (134, .goto (-85), (49, 0, 0, 0), []),
  (137, .iload 6, (0, 0, 0, 0), []),
  (139, .iload 4, (0, 0, 0, 0), []),
  (141, .if_icmp .ge 8, (149, 0, 0, 0), []),
  (144, .iload 5, (0, 0, 0, 0), []),
  (146, .goto 4, (150, 0, 0, 0), []),
  (149, .iload_n 3, (3, 0, 0, 0), []),
  (150, .istore_n 3, (3, 0, 0, 0), []),
  (151, .iload 6, (0, 0, 0, 0), []),
  (153, .iload 4, (0, 0, 0, 0), []),
  (155, .if_icmp .ge 8, (163, 0, 0, 0), []),
  (158, .iload 6, (0, 0, 0, 0), []),
  (160, .goto 5, (165, 0, 0, 0), []),
  (163, .iload 4, (0, 0, 0, 0), []),
  (165, .istore 4, (0, 0, 0, 0), []),
  (167, .iinc 5 1, (0, 0, 0, 0), []),
  (170, .goto (-134), (36, 0, 0, 0), []),
  (173, .iload_n 3, (3, 0, 0, 0), []),
  (174, .ireturn, (0, 0, 0, 0), [])]
def pg_Mo_ask : List AQ := pg_Mo_ask_0 ++ (pg_Mo_ask_1)
def pg_Mo_noBoxes : List AQ := [(0, .iconst 0, (0, 0, 0, 0), []),
  (1, .istore_n 1, (1, 0, 0, 0), []),
  (2, .iload_n 1, (1, 0, 0, 0), []),
  (3, .iconst 5, (0, 0, 0, 0), []),
  (4, .if_icmp .ge 30, (34, 0, 0, 0), []),
  (7, .aload_n 0, (0, 0, 0, 0), []),
  (8, .getfield 54, (7, 24, 120, 0), []),
  (11, .iload_n 1, (1, 0, 0, 0), []),
  (12, .iconst (-1), (0, 0, 0, 0), []),
  (13, .iastore, (0, 0, 0, 0), []),
  (14, .aload_n 0, (0, 0, 0, 0), []),
  (15, .getfield 57, (7, 25, 120, 0), []),
  (18, .iload_n 1, (1, 0, 0, 0), []),
  (19, .iconst 0, (0, 0, 0, 0), []),
  (20, .iastore, (0, 0, 0, 0), []),
  (21, .aload_n 0, (0, 0, 0, 0), []),
  (22, .getfield 66, (7, 28, 120, 0), []),
  (25, .iload_n 1, (1, 0, 0, 0), []),
  (26, .iconst (-1), (0, 0, 0, 0), []),
  (27, .iastore, (0, 0, 0, 0), []),
  (28, .iinc 1 1, (0, 0, 0, 0), []),
  (31, .goto (-29), (2, 0, 0, 0), []),
  (34, .return_, (0, 0, 0, 0), [])]
def pg_Mo_isBox : List AQ := [(0, .iload_n 0, (0, 0, 0, 0), []),
  (1, .i2l, (0, 0, 0, 0), []),
  (2, .lconst 0, (0, 0, 0, 0), []),
  (3, .ldc2_w 250, (0, 0, 0, 4), []),
  (6, .invokestatic 84, (123, 3, 0, 0), []),
  (9, .ireturn, (6, 0, 0, 0), [])]
def pg_Mo_loses_0 : List AQ := [(0, .aload_n 0, (0, 0, 0, 0), []),
  (1, .getfield 66, (7, 28, 120, 0), []),
  (4, .iload_n 1, (1, 0, 0, 0), []),
  (5, .iaload, (20, 0, 0, 0), []),
  (6, .istore_n 2, (2, 0, 0, 0), []),
  (7, .iload_n 2, (2, 0, 0, 0), []),
  (8, .iconst (-1), (0, 0, 0, 0), []),
  (9, .if_icmp .eq 117, (126, 0, 0, 0), []),
  (12, .iconst 0, (0, 0, 0, 0), []),
  (13, .istore_n 3, (3, 0, 0, 0), []),
  (14, .aload_n 0, (0, 0, 0, 0), []),
  (15, .getfield 60, (7, 26, 120, 0), []),
  (18, .iconst 4, (0, 0, 0, 0), []),
  (19, .iload_n 2, (2, 0, 0, 0), []),
  (20, .imul, (0, 0, 0, 0), []),
  (21, .iload_n 3, (3, 0, 0, 0), []),
  (22, .iadd, (0, 0, 0, 0), []),
  (23, .iaload, (20, 0, 0, 0), []),
  (24, .iconst 2, (0, 0, 0, 0), []),
  (25, .if_icmp .ne 17, (42, 0, 0, 0), []),
  (28, .aload_n 0, (0, 0, 0, 0), []),
  (29, .getfield 63, (7, 27, 120, 0), []),
  (32, .iconst 4, (0, 0, 0, 0), []),
  (33, .iload_n 2, (2, 0, 0, 0), []),
  (34, .imul, (0, 0, 0, 0), []),
  (35, .iload_n 3, (3, 0, 0, 0), []),
  (36, .iadd, (0, 0, 0, 0), []),
  (37, .iaload, (20, 0, 0, 0), []),
  (38, .iload_n 1, (1, 0, 0, 0), []),
  (39, .if_icmp .eq 9, (48, 0, 0, 0), []),
  (42, .iinc 3 1, (0, 0, 0, 0), []),
  (45, .goto (-31), (14, 0, 0, 0), []),
  (48, .aload_n 0, (0, 0, 0, 0), []),
  (49, .getfield 57, (7, 25, 120, 0), []),
  (52, .iload_n 2, (2, 0, 0, 0), []),
  (53, .dup2, (0, 0, 0, 0), []),
  (54, .iaload, (20, 0, 0, 0), []),
  (55, .iconst 1, (0, 0, 0, 0), []),
  (56, .isub, (0, 0, 0, 0), []),
  (57, .iastore, (0, 0, 0, 0), []),
  (58, .iload_n 3, (3, 0, 0, 0), []),
  (59, .istore 4, (0, 0, 0, 0), []),
  (61, .iload 4, (0, 0, 0, 0), []),
  (63, .aload_n 0, (0, 0, 0, 0), []),
  (64, .getfield 57, (7, 25, 120, 0), []),
  (67, .iload_n 2, (2, 0, 0, 0), []),
  (68, .iaload, (20, 0, 0, 0), []),
  (69, .if_icmp .ge 57, (126, 0, 0, 0), []),
  (72, .aload_n 0, (0, 0, 0, 0), []),
  (73, .getfield 60, (7, 26, 120, 0), []),
  (76, .iconst 4, (0, 0, 0, 0), []),
  (77, .iload_n 2, (2, 0, 0, 0), []),
  (78, .imul, (0, 0, 0, 0), []),
  (79, .iload 4, (0, 0, 0, 0), []),
  (81, .iadd, (0, 0, 0, 0), []),
  (82, .aload_n 0, (0, 0, 0, 0), []),
  (83, .getfield 60, (7, 26, 120, 0), []),
  (86, .iconst 4, (0, 0, 0, 0), []),
  (87, .iload_n 2, (2, 0, 0, 0), []),
  (88, .imul, (0, 0, 0, 0), [])]
def pg_Mo_loses_1 : List AQ := [(89, .iload 4, (0, 0, 0, 0), []),
  (91, .iadd, (0, 0, 0, 0), []),
  (92, .iconst 1, (0, 0, 0, 0), []),
  (93, .iadd, (0, 0, 0, 0), []),
  (94, .iaload, (20, 0, 0, 0), []),
  (95, .iastore, (0, 0, 0, 0), []),
  (96, .aload_n 0, (0, 0, 0, 0), []),
  (97, .getfield 63, (7, 27, 120, 0), []),
  (100, .iconst 4, (0, 0, 0, 0), []),
  (101, .iload_n 2, (2, 0, 0, 0), []),
  (102, .imul, (0, 0, 0, 0), []),
  (103, .iload 4, (0, 0, 0, 0), []),
  (105, .iadd, (0, 0, 0, 0), []),
  (106, .aload_n 0, (0, 0, 0, 0), []),
  (107, .getfield 63, (7, 27, 120, 0), []),
  (110, .iconst 4, (0, 0, 0, 0), []),
  (111, .iload_n 2, (2, 0, 0, 0), []),
  (112, .imul, (0, 0, 0, 0), []),
  (113, .iload 4, (0, 0, 0, 0), []),
  (115, .iadd, (0, 0, 0, 0), []),
  (116, .iconst 1, (0, 0, 0, 0), []),
  (117, .iadd, (0, 0, 0, 0), []),
  (118, .iaload, (20, 0, 0, 0), []),
  (119, .iastore, (0, 0, 0, 0), []),
  (120, .iinc 4 1, (0, 0, 0, 0), []),
  (123, .goto (-62), (61, 0, 0, 0), []),
  (126, .aload_n 0, (0, 0, 0, 0), []),
  (127, .getfield 66, (7, 28, 120, 0), []),
  (130, .iload_n 1, (1, 0, 0, 0), []),
  (131, .iconst (-1), (0, 0, 0, 0), []),
  (132, .iastore, (0, 0, 0, 0), []),
  (133, .iconst 0, (0, 0, 0, 0), []),
  (134, .istore_n 3, (3, 0, 0, 0), []),
  (135, .iload_n 3, (3, 0, 0, 0), []),
  (136, .iconst 5, (0, 0, 0, 0), []),
  (137, .if_icmp .ge 35, (172, 0, 0, 0), []),
  (140, .aload_n 0, (0, 0, 0, 0), []),
  (141, .getfield 66, (7, 28, 120, 0), []),
  (144, .iload_n 3, (3, 0, 0, 0), []),
  (145, .aload_n 0, (0, 0, 0, 0), []),
  (146, .getfield 66, (7, 28, 120, 0), []),
  (149, .iload_n 3, (3, 0, 0, 0), []),
  (150, .iaload, (20, 0, 0, 0), []),
  (151, .iload_n 1, (1, 0, 0, 0), []),
  (152, .if_icmp .ne 7, (159, 0, 0, 0), []),
  (155, .iconst (-1), (0, 0, 0, 0), []),
  (156, .goto 9, (165, 0, 0, 0), []),
  (159, .aload_n 0, (0, 0, 0, 0), []),
  (160, .getfield 66, (7, 28, 120, 0), []),
  (163, .iload_n 3, (3, 0, 0, 0), []),
  (164, .iaload, (20, 0, 0, 0), []),
  (165, .iastore, (0, 0, 0, 0), []),
  (166, .iinc 3 1, (0, 0, 0, 0), []),
  (169, .goto (-34), (135, 0, 0, 0), []),
  (172, .aload_n 0, (0, 0, 0, 0), []),
  (173, .getfield 57, (7, 25, 120, 0), []),
  (176, .iload_n 1, (1, 0, 0, 0), []),
  (177, .iconst 0, (0, 0, 0, 0), []),
  (178, .iastore, (0, 0, 0, 0), []),
  (179, .aload_n 0, (0, 0, 0, 0), [])]
def pg_Mo_loses_2 : List AQ := [(180, .getfield 54, (7, 24, 120, 0), []),
  (183, .iload_n 1, (1, 0, 0, 0), []),
  (184, .iconst (-1), (0, 0, 0, 0), []),
  (185, .iastore, (0, 0, 0, 0), []),
  (186, .return_, (0, 0, 0, 0), [])]
def pg_Mo_loses : List AQ := pg_Mo_loses_0 ++ (pg_Mo_loses_1 ++ (pg_Mo_loses_2))
def pg_Mo_box : List AQ := [(0, .iload_n 1, (1, 0, 0, 0), []),
  (1, .invokestatic 288, (183, 1, 0, 0), []),
  (4, .ifCond .ne 6, (10, 0, 0, 0), []),
  (7, .bipush (-2), (0, 0, 0, 0), []),
  (9, .ireturn, (0, 0, 0, 0), []),
  (10, .iload_n 2, (2, 0, 0, 0), []),
  (11, .iconst 4, (0, 0, 0, 0), []),
  (12, .if_icmp .le 6, (18, 0, 0, 0), []),
  (15, .bipush (-3), (0, 0, 0, 0), []),
  (17, .ireturn, (0, 0, 0, 0), []),
  (18, .iload_n 2, (2, 0, 0, 0), []),
  (19, .ifCond .ge 6, (25, 0, 0, 0), []),
  (22, .bipush (-16), (0, 0, 0, 0), []),
  (24, .ireturn, (0, 0, 0, 0), []),
  (25, .aload_n 0, (0, 0, 0, 0), []),
  (26, .iload_n 1, (1, 0, 0, 0), []),
  (27, .invokevirtual 291, (184, 2, 9, 107), []),
  (30, .aload_n 0, (0, 0, 0, 0), []),
  (31, .getfield 54, (7, 24, 120, 0), []),
  (34, .iload_n 1, (1, 0, 0, 0), []),
  (35, .iload_n 2, (2, 0, 0, 0), []),
  (36, .iastore, (0, 0, 0, 0), []),
  (37, .iload_n 2, (2, 0, 0, 0), []),
  (38, .ireturn, (0, 0, 0, 0), [])]
def pg_Mo_isWithin : List AQ := [(0, .iload_n 1, (1, 0, 0, 0), []),
  (1, .istore_n 3, (3, 0, 0, 0), []),
  (2, .iload_n 3, (3, 0, 0, 0), []),
  (3, .iconst (-1), (0, 0, 0, 0), []),
  (4, .if_icmp .eq 18, (22, 0, 0, 0), []),
  (7, .iload_n 3, (3, 0, 0, 0), []),
  (8, .iload_n 2, (2, 0, 0, 0), []),
  (9, .if_icmp .eq 13, (22, 0, 0, 0), []),
  (12, .aload_n 0, (0, 0, 0, 0), []),
  (13, .getfield 66, (7, 28, 120, 0), []),
  (16, .iload_n 3, (3, 0, 0, 0), []),
  (17, .iaload, (20, 0, 0, 0), []),
  (18, .istore_n 3, (3, 0, 0, 0), []),
  (19, .goto (-17), (2, 0, 0, 0), []),
  (22, .iload_n 3, (3, 0, 0, 0), []),
  (23, .iload_n 2, (2, 0, 0, 0), []),
  (24, .if_icmp .ne 7, (31, 0, 0, 0), []),
  (27, .iconst 1, (0, 0, 0, 0), []),
  (28, .goto 4, (32, 0, 0, 0), []),
  (31, .iconst 0, (0, 0, 0, 0), []),
  (32, .ireturn, (6, 0, 0, 0), [])]
def pg_Mo_whyNotPut : List AQ := [(0, .iload_n 2, (2, 0, 0, 0), []),
  (1, .iconst 2, (0, 0, 0, 0), []),
  (2, .if_icmp .ne 7, (9, 0, 0, 0), []),
  (5, .iconst 1, (0, 0, 0, 0), []),
  (6, .goto 4, (10, 0, 0, 0), []),
  (9, .iconst 0, (0, 0, 0, 0), []),
  (10, .istore 4, (0, 0, 0, 0), []),
  (12, .iload 4, (0, 0, 0, 0), []),
  (14, .ifCond .eq 16, (30, 0, 0, 0), []),
  (17, .aload_n 0, (0, 0, 0, 0), []),
  (18, .getfield 66, (7, 28, 120, 0), []),
  (21, .iload_n 3, (3, 0, 0, 0), []),
  (22, .iaload, (20, 0, 0, 0), []),
  (23, .iconst (-1), (0, 0, 0, 0), []),
  (24, .if_icmp .eq 6, (30, 0, 0, 0), []),
  (27, .bipush (-4), (0, 0, 0, 0), []),
  (29, .ireturn, (0, 0, 0, 0), []),
  (30, .aload_n 0, (0, 0, 0, 0), []),
  (31, .getfield 54, (7, 24, 120, 0), []),
  (34, .iload_n 1, (1, 0, 0, 0), []),
  (35, .iaload, (20, 0, 0, 0), []),
  (36, .ifCond .lt 17, (53, 0, 0, 0), []),
  (39, .iload 4, (0, 0, 0, 0), []),
  (41, .ifCond .eq 15, (56, 0, 0, 0), []),
  (44, .aload_n 0, (0, 0, 0, 0), []),
  (45, .getfield 54, (7, 24, 120, 0), []),
  (48, .iload_n 3, (3, 0, 0, 0), []),
  (49, .iaload, (20, 0, 0, 0), []),
  (50, .ifCond .ge 6, (56, 0, 0, 0), []),
  (53, .bipush (-11), (0, 0, 0, 0), []),
  (55, .ireturn, (0, 0, 0, 0), []),
  (56, .aload_n 0, (0, 0, 0, 0), []),
  (57, .getfield 57, (7, 25, 120, 0), []),
  (60, .iload_n 1, (1, 0, 0, 0), []),
  (61, .iaload, (20, 0, 0, 0), []),
  (62, .aload_n 0, (0, 0, 0, 0), []),
  (63, .getfield 54, (7, 24, 120, 0), []),
  (66, .iload_n 1, (1, 0, 0, 0), []),
  (67, .iaload, (20, 0, 0, 0), []),
  (68, .if_icmp .ne 6, (74, 0, 0, 0), []),
  (71, .bipush (-14), (0, 0, 0, 0), []),
  (73, .ireturn, (0, 0, 0, 0), []),
  (74, .iload 4, (0, 0, 0, 0), []),
  (76, .ifCond .eq 17, (93, 0, 0, 0), []),
  (79, .aload_n 0, (0, 0, 0, 0), []),
  (80, .iload_n 1, (1, 0, 0, 0), []),
  (81, .iload_n 3, (3, 0, 0, 0), []),
  (82, .invokevirtual 294, (186, 3, 0, 107), []),
  (85, .ifCond .eq 8, (93, 0, 0, 0), []),
  (88, .bipush (-15), (0, 0, 0, 0), []),
  (90, .goto 4, (94, 0, 0, 0), []),
  (93, .iconst 0, (0, 0, 0, 0), []),
  (94, .ireturn, (0, 0, 0, 0), [])]
def pg_Mo_put_0 : List AQ := [(0, .iload_n 1, (1, 0, 0, 0), []),
  (1, .invokestatic 288, (183, 1, 0, 0), []),
  (4, .ifCond .eq 28, (32, 0, 0, 0), []),
  (7, .iload_n 2, (2, 0, 0, 0), []),
  (8, .iconst 1, (0, 0, 0, 0), []),
  (9, .if_icmp .ne 11, (20, 0, 0, 0), []),
  (12, .aload_n 0, (0, 0, 0, 0), []),
  (13, .iload_n 3, (3, 0, 0, 0), []),
  (14, .invokevirtual 192, (138, 2, 0, 107), []),
  (17, .ifCond .eq 15, (32, 0, 0, 0), []),
  (20, .iload_n 2, (2, 0, 0, 0), []),
  (21, .iconst 2, (0, 0, 0, 0), []),
  (22, .if_icmp .ne 13, (35, 0, 0, 0), []),
  (25, .iload_n 3, (3, 0, 0, 0), []),
  (26, .invokestatic 288, (183, 1, 0, 0), []),
  (29, .ifCond .ne 6, (35, 0, 0, 0), []),
  (32, .bipush (-2), (0, 0, 0, 0), []),
  (34, .ireturn, (0, 0, 0, 0), []),
  (35, .iload_n 2, (2, 0, 0, 0), []),
  (36, .i2l, (0, 0, 0, 0), []),
  (37, .lconst 0, (0, 0, 0, 0), []),
  (38, .ldc2_w 297, (0, 0, 0, 2), []),
  (41, .invokestatic 84, (123, 3, 0, 0), []),
  (44, .ifCond .eq 21, (65, 0, 0, 0), []),
  (47, .iload_n 2, (2, 0, 0, 0), []),
  (48, .ifCond .ne 20, (68, 0, 0, 0), []),
  (51, .iload_n 3, (3, 0, 0, 0), []),
  (52, .i2l, (0, 0, 0, 0), []),
  (53, .ldc2_w 299, (0, 0, 0, (-9999)), []),
  (56, .ldc2_w 301, (0, 0, 0, 9999), []),
  (59, .invokestatic 84, (123, 3, 0, 0), []),
  (62, .ifCond .ne 6, (68, 0, 0, 0), []),
  (65, .bipush (-3), (0, 0, 0, 0), []),
  (67, .ireturn, (0, 0, 0, 0), []),
  (68, .aload_n 0, (0, 0, 0, 0), []),
  (69, .iload_n 1, (1, 0, 0, 0), []),
  (70, .iload_n 2, (2, 0, 0, 0), []),
  (71, .iload_n 3, (3, 0, 0, 0), []),
  (72, .invokevirtual 303, (187, 4, 0, 107), []),
  (75, .istore 4, (0, 0, 0, 0), []),
  (77, .iload 4, (0, 0, 0, 0), []),
  (79, .ifCond .ge 6, (85, 0, 0, 0), []),
  (82, .iload 4, (0, 0, 0, 0), []),
  (84, .ireturn, (0, 0, 0, 0), []),
  (85, .aload_n 0, (0, 0, 0, 0), []),
  (86, .getfield 60, (7, 26, 120, 0), []),
  (89, .iconst 4, (0, 0, 0, 0), []),
  (90, .iload_n 1, (1, 0, 0, 0), []),
  (91, .imul, (0, 0, 0, 0), []),
  (92, .aload_n 0, (0, 0, 0, 0), []),
  (93, .getfield 57, (7, 25, 120, 0), []),
  (96, .iload_n 1, (1, 0, 0, 0), []),
  (97, .iaload, (20, 0, 0, 0), []),
  (98, .iadd, (0, 0, 0, 0), []),
  (99, .iload_n 2, (2, 0, 0, 0), []),
  (100, .iastore, (0, 0, 0, 0), []),
  (101, .aload_n 0, (0, 0, 0, 0), []),
  (102, .getfield 63, (7, 27, 120, 0), []),
  (105, .iconst 4, (0, 0, 0, 0), []),
  (106, .iload_n 1, (1, 0, 0, 0), [])]
def pg_Mo_put_1 : List AQ := [(107, .imul, (0, 0, 0, 0), []),
  (108, .aload_n 0, (0, 0, 0, 0), []),
  (109, .getfield 57, (7, 25, 120, 0), []),
  (112, .iload_n 1, (1, 0, 0, 0), []),
  (113, .iaload, (20, 0, 0, 0), []),
  (114, .iadd, (0, 0, 0, 0), []),
  (115, .iload_n 3, (3, 0, 0, 0), []),
  (116, .iastore, (0, 0, 0, 0), []),
  (117, .aload_n 0, (0, 0, 0, 0), []),
  (118, .getfield 57, (7, 25, 120, 0), []),
  (121, .iload_n 1, (1, 0, 0, 0), []),
  (122, .dup2, (0, 0, 0, 0), []),
  (123, .iaload, (20, 0, 0, 0), []),
  (124, .iconst 1, (0, 0, 0, 0), []),
  (125, .iadd, (0, 0, 0, 0), []),
  (126, .iastore, (0, 0, 0, 0), []),
  (127, .iload_n 2, (2, 0, 0, 0), []),
  (128, .iconst 2, (0, 0, 0, 0), []),
  (129, .if_icmp .ne 10, (139, 0, 0, 0), []),
  (132, .aload_n 0, (0, 0, 0, 0), []),
  (133, .getfield 66, (7, 28, 120, 0), []),
  (136, .iload_n 3, (3, 0, 0, 0), []),
  (137, .iload_n 1, (1, 0, 0, 0), []),
  (138, .iastore, (0, 0, 0, 0), []),
  (139, .aload_n 0, (0, 0, 0, 0), []),
  (140, .getfield 57, (7, 25, 120, 0), []),
  (143, .iload_n 1, (1, 0, 0, 0), []),
  (144, .iaload, (20, 0, 0, 0), []),
  (145, .ireturn, (0, 0, 0, 0), [])]
def pg_Mo_put : List AQ := pg_Mo_put_0 ++ (pg_Mo_put_1)
def pg_Mo_whyNotOut : List AQ := [(0, .aload_n 0, (0, 0, 0, 0), []),
  (1, .getfield 54, (7, 24, 120, 0), []),
  (4, .iload_n 1, (1, 0, 0, 0), []),
  (5, .iaload, (20, 0, 0, 0), []),
  (6, .ifCond .ge 6, (12, 0, 0, 0), []),
  (9, .bipush (-11), (0, 0, 0, 0), []),
  (11, .ireturn, (0, 0, 0, 0), []),
  (12, .aload_n 0, (0, 0, 0, 0), []),
  (13, .getfield 57, (7, 25, 120, 0), []),
  (16, .iload_n 1, (1, 0, 0, 0), []),
  (17, .iaload, (20, 0, 0, 0), []),
  (18, .ifCond .ne 6, (24, 0, 0, 0), []),
  (21, .bipush (-12), (0, 0, 0, 0), []),
  (23, .ireturn, (0, 0, 0, 0), []),
  (24, .aload_n 0, (0, 0, 0, 0), []),
  (25, .getfield 60, (7, 26, 120, 0), []),
  (28, .iconst 4, (0, 0, 0, 0), []),
  (29, .iload_n 1, (1, 0, 0, 0), []),
  (30, .imul, (0, 0, 0, 0), []),
  (31, .aload_n 0, (0, 0, 0, 0), []),
  (32, .getfield 57, (7, 25, 120, 0), []),
  (35, .iload_n 1, (1, 0, 0, 0), []),
  (36, .iaload, (20, 0, 0, 0), []),
  (37, .iadd, (0, 0, 0, 0), []),
  (38, .iconst 1, (0, 0, 0, 0), []),
  (39, .isub, (0, 0, 0, 0), []),
  (40, .iaload, (20, 0, 0, 0), []),
  (41, .iload_n 2, (2, 0, 0, 0), []),
  (42, .if_icmp .ne 7, (49, 0, 0, 0), []),
  (45, .iconst 0, (0, 0, 0, 0), []),
  (46, .goto 5, (51, 0, 0, 0), []),
  (49, .bipush (-13), (0, 0, 0, 0), []),
  (51, .ireturn, (0, 0, 0, 0), [])]
def pg_Mo_take : List AQ := [(0, .iload_n 1, (1, 0, 0, 0), []),
  (1, .invokestatic 288, (183, 1, 0, 0), []),
  (4, .ifCond .ne 6, (10, 0, 0, 0), []),
  (7, .bipush (-2), (0, 0, 0, 0), []),
  (9, .ireturn, (0, 0, 0, 0), []),
  (10, .iload_n 2, (2, 0, 0, 0), []),
  (11, .i2l, (0, 0, 0, 0), []),
  (12, .lconst 0, (0, 0, 0, 0), []),
  (13, .ldc2_w 297, (0, 0, 0, 2), []),
  (16, .invokestatic 84, (123, 3, 0, 0), []),
  (19, .ifCond .ne 6, (25, 0, 0, 0), []),
  (22, .bipush (-3), (0, 0, 0, 0), []),
  (24, .ireturn, (0, 0, 0, 0), []),
  (25, .aload_n 0, (0, 0, 0, 0), []),
  (26, .iload_n 1, (1, 0, 0, 0), []),
  (27, .iload_n 2, (2, 0, 0, 0), []),
  (28, .invokevirtual 307, (189, 3, 0, 107), []),
  (31, .istore_n 3, (3, 0, 0, 0), []),
  (32, .iload_n 3, (3, 0, 0, 0), []),
  (33, .ifCond .ge 5, (38, 0, 0, 0), []),
  (36, .iload_n 3, (3, 0, 0, 0), []),
  (37, .ireturn, (0, 0, 0, 0), []),
  (38, .aload_n 0, (0, 0, 0, 0), []),
  (39, .getfield 57, (7, 25, 120, 0), []),
  (42, .iload_n 1, (1, 0, 0, 0), []),
  (43, .dup2, (0, 0, 0, 0), []),
  (44, .iaload, (20, 0, 0, 0), []),
  (45, .iconst 1, (0, 0, 0, 0), []),
  (46, .isub, (0, 0, 0, 0), []),
  (47, .iastore, (0, 0, 0, 0), []),
  (48, .aload_n 0, (0, 0, 0, 0), []),
  (49, .getfield 63, (7, 27, 120, 0), []),
  (52, .iconst 4, (0, 0, 0, 0), []),
  (53, .iload_n 1, (1, 0, 0, 0), []),
  (54, .imul, (0, 0, 0, 0), []),
  (55, .aload_n 0, (0, 0, 0, 0), []),
  (56, .getfield 57, (7, 25, 120, 0), []),
  (59, .iload_n 1, (1, 0, 0, 0), []),
  (60, .iaload, (20, 0, 0, 0), []),
  (61, .iadd, (0, 0, 0, 0), []),
  (62, .iaload, (20, 0, 0, 0), []),
  (63, .istore 4, (0, 0, 0, 0), []),
  (65, .iload_n 2, (2, 0, 0, 0), []),
  (66, .iconst 2, (0, 0, 0, 0), []),
  (67, .if_icmp .ne 11, (78, 0, 0, 0), []),
  (70, .aload_n 0, (0, 0, 0, 0), []),
  (71, .getfield 66, (7, 28, 120, 0), []),
  (74, .iload 4, (0, 0, 0, 0), []),
  (76, .iconst (-1), (0, 0, 0, 0), []),
  (77, .iastore, (0, 0, 0, 0), []),
  (78, .iload_n 2, (2, 0, 0, 0), []),
  (79, .ifCond .ne 12, (91, 0, 0, 0), []),
  (82, .iload 4, (0, 0, 0, 0), []),
  (84, .ldc_w 310, (0, 0, 0, 50000), []),
  (87, .iadd, (0, 0, 0, 0), []),
  (88, .goto 5, (93, 0, 0, 0), []),
  (91, .iload 4, (0, 0, 0, 0), []),
  (93, .ireturn, (0, 0, 0, 0), [])]
def pg_Mo_spill_0 : List AQ := [(0, .iload_n 1, (1, 0, 0, 0), []),
  (1, .invokestatic 288, (183, 1, 0, 0), []),
  (4, .ifCond .ne 6, (10, 0, 0, 0), []),
  (7, .bipush (-2), (0, 0, 0, 0), []),
  (9, .ireturn, (0, 0, 0, 0), []),
  (10, .aload_n 0, (0, 0, 0, 0), []),
  (11, .iload_n 1, (1, 0, 0, 0), []),
  (12, .iconst 2, (0, 0, 0, 0), []),
  (13, .invokevirtual 307, (189, 3, 0, 107), []),
  (16, .istore_n 2, (2, 0, 0, 0), []),
  (17, .iload_n 2, (2, 0, 0, 0), []),
  (18, .ifCond .ge 5, (23, 0, 0, 0), []),
  (21, .iload_n 2, (2, 0, 0, 0), []),
  (22, .ireturn, (0, 0, 0, 0), []),
  (23, .aload_n 0, (0, 0, 0, 0), []),
  (24, .getfield 63, (7, 27, 120, 0), []),
  (27, .iconst 4, (0, 0, 0, 0), []),
  (28, .iload_n 1, (1, 0, 0, 0), []),
  (29, .imul, (0, 0, 0, 0), []),
  (30, .aload_n 0, (0, 0, 0, 0), []),
  (31, .getfield 57, (7, 25, 120, 0), []),
  (34, .iload_n 1, (1, 0, 0, 0), []),
  (35, .iaload, (20, 0, 0, 0), []),
  (36, .iadd, (0, 0, 0, 0), []),
  (37, .iconst 1, (0, 0, 0, 0), []),
  (38, .isub, (0, 0, 0, 0), []),
  (39, .iaload, (20, 0, 0, 0), []),
  (40, .istore_n 3, (3, 0, 0, 0), []),
  (41, .aload_n 0, (0, 0, 0, 0), []),
  (42, .getfield 57, (7, 25, 120, 0), []),
  (45, .iload_n 1, (1, 0, 0, 0), []),
  (46, .iaload, (20, 0, 0, 0), []),
  (47, .iconst 1, (0, 0, 0, 0), []),
  (48, .isub, (0, 0, 0, 0), []),
  (49, .aload_n 0, (0, 0, 0, 0), []),
  (50, .getfield 57, (7, 25, 120, 0), []),
  (53, .iload_n 3, (3, 0, 0, 0), []),
  (54, .iaload, (20, 0, 0, 0), []),
  (55, .iadd, (0, 0, 0, 0), []),
  (56, .aload_n 0, (0, 0, 0, 0), []),
  (57, .getfield 54, (7, 24, 120, 0), []),
  (60, .iload_n 1, (1, 0, 0, 0), []),
  (61, .iaload, (20, 0, 0, 0), []),
  (62, .if_icmp .le 6, (68, 0, 0, 0), []),
  (65, .bipush (-14), (0, 0, 0, 0), []),
  (67, .ireturn, (0, 0, 0, 0), []),
  (68, .aload_n 0, (0, 0, 0, 0), []),
  (69, .getfield 57, (7, 25, 120, 0), []),
  (72, .iload_n 1, (1, 0, 0, 0), []),
  (73, .dup2, (0, 0, 0, 0), []),
  (74, .iaload, (20, 0, 0, 0), []),
  (75, .iconst 1, (0, 0, 0, 0), []),
  (76, .isub, (0, 0, 0, 0), []),
  (77, .iastore, (0, 0, 0, 0), []),
  (78, .aload_n 0, (0, 0, 0, 0), []),
  (79, .getfield 66, (7, 28, 120, 0), []),
  (82, .iload_n 3, (3, 0, 0, 0), []),
  (83, .iconst (-1), (0, 0, 0, 0), []),
  (84, .iastore, (0, 0, 0, 0), []),
  (85, .iconst 0, (0, 0, 0, 0), [])]
def pg_Mo_spill_1 : List AQ := [(86, .istore 4, (0, 0, 0, 0), []),
  (88, .iload 4, (0, 0, 0, 0), []),
  (90, .aload_n 0, (0, 0, 0, 0), []),
  (91, .getfield 57, (7, 25, 120, 0), []),
  (94, .iload_n 3, (3, 0, 0, 0), []),
  (95, .iaload, (20, 0, 0, 0), []),
  (96, .if_icmp .ge 93, (189, 0, 0, 0), []),
  (99, .aload_n 0, (0, 0, 0, 0), []),
  (100, .getfield 60, (7, 26, 120, 0), []),
  (103, .iconst 4, (0, 0, 0, 0), []),
  (104, .iload_n 3, (3, 0, 0, 0), []),
  (105, .imul, (0, 0, 0, 0), []),
  (106, .iload 4, (0, 0, 0, 0), []),
  (108, .iadd, (0, 0, 0, 0), []),
  (109, .iaload, (20, 0, 0, 0), []),
  (110, .istore 5, (0, 0, 0, 0), []),
  (112, .aload_n 0, (0, 0, 0, 0), []),
  (113, .getfield 63, (7, 27, 120, 0), []),
  (116, .iconst 4, (0, 0, 0, 0), []),
  (117, .iload_n 3, (3, 0, 0, 0), []),
  (118, .imul, (0, 0, 0, 0), []),
  (119, .iload 4, (0, 0, 0, 0), []),
  (121, .iadd, (0, 0, 0, 0), []),
  (122, .iaload, (20, 0, 0, 0), []),
  (123, .istore 6, (0, 0, 0, 0), []),
  (125, .aload_n 0, (0, 0, 0, 0), []),
  (126, .getfield 60, (7, 26, 120, 0), []),
  (129, .iconst 4, (0, 0, 0, 0), []),
  (130, .iload_n 1, (1, 0, 0, 0), []),
  (131, .imul, (0, 0, 0, 0), []),
  (132, .aload_n 0, (0, 0, 0, 0), []),
  (133, .getfield 57, (7, 25, 120, 0), []),
  (136, .iload_n 1, (1, 0, 0, 0), []),
  (137, .iaload, (20, 0, 0, 0), []),
  (138, .iadd, (0, 0, 0, 0), []),
  (139, .iload 5, (0, 0, 0, 0), []),
  (141, .iastore, (0, 0, 0, 0), []),
  (142, .aload_n 0, (0, 0, 0, 0), []),
  (143, .getfield 63, (7, 27, 120, 0), []),
  (146, .iconst 4, (0, 0, 0, 0), []),
  (147, .iload_n 1, (1, 0, 0, 0), []),
  (148, .imul, (0, 0, 0, 0), []),
  (149, .aload_n 0, (0, 0, 0, 0), []),
  (150, .getfield 57, (7, 25, 120, 0), []),
  (153, .iload_n 1, (1, 0, 0, 0), []),
  (154, .iaload, (20, 0, 0, 0), []),
  (155, .iadd, (0, 0, 0, 0), []),
  (156, .iload 6, (0, 0, 0, 0), []),
  (158, .iastore, (0, 0, 0, 0), []),
  (159, .aload_n 0, (0, 0, 0, 0), []),
  (160, .getfield 57, (7, 25, 120, 0), []),
  (163, .iload_n 1, (1, 0, 0, 0), []),
  (164, .dup2, (0, 0, 0, 0), []),
  (165, .iaload, (20, 0, 0, 0), []),
  (166, .iconst 1, (0, 0, 0, 0), []),
  (167, .iadd, (0, 0, 0, 0), []),
  (168, .iastore, (0, 0, 0, 0), []),
  (169, .iload 5, (0, 0, 0, 0), []),
  (171, .iconst 2, (0, 0, 0, 0), []),
  (172, .if_icmp .ne 11, (183, 0, 0, 0), [])]
def pg_Mo_spill_2 : List AQ := [(175, .aload_n 0, (0, 0, 0, 0), []),
  (176, .getfield 66, (7, 28, 120, 0), []),
  (179, .iload 6, (0, 0, 0, 0), []),
  (181, .iload_n 1, (1, 0, 0, 0), []),
  (182, .iastore, (0, 0, 0, 0), []),
  (183, .iinc 4 1, (0, 0, 0, 0), []),
  (186, .goto (-98), (88, 0, 0, 0), []),
  (189, .aload_n 0, (0, 0, 0, 0), []),
  (190, .getfield 57, (7, 25, 120, 0), []),
  (193, .iload_n 3, (3, 0, 0, 0), []),
  (194, .iconst 0, (0, 0, 0, 0), []),
  (195, .iastore, (0, 0, 0, 0), []),
  (196, .aload_n 0, (0, 0, 0, 0), []),
  (197, .getfield 57, (7, 25, 120, 0), []),
  (200, .iload_n 1, (1, 0, 0, 0), []),
  (201, .iaload, (20, 0, 0, 0), []),
  (202, .ireturn, (0, 0, 0, 0), [])]
def pg_Mo_spill : List AQ := pg_Mo_spill_0 ++ (pg_Mo_spill_1 ++ (pg_Mo_spill_2))
def pg_Mo_boxesIn : List AQ := [(0, .iconst 0, (0, 0, 0, 0), []),
  (1, .istore_n 2, (2, 0, 0, 0), []),
  (2, .iconst 0, (0, 0, 0, 0), []),
  (3, .istore_n 3, (3, 0, 0, 0), []),
  (4, .iload_n 3, (3, 0, 0, 0), []),
  (5, .iconst 5, (0, 0, 0, 0), []),
  (6, .if_icmp .ge 33, (39, 0, 0, 0), []),
  (9, .iload_n 2, (2, 0, 0, 0), []),
  (10, .iload_n 3, (3, 0, 0, 0), []),
  (11, .iload_n 1, (1, 0, 0, 0), []),
  (12, .if_icmp .eq 18, (30, 0, 0, 0), []),
  (15, .aload_n 0, (0, 0, 0, 0), []),
  (16, .iload_n 3, (3, 0, 0, 0), []),
  (17, .iload_n 1, (1, 0, 0, 0), []),
  (18, .invokevirtual 294, (186, 3, 0, 107), []),
  (21, .ifCond .eq 9, (30, 0, 0, 0), []),
  (24, .iconst 1, (0, 0, 0, 0), []),
  (25, .iload_n 3, (3, 0, 0, 0), []),
  (26, .ishl, (0, 0, 0, 0), []),
  (27, .goto 4, (31, 0, 0, 0), []),
  (30, .iconst 0, (0, 0, 0, 0), []),
  (31, .ior, (0, 0, 0, 0), []),
  (32, .istore_n 2, (2, 0, 0, 0), []),
  (33, .iinc 3 1, (0, 0, 0, 0), []),
  (36, .goto (-32), (4, 0, 0, 0), []),
  (39, .iload_n 2, (2, 0, 0, 0), []),
  (40, .ireturn, (0, 0, 0, 0), [])]
def pg_Mo_depth : List AQ := [(0, .iconst 0, (0, 0, 0, 0), []),
  (1, .istore_n 2, (2, 0, 0, 0), []),
  (2, .iconst 0, (0, 0, 0, 0), []),
  (3, .istore_n 3, (3, 0, 0, 0), []),
  (4, .iload_n 3, (3, 0, 0, 0), []),
  (5, .iconst 5, (0, 0, 0, 0), []),
  (6, .if_icmp .ge 61, (67, 0, 0, 0), []),
  (9, .iconst 0, (0, 0, 0, 0), []),
  (10, .istore 4, (0, 0, 0, 0), []),
  (12, .iload_n 3, (3, 0, 0, 0), []),
  (13, .istore 5, (0, 0, 0, 0), []),
  (15, .iload 5, (0, 0, 0, 0), []),
  (17, .iconst (-1), (0, 0, 0, 0), []),
  (18, .if_icmp .eq 24, (42, 0, 0, 0), []),
  (21, .iload 5, (0, 0, 0, 0), []),
  (23, .iload_n 1, (1, 0, 0, 0), []),
  (24, .if_icmp .eq 18, (42, 0, 0, 0), []),
  (27, .aload_n 0, (0, 0, 0, 0), []),
  (28, .getfield 66, (7, 28, 120, 0), []),
  (31, .iload 5, (0, 0, 0, 0), []),
  (33, .iaload, (20, 0, 0, 0), []),
  (34, .istore 5, (0, 0, 0, 0), []),
  (36, .iinc 4 1, (0, 0, 0, 0), []),
  (39, .goto (-24), (15, 0, 0, 0), []),
  (42, .iload 5, (0, 0, 0, 0), []),
  (44, .iload_n 1, (1, 0, 0, 0), []),
  (45, .if_icmp .ne 14, (59, 0, 0, 0), []),
  (48, .iload 4, (0, 0, 0, 0), []),
  (50, .iload_n 2, (2, 0, 0, 0), []),
  (51, .if_icmp .le 8, (59, 0, 0, 0), []),
  (54, .iload 4, (0, 0, 0, 0), []),
  (56, .goto 4, (60, 0, 0, 0), []),
  (59, .iload_n 2, (2, 0, 0, 0), []),
  (60, .istore_n 2, (2, 0, 0, 0), []),
  (61, .iinc 3 1, (0, 0, 0, 0), []),
  (64, .goto (-60), (4, 0, 0, 0), []),
  (67, .iload_n 2, (2, 0, 0, 0), []),
  (68, .ireturn, (0, 0, 0, 0), [])]
def pg_Mo_deep_0 : List AQ := [(0, .iload_n 1, (1, 0, 0, 0), []),
  (1, .invokestatic 288, (183, 1, 0, 0), []),
  (4, .ifCond .ne 6, (10, 0, 0, 0), []),
  (7, .bipush (-2), (0, 0, 0, 0), []),
  (9, .ireturn, (0, 0, 0, 0), []),
  (10, .iload_n 2, (2, 0, 0, 0), []),
  (11, .i2l, (0, 0, 0, 0), []),
  (12, .lconst 0, (0, 0, 0, 0), []),
  (13, .ldc2_w 250, (0, 0, 0, 4), []),
  (16, .invokestatic 84, (123, 3, 0, 0), []),
  (19, .ifCond .ne 6, (25, 0, 0, 0), []),
  (22, .bipush (-3), (0, 0, 0, 0), []),
  (24, .ireturn, (0, 0, 0, 0), []),
  (25, .aload_n 0, (0, 0, 0, 0), []),
  (26, .getfield 54, (7, 24, 120, 0), []),
  (29, .iload_n 1, (1, 0, 0, 0), []),
  (30, .iaload, (20, 0, 0, 0), []),
  (31, .ifCond .ge 6, (37, 0, 0, 0), []),
  (34, .bipush (-11), (0, 0, 0, 0), []),
  (36, .ireturn, (0, 0, 0, 0), []),
  (37, .aload_n 0, (0, 0, 0, 0), []),
  (38, .iload_n 1, (1, 0, 0, 0), []),
  (39, .invokevirtual 311, (192, 2, 0, 107), []),
  (42, .iconst 1, (0, 0, 0, 0), []),
  (43, .iload_n 1, (1, 0, 0, 0), []),
  (44, .ishl, (0, 0, 0, 0), []),
  (45, .ior, (0, 0, 0, 0), []),
  (46, .istore_n 3, (3, 0, 0, 0), []),
  (47, .iconst 0, (0, 0, 0, 0), []),
  (48, .istore 4, (0, 0, 0, 0), []),
  (50, .iconst 0, (0, 0, 0, 0), []),
  (51, .istore 5, (0, 0, 0, 0), []),
  (53, .iconst 0, (0, 0, 0, 0), []),
  (54, .istore 6, (0, 0, 0, 0), []),
  (56, .iconst 0, (0, 0, 0, 0), []),
  (57, .istore 7, (0, 0, 0, 0), []),
  (59, .iload 7, (0, 0, 0, 0), []),
  (61, .bipush 20, (0, 0, 0, 0), []),
  (63, .if_icmp .ge 134, (197, 0, 0, 0), []),
  (66, .iload_n 3, (3, 0, 0, 0), []),
  (67, .iload 7, (0, 0, 0, 0), []),
  (69, .iconst 4, (0, 0, 0, 0), []),
  (70, .idiv, (0, 0, 0, 0), []),
  (71, .ishr, (0, 0, 0, 0), []),
  (72, .iconst 1, (0, 0, 0, 0), []),
  (73, .iand, (0, 0, 0, 0), []),
  (74, .iconst 1, (0, 0, 0, 0), []),
  (75, .if_icmp .ne 23, (98, 0, 0, 0), []),
  (78, .iload 7, (0, 0, 0, 0), []),
  (80, .iconst 4, (0, 0, 0, 0), []),
  (81, .irem, (0, 0, 0, 0), []),
  (82, .aload_n 0, (0, 0, 0, 0), []),
  (83, .getfield 57, (7, 25, 120, 0), []),
  (86, .iload 7, (0, 0, 0, 0), []),
  (88, .iconst 4, (0, 0, 0, 0), []),
  (89, .idiv, (0, 0, 0, 0), []),
  (90, .iaload, (20, 0, 0, 0), []),
  (91, .if_icmp .ge 7, (98, 0, 0, 0), []),
  (94, .iconst 1, (0, 0, 0, 0), []),
  (95, .goto 4, (99, 0, 0, 0), [])]
def pg_Mo_deep_1 : List AQ := [(98, .iconst 0, (0, 0, 0, 0), []),
  (99, .istore 8, (0, 0, 0, 0), []),
  (101, .iload 4, (0, 0, 0, 0), []),
  (103, .iload 8, (0, 0, 0, 0), []),
  (105, .ifCond .eq 17, (122, 0, 0, 0), []),
  (108, .aload_n 0, (0, 0, 0, 0), []),
  (109, .getfield 60, (7, 26, 120, 0), []),
  (112, .iload 7, (0, 0, 0, 0), []),
  (114, .iaload, (20, 0, 0, 0), []),
  (115, .ifCond .ne 7, (122, 0, 0, 0), []),
  (118, .iconst 1, (0, 0, 0, 0), []),
  (119, .goto 4, (123, 0, 0, 0), []),
  (122, .iconst 0, (0, 0, 0, 0), []),
  (123, .iadd, (0, 0, 0, 0), []),
  (124, .istore 4, (0, 0, 0, 0), []),
  (126, .iload 5, (0, 0, 0, 0), []),
  (128, .iload 8, (0, 0, 0, 0), []),
  (130, .ifCond .eq 23, (153, 0, 0, 0), []),
  (133, .aload_n 0, (0, 0, 0, 0), []),
  (134, .getfield 60, (7, 26, 120, 0), []),
  (137, .iload 7, (0, 0, 0, 0), []),
  (139, .iaload, (20, 0, 0, 0), []),
  (140, .ifCond .ne 13, (153, 0, 0, 0), []),
  (143, .aload_n 0, (0, 0, 0, 0), []),
  (144, .getfield 63, (7, 27, 120, 0), []),
  (147, .iload 7, (0, 0, 0, 0), []),
  (149, .iaload, (20, 0, 0, 0), []),
  (150, .goto 4, (154, 0, 0, 0), []),
  (153, .iconst 0, (0, 0, 0, 0), []),
  (154, .iadd, (0, 0, 0, 0), []),
  (155, .istore 5, (0, 0, 0, 0), []),
  (157, .iload 6, (0, 0, 0, 0), []),
  (159, .iload 8, (0, 0, 0, 0), []),
  (161, .ifCond .eq 26, (187, 0, 0, 0), []),
  (164, .aload_n 0, (0, 0, 0, 0), []),
  (165, .getfield 60, (7, 26, 120, 0), []),
  (168, .iload 7, (0, 0, 0, 0), []),
  (170, .iaload, (20, 0, 0, 0), []),
  (171, .iconst 1, (0, 0, 0, 0), []),
  (172, .if_icmp .ne 15, (187, 0, 0, 0), []),
  (175, .iconst 1, (0, 0, 0, 0), []),
  (176, .aload_n 0, (0, 0, 0, 0), []),
  (177, .getfield 63, (7, 27, 120, 0), []),
  (180, .iload 7, (0, 0, 0, 0), []),
  (182, .iaload, (20, 0, 0, 0), []),
  (183, .ishl, (0, 0, 0, 0), []),
  (184, .goto 4, (188, 0, 0, 0), []),
  (187, .iconst 0, (0, 0, 0, 0), []),
  (188, .ior, (0, 0, 0, 0), []),
  (189, .istore 6, (0, 0, 0, 0), []),
  (191, .iinc 7 1, (0, 0, 0, 0), []),
  (194, .goto (-135), (59, 0, 0, 0), []),
  (197, .iload_n 2, (2, 0, 0, 0), []),
  (198, .ifCond .ne 8, (206, 0, 0, 0), []),
  (201, .iload 4, (0, 0, 0, 0), []),
  (203, .goto 45, (248, 0, 0, 0), []),
  (206, .iload_n 2, (2, 0, 0, 0), []),
  (207, .iconst 1, (0, 0, 0, 0), []),
  (208, .if_icmp .ne 12, (220, 0, 0, 0), []),
  (211, .ldc_w 310, (0, 0, 0, 50000), [])]
def pg_Mo_deep_2 : List AQ := [(214, .iload 5, (0, 0, 0, 0), []),
  (216, .iadd, (0, 0, 0, 0), []),
  (217, .goto 31, (248, 0, 0, 0), []),
  (220, .iload_n 2, (2, 0, 0, 0), []),
  (221, .iconst 2, (0, 0, 0, 0), []),
  (222, .if_icmp .ne 8, (230, 0, 0, 0), []),
  (225, .iload 6, (0, 0, 0, 0), []),
  (227, .goto 21, (248, 0, 0, 0), []),
  (230, .iload_n 2, (2, 0, 0, 0), []),
  (231, .iconst 3, (0, 0, 0, 0), []),
  (232, .if_icmp .ne 11, (243, 0, 0, 0), []),
  (235, .aload_n 0, (0, 0, 0, 0), []),
  (236, .iload_n 1, (1, 0, 0, 0), []),
  (237, .invokevirtual 311, (192, 2, 0, 107), []),
  (240, .goto 8, (248, 0, 0, 0), []),
  (243, .aload_n 0, (0, 0, 0, 0), []),
  (244, .iload_n 1, (1, 0, 0, 0), []),
  (245, .invokevirtual 314, (193, 2, 0, 107), []),
  (248, .ireturn, (0, 0, 0, 0), [])]
def pg_Mo_deep : List AQ := pg_Mo_deep_0 ++ (pg_Mo_deep_1 ++ (pg_Mo_deep_2))
def pg_Mo_alike_0 : List AQ := [(0, .iload_n 1, (1, 0, 0, 0), []),
  (1, .invokestatic 288, (183, 1, 0, 0), []),
  (4, .ifCond .eq 10, (14, 0, 0, 0), []),
  (7, .iload_n 2, (2, 0, 0, 0), []),
  (8, .invokestatic 288, (183, 1, 0, 0), []),
  (11, .ifCond .ne 6, (17, 0, 0, 0), []),
  (14, .bipush (-2), (0, 0, 0, 0), []),
  (16, .ireturn, (0, 0, 0, 0), []),
  (17, .aload_n 0, (0, 0, 0, 0), []),
  (18, .getfield 54, (7, 24, 120, 0), []),
  (21, .iload_n 1, (1, 0, 0, 0), []),
  (22, .iaload, (20, 0, 0, 0), []),
  (23, .ifCond .lt 12, (35, 0, 0, 0), []),
  (26, .aload_n 0, (0, 0, 0, 0), []),
  (27, .getfield 54, (7, 24, 120, 0), []),
  (30, .iload_n 2, (2, 0, 0, 0), []),
  (31, .iaload, (20, 0, 0, 0), []),
  (32, .ifCond .ge 6, (38, 0, 0, 0), []),
  (35, .bipush (-11), (0, 0, 0, 0), []),
  (37, .ireturn, (0, 0, 0, 0), []),
  (38, .iconst 1, (0, 0, 0, 0), []),
  (39, .istore_n 3, (3, 0, 0, 0), []),
  (40, .iconst 1, (0, 0, 0, 0), []),
  (41, .istore 4, (0, 0, 0, 0), []),
  (43, .aload_n 0, (0, 0, 0, 0), []),
  (44, .getfield 69, (7, 29, 120, 0), []),
  (47, .iconst 0, (0, 0, 0, 0), []),
  (48, .iload_n 1, (1, 0, 0, 0), []),
  (49, .iastore, (0, 0, 0, 0), []),
  (50, .aload_n 0, (0, 0, 0, 0), []),
  (51, .getfield 72, (7, 30, 120, 0), []),
  (54, .iconst 0, (0, 0, 0, 0), []),
  (55, .iload_n 2, (2, 0, 0, 0), []),
  (56, .iastore, (0, 0, 0, 0), []),
  (57, .iconst 0, (0, 0, 0, 0), []),
  (58, .istore 5, (0, 0, 0, 0), []),
  (60, .iload 5, (0, 0, 0, 0), []),
  (62, .iload_n 3, (3, 0, 0, 0), []),
  (63, .if_icmp .ge 203, (266, 0, 0, 0), []),
  (66, .iload 4, (0, 0, 0, 0), []),
  (68, .ifCond .eq 198, (266, 0, 0, 0), []),
  (71, .aload_n 0, (0, 0, 0, 0), []),
  (72, .getfield 69, (7, 29, 120, 0), []),
  (75, .iload 5, (0, 0, 0, 0), []),
  (77, .iaload, (20, 0, 0, 0), []),
  (78, .istore 6, (0, 0, 0, 0), []),
  (80, .aload_n 0, (0, 0, 0, 0), []),
  (81, .getfield 72, (7, 30, 120, 0), []),
  (84, .iload 5, (0, 0, 0, 0), []),
  (86, .iaload, (20, 0, 0, 0), []),
  (87, .istore 7, (0, 0, 0, 0), []),
  (89, .aload_n 0, (0, 0, 0, 0), []),
  (90, .getfield 57, (7, 25, 120, 0), []),
  (93, .iload 6, (0, 0, 0, 0), []),
  (95, .iaload, (20, 0, 0, 0), []),
  (96, .aload_n 0, (0, 0, 0, 0), []),
  (97, .getfield 57, (7, 25, 120, 0), []),
  (100, .iload 7, (0, 0, 0, 0), []),
  (102, .iaload, (20, 0, 0, 0), []),
  (103, .if_icmp .ne 7, (110, 0, 0, 0), [])]
def pg_Mo_alike_1 : List AQ := [(106, .iconst 1, (0, 0, 0, 0), []),
  (107, .goto 4, (111, 0, 0, 0), []),
  (110, .iconst 0, (0, 0, 0, 0), []),
  (111, .istore 4, (0, 0, 0, 0), []),
  (113, .iconst 0, (0, 0, 0, 0), []),
  (114, .istore 8, (0, 0, 0, 0), []),
  (116, .iload 8, (0, 0, 0, 0), []),
  (118, .aload_n 0, (0, 0, 0, 0), []),
  (119, .getfield 57, (7, 25, 120, 0), []),
  (122, .iload 6, (0, 0, 0, 0), []),
  (124, .iaload, (20, 0, 0, 0), []),
  (125, .if_icmp .ge 135, (260, 0, 0, 0), []),
  (128, .iload 4, (0, 0, 0, 0), []),
  (130, .ifCond .eq 130, (260, 0, 0, 0), []),
  (133, .aload_n 0, (0, 0, 0, 0), []),
  (134, .getfield 60, (7, 26, 120, 0), []),
  (137, .iconst 4, (0, 0, 0, 0), []),
  (138, .iload 6, (0, 0, 0, 0), []),
  (140, .imul, (0, 0, 0, 0), []),
  (141, .iload 8, (0, 0, 0, 0), []),
  (143, .iadd, (0, 0, 0, 0), []),
  (144, .iaload, (20, 0, 0, 0), []),
  (145, .istore 9, (0, 0, 0, 0), []),
  (147, .iload 9, (0, 0, 0, 0), []),
  (149, .aload_n 0, (0, 0, 0, 0), []),
  (150, .getfield 60, (7, 26, 120, 0), []),
  (153, .iconst 4, (0, 0, 0, 0), []),
  (154, .iload 7, (0, 0, 0, 0), []),
  (156, .imul, (0, 0, 0, 0), []),
  (157, .iload 8, (0, 0, 0, 0), []),
  (159, .iadd, (0, 0, 0, 0), []),
  (160, .iaload, (20, 0, 0, 0), []),
  (161, .if_icmp .ne 40, (201, 0, 0, 0), []),
  (164, .iload 9, (0, 0, 0, 0), []),
  (166, .iconst 2, (0, 0, 0, 0), []),
  (167, .if_icmp .eq 30, (197, 0, 0, 0), []),
  (170, .aload_n 0, (0, 0, 0, 0), []),
  (171, .getfield 63, (7, 27, 120, 0), []),
  (174, .iconst 4, (0, 0, 0, 0), []),
  (175, .iload 6, (0, 0, 0, 0), []),
  (177, .imul, (0, 0, 0, 0), []),
  (178, .iload 8, (0, 0, 0, 0), []),
  (180, .iadd, (0, 0, 0, 0), []),
  (181, .iaload, (20, 0, 0, 0), []),
  (182, .aload_n 0, (0, 0, 0, 0), []),
  (183, .getfield 63, (7, 27, 120, 0), []),
  (186, .iconst 4, (0, 0, 0, 0), []),
  (187, .iload 7, (0, 0, 0, 0), []),
  (189, .imul, (0, 0, 0, 0), []),
  (190, .iload 8, (0, 0, 0, 0), []),
  (192, .iadd, (0, 0, 0, 0), []),
  (193, .iaload, (20, 0, 0, 0), []),
  (194, .if_icmp .ne 7, (201, 0, 0, 0), []),
  (197, .iconst 1, (0, 0, 0, 0), []),
  (198, .goto 4, (202, 0, 0, 0), []),
  (201, .iconst 0, (0, 0, 0, 0), []),
  (202, .istore 4, (0, 0, 0, 0), []),
  (204, .iload 4, (0, 0, 0, 0), []),
  (206, .ifCond .eq 48, (254, 0, 0, 0), []),
  (209, .iload 9, (0, 0, 0, 0), [])]
def pg_Mo_alike_2 : List AQ := [(211, .iconst 2, (0, 0, 0, 0), []),
  (212, .if_icmp .ne 42, (254, 0, 0, 0), []),
  (215, .aload_n 0, (0, 0, 0, 0), []),
  (216, .getfield 69, (7, 29, 120, 0), []),
  (219, .iload_n 3, (3, 0, 0, 0), []),
  (220, .aload_n 0, (0, 0, 0, 0), []),
  (221, .getfield 63, (7, 27, 120, 0), []),
  (224, .iconst 4, (0, 0, 0, 0), []),
  (225, .iload 6, (0, 0, 0, 0), []),
  (227, .imul, (0, 0, 0, 0), []),
  (228, .iload 8, (0, 0, 0, 0), []),
  (230, .iadd, (0, 0, 0, 0), []),
  (231, .iaload, (20, 0, 0, 0), []),
  (232, .iastore, (0, 0, 0, 0), []),
  (233, .aload_n 0, (0, 0, 0, 0), []),
  (234, .getfield 72, (7, 30, 120, 0), []),
  (237, .iload_n 3, (3, 0, 0, 0), []),
  (238, .aload_n 0, (0, 0, 0, 0), []),
  (239, .getfield 63, (7, 27, 120, 0), []),
  (242, .iconst 4, (0, 0, 0, 0), []),
  (243, .iload 7, (0, 0, 0, 0), []),
  (245, .imul, (0, 0, 0, 0), []),
  (246, .iload 8, (0, 0, 0, 0), []),
  (248, .iadd, (0, 0, 0, 0), []),
  (249, .iaload, (20, 0, 0, 0), []),
  (250, .iastore, (0, 0, 0, 0), []),
  (251, .iinc 3 1, (0, 0, 0, 0), []),
  (254, .iinc 8 1, (0, 0, 0, 0), []),
  (257, .goto (-141), (116, 0, 0, 0), []),
  (260, .iinc 5 1, (0, 0, 0, 0), []),
  (263, .goto (-203), (60, 0, 0, 0), []),
  (266, .iload 4, (0, 0, 0, 0), []),
  (268, .ifCond .eq 7, (275, 0, 0, 0), []),
  (271, .iconst 1, (0, 0, 0, 0), []),
  (272, .goto 4, (276, 0, 0, 0), []),
  (275, .iconst 0, (0, 0, 0, 0), []),
  (276, .ireturn, (0, 0, 0, 0), [])]
def pg_Mo_alike : List AQ := pg_Mo_alike_0 ++ (pg_Mo_alike_1 ++ (pg_Mo_alike_2))
def pg_Mo_lose : List AQ := [(0, .iload_n 1, (1, 0, 0, 0), []),
  (1, .invokestatic 288, (183, 1, 0, 0), []),
  (4, .ifCond .ne 6, (10, 0, 0, 0), []),
  (7, .bipush (-2), (0, 0, 0, 0), []),
  (9, .ireturn, (0, 0, 0, 0), []),
  (10, .aload_n 0, (0, 0, 0, 0), []),
  (11, .getfield 54, (7, 24, 120, 0), []),
  (14, .iload_n 1, (1, 0, 0, 0), []),
  (15, .iaload, (20, 0, 0, 0), []),
  (16, .ifCond .ge 6, (22, 0, 0, 0), []),
  (19, .bipush (-11), (0, 0, 0, 0), []),
  (21, .ireturn, (0, 0, 0, 0), []),
  (22, .aload_n 0, (0, 0, 0, 0), []),
  (23, .getfield 57, (7, 25, 120, 0), []),
  (26, .iload_n 1, (1, 0, 0, 0), []),
  (27, .iaload, (20, 0, 0, 0), []),
  (28, .istore_n 2, (2, 0, 0, 0), []),
  (29, .aload_n 0, (0, 0, 0, 0), []),
  (30, .iload_n 1, (1, 0, 0, 0), []),
  (31, .invokevirtual 291, (184, 2, 9, 107), []),
  (34, .iload_n 2, (2, 0, 0, 0), []),
  (35, .ireturn, (0, 0, 0, 0), [])]
def pg_Mo_seedsOfAll : List AQ := [(0, .iconst 0, (0, 0, 0, 0), []),
  (1, .istore_n 1, (1, 0, 0, 0), []),
  (2, .iconst 0, (0, 0, 0, 0), []),
  (3, .istore_n 2, (2, 0, 0, 0), []),
  (4, .iload_n 2, (2, 0, 0, 0), []),
  (5, .iconst 2, (0, 0, 0, 0), []),
  (6, .aload_n 0, (0, 0, 0, 0), []),
  (7, .getfield 7, (7, 0, 120, 0), []),
  (10, .iconst 0, (0, 0, 0, 0), []),
  (11, .iaload, (20, 0, 0, 0), []),
  (12, .imul, (0, 0, 0, 0), []),
  (13, .if_icmp .ge 21, (34, 0, 0, 0), []),
  (16, .iload_n 1, (1, 0, 0, 0), []),
  (17, .aload_n 0, (0, 0, 0, 0), []),
  (18, .getfield 7, (7, 0, 120, 0), []),
  (21, .bipush 15, (0, 0, 0, 0), []),
  (23, .iload_n 2, (2, 0, 0, 0), []),
  (24, .iadd, (0, 0, 0, 0), []),
  (25, .iaload, (20, 0, 0, 0), []),
  (26, .iadd, (0, 0, 0, 0), []),
  (27, .istore_n 1, (1, 0, 0, 0), []),
  (28, .iinc 2 1, (0, 0, 0, 0), []),
  (31, .goto (-27), (4, 0, 0, 0), []),
  (34, .iload_n 1, (1, 0, 0, 0), []),
  (35, .ireturn, (0, 0, 0, 0), [])]
def pg_Mo_goers : List AQ := [(0, .iconst 0, (0, 0, 0, 0), []),
  (1, .istore_n 1, (1, 0, 0, 0), []),
  (2, .iconst 0, (0, 0, 0, 0), []),
  (3, .istore_n 2, (2, 0, 0, 0), []),
  (4, .iload_n 2, (2, 0, 0, 0), []),
  (5, .iconst 2, (0, 0, 0, 0), []),
  (6, .aload_n 0, (0, 0, 0, 0), []),
  (7, .getfield 7, (7, 0, 120, 0), []),
  (10, .iconst 0, (0, 0, 0, 0), []),
  (11, .iaload, (20, 0, 0, 0), []),
  (12, .imul, (0, 0, 0, 0), []),
  (13, .if_icmp .ge 27, (40, 0, 0, 0), []),
  (16, .iload_n 1, (1, 0, 0, 0), []),
  (17, .aload_n 0, (0, 0, 0, 0), []),
  (18, .iload_n 2, (2, 0, 0, 0), []),
  (19, .invokevirtual 214, (144, 2, 0, 107), []),
  (22, .ifCond .eq 9, (31, 0, 0, 0), []),
  (25, .iconst 1, (0, 0, 0, 0), []),
  (26, .iload_n 2, (2, 0, 0, 0), []),
  (27, .ishl, (0, 0, 0, 0), []),
  (28, .goto 4, (32, 0, 0, 0), []),
  (31, .iconst 0, (0, 0, 0, 0), []),
  (32, .ior, (0, 0, 0, 0), []),
  (33, .istore_n 1, (1, 0, 0, 0), []),
  (34, .iinc 2 1, (0, 0, 0, 0), []),
  (37, .goto (-33), (4, 0, 0, 0), []),
  (40, .iload_n 1, (1, 0, 0, 0), []),
  (41, .ireturn, (0, 0, 0, 0), [])]
def pg_Mo_boxesThere : List AQ := [(0, .iconst 0, (0, 0, 0, 0), []),
  (1, .istore_n 1, (1, 0, 0, 0), []),
  (2, .iconst 0, (0, 0, 0, 0), []),
  (3, .istore_n 2, (2, 0, 0, 0), []),
  (4, .iload_n 2, (2, 0, 0, 0), []),
  (5, .iconst 5, (0, 0, 0, 0), []),
  (6, .if_icmp .ge 28, (34, 0, 0, 0), []),
  (9, .iload_n 1, (1, 0, 0, 0), []),
  (10, .aload_n 0, (0, 0, 0, 0), []),
  (11, .getfield 54, (7, 24, 120, 0), []),
  (14, .iload_n 2, (2, 0, 0, 0), []),
  (15, .iaload, (20, 0, 0, 0), []),
  (16, .ifCond .ge 7, (23, 0, 0, 0), []),
  (19, .iconst 0, (0, 0, 0, 0), []),
  (20, .goto 6, (26, 0, 0, 0), []),
  (23, .iconst 1, (0, 0, 0, 0), []),
  (24, .iload_n 2, (2, 0, 0, 0), []),
  (25, .ishl, (0, 0, 0, 0), []),
  (26, .ior, (0, 0, 0, 0), []),
  (27, .istore_n 1, (1, 0, 0, 0), []),
  (28, .iinc 2 1, (0, 0, 0, 0), []),
  (31, .goto (-27), (4, 0, 0, 0), []),
  (34, .iload_n 1, (1, 0, 0, 0), []),
  (35, .ireturn, (0, 0, 0, 0), [])]
def pg_Mo_count : List AQ := [(0, .iload_n 1, (1, 0, 0, 0), []),
  (1, .tableswitch 126 0 10 #[59, 68, 75, 82, 89, 96, 101, 106, 111, 116, 121], (127, 0, 0, 0), [(0, 60), (1, 69), (2, 76), (3, 83), (4, 90), (5, 97), (6, 102), (7, 107), (8, 112), (9, 117), (10, 122)]),
  (60, .iconst 2, (0, 0, 0, 0), []),
  (61, .aload_n 0, (0, 0, 0, 0), []),
  (62, .getfield 7, (7, 0, 120, 0), []),
  (65, .iconst 0, (0, 0, 0, 0), []),
  (66, .iaload, (20, 0, 0, 0), []),
  (67, .imul, (0, 0, 0, 0), []),
  (68, .ireturn, (0, 0, 0, 0), []),
  (69, .aload_n 0, (0, 0, 0, 0), []),
  (70, .getfield 7, (7, 0, 120, 0), []),
  (73, .iconst 4, (0, 0, 0, 0), []),
  (74, .iaload, (20, 0, 0, 0), []),
  (75, .ireturn, (0, 0, 0, 0), []),
  (76, .aload_n 0, (0, 0, 0, 0), []),
  (77, .getfield 7, (7, 0, 120, 0), []),
  (80, .iconst 1, (0, 0, 0, 0), []),
  (81, .iaload, (20, 0, 0, 0), []),
  (82, .ireturn, (0, 0, 0, 0), []),
  (83, .aload_n 0, (0, 0, 0, 0), []),
  (84, .getfield 7, (7, 0, 120, 0), []),
  (87, .iconst 2, (0, 0, 0, 0), []),
  (88, .iaload, (20, 0, 0, 0), []),
  (89, .ireturn, (0, 0, 0, 0), []),
  (90, .aload_n 0, (0, 0, 0, 0), []),
  (91, .getfield 7, (7, 0, 120, 0), []),
  (94, .iconst 3, (0, 0, 0, 0), []),
  (95, .iaload, (20, 0, 0, 0), []),
  (96, .ireturn, (0, 0, 0, 0), []),
  (97, .aload_n 0, (0, 0, 0, 0), []),
  (98, .invokevirtual 317, (197, 1, 0, 107), []),
  (101, .ireturn, (0, 0, 0, 0), []),
  (102, .aload_n 0, (0, 0, 0, 0), []),
  (103, .invokevirtual 320, (198, 1, 0, 107), []),
  (106, .ireturn, (0, 0, 0, 0), []),
  (107, .aload_n 0, (0, 0, 0, 0), []),
  (108, .getfield 180, (7, 23, 0, 0), []),
  (111, .ireturn, (0, 0, 0, 0), []),
  (112, .aload_n 0, (0, 0, 0, 0), []),
  (113, .invokevirtual 323, (199, 1, 0, 107), []),
  (116, .ireturn, (0, 0, 0, 0), []),
  (117, .aload_n 0, (0, 0, 0, 0), []),
  (118, .getfield 174, (7, 11, 0, 0), []),
  (121, .ireturn, (0, 0, 0, 0), []),
  (122, .aload_n 0, (0, 0, 0, 0), []),
  (123, .getfield 88, (7, 3, 0, 0), []),
  (126, .ireturn, (0, 0, 0, 0), []),
  (127, .bipush (-3), (0, 0, 0, 0), []),
  (129, .ireturn, (0, 0, 0, 0), [])]
def pg_Jd_bitCount : List AQ := [(0, .iload_n 0, (0, 0, 0, 0), []),
  (1, .iload_n 0, (0, 0, 0, 0), []),
  (2, .iconst 1, (0, 0, 0, 0), []),
  (3, .iushr, (0, 0, 0, 0), []),
  (4, .ldc_w 265, (0, 0, 0, 1431655765), []),
  (7, .iand, (0, 0, 0, 0), []),
  (8, .isub, (0, 0, 0, 0), []),
  (9, .istore_n 0, (0, 0, 0, 0), []),
  (10, .iload_n 0, (0, 0, 0, 0), []),
  (11, .ldc_w 266, (0, 0, 0, 858993459), []),
  (14, .iand, (0, 0, 0, 0), []),
  (15, .iload_n 0, (0, 0, 0, 0), []),
  (16, .iconst 2, (0, 0, 0, 0), []),
  (17, .iushr, (0, 0, 0, 0), []),
  (18, .ldc_w 266, (0, 0, 0, 858993459), []),
  (21, .iand, (0, 0, 0, 0), []),
  (22, .iadd, (0, 0, 0, 0), []),
  (23, .istore_n 0, (0, 0, 0, 0), []),
  (24, .iload_n 0, (0, 0, 0, 0), []),
  (25, .iload_n 0, (0, 0, 0, 0), []),
  (26, .iconst 4, (0, 0, 0, 0), []),
  (27, .iushr, (0, 0, 0, 0), []),
  (28, .iadd, (0, 0, 0, 0), []),
  (29, .ldc_w 267, (0, 0, 0, 252645135), []),
  (32, .iand, (0, 0, 0, 0), []),
  (33, .istore_n 0, (0, 0, 0, 0), []),
  (34, .iload_n 0, (0, 0, 0, 0), []),
  (35, .iload_n 0, (0, 0, 0, 0), []),
  (36, .bipush 8, (0, 0, 0, 0), []),
  (38, .iushr, (0, 0, 0, 0), []),
  (39, .iadd, (0, 0, 0, 0), []),
  (40, .istore_n 0, (0, 0, 0, 0), []),
  (41, .iload_n 0, (0, 0, 0, 0), []),
  (42, .iload_n 0, (0, 0, 0, 0), []),
  (43, .bipush 16, (0, 0, 0, 0), []),
  (45, .iushr, (0, 0, 0, 0), []),
  (46, .iadd, (0, 0, 0, 0), []),
  (47, .istore_n 0, (0, 0, 0, 0), []),
  (48, .iload_n 0, (0, 0, 0, 0), []),
  (49, .bipush 63, (0, 0, 0, 0), []),
  (51, .iand, (0, 0, 0, 0), []),
  (52, .ireturn, (0, 0, 0, 0), [])]
def pg_La_law_0 : List AQ := [(0, .new 7, (6, 0, 0, 0), []),
  (3, .dup, (0, 0, 0, 0), []),
  (4, .invokespecial 9, (90, 1, 9, 106), []),
  (7, .astore_n 1, (1, 0, 0, 0), []),
  (8, .new 10, (7, 0, 0, 0), []),
  (11, .dup, (0, 0, 0, 0), []),
  (12, .invokespecial 12, (124, 1, 9, 107), []),
  (15, .astore_n 2, (2, 0, 0, 0), []),
  (16, .iconst 0, (0, 0, 0, 0), []),
  (17, .istore_n 3, (3, 0, 0, 0), []),
  (18, .iload_n 3, (3, 0, 0, 0), []),
  (19, .aload_n 0, (0, 0, 0, 0), []),
  (20, .arraylength, (0, 0, 0, 0), []),
  (21, .iconst 5, (0, 0, 0, 0), []),
  (22, .isub, (0, 0, 0, 0), []),
  (23, .if_icmp .gt 911, (934, 0, 0, 0), []),
  (26, .aload_n 0, (0, 0, 0, 0), []),
  (27, .iload_n 3, (3, 0, 0, 0), []),
  (28, .iaload, (26, 0, 0, 0), []),
  (29, .bipush 31, (0, 0, 0, 0), []),
  (31, .iand, (0, 0, 0, 0), []),
  (32, .tableswitch 896 0 29 #[136, 159, 172, 185, 198, 231, 264, 287, 320, 353, 366, 389, 412, 435, 468, 491, 504, 527, 560, 613, 626, 639, 652, 685, 728, 761, 784, 817, 850, 873], (928, 0, 0, 0), [(0, 168), (1, 191), (2, 204), (3, 217), (4, 230), (5, 263), (6, 296), (7, 319), (8, 352), (9, 385), (10, 398), (11, 421), (12, 444), (13, 467), (14, 500), (15, 523), (16, 536), (17, 559), (18, 592), (19, 645), (20, 658), (21, 671), (22, 684), (23, 717), (24, 760), (25, 793), (26, 816), (27, 849), (28, 882), (29, 905)]),
  (168, .aload_n 1, (1, 0, 0, 0), []),
  (169, .aload_n 0, (0, 0, 0, 0), []),
  (170, .iload_n 3, (3, 0, 0, 0), []),
  (171, .iconst 1, (0, 0, 0, 0), []),
  (172, .iadd, (0, 0, 0, 0), []),
  (173, .iaload, (26, 0, 0, 0), []),
  (174, .invokevirtual 13, (91, 2, 0, 106), []),
  (177, .aload_n 2, (2, 0, 0, 0), []),
  (178, .aload_n 0, (0, 0, 0, 0), []),
  (179, .iload_n 3, (3, 0, 0, 0), []),
  (180, .iconst 1, (0, 0, 0, 0), []),
  (181, .iadd, (0, 0, 0, 0), []),
  (182, .iaload, (26, 0, 0, 0), []),
  (183, .invokevirtual 17, (126, 2, 0, 107), []),
  (186, .if_icmp .eq 742, (928, 0, 0, 0), []),
  (189, .iconst 0, (0, 0, 0, 0), []),
  (190, .ireturn, (6, 0, 0, 0), []),
  (191, .aload_n 1, (1, 0, 0, 0), []),
  (192, .invokevirtual 18, (92, 1, 0, 106), []),
  (195, .aload_n 2, (2, 0, 0, 0), []),
  (196, .invokevirtual 22, (127, 1, 0, 107), []),
  (199, .if_icmp .eq 729, (928, 0, 0, 0), []),
  (202, .iconst 0, (0, 0, 0, 0), []),
  (203, .ireturn, (6, 0, 0, 0), []),
  (204, .aload_n 1, (1, 0, 0, 0), []),
  (205, .invokevirtual 23, (93, 1, 0, 106), []),
  (208, .aload_n 2, (2, 0, 0, 0), []),
  (209, .invokevirtual 26, (136, 1, 0, 107), []),
  (212, .if_icmp .eq 716, (928, 0, 0, 0), []),
  (215, .iconst 0, (0, 0, 0, 0), []),
  (216, .ireturn, (6, 0, 0, 0), []),
  (217, .aload_n 1, (1, 0, 0, 0), []),
  (218, .invokevirtual 27, (94, 1, 0, 106), []),
  (221, .aload_n 2, (2, 0, 0, 0), []),
  (222, .invokevirtual 30, (137, 1, 0, 107), []),
  (225, .if_icmp .eq 703, (928, 0, 0, 0), []),
  (228, .iconst 0, (0, 0, 0, 0), []),
  (229, .ireturn, (6, 0, 0, 0), [])]
def pg_La_law_1 : List AQ := [(230, .aload_n 1, (1, 0, 0, 0), []),
  (231, .aload_n 0, (0, 0, 0, 0), []),
  (232, .iload_n 3, (3, 0, 0, 0), []),
  (233, .iconst 1, (0, 0, 0, 0), []),
  (234, .iadd, (0, 0, 0, 0), []),
  (235, .iaload, (26, 0, 0, 0), []),
  (236, .aload_n 0, (0, 0, 0, 0), []),
  (237, .iload_n 3, (3, 0, 0, 0), []),
  (238, .iconst 2, (0, 0, 0, 0), []),
  (239, .iadd, (0, 0, 0, 0), []),
  (240, .iaload, (26, 0, 0, 0), []),
  (241, .invokevirtual 31, (95, 3, 0, 106), []),
  (244, .aload_n 2, (2, 0, 0, 0), []),
  (245, .aload_n 0, (0, 0, 0, 0), []),
  (246, .iload_n 3, (3, 0, 0, 0), []),
  (247, .iconst 1, (0, 0, 0, 0), []),
  (248, .iadd, (0, 0, 0, 0), []),
  (249, .iaload, (26, 0, 0, 0), []),
  (250, .aload_n 0, (0, 0, 0, 0), []),
  (251, .iload_n 3, (3, 0, 0, 0), []),
  (252, .iconst 2, (0, 0, 0, 0), []),
  (253, .iadd, (0, 0, 0, 0), []),
  (254, .iaload, (26, 0, 0, 0), []),
  (255, .invokevirtual 35, (145, 3, 0, 107), []),
  (258, .if_icmp .eq 670, (928, 0, 0, 0), []),
  (261, .iconst 0, (0, 0, 0, 0), []),
  (262, .ireturn, (6, 0, 0, 0), []),
  (263, .aload_n 1, (1, 0, 0, 0), []),
  (264, .aload_n 0, (0, 0, 0, 0), []),
  (265, .iload_n 3, (3, 0, 0, 0), []),
  (266, .iconst 1, (0, 0, 0, 0), []),
  (267, .iadd, (0, 0, 0, 0), []),
  (268, .iaload, (26, 0, 0, 0), []),
  (269, .aload_n 0, (0, 0, 0, 0), []),
  (270, .iload_n 3, (3, 0, 0, 0), []),
  (271, .iconst 2, (0, 0, 0, 0), []),
  (272, .iadd, (0, 0, 0, 0), []),
  (273, .iaload, (26, 0, 0, 0), []),
  (274, .invokevirtual 36, (96, 3, 0, 106), []),
  (277, .aload_n 2, (2, 0, 0, 0), []),
  (278, .aload_n 0, (0, 0, 0, 0), []),
  (279, .iload_n 3, (3, 0, 0, 0), []),
  (280, .iconst 1, (0, 0, 0, 0), []),
  (281, .iadd, (0, 0, 0, 0), []),
  (282, .iaload, (26, 0, 0, 0), []),
  (283, .aload_n 0, (0, 0, 0, 0), []),
  (284, .iload_n 3, (3, 0, 0, 0), []),
  (285, .iconst 2, (0, 0, 0, 0), []),
  (286, .iadd, (0, 0, 0, 0), []),
  (287, .iaload, (26, 0, 0, 0), []),
  (288, .invokevirtual 39, (146, 3, 0, 107), []),
  (291, .if_icmp .eq 637, (928, 0, 0, 0), []),
  (294, .iconst 0, (0, 0, 0, 0), []),
  (295, .ireturn, (6, 0, 0, 0), []),
  (296, .aload_n 1, (1, 0, 0, 0), []),
  (297, .aload_n 0, (0, 0, 0, 0), []),
  (298, .iload_n 3, (3, 0, 0, 0), []),
  (299, .iconst 1, (0, 0, 0, 0), []),
  (300, .iadd, (0, 0, 0, 0), []),
  (301, .iaload, (26, 0, 0, 0), [])]
def pg_La_law_2 : List AQ := [(302, .invokevirtual 40, (97, 2, 0, 106), []),
  (305, .aload_n 2, (2, 0, 0, 0), []),
  (306, .aload_n 0, (0, 0, 0, 0), []),
  (307, .iload_n 3, (3, 0, 0, 0), []),
  (308, .iconst 1, (0, 0, 0, 0), []),
  (309, .iadd, (0, 0, 0, 0), []),
  (310, .iaload, (26, 0, 0, 0), []),
  (311, .invokevirtual 43, (152, 2, 0, 107), []),
  (314, .if_icmp .eq 614, (928, 0, 0, 0), []),
  (317, .iconst 0, (0, 0, 0, 0), []),
  (318, .ireturn, (6, 0, 0, 0), []),
  (319, .aload_n 1, (1, 0, 0, 0), []),
  (320, .aload_n 0, (0, 0, 0, 0), []),
  (321, .iload_n 3, (3, 0, 0, 0), []),
  (322, .iconst 1, (0, 0, 0, 0), []),
  (323, .iadd, (0, 0, 0, 0), []),
  (324, .iaload, (26, 0, 0, 0), []),
  (325, .aload_n 0, (0, 0, 0, 0), []),
  (326, .iload_n 3, (3, 0, 0, 0), []),
  (327, .iconst 2, (0, 0, 0, 0), []),
  (328, .iadd, (0, 0, 0, 0), []),
  (329, .iaload, (26, 0, 0, 0), []),
  (330, .invokevirtual 44, (98, 3, 0, 106), []),
  (333, .aload_n 2, (2, 0, 0, 0), []),
  (334, .aload_n 0, (0, 0, 0, 0), []),
  (335, .iload_n 3, (3, 0, 0, 0), []),
  (336, .iconst 1, (0, 0, 0, 0), []),
  (337, .iadd, (0, 0, 0, 0), []),
  (338, .iaload, (26, 0, 0, 0), []),
  (339, .aload_n 0, (0, 0, 0, 0), []),
  (340, .iload_n 3, (3, 0, 0, 0), []),
  (341, .iconst 2, (0, 0, 0, 0), []),
  (342, .iadd, (0, 0, 0, 0), []),
  (343, .iaload, (26, 0, 0, 0), []),
  (344, .invokevirtual 47, (153, 3, 0, 107), []),
  (347, .if_icmp .eq 581, (928, 0, 0, 0), []),
  (350, .iconst 0, (0, 0, 0, 0), []),
  (351, .ireturn, (6, 0, 0, 0), []),
  (352, .aload_n 1, (1, 0, 0, 0), []),
  (353, .aload_n 0, (0, 0, 0, 0), []),
  (354, .iload_n 3, (3, 0, 0, 0), []),
  (355, .iconst 1, (0, 0, 0, 0), []),
  (356, .iadd, (0, 0, 0, 0), []),
  (357, .iaload, (26, 0, 0, 0), []),
  (358, .aload_n 0, (0, 0, 0, 0), []),
  (359, .iload_n 3, (3, 0, 0, 0), []),
  (360, .iconst 2, (0, 0, 0, 0), []),
  (361, .iadd, (0, 0, 0, 0), []),
  (362, .iaload, (26, 0, 0, 0), []),
  (363, .invokevirtual 48, (99, 3, 0, 106), []),
  (366, .aload_n 2, (2, 0, 0, 0), []),
  (367, .aload_n 0, (0, 0, 0, 0), []),
  (368, .iload_n 3, (3, 0, 0, 0), []),
  (369, .iconst 1, (0, 0, 0, 0), []),
  (370, .iadd, (0, 0, 0, 0), []),
  (371, .iaload, (26, 0, 0, 0), []),
  (372, .aload_n 0, (0, 0, 0, 0), []),
  (373, .iload_n 3, (3, 0, 0, 0), []),
  (374, .iconst 2, (0, 0, 0, 0), []),
  (375, .iadd, (0, 0, 0, 0), [])]
def pg_La_law_3 : List AQ := [(376, .iaload, (26, 0, 0, 0), []),
  (377, .invokevirtual 51, (154, 3, 0, 107), []),
  (380, .if_icmp .eq 548, (928, 0, 0, 0), []),
  (383, .iconst 0, (0, 0, 0, 0), []),
  (384, .ireturn, (6, 0, 0, 0), []),
  (385, .aload_n 1, (1, 0, 0, 0), []),
  (386, .invokevirtual 52, (100, 1, 0, 106), []),
  (389, .aload_n 2, (2, 0, 0, 0), []),
  (390, .invokevirtual 55, (155, 1, 0, 107), []),
  (393, .if_icmp .eq 535, (928, 0, 0, 0), []),
  (396, .iconst 0, (0, 0, 0, 0), []),
  (397, .ireturn, (6, 0, 0, 0), []),
  (398, .aload_n 1, (1, 0, 0, 0), []),
  (399, .aload_n 0, (0, 0, 0, 0), []),
  (400, .iload_n 3, (3, 0, 0, 0), []),
  (401, .iconst 1, (0, 0, 0, 0), []),
  (402, .iadd, (0, 0, 0, 0), []),
  (403, .iaload, (26, 0, 0, 0), []),
  (404, .invokevirtual 56, (101, 2, 0, 106), []),
  (407, .aload_n 2, (2, 0, 0, 0), []),
  (408, .aload_n 0, (0, 0, 0, 0), []),
  (409, .iload_n 3, (3, 0, 0, 0), []),
  (410, .iconst 1, (0, 0, 0, 0), []),
  (411, .iadd, (0, 0, 0, 0), []),
  (412, .iaload, (26, 0, 0, 0), []),
  (413, .invokevirtual 59, (156, 2, 0, 107), []),
  (416, .if_icmp .eq 512, (928, 0, 0, 0), []),
  (419, .iconst 0, (0, 0, 0, 0), []),
  (420, .ireturn, (6, 0, 0, 0), []),
  (421, .aload_n 1, (1, 0, 0, 0), []),
  (422, .aload_n 0, (0, 0, 0, 0), []),
  (423, .iload_n 3, (3, 0, 0, 0), []),
  (424, .iconst 1, (0, 0, 0, 0), []),
  (425, .iadd, (0, 0, 0, 0), []),
  (426, .iaload, (26, 0, 0, 0), []),
  (427, .invokevirtual 60, (102, 2, 0, 106), []),
  (430, .aload_n 2, (2, 0, 0, 0), []),
  (431, .aload_n 0, (0, 0, 0, 0), []),
  (432, .iload_n 3, (3, 0, 0, 0), []),
  (433, .iconst 1, (0, 0, 0, 0), []),
  (434, .iadd, (0, 0, 0, 0), []),
  (435, .iaload, (26, 0, 0, 0), []),
  (436, .invokevirtual 63, (157, 2, 0, 107), []),
  (439, .if_icmp .eq 489, (928, 0, 0, 0), []),
  (442, .iconst 0, (0, 0, 0, 0), []),
  (443, .ireturn, (6, 0, 0, 0), []),
  (444, .aload_n 1, (1, 0, 0, 0), []),
  (445, .aload_n 0, (0, 0, 0, 0), []),
  (446, .iload_n 3, (3, 0, 0, 0), []),
  (447, .iconst 1, (0, 0, 0, 0), []),
  (448, .iadd, (0, 0, 0, 0), []),
  (449, .iaload, (26, 0, 0, 0), []),
  (450, .invokevirtual 64, (103, 2, 0, 106), []),
  (453, .aload_n 2, (2, 0, 0, 0), []),
  (454, .aload_n 0, (0, 0, 0, 0), []),
  (455, .iload_n 3, (3, 0, 0, 0), []),
  (456, .iconst 1, (0, 0, 0, 0), []),
  (457, .iadd, (0, 0, 0, 0), []),
  (458, .iaload, (26, 0, 0, 0), []),
  (459, .invokevirtual 67, (162, 2, 0, 107), [])]
def pg_La_law_4 : List AQ := [(462, .if_icmp .eq 466, (928, 0, 0, 0), []),
  (465, .iconst 0, (0, 0, 0, 0), []),
  (466, .ireturn, (6, 0, 0, 0), []),
  (467, .aload_n 1, (1, 0, 0, 0), []),
  (468, .aload_n 0, (0, 0, 0, 0), []),
  (469, .iload_n 3, (3, 0, 0, 0), []),
  (470, .iconst 1, (0, 0, 0, 0), []),
  (471, .iadd, (0, 0, 0, 0), []),
  (472, .iaload, (26, 0, 0, 0), []),
  (473, .aload_n 0, (0, 0, 0, 0), []),
  (474, .iload_n 3, (3, 0, 0, 0), []),
  (475, .iconst 2, (0, 0, 0, 0), []),
  (476, .iadd, (0, 0, 0, 0), []),
  (477, .iaload, (26, 0, 0, 0), []),
  (478, .invokevirtual 68, (104, 3, 0, 106), []),
  (481, .aload_n 2, (2, 0, 0, 0), []),
  (482, .aload_n 0, (0, 0, 0, 0), []),
  (483, .iload_n 3, (3, 0, 0, 0), []),
  (484, .iconst 1, (0, 0, 0, 0), []),
  (485, .iadd, (0, 0, 0, 0), []),
  (486, .iaload, (26, 0, 0, 0), []),
  (487, .aload_n 0, (0, 0, 0, 0), []),
  (488, .iload_n 3, (3, 0, 0, 0), []),
  (489, .iconst 2, (0, 0, 0, 0), []),
  (490, .iadd, (0, 0, 0, 0), []),
  (491, .iaload, (26, 0, 0, 0), []),
  (492, .invokevirtual 71, (168, 3, 0, 107), []),
  (495, .if_icmp .eq 433, (928, 0, 0, 0), []),
  (498, .iconst 0, (0, 0, 0, 0), []),
  (499, .ireturn, (6, 0, 0, 0), []),
  (500, .aload_n 1, (1, 0, 0, 0), []),
  (501, .aload_n 0, (0, 0, 0, 0), []),
  (502, .iload_n 3, (3, 0, 0, 0), []),
  (503, .iconst 1, (0, 0, 0, 0), []),
  (504, .iadd, (0, 0, 0, 0), []),
  (505, .iaload, (26, 0, 0, 0), []),
  (506, .invokevirtual 72, (105, 2, 0, 106), []),
  (509, .aload_n 2, (2, 0, 0, 0), []),
  (510, .aload_n 0, (0, 0, 0, 0), []),
  (511, .iload_n 3, (3, 0, 0, 0), []),
  (512, .iconst 1, (0, 0, 0, 0), []),
  (513, .iadd, (0, 0, 0, 0), []),
  (514, .iaload, (26, 0, 0, 0), []),
  (515, .invokevirtual 75, (171, 2, 0, 107), []),
  (518, .if_icmp .eq 410, (928, 0, 0, 0), []),
  (521, .iconst 0, (0, 0, 0, 0), []),
  (522, .ireturn, (6, 0, 0, 0), []),
  (523, .aload_n 1, (1, 0, 0, 0), []),
  (524, .invokevirtual 76, (106, 1, 0, 106), []),
  (527, .aload_n 2, (2, 0, 0, 0), []),
  (528, .invokevirtual 79, (172, 1, 0, 107), []),
  (531, .if_icmp .eq 397, (928, 0, 0, 0), []),
  (534, .iconst 0, (0, 0, 0, 0), []),
  (535, .ireturn, (6, 0, 0, 0), []),
  (536, .aload_n 1, (1, 0, 0, 0), []),
  (537, .aload_n 0, (0, 0, 0, 0), []),
  (538, .iload_n 3, (3, 0, 0, 0), []),
  (539, .iconst 1, (0, 0, 0, 0), []),
  (540, .iadd, (0, 0, 0, 0), []),
  (541, .iaload, (26, 0, 0, 0), [])]
def pg_La_law_5 : List AQ := [(542, .invokevirtual 80, (107, 2, 0, 106), []),
  (545, .aload_n 2, (2, 0, 0, 0), []),
  (546, .aload_n 0, (0, 0, 0, 0), []),
  (547, .iload_n 3, (3, 0, 0, 0), []),
  (548, .iconst 1, (0, 0, 0, 0), []),
  (549, .iadd, (0, 0, 0, 0), []),
  (550, .iaload, (26, 0, 0, 0), []),
  (551, .invokevirtual 83, (173, 2, 0, 107), []),
  (554, .if_icmp .eq 374, (928, 0, 0, 0), []),
  (557, .iconst 0, (0, 0, 0, 0), []),
  (558, .ireturn, (6, 0, 0, 0), []),
  (559, .aload_n 1, (1, 0, 0, 0), []),
  (560, .aload_n 0, (0, 0, 0, 0), []),
  (561, .iload_n 3, (3, 0, 0, 0), []),
  (562, .iconst 1, (0, 0, 0, 0), []),
  (563, .iadd, (0, 0, 0, 0), []),
  (564, .iaload, (26, 0, 0, 0), []),
  (565, .aload_n 0, (0, 0, 0, 0), []),
  (566, .iload_n 3, (3, 0, 0, 0), []),
  (567, .iconst 2, (0, 0, 0, 0), []),
  (568, .iadd, (0, 0, 0, 0), []),
  (569, .iaload, (26, 0, 0, 0), []),
  (570, .invokevirtual 84, (108, 3, 0, 106), []),
  (573, .aload_n 2, (2, 0, 0, 0), []),
  (574, .aload_n 0, (0, 0, 0, 0), []),
  (575, .iload_n 3, (3, 0, 0, 0), []),
  (576, .iconst 1, (0, 0, 0, 0), []),
  (577, .iadd, (0, 0, 0, 0), []),
  (578, .iaload, (26, 0, 0, 0), []),
  (579, .aload_n 0, (0, 0, 0, 0), []),
  (580, .iload_n 3, (3, 0, 0, 0), []),
  (581, .iconst 2, (0, 0, 0, 0), []),
  (582, .iadd, (0, 0, 0, 0), []),
  (583, .iaload, (26, 0, 0, 0), []),
  (584, .invokevirtual 87, (175, 3, 0, 107), []),
  (587, .if_icmp .eq 341, (928, 0, 0, 0), []),
  (590, .iconst 0, (0, 0, 0, 0), []),
  (591, .ireturn, (6, 0, 0, 0), []),
  (592, .aload_n 1, (1, 0, 0, 0), []),
  (593, .aload_n 0, (0, 0, 0, 0), []),
  (594, .iload_n 3, (3, 0, 0, 0), []),
  (595, .iconst 1, (0, 0, 0, 0), []),
  (596, .iadd, (0, 0, 0, 0), []),
  (597, .iaload, (26, 0, 0, 0), []),
  (598, .aload_n 0, (0, 0, 0, 0), []),
  (599, .iload_n 3, (3, 0, 0, 0), []),
  (600, .iconst 2, (0, 0, 0, 0), []),
  (601, .iadd, (0, 0, 0, 0), []),
  (602, .iaload, (26, 0, 0, 0), []),
  (603, .aload_n 0, (0, 0, 0, 0), []),
  (604, .iload_n 3, (3, 0, 0, 0), []),
  (605, .iconst 3, (0, 0, 0, 0), []),
  (606, .iadd, (0, 0, 0, 0), []),
  (607, .iaload, (26, 0, 0, 0), []),
  (608, .aload_n 0, (0, 0, 0, 0), []),
  (609, .iload_n 3, (3, 0, 0, 0), []),
  (610, .iconst 4, (0, 0, 0, 0), []),
  (611, .iadd, (0, 0, 0, 0), []),
  (612, .iaload, (26, 0, 0, 0), []),
  (613, .invokevirtual 88, (109, 5, 0, 106), [])]
def pg_La_law_6 : List AQ := [(616, .aload_n 2, (2, 0, 0, 0), []),
  (617, .aload_n 0, (0, 0, 0, 0), []),
  (618, .iload_n 3, (3, 0, 0, 0), []),
  (619, .iconst 1, (0, 0, 0, 0), []),
  (620, .iadd, (0, 0, 0, 0), []),
  (621, .iaload, (26, 0, 0, 0), []),
  (622, .aload_n 0, (0, 0, 0, 0), []),
  (623, .iload_n 3, (3, 0, 0, 0), []),
  (624, .iconst 2, (0, 0, 0, 0), []),
  (625, .iadd, (0, 0, 0, 0), []),
  (626, .iaload, (26, 0, 0, 0), []),
  (627, .aload_n 0, (0, 0, 0, 0), []),
  (628, .iload_n 3, (3, 0, 0, 0), []),
  (629, .iconst 3, (0, 0, 0, 0), []),
  (630, .iadd, (0, 0, 0, 0), []),
  (631, .iaload, (26, 0, 0, 0), []),
  (632, .aload_n 0, (0, 0, 0, 0), []),
  (633, .iload_n 3, (3, 0, 0, 0), []),
  (634, .iconst 4, (0, 0, 0, 0), []),
  (635, .iadd, (0, 0, 0, 0), []),
  (636, .iaload, (26, 0, 0, 0), []),
  (637, .invokevirtual 92, (177, 5, 0, 107), []),
  (640, .if_icmp .eq 288, (928, 0, 0, 0), []),
  (643, .iconst 0, (0, 0, 0, 0), []),
  (644, .ireturn, (6, 0, 0, 0), []),
  (645, .aload_n 1, (1, 0, 0, 0), []),
  (646, .invokevirtual 93, (110, 1, 0, 106), []),
  (649, .aload_n 2, (2, 0, 0, 0), []),
  (650, .invokevirtual 96, (178, 1, 0, 107), []),
  (653, .if_icmp .eq 275, (928, 0, 0, 0), []),
  (656, .iconst 0, (0, 0, 0, 0), []),
  (657, .ireturn, (6, 0, 0, 0), []),
  (658, .aload_n 1, (1, 0, 0, 0), []),
  (659, .invokevirtual 97, (111, 1, 0, 106), []),
  (662, .aload_n 2, (2, 0, 0, 0), []),
  (663, .invokevirtual 100, (180, 1, 0, 107), []),
  (666, .if_icmp .eq 262, (928, 0, 0, 0), []),
  (669, .iconst 0, (0, 0, 0, 0), []),
  (670, .ireturn, (6, 0, 0, 0), []),
  (671, .aload_n 1, (1, 0, 0, 0), []),
  (672, .invokevirtual 101, (112, 1, 0, 106), []),
  (675, .aload_n 2, (2, 0, 0, 0), []),
  (676, .invokevirtual 104, (181, 1, 0, 107), []),
  (679, .if_icmp .eq 249, (928, 0, 0, 0), []),
  (682, .iconst 0, (0, 0, 0, 0), []),
  (683, .ireturn, (6, 0, 0, 0), []),
  (684, .aload_n 1, (1, 0, 0, 0), []),
  (685, .aload_n 0, (0, 0, 0, 0), []),
  (686, .iload_n 3, (3, 0, 0, 0), []),
  (687, .iconst 1, (0, 0, 0, 0), []),
  (688, .iadd, (0, 0, 0, 0), []),
  (689, .iaload, (26, 0, 0, 0), []),
  (690, .aload_n 0, (0, 0, 0, 0), []),
  (691, .iload_n 3, (3, 0, 0, 0), []),
  (692, .iconst 2, (0, 0, 0, 0), []),
  (693, .iadd, (0, 0, 0, 0), []),
  (694, .iaload, (26, 0, 0, 0), []),
  (695, .invokevirtual 105, (113, 3, 0, 106), []),
  (698, .aload_n 2, (2, 0, 0, 0), []),
  (699, .aload_n 0, (0, 0, 0, 0), [])]
def pg_La_law_7 : List AQ := [(700, .iload_n 3, (3, 0, 0, 0), []),
  (701, .iconst 1, (0, 0, 0, 0), []),
  (702, .iadd, (0, 0, 0, 0), []),
  (703, .iaload, (26, 0, 0, 0), []),
  (704, .aload_n 0, (0, 0, 0, 0), []),
  (705, .iload_n 3, (3, 0, 0, 0), []),
  (706, .iconst 2, (0, 0, 0, 0), []),
  (707, .iadd, (0, 0, 0, 0), []),
  (708, .iaload, (26, 0, 0, 0), []),
  (709, .invokevirtual 108, (185, 3, 0, 107), []),
  (712, .if_icmp .eq 216, (928, 0, 0, 0), []),
  (715, .iconst 0, (0, 0, 0, 0), []),
  (716, .ireturn, (6, 0, 0, 0), []),
  (717, .aload_n 1, (1, 0, 0, 0), []),
  (718, .aload_n 0, (0, 0, 0, 0), []),
  (719, .iload_n 3, (3, 0, 0, 0), []),
  (720, .iconst 1, (0, 0, 0, 0), []),
  (721, .iadd, (0, 0, 0, 0), []),
  (722, .iaload, (26, 0, 0, 0), []),
  (723, .aload_n 0, (0, 0, 0, 0), []),
  (724, .iload_n 3, (3, 0, 0, 0), []),
  (725, .iconst 2, (0, 0, 0, 0), []),
  (726, .iadd, (0, 0, 0, 0), []),
  (727, .iaload, (26, 0, 0, 0), []),
  (728, .aload_n 0, (0, 0, 0, 0), []),
  (729, .iload_n 3, (3, 0, 0, 0), []),
  (730, .iconst 3, (0, 0, 0, 0), []),
  (731, .iadd, (0, 0, 0, 0), []),
  (732, .iaload, (26, 0, 0, 0), []),
  (733, .invokevirtual 109, (114, 4, 0, 106), []),
  (736, .aload_n 2, (2, 0, 0, 0), []),
  (737, .aload_n 0, (0, 0, 0, 0), []),
  (738, .iload_n 3, (3, 0, 0, 0), []),
  (739, .iconst 1, (0, 0, 0, 0), []),
  (740, .iadd, (0, 0, 0, 0), []),
  (741, .iaload, (26, 0, 0, 0), []),
  (742, .aload_n 0, (0, 0, 0, 0), []),
  (743, .iload_n 3, (3, 0, 0, 0), []),
  (744, .iconst 2, (0, 0, 0, 0), []),
  (745, .iadd, (0, 0, 0, 0), []),
  (746, .iaload, (26, 0, 0, 0), []),
  (747, .aload_n 0, (0, 0, 0, 0), []),
  (748, .iload_n 3, (3, 0, 0, 0), []),
  (749, .iconst 3, (0, 0, 0, 0), []),
  (750, .iadd, (0, 0, 0, 0), []),
  (751, .iaload, (26, 0, 0, 0), []),
  (752, .invokevirtual 113, (188, 4, 0, 107), []),
  (755, .if_icmp .eq 173, (928, 0, 0, 0), []),
  (758, .iconst 0, (0, 0, 0, 0), []),
  (759, .ireturn, (6, 0, 0, 0), []),
  (760, .aload_n 1, (1, 0, 0, 0), []),
  (761, .aload_n 0, (0, 0, 0, 0), []),
  (762, .iload_n 3, (3, 0, 0, 0), []),
  (763, .iconst 1, (0, 0, 0, 0), []),
  (764, .iadd, (0, 0, 0, 0), []),
  (765, .iaload, (26, 0, 0, 0), []),
  (766, .aload_n 0, (0, 0, 0, 0), []),
  (767, .iload_n 3, (3, 0, 0, 0), []),
  (768, .iconst 2, (0, 0, 0, 0), []),
  (769, .iadd, (0, 0, 0, 0), [])]
def pg_La_law_8 : List AQ := [(770, .iaload, (26, 0, 0, 0), []),
  (771, .invokevirtual 114, (115, 3, 0, 106), []),
  (774, .aload_n 2, (2, 0, 0, 0), []),
  (775, .aload_n 0, (0, 0, 0, 0), []),
  (776, .iload_n 3, (3, 0, 0, 0), []),
  (777, .iconst 1, (0, 0, 0, 0), []),
  (778, .iadd, (0, 0, 0, 0), []),
  (779, .iaload, (26, 0, 0, 0), []),
  (780, .aload_n 0, (0, 0, 0, 0), []),
  (781, .iload_n 3, (3, 0, 0, 0), []),
  (782, .iconst 2, (0, 0, 0, 0), []),
  (783, .iadd, (0, 0, 0, 0), []),
  (784, .iaload, (26, 0, 0, 0), []),
  (785, .invokevirtual 117, (190, 3, 0, 107), []),
  (788, .if_icmp .eq 140, (928, 0, 0, 0), []),
  (791, .iconst 0, (0, 0, 0, 0), []),
  (792, .ireturn, (6, 0, 0, 0), []),
  (793, .aload_n 1, (1, 0, 0, 0), []),
  (794, .aload_n 0, (0, 0, 0, 0), []),
  (795, .iload_n 3, (3, 0, 0, 0), []),
  (796, .iconst 1, (0, 0, 0, 0), []),
  (797, .iadd, (0, 0, 0, 0), []),
  (798, .iaload, (26, 0, 0, 0), []),
  (799, .invokevirtual 118, (116, 2, 0, 106), []),
  (802, .aload_n 2, (2, 0, 0, 0), []),
  (803, .aload_n 0, (0, 0, 0, 0), []),
  (804, .iload_n 3, (3, 0, 0, 0), []),
  (805, .iconst 1, (0, 0, 0, 0), []),
  (806, .iadd, (0, 0, 0, 0), []),
  (807, .iaload, (26, 0, 0, 0), []),
  (808, .invokevirtual 121, (191, 2, 0, 107), []),
  (811, .if_icmp .eq 117, (928, 0, 0, 0), []),
  (814, .iconst 0, (0, 0, 0, 0), []),
  (815, .ireturn, (6, 0, 0, 0), []),
  (816, .aload_n 1, (1, 0, 0, 0), []),
  (817, .aload_n 0, (0, 0, 0, 0), []),
  (818, .iload_n 3, (3, 0, 0, 0), []),
  (819, .iconst 1, (0, 0, 0, 0), []),
  (820, .iadd, (0, 0, 0, 0), []),
  (821, .iaload, (26, 0, 0, 0), []),
  (822, .aload_n 0, (0, 0, 0, 0), []),
  (823, .iload_n 3, (3, 0, 0, 0), []),
  (824, .iconst 2, (0, 0, 0, 0), []),
  (825, .iadd, (0, 0, 0, 0), []),
  (826, .iaload, (26, 0, 0, 0), []),
  (827, .invokevirtual 122, (117, 3, 0, 106), []),
  (830, .aload_n 2, (2, 0, 0, 0), []),
  (831, .aload_n 0, (0, 0, 0, 0), []),
  (832, .iload_n 3, (3, 0, 0, 0), []),
  (833, .iconst 1, (0, 0, 0, 0), []),
  (834, .iadd, (0, 0, 0, 0), []),
  (835, .iaload, (26, 0, 0, 0), []),
  (836, .aload_n 0, (0, 0, 0, 0), []),
  (837, .iload_n 3, (3, 0, 0, 0), []),
  (838, .iconst 2, (0, 0, 0, 0), []),
  (839, .iadd, (0, 0, 0, 0), []),
  (840, .iaload, (26, 0, 0, 0), []),
  (841, .invokevirtual 125, (194, 3, 0, 107), []),
  (844, .if_icmp .eq 84, (928, 0, 0, 0), []),
  (847, .iconst 0, (0, 0, 0, 0), [])]
def pg_La_law_9 : List AQ := [(848, .ireturn, (6, 0, 0, 0), []),
  (849, .aload_n 1, (1, 0, 0, 0), []),
  (850, .aload_n 0, (0, 0, 0, 0), []),
  (851, .iload_n 3, (3, 0, 0, 0), []),
  (852, .iconst 1, (0, 0, 0, 0), []),
  (853, .iadd, (0, 0, 0, 0), []),
  (854, .iaload, (26, 0, 0, 0), []),
  (855, .aload_n 0, (0, 0, 0, 0), []),
  (856, .iload_n 3, (3, 0, 0, 0), []),
  (857, .iconst 2, (0, 0, 0, 0), []),
  (858, .iadd, (0, 0, 0, 0), []),
  (859, .iaload, (26, 0, 0, 0), []),
  (860, .invokevirtual 126, (118, 3, 0, 106), []),
  (863, .aload_n 2, (2, 0, 0, 0), []),
  (864, .aload_n 0, (0, 0, 0, 0), []),
  (865, .iload_n 3, (3, 0, 0, 0), []),
  (866, .iconst 1, (0, 0, 0, 0), []),
  (867, .iadd, (0, 0, 0, 0), []),
  (868, .iaload, (26, 0, 0, 0), []),
  (869, .aload_n 0, (0, 0, 0, 0), []),
  (870, .iload_n 3, (3, 0, 0, 0), []),
  (871, .iconst 2, (0, 0, 0, 0), []),
  (872, .iadd, (0, 0, 0, 0), []),
  (873, .iaload, (26, 0, 0, 0), []),
  (874, .invokevirtual 129, (195, 3, 0, 107), []),
  (877, .if_icmp .eq 51, (928, 0, 0, 0), []),
  (880, .iconst 0, (0, 0, 0, 0), []),
  (881, .ireturn, (6, 0, 0, 0), []),
  (882, .aload_n 1, (1, 0, 0, 0), []),
  (883, .aload_n 0, (0, 0, 0, 0), []),
  (884, .iload_n 3, (3, 0, 0, 0), []),
  (885, .iconst 1, (0, 0, 0, 0), []),
  (886, .iadd, (0, 0, 0, 0), []),
  (887, .iaload, (26, 0, 0, 0), []),
  (888, .invokevirtual 130, (119, 2, 0, 106), []),
  (891, .aload_n 2, (2, 0, 0, 0), []),
  (892, .aload_n 0, (0, 0, 0, 0), []),
  (893, .iload_n 3, (3, 0, 0, 0), []),
  (894, .iconst 1, (0, 0, 0, 0), []),
  (895, .iadd, (0, 0, 0, 0), []),
  (896, .iaload, (26, 0, 0, 0), []),
  (897, .invokevirtual 133, (196, 2, 0, 107), []),
  (900, .if_icmp .eq 28, (928, 0, 0, 0), []),
  (903, .iconst 0, (0, 0, 0, 0), []),
  (904, .ireturn, (6, 0, 0, 0), []),
  (905, .aload_n 1, (1, 0, 0, 0), []),
  (906, .aload_n 0, (0, 0, 0, 0), []),
  (907, .iload_n 3, (3, 0, 0, 0), []),
  (908, .iconst 1, (0, 0, 0, 0), []),
  (909, .iadd, (0, 0, 0, 0), []),
  (910, .iaload, (26, 0, 0, 0), []),
  (911, .invokevirtual 134, (120, 2, 0, 106), []),
  (914, .aload_n 2, (2, 0, 0, 0), []),
  (915, .aload_n 0, (0, 0, 0, 0), []),
  (916, .iload_n 3, (3, 0, 0, 0), []),
  (917, .iconst 1, (0, 0, 0, 0), []),
  (918, .iadd, (0, 0, 0, 0), []),
  (919, .iaload, (26, 0, 0, 0), []),
  (920, .invokevirtual 137, (200, 2, 0, 107), []),
  (923, .if_icmp .eq 5, (928, 0, 0, 0), [])]
def pg_La_law_10 : List AQ := [(926, .iconst 0, (0, 0, 0, 0), []),
  (927, .ireturn, (6, 0, 0, 0), []),
  (928, .iinc 3 5, (0, 0, 0, 0), []),
  (931, .goto (-913), (18, 0, 0, 0), []),
  (934, .iconst 1, (0, 0, 0, 0), []),
  (935, .ireturn, (6, 0, 0, 0), [])]
def pg_La_law : List AQ := pg_La_law_0 ++ (pg_La_law_1 ++ (pg_La_law_2 ++ (pg_La_law_3 ++ (pg_La_law_4 ++ (pg_La_law_5 ++ (pg_La_law_6 ++ (pg_La_law_7 ++ (pg_La_law_8 ++ (pg_La_law_9 ++ (pg_La_law_10))))))))))
/-- a method: its rows, its locals -/
def am_ms : List (List AQ × Nat) := [(pg_Bd_init, 1),
  (pg_Bd_setUp, 3),
  (pg_Bd_copy, 2),
  (pg_Bd_houses, 1),
  (pg_Bd_has, 2),
  (pg_Bd_sideOf, 2),
  (pg_Bd_moves, 1),
  (pg_Bd_turn, 1),
  (pg_Bd_barn, 2),
  (pg_Bd_lead, 2),
  (pg_Bd_kind, 2),
  (pg_Bd_seeds, 2),
  (pg_Bd_lifted, 2),
  (pg_Bd_takes, 2),
  (pg_Bd_yields, 2),
  (pg_Bd_goes, 2),
  (pg_Bd_goingBits, 3),
  (pg_Bd_allSeeds, 3),
  (pg_Bd_setKind, 3),
  (pg_Bd_setSeeds, 3),
  (pg_Bd_setBarn, 3),
  (pg_Bd_setTurn, 2),
  (pg_Bd_give, 3),
  (pg_Bd_exchangeKinds, 4),
  (pg_Bd_sow, 5),
  (pg_Bd_spread, 5),
  (pg_Bd_nextTaker, 6),
  (pg_Bd_reap, 4),
  (pg_Bx_init, 1),
  (pg_Bx_push, 3),
  (pg_Bx_hasOnTop, 2),
  (pg_Bx_pullBox, 4),
  (pg_Bx_numbers, 3),
  (pg_Bx_sum, 3),
  (pg_Bx_houseBits, 3),
  (pg_Bs_init, 2),
  (pg_Bs_has, 2),
  (pg_Bs_isThere, 2),
  (pg_Bs_thereBits, 3),
  (pg_Bs_clear, 2),
  (pg_Bs_make, 3),
  (pg_Bs_remove, 5),
  (pg_Bs_lay, 6),
  (pg_Bs_lift, 5),
  (pg_Bs_pour, 6),
  (pg_Bs_throughout, 6),
  (pg_Bs_withInner, 5),
  (pg_Bs_stepsUp, 5),
  (pg_Bs_holdSame, 3),
  (pg_Bs_holdSameFrom, 7),
  (pg_Bs_isSame, 5),
  (pg_Fo_init, 2),
  (pg_Fo_broughtBy, 3),
  (pg_Fo_bestLead, 3),
  (pg_Fo_lineMove, 5),
  (pg_Fo_search, 11),
  (pg_Fo_rashBoard, 5),
  (pg_Fo_rashHouse, 5),
  (pg_Fo_bestGift, 7),
  (pg_Fo_odds, 6),
  (pg_Fo_leading, 10),
  (pg_Fo_commonDivisor, 6),
  (pg_Ki_isUnder, 2),
  (pg_Ki_lifted, 2),
  (pg_Ki_takes, 2),
  (pg_Ki_yields, 2),
  (pg_Si_init, 1),
  (pg_Si_add, 5),
  (pg_Si_clear, 1),
  (pg_Si_size, 1),
  (pg_Si_possible, 3),
  (pg_Si_fits, 4),
  (pg_Si_question, 6),
  (pg_Si_greatestPart, 7),
  (pg_Si_doAlike, 3),
  (pg_Te_init, 1),
  (pg_Te_add, 2),
  (pg_Te_clear, 1),
  (pg_Te_length, 1),
  (pg_Te_clauses, 1),
  (pg_Te_read, 2),
  (pg_Te_readClause, 5),
  (pg_Te_readFirst, 3),
  (pg_Te_readSecond, 2),
  (pg_Te_perform, 4),
  (pg_Te_readNumber, 5),
  (pg_Te_word, 1),
  (pg_Te_isWord, 3),
  (pg_Te_advance, 1),
  (pg_Te_isAt, 4),
  (pg_Ss_init, 2),
  (pg_Ss_write, 2),
  (pg_Ss_erase, 2),
  (pg_Ss_fault, 1),
  (pg_Ss_board, 2),
  (pg_Ss_house, 3),
  (pg_Ss_as, 3),
  (pg_Ss_move, 2),
  (pg_Ss_drop, 3),
  (pg_Ss_swap, 3),
  (pg_Ss_undo, 1),
  (pg_Ss_keep, 2),
  (pg_Ss_back, 2),
  (pg_Ss_brings, 2),
  (pg_Ss_best, 3),
  (pg_Ss_rash, 2),
  (pg_Ss_over, 2),
  (pg_Ss_gift, 2),
  (pg_Ss_luck, 3),
  (pg_Ss_seen, 5),
  (pg_Ss_forget, 2),
  (pg_Ss_kinds, 1),
  (pg_Ss_ask, 1),
  (pg_Ss_box, 3),
  (pg_Ss_put, 7),
  (pg_Ss_take, 3),
  (pg_Ss_spill, 2),
  (pg_Ss_deep, 3),
  (pg_Ss_alike, 3),
  (pg_Ss_lose, 2),
  (pg_Ss_count, 2),
  (pg_Ss_isWithin, 3),
  (pg_Ss_remember, 3),
  (pg_Mo_in, 6),
  (pg_Mo_init, 1),
  (pg_Mo_atFirst, 3),
  (pg_Mo_write, 2),
  (pg_Mo_erase, 2),
  (pg_Mo_letterAt, 2),
  (pg_Mo_word, 12),
  (pg_Mo_said, 6),
  (pg_Mo_looksOn, 2),
  (pg_Mo_must, 2),
  (pg_Mo_number, 4),
  (pg_Mo_reads, 4),
  (pg_Mo_clauses, 3),
  (pg_Mo_fault, 1),
  (pg_Mo_board, 3),
  (pg_Mo_isHouse, 2),
  (pg_Mo_liftsOf, 2),
  (pg_Mo_takesOne, 2),
  (pg_Mo_yieldsAll, 2),
  (pg_Mo_lifts, 2),
  (pg_Mo_sideOf, 2),
  (pg_Mo_canGo, 2),
  (pg_Mo_house, 5),
  (pg_Mo_as, 5),
  (pg_Mo_next, 2),
  (pg_Mo_ahead, 2),
  (pg_Mo_anyTakes, 4),
  (pg_Mo_goes, 7),
  (pg_Mo_notes, 2),
  (pg_Mo_move, 2),
  (pg_Mo_drop, 4),
  (pg_Mo_swap, 5),
  (pg_Mo_undo, 2),
  (pg_Mo_keep, 3),
  (pg_Mo_back, 3),
  (pg_Mo_asides, 2),
  (pg_Mo_backs, 2),
  (pg_Mo_lead, 1),
  (pg_Mo_wouldBring, 4),
  (pg_Mo_brings, 2),
  (pg_Mo_noted, 2),
  (pg_Mo_begins, 3),
  (pg_Mo_laysBack, 3),
  (pg_Mo_ends, 6),
  (pg_Mo_looksAhead, 5),
  (pg_Mo_best, 4),
  (pg_Mo_rashOne, 5),
  (pg_Mo_rashOnes, 4),
  (pg_Mo_rash, 4),
  (pg_Mo_over, 2),
  (pg_Mo_gift, 7),
  (pg_Mo_movesThere, 3),
  (pg_Mo_luck, 12),
  (pg_Mo_part, 11),
  (pg_Mo_seen, 5),
  (pg_Mo_forget, 2),
  (pg_Mo_isOf, 2),
  (pg_Mo_kinds, 5),
  (pg_Mo_ask, 10),
  (pg_Mo_noBoxes, 2),
  (pg_Mo_isBox, 1),
  (pg_Mo_loses, 5),
  (pg_Mo_box, 3),
  (pg_Mo_isWithin, 4),
  (pg_Mo_whyNotPut, 5),
  (pg_Mo_put, 5),
  (pg_Mo_whyNotOut, 3),
  (pg_Mo_take, 5),
  (pg_Mo_spill, 7),
  (pg_Mo_boxesIn, 4),
  (pg_Mo_depth, 6),
  (pg_Mo_deep, 9),
  (pg_Mo_alike, 10),
  (pg_Mo_lose, 3),
  (pg_Mo_seedsOfAll, 3),
  (pg_Mo_goers, 3),
  (pg_Mo_boxesThere, 3),
  (pg_Mo_count, 2),
  (pg_Jd_bitCount, 1),
  (pg_La_law, 4)]
end
section
/-! Names of the claim: classes, fields, methods (taken from claim/NAMES.whole). -/
def RX0 : String := "SownSeeds$Board"
def TX0 : u_T := fun k => match k with
  | 0 => ("SownSeeds$Board", "kind", "[I", true)
  | 1 => ("SownSeeds$Board", "seeds", "[I", true)
  | 2 => ("SownSeeds$Board", "barn", "[I", true)
  | 3 => ("SownSeeds$Board", "width", "I", false)
  | 4 => ("SownSeeds$Board", "turn", "I", false)
  | _ => ("SownSeeds$Board", "moves", "I", false)
def tyX0 : Nat → FieldType := fun k => match k with
  | 0 => .array .int
  | 1 => .array .int
  | 2 => .array .int
  | 3 => .int
  | 4 => .int
  | _ => .int
abbrev wsX00 : List Cond := u_ws RX0 TX0 6
theorem nmX0 : ∀ a, a < 6 → ∀ b, b < 6 → a ≠ b → (TX0 a).2.1 ≠ (TX0 b).2.1 := by decide +kernel
theorem tyX0_ok : ∀ k, k < 6 → parseFieldDescriptor (TX0 k).2.2.1 = some (tyX0 k) := by decide +kernel
abbrev cX0_init : ByteArray := prog_2_method_1_code
def yX0_init : MethodName := ⟨RX0, "<init>", "()V"⟩
abbrev cX0_setUp : ByteArray := prog_2_method_2_code
def yX0_setUp : MethodName := ⟨RX0, "setUp", "(I)V"⟩
abbrev cX0_copy : ByteArray := prog_2_method_3_code
def yX0_copy : MethodName := ⟨RX0, "copy", "(LSownSeeds$Board;)V"⟩
abbrev cX0_houses : ByteArray := prog_2_method_4_code
def yX0_houses : MethodName := ⟨RX0, "houses", "()I"⟩
abbrev cX0_has : ByteArray := prog_2_method_5_code
def yX0_has : MethodName := ⟨RX0, "has", "(I)Z"⟩
abbrev cX0_sideOf : ByteArray := prog_2_method_6_code
def yX0_sideOf : MethodName := ⟨RX0, "sideOf", "(I)I"⟩
abbrev cX0_moves : ByteArray := prog_2_method_7_code
def yX0_moves : MethodName := ⟨RX0, "moves", "()I"⟩
abbrev cX0_turn : ByteArray := prog_2_method_8_code
def yX0_turn : MethodName := ⟨RX0, "turn", "()I"⟩
abbrev cX0_barn : ByteArray := prog_2_method_9_code
def yX0_barn : MethodName := ⟨RX0, "barn", "(I)I"⟩
abbrev cX0_lead : ByteArray := prog_2_method_10_code
def yX0_lead : MethodName := ⟨RX0, "lead", "(I)I"⟩
abbrev cX0_kind : ByteArray := prog_2_method_11_code
def yX0_kind : MethodName := ⟨RX0, "kind", "(I)I"⟩
abbrev cX0_seeds : ByteArray := prog_2_method_12_code
def yX0_seeds : MethodName := ⟨RX0, "seeds", "(I)I"⟩
abbrev cX0_lifted : ByteArray := prog_2_method_13_code
def yX0_lifted : MethodName := ⟨RX0, "lifted", "(I)I"⟩
abbrev cX0_takes : ByteArray := prog_2_method_14_code
def yX0_takes : MethodName := ⟨RX0, "takes", "(I)Z"⟩
abbrev cX0_yields : ByteArray := prog_2_method_15_code
def yX0_yields : MethodName := ⟨RX0, "yields", "(I)Z"⟩
abbrev cX0_goes : ByteArray := prog_2_method_16_code
def yX0_goes : MethodName := ⟨RX0, "goes", "(I)Z"⟩
abbrev cX0_goingBits : ByteArray := prog_2_method_17_code
def yX0_goingBits : MethodName := ⟨RX0, "goingBits", "()I"⟩
abbrev cX0_allSeeds : ByteArray := prog_2_method_18_code
def yX0_allSeeds : MethodName := ⟨RX0, "allSeeds", "()I"⟩
abbrev cX0_setKind : ByteArray := prog_2_method_19_code
def yX0_setKind : MethodName := ⟨RX0, "setKind", "(II)V"⟩
abbrev cX0_setSeeds : ByteArray := prog_2_method_20_code
def yX0_setSeeds : MethodName := ⟨RX0, "setSeeds", "(II)V"⟩
abbrev cX0_setBarn : ByteArray := prog_2_method_21_code
def yX0_setBarn : MethodName := ⟨RX0, "setBarn", "(II)V"⟩
abbrev cX0_setTurn : ByteArray := prog_2_method_22_code
def yX0_setTurn : MethodName := ⟨RX0, "setTurn", "(I)V"⟩
abbrev cX0_give : ByteArray := prog_2_method_23_code
def yX0_give : MethodName := ⟨RX0, "give", "(II)V"⟩
abbrev cX0_exchangeKinds : ByteArray := prog_2_method_24_code
def yX0_exchangeKinds : MethodName := ⟨RX0, "exchangeKinds", "(II)V"⟩
abbrev cX0_sow : ByteArray := prog_2_method_25_code
def yX0_sow : MethodName := ⟨RX0, "sow", "(I)I"⟩
abbrev cX0_spread : ByteArray := prog_2_method_26_code
def yX0_spread : MethodName := ⟨RX0, "spread", "(I)I"⟩
abbrev cX0_nextTaker : ByteArray := prog_2_method_27_code
def yX0_nextTaker : MethodName := ⟨RX0, "nextTaker", "(II)I"⟩
abbrev cX0_reap : ByteArray := prog_2_method_28_code
def yX0_reap : MethodName := ⟨RX0, "reap", "(I)V"⟩
def RX1 : String := "SownSeeds$Box"
def TX1 : u_T := fun k => match k with
  | 0 => ("SownSeeds$Box", "what", "[I", true)
  | 1 => ("SownSeeds$Box", "value", "[I", true)
  | 2 => ("SownSeeds$Box", "room", "I", false)
  | 3 => ("SownSeeds$Box", "size", "I", false)
  | 4 => ("SownSeeds$Box", "isThere", "Z", false)
  | _ => ("SownSeeds$Box", "in", "I", false)
def tyX1 : Nat → FieldType := fun k => match k with
  | 0 => .array .int
  | 1 => .array .int
  | 2 => .int
  | 3 => .int
  | 4 => .boolean
  | _ => .int
abbrev wsX10 : List Cond := u_ws RX1 TX1 6
theorem nmX1 : ∀ a, a < 6 → ∀ b, b < 6 → a ≠ b → (TX1 a).2.1 ≠ (TX1 b).2.1 := by decide +kernel
theorem tyX1_ok : ∀ k, k < 6 → parseFieldDescriptor (TX1 k).2.2.1 = some (tyX1 k) := by decide +kernel
abbrev cX1_init : ByteArray := prog_3_method_1_code
def yX1_init : MethodName := ⟨RX1, "<init>", "()V"⟩
abbrev cX1_push : ByteArray := prog_3_method_2_code
def yX1_push : MethodName := ⟨RX1, "push", "(II)V"⟩
abbrev cX1_hasOnTop : ByteArray := prog_3_method_3_code
def yX1_hasOnTop : MethodName := ⟨RX1, "hasOnTop", "(I)Z"⟩
abbrev cX1_pullBox : ByteArray := prog_3_method_4_code
def yX1_pullBox : MethodName := ⟨RX1, "pullBox", "(I)V"⟩
abbrev cX1_numbers : ByteArray := prog_3_method_5_code
def yX1_numbers : MethodName := ⟨RX1, "numbers", "()I"⟩
abbrev cX1_sum : ByteArray := prog_3_method_6_code
def yX1_sum : MethodName := ⟨RX1, "sum", "()I"⟩
abbrev cX1_houseBits : ByteArray := prog_3_method_7_code
def yX1_houseBits : MethodName := ⟨RX1, "houseBits", "()I"⟩
def RX2 : String := "SownSeeds$Boxes"
def TX2 : u_T := fun k => match k with
  | _ => ("SownSeeds$Boxes", "all", "[LSownSeeds$Box;", true)
def tyX2 : Nat → FieldType := fun k => match k with
  | _ => .array (.object "SownSeeds$Box")
abbrev wsX20 : List Cond := u_ws RX2 TX2 1
theorem nmX2 : ∀ a, a < 1 → ∀ b, b < 1 → a ≠ b → (TX2 a).2.1 ≠ (TX2 b).2.1 := by decide +kernel
theorem tyX2_ok : ∀ k, k < 1 → parseFieldDescriptor (TX2 k).2.2.1 = some (tyX2 k) := by decide +kernel
abbrev cX2_init : ByteArray := prog_4_method_1_code
def yX2_init : MethodName := ⟨RX2, "<init>", "()V"⟩
abbrev cX2_has : ByteArray := prog_4_method_2_code
def yX2_has : MethodName := ⟨RX2, "has", "(I)Z"⟩
abbrev cX2_isThere : ByteArray := prog_4_method_3_code
def yX2_isThere : MethodName := ⟨RX2, "isThere", "(I)Z"⟩
abbrev cX2_thereBits : ByteArray := prog_4_method_4_code
def yX2_thereBits : MethodName := ⟨RX2, "thereBits", "()I"⟩
abbrev cX2_clear : ByteArray := prog_4_method_5_code
def yX2_clear : MethodName := ⟨RX2, "clear", "()V"⟩
abbrev cX2_make : ByteArray := prog_4_method_6_code
def yX2_make : MethodName := ⟨RX2, "make", "(II)V"⟩
abbrev cX2_remove : ByteArray := prog_4_method_7_code
def yX2_remove : MethodName := ⟨RX2, "remove", "(I)I"⟩
abbrev cX2_lay : ByteArray := prog_4_method_8_code
def yX2_lay : MethodName := ⟨RX2, "lay", "(III)I"⟩
abbrev cX2_lift : ByteArray := prog_4_method_9_code
def yX2_lift : MethodName := ⟨RX2, "lift", "(II)I"⟩
abbrev cX2_pour : ByteArray := prog_4_method_10_code
def yX2_pour : MethodName := ⟨RX2, "pour", "(I)I"⟩
abbrev cX2_throughout : ByteArray := prog_4_method_11_code
def yX2_throughout : MethodName := ⟨RX2, "throughout", "(II)I"⟩
abbrev cX2_withInner : ByteArray := prog_4_method_12_code
def yX2_withInner : MethodName := ⟨RX2, "withInner", "(IIII)I"⟩
abbrev cX2_stepsUp : ByteArray := prog_4_method_13_code
def yX2_stepsUp : MethodName := ⟨RX2, "stepsUp", "(II)I"⟩
abbrev cX2_holdSame : ByteArray := prog_4_method_14_code
def yX2_holdSame : MethodName := ⟨RX2, "holdSame", "(II)Z"⟩
abbrev cX2_holdSameFrom : ByteArray := prog_4_method_15_code
def yX2_holdSameFrom : MethodName := ⟨RX2, "holdSameFrom", "(III)Z"⟩
abbrev cX2_isSame : ByteArray := prog_4_method_16_code
def yX2_isSame : MethodName := ⟨RX2, "isSame", "(IIII)Z"⟩
def RX3 : String := "SownSeeds$Foresight"
def TX3 : u_T := fun k => match k with
  | 0 => ("SownSeeds$Foresight", "behind", "[LSownSeeds$Board;", true)
  | _ => ("SownSeeds$Foresight", "chosen", "I", false)
def tyX3 : Nat → FieldType := fun k => match k with
  | 0 => .array (.object "SownSeeds$Board")
  | _ => .int
abbrev wsX30 : List Cond := u_ws RX3 TX3 2
theorem nmX3 : ∀ a, a < 2 → ∀ b, b < 2 → a ≠ b → (TX3 a).2.1 ≠ (TX3 b).2.1 := by decide +kernel
theorem tyX3_ok : ∀ k, k < 2 → parseFieldDescriptor (TX3 k).2.2.1 = some (tyX3 k) := by decide +kernel
abbrev cX3_init : ByteArray := prog_5_method_1_code
def yX3_init : MethodName := ⟨RX3, "<init>", "()V"⟩
abbrev cX3_broughtBy : ByteArray := prog_5_method_2_code
def yX3_broughtBy : MethodName := ⟨RX3, "broughtBy", "(LSownSeeds$Board;I)I"⟩
abbrev cX3_bestLead : ByteArray := prog_5_method_3_code
def yX3_bestLead : MethodName := ⟨RX3, "bestLead", "(LSownSeeds$Board;I)I"⟩
abbrev cX3_lineMove : ByteArray := prog_5_method_4_code
def yX3_lineMove : MethodName := ⟨RX3, "lineMove", "(LSownSeeds$Board;II)I"⟩
abbrev cX3_search : ByteArray := prog_5_method_5_code
def yX3_search : MethodName := ⟨RX3, "search", "(IIII)I"⟩
abbrev cX3_rashBoard : ByteArray := prog_5_method_6_code
def yX3_rashBoard : MethodName := ⟨RX3, "rashBoard", "(LSownSeeds$Board;I)LSownSeeds$Board;"⟩
abbrev cX3_rashHouse : ByteArray := prog_5_method_7_code
def yX3_rashHouse : MethodName := ⟨RX3, "rashHouse", "()I"⟩
abbrev cX3_bestGift : ByteArray := prog_5_method_8_code
def yX3_bestGift : MethodName := ⟨RX3, "bestGift", "(LSownSeeds$Board;I)I"⟩
abbrev cX3_odds : ByteArray := prog_5_method_9_code
def yX3_odds : MethodName := ⟨RX3, "odds", "(LSownSeeds$Board;II)I"⟩
abbrev cX3_leading : ByteArray := prog_5_method_10_code
def yX3_leading : MethodName := ⟨RX3, "leading", "(IIII)I"⟩
abbrev cX3_commonDivisor : ByteArray := prog_5_method_11_code
def yX3_commonDivisor : MethodName := ⟨RX3, "commonDivisor", "(II)I"⟩
def RX4 : String := "SownSeeds$Kind"
def TX4 : u_T := fun k => match k with
  | _ => ("", "", "", false)
def tyX4 : Nat → FieldType := fun k => match k with
  | _ => .int
abbrev wsX40 : List Cond := u_ws RX4 TX4 0
theorem nmX4 : ∀ a, a < 0 → ∀ b, b < 0 → a ≠ b → (TX4 a).2.1 ≠ (TX4 b).2.1 := by decide +kernel
theorem tyX4_ok : ∀ k, k < 0 → parseFieldDescriptor (TX4 k).2.2.1 = some (tyX4 k) := by decide +kernel
abbrev cX4_isUnder : ByteArray := prog_6_method_2_code
def yX4_isUnder : MethodName := ⟨RX4, "isUnder", "(II)Z"⟩
abbrev cX4_lifted : ByteArray := prog_6_method_3_code
def yX4_lifted : MethodName := ⟨RX4, "lifted", "(II)I"⟩
abbrev cX4_takes : ByteArray := prog_6_method_4_code
def yX4_takes : MethodName := ⟨RX4, "takes", "(II)Z"⟩
abbrev cX4_yields : ByteArray := prog_6_method_5_code
def yX4_yields : MethodName := ⟨RX4, "yields", "(II)Z"⟩
def RX5 : String := "SownSeeds$Sightings"
def TX5 : u_T := fun k => match k with
  | 0 => ("SownSeeds$Sightings", "seeds", "[I", true)
  | 1 => ("SownSeeds$Sightings", "lifted", "[I", true)
  | 2 => ("SownSeeds$Sightings", "takes", "[Z", true)
  | 3 => ("SownSeeds$Sightings", "yields", "[Z", true)
  | _ => ("SownSeeds$Sightings", "size", "I", false)
def tyX5 : Nat → FieldType := fun k => match k with
  | 0 => .array .int
  | 1 => .array .int
  | 2 => .array .boolean
  | 3 => .array .boolean
  | _ => .int
abbrev wsX50 : List Cond := u_ws RX5 TX5 5
theorem nmX5 : ∀ a, a < 5 → ∀ b, b < 5 → a ≠ b → (TX5 a).2.1 ≠ (TX5 b).2.1 := by decide +kernel
theorem tyX5_ok : ∀ k, k < 5 → parseFieldDescriptor (TX5 k).2.2.1 = some (tyX5 k) := by decide +kernel
abbrev cX5_init : ByteArray := prog_7_method_1_code
def yX5_init : MethodName := ⟨RX5, "<init>", "()V"⟩
abbrev cX5_add : ByteArray := prog_7_method_2_code
def yX5_add : MethodName := ⟨RX5, "add", "(IIZZ)Z"⟩
abbrev cX5_clear : ByteArray := prog_7_method_3_code
def yX5_clear : MethodName := ⟨RX5, "clear", "()V"⟩
abbrev cX5_size : ByteArray := prog_7_method_4_code
def yX5_size : MethodName := ⟨RX5, "size", "()I"⟩
abbrev cX5_possible : ByteArray := prog_7_method_5_code
def yX5_possible : MethodName := ⟨RX5, "possible", "()I"⟩
abbrev cX5_fits : ByteArray := prog_7_method_6_code
def yX5_fits : MethodName := ⟨RX5, "fits", "(I)Z"⟩
abbrev cX5_question : ByteArray := prog_7_method_7_code
def yX5_question : MethodName := ⟨RX5, "question", "()I"⟩
abbrev cX5_greatestPart : ByteArray := prog_7_method_8_code
def yX5_greatestPart : MethodName := ⟨RX5, "greatestPart", "(II)I"⟩
abbrev cX5_doAlike : ByteArray := prog_7_method_9_code
def yX5_doAlike : MethodName := ⟨RX5, "doAlike", "(III)Z"⟩
def RX6 : String := "SownSeeds$Text"
def TX6 : u_T := fun k => match k with
  | 0 => ("SownSeeds$Text", "letters", "[C", true)
  | 1 => ("SownSeeds$Text", "length", "I", false)
  | 2 => ("SownSeeds$Text", "clauses", "I", false)
  | 3 => ("SownSeeds$Text", "start", "I", false)
  | _ => ("SownSeeds$Text", "end", "I", false)
def tyX6 : Nat → FieldType := fun k => match k with
  | 0 => .array .char
  | 1 => .int
  | 2 => .int
  | 3 => .int
  | _ => .int
abbrev wsX60 : List Cond := u_ws RX6 TX6 5
theorem nmX6 : ∀ a, a < 5 → ∀ b, b < 5 → a ≠ b → (TX6 a).2.1 ≠ (TX6 b).2.1 := by decide +kernel
theorem tyX6_ok : ∀ k, k < 5 → parseFieldDescriptor (TX6 k).2.2.1 = some (tyX6 k) := by decide +kernel
abbrev cX6_init : ByteArray := prog_8_method_1_code
def yX6_init : MethodName := ⟨RX6, "<init>", "()V"⟩
abbrev cX6_add : ByteArray := prog_8_method_2_code
def yX6_add : MethodName := ⟨RX6, "add", "(I)Z"⟩
abbrev cX6_clear : ByteArray := prog_8_method_3_code
def yX6_clear : MethodName := ⟨RX6, "clear", "()V"⟩
abbrev cX6_length : ByteArray := prog_8_method_4_code
def yX6_length : MethodName := ⟨RX6, "length", "()I"⟩
abbrev cX6_clauses : ByteArray := prog_8_method_5_code
def yX6_clauses : MethodName := ⟨RX6, "clauses", "()I"⟩
abbrev cX6_read : ByteArray := prog_8_method_6_code
def yX6_read : MethodName := ⟨RX6, "read", "(LSownSeeds$Board;)I"⟩
abbrev cX6_readClause : ByteArray := prog_8_method_7_code
def yX6_readClause : MethodName := ⟨RX6, "readClause", "(LSownSeeds$Board;)Z"⟩
abbrev cX6_readFirst : ByteArray := prog_8_method_8_code
def yX6_readFirst : MethodName := ⟨RX6, "readFirst", "(II)I"⟩
abbrev cX6_readSecond : ByteArray := prog_8_method_9_code
def yX6_readSecond : MethodName := ⟨RX6, "readSecond", "(I)I"⟩
abbrev cX6_perform : ByteArray := prog_8_method_10_code
def yX6_perform : MethodName := ⟨RX6, "perform", "(LSownSeeds$Board;III)V"⟩
abbrev cX6_readNumber : ByteArray := prog_8_method_11_code
def yX6_readNumber : MethodName := ⟨RX6, "readNumber", "(II)I"⟩
abbrev cX6_word : ByteArray := prog_8_method_12_code
def yX6_word : MethodName := ⟨RX6, "word", "()I"⟩
abbrev cX6_isWord : ByteArray := prog_8_method_13_code
def yX6_isWord : MethodName := ⟨RX6, "isWord", "(Ljava/lang/String;)Z"⟩
abbrev cX6_advance : ByteArray := prog_8_method_14_code
def yX6_advance : MethodName := ⟨RX6, "advance", "()V"⟩
abbrev cX6_isAt : ByteArray := prog_8_method_15_code
def yX6_isAt : MethodName := ⟨RX6, "isAt", "(ICC)Z"⟩
def RX7 : String := "SownSeeds"
def TX7 : u_T := fun k => match k with
  | 0 => ("SownSeeds", "told", "LSownSeeds$Board;", true)
  | 1 => ("SownSeeds", "draft", "LSownSeeds$Board;", true)
  | 2 => ("SownSeeds", "now", "LSownSeeds$Board;", true)
  | 3 => ("SownSeeds", "past", "[LSownSeeds$Board;", true)
  | 4 => ("SownSeeds", "kept", "[LSownSeeds$Board;", true)
  | 5 => ("SownSeeds", "isKept", "[Z", true)
  | 6 => ("SownSeeds", "text", "LSownSeeds$Text;", true)
  | 7 => ("SownSeeds", "foresight", "LSownSeeds$Foresight;", true)
  | 8 => ("SownSeeds", "sightings", "LSownSeeds$Sightings;", true)
  | 9 => ("SownSeeds", "boxes", "LSownSeeds$Boxes;", true)
  | _ => ("SownSeeds", "undoable", "I", false)
def tyX7 : Nat → FieldType := fun k => match k with
  | 0 => .object "SownSeeds$Board"
  | 1 => .object "SownSeeds$Board"
  | 2 => .object "SownSeeds$Board"
  | 3 => .array (.object "SownSeeds$Board")
  | 4 => .array (.object "SownSeeds$Board")
  | 5 => .array .boolean
  | 6 => .object "SownSeeds$Text"
  | 7 => .object "SownSeeds$Foresight"
  | 8 => .object "SownSeeds$Sightings"
  | 9 => .object "SownSeeds$Boxes"
  | _ => .int
abbrev wsX70 : List Cond := u_ws RX7 TX7 11
theorem nmX7 : ∀ a, a < 11 → ∀ b, b < 11 → a ≠ b → (TX7 a).2.1 ≠ (TX7 b).2.1 := by decide +kernel
theorem tyX7_ok : ∀ k, k < 11 → parseFieldDescriptor (TX7 k).2.2.1 = some (tyX7 k) := by decide +kernel
abbrev cX7_init : ByteArray := prog_1_method_1_code
def yX7_init : MethodName := ⟨RX7, "<init>", "()V"⟩
abbrev cX7_write : ByteArray := prog_1_method_2_code
def yX7_write : MethodName := ⟨RX7, "write", "(I)I"⟩
abbrev cX7_erase : ByteArray := prog_1_method_3_code
def yX7_erase : MethodName := ⟨RX7, "erase", "()I"⟩
abbrev cX7_fault : ByteArray := prog_1_method_4_code
def yX7_fault : MethodName := ⟨RX7, "fault", "()I"⟩
abbrev cX7_board : ByteArray := prog_1_method_5_code
def yX7_board : MethodName := ⟨RX7, "board", "()I"⟩
abbrev cX7_house : ByteArray := prog_1_method_6_code
def yX7_house : MethodName := ⟨RX7, "house", "(II)I"⟩
abbrev cX7_as : ByteArray := prog_1_method_7_code
def yX7_as : MethodName := ⟨RX7, "as", "(II)I"⟩
abbrev cX7_move : ByteArray := prog_1_method_8_code
def yX7_move : MethodName := ⟨RX7, "move", "(I)I"⟩
abbrev cX7_drop : ByteArray := prog_1_method_9_code
def yX7_drop : MethodName := ⟨RX7, "drop", "(II)I"⟩
abbrev cX7_swap : ByteArray := prog_1_method_10_code
def yX7_swap : MethodName := ⟨RX7, "swap", "(II)I"⟩
abbrev cX7_undo : ByteArray := prog_1_method_11_code
def yX7_undo : MethodName := ⟨RX7, "undo", "()I"⟩
abbrev cX7_keep : ByteArray := prog_1_method_12_code
def yX7_keep : MethodName := ⟨RX7, "keep", "(I)I"⟩
abbrev cX7_back : ByteArray := prog_1_method_13_code
def yX7_back : MethodName := ⟨RX7, "back", "(I)I"⟩
abbrev cX7_brings : ByteArray := prog_1_method_14_code
def yX7_brings : MethodName := ⟨RX7, "brings", "(I)I"⟩
abbrev cX7_best : ByteArray := prog_1_method_15_code
def yX7_best : MethodName := ⟨RX7, "best", "(II)I"⟩
abbrev cX7_rash : ByteArray := prog_1_method_16_code
def yX7_rash : MethodName := ⟨RX7, "rash", "(I)I"⟩
abbrev cX7_over : ByteArray := prog_1_method_17_code
def yX7_over : MethodName := ⟨RX7, "over", "()I"⟩
abbrev cX7_gift : ByteArray := prog_1_method_18_code
def yX7_gift : MethodName := ⟨RX7, "gift", "(I)I"⟩
abbrev cX7_luck : ByteArray := prog_1_method_19_code
def yX7_luck : MethodName := ⟨RX7, "luck", "(II)I"⟩
abbrev cX7_seen : ByteArray := prog_1_method_20_code
def yX7_seen : MethodName := ⟨RX7, "seen", "(IIII)I"⟩
abbrev cX7_forget : ByteArray := prog_1_method_21_code
def yX7_forget : MethodName := ⟨RX7, "forget", "()I"⟩
abbrev cX7_kinds : ByteArray := prog_1_method_22_code
def yX7_kinds : MethodName := ⟨RX7, "kinds", "()I"⟩
abbrev cX7_ask : ByteArray := prog_1_method_23_code
def yX7_ask : MethodName := ⟨RX7, "ask", "()I"⟩
abbrev cX7_box : ByteArray := prog_1_method_24_code
def yX7_box : MethodName := ⟨RX7, "box", "(II)I"⟩
abbrev cX7_put : ByteArray := prog_1_method_25_code
def yX7_put : MethodName := ⟨RX7, "put", "(III)I"⟩
abbrev cX7_take : ByteArray := prog_1_method_26_code
def yX7_take : MethodName := ⟨RX7, "take", "(II)I"⟩
abbrev cX7_spill : ByteArray := prog_1_method_27_code
def yX7_spill : MethodName := ⟨RX7, "spill", "(I)I"⟩
abbrev cX7_deep : ByteArray := prog_1_method_28_code
def yX7_deep : MethodName := ⟨RX7, "deep", "(II)I"⟩
abbrev cX7_alike : ByteArray := prog_1_method_29_code
def yX7_alike : MethodName := ⟨RX7, "alike", "(II)I"⟩
abbrev cX7_lose : ByteArray := prog_1_method_30_code
def yX7_lose : MethodName := ⟨RX7, "lose", "(I)I"⟩
abbrev cX7_count : ByteArray := prog_1_method_31_code
def yX7_count : MethodName := ⟨RX7, "count", "(I)I"⟩
abbrev cX7_isWithin : ByteArray := prog_1_method_32_code
def yX7_isWithin : MethodName := ⟨RX7, "isWithin", "(III)Z"⟩
abbrev cX7_remember : ByteArray := prog_1_method_33_code
def yX7_remember : MethodName := ⟨RX7, "remember", "()V"⟩
def RX8 : String := "SownSeedsModel"
def TX8 : u_T := fun k => match k with
  | 0 => ("SownSeedsModel", "now", "[I", true)
  | 1 => ("SownSeedsModel", "told", "[I", true)
  | 2 => ("SownSeedsModel", "text", "[I", true)
  | 3 => ("SownSeedsModel", "letters", "I", false)
  | 4 => ("SownSeedsModel", "place", "I", false)
  | 5 => ("SownSeedsModel", "begin", "I", false)
  | 6 => ("SownSeedsModel", "token", "I", false)
  | 7 => ("SownSeedsModel", "value", "I", false)
  | 8 => ("SownSeedsModel", "broken", "I", false)
  | 9 => ("SownSeedsModel", "read", "[I", true)
  | 10 => ("SownSeedsModel", "rows", "[I", true)
  | 11 => ("SownSeedsModel", "undos", "I", false)
  | 12 => ("SownSeedsModel", "kept", "[I", true)
  | 13 => ("SownSeedsModel", "keptOnes", "I", false)
  | 14 => ("SownSeedsModel", "aside", "[I", true)
  | 15 => ("SownSeedsModel", "rowsAt", "[I", true)
  | 16 => ("SownSeedsModel", "houses", "[I", true)
  | 17 => ("SownSeedsModel", "leads", "[I", true)
  | 18 => ("SownSeedsModel", "isLed", "[Z", true)
  | 19 => ("SownSeedsModel", "lines", "[I", true)
  | 20 => ("SownSeedsModel", "latest", "I", false)
  | 21 => ("SownSeedsModel", "weights", "[J", true)
  | 22 => ("SownSeedsModel", "seenOnes", "[I", true)
  | 23 => ("SownSeedsModel", "many", "I", false)
  | 24 => ("SownSeedsModel", "rooms", "[I", true)
  | 25 => ("SownSeedsModel", "holds", "[I", true)
  | 26 => ("SownSeedsModel", "whats", "[I", true)
  | 27 => ("SownSeedsModel", "things", "[I", true)
  | 28 => ("SownSeedsModel", "lies", "[I", true)
  | 29 => ("SownSeedsModel", "ones", "[I", true)
  | _ => ("SownSeedsModel", "others", "[I", true)
def tyX8 : Nat → FieldType := fun k => match k with
  | 0 => .array .int
  | 1 => .array .int
  | 2 => .array .int
  | 3 => .int
  | 4 => .int
  | 5 => .int
  | 6 => .int
  | 7 => .int
  | 8 => .int
  | 9 => .array .int
  | 10 => .array .int
  | 11 => .int
  | 12 => .array .int
  | 13 => .int
  | 14 => .array .int
  | 15 => .array .int
  | 16 => .array .int
  | 17 => .array .int
  | 18 => .array .boolean
  | 19 => .array .int
  | 20 => .int
  | 21 => .array .long
  | 22 => .array .int
  | 23 => .int
  | 24 => .array .int
  | 25 => .array .int
  | 26 => .array .int
  | 27 => .array .int
  | 28 => .array .int
  | 29 => .array .int
  | _ => .array .int
abbrev wsX80 : List Cond := u_ws RX8 TX8 31
theorem nmX8 : ∀ a, a < 31 → ∀ b, b < 31 → a ≠ b → (TX8 a).2.1 ≠ (TX8 b).2.1 := by decide +kernel
theorem tyX8_ok : ∀ k, k < 31 → parseFieldDescriptor (TX8 k).2.2.1 = some (tyX8 k) := by decide +kernel
abbrev cX8_in : ByteArray := prog_10_method_2_code
def yX8_in : MethodName := ⟨RX8, "in", "(JJJ)Z"⟩
abbrev cX8_init : ByteArray := prog_10_method_3_code
def yX8_init : MethodName := ⟨RX8, "<init>", "()V"⟩
abbrev cX8_atFirst : ByteArray := prog_10_method_4_code
def yX8_atFirst : MethodName := ⟨RX8, "atFirst", "([II)V"⟩
abbrev cX8_write : ByteArray := prog_10_method_5_code
def yX8_write : MethodName := ⟨RX8, "write", "(I)I"⟩
abbrev cX8_erase : ByteArray := prog_10_method_6_code
def yX8_erase : MethodName := ⟨RX8, "erase", "()I"⟩
abbrev cX8_letterAt : ByteArray := prog_10_method_7_code
def yX8_letterAt : MethodName := ⟨RX8, "letterAt", "(I)I"⟩
abbrev cX8_word : ByteArray := prog_10_method_8_code
def yX8_word : MethodName := ⟨RX8, "word", "(JJJJJJ)J"⟩
abbrev cX8_said : ByteArray := prog_10_method_9_code
def yX8_said : MethodName := ⟨RX8, "said", "(II)I"⟩
abbrev cX8_looksOn : ByteArray := prog_10_method_10_code
def yX8_looksOn : MethodName := ⟨RX8, "looksOn", "()V"⟩
abbrev cX8_must : ByteArray := prog_10_method_11_code
def yX8_must : MethodName := ⟨RX8, "must", "(Z)V"⟩
abbrev cX8_number : ByteArray := prog_10_method_12_code
def yX8_number : MethodName := ⟨RX8, "number", "(II)I"⟩
abbrev cX8_reads : ByteArray := prog_10_method_13_code
def yX8_reads : MethodName := ⟨RX8, "reads", "()V"⟩
abbrev cX8_clauses : ByteArray := prog_10_method_14_code
def yX8_clauses : MethodName := ⟨RX8, "clauses", "()I"⟩
abbrev cX8_fault : ByteArray := prog_10_method_15_code
def yX8_fault : MethodName := ⟨RX8, "fault", "()I"⟩
abbrev cX8_board : ByteArray := prog_10_method_16_code
def yX8_board : MethodName := ⟨RX8, "board", "()I"⟩
abbrev cX8_isHouse : ByteArray := prog_10_method_17_code
def yX8_isHouse : MethodName := ⟨RX8, "isHouse", "(I)Z"⟩
abbrev cX8_liftsOf : ByteArray := prog_10_method_18_code
def yX8_liftsOf : MethodName := ⟨RX8, "liftsOf", "(II)I"⟩
abbrev cX8_takesOne : ByteArray := prog_10_method_19_code
def yX8_takesOne : MethodName := ⟨RX8, "takesOne", "(II)Z"⟩
abbrev cX8_yieldsAll : ByteArray := prog_10_method_20_code
def yX8_yieldsAll : MethodName := ⟨RX8, "yieldsAll", "(II)Z"⟩
abbrev cX8_lifts : ByteArray := prog_10_method_21_code
def yX8_lifts : MethodName := ⟨RX8, "lifts", "(I)I"⟩
abbrev cX8_sideOf : ByteArray := prog_10_method_22_code
def yX8_sideOf : MethodName := ⟨RX8, "sideOf", "(I)I"⟩
abbrev cX8_canGo : ByteArray := prog_10_method_23_code
def yX8_canGo : MethodName := ⟨RX8, "canGo", "(I)Z"⟩
abbrev cX8_house : ByteArray := prog_10_method_24_code
def yX8_house : MethodName := ⟨RX8, "house", "(II)I"⟩
abbrev cX8_as : ByteArray := prog_10_method_25_code
def yX8_as : MethodName := ⟨RX8, "as", "(II)I"⟩
abbrev cX8_next : ByteArray := prog_10_method_26_code
def yX8_next : MethodName := ⟨RX8, "next", "(I)I"⟩
abbrev cX8_ahead : ByteArray := prog_10_method_27_code
def yX8_ahead : MethodName := ⟨RX8, "ahead", "(I)I"⟩
abbrev cX8_anyTakes : ByteArray := prog_10_method_28_code
def yX8_anyTakes : MethodName := ⟨RX8, "anyTakes", "(I)Z"⟩
abbrev cX8_goes : ByteArray := prog_10_method_29_code
def yX8_goes : MethodName := ⟨RX8, "goes", "(I)I"⟩
abbrev cX8_notes : ByteArray := prog_10_method_30_code
def yX8_notes : MethodName := ⟨RX8, "notes", "()V"⟩
abbrev cX8_move : ByteArray := prog_10_method_31_code
def yX8_move : MethodName := ⟨RX8, "move", "(I)I"⟩
abbrev cX8_drop : ByteArray := prog_10_method_32_code
def yX8_drop : MethodName := ⟨RX8, "drop", "(II)I"⟩
abbrev cX8_swap : ByteArray := prog_10_method_33_code
def yX8_swap : MethodName := ⟨RX8, "swap", "(II)I"⟩
abbrev cX8_undo : ByteArray := prog_10_method_34_code
def yX8_undo : MethodName := ⟨RX8, "undo", "()I"⟩
abbrev cX8_keep : ByteArray := prog_10_method_35_code
def yX8_keep : MethodName := ⟨RX8, "keep", "(I)I"⟩
abbrev cX8_back : ByteArray := prog_10_method_36_code
def yX8_back : MethodName := ⟨RX8, "back", "(I)I"⟩
abbrev cX8_asides : ByteArray := prog_10_method_37_code
def yX8_asides : MethodName := ⟨RX8, "asides", "()V"⟩
abbrev cX8_backs : ByteArray := prog_10_method_38_code
def yX8_backs : MethodName := ⟨RX8, "backs", "()V"⟩
abbrev cX8_lead : ByteArray := prog_10_method_39_code
def yX8_lead : MethodName := ⟨RX8, "lead", "()I"⟩
abbrev cX8_wouldBring : ByteArray := prog_10_method_40_code
def yX8_wouldBring : MethodName := ⟨RX8, "wouldBring", "(I)I"⟩
abbrev cX8_brings : ByteArray := prog_10_method_41_code
def yX8_brings : MethodName := ⟨RX8, "brings", "(I)I"⟩
abbrev cX8_noted : ByteArray := prog_10_method_42_code
def yX8_noted : MethodName := ⟨RX8, "noted", "(I)V"⟩
abbrev cX8_begins : ByteArray := prog_10_method_43_code
def yX8_begins : MethodName := ⟨RX8, "begins", "(I)V"⟩
abbrev cX8_laysBack : ByteArray := prog_10_method_44_code
def yX8_laysBack : MethodName := ⟨RX8, "laysBack", "(I)V"⟩
abbrev cX8_ends : ByteArray := prog_10_method_45_code
def yX8_ends : MethodName := ⟨RX8, "ends", "(II)V"⟩
abbrev cX8_looksAhead : ByteArray := prog_10_method_46_code
def yX8_looksAhead : MethodName := ⟨RX8, "looksAhead", "(I)I"⟩
abbrev cX8_best : ByteArray := prog_10_method_47_code
def yX8_best : MethodName := ⟨RX8, "best", "(II)I"⟩
abbrev cX8_rashOne : ByteArray := prog_10_method_48_code
def yX8_rashOne : MethodName := ⟨RX8, "rashOne", "()I"⟩
abbrev cX8_rashOnes : ByteArray := prog_10_method_49_code
def yX8_rashOnes : MethodName := ⟨RX8, "rashOnes", "(I)I"⟩
abbrev cX8_rash : ByteArray := prog_10_method_50_code
def yX8_rash : MethodName := ⟨RX8, "rash", "(I)I"⟩
abbrev cX8_over : ByteArray := prog_10_method_51_code
def yX8_over : MethodName := ⟨RX8, "over", "()I"⟩
abbrev cX8_gift : ByteArray := prog_10_method_52_code
def yX8_gift : MethodName := ⟨RX8, "gift", "(I)I"⟩
abbrev cX8_movesThere : ByteArray := prog_10_method_53_code
def yX8_movesThere : MethodName := ⟨RX8, "movesThere", "()I"⟩
abbrev cX8_luck : ByteArray := prog_10_method_54_code
def yX8_luck : MethodName := ⟨RX8, "luck", "(II)I"⟩
abbrev cX8_part : ByteArray := prog_10_method_55_code
def yX8_part : MethodName := ⟨RX8, "part", "(JJI)I"⟩
abbrev cX8_seen : ByteArray := prog_10_method_56_code
def yX8_seen : MethodName := ⟨RX8, "seen", "(IIII)I"⟩
abbrev cX8_forget : ByteArray := prog_10_method_57_code
def yX8_forget : MethodName := ⟨RX8, "forget", "()I"⟩
abbrev cX8_isOf : ByteArray := prog_10_method_58_code
def yX8_isOf : MethodName := ⟨RX8, "isOf", "(II)I"⟩
abbrev cX8_kinds : ByteArray := prog_10_method_59_code
def yX8_kinds : MethodName := ⟨RX8, "kinds", "()I"⟩
abbrev cX8_ask : ByteArray := prog_10_method_60_code
def yX8_ask : MethodName := ⟨RX8, "ask", "()I"⟩
abbrev cX8_noBoxes : ByteArray := prog_10_method_61_code
def yX8_noBoxes : MethodName := ⟨RX8, "noBoxes", "()V"⟩
abbrev cX8_isBox : ByteArray := prog_10_method_62_code
def yX8_isBox : MethodName := ⟨RX8, "isBox", "(I)Z"⟩
abbrev cX8_loses : ByteArray := prog_10_method_63_code
def yX8_loses : MethodName := ⟨RX8, "loses", "(I)V"⟩
abbrev cX8_box : ByteArray := prog_10_method_64_code
def yX8_box : MethodName := ⟨RX8, "box", "(II)I"⟩
abbrev cX8_isWithin : ByteArray := prog_10_method_65_code
def yX8_isWithin : MethodName := ⟨RX8, "isWithin", "(II)Z"⟩
abbrev cX8_whyNotPut : ByteArray := prog_10_method_66_code
def yX8_whyNotPut : MethodName := ⟨RX8, "whyNotPut", "(III)I"⟩
abbrev cX8_put : ByteArray := prog_10_method_67_code
def yX8_put : MethodName := ⟨RX8, "put", "(III)I"⟩
abbrev cX8_whyNotOut : ByteArray := prog_10_method_68_code
def yX8_whyNotOut : MethodName := ⟨RX8, "whyNotOut", "(II)I"⟩
abbrev cX8_take : ByteArray := prog_10_method_69_code
def yX8_take : MethodName := ⟨RX8, "take", "(II)I"⟩
abbrev cX8_spill : ByteArray := prog_10_method_70_code
def yX8_spill : MethodName := ⟨RX8, "spill", "(I)I"⟩
abbrev cX8_boxesIn : ByteArray := prog_10_method_71_code
def yX8_boxesIn : MethodName := ⟨RX8, "boxesIn", "(I)I"⟩
abbrev cX8_depth : ByteArray := prog_10_method_72_code
def yX8_depth : MethodName := ⟨RX8, "depth", "(I)I"⟩
abbrev cX8_deep : ByteArray := prog_10_method_73_code
def yX8_deep : MethodName := ⟨RX8, "deep", "(II)I"⟩
abbrev cX8_alike : ByteArray := prog_10_method_74_code
def yX8_alike : MethodName := ⟨RX8, "alike", "(II)I"⟩
abbrev cX8_lose : ByteArray := prog_10_method_75_code
def yX8_lose : MethodName := ⟨RX8, "lose", "(I)I"⟩
abbrev cX8_seedsOfAll : ByteArray := prog_10_method_76_code
def yX8_seedsOfAll : MethodName := ⟨RX8, "seedsOfAll", "()I"⟩
abbrev cX8_goers : ByteArray := prog_10_method_77_code
def yX8_goers : MethodName := ⟨RX8, "goers", "()I"⟩
abbrev cX8_boxesThere : ByteArray := prog_10_method_78_code
def yX8_boxesThere : MethodName := ⟨RX8, "boxesThere", "()I"⟩
abbrev cX8_count : ByteArray := prog_10_method_79_code
def yX8_count : MethodName := ⟨RX8, "count", "(I)I"⟩
def RJ6 : String := "java/lang/Integer"
def TJ6 : u_T := fun k => match k with
  | _ => ("", "", "", false)
def tyJ6 : Nat → FieldType := fun k => match k with
  | _ => .int
theorem nmJ6 : ∀ a, a < 0 → ∀ b, b < 0 → a ≠ b → (TJ6 a).2.1 ≠ (TJ6 b).2.1 := by decide +kernel
theorem tyJ6_ok : ∀ k, k < 0 → parseFieldDescriptor (TJ6 k).2.2.1 = some (tyJ6 k) := by decide +kernel
abbrev cJ6_bitCount_0f7a4 : ByteArray := prog_11_method_49_code
def yJ6_bitCount_0f7a4 : MethodName := ⟨RJ6, "bitCount", "(I)I"⟩
def RJ9 : String := "java/lang/Math"
def TJ9 : u_T := fun k => match k with
  | _ => ("", "", "", false)
def tyJ9 : Nat → FieldType := fun k => match k with
  | _ => .int
theorem nmJ9 : ∀ a, a < 0 → ∀ b, b < 0 → a ≠ b → (TJ9 a).2.1 ≠ (TJ9 b).2.1 := by decide +kernel
theorem tyJ9_ok : ∀ k, k < 0 → parseFieldDescriptor (TJ9 k).2.2.1 = some (tyJ9 k) := by decide +kernel
abbrev cJ9_max_7cf53 : ByteArray := prog_12_method_65_code
def yJ9_max_7cf53 : MethodName := ⟨RJ9, "max", "(II)I"⟩
abbrev cJ9_min_7cf53 : ByteArray := prog_12_method_69_code
def yJ9_min_7cf53 : MethodName := ⟨RJ9, "min", "(II)I"⟩
def RJ0 : String := "java/lang/String"
def TJ0 : u_T := fun k => match k with
  | _ => ("", "", "", false)
def tyJ0 : Nat → FieldType := fun k => match k with
  | _ => .int
theorem nmJ0 : ∀ a, a < 0 → ∀ b, b < 0 → a ≠ b → (TJ0 a).2.1 ≠ (TJ0 b).2.1 := by decide +kernel
theorem tyJ0_ok : ∀ k, k < 0 → parseFieldDescriptor (TJ0 k).2.2.1 = some (tyJ0 k) := by decide +kernel
abbrev cJ0_length_8abf5 : ByteArray := prog_13_method_54_code
def yJ0_length_8abf5 : MethodName := ⟨RJ0, "length", "()I"⟩
abbrev cJ0_charAt_5068e : ByteArray := prog_13_method_56_code
def yJ0_charAt_5068e : MethodName := ⟨RJ0, "charAt", "(I)C"⟩
abbrev cJ0_coder_7d493 : ByteArray := prog_13_method_152_code
def yJ0_coder_7d493 : MethodName := ⟨RJ0, "coder", "()B"⟩
abbrev cJ0_isLatin1_aae02 : ByteArray := prog_13_method_154_code
def yJ0_isLatin1_aae02 : MethodName := ⟨RJ0, "isLatin1", "()Z"⟩
abbrev cJ0_checkIndex_df160 : ByteArray := prog_13_method_155_code
def yJ0_checkIndex_df160 : MethodName := ⟨RJ0, "checkIndex", "(II)V"⟩
def RJ1 : String := "java/lang/StringLatin1"
def TJ1 : u_T := fun k => match k with
  | _ => ("", "", "", false)
def tyJ1 : Nat → FieldType := fun k => match k with
  | _ => .int
theorem nmJ1 : ∀ a, a < 0 → ∀ b, b < 0 → a ≠ b → (TJ1 a).2.1 ≠ (TJ1 b).2.1 := by decide +kernel
theorem tyJ1_ok : ∀ k, k < 0 → parseFieldDescriptor (TJ1 k).2.2.1 = some (tyJ1 k) := by decide +kernel
abbrev cJ1_charAt_3b067 : ByteArray := prog_14_method_2_code
def yJ1_charAt_3b067 : MethodName := ⟨RJ1, "charAt", "([BI)C"⟩
def RJ2 : String := "java/lang/StringUTF16"
def TJ2 : u_T := fun k => match k with
  | _ => ("", "", "", false)
def tyJ2 : Nat → FieldType := fun k => match k with
  | _ => .int
theorem nmJ2 : ∀ a, a < 0 → ∀ b, b < 0 → a ≠ b → (TJ2 a).2.1 ≠ (TJ2 b).2.1 := by decide +kernel
theorem tyJ2_ok : ∀ k, k < 0 → parseFieldDescriptor (TJ2 k).2.2.1 = some (tyJ2 k) := by decide +kernel
abbrev cJ2_getChar_3b067 : ByteArray := prog_15_method_5_code
def yJ2_getChar_3b067 : MethodName := ⟨RJ2, "getChar", "([BI)C"⟩
abbrev cJ2_length_9d52b : ByteArray := prog_15_method_6_code
def yJ2_length_9d52b : MethodName := ⟨RJ2, "length", "([B)I"⟩
abbrev cJ2_charAt_3b067 : ByteArray := prog_15_method_83_code
def yJ2_charAt_3b067 : MethodName := ⟨RJ2, "charAt", "([BI)C"⟩
abbrev cJ2_checkIndex_2214a : ByteArray := prog_15_method_91_code
def yJ2_checkIndex_2214a : MethodName := ⟨RJ2, "checkIndex", "(I[B)V"⟩
def RJ10 : String := "java/lang/System"
def TJ10 : u_T := fun k => match k with
  | _ => ("", "", "", false)
def tyJ10 : Nat → FieldType := fun k => match k with
  | _ => .int
theorem nmJ10 : ∀ a, a < 0 → ∀ b, b < 0 → a ≠ b → (TJ10 a).2.1 ≠ (TJ10 b).2.1 := by decide +kernel
theorem tyJ10_ok : ∀ k, k < 0 → parseFieldDescriptor (TJ10 k).2.2.1 = some (tyJ10 k) := by decide +kernel
def RJ3 : String := "jdk/internal/util/Preconditions"
def TJ3 : u_T := fun k => match k with
  | _ => ("", "", "", false)
def tyJ3 : Nat → FieldType := fun k => match k with
  | _ => .int
theorem nmJ3 : ∀ a, a < 0 → ∀ b, b < 0 → a ≠ b → (TJ3 a).2.1 ≠ (TJ3 b).2.1 := by decide +kernel
theorem tyJ3_ok : ∀ k, k < 0 → parseFieldDescriptor (TJ3 k).2.2.1 = some (tyJ3 k) := by decide +kernel
abbrev cJ3_checkIndex_8e157 : ByteArray := prog_17_method_11_code
def yJ3_checkIndex_8e157 : MethodName := ⟨RJ3, "checkIndex", "(IILjava/util/function/BiFunction;)I"⟩
def RL : String := "SownSeedsLaw"
abbrev cL_law : ByteArray := code
def yL_law : MethodName := ⟨RL, "law", "([I)Z"⟩
end
section
/-! The methods' names, code, kinds; the links of each pool: printed by program (wip/tools/mkchk.py). -/
/-- name, code, locals, answer, its tag, kind (0 static, 1 virtual, 2 a constructor), parameters, the tag of its class, its class's number -/
abbrev MI : Type := MethodName × ByteArray × Nat × Option FieldType × Nat × Nat × Nat × Nat × Nat
def am_inf_0 : List MI := [(yX0_init, cX0_init, 1, none, 9, 2, 0, 0, 0),
  (yX0_setUp, cX0_setUp, 3, none, 9, 1, 1, 0, 0),
  (yX0_copy, cX0_copy, 2, none, 9, 1, 1, 0, 0),
  (yX0_houses, cX0_houses, 1, (some .int), 0, 1, 0, 0, 0),
  (yX0_has, cX0_has, 2, (some .boolean), 0, 1, 1, 0, 0),
  (yX0_sideOf, cX0_sideOf, 2, (some .int), 0, 1, 1, 0, 0),
  (yX0_moves, cX0_moves, 1, (some .int), 0, 1, 0, 0, 0),
  (yX0_turn, cX0_turn, 1, (some .int), 0, 1, 0, 0, 0),
  (yX0_barn, cX0_barn, 2, (some .int), 0, 1, 1, 0, 0),
  (yX0_lead, cX0_lead, 2, (some .int), 0, 1, 1, 0, 0),
  (yX0_kind, cX0_kind, 2, (some .int), 0, 1, 1, 0, 0),
  (yX0_seeds, cX0_seeds, 2, (some .int), 0, 1, 1, 0, 0),
  (yX0_lifted, cX0_lifted, 2, (some .int), 0, 1, 1, 0, 0),
  (yX0_takes, cX0_takes, 2, (some .boolean), 0, 1, 1, 0, 0),
  (yX0_yields, cX0_yields, 2, (some .boolean), 0, 1, 1, 0, 0),
  (yX0_goes, cX0_goes, 2, (some .boolean), 0, 1, 1, 0, 0),
  (yX0_goingBits, cX0_goingBits, 3, (some .int), 0, 1, 0, 0, 0),
  (yX0_allSeeds, cX0_allSeeds, 3, (some .int), 0, 1, 0, 0, 0),
  (yX0_setKind, cX0_setKind, 3, none, 9, 1, 2, 0, 0),
  (yX0_setSeeds, cX0_setSeeds, 3, none, 9, 1, 2, 0, 0),
  (yX0_setBarn, cX0_setBarn, 3, none, 9, 1, 2, 0, 0),
  (yX0_setTurn, cX0_setTurn, 2, none, 9, 1, 1, 0, 0),
  (yX0_give, cX0_give, 3, none, 9, 1, 2, 0, 0),
  (yX0_exchangeKinds, cX0_exchangeKinds, 4, none, 9, 1, 2, 0, 0),
  (yX0_sow, cX0_sow, 5, (some .int), 0, 1, 1, 0, 0),
  (yX0_spread, cX0_spread, 5, (some .int), 0, 1, 1, 0, 0),
  (yX0_nextTaker, cX0_nextTaker, 6, (some .int), 0, 1, 2, 0, 0),
  (yX0_reap, cX0_reap, 4, none, 9, 1, 1, 0, 0),
  (yX1_init, cX1_init, 1, none, 9, 2, 0, 1, 1),
  (yX1_push, cX1_push, 3, none, 9, 1, 2, 1, 1)]
def am_inf_1 : List MI := [(yX1_hasOnTop, cX1_hasOnTop, 2, (some .boolean), 0, 1, 1, 1, 1),
  (yX1_pullBox, cX1_pullBox, 4, none, 9, 1, 1, 1, 1),
  (yX1_numbers, cX1_numbers, 3, (some .int), 0, 1, 0, 1, 1),
  (yX1_sum, cX1_sum, 3, (some .int), 0, 1, 0, 1, 1),
  (yX1_houseBits, cX1_houseBits, 3, (some .int), 0, 1, 0, 1, 1),
  (yX2_init, cX2_init, 2, none, 9, 2, 0, 2, 2),
  (yX2_has, cX2_has, 2, (some .boolean), 0, 1, 1, 2, 2),
  (yX2_isThere, cX2_isThere, 2, (some .boolean), 0, 1, 1, 2, 2),
  (yX2_thereBits, cX2_thereBits, 3, (some .int), 0, 1, 0, 2, 2),
  (yX2_clear, cX2_clear, 2, none, 9, 1, 0, 2, 2),
  (yX2_make, cX2_make, 3, none, 9, 1, 2, 2, 2),
  (yX2_remove, cX2_remove, 5, (some .int), 0, 1, 1, 2, 2),
  (yX2_lay, cX2_lay, 6, (some .int), 0, 1, 3, 2, 2),
  (yX2_lift, cX2_lift, 5, (some .int), 0, 1, 2, 2, 2),
  (yX2_pour, cX2_pour, 6, (some .int), 0, 1, 1, 2, 2),
  (yX2_throughout, cX2_throughout, 6, (some .int), 0, 1, 2, 2, 2),
  (yX2_withInner, cX2_withInner, 5, (some .int), 0, 1, 4, 2, 2),
  (yX2_stepsUp, cX2_stepsUp, 5, (some .int), 0, 1, 2, 2, 2),
  (yX2_holdSame, cX2_holdSame, 3, (some .boolean), 0, 1, 2, 2, 2),
  (yX2_holdSameFrom, cX2_holdSameFrom, 7, (some .boolean), 0, 1, 3, 2, 2),
  (yX2_isSame, cX2_isSame, 5, (some .boolean), 0, 1, 4, 2, 2),
  (yX3_init, cX3_init, 2, none, 9, 2, 0, 3, 3),
  (yX3_broughtBy, cX3_broughtBy, 3, (some .int), 0, 1, 2, 3, 3),
  (yX3_bestLead, cX3_bestLead, 3, (some .int), 0, 1, 2, 3, 3),
  (yX3_lineMove, cX3_lineMove, 5, (some .int), 0, 1, 3, 3, 3),
  (yX3_search, cX3_search, 11, (some .int), 0, 1, 4, 3, 3),
  (yX3_rashBoard, cX3_rashBoard, 5, (some (.object "SownSeeds$Board")), 100, 1, 2, 3, 3),
  (yX3_rashHouse, cX3_rashHouse, 5, (some .int), 0, 1, 0, 3, 3),
  (yX3_bestGift, cX3_bestGift, 7, (some .int), 0, 1, 2, 3, 3),
  (yX3_odds, cX3_odds, 6, (some .int), 0, 1, 3, 3, 3)]
def am_inf_2 : List MI := [(yX3_leading, cX3_leading, 10, (some .int), 0, 1, 4, 3, 3),
  (yX3_commonDivisor, cX3_commonDivisor, 6, (some .int), 0, 0, 2, 3, 3),
  (yX4_isUnder, cX4_isUnder, 2, (some .boolean), 0, 0, 2, 8, 8),
  (yX4_lifted, cX4_lifted, 2, (some .int), 0, 0, 2, 8, 8),
  (yX4_takes, cX4_takes, 2, (some .boolean), 0, 0, 2, 8, 8),
  (yX4_yields, cX4_yields, 2, (some .boolean), 0, 0, 2, 8, 8),
  (yX5_init, cX5_init, 1, none, 9, 2, 0, 4, 4),
  (yX5_add, cX5_add, 5, (some .boolean), 0, 1, 4, 4, 4),
  (yX5_clear, cX5_clear, 1, none, 9, 1, 0, 4, 4),
  (yX5_size, cX5_size, 1, (some .int), 0, 1, 0, 4, 4),
  (yX5_possible, cX5_possible, 3, (some .int), 0, 1, 0, 4, 4),
  (yX5_fits, cX5_fits, 4, (some .boolean), 0, 1, 1, 4, 4),
  (yX5_question, cX5_question, 6, (some .int), 0, 1, 0, 4, 4),
  (yX5_greatestPart, cX5_greatestPart, 7, (some .int), 0, 0, 2, 4, 4),
  (yX5_doAlike, cX5_doAlike, 3, (some .boolean), 0, 0, 3, 4, 4),
  (yX6_init, cX6_init, 1, none, 9, 2, 0, 5, 5),
  (yX6_add, cX6_add, 2, (some .boolean), 0, 1, 1, 5, 5),
  (yX6_clear, cX6_clear, 1, none, 9, 1, 0, 5, 5),
  (yX6_length, cX6_length, 1, (some .int), 0, 1, 0, 5, 5),
  (yX6_clauses, cX6_clauses, 1, (some .int), 0, 1, 0, 5, 5),
  (yX6_read, cX6_read, 2, (some .int), 0, 1, 1, 5, 5),
  (yX6_readClause, cX6_readClause, 5, (some .boolean), 0, 1, 1, 5, 5),
  (yX6_readFirst, cX6_readFirst, 3, (some .int), 0, 1, 2, 5, 5),
  (yX6_readSecond, cX6_readSecond, 2, (some .int), 0, 1, 1, 5, 5),
  (yX6_perform, cX6_perform, 4, none, 9, 0, 4, 5, 5),
  (yX6_readNumber, cX6_readNumber, 5, (some .int), 0, 1, 2, 5, 5),
  (yX6_word, cX6_word, 1, (some .int), 0, 1, 0, 5, 5),
  (yX6_isWord, cX6_isWord, 3, (some .boolean), 0, 1, 1, 5, 5),
  (yX6_advance, cX6_advance, 1, none, 9, 1, 0, 5, 5),
  (yX6_isAt, cX6_isAt, 4, (some .boolean), 0, 1, 3, 5, 5)]
def am_inf_3 : List MI := [(yX7_init, cX7_init, 2, none, 9, 2, 0, 6, 6),
  (yX7_write, cX7_write, 2, (some .int), 0, 1, 1, 6, 6),
  (yX7_erase, cX7_erase, 2, (some .int), 0, 1, 0, 6, 6),
  (yX7_fault, cX7_fault, 1, (some .int), 0, 1, 0, 6, 6),
  (yX7_board, cX7_board, 2, (some .int), 0, 1, 0, 6, 6),
  (yX7_house, cX7_house, 3, (some .int), 0, 1, 2, 6, 6),
  (yX7_as, cX7_as, 3, (some .int), 0, 1, 2, 6, 6),
  (yX7_move, cX7_move, 2, (some .int), 0, 1, 1, 6, 6),
  (yX7_drop, cX7_drop, 3, (some .int), 0, 1, 2, 6, 6),
  (yX7_swap, cX7_swap, 3, (some .int), 0, 1, 2, 6, 6),
  (yX7_undo, cX7_undo, 1, (some .int), 0, 1, 0, 6, 6),
  (yX7_keep, cX7_keep, 2, (some .int), 0, 1, 1, 6, 6),
  (yX7_back, cX7_back, 2, (some .int), 0, 1, 1, 6, 6),
  (yX7_brings, cX7_brings, 2, (some .int), 0, 1, 1, 6, 6),
  (yX7_best, cX7_best, 3, (some .int), 0, 1, 2, 6, 6),
  (yX7_rash, cX7_rash, 2, (some .int), 0, 1, 1, 6, 6),
  (yX7_over, cX7_over, 2, (some .int), 0, 1, 0, 6, 6),
  (yX7_gift, cX7_gift, 2, (some .int), 0, 1, 1, 6, 6),
  (yX7_luck, cX7_luck, 3, (some .int), 0, 1, 2, 6, 6),
  (yX7_seen, cX7_seen, 5, (some .int), 0, 1, 4, 6, 6),
  (yX7_forget, cX7_forget, 2, (some .int), 0, 1, 0, 6, 6),
  (yX7_kinds, cX7_kinds, 1, (some .int), 0, 1, 0, 6, 6),
  (yX7_ask, cX7_ask, 1, (some .int), 0, 1, 0, 6, 6),
  (yX7_box, cX7_box, 3, (some .int), 0, 1, 2, 6, 6),
  (yX7_put, cX7_put, 7, (some .int), 0, 1, 3, 6, 6),
  (yX7_take, cX7_take, 3, (some .int), 0, 1, 2, 6, 6),
  (yX7_spill, cX7_spill, 2, (some .int), 0, 1, 1, 6, 6),
  (yX7_deep, cX7_deep, 3, (some .int), 0, 1, 2, 6, 6),
  (yX7_alike, cX7_alike, 3, (some .int), 0, 1, 2, 6, 6),
  (yX7_lose, cX7_lose, 2, (some .int), 0, 1, 1, 6, 6)]
def am_inf_4 : List MI := [(yX7_count, cX7_count, 2, (some .int), 0, 1, 1, 6, 6),
  (yX7_isWithin, cX7_isWithin, 3, (some .boolean), 0, 0, 3, 6, 6),
  (yX7_remember, cX7_remember, 3, none, 9, 1, 0, 6, 6),
  (yX8_in, cX8_in, 6, (some .boolean), 0, 0, 3, 7, 7),
  (yX8_init, cX8_init, 1, none, 9, 2, 0, 7, 7),
  (yX8_atFirst, cX8_atFirst, 3, none, 9, 0, 2, 7, 7),
  (yX8_write, cX8_write, 2, (some .int), 0, 1, 1, 7, 7),
  (yX8_erase, cX8_erase, 2, (some .int), 0, 1, 0, 7, 7),
  (yX8_letterAt, cX8_letterAt, 2, (some .int), 0, 1, 1, 7, 7),
  (yX8_word, cX8_word, 12, (some .long), 2, 0, 6, 7, 7),
  (yX8_said, cX8_said, 6, (some .int), 0, 1, 2, 7, 7),
  (yX8_looksOn, cX8_looksOn, 2, none, 9, 1, 0, 7, 7),
  (yX8_must, cX8_must, 2, none, 9, 1, 1, 7, 7),
  (yX8_number, cX8_number, 4, (some .int), 0, 1, 2, 7, 7),
  (yX8_reads, cX8_reads, 4, none, 9, 1, 0, 7, 7),
  (yX8_clauses, cX8_clauses, 3, (some .int), 0, 1, 0, 7, 7),
  (yX8_fault, cX8_fault, 1, (some .int), 0, 1, 0, 7, 7),
  (yX8_board, cX8_board, 3, (some .int), 0, 1, 0, 7, 7),
  (yX8_isHouse, cX8_isHouse, 2, (some .boolean), 0, 1, 1, 7, 7),
  (yX8_liftsOf, cX8_liftsOf, 2, (some .int), 0, 0, 2, 7, 7),
  (yX8_takesOne, cX8_takesOne, 2, (some .boolean), 0, 0, 2, 7, 7),
  (yX8_yieldsAll, cX8_yieldsAll, 2, (some .boolean), 0, 0, 2, 7, 7),
  (yX8_lifts, cX8_lifts, 2, (some .int), 0, 1, 1, 7, 7),
  (yX8_sideOf, cX8_sideOf, 2, (some .int), 0, 1, 1, 7, 7),
  (yX8_canGo, cX8_canGo, 2, (some .boolean), 0, 1, 1, 7, 7),
  (yX8_house, cX8_house, 5, (some .int), 0, 1, 2, 7, 7),
  (yX8_as, cX8_as, 5, (some .int), 0, 1, 2, 7, 7),
  (yX8_next, cX8_next, 2, (some .int), 0, 1, 1, 7, 7),
  (yX8_ahead, cX8_ahead, 2, (some .int), 0, 1, 1, 7, 7),
  (yX8_anyTakes, cX8_anyTakes, 4, (some .boolean), 0, 1, 1, 7, 7)]
def am_inf_5 : List MI := [(yX8_goes, cX8_goes, 7, (some .int), 0, 1, 1, 7, 7),
  (yX8_notes, cX8_notes, 2, none, 9, 1, 0, 7, 7),
  (yX8_move, cX8_move, 2, (some .int), 0, 1, 1, 7, 7),
  (yX8_drop, cX8_drop, 4, (some .int), 0, 1, 2, 7, 7),
  (yX8_swap, cX8_swap, 5, (some .int), 0, 1, 2, 7, 7),
  (yX8_undo, cX8_undo, 2, (some .int), 0, 1, 0, 7, 7),
  (yX8_keep, cX8_keep, 3, (some .int), 0, 1, 1, 7, 7),
  (yX8_back, cX8_back, 3, (some .int), 0, 1, 1, 7, 7),
  (yX8_asides, cX8_asides, 2, none, 9, 1, 0, 7, 7),
  (yX8_backs, cX8_backs, 2, none, 9, 1, 0, 7, 7),
  (yX8_lead, cX8_lead, 1, (some .int), 0, 1, 0, 7, 7),
  (yX8_wouldBring, cX8_wouldBring, 4, (some .int), 0, 1, 1, 7, 7),
  (yX8_brings, cX8_brings, 2, (some .int), 0, 1, 1, 7, 7),
  (yX8_noted, cX8_noted, 2, none, 9, 1, 1, 7, 7),
  (yX8_begins, cX8_begins, 3, none, 9, 1, 1, 7, 7),
  (yX8_laysBack, cX8_laysBack, 3, none, 9, 1, 1, 7, 7),
  (yX8_ends, cX8_ends, 6, none, 9, 1, 2, 7, 7),
  (yX8_looksAhead, cX8_looksAhead, 5, (some .int), 0, 1, 1, 7, 7),
  (yX8_best, cX8_best, 4, (some .int), 0, 1, 2, 7, 7),
  (yX8_rashOne, cX8_rashOne, 5, (some .int), 0, 1, 0, 7, 7),
  (yX8_rashOnes, cX8_rashOnes, 4, (some .int), 0, 1, 1, 7, 7),
  (yX8_rash, cX8_rash, 4, (some .int), 0, 1, 1, 7, 7),
  (yX8_over, cX8_over, 2, (some .int), 0, 1, 0, 7, 7),
  (yX8_gift, cX8_gift, 7, (some .int), 0, 1, 1, 7, 7),
  (yX8_movesThere, cX8_movesThere, 3, (some .int), 0, 1, 0, 7, 7),
  (yX8_luck, cX8_luck, 12, (some .int), 0, 1, 2, 7, 7),
  (yX8_part, cX8_part, 11, (some .int), 0, 0, 3, 7, 7),
  (yX8_seen, cX8_seen, 5, (some .int), 0, 1, 4, 7, 7),
  (yX8_forget, cX8_forget, 2, (some .int), 0, 1, 0, 7, 7),
  (yX8_isOf, cX8_isOf, 2, (some .int), 0, 0, 2, 7, 7)]
def am_inf_6 : List MI := [(yX8_kinds, cX8_kinds, 5, (some .int), 0, 1, 0, 7, 7),
  (yX8_ask, cX8_ask, 10, (some .int), 0, 1, 0, 7, 7),
  (yX8_noBoxes, cX8_noBoxes, 2, none, 9, 1, 0, 7, 7),
  (yX8_isBox, cX8_isBox, 1, (some .boolean), 0, 0, 1, 7, 7),
  (yX8_loses, cX8_loses, 5, none, 9, 1, 1, 7, 7),
  (yX8_box, cX8_box, 3, (some .int), 0, 1, 2, 7, 7),
  (yX8_isWithin, cX8_isWithin, 4, (some .boolean), 0, 1, 2, 7, 7),
  (yX8_whyNotPut, cX8_whyNotPut, 5, (some .int), 0, 1, 3, 7, 7),
  (yX8_put, cX8_put, 5, (some .int), 0, 1, 3, 7, 7),
  (yX8_whyNotOut, cX8_whyNotOut, 3, (some .int), 0, 1, 2, 7, 7),
  (yX8_take, cX8_take, 5, (some .int), 0, 1, 2, 7, 7),
  (yX8_spill, cX8_spill, 7, (some .int), 0, 1, 1, 7, 7),
  (yX8_boxesIn, cX8_boxesIn, 4, (some .int), 0, 1, 1, 7, 7),
  (yX8_depth, cX8_depth, 6, (some .int), 0, 1, 1, 7, 7),
  (yX8_deep, cX8_deep, 9, (some .int), 0, 1, 2, 7, 7),
  (yX8_alike, cX8_alike, 10, (some .int), 0, 1, 2, 7, 7),
  (yX8_lose, cX8_lose, 3, (some .int), 0, 1, 1, 7, 7),
  (yX8_seedsOfAll, cX8_seedsOfAll, 3, (some .int), 0, 1, 0, 7, 7),
  (yX8_goers, cX8_goers, 3, (some .int), 0, 1, 0, 7, 7),
  (yX8_boxesThere, cX8_boxesThere, 3, (some .int), 0, 1, 0, 7, 7),
  (yX8_count, cX8_count, 2, (some .int), 0, 1, 1, 7, 7),
  (yJ6_bitCount_0f7a4, cJ6_bitCount_0f7a4, 1, (some .int), 0, 0, 1, 9, 9),
  (yL_law, cL_law, 4, (some .boolean), 0, 0, 1, 9, 10)]
def am_inf : List MI := am_inf_0 ++ (am_inf_1 ++ (am_inf_2 ++ (am_inf_3 ++ (am_inf_4 ++ (am_inf_5 ++ (am_inf_6))))))
def ownN (o : Nat) : String := match o with
  | 0 => RX0
  | 1 => RX1
  | 2 => RX2
  | 3 => RX3
  | 4 => RX5
  | 5 => RX6
  | 6 => RX7
  | 7 => RX8
  | 8 => RX4
  | 9 => RJ6
  | _ => RL
/-- links by their pool numbers: number, kind, two words -/
def lkT_0 : List (Nat × Nat × Nat × Int) := [(3, 7, 0, 0), (21, 2, 1, 0), (25, 14, 0, 0), (31, 13, 0, 0), (11, 0, 0, 0), (15, 0, 0, 1), (18, 0, 0, 2), (34, 0, 0, 3), (40, 0, 0, 4), (43, 0, 0, 5), (46, 8, 0, 0), (52, 2, 3, 0), (56, 2, 63, 0), (59, 2, 64, 0), (63, 2, 65, 0), (66, 2, 5, 0), (70, 2, 12, 0), (76, 2, 25, 0), (82, 2, 26, 0), (79, 2, 27, 0), (85, 2, 14, 0), (72, 2, 15, 0)]
def lkT_1 : List (Nat × Nat × Nat × Int) := [(3, 7, 0, 0), (11, 0, 1, 0), (15, 0, 1, 1), (18, 0, 1, 2), (22, 0, 1, 3), (25, 0, 1, 4), (29, 0, 1, 5)]
def lkT_2 : List (Nat × Nat × Nat × Int) := [(3, 7, 0, 0), (11, 4, 1, 0), (17, 3, 28, 0), (62, 1, 1, 0), (57, 1, 1, 1), (29, 1, 1, 2), (33, 1, 1, 3), (18, 1, 1, 4), (40, 1, 1, 5), (13, 0, 2, 0), (25, 2, 41, 0), (36, 2, 31, 0), (43, 2, 36, 0), (22, 2, 37, 0), (46, 2, 47, 0), (50, 2, 29, 0), (54, 2, 30, 0), (61, 5, 0, 50000), (65, 2, 46, 0), (69, 2, 32, 0), (73, 2, 33, 0), (76, 2, 34, 0), (79, 13, 0, 0), (84, 2, 49, 0), (88, 2, 50, 0)]
def lkT_3 : List (Nat × Nat × Nat × Int) := [(3, 7, 0, 0), (11, 4, 0, 0), (21, 2, 0, 0), (13, 0, 3, 0), (17, 0, 3, 1), (22, 2, 2, 0), (26, 2, 24, 0), (30, 5, 0, (-1000000)), (31, 5, 0, 1000000), (32, 2, 55, 0), (36, 2, 3, 0), (40, 2, 15, 0), (44, 13, 0, 0), (50, 2, 7, 0), (53, 2, 9, 0), (56, 2, 57, 0), (59, 2, 5, 0), (62, 2, 22, 0), (66, 5, 0, 216000), (67, 2, 60, 0), (73, 2, 16, 0), (76, 2, 201, 0), (70, 2, 61, 0)]
def lkT_4 : List (Nat × Nat × Nat × Int) := [(3, 7, 0, 0), (11, 0, 4, 0), (15, 0, 4, 1), (18, 0, 4, 2), (22, 0, 4, 3), (25, 0, 4, 4), (31, 2, 71, 0), (35, 2, 63, 0), (38, 2, 64, 0), (41, 2, 65, 0), (43, 2, 70, 0), (47, 2, 201, 0), (53, 2, 73, 0), (56, 2, 74, 0), (60, 13, 0, 0)]
def lkT_5 : List (Nat × Nat × Nat × Int) := [(5, 7, 0, 0), (13, 0, 5, 0), (17, 0, 5, 1), (21, 0, 5, 2), (24, 0, 5, 3), (27, 0, 5, 4), (30, 2, 81, 0), (34, 2, 88, 0), (78, 2, 89, 0), (37, 2, 86, 0), (86, 12, 0, 0), (88, 2, 87, 0), (108, 9, 0, 0), (112, 10, 0, 0), (92, 12, 0, 1), (94, 12, 0, 2), (96, 12, 0, 3), (98, 12, 0, 4), (100, 12, 0, 5), (102, 12, 0, 6), (104, 12, 0, 7), (106, 12, 0, 8), (41, 2, 3, 0), (46, 2, 82, 0), (58, 2, 85, 0), (82, 3, 121, 0), (50, 2, 83, 0), (54, 2, 84, 0), (61, 2, 1, 0), (65, 2, 19, 0), (69, 2, 20, 0), (72, 2, 21, 0), (75, 2, 18, 0)]
def lkT_6 : List (Nat × Nat × Nat × Int) := [(1, 7, 0, 0), (7, 4, 0, 0), (9, 2, 0, 0), (33, 4, 5, 0), (35, 3, 75, 0), (40, 4, 3, 0), (42, 2, 51, 0), (47, 4, 4, 0), (49, 3, 66, 0), (54, 4, 2, 0), (56, 2, 35, 0), (10, 0, 6, 0), (16, 0, 6, 1), (19, 0, 6, 2), (22, 0, 6, 3), (26, 0, 6, 4), (29, 0, 6, 5), (36, 0, 6, 6), (43, 0, 6, 7), (50, 0, 6, 8), (57, 0, 6, 9), (61, 0, 6, 10), (65, 2, 121, 0), (69, 2, 76, 0), (73, 2, 78, 0), (77, 2, 77, 0), (80, 2, 2, 0), (84, 2, 80, 0), (88, 2, 68, 0), (89, 2, 39, 0), (90, 2, 79, 0), (93, 2, 4, 0), (96, 2, 10, 0), (100, 2, 11, 0), (103, 2, 12, 0), (106, 2, 13, 0), (109, 2, 14, 0), (114, 2, 62, 0), (118, 2, 63, 0), (121, 2, 15, 0), (124, 2, 6, 0), (127, 2, 122, 0), (130, 2, 24, 0), (133, 2, 22, 0), (137, 2, 23, 0), (140, 2, 52, 0), (144, 2, 53, 0), (147, 2, 54, 0), (151, 2, 56, 0), (155, 2, 9, 0), (158, 2, 16, 0), (161, 2, 58, 0), (164, 2, 59, 0), (167, 2, 67, 0), (170, 2, 69, 0), (173, 2, 70, 0), (176, 2, 72, 0), (179, 2, 36, 0), (182, 2, 40, 0), (185, 2, 42, 0), (189, 2, 43, 0), (192, 2, 44, 0), (195, 2, 37, 0), (198, 2, 45, 0), (201, 2, 48, 0), (204, 2, 41, 0), (207, 2, 3, 0), (210, 2, 7, 0), (213, 2, 8, 0), (216, 2, 17, 0), (219, 2, 38, 0)]
def lkT_7 : List (Nat × Nat × Nat × Int) := [(1, 7, 0, 0), (75, 2, 125, 0), (79, 2, 182, 0), (7, 0, 7, 0), (13, 0, 7, 1), (16, 0, 7, 2), (88, 0, 7, 3), (128, 0, 7, 4), (135, 0, 7, 5), (140, 0, 7, 6), (147, 0, 7, 7), (154, 0, 7, 8), (19, 0, 7, 9), (22, 0, 7, 10), (174, 0, 7, 11), (25, 0, 7, 12), (177, 0, 7, 13), (28, 0, 7, 14), (31, 0, 7, 15), (34, 0, 7, 16), (37, 0, 7, 17), (40, 0, 7, 18), (44, 0, 7, 19), (228, 0, 7, 20), (47, 0, 7, 21), (51, 0, 7, 22), (180, 0, 7, 23), (54, 0, 7, 24), (57, 0, 7, 25), (60, 0, 7, 26), (63, 0, 7, 27), (66, 0, 7, 28), (69, 0, 7, 29), (72, 0, 7, 30), (82, 6, 0, 255), (84, 2, 123, 0), (170, 2, 135, 0), (157, 2, 131, 0), (131, 2, 128, 0), (96, 6, 0, 97), (138, 6, 0, 122), (143, 2, 130, 0), (92, 6, 0, 98), (94, 6, 0, 111), (98, 6, 0, 114), (100, 6, 0, 100), (102, 2, 129, 0), (106, 6, 0, 115), (108, 6, 0, 101), (110, 6, 0, 110), (112, 6, 0, 116), (114, 6, 0, 117), (116, 6, 0, 112), (118, 6, 0, 108), (120, 6, 0, 105), (122, 6, 0, 99), (124, 6, 0, 104), (126, 6, 0, 109), (150, 6, 0, 48), (152, 6, 0, 57), (167, 2, 134, 0), (160, 2, 132, 0), (164, 2, 133, 0), (192, 2, 138, 0), (183, 2, 139, 0), (196, 2, 140, 0), (200, 2, 141, 0), (203, 6, 0, 5), (214, 2, 144, 0), (186, 2, 143, 0), (189, 2, 142, 0), (217, 2, 151, 0), (220, 2, 150, 0), (205, 2, 149, 0), (208, 2, 147, 0), (211, 2, 148, 0), (223, 6, 0, 30), (225, 2, 161, 0), (248, 6, 0, (-1)), (250, 6, 0, 4), (252, 2, 167, 0), (231, 2, 164, 0), (235, 2, 165, 0), (238, 2, 160, 0), (241, 2, 166, 0), (245, 2, 163, 0), (258, 6, 0, 40), (260, 2, 158, 0), (263, 2, 170, 0), (255, 2, 169, 0), (266, 2, 159, 0), (269, 6, 0, 3), (271, 6, 0, 60), (273, 2, 174, 0), (276, 2, 176, 0), (280, 6, 0, 20), (282, 2, 179, 0), (285, 2, 180, 0), (288, 2, 183, 0), (291, 2, 184, 0), (297, 6, 0, 2), (299, 6, 0, (-9999)), (301, 6, 0, 9999), (303, 2, 187, 0), (294, 2, 186, 0), (307, 2, 189, 0), (310, 5, 0, 50000), (311, 2, 192, 0), (314, 2, 193, 0), (317, 2, 197, 0), (320, 2, 198, 0), (323, 2, 199, 0)]
def lkT_8 : List (Nat × Nat × Nat × Int) := [(9, 3, 121, 0), (15, 11, 0, 0)]
def lkT_9 : List (Nat × Nat × Nat × Int) := [(265, 5, 0, 1431655765), (266, 5, 0, 858993459), (267, 5, 0, 252645135)]
def lkT_10 : List (Nat × Nat × Nat × Int) := [(7, 4, 6, 0), (9, 2, 90, 0), (13, 2, 91, 0), (18, 2, 92, 0), (23, 2, 93, 0), (27, 2, 94, 0), (31, 2, 95, 0), (36, 2, 96, 0), (40, 2, 97, 0), (44, 2, 98, 0), (48, 2, 99, 0), (52, 2, 100, 0), (56, 2, 101, 0), (60, 2, 102, 0), (64, 2, 103, 0), (68, 2, 104, 0), (72, 2, 105, 0), (76, 2, 106, 0), (80, 2, 107, 0), (84, 2, 108, 0), (88, 2, 109, 0), (93, 2, 110, 0), (97, 2, 111, 0), (101, 2, 112, 0), (105, 2, 113, 0), (109, 2, 114, 0), (114, 2, 115, 0), (118, 2, 116, 0), (122, 2, 117, 0), (126, 2, 118, 0), (130, 2, 119, 0), (134, 2, 120, 0), (10, 4, 7, 0), (12, 2, 124, 0), (17, 2, 126, 0), (22, 2, 127, 0), (26, 2, 136, 0), (30, 2, 137, 0), (35, 2, 145, 0), (39, 2, 146, 0), (43, 2, 152, 0), (47, 2, 153, 0), (51, 2, 154, 0), (55, 2, 155, 0), (59, 2, 156, 0), (63, 2, 157, 0), (67, 2, 162, 0), (71, 2, 168, 0), (75, 2, 171, 0), (79, 2, 172, 0), (83, 2, 173, 0), (87, 2, 175, 0), (92, 2, 177, 0), (96, 2, 178, 0), (100, 2, 180, 0), (104, 2, 181, 0), (108, 2, 185, 0), (113, 2, 188, 0), (117, 2, 190, 0), (121, 2, 191, 0), (125, 2, 194, 0), (129, 2, 195, 0), (133, 2, 196, 0), (137, 2, 200, 0)]
def lkT (o : Nat) : List (Nat × Nat × Nat × Int) := match o with
  | 0 => lkT_0
  | 1 => lkT_1
  | 2 => lkT_2
  | 3 => lkT_3
  | 4 => lkT_4
  | 5 => lkT_5
  | 6 => lkT_6
  | 7 => lkT_7
  | 8 => lkT_8
  | 9 => lkT_9
  | _ => lkT_10
def nestF : List Cond := [.fieldLinkNest RX2 62 RX1 "what" "[I" RX7, .fieldLinkNest RX2 57 RX1 "value" "[I" RX7, .fieldLinkNest RX2 29 RX1 "room" "I" RX7, .fieldLinkNest RX2 33 RX1 "size" "I" RX7, .fieldLinkNest RX2 18 RX1 "isThere" "Z" RX7, .fieldLinkNest RX2 40 RX1 "in" "I" RX7]
def nestM : List Cond := [.methodLinkNest RX2 17 yX1_init RX7, .methodLinkNest RX6 82 yX7_isWithin RX7, .methodLinkNest RX7 35 yX6_init RX7, .methodLinkNest RX7 49 yX5_init RX7, .methodLinkNest RX4 9 yX7_isWithin RX7]
end
section
/-! The check of a row: the code's bytes decode to it, its links are words of the tables. -/
def WSg : List Cond := lw_tbl.filter goodWord
theorem mem_g {w : Cond} {i : Nat} (h : lw_tbl[i]? = some w) (hg : goodWord w = true) : w ∈ WSg := List.mem_filter.mpr ⟨List.mem_of_getElem? h, hg⟩
theorem mem_l {l : List Cond} {w : Cond} {i : Nat} (h : l[i]? = some w) : w ∈ l := List.mem_of_getElem? h
abbrev clA : List vw_C := [(RX0, TX0, 6), (RX1, TX1, 6), (RX2, TX2, 1), (RX3, TX3, 2), (RX5, TX5, 5), (RX6, TX6, 5), (RX7, TX7, 11), (RX8, TX8, 31)]
def cN (t : Nat) : String := match t with
  | 0 => RX0 | 1 => RX1 | 2 => RX2 | 3 => RX3 | 4 => RX5 | 5 => RX6 | 6 => RX7 | 7 => RX8 | _ => RX4
def cT (t : Nat) : u_T := match t with
  | 0 => TX0 | 1 => TX1 | 2 => TX2 | 3 => TX3 | 4 => TX5 | 5 => TX6 | 6 => TX7 | _ => TX8
def cTy (t : Nat) : Nat → FieldType := match t with
  | 0 => tyX0 | 1 => tyX1 | 2 => tyX2 | 3 => tyX3 | 4 => tyX5 | 5 => tyX6 | 6 => tyX7 | _ => tyX8
def cF (t : Nat) : Nat := match t with
  | 0 => 6 | 1 => 6 | 2 => 1 | 3 => 2 | 4 => 5 | 5 => 5 | 6 => 11 | _ => 31
/-- the places of Text's String constants in its pool, and their texts -/
def strI : List (Nat × String) := [(86, "plain"), (92, "deep"), (94, "rich"), (96, "barred"), (98, "mean"), (100, "board"), (102, "seeds"), (104, "barn"), (106, "turn")]
def arr0 : MethodName := ⟨"java/lang/System", "arraycopy", "(Ljava/lang/Object;ILjava/lang/Object;II)V"⟩
def mi0 : MI := (yL_law, cL_law, 0, none, 0, 0, 0, 0, 0)
/-- what an entry of the link tables says -/
def lnkOK (o : Nat) (e : Nat × Nat × Nat × Int) : Prop := match e.2.1 with
  | 0 => Cond.fieldLink (ownN o) e.1 (cN e.2.2.1) (cT e.2.2.1 e.2.2.2.toNat).2.1 (cT e.2.2.1 e.2.2.2.toNat).2.2.1 ∈ WSg
  | 1 => Cond.fieldLinkNest (ownN o) e.1 (cN e.2.2.1) (cT e.2.2.1 e.2.2.2.toNat).2.1 (cT e.2.2.1 e.2.2.2.toNat).2.2.1 RX7 ∈ nestF
  | 2 => Cond.methodLink (ownN o) e.1 (am_inf.getD e.2.2.1 mi0).1 ∈ WSg
  | 3 => Cond.methodLinkNest (ownN o) e.1 (am_inf.getD e.2.2.1 mi0).1 RX7 ∈ nestM
  | 4 => Cond.classLink (ownN o) e.1 (cN e.2.2.1) ∈ WSg
  | 5 => Cond.constant (ownN o) e.1 (Int32.ofInt e.2.2.2) ∈ WSg
  | 6 => Cond.constantLong (ownN o) e.1 (Int64.ofInt e.2.2.2) ∈ WSg
  | 7 => Cond.methodLink (ownN o) e.1 Lib.objectInit ∈ WSg
  | 8 => Cond.methodLink (ownN o) e.1 arr0 ∈ WSg
  | 9 => Cond.methodLink (ownN o) e.1 yJ0_length_8abf5 ∈ WSg
  | 10 => Cond.methodLink (ownN o) e.1 yJ0_charAt_5068e ∈ WSg
  | 11 => Cond.fieldLink (ownN o) e.1 "SownSeeds$Kind" "OVER" "[I" ∈ WSg
  | 12 => ownN o = RX6 ∧ 0 ≤ e.2.2.2 ∧ e.2.2.2 < 9 ∧ (strI.getD e.2.2.2.toNat (0, "")).1 = e.1
  | 13 => Cond.methodLink (ownN o) e.1 Lib.Math.max.name ∈ WSg
  | 14 => Cond.methodLink (ownN o) e.1 Lib.Math.min.name ∈ WSg
  | _ => False
/-- what the tables say of a method -/
def infOK (q : MI) : Prop := ownN q.2.2.2.2.2.2.2.2 = q.1.cls ∧ cN q.2.2.2.2.2.2.2.1 = (if q.2.2.2.2.2.2.2.1 ≤ 8 then q.1.cls else cN q.2.2.2.2.2.2.2.1) ∧ (parseMethodDescriptor q.1.desc).map (fun d => d.parameters.length) = some q.2.2.2.2.2.2.1 ∧
  (plainName q.1.cls = true ∧ q.1.cls ≠ "java/lang/invoke/MethodHandle" ∧ q.1.cls ≠ "java/lang/invoke/VarHandle") ∧
  (q.1 ≠ yL_law → (Cond.code q.1 q.2.1 q.2.2.1 q.2.2.2.1 ∈ WSg ∧ Cond.initialized q.1.cls ∈ WSg ∧ (match q.2.2.2.2.2.1 with
    | 0 => Cond.static q.1 ∈ WSg
    | 1 => Cond.instanceMethod q.1 ∈ WSg ∧ Cond.selects q.1.cls q.1 q.1 ∈ WSg ∧ q.1.cls = cN q.2.2.2.2.2.2.2.1
    | _ => Cond.instanceMethod q.1 ∈ WSg ∧ q.1.name = "<init>" ∧ q.2.2.2.1 = none)))
def isSw : Instr → Bool
  | .tableswitch _ _ _ _ => true
  | .lookupswitch _ _ => true
  | _ => false
def lenI : Instr → Nat
  | .bipush _ | .ldc _ | .iload _ | .lload _ | .aload _ | .istore _ | .lstore _ | .astore _ | .newarray _ => 2
  | .sipush _ | .ldc_w _ | .ldc2_w _ | .iinc _ _ | .goto _ | .ifCond _ _ | .if_icmp _ _ | .getfield _ | .putfield _ | .getstatic _ | .new _ | .anewarray _ | .invokestatic _ | .invokevirtual _ | .invokespecial _ => 3
  | _ => 1
def chkD (cc : ByteArray) (pc : Nat) (ins : Instr) : Bool := match decode cc pc with
  | .ok q => decide (q.1 = ins) && (isSw ins || Nat.beq q.2 (lenI ins))
  | .error _ => false
theorem chkD_spec {cc : ByteArray} {pc : Nat} {ins : Instr} (h : chkD cc pc ins = true) : ∃ n, decode cc pc = .ok (ins, n) ∧ (isSw ins = false → n = lenI ins) := by
  unfold chkD at h
  split at h
  next q hq =>
    simp only [Bool.and_eq_true, decide_eq_true_eq, Bool.or_eq_true] at h
    refine ⟨q.2, by rw [hq, ← h.1], fun e => ?_⟩
    rcases h.2 with h2 | h2
    · rw [e] at h2; cases h2
    · exact Nat.eq_of_beq_eq_true h2
  next => cases h
def fndL : List (Nat × Nat × Nat × Int) → Nat → Nat × Nat × Int
  | [], _ => (99, 0, 0)
  | e :: r, i => cond (Nat.beq e.1 i) e.2 (fndL r i)
theorem fndL_in {l : List (Nat × Nat × Nat × Int)} {i : Nat} (h : (fndL l i).1 ≠ 99) : (i, fndL l i) ∈ l := by
  induction l with
  | nil => exact absurd rfl h
  | cons e r ih =>
    simp only [fndL] at h ⊢
    cases hb : Nat.beq e.1 i with
    | true =>
      rw [hb] at h
      have : e.1 = i := Nat.eq_of_beq_eq_true hb
      subst this
      exact List.mem_cons_self
    | false => rw [hb] at h; exact List.mem_cons_of_mem _ (ih h)
/-- what a method's number tells: kind, parameters, tag of the answer, tag of its class -/
def infN (m : Nat) : Nat × Nat × Nat × Nat := match am_inf[m]? with
  | none => (9, 0, 0, 0)
  | some q => (q.2.2.2.2.2.1, q.2.2.2.2.2.2.1, q.2.2.2.2.1, q.2.2.2.2.2.2.2.1)
/-- which link a row wants -/
def chkL (o pc : Nat) (ins : Instr) (lk : LK) (prs : List (Int × Nat)) : Bool := match ins with
  | .iconst n => decide (-128 ≤ n ∧ n < 128)
  | .bipush n => decide (-128 ≤ n ∧ n < 128)
  | .sipush n => decide (-32768 ≤ n ∧ n < 32768)
  | .ldc i => cond (Nat.beq lk.1 0) (decide (-2147483648 ≤ lk.2.2.2 ∧ lk.2.2.2 < 2147483648) && decide (fndL (lkT o) i = (5, 0, lk.2.2.2))) (decide (fndL (lkT o) i = (12, 0, lk.2.2.2)))
  | .ldc_w i => decide (-2147483648 ≤ lk.2.2.2 ∧ lk.2.2.2 < 2147483648) && decide (fndL (lkT o) i = (5, 0, lk.2.2.2))
  | .ldc2_w i => decide (-9223372036854775808 ≤ lk.2.2.2 ∧ lk.2.2.2 < 9223372036854775808) && decide (fndL (lkT o) i = (6, 0, lk.2.2.2))
  | .lconst n => decide (lk.2.2.2 = (n.val : Int))
  | .iload_n n | .lload_n n | .aload_n n | .istore_n n | .lstore_n n | .astore_n n => Nat.beq n.val lk.1
  | .iinc _ n => decide (-128 ≤ n ∧ n < 128)
  | .goto f => decide ((pc : Int) + f = (lk.1 : Int))
  | .ifCond _ f => decide ((pc : Int) + f = (lk.1 : Int))
  | .if_icmp _ f => decide ((pc : Int) + f = (lk.1 : Int))
  | .tableswitch d lo hi os => decide ((pc : Int) + d = (lk.1 : Int)) && decide (hi = lo + (os.toList.length : Int) - 1) && decide (prs.map Prod.fst = (List.range os.toList.length).map (fun (j : Nat) => lo + (j : Int))) && decide (prs.map (fun q => (q.2 : Int)) = os.toList.map (fun f => (pc : Int) + f))
  | .lookupswitch d ps => decide ((pc : Int) + d = (lk.1 : Int)) && (ps.toList.zip (ps.toList.drop 1)).all (fun (a, next) => a.1 < next.1) && decide (prs.map (fun q => (q.1, (q.2 : Int))) = ps.toList.map (fun a => (a.1, (pc : Int) + a.2)))
  | .getfield i => Nat.ble lk.1 7 && Nat.blt lk.2.1 (cF lk.1) && (decide (fndL (lkT o) i = (0, lk.1, (lk.2.1 : Int))) || decide (fndL (lkT o) i = (1, lk.1, (lk.2.1 : Int)))) && Nat.beq ((am_ft lk.1).getD lk.2.1 1) lk.2.2.1
  | .putfield i => Nat.ble lk.1 7 && Nat.blt lk.2.1 (cF lk.1) && (decide (fndL (lkT o) i = (0, lk.1, (lk.2.1 : Int))) || (decide (fndL (lkT o) i = (1, lk.1, (lk.2.1 : Int))) && !(cT lk.1 lk.2.1).2.2.2)) && (match (cTy lk.1 lk.2.1) with
    | .int => Nat.beq lk.2.2.1 0
    | .boolean => Nat.beq lk.2.2.1 6
    | _ => Nat.ble 100 lk.2.2.1 && Nat.beq ((am_ft lk.1).getD lk.2.1 1) lk.2.2.1) && (!((cT lk.1 lk.2.1).2.2.2) || Nat.beq o lk.1)
  | .getstatic i => decide (fndL (lkT o) i = (11, 0, 0))
  | .iaload => Nat.beq lk.1 20 || Nat.beq lk.1 26
  | .aaload => (Nat.beq lk.1 24 && Nat.beq lk.2.1 100) || (Nat.beq lk.1 25 && Nat.beq lk.2.1 101)
  | .aastore => (Nat.beq lk.1 24 && Nat.beq lk.2.1 100) || (Nat.beq lk.1 25 && Nat.beq lk.2.1 101)
  | .new i => Nat.ble lk.1 7 && decide (fndL (lkT o) i = (4, lk.1, 0))
  | .newarray a => (match newarray.typeOf a with
    | .int => Nat.beq lk.1 20
    | .boolean => Nat.beq lk.1 21
    | .char => Nat.beq lk.1 22
    | .long => Nat.beq lk.1 23
    | _ => false)
  | .anewarray i => (Nat.beq lk.1 24 && decide (fndL (lkT o) i = (4, 0, 0))) || (Nat.beq lk.1 25 && decide (fndL (lkT o) i = (4, 1, 0)))
  | .invokestatic i => cond (Nat.beq lk.1 1003) (decide (fndL (lkT o) i = (8, 0, 0))) (cond (Nat.beq lk.1 1001) (decide (fndL (lkT o) i = (13, 0, 0))) (cond (Nat.beq lk.1 1002) (decide (fndL (lkT o) i = (14, 0, 0)))
      ((decide (fndL (lkT o) i = (2, lk.1, 0)) || decide (fndL (lkT o) i = (3, lk.1, 0))) && decide (infN lk.1 = (0, lk.2.1, lk.2.2.1, (infN lk.1).2.2.2)) && decide (lk.2.2.2 = 0) && !Nat.beq lk.1 202)))
  | .invokevirtual i => cond (Nat.beq lk.1 1004) (decide (fndL (lkT o) i = (9, 0, 0))) (cond (Nat.beq lk.1 1005) (decide (fndL (lkT o) i = (10, 0, 0)))
      (decide (fndL (lkT o) i = (2, lk.1, 0)) && decide (infN lk.1 = (1, lk.2.1 - 1, lk.2.2.1, (infN lk.1).2.2.2)) && Nat.ble 1 lk.2.1 && decide (lk.2.2.2 = 100 + ((infN lk.1).2.2.2 : Int)) && Nat.ble (infN lk.1).2.2.2 7))
  | .invokespecial i => cond (Nat.beq lk.1 999) (decide (fndL (lkT o) i = (7, 0, 0)) && Nat.ble 100 lk.2.1)
      ((decide (fndL (lkT o) i = (2, lk.1, 0)) || decide (fndL (lkT o) i = (3, lk.1, 0))) && decide (infN lk.1 = (2, lk.2.1 - 1, 9, (infN lk.1).2.2.2)) && Nat.beq lk.2.2.1 9 && Nat.ble 1 lk.2.1 && decide (lk.2.2.2 = 100 + ((infN lk.1).2.2.2 : Int)) && Nat.ble (infN lk.1).2.2.2 7)
  | _ => true
def am_chk (o : Nat) (cc : ByteArray) (q : AQ) : Bool := chkD cc q.1 q.2.1 && chkL o q.1 q.2.1 q.2.2.1 q.2.2.2
end
section
/-! The links and the methods' words stand in the tables; each method's rows are its code: printed by program. -/
set_option maxRecDepth 100000 in
theorem lkT_0_ok : ∀ e ∈ lkT_0, lnkOK 0 e := List.forall_mem_cons.mpr ⟨mem_g (i := 88) rfl rfl, List.forall_mem_cons.mpr ⟨mem_g (i := 89) rfl rfl, List.forall_mem_cons.mpr ⟨mem_g (i := 93) rfl rfl, List.forall_mem_cons.mpr ⟨mem_g (i := 96) rfl rfl, List.forall_mem_cons.mpr ⟨mem_g (i := 99) rfl rfl, List.forall_mem_cons.mpr ⟨mem_g (i := 100) rfl rfl, List.forall_mem_cons.mpr ⟨mem_g (i := 101) rfl rfl, List.forall_mem_cons.mpr ⟨mem_g (i := 102) rfl rfl, List.forall_mem_cons.mpr ⟨mem_g (i := 103) rfl rfl, List.forall_mem_cons.mpr ⟨mem_g (i := 104) rfl rfl, List.forall_mem_cons.mpr ⟨mem_g (i := 288) rfl rfl, List.forall_mem_cons.mpr ⟨mem_g (i := 442) rfl rfl, List.forall_mem_cons.mpr ⟨mem_g (i := 455) rfl rfl, List.forall_mem_cons.mpr ⟨mem_g (i := 462) rfl rfl, List.forall_mem_cons.mpr ⟨mem_g (i := 469) rfl rfl, List.forall_mem_cons.mpr ⟨mem_g (i := 491) rfl rfl, List.forall_mem_cons.mpr ⟨mem_g (i := 495) rfl rfl, List.forall_mem_cons.mpr ⟨mem_g (i := 508) rfl rfl, List.forall_mem_cons.mpr ⟨mem_g (i := 512) rfl rfl, List.forall_mem_cons.mpr ⟨mem_g (i := 516) rfl rfl, List.forall_mem_cons.mpr ⟨mem_g (i := 520) rfl rfl, List.forall_mem_cons.mpr ⟨mem_g (i := 609) rfl rfl, fun _ h => absurd h List.not_mem_nil⟩⟩⟩⟩⟩⟩⟩⟩⟩⟩⟩⟩⟩⟩⟩⟩⟩⟩⟩⟩⟩⟩
set_option maxRecDepth 100000 in
theorem lkT_1_ok : ∀ e ∈ lkT_1, lnkOK 1 e := List.forall_mem_cons.mpr ⟨mem_g (i := 193) rfl rfl, List.forall_mem_cons.mpr ⟨mem_g (i := 194) rfl rfl, List.forall_mem_cons.mpr ⟨mem_g (i := 196) rfl rfl, List.forall_mem_cons.mpr ⟨mem_g (i := 198) rfl rfl, List.forall_mem_cons.mpr ⟨mem_g (i := 200) rfl rfl, List.forall_mem_cons.mpr ⟨mem_g (i := 202) rfl rfl, List.forall_mem_cons.mpr ⟨mem_g (i := 204) rfl rfl, fun _ h => absurd h List.not_mem_nil⟩⟩⟩⟩⟩⟩⟩
set_option maxRecDepth 100000 in
theorem lkT_2_ok : ∀ e ∈ lkT_2, lnkOK 2 e := List.forall_mem_cons.mpr ⟨mem_g (i := 186) rfl rfl, List.forall_mem_cons.mpr ⟨mem_g (i := 187) rfl rfl, List.forall_mem_cons.mpr ⟨mem_l (i := 0) rfl, List.forall_mem_cons.mpr ⟨mem_l (i := 0) rfl, List.forall_mem_cons.mpr ⟨mem_l (i := 1) rfl, List.forall_mem_cons.mpr ⟨mem_l (i := 2) rfl, List.forall_mem_cons.mpr ⟨mem_l (i := 3) rfl, List.forall_mem_cons.mpr ⟨mem_l (i := 4) rfl, List.forall_mem_cons.mpr ⟨mem_l (i := 5) rfl, List.forall_mem_cons.mpr ⟨mem_g (i := 219) rfl rfl, List.forall_mem_cons.mpr ⟨mem_g (i := 422) rfl rfl, List.forall_mem_cons.mpr ⟨mem_g (i := 426) rfl rfl, List.forall_mem_cons.mpr ⟨mem_g (i := 711) rfl rfl, List.forall_mem_cons.mpr ⟨mem_g (i := 712) rfl rfl, List.forall_mem_cons.mpr ⟨mem_g (i := 716) rfl rfl, List.forall_mem_cons.mpr ⟨mem_g (i := 720) rfl rfl, List.forall_mem_cons.mpr ⟨mem_g (i := 732) rfl rfl, List.forall_mem_cons.mpr ⟨mem_g (i := 736) rfl rfl, List.forall_mem_cons.mpr ⟨mem_g (i := 754) rfl rfl, List.forall_mem_cons.mpr ⟨mem_g (i := 758) rfl rfl, List.forall_mem_cons.mpr ⟨mem_g (i := 762) rfl rfl, List.forall_mem_cons.mpr ⟨mem_g (i := 766) rfl rfl, List.forall_mem_cons.mpr ⟨mem_g (i := 770) rfl rfl, List.forall_mem_cons.mpr ⟨mem_g (i := 779) rfl rfl, List.forall_mem_cons.mpr ⟨mem_g (i := 783) rfl rfl, fun _ h => absurd h List.not_mem_nil⟩⟩⟩⟩⟩⟩⟩⟩⟩⟩⟩⟩⟩⟩⟩⟩⟩⟩⟩⟩⟩⟩⟩⟩⟩
set_option maxRecDepth 100000 in
theorem lkT_3_ok : ∀ e ∈ lkT_3, lnkOK 3 e := List.forall_mem_cons.mpr ⟨mem_g (i := 149) rfl rfl, List.forall_mem_cons.mpr ⟨mem_g (i := 150) rfl rfl, List.forall_mem_cons.mpr ⟨mem_g (i := 151) rfl rfl, List.forall_mem_cons.mpr ⟨mem_g (i := 152) rfl rfl, List.forall_mem_cons.mpr ⟨mem_g (i := 153) rfl rfl, List.forall_mem_cons.mpr ⟨mem_g (i := 557) rfl rfl, List.forall_mem_cons.mpr ⟨mem_g (i := 558) rfl rfl, List.forall_mem_cons.mpr ⟨mem_g (i := 567) rfl rfl, List.forall_mem_cons.mpr ⟨mem_g (i := 568) rfl rfl, List.forall_mem_cons.mpr ⟨mem_g (i := 569) rfl rfl, List.forall_mem_cons.mpr ⟨mem_g (i := 573) rfl rfl, List.forall_mem_cons.mpr ⟨mem_g (i := 574) rfl rfl, List.forall_mem_cons.mpr ⟨mem_g (i := 575) rfl rfl, List.forall_mem_cons.mpr ⟨mem_g (i := 576) rfl rfl, List.forall_mem_cons.mpr ⟨mem_g (i := 580) rfl rfl, List.forall_mem_cons.mpr ⟨mem_g (i := 596) rfl rfl, List.forall_mem_cons.mpr ⟨mem_g (i := 618) rfl rfl, List.forall_mem_cons.mpr ⟨mem_g (i := 619) rfl rfl, List.forall_mem_cons.mpr ⟨mem_g (i := 628) rfl rfl, List.forall_mem_cons.mpr ⟨mem_g (i := 629) rfl rfl, List.forall_mem_cons.mpr ⟨mem_g (i := 633) rfl rfl, List.forall_mem_cons.mpr ⟨mem_g (i := 634) rfl rfl, List.forall_mem_cons.mpr ⟨mem_g (i := 640) rfl rfl, fun _ h => absurd h List.not_mem_nil⟩⟩⟩⟩⟩⟩⟩⟩⟩⟩⟩⟩⟩⟩⟩⟩⟩⟩⟩⟩⟩⟩⟩
set_option maxRecDepth 100000 in
theorem lkT_4_ok : ∀ e ∈ lkT_4, lnkOK 4 e := List.forall_mem_cons.mpr ⟨mem_g (i := 164) rfl rfl, List.forall_mem_cons.mpr ⟨mem_g (i := 165) rfl rfl, List.forall_mem_cons.mpr ⟨mem_g (i := 166) rfl rfl, List.forall_mem_cons.mpr ⟨mem_g (i := 167) rfl rfl, List.forall_mem_cons.mpr ⟨mem_g (i := 168) rfl rfl, List.forall_mem_cons.mpr ⟨mem_g (i := 169) rfl rfl, List.forall_mem_cons.mpr ⟨mem_g (i := 667) rfl rfl, List.forall_mem_cons.mpr ⟨mem_g (i := 671) rfl rfl, List.forall_mem_cons.mpr ⟨mem_g (i := 672) rfl rfl, List.forall_mem_cons.mpr ⟨mem_g (i := 673) rfl rfl, List.forall_mem_cons.mpr ⟨mem_g (i := 682) rfl rfl, List.forall_mem_cons.mpr ⟨mem_g (i := 683) rfl rfl, List.forall_mem_cons.mpr ⟨mem_g (i := 684) rfl rfl, List.forall_mem_cons.mpr ⟨mem_g (i := 687) rfl rfl, List.forall_mem_cons.mpr ⟨mem_g (i := 690) rfl rfl, fun _ h => absurd h List.not_mem_nil⟩⟩⟩⟩⟩⟩⟩⟩⟩⟩⟩⟩⟩⟩⟩
set_option maxRecDepth 100000 in
theorem lkT_5_ok : ∀ e ∈ lkT_5, lnkOK 5 e := List.forall_mem_cons.mpr ⟨mem_g (i := 125) rfl rfl, List.forall_mem_cons.mpr ⟨mem_g (i := 126) rfl rfl, List.forall_mem_cons.mpr ⟨mem_g (i := 127) rfl rfl, List.forall_mem_cons.mpr ⟨mem_g (i := 128) rfl rfl, List.forall_mem_cons.mpr ⟨mem_g (i := 129) rfl rfl, List.forall_mem_cons.mpr ⟨mem_g (i := 130) rfl rfl, List.forall_mem_cons.mpr ⟨mem_g (i := 295) rfl rfl, List.forall_mem_cons.mpr ⟨mem_g (i := 299) rfl rfl, List.forall_mem_cons.mpr ⟨mem_g (i := 303) rfl rfl, List.forall_mem_cons.mpr ⟨mem_g (i := 307) rfl rfl, List.forall_mem_cons.mpr ⟨⟨rfl, by decide, by decide, rfl⟩, List.forall_mem_cons.mpr ⟨mem_g (i := 312) rfl rfl, List.forall_mem_cons.mpr ⟨mem_g (i := 316) rfl rfl, List.forall_mem_cons.mpr ⟨mem_g (i := 326) rfl rfl, List.forall_mem_cons.mpr ⟨⟨rfl, by decide, by decide, rfl⟩, List.forall_mem_cons.mpr ⟨⟨rfl, by decide, by decide, rfl⟩, List.forall_mem_cons.mpr ⟨⟨rfl, by decide, by decide, rfl⟩, List.forall_mem_cons.mpr ⟨⟨rfl, by decide, by decide, rfl⟩, List.forall_mem_cons.mpr ⟨⟨rfl, by decide, by decide, rfl⟩, List.forall_mem_cons.mpr ⟨⟨rfl, by decide, by decide, rfl⟩, List.forall_mem_cons.mpr ⟨⟨rfl, by decide, by decide, rfl⟩, List.forall_mem_cons.mpr ⟨⟨rfl, by decide, by decide, rfl⟩, List.forall_mem_cons.mpr ⟨mem_g (i := 372) rfl rfl, List.forall_mem_cons.mpr ⟨mem_g (i := 376) rfl rfl, List.forall_mem_cons.mpr ⟨mem_g (i := 380) rfl rfl, List.forall_mem_cons.mpr ⟨mem_l (i := 1) rfl, List.forall_mem_cons.mpr ⟨mem_g (i := 385) rfl rfl, List.forall_mem_cons.mpr ⟨mem_g (i := 389) rfl rfl, List.forall_mem_cons.mpr ⟨mem_g (i := 392) rfl rfl, List.forall_mem_cons.mpr ⟨mem_g (i := 393) rfl rfl, List.forall_mem_cons.mpr ⟨mem_g (i := 397) rfl rfl, List.forall_mem_cons.mpr ⟨mem_g (i := 401) rfl rfl, List.forall_mem_cons.mpr ⟨mem_g (i := 405) rfl rfl, fun _ h => absurd h List.not_mem_nil⟩⟩⟩⟩⟩⟩⟩⟩⟩⟩⟩⟩⟩⟩⟩⟩⟩⟩⟩⟩⟩⟩⟩⟩⟩⟩⟩⟩⟩⟩⟩⟩⟩
set_option maxRecDepth 100000 in
theorem lkT_6_ok : ∀ e ∈ lkT_6, lnkOK 6 e := List.forall_mem_cons.mpr ⟨mem_g (i := 80) rfl rfl, List.forall_mem_cons.mpr ⟨mem_g (i := 83) rfl rfl, List.forall_mem_cons.mpr ⟨mem_g (i := 85) rfl rfl, List.forall_mem_cons.mpr ⟨mem_g (i := 120) rfl rfl, List.forall_mem_cons.mpr ⟨mem_l (i := 2) rfl, List.forall_mem_cons.mpr ⟨mem_g (i := 144) rfl rfl, List.forall_mem_cons.mpr ⟨mem_g (i := 146) rfl rfl, List.forall_mem_cons.mpr ⟨mem_g (i := 159) rfl rfl, List.forall_mem_cons.mpr ⟨mem_l (i := 3) rfl, List.forall_mem_cons.mpr ⟨mem_g (i := 181) rfl rfl, List.forall_mem_cons.mpr ⟨mem_g (i := 183) rfl rfl, List.forall_mem_cons.mpr ⟨mem_g (i := 223) rfl rfl, List.forall_mem_cons.mpr ⟨mem_g (i := 224) rfl rfl, List.forall_mem_cons.mpr ⟨mem_g (i := 225) rfl rfl, List.forall_mem_cons.mpr ⟨mem_g (i := 226) rfl rfl, List.forall_mem_cons.mpr ⟨mem_g (i := 227) rfl rfl, List.forall_mem_cons.mpr ⟨mem_g (i := 228) rfl rfl, List.forall_mem_cons.mpr ⟨mem_g (i := 229) rfl rfl, List.forall_mem_cons.mpr ⟨mem_g (i := 230) rfl rfl, List.forall_mem_cons.mpr ⟨mem_g (i := 231) rfl rfl, List.forall_mem_cons.mpr ⟨mem_g (i := 232) rfl rfl, List.forall_mem_cons.mpr ⟨mem_g (i := 233) rfl rfl, List.forall_mem_cons.mpr ⟨mem_g (i := 261) rfl rfl, List.forall_mem_cons.mpr ⟨mem_g (i := 264) rfl rfl, List.forall_mem_cons.mpr ⟨mem_g (i := 268) rfl rfl, List.forall_mem_cons.mpr ⟨mem_g (i := 276) rfl rfl, List.forall_mem_cons.mpr ⟨mem_g (i := 284) rfl rfl, List.forall_mem_cons.mpr ⟨mem_g (i := 291) rfl rfl, List.forall_mem_cons.mpr ⟨mem_g (i := 414) rfl rfl, List.forall_mem_cons.mpr ⟨mem_g (i := 418) rfl rfl, List.forall_mem_cons.mpr ⟨mem_g (i := 430) rfl rfl, List.forall_mem_cons.mpr ⟨mem_g (i := 438) rfl rfl, List.forall_mem_cons.mpr ⟨mem_g (i := 443) rfl rfl, List.forall_mem_cons.mpr ⟨mem_g (i := 447) rfl rfl, List.forall_mem_cons.mpr ⟨mem_g (i := 451) rfl rfl, List.forall_mem_cons.mpr ⟨mem_g (i := 458) rfl rfl, List.forall_mem_cons.mpr ⟨mem_g (i := 465) rfl rfl, List.forall_mem_cons.mpr ⟨mem_g (i := 476) rfl rfl, List.forall_mem_cons.mpr ⟨mem_g (i := 482) rfl rfl, List.forall_mem_cons.mpr ⟨mem_g (i := 487) rfl rfl, List.forall_mem_cons.mpr ⟨mem_g (i := 496) rfl rfl, List.forall_mem_cons.mpr ⟨mem_g (i := 500) rfl rfl, List.forall_mem_cons.mpr ⟨mem_g (i := 504) rfl rfl, List.forall_mem_cons.mpr ⟨mem_g (i := 525) rfl rfl, List.forall_mem_cons.mpr ⟨mem_g (i := 533) rfl rfl, List.forall_mem_cons.mpr ⟨mem_g (i := 553) rfl rfl, List.forall_mem_cons.mpr ⟨mem_g (i := 563) rfl rfl, List.forall_mem_cons.mpr ⟨mem_g (i := 584) rfl rfl, List.forall_mem_cons.mpr ⟨mem_g (i := 592) rfl rfl, List.forall_mem_cons.mpr ⟨mem_g (i := 600) rfl rfl, List.forall_mem_cons.mpr ⟨mem_g (i := 605) rfl rfl, List.forall_mem_cons.mpr ⟨mem_g (i := 614) rfl rfl, List.forall_mem_cons.mpr ⟨mem_g (i := 624) rfl rfl, List.forall_mem_cons.mpr ⟨mem_g (i := 647) rfl rfl, List.forall_mem_cons.mpr ⟨mem_g (i := 651) rfl rfl, List.forall_mem_cons.mpr ⟨mem_g (i := 663) rfl rfl, List.forall_mem_cons.mpr ⟨mem_g (i := 678) rfl rfl, List.forall_mem_cons.mpr ⟨mem_g (i := 695) rfl rfl, List.forall_mem_cons.mpr ⟨mem_g (i := 699) rfl rfl, List.forall_mem_cons.mpr ⟨mem_g (i := 707) rfl rfl, List.forall_mem_cons.mpr ⟨mem_g (i := 728) rfl rfl, List.forall_mem_cons.mpr ⟨mem_g (i := 741) rfl rfl, List.forall_mem_cons.mpr ⟨mem_g (i := 749) rfl rfl, List.forall_mem_cons.mpr ⟨mem_g (i := 750) rfl rfl, List.forall_mem_cons.mpr ⟨mem_g (i := 775) rfl rfl, List.forall_mem_cons.mpr ⟨mem_g (i := 791) rfl rfl, List.forall_mem_cons.mpr ⟨mem_g (i := 796) rfl rfl, List.forall_mem_cons.mpr ⟨mem_g (i := 797) rfl rfl, List.forall_mem_cons.mpr ⟨mem_g (i := 798) rfl rfl, List.forall_mem_cons.mpr ⟨mem_g (i := 802) rfl rfl, List.forall_mem_cons.mpr ⟨mem_g (i := 806) rfl rfl, fun _ h => absurd h List.not_mem_nil⟩⟩⟩⟩⟩⟩⟩⟩⟩⟩⟩⟩⟩⟩⟩⟩⟩⟩⟩⟩⟩⟩⟩⟩⟩⟩⟩⟩⟩⟩⟩⟩⟩⟩⟩⟩⟩⟩⟩⟩⟩⟩⟩⟩⟩⟩⟩⟩⟩⟩⟩⟩⟩⟩⟩⟩⟩⟩⟩⟩⟩⟩⟩⟩⟩⟩⟩⟩⟩⟩⟩
set_option maxRecDepth 100000 in
theorem lkT_7_ok : ∀ e ∈ lkT_7, lnkOK 7 e := List.forall_mem_cons.mpr ⟨mem_g (i := 815) rfl rfl, List.forall_mem_cons.mpr ⟨mem_g (i := 816) rfl rfl, List.forall_mem_cons.mpr ⟨mem_g (i := 819) rfl rfl, List.forall_mem_cons.mpr ⟨mem_g (i := 823) rfl rfl, List.forall_mem_cons.mpr ⟨mem_g (i := 824) rfl rfl, List.forall_mem_cons.mpr ⟨mem_g (i := 825) rfl rfl, List.forall_mem_cons.mpr ⟨mem_g (i := 826) rfl rfl, List.forall_mem_cons.mpr ⟨mem_g (i := 827) rfl rfl, List.forall_mem_cons.mpr ⟨mem_g (i := 828) rfl rfl, List.forall_mem_cons.mpr ⟨mem_g (i := 829) rfl rfl, List.forall_mem_cons.mpr ⟨mem_g (i := 830) rfl rfl, List.forall_mem_cons.mpr ⟨mem_g (i := 831) rfl rfl, List.forall_mem_cons.mpr ⟨mem_g (i := 832) rfl rfl, List.forall_mem_cons.mpr ⟨mem_g (i := 833) rfl rfl, List.forall_mem_cons.mpr ⟨mem_g (i := 834) rfl rfl, List.forall_mem_cons.mpr ⟨mem_g (i := 835) rfl rfl, List.forall_mem_cons.mpr ⟨mem_g (i := 836) rfl rfl, List.forall_mem_cons.mpr ⟨mem_g (i := 837) rfl rfl, List.forall_mem_cons.mpr ⟨mem_g (i := 838) rfl rfl, List.forall_mem_cons.mpr ⟨mem_g (i := 839) rfl rfl, List.forall_mem_cons.mpr ⟨mem_g (i := 840) rfl rfl, List.forall_mem_cons.mpr ⟨mem_g (i := 841) rfl rfl, List.forall_mem_cons.mpr ⟨mem_g (i := 842) rfl rfl, List.forall_mem_cons.mpr ⟨mem_g (i := 843) rfl rfl, List.forall_mem_cons.mpr ⟨mem_g (i := 844) rfl rfl, List.forall_mem_cons.mpr ⟨mem_g (i := 845) rfl rfl, List.forall_mem_cons.mpr ⟨mem_g (i := 846) rfl rfl, List.forall_mem_cons.mpr ⟨mem_g (i := 847) rfl rfl, List.forall_mem_cons.mpr ⟨mem_g (i := 848) rfl rfl, List.forall_mem_cons.mpr ⟨mem_g (i := 849) rfl rfl, List.forall_mem_cons.mpr ⟨mem_g (i := 850) rfl rfl, List.forall_mem_cons.mpr ⟨mem_g (i := 851) rfl rfl, List.forall_mem_cons.mpr ⟨mem_g (i := 852) rfl rfl, List.forall_mem_cons.mpr ⟨mem_g (i := 853) rfl rfl, List.forall_mem_cons.mpr ⟨mem_g (i := 922) rfl rfl, List.forall_mem_cons.mpr ⟨mem_g (i := 923) rfl rfl, List.forall_mem_cons.mpr ⟨mem_g (i := 934) rfl rfl, List.forall_mem_cons.mpr ⟨mem_g (i := 938) rfl rfl, List.forall_mem_cons.mpr ⟨mem_g (i := 942) rfl rfl, List.forall_mem_cons.mpr ⟨mem_g (i := 946) rfl rfl, List.forall_mem_cons.mpr ⟨mem_g (i := 947) rfl rfl, List.forall_mem_cons.mpr ⟨mem_g (i := 948) rfl rfl, List.forall_mem_cons.mpr ⟨mem_g (i := 952) rfl rfl, List.forall_mem_cons.mpr ⟨mem_g (i := 953) rfl rfl, List.forall_mem_cons.mpr ⟨mem_g (i := 954) rfl rfl, List.forall_mem_cons.mpr ⟨mem_g (i := 955) rfl rfl, List.forall_mem_cons.mpr ⟨mem_g (i := 956) rfl rfl, List.forall_mem_cons.mpr ⟨mem_g (i := 959) rfl rfl, List.forall_mem_cons.mpr ⟨mem_g (i := 960) rfl rfl, List.forall_mem_cons.mpr ⟨mem_g (i := 961) rfl rfl, List.forall_mem_cons.mpr ⟨mem_g (i := 962) rfl rfl, List.forall_mem_cons.mpr ⟨mem_g (i := 963) rfl rfl, List.forall_mem_cons.mpr ⟨mem_g (i := 964) rfl rfl, List.forall_mem_cons.mpr ⟨mem_g (i := 965) rfl rfl, List.forall_mem_cons.mpr ⟨mem_g (i := 966) rfl rfl, List.forall_mem_cons.mpr ⟨mem_g (i := 967) rfl rfl, List.forall_mem_cons.mpr ⟨mem_g (i := 968) rfl rfl, List.forall_mem_cons.mpr ⟨mem_g (i := 969) rfl rfl, List.forall_mem_cons.mpr ⟨mem_g (i := 970) rfl rfl, List.forall_mem_cons.mpr ⟨mem_g (i := 971) rfl rfl, List.forall_mem_cons.mpr ⟨mem_g (i := 972) rfl rfl, List.forall_mem_cons.mpr ⟨mem_g (i := 976) rfl rfl, List.forall_mem_cons.mpr ⟨mem_g (i := 980) rfl rfl, List.forall_mem_cons.mpr ⟨mem_g (i := 992) rfl rfl, List.forall_mem_cons.mpr ⟨mem_g (i := 996) rfl rfl, List.forall_mem_cons.mpr ⟨mem_g (i := 999) rfl rfl, List.forall_mem_cons.mpr ⟨mem_g (i := 1002) rfl rfl, List.forall_mem_cons.mpr ⟨mem_g (i := 1009) rfl rfl, List.forall_mem_cons.mpr ⟨mem_g (i := 1014) rfl rfl, List.forall_mem_cons.mpr ⟨mem_g (i := 1018) rfl rfl, List.forall_mem_cons.mpr ⟨mem_g (i := 1022) rfl rfl, List.forall_mem_cons.mpr ⟨mem_g (i := 1026) rfl rfl, List.forall_mem_cons.mpr ⟨mem_g (i := 1030) rfl rfl, List.forall_mem_cons.mpr ⟨mem_g (i := 1034) rfl rfl, List.forall_mem_cons.mpr ⟨mem_g (i := 1038) rfl rfl, List.forall_mem_cons.mpr ⟨mem_g (i := 1042) rfl rfl, List.forall_mem_cons.mpr ⟨mem_g (i := 1050) rfl rfl, List.forall_mem_cons.mpr ⟨mem_g (i := 1071) rfl rfl, List.forall_mem_cons.mpr ⟨mem_g (i := 1079) rfl rfl, List.forall_mem_cons.mpr ⟨mem_g (i := 1080) rfl rfl, List.forall_mem_cons.mpr ⟨mem_g (i := 1081) rfl rfl, List.forall_mem_cons.mpr ⟨mem_g (i := 1085) rfl rfl, List.forall_mem_cons.mpr ⟨mem_g (i := 1089) rfl rfl, List.forall_mem_cons.mpr ⟨mem_g (i := 1093) rfl rfl, List.forall_mem_cons.mpr ⟨mem_g (i := 1097) rfl rfl, List.forall_mem_cons.mpr ⟨mem_g (i := 1101) rfl rfl, List.forall_mem_cons.mpr ⟨mem_g (i := 1109) rfl rfl, List.forall_mem_cons.mpr ⟨mem_g (i := 1110) rfl rfl, List.forall_mem_cons.mpr ⟨mem_g (i := 1114) rfl rfl, List.forall_mem_cons.mpr ⟨mem_g (i := 1118) rfl rfl, List.forall_mem_cons.mpr ⟨mem_g (i := 1122) rfl rfl, List.forall_mem_cons.mpr ⟨mem_g (i := 1138) rfl rfl, List.forall_mem_cons.mpr ⟨mem_g (i := 1139) rfl rfl, List.forall_mem_cons.mpr ⟨mem_g (i := 1140) rfl rfl, List.forall_mem_cons.mpr ⟨mem_g (i := 1144) rfl rfl, List.forall_mem_cons.mpr ⟨mem_g (i := 1151) rfl rfl, List.forall_mem_cons.mpr ⟨mem_g (i := 1160) rfl rfl, List.forall_mem_cons.mpr ⟨mem_g (i := 1167) rfl rfl, List.forall_mem_cons.mpr ⟨mem_g (i := 1172) rfl rfl, List.forall_mem_cons.mpr ⟨mem_g (i := 1175) rfl rfl, List.forall_mem_cons.mpr ⟨mem_g (i := 1183) rfl rfl, List.forall_mem_cons.mpr ⟨mem_g (i := 1184) rfl rfl, List.forall_mem_cons.mpr ⟨mem_g (i := 1185) rfl rfl, List.forall_mem_cons.mpr ⟨mem_g (i := 1186) rfl rfl, List.forall_mem_cons.mpr ⟨mem_g (i := 1190) rfl rfl, List.forall_mem_cons.mpr ⟨mem_g (i := 1198) rfl rfl, List.forall_mem_cons.mpr ⟨mem_g (i := 1202) rfl rfl, List.forall_mem_cons.mpr ⟨mem_g (i := 1211) rfl rfl, List.forall_mem_cons.mpr ⟨mem_g (i := 1215) rfl rfl, List.forall_mem_cons.mpr ⟨mem_g (i := 1231) rfl rfl, List.forall_mem_cons.mpr ⟨mem_g (i := 1235) rfl rfl, List.forall_mem_cons.mpr ⟨mem_g (i := 1239) rfl rfl, fun _ h => absurd h List.not_mem_nil⟩⟩⟩⟩⟩⟩⟩⟩⟩⟩⟩⟩⟩⟩⟩⟩⟩⟩⟩⟩⟩⟩⟩⟩⟩⟩⟩⟩⟩⟩⟩⟩⟩⟩⟩⟩⟩⟩⟩⟩⟩⟩⟩⟩⟩⟩⟩⟩⟩⟩⟩⟩⟩⟩⟩⟩⟩⟩⟩⟩⟩⟩⟩⟩⟩⟩⟩⟩⟩⟩⟩⟩⟩⟩⟩⟩⟩⟩⟩⟩⟩⟩⟩⟩⟩⟩⟩⟩⟩⟩⟩⟩⟩⟩⟩⟩⟩⟩⟩⟩⟩⟩⟩⟩⟩⟩⟩⟩⟩⟩⟩⟩
set_option maxRecDepth 100000 in
theorem lkT_8_ok : ∀ e ∈ lkT_8, lnkOK 8 e := List.forall_mem_cons.mpr ⟨mem_l (i := 4) rfl, List.forall_mem_cons.mpr ⟨mem_g (i := 480) rfl rfl, fun _ h => absurd h List.not_mem_nil⟩⟩
set_option maxRecDepth 100000 in
theorem lkT_9_ok : ∀ e ∈ lkT_9, lnkOK 9 e := List.forall_mem_cons.mpr ⟨mem_g (i := 637) rfl rfl, List.forall_mem_cons.mpr ⟨mem_g (i := 638) rfl rfl, List.forall_mem_cons.mpr ⟨mem_g (i := 639) rfl rfl, fun _ h => absurd h List.not_mem_nil⟩⟩⟩
set_option maxRecDepth 100000 in
theorem lkT_10_ok : ∀ e ∈ lkT_10, lnkOK 10 e := List.forall_mem_cons.mpr ⟨mem_g (i := 75) rfl rfl, List.forall_mem_cons.mpr ⟨mem_g (i := 77) rfl rfl, List.forall_mem_cons.mpr ⟨mem_g (i := 257) rfl rfl, List.forall_mem_cons.mpr ⟨mem_g (i := 272) rfl rfl, List.forall_mem_cons.mpr ⟨mem_g (i := 280) rfl rfl, List.forall_mem_cons.mpr ⟨mem_g (i := 410) rfl rfl, List.forall_mem_cons.mpr ⟨mem_g (i := 434) rfl rfl, List.forall_mem_cons.mpr ⟨mem_g (i := 472) rfl rfl, List.forall_mem_cons.mpr ⟨mem_g (i := 483) rfl rfl, List.forall_mem_cons.mpr ⟨mem_g (i := 521) rfl rfl, List.forall_mem_cons.mpr ⟨mem_g (i := 529) rfl rfl, List.forall_mem_cons.mpr ⟨mem_g (i := 537) rfl rfl, List.forall_mem_cons.mpr ⟨mem_g (i := 541) rfl rfl, List.forall_mem_cons.mpr ⟨mem_g (i := 545) rfl rfl, List.forall_mem_cons.mpr ⟨mem_g (i := 549) rfl rfl, List.forall_mem_cons.mpr ⟨mem_g (i := 559) rfl rfl, List.forall_mem_cons.mpr ⟨mem_g (i := 588) rfl rfl, List.forall_mem_cons.mpr ⟨mem_g (i := 601) rfl rfl, List.forall_mem_cons.mpr ⟨mem_g (i := 610) rfl rfl, List.forall_mem_cons.mpr ⟨mem_g (i := 620) rfl rfl, List.forall_mem_cons.mpr ⟨mem_g (i := 643) rfl rfl, List.forall_mem_cons.mpr ⟨mem_g (i := 655) rfl rfl, List.forall_mem_cons.mpr ⟨mem_g (i := 659) rfl rfl, List.forall_mem_cons.mpr ⟨mem_g (i := 674) rfl rfl, List.forall_mem_cons.mpr ⟨mem_g (i := 691) rfl rfl, List.forall_mem_cons.mpr ⟨mem_g (i := 703) rfl rfl, List.forall_mem_cons.mpr ⟨mem_g (i := 724) rfl rfl, List.forall_mem_cons.mpr ⟨mem_g (i := 737) rfl rfl, List.forall_mem_cons.mpr ⟨mem_g (i := 745) rfl rfl, List.forall_mem_cons.mpr ⟨mem_g (i := 771) rfl rfl, List.forall_mem_cons.mpr ⟨mem_g (i := 787) rfl rfl, List.forall_mem_cons.mpr ⟨mem_g (i := 792) rfl rfl, List.forall_mem_cons.mpr ⟨mem_g (i := 810) rfl rfl, List.forall_mem_cons.mpr ⟨mem_g (i := 812) rfl rfl, List.forall_mem_cons.mpr ⟨mem_g (i := 918) rfl rfl, List.forall_mem_cons.mpr ⟨mem_g (i := 926) rfl rfl, List.forall_mem_cons.mpr ⟨mem_g (i := 930) rfl rfl, List.forall_mem_cons.mpr ⟨mem_g (i := 984) rfl rfl, List.forall_mem_cons.mpr ⟨mem_g (i := 988) rfl rfl, List.forall_mem_cons.mpr ⟨mem_g (i := 1005) rfl rfl, List.forall_mem_cons.mpr ⟨mem_g (i := 1010) rfl rfl, List.forall_mem_cons.mpr ⟨mem_g (i := 1046) rfl rfl, List.forall_mem_cons.mpr ⟨mem_g (i := 1051) rfl rfl, List.forall_mem_cons.mpr ⟨mem_g (i := 1055) rfl rfl, List.forall_mem_cons.mpr ⟨mem_g (i := 1059) rfl rfl, List.forall_mem_cons.mpr ⟨mem_g (i := 1063) rfl rfl, List.forall_mem_cons.mpr ⟨mem_g (i := 1067) rfl rfl, List.forall_mem_cons.mpr ⟨mem_g (i := 1075) rfl rfl, List.forall_mem_cons.mpr ⟨mem_g (i := 1105) rfl rfl, List.forall_mem_cons.mpr ⟨mem_g (i := 1126) rfl rfl, List.forall_mem_cons.mpr ⟨mem_g (i := 1130) rfl rfl, List.forall_mem_cons.mpr ⟨mem_g (i := 1134) rfl rfl, List.forall_mem_cons.mpr ⟨mem_g (i := 1147) rfl rfl, List.forall_mem_cons.mpr ⟨mem_g (i := 1152) rfl rfl, List.forall_mem_cons.mpr ⟨mem_g (i := 1156) rfl rfl, List.forall_mem_cons.mpr ⟨mem_g (i := 1163) rfl rfl, List.forall_mem_cons.mpr ⟨mem_g (i := 1168) rfl rfl, List.forall_mem_cons.mpr ⟨mem_g (i := 1179) rfl rfl, List.forall_mem_cons.mpr ⟨mem_g (i := 1194) rfl rfl, List.forall_mem_cons.mpr ⟨mem_g (i := 1203) rfl rfl, List.forall_mem_cons.mpr ⟨mem_g (i := 1207) rfl rfl, List.forall_mem_cons.mpr ⟨mem_g (i := 1219) rfl rfl, List.forall_mem_cons.mpr ⟨mem_g (i := 1223) rfl rfl, List.forall_mem_cons.mpr ⟨mem_g (i := 1227) rfl rfl, fun _ h => absurd h List.not_mem_nil⟩⟩⟩⟩⟩⟩⟩⟩⟩⟩⟩⟩⟩⟩⟩⟩⟩⟩⟩⟩⟩⟩⟩⟩⟩⟩⟩⟩⟩⟩⟩⟩⟩⟩⟩⟩⟩⟩⟩⟩⟩⟩⟩⟩⟩⟩⟩⟩⟩⟩⟩⟩⟩⟩⟩⟩⟩⟩⟩⟩⟩⟩⟩⟩
set_option maxRecDepth 100000 in
theorem infOK_0 : ∀ q ∈ am_inf_0, infOK q := List.forall_mem_cons.mpr ⟨⟨rfl, rfl, by decide +kernel, by decide +kernel, fun _ => ⟨mem_g (i := 87) rfl rfl, mem_g (i := 60) rfl rfl, ⟨mem_g (i := 86) rfl rfl, rfl, rfl⟩⟩⟩, List.forall_mem_cons.mpr ⟨⟨rfl, rfl, by decide +kernel, by decide +kernel, fun _ => ⟨mem_g (i := 92) rfl rfl, mem_g (i := 60) rfl rfl, ⟨mem_g (i := 90) rfl rfl, mem_g (i := 91) rfl rfl, rfl⟩⟩⟩, List.forall_mem_cons.mpr ⟨⟨rfl, rfl, by decide +kernel, by decide +kernel, fun _ => ⟨mem_g (i := 287) rfl rfl, mem_g (i := 60) rfl rfl, ⟨mem_g (i := 285) rfl rfl, mem_g (i := 286) rfl rfl, rfl⟩⟩⟩, List.forall_mem_cons.mpr ⟨⟨rfl, rfl, by decide +kernel, by decide +kernel, fun _ => ⟨mem_g (i := 375) rfl rfl, mem_g (i := 60) rfl rfl, ⟨mem_g (i := 373) rfl rfl, mem_g (i := 374) rfl rfl, rfl⟩⟩⟩, List.forall_mem_cons.mpr ⟨⟨rfl, rfl, by decide +kernel, by decide +kernel, fun _ => ⟨mem_g (i := 441) rfl rfl, mem_g (i := 60) rfl rfl, ⟨mem_g (i := 439) rfl rfl, mem_g (i := 440) rfl rfl, rfl⟩⟩⟩, List.forall_mem_cons.mpr ⟨⟨rfl, rfl, by decide +kernel, by decide +kernel, fun _ => ⟨mem_g (i := 494) rfl rfl, mem_g (i := 60) rfl rfl, ⟨mem_g (i := 492) rfl rfl, mem_g (i := 493) rfl rfl, rfl⟩⟩⟩, List.forall_mem_cons.mpr ⟨⟨rfl, rfl, by decide +kernel, by decide +kernel, fun _ => ⟨mem_g (i := 499) rfl rfl, mem_g (i := 60) rfl rfl, ⟨mem_g (i := 497) rfl rfl, mem_g (i := 498) rfl rfl, rfl⟩⟩⟩, List.forall_mem_cons.mpr ⟨⟨rfl, rfl, by decide +kernel, by decide +kernel, fun _ => ⟨mem_g (i := 579) rfl rfl, mem_g (i := 60) rfl rfl, ⟨mem_g (i := 577) rfl rfl, mem_g (i := 578) rfl rfl, rfl⟩⟩⟩, List.forall_mem_cons.mpr ⟨⟨rfl, rfl, by decide +kernel, by decide +kernel, fun _ => ⟨mem_g (i := 801) rfl rfl, mem_g (i := 60) rfl rfl, ⟨mem_g (i := 799) rfl rfl, mem_g (i := 800) rfl rfl, rfl⟩⟩⟩, List.forall_mem_cons.mpr ⟨⟨rfl, rfl, by decide +kernel, by decide +kernel, fun _ => ⟨mem_g (i := 583) rfl rfl, mem_g (i := 60) rfl rfl, ⟨mem_g (i := 581) rfl rfl, mem_g (i := 582) rfl rfl, rfl⟩⟩⟩, List.forall_mem_cons.mpr ⟨⟨rfl, rfl, by decide +kernel, by decide +kernel, fun _ => ⟨mem_g (i := 446) rfl rfl, mem_g (i := 60) rfl rfl, ⟨mem_g (i := 444) rfl rfl, mem_g (i := 445) rfl rfl, rfl⟩⟩⟩, List.forall_mem_cons.mpr ⟨⟨rfl, rfl, by decide +kernel, by decide +kernel, fun _ => ⟨mem_g (i := 450) rfl rfl, mem_g (i := 60) rfl rfl, ⟨mem_g (i := 448) rfl rfl, mem_g (i := 449) rfl rfl, rfl⟩⟩⟩, List.forall_mem_cons.mpr ⟨⟨rfl, rfl, by decide +kernel, by decide +kernel, fun _ => ⟨mem_g (i := 454) rfl rfl, mem_g (i := 60) rfl rfl, ⟨mem_g (i := 452) rfl rfl, mem_g (i := 453) rfl rfl, rfl⟩⟩⟩, List.forall_mem_cons.mpr ⟨⟨rfl, rfl, by decide +kernel, by decide +kernel, fun _ => ⟨mem_g (i := 461) rfl rfl, mem_g (i := 60) rfl rfl, ⟨mem_g (i := 459) rfl rfl, mem_g (i := 460) rfl rfl, rfl⟩⟩⟩, List.forall_mem_cons.mpr ⟨⟨rfl, rfl, by decide +kernel, by decide +kernel, fun _ => ⟨mem_g (i := 468) rfl rfl, mem_g (i := 60) rfl rfl, ⟨mem_g (i := 466) rfl rfl, mem_g (i := 467) rfl rfl, rfl⟩⟩⟩, List.forall_mem_cons.mpr ⟨⟨rfl, rfl, by decide +kernel, by decide +kernel, fun _ => ⟨mem_g (i := 490) rfl rfl, mem_g (i := 60) rfl rfl, ⟨mem_g (i := 488) rfl rfl, mem_g (i := 489) rfl rfl, rfl⟩⟩⟩, List.forall_mem_cons.mpr ⟨⟨rfl, rfl, by decide +kernel, by decide +kernel, fun _ => ⟨mem_g (i := 608) rfl rfl, mem_g (i := 60) rfl rfl, ⟨mem_g (i := 606) rfl rfl, mem_g (i := 607) rfl rfl, rfl⟩⟩⟩, List.forall_mem_cons.mpr ⟨⟨rfl, rfl, by decide +kernel, by decide +kernel, fun _ => ⟨mem_g (i := 805) rfl rfl, mem_g (i := 60) rfl rfl, ⟨mem_g (i := 803) rfl rfl, mem_g (i := 804) rfl rfl, rfl⟩⟩⟩, List.forall_mem_cons.mpr ⟨⟨rfl, rfl, by decide +kernel, by decide +kernel, fun _ => ⟨mem_g (i := 408) rfl rfl, mem_g (i := 60) rfl rfl, ⟨mem_g (i := 406) rfl rfl, mem_g (i := 407) rfl rfl, rfl⟩⟩⟩, List.forall_mem_cons.mpr ⟨⟨rfl, rfl, by decide +kernel, by decide +kernel, fun _ => ⟨mem_g (i := 396) rfl rfl, mem_g (i := 60) rfl rfl, ⟨mem_g (i := 394) rfl rfl, mem_g (i := 395) rfl rfl, rfl⟩⟩⟩, List.forall_mem_cons.mpr ⟨⟨rfl, rfl, by decide +kernel, by decide +kernel, fun _ => ⟨mem_g (i := 400) rfl rfl, mem_g (i := 60) rfl rfl, ⟨mem_g (i := 398) rfl rfl, mem_g (i := 399) rfl rfl, rfl⟩⟩⟩, List.forall_mem_cons.mpr ⟨⟨rfl, rfl, by decide +kernel, by decide +kernel, fun _ => ⟨mem_g (i := 404) rfl rfl, mem_g (i := 60) rfl rfl, ⟨mem_g (i := 402) rfl rfl, mem_g (i := 403) rfl rfl, rfl⟩⟩⟩, List.forall_mem_cons.mpr ⟨⟨rfl, rfl, by decide +kernel, by decide +kernel, fun _ => ⟨mem_g (i := 528) rfl rfl, mem_g (i := 60) rfl rfl, ⟨mem_g (i := 526) rfl rfl, mem_g (i := 527) rfl rfl, rfl⟩⟩⟩, List.forall_mem_cons.mpr ⟨⟨rfl, rfl, by decide +kernel, by decide +kernel, fun _ => ⟨mem_g (i := 536) rfl rfl, mem_g (i := 60) rfl rfl, ⟨mem_g (i := 534) rfl rfl, mem_g (i := 535) rfl rfl, rfl⟩⟩⟩, List.forall_mem_cons.mpr ⟨⟨rfl, rfl, by decide +kernel, by decide +kernel, fun _ => ⟨mem_g (i := 507) rfl rfl, mem_g (i := 60) rfl rfl, ⟨mem_g (i := 505) rfl rfl, mem_g (i := 506) rfl rfl, rfl⟩⟩⟩, List.forall_mem_cons.mpr ⟨⟨rfl, rfl, by decide +kernel, by decide +kernel, fun _ => ⟨mem_g (i := 511) rfl rfl, mem_g (i := 60) rfl rfl, ⟨mem_g (i := 510) rfl rfl, mem_g (i := 9) rfl rfl, rfl⟩⟩⟩, List.forall_mem_cons.mpr ⟨⟨rfl, rfl, by decide +kernel, by decide +kernel, fun _ => ⟨mem_g (i := 515) rfl rfl, mem_g (i := 60) rfl rfl, ⟨mem_g (i := 514) rfl rfl, mem_g (i := 10) rfl rfl, rfl⟩⟩⟩, List.forall_mem_cons.mpr ⟨⟨rfl, rfl, by decide +kernel, by decide +kernel, fun _ => ⟨mem_g (i := 519) rfl rfl, mem_g (i := 60) rfl rfl, ⟨mem_g (i := 518) rfl rfl, mem_g (i := 11) rfl rfl, rfl⟩⟩⟩, List.forall_mem_cons.mpr ⟨⟨rfl, rfl, by decide +kernel, by decide +kernel, fun _ => ⟨mem_g (i := 192) rfl rfl, mem_g (i := 66) rfl rfl, ⟨mem_g (i := 191) rfl rfl, rfl, rfl⟩⟩⟩, List.forall_mem_cons.mpr ⟨⟨rfl, rfl, by decide +kernel, by decide +kernel, fun _ => ⟨mem_g (i := 723) rfl rfl, mem_g (i := 66) rfl rfl, ⟨mem_g (i := 721) rfl rfl, mem_g (i := 722) rfl rfl, rfl⟩⟩⟩, fun _ h => absurd h List.not_mem_nil⟩⟩⟩⟩⟩⟩⟩⟩⟩⟩⟩⟩⟩⟩⟩⟩⟩⟩⟩⟩⟩⟩⟩⟩⟩⟩⟩⟩⟩⟩
set_option maxRecDepth 100000 in
theorem infOK_1 : ∀ q ∈ am_inf_1, infOK q := List.forall_mem_cons.mpr ⟨⟨rfl, rfl, by decide +kernel, by decide +kernel, fun _ => ⟨mem_g (i := 735) rfl rfl, mem_g (i := 66) rfl rfl, ⟨mem_g (i := 733) rfl rfl, mem_g (i := 734) rfl rfl, rfl⟩⟩⟩, List.forall_mem_cons.mpr ⟨⟨rfl, rfl, by decide +kernel, by decide +kernel, fun _ => ⟨mem_g (i := 429) rfl rfl, mem_g (i := 66) rfl rfl, ⟨mem_g (i := 427) rfl rfl, mem_g (i := 428) rfl rfl, rfl⟩⟩⟩, List.forall_mem_cons.mpr ⟨⟨rfl, rfl, by decide +kernel, by decide +kernel, fun _ => ⟨mem_g (i := 761) rfl rfl, mem_g (i := 66) rfl rfl, ⟨mem_g (i := 759) rfl rfl, mem_g (i := 760) rfl rfl, rfl⟩⟩⟩, List.forall_mem_cons.mpr ⟨⟨rfl, rfl, by decide +kernel, by decide +kernel, fun _ => ⟨mem_g (i := 765) rfl rfl, mem_g (i := 66) rfl rfl, ⟨mem_g (i := 763) rfl rfl, mem_g (i := 764) rfl rfl, rfl⟩⟩⟩, List.forall_mem_cons.mpr ⟨⟨rfl, rfl, by decide +kernel, by decide +kernel, fun _ => ⟨mem_g (i := 769) rfl rfl, mem_g (i := 66) rfl rfl, ⟨mem_g (i := 767) rfl rfl, mem_g (i := 768) rfl rfl, rfl⟩⟩⟩, List.forall_mem_cons.mpr ⟨⟨rfl, rfl, by decide +kernel, by decide +kernel, fun _ => ⟨mem_g (i := 185) rfl rfl, mem_g (i := 65) rfl rfl, ⟨mem_g (i := 184) rfl rfl, rfl, rfl⟩⟩⟩, List.forall_mem_cons.mpr ⟨⟨rfl, rfl, by decide +kernel, by decide +kernel, fun _ => ⟨mem_g (i := 698) rfl rfl, mem_g (i := 65) rfl rfl, ⟨mem_g (i := 696) rfl rfl, mem_g (i := 697) rfl rfl, rfl⟩⟩⟩, List.forall_mem_cons.mpr ⟨⟨rfl, rfl, by decide +kernel, by decide +kernel, fun _ => ⟨mem_g (i := 715) rfl rfl, mem_g (i := 65) rfl rfl, ⟨mem_g (i := 713) rfl rfl, mem_g (i := 714) rfl rfl, rfl⟩⟩⟩, List.forall_mem_cons.mpr ⟨⟨rfl, rfl, by decide +kernel, by decide +kernel, fun _ => ⟨mem_g (i := 809) rfl rfl, mem_g (i := 65) rfl rfl, ⟨mem_g (i := 807) rfl rfl, mem_g (i := 808) rfl rfl, rfl⟩⟩⟩, List.forall_mem_cons.mpr ⟨⟨rfl, rfl, by decide +kernel, by decide +kernel, fun _ => ⟨mem_g (i := 421) rfl rfl, mem_g (i := 65) rfl rfl, ⟨mem_g (i := 419) rfl rfl, mem_g (i := 420) rfl rfl, rfl⟩⟩⟩, List.forall_mem_cons.mpr ⟨⟨rfl, rfl, by decide +kernel, by decide +kernel, fun _ => ⟨mem_g (i := 702) rfl rfl, mem_g (i := 65) rfl rfl, ⟨mem_g (i := 700) rfl rfl, mem_g (i := 701) rfl rfl, rfl⟩⟩⟩, List.forall_mem_cons.mpr ⟨⟨rfl, rfl, by decide +kernel, by decide +kernel, fun _ => ⟨mem_g (i := 425) rfl rfl, mem_g (i := 65) rfl rfl, ⟨mem_g (i := 423) rfl rfl, mem_g (i := 424) rfl rfl, rfl⟩⟩⟩, List.forall_mem_cons.mpr ⟨⟨rfl, rfl, by decide +kernel, by decide +kernel, fun _ => ⟨mem_g (i := 710) rfl rfl, mem_g (i := 65) rfl rfl, ⟨mem_g (i := 708) rfl rfl, mem_g (i := 709) rfl rfl, rfl⟩⟩⟩, List.forall_mem_cons.mpr ⟨⟨rfl, rfl, by decide +kernel, by decide +kernel, fun _ => ⟨mem_g (i := 731) rfl rfl, mem_g (i := 65) rfl rfl, ⟨mem_g (i := 729) rfl rfl, mem_g (i := 730) rfl rfl, rfl⟩⟩⟩, List.forall_mem_cons.mpr ⟨⟨rfl, rfl, by decide +kernel, by decide +kernel, fun _ => ⟨mem_g (i := 744) rfl rfl, mem_g (i := 65) rfl rfl, ⟨mem_g (i := 742) rfl rfl, mem_g (i := 743) rfl rfl, rfl⟩⟩⟩, List.forall_mem_cons.mpr ⟨⟨rfl, rfl, by decide +kernel, by decide +kernel, fun _ => ⟨mem_g (i := 753) rfl rfl, mem_g (i := 65) rfl rfl, ⟨mem_g (i := 751) rfl rfl, mem_g (i := 752) rfl rfl, rfl⟩⟩⟩, List.forall_mem_cons.mpr ⟨⟨rfl, rfl, by decide +kernel, by decide +kernel, fun _ => ⟨mem_g (i := 757) rfl rfl, mem_g (i := 65) rfl rfl, ⟨mem_g (i := 756) rfl rfl, mem_g (i := 17) rfl rfl, rfl⟩⟩⟩, List.forall_mem_cons.mpr ⟨⟨rfl, rfl, by decide +kernel, by decide +kernel, fun _ => ⟨mem_g (i := 719) rfl rfl, mem_g (i := 65) rfl rfl, ⟨mem_g (i := 718) rfl rfl, mem_g (i := 16) rfl rfl, rfl⟩⟩⟩, List.forall_mem_cons.mpr ⟨⟨rfl, rfl, by decide +kernel, by decide +kernel, fun _ => ⟨mem_g (i := 778) rfl rfl, mem_g (i := 65) rfl rfl, ⟨mem_g (i := 776) rfl rfl, mem_g (i := 777) rfl rfl, rfl⟩⟩⟩, List.forall_mem_cons.mpr ⟨⟨rfl, rfl, by decide +kernel, by decide +kernel, fun _ => ⟨mem_g (i := 782) rfl rfl, mem_g (i := 65) rfl rfl, ⟨mem_g (i := 781) rfl rfl, mem_g (i := 18) rfl rfl, rfl⟩⟩⟩, List.forall_mem_cons.mpr ⟨⟨rfl, rfl, by decide +kernel, by decide +kernel, fun _ => ⟨mem_g (i := 786) rfl rfl, mem_g (i := 65) rfl rfl, ⟨mem_g (i := 785) rfl rfl, mem_g (i := 19) rfl rfl, rfl⟩⟩⟩, List.forall_mem_cons.mpr ⟨⟨rfl, rfl, by decide +kernel, by decide +kernel, fun _ => ⟨mem_g (i := 148) rfl rfl, mem_g (i := 63) rfl rfl, ⟨mem_g (i := 147) rfl rfl, rfl, rfl⟩⟩⟩, List.forall_mem_cons.mpr ⟨⟨rfl, rfl, by decide +kernel, by decide +kernel, fun _ => ⟨mem_g (i := 556) rfl rfl, mem_g (i := 63) rfl rfl, ⟨mem_g (i := 554) rfl rfl, mem_g (i := 555) rfl rfl, rfl⟩⟩⟩, List.forall_mem_cons.mpr ⟨⟨rfl, rfl, by decide +kernel, by decide +kernel, fun _ => ⟨mem_g (i := 566) rfl rfl, mem_g (i := 63) rfl rfl, ⟨mem_g (i := 564) rfl rfl, mem_g (i := 565) rfl rfl, rfl⟩⟩⟩, List.forall_mem_cons.mpr ⟨⟨rfl, rfl, by decide +kernel, by decide +kernel, fun _ => ⟨mem_g (i := 587) rfl rfl, mem_g (i := 63) rfl rfl, ⟨mem_g (i := 585) rfl rfl, mem_g (i := 586) rfl rfl, rfl⟩⟩⟩, List.forall_mem_cons.mpr ⟨⟨rfl, rfl, by decide +kernel, by decide +kernel, fun _ => ⟨mem_g (i := 572) rfl rfl, mem_g (i := 63) rfl rfl, ⟨mem_g (i := 571) rfl rfl, mem_g (i := 12) rfl rfl, rfl⟩⟩⟩, List.forall_mem_cons.mpr ⟨⟨rfl, rfl, by decide +kernel, by decide +kernel, fun _ => ⟨mem_g (i := 595) rfl rfl, mem_g (i := 63) rfl rfl, ⟨mem_g (i := 593) rfl rfl, mem_g (i := 594) rfl rfl, rfl⟩⟩⟩, List.forall_mem_cons.mpr ⟨⟨rfl, rfl, by decide +kernel, by decide +kernel, fun _ => ⟨mem_g (i := 599) rfl rfl, mem_g (i := 63) rfl rfl, ⟨mem_g (i := 598) rfl rfl, mem_g (i := 13) rfl rfl, rfl⟩⟩⟩, List.forall_mem_cons.mpr ⟨⟨rfl, rfl, by decide +kernel, by decide +kernel, fun _ => ⟨mem_g (i := 617) rfl rfl, mem_g (i := 63) rfl rfl, ⟨mem_g (i := 615) rfl rfl, mem_g (i := 616) rfl rfl, rfl⟩⟩⟩, List.forall_mem_cons.mpr ⟨⟨rfl, rfl, by decide +kernel, by decide +kernel, fun _ => ⟨mem_g (i := 627) rfl rfl, mem_g (i := 63) rfl rfl, ⟨mem_g (i := 625) rfl rfl, mem_g (i := 626) rfl rfl, rfl⟩⟩⟩, fun _ h => absurd h List.not_mem_nil⟩⟩⟩⟩⟩⟩⟩⟩⟩⟩⟩⟩⟩⟩⟩⟩⟩⟩⟩⟩⟩⟩⟩⟩⟩⟩⟩⟩⟩⟩
set_option maxRecDepth 100000 in
theorem infOK_2 : ∀ q ∈ am_inf_2, infOK q := List.forall_mem_cons.mpr ⟨⟨rfl, rfl, by decide +kernel, by decide +kernel, fun _ => ⟨mem_g (i := 632) rfl rfl, mem_g (i := 63) rfl rfl, ⟨mem_g (i := 631) rfl rfl, mem_g (i := 14) rfl rfl, rfl⟩⟩⟩, List.forall_mem_cons.mpr ⟨⟨rfl, rfl, by decide +kernel, by decide +kernel, fun _ => ⟨mem_g (i := 642) rfl rfl, mem_g (i := 63) rfl rfl, mem_g (i := 641) rfl rfl⟩⟩, List.forall_mem_cons.mpr ⟨⟨rfl, rfl, by decide +kernel, by decide +kernel, fun _ => ⟨mem_g (i := 478) rfl rfl, mem_g (i := 73) rfl rfl, mem_g (i := 477) rfl rfl⟩⟩, List.forall_mem_cons.mpr ⟨⟨rfl, rfl, by decide +kernel, by decide +kernel, fun _ => ⟨mem_g (i := 457) rfl rfl, mem_g (i := 73) rfl rfl, mem_g (i := 456) rfl rfl⟩⟩, List.forall_mem_cons.mpr ⟨⟨rfl, rfl, by decide +kernel, by decide +kernel, fun _ => ⟨mem_g (i := 464) rfl rfl, mem_g (i := 73) rfl rfl, mem_g (i := 463) rfl rfl⟩⟩, List.forall_mem_cons.mpr ⟨⟨rfl, rfl, by decide +kernel, by decide +kernel, fun _ => ⟨mem_g (i := 471) rfl rfl, mem_g (i := 73) rfl rfl, mem_g (i := 470) rfl rfl⟩⟩, List.forall_mem_cons.mpr ⟨⟨rfl, rfl, by decide +kernel, by decide +kernel, fun _ => ⟨mem_g (i := 163) rfl rfl, mem_g (i := 64) rfl rfl, ⟨mem_g (i := 162) rfl rfl, rfl, rfl⟩⟩⟩, List.forall_mem_cons.mpr ⟨⟨rfl, rfl, by decide +kernel, by decide +kernel, fun _ => ⟨mem_g (i := 650) rfl rfl, mem_g (i := 64) rfl rfl, ⟨mem_g (i := 648) rfl rfl, mem_g (i := 649) rfl rfl, rfl⟩⟩⟩, List.forall_mem_cons.mpr ⟨⟨rfl, rfl, by decide +kernel, by decide +kernel, fun _ => ⟨mem_g (i := 417) rfl rfl, mem_g (i := 64) rfl rfl, ⟨mem_g (i := 415) rfl rfl, mem_g (i := 416) rfl rfl, rfl⟩⟩⟩, List.forall_mem_cons.mpr ⟨⟨rfl, rfl, by decide +kernel, by decide +kernel, fun _ => ⟨mem_g (i := 654) rfl rfl, mem_g (i := 64) rfl rfl, ⟨mem_g (i := 652) rfl rfl, mem_g (i := 653) rfl rfl, rfl⟩⟩⟩, List.forall_mem_cons.mpr ⟨⟨rfl, rfl, by decide +kernel, by decide +kernel, fun _ => ⟨mem_g (i := 666) rfl rfl, mem_g (i := 64) rfl rfl, ⟨mem_g (i := 664) rfl rfl, mem_g (i := 665) rfl rfl, rfl⟩⟩⟩, List.forall_mem_cons.mpr ⟨⟨rfl, rfl, by decide +kernel, by decide +kernel, fun _ => ⟨mem_g (i := 670) rfl rfl, mem_g (i := 64) rfl rfl, ⟨mem_g (i := 669) rfl rfl, mem_g (i := 15) rfl rfl, rfl⟩⟩⟩, List.forall_mem_cons.mpr ⟨⟨rfl, rfl, by decide +kernel, by decide +kernel, fun _ => ⟨mem_g (i := 681) rfl rfl, mem_g (i := 64) rfl rfl, ⟨mem_g (i := 679) rfl rfl, mem_g (i := 680) rfl rfl, rfl⟩⟩⟩, List.forall_mem_cons.mpr ⟨⟨rfl, rfl, by decide +kernel, by decide +kernel, fun _ => ⟨mem_g (i := 686) rfl rfl, mem_g (i := 64) rfl rfl, mem_g (i := 685) rfl rfl⟩⟩, List.forall_mem_cons.mpr ⟨⟨rfl, rfl, by decide +kernel, by decide +kernel, fun _ => ⟨mem_g (i := 689) rfl rfl, mem_g (i := 64) rfl rfl, mem_g (i := 688) rfl rfl⟩⟩, List.forall_mem_cons.mpr ⟨⟨rfl, rfl, by decide +kernel, by decide +kernel, fun _ => ⟨mem_g (i := 124) rfl rfl, mem_g (i := 62) rfl rfl, ⟨mem_g (i := 123) rfl rfl, rfl, rfl⟩⟩⟩, List.forall_mem_cons.mpr ⟨⟨rfl, rfl, by decide +kernel, by decide +kernel, fun _ => ⟨mem_g (i := 267) rfl rfl, mem_g (i := 62) rfl rfl, ⟨mem_g (i := 265) rfl rfl, mem_g (i := 266) rfl rfl, rfl⟩⟩⟩, List.forall_mem_cons.mpr ⟨⟨rfl, rfl, by decide +kernel, by decide +kernel, fun _ => ⟨mem_g (i := 279) rfl rfl, mem_g (i := 62) rfl rfl, ⟨mem_g (i := 277) rfl rfl, mem_g (i := 278) rfl rfl, rfl⟩⟩⟩, List.forall_mem_cons.mpr ⟨⟨rfl, rfl, by decide +kernel, by decide +kernel, fun _ => ⟨mem_g (i := 271) rfl rfl, mem_g (i := 62) rfl rfl, ⟨mem_g (i := 269) rfl rfl, mem_g (i := 270) rfl rfl, rfl⟩⟩⟩, List.forall_mem_cons.mpr ⟨⟨rfl, rfl, by decide +kernel, by decide +kernel, fun _ => ⟨mem_g (i := 433) rfl rfl, mem_g (i := 62) rfl rfl, ⟨mem_g (i := 431) rfl rfl, mem_g (i := 432) rfl rfl, rfl⟩⟩⟩, List.forall_mem_cons.mpr ⟨⟨rfl, rfl, by decide +kernel, by decide +kernel, fun _ => ⟨mem_g (i := 294) rfl rfl, mem_g (i := 62) rfl rfl, ⟨mem_g (i := 292) rfl rfl, mem_g (i := 293) rfl rfl, rfl⟩⟩⟩, List.forall_mem_cons.mpr ⟨⟨rfl, rfl, by decide +kernel, by decide +kernel, fun _ => ⟨mem_g (i := 298) rfl rfl, mem_g (i := 62) rfl rfl, ⟨mem_g (i := 297) rfl rfl, mem_g (i := 0) rfl rfl, rfl⟩⟩⟩, List.forall_mem_cons.mpr ⟨⟨rfl, rfl, by decide +kernel, by decide +kernel, fun _ => ⟨mem_g (i := 379) rfl rfl, mem_g (i := 62) rfl rfl, ⟨mem_g (i := 378) rfl rfl, mem_g (i := 5) rfl rfl, rfl⟩⟩⟩, List.forall_mem_cons.mpr ⟨⟨rfl, rfl, by decide +kernel, by decide +kernel, fun _ => ⟨mem_g (i := 388) rfl rfl, mem_g (i := 62) rfl rfl, ⟨mem_g (i := 387) rfl rfl, mem_g (i := 7) rfl rfl, rfl⟩⟩⟩, List.forall_mem_cons.mpr ⟨⟨rfl, rfl, by decide +kernel, by decide +kernel, fun _ => ⟨mem_g (i := 391) rfl rfl, mem_g (i := 62) rfl rfl, mem_g (i := 390) rfl rfl⟩⟩, List.forall_mem_cons.mpr ⟨⟨rfl, rfl, by decide +kernel, by decide +kernel, fun _ => ⟨mem_g (i := 383) rfl rfl, mem_g (i := 62) rfl rfl, ⟨mem_g (i := 382) rfl rfl, mem_g (i := 6) rfl rfl, rfl⟩⟩⟩, List.forall_mem_cons.mpr ⟨⟨rfl, rfl, by decide +kernel, by decide +kernel, fun _ => ⟨mem_g (i := 310) rfl rfl, mem_g (i := 62) rfl rfl, ⟨mem_g (i := 309) rfl rfl, mem_g (i := 3) rfl rfl, rfl⟩⟩⟩, List.forall_mem_cons.mpr ⟨⟨rfl, rfl, by decide +kernel, by decide +kernel, fun _ => ⟨mem_g (i := 315) rfl rfl, mem_g (i := 62) rfl rfl, ⟨mem_g (i := 314) rfl rfl, mem_g (i := 4) rfl rfl, rfl⟩⟩⟩, List.forall_mem_cons.mpr ⟨⟨rfl, rfl, by decide +kernel, by decide +kernel, fun _ => ⟨mem_g (i := 302) rfl rfl, mem_g (i := 62) rfl rfl, ⟨mem_g (i := 301) rfl rfl, mem_g (i := 1) rfl rfl, rfl⟩⟩⟩, List.forall_mem_cons.mpr ⟨⟨rfl, rfl, by decide +kernel, by decide +kernel, fun _ => ⟨mem_g (i := 306) rfl rfl, mem_g (i := 62) rfl rfl, ⟨mem_g (i := 305) rfl rfl, mem_g (i := 2) rfl rfl, rfl⟩⟩⟩, fun _ h => absurd h List.not_mem_nil⟩⟩⟩⟩⟩⟩⟩⟩⟩⟩⟩⟩⟩⟩⟩⟩⟩⟩⟩⟩⟩⟩⟩⟩⟩⟩⟩⟩⟩⟩
set_option maxRecDepth 100000 in
theorem infOK_3 : ∀ q ∈ am_inf_3, infOK q := List.forall_mem_cons.mpr ⟨⟨rfl, rfl, by decide +kernel, by decide +kernel, fun _ => ⟨mem_g (i := 79) rfl rfl, mem_g (i := 59) rfl rfl, ⟨mem_g (i := 78) rfl rfl, rfl, rfl⟩⟩⟩, List.forall_mem_cons.mpr ⟨⟨rfl, rfl, by decide +kernel, by decide +kernel, fun _ => ⟨mem_g (i := 260) rfl rfl, mem_g (i := 59) rfl rfl, ⟨mem_g (i := 258) rfl rfl, mem_g (i := 259) rfl rfl, rfl⟩⟩⟩, List.forall_mem_cons.mpr ⟨⟨rfl, rfl, by decide +kernel, by decide +kernel, fun _ => ⟨mem_g (i := 275) rfl rfl, mem_g (i := 59) rfl rfl, ⟨mem_g (i := 273) rfl rfl, mem_g (i := 274) rfl rfl, rfl⟩⟩⟩, List.forall_mem_cons.mpr ⟨⟨rfl, rfl, by decide +kernel, by decide +kernel, fun _ => ⟨mem_g (i := 283) rfl rfl, mem_g (i := 59) rfl rfl, ⟨mem_g (i := 281) rfl rfl, mem_g (i := 282) rfl rfl, rfl⟩⟩⟩, List.forall_mem_cons.mpr ⟨⟨rfl, rfl, by decide +kernel, by decide +kernel, fun _ => ⟨mem_g (i := 413) rfl rfl, mem_g (i := 59) rfl rfl, ⟨mem_g (i := 411) rfl rfl, mem_g (i := 412) rfl rfl, rfl⟩⟩⟩, List.forall_mem_cons.mpr ⟨⟨rfl, rfl, by decide +kernel, by decide +kernel, fun _ => ⟨mem_g (i := 437) rfl rfl, mem_g (i := 59) rfl rfl, ⟨mem_g (i := 435) rfl rfl, mem_g (i := 436) rfl rfl, rfl⟩⟩⟩, List.forall_mem_cons.mpr ⟨⟨rfl, rfl, by decide +kernel, by decide +kernel, fun _ => ⟨mem_g (i := 475) rfl rfl, mem_g (i := 59) rfl rfl, ⟨mem_g (i := 473) rfl rfl, mem_g (i := 474) rfl rfl, rfl⟩⟩⟩, List.forall_mem_cons.mpr ⟨⟨rfl, rfl, by decide +kernel, by decide +kernel, fun _ => ⟨mem_g (i := 486) rfl rfl, mem_g (i := 59) rfl rfl, ⟨mem_g (i := 484) rfl rfl, mem_g (i := 485) rfl rfl, rfl⟩⟩⟩, List.forall_mem_cons.mpr ⟨⟨rfl, rfl, by decide +kernel, by decide +kernel, fun _ => ⟨mem_g (i := 524) rfl rfl, mem_g (i := 59) rfl rfl, ⟨mem_g (i := 522) rfl rfl, mem_g (i := 523) rfl rfl, rfl⟩⟩⟩, List.forall_mem_cons.mpr ⟨⟨rfl, rfl, by decide +kernel, by decide +kernel, fun _ => ⟨mem_g (i := 532) rfl rfl, mem_g (i := 59) rfl rfl, ⟨mem_g (i := 530) rfl rfl, mem_g (i := 531) rfl rfl, rfl⟩⟩⟩, List.forall_mem_cons.mpr ⟨⟨rfl, rfl, by decide +kernel, by decide +kernel, fun _ => ⟨mem_g (i := 540) rfl rfl, mem_g (i := 59) rfl rfl, ⟨mem_g (i := 538) rfl rfl, mem_g (i := 539) rfl rfl, rfl⟩⟩⟩, List.forall_mem_cons.mpr ⟨⟨rfl, rfl, by decide +kernel, by decide +kernel, fun _ => ⟨mem_g (i := 544) rfl rfl, mem_g (i := 59) rfl rfl, ⟨mem_g (i := 542) rfl rfl, mem_g (i := 543) rfl rfl, rfl⟩⟩⟩, List.forall_mem_cons.mpr ⟨⟨rfl, rfl, by decide +kernel, by decide +kernel, fun _ => ⟨mem_g (i := 548) rfl rfl, mem_g (i := 59) rfl rfl, ⟨mem_g (i := 546) rfl rfl, mem_g (i := 547) rfl rfl, rfl⟩⟩⟩, List.forall_mem_cons.mpr ⟨⟨rfl, rfl, by decide +kernel, by decide +kernel, fun _ => ⟨mem_g (i := 552) rfl rfl, mem_g (i := 59) rfl rfl, ⟨mem_g (i := 550) rfl rfl, mem_g (i := 551) rfl rfl, rfl⟩⟩⟩, List.forall_mem_cons.mpr ⟨⟨rfl, rfl, by decide +kernel, by decide +kernel, fun _ => ⟨mem_g (i := 562) rfl rfl, mem_g (i := 59) rfl rfl, ⟨mem_g (i := 560) rfl rfl, mem_g (i := 561) rfl rfl, rfl⟩⟩⟩, List.forall_mem_cons.mpr ⟨⟨rfl, rfl, by decide +kernel, by decide +kernel, fun _ => ⟨mem_g (i := 591) rfl rfl, mem_g (i := 59) rfl rfl, ⟨mem_g (i := 589) rfl rfl, mem_g (i := 590) rfl rfl, rfl⟩⟩⟩, List.forall_mem_cons.mpr ⟨⟨rfl, rfl, by decide +kernel, by decide +kernel, fun _ => ⟨mem_g (i := 604) rfl rfl, mem_g (i := 59) rfl rfl, ⟨mem_g (i := 602) rfl rfl, mem_g (i := 603) rfl rfl, rfl⟩⟩⟩, List.forall_mem_cons.mpr ⟨⟨rfl, rfl, by decide +kernel, by decide +kernel, fun _ => ⟨mem_g (i := 613) rfl rfl, mem_g (i := 59) rfl rfl, ⟨mem_g (i := 611) rfl rfl, mem_g (i := 612) rfl rfl, rfl⟩⟩⟩, List.forall_mem_cons.mpr ⟨⟨rfl, rfl, by decide +kernel, by decide +kernel, fun _ => ⟨mem_g (i := 623) rfl rfl, mem_g (i := 59) rfl rfl, ⟨mem_g (i := 621) rfl rfl, mem_g (i := 622) rfl rfl, rfl⟩⟩⟩, List.forall_mem_cons.mpr ⟨⟨rfl, rfl, by decide +kernel, by decide +kernel, fun _ => ⟨mem_g (i := 646) rfl rfl, mem_g (i := 59) rfl rfl, ⟨mem_g (i := 644) rfl rfl, mem_g (i := 645) rfl rfl, rfl⟩⟩⟩, List.forall_mem_cons.mpr ⟨⟨rfl, rfl, by decide +kernel, by decide +kernel, fun _ => ⟨mem_g (i := 658) rfl rfl, mem_g (i := 59) rfl rfl, ⟨mem_g (i := 656) rfl rfl, mem_g (i := 657) rfl rfl, rfl⟩⟩⟩, List.forall_mem_cons.mpr ⟨⟨rfl, rfl, by decide +kernel, by decide +kernel, fun _ => ⟨mem_g (i := 662) rfl rfl, mem_g (i := 59) rfl rfl, ⟨mem_g (i := 660) rfl rfl, mem_g (i := 661) rfl rfl, rfl⟩⟩⟩, List.forall_mem_cons.mpr ⟨⟨rfl, rfl, by decide +kernel, by decide +kernel, fun _ => ⟨mem_g (i := 677) rfl rfl, mem_g (i := 59) rfl rfl, ⟨mem_g (i := 675) rfl rfl, mem_g (i := 676) rfl rfl, rfl⟩⟩⟩, List.forall_mem_cons.mpr ⟨⟨rfl, rfl, by decide +kernel, by decide +kernel, fun _ => ⟨mem_g (i := 694) rfl rfl, mem_g (i := 59) rfl rfl, ⟨mem_g (i := 692) rfl rfl, mem_g (i := 693) rfl rfl, rfl⟩⟩⟩, List.forall_mem_cons.mpr ⟨⟨rfl, rfl, by decide +kernel, by decide +kernel, fun _ => ⟨mem_g (i := 706) rfl rfl, mem_g (i := 59) rfl rfl, ⟨mem_g (i := 704) rfl rfl, mem_g (i := 705) rfl rfl, rfl⟩⟩⟩, List.forall_mem_cons.mpr ⟨⟨rfl, rfl, by decide +kernel, by decide +kernel, fun _ => ⟨mem_g (i := 727) rfl rfl, mem_g (i := 59) rfl rfl, ⟨mem_g (i := 725) rfl rfl, mem_g (i := 726) rfl rfl, rfl⟩⟩⟩, List.forall_mem_cons.mpr ⟨⟨rfl, rfl, by decide +kernel, by decide +kernel, fun _ => ⟨mem_g (i := 740) rfl rfl, mem_g (i := 59) rfl rfl, ⟨mem_g (i := 738) rfl rfl, mem_g (i := 739) rfl rfl, rfl⟩⟩⟩, List.forall_mem_cons.mpr ⟨⟨rfl, rfl, by decide +kernel, by decide +kernel, fun _ => ⟨mem_g (i := 748) rfl rfl, mem_g (i := 59) rfl rfl, ⟨mem_g (i := 746) rfl rfl, mem_g (i := 747) rfl rfl, rfl⟩⟩⟩, List.forall_mem_cons.mpr ⟨⟨rfl, rfl, by decide +kernel, by decide +kernel, fun _ => ⟨mem_g (i := 774) rfl rfl, mem_g (i := 59) rfl rfl, ⟨mem_g (i := 772) rfl rfl, mem_g (i := 773) rfl rfl, rfl⟩⟩⟩, List.forall_mem_cons.mpr ⟨⟨rfl, rfl, by decide +kernel, by decide +kernel, fun _ => ⟨mem_g (i := 790) rfl rfl, mem_g (i := 59) rfl rfl, ⟨mem_g (i := 788) rfl rfl, mem_g (i := 789) rfl rfl, rfl⟩⟩⟩, fun _ h => absurd h List.not_mem_nil⟩⟩⟩⟩⟩⟩⟩⟩⟩⟩⟩⟩⟩⟩⟩⟩⟩⟩⟩⟩⟩⟩⟩⟩⟩⟩⟩⟩⟩⟩
set_option maxRecDepth 100000 in
theorem infOK_4 : ∀ q ∈ am_inf_4, infOK q := List.forall_mem_cons.mpr ⟨⟨rfl, rfl, by decide +kernel, by decide +kernel, fun _ => ⟨mem_g (i := 795) rfl rfl, mem_g (i := 59) rfl rfl, ⟨mem_g (i := 793) rfl rfl, mem_g (i := 794) rfl rfl, rfl⟩⟩⟩, List.forall_mem_cons.mpr ⟨⟨rfl, rfl, by decide +kernel, by decide +kernel, fun _ => ⟨mem_g (i := 263) rfl rfl, mem_g (i := 59) rfl rfl, mem_g (i := 262) rfl rfl⟩⟩, List.forall_mem_cons.mpr ⟨⟨rfl, rfl, by decide +kernel, by decide +kernel, fun _ => ⟨mem_g (i := 503) rfl rfl, mem_g (i := 59) rfl rfl, ⟨mem_g (i := 502) rfl rfl, mem_g (i := 8) rfl rfl, rfl⟩⟩⟩, List.forall_mem_cons.mpr ⟨⟨rfl, rfl, by decide +kernel, by decide +kernel, fun _ => ⟨mem_g (i := 925) rfl rfl, mem_g (i := 67) rfl rfl, mem_g (i := 924) rfl rfl⟩⟩, List.forall_mem_cons.mpr ⟨⟨rfl, rfl, by decide +kernel, by decide +kernel, fun _ => ⟨mem_g (i := 814) rfl rfl, mem_g (i := 67) rfl rfl, ⟨mem_g (i := 813) rfl rfl, rfl, rfl⟩⟩⟩, List.forall_mem_cons.mpr ⟨⟨rfl, rfl, by decide +kernel, by decide +kernel, fun _ => ⟨mem_g (i := 818) rfl rfl, mem_g (i := 67) rfl rfl, mem_g (i := 817) rfl rfl⟩⟩, List.forall_mem_cons.mpr ⟨⟨rfl, rfl, by decide +kernel, by decide +kernel, fun _ => ⟨mem_g (i := 921) rfl rfl, mem_g (i := 67) rfl rfl, ⟨mem_g (i := 919) rfl rfl, mem_g (i := 920) rfl rfl, rfl⟩⟩⟩, List.forall_mem_cons.mpr ⟨⟨rfl, rfl, by decide +kernel, by decide +kernel, fun _ => ⟨mem_g (i := 929) rfl rfl, mem_g (i := 67) rfl rfl, ⟨mem_g (i := 927) rfl rfl, mem_g (i := 928) rfl rfl, rfl⟩⟩⟩, List.forall_mem_cons.mpr ⟨⟨rfl, rfl, by decide +kernel, by decide +kernel, fun _ => ⟨mem_g (i := 945) rfl rfl, mem_g (i := 67) rfl rfl, ⟨mem_g (i := 944) rfl rfl, mem_g (i := 23) rfl rfl, rfl⟩⟩⟩, List.forall_mem_cons.mpr ⟨⟨rfl, rfl, by decide +kernel, by decide +kernel, fun _ => ⟨mem_g (i := 958) rfl rfl, mem_g (i := 67) rfl rfl, mem_g (i := 957) rfl rfl⟩⟩, List.forall_mem_cons.mpr ⟨⟨rfl, rfl, by decide +kernel, by decide +kernel, fun _ => ⟨mem_g (i := 951) rfl rfl, mem_g (i := 67) rfl rfl, ⟨mem_g (i := 950) rfl rfl, mem_g (i := 24) rfl rfl, rfl⟩⟩⟩, List.forall_mem_cons.mpr ⟨⟨rfl, rfl, by decide +kernel, by decide +kernel, fun _ => ⟨mem_g (i := 941) rfl rfl, mem_g (i := 67) rfl rfl, ⟨mem_g (i := 940) rfl rfl, mem_g (i := 22) rfl rfl, rfl⟩⟩⟩, List.forall_mem_cons.mpr ⟨⟨rfl, rfl, by decide +kernel, by decide +kernel, fun _ => ⟨mem_g (i := 979) rfl rfl, mem_g (i := 67) rfl rfl, ⟨mem_g (i := 978) rfl rfl, mem_g (i := 26) rfl rfl, rfl⟩⟩⟩, List.forall_mem_cons.mpr ⟨⟨rfl, rfl, by decide +kernel, by decide +kernel, fun _ => ⟨mem_g (i := 983) rfl rfl, mem_g (i := 67) rfl rfl, ⟨mem_g (i := 982) rfl rfl, mem_g (i := 27) rfl rfl, rfl⟩⟩⟩, List.forall_mem_cons.mpr ⟨⟨rfl, rfl, by decide +kernel, by decide +kernel, fun _ => ⟨mem_g (i := 975) rfl rfl, mem_g (i := 67) rfl rfl, ⟨mem_g (i := 974) rfl rfl, mem_g (i := 25) rfl rfl, rfl⟩⟩⟩, List.forall_mem_cons.mpr ⟨⟨rfl, rfl, by decide +kernel, by decide +kernel, fun _ => ⟨mem_g (i := 937) rfl rfl, mem_g (i := 67) rfl rfl, ⟨mem_g (i := 936) rfl rfl, mem_g (i := 21) rfl rfl, rfl⟩⟩⟩, List.forall_mem_cons.mpr ⟨⟨rfl, rfl, by decide +kernel, by decide +kernel, fun _ => ⟨mem_g (i := 933) rfl rfl, mem_g (i := 67) rfl rfl, ⟨mem_g (i := 931) rfl rfl, mem_g (i := 932) rfl rfl, rfl⟩⟩⟩, List.forall_mem_cons.mpr ⟨⟨rfl, rfl, by decide +kernel, by decide +kernel, fun _ => ⟨mem_g (i := 987) rfl rfl, mem_g (i := 67) rfl rfl, ⟨mem_g (i := 985) rfl rfl, mem_g (i := 986) rfl rfl, rfl⟩⟩⟩, List.forall_mem_cons.mpr ⟨⟨rfl, rfl, by decide +kernel, by decide +kernel, fun _ => ⟨mem_g (i := 995) rfl rfl, mem_g (i := 67) rfl rfl, ⟨mem_g (i := 994) rfl rfl, mem_g (i := 28) rfl rfl, rfl⟩⟩⟩, List.forall_mem_cons.mpr ⟨⟨rfl, rfl, by decide +kernel, by decide +kernel, fun _ => ⟨mem_g (i := 998) rfl rfl, mem_g (i := 67) rfl rfl, mem_g (i := 997) rfl rfl⟩⟩, List.forall_mem_cons.mpr ⟨⟨rfl, rfl, by decide +kernel, by decide +kernel, fun _ => ⟨mem_g (i := 1001) rfl rfl, mem_g (i := 67) rfl rfl, mem_g (i := 1000) rfl rfl⟩⟩, List.forall_mem_cons.mpr ⟨⟨rfl, rfl, by decide +kernel, by decide +kernel, fun _ => ⟨mem_g (i := 1004) rfl rfl, mem_g (i := 67) rfl rfl, mem_g (i := 1003) rfl rfl⟩⟩, List.forall_mem_cons.mpr ⟨⟨rfl, rfl, by decide +kernel, by decide +kernel, fun _ => ⟨mem_g (i := 1025) rfl rfl, mem_g (i := 67) rfl rfl, ⟨mem_g (i := 1024) rfl rfl, mem_g (i := 31) rfl rfl, rfl⟩⟩⟩, List.forall_mem_cons.mpr ⟨⟨rfl, rfl, by decide +kernel, by decide +kernel, fun _ => ⟨mem_g (i := 1021) rfl rfl, mem_g (i := 67) rfl rfl, ⟨mem_g (i := 1020) rfl rfl, mem_g (i := 30) rfl rfl, rfl⟩⟩⟩, List.forall_mem_cons.mpr ⟨⟨rfl, rfl, by decide +kernel, by decide +kernel, fun _ => ⟨mem_g (i := 1017) rfl rfl, mem_g (i := 67) rfl rfl, ⟨mem_g (i := 1016) rfl rfl, mem_g (i := 29) rfl rfl, rfl⟩⟩⟩, List.forall_mem_cons.mpr ⟨⟨rfl, rfl, by decide +kernel, by decide +kernel, fun _ => ⟨mem_g (i := 991) rfl rfl, mem_g (i := 67) rfl rfl, ⟨mem_g (i := 989) rfl rfl, mem_g (i := 990) rfl rfl, rfl⟩⟩⟩, List.forall_mem_cons.mpr ⟨⟨rfl, rfl, by decide +kernel, by decide +kernel, fun _ => ⟨mem_g (i := 1008) rfl rfl, mem_g (i := 67) rfl rfl, ⟨mem_g (i := 1006) rfl rfl, mem_g (i := 1007) rfl rfl, rfl⟩⟩⟩, List.forall_mem_cons.mpr ⟨⟨rfl, rfl, by decide +kernel, by decide +kernel, fun _ => ⟨mem_g (i := 1041) rfl rfl, mem_g (i := 67) rfl rfl, ⟨mem_g (i := 1040) rfl rfl, mem_g (i := 35) rfl rfl, rfl⟩⟩⟩, List.forall_mem_cons.mpr ⟨⟨rfl, rfl, by decide +kernel, by decide +kernel, fun _ => ⟨mem_g (i := 1045) rfl rfl, mem_g (i := 67) rfl rfl, ⟨mem_g (i := 1044) rfl rfl, mem_g (i := 36) rfl rfl, rfl⟩⟩⟩, List.forall_mem_cons.mpr ⟨⟨rfl, rfl, by decide +kernel, by decide +kernel, fun _ => ⟨mem_g (i := 1037) rfl rfl, mem_g (i := 67) rfl rfl, ⟨mem_g (i := 1036) rfl rfl, mem_g (i := 34) rfl rfl, rfl⟩⟩⟩, fun _ h => absurd h List.not_mem_nil⟩⟩⟩⟩⟩⟩⟩⟩⟩⟩⟩⟩⟩⟩⟩⟩⟩⟩⟩⟩⟩⟩⟩⟩⟩⟩⟩⟩⟩⟩
set_option maxRecDepth 100000 in
theorem infOK_5 : ∀ q ∈ am_inf_5, infOK q := List.forall_mem_cons.mpr ⟨⟨rfl, rfl, by decide +kernel, by decide +kernel, fun _ => ⟨mem_g (i := 1033) rfl rfl, mem_g (i := 67) rfl rfl, ⟨mem_g (i := 1032) rfl rfl, mem_g (i := 33) rfl rfl, rfl⟩⟩⟩, List.forall_mem_cons.mpr ⟨⟨rfl, rfl, by decide +kernel, by decide +kernel, fun _ => ⟨mem_g (i := 1029) rfl rfl, mem_g (i := 67) rfl rfl, ⟨mem_g (i := 1028) rfl rfl, mem_g (i := 32) rfl rfl, rfl⟩⟩⟩, List.forall_mem_cons.mpr ⟨⟨rfl, rfl, by decide +kernel, by decide +kernel, fun _ => ⟨mem_g (i := 1013) rfl rfl, mem_g (i := 67) rfl rfl, ⟨mem_g (i := 1011) rfl rfl, mem_g (i := 1012) rfl rfl, rfl⟩⟩⟩, List.forall_mem_cons.mpr ⟨⟨rfl, rfl, by decide +kernel, by decide +kernel, fun _ => ⟨mem_g (i := 1049) rfl rfl, mem_g (i := 67) rfl rfl, ⟨mem_g (i := 1047) rfl rfl, mem_g (i := 1048) rfl rfl, rfl⟩⟩⟩, List.forall_mem_cons.mpr ⟨⟨rfl, rfl, by decide +kernel, by decide +kernel, fun _ => ⟨mem_g (i := 1054) rfl rfl, mem_g (i := 67) rfl rfl, ⟨mem_g (i := 1052) rfl rfl, mem_g (i := 1053) rfl rfl, rfl⟩⟩⟩, List.forall_mem_cons.mpr ⟨⟨rfl, rfl, by decide +kernel, by decide +kernel, fun _ => ⟨mem_g (i := 1058) rfl rfl, mem_g (i := 67) rfl rfl, ⟨mem_g (i := 1056) rfl rfl, mem_g (i := 1057) rfl rfl, rfl⟩⟩⟩, List.forall_mem_cons.mpr ⟨⟨rfl, rfl, by decide +kernel, by decide +kernel, fun _ => ⟨mem_g (i := 1062) rfl rfl, mem_g (i := 67) rfl rfl, ⟨mem_g (i := 1060) rfl rfl, mem_g (i := 1061) rfl rfl, rfl⟩⟩⟩, List.forall_mem_cons.mpr ⟨⟨rfl, rfl, by decide +kernel, by decide +kernel, fun _ => ⟨mem_g (i := 1066) rfl rfl, mem_g (i := 67) rfl rfl, ⟨mem_g (i := 1064) rfl rfl, mem_g (i := 1065) rfl rfl, rfl⟩⟩⟩, List.forall_mem_cons.mpr ⟨⟨rfl, rfl, by decide +kernel, by decide +kernel, fun _ => ⟨mem_g (i := 1113) rfl rfl, mem_g (i := 67) rfl rfl, ⟨mem_g (i := 1112) rfl rfl, mem_g (i := 44) rfl rfl, rfl⟩⟩⟩, List.forall_mem_cons.mpr ⟨⟨rfl, rfl, by decide +kernel, by decide +kernel, fun _ => ⟨mem_g (i := 1125) rfl rfl, mem_g (i := 67) rfl rfl, ⟨mem_g (i := 1124) rfl rfl, mem_g (i := 47) rfl rfl, rfl⟩⟩⟩, List.forall_mem_cons.mpr ⟨⟨rfl, rfl, by decide +kernel, by decide +kernel, fun _ => ⟨mem_g (i := 1096) rfl rfl, mem_g (i := 67) rfl rfl, ⟨mem_g (i := 1095) rfl rfl, mem_g (i := 41) rfl rfl, rfl⟩⟩⟩, List.forall_mem_cons.mpr ⟨⟨rfl, rfl, by decide +kernel, by decide +kernel, fun _ => ⟨mem_g (i := 1074) rfl rfl, mem_g (i := 67) rfl rfl, ⟨mem_g (i := 1073) rfl rfl, mem_g (i := 37) rfl rfl, rfl⟩⟩⟩, List.forall_mem_cons.mpr ⟨⟨rfl, rfl, by decide +kernel, by decide +kernel, fun _ => ⟨mem_g (i := 1070) rfl rfl, mem_g (i := 67) rfl rfl, ⟨mem_g (i := 1068) rfl rfl, mem_g (i := 1069) rfl rfl, rfl⟩⟩⟩, List.forall_mem_cons.mpr ⟨⟨rfl, rfl, by decide +kernel, by decide +kernel, fun _ => ⟨mem_g (i := 1104) rfl rfl, mem_g (i := 67) rfl rfl, ⟨mem_g (i := 1103) rfl rfl, mem_g (i := 43) rfl rfl, rfl⟩⟩⟩, List.forall_mem_cons.mpr ⟨⟨rfl, rfl, by decide +kernel, by decide +kernel, fun _ => ⟨mem_g (i := 1088) rfl rfl, mem_g (i := 67) rfl rfl, ⟨mem_g (i := 1087) rfl rfl, mem_g (i := 39) rfl rfl, rfl⟩⟩⟩, List.forall_mem_cons.mpr ⟨⟨rfl, rfl, by decide +kernel, by decide +kernel, fun _ => ⟨mem_g (i := 1092) rfl rfl, mem_g (i := 67) rfl rfl, ⟨mem_g (i := 1091) rfl rfl, mem_g (i := 40) rfl rfl, rfl⟩⟩⟩, List.forall_mem_cons.mpr ⟨⟨rfl, rfl, by decide +kernel, by decide +kernel, fun _ => ⟨mem_g (i := 1100) rfl rfl, mem_g (i := 67) rfl rfl, ⟨mem_g (i := 1099) rfl rfl, mem_g (i := 42) rfl rfl, rfl⟩⟩⟩, List.forall_mem_cons.mpr ⟨⟨rfl, rfl, by decide +kernel, by decide +kernel, fun _ => ⟨mem_g (i := 1084) rfl rfl, mem_g (i := 67) rfl rfl, ⟨mem_g (i := 1083) rfl rfl, mem_g (i := 38) rfl rfl, rfl⟩⟩⟩, List.forall_mem_cons.mpr ⟨⟨rfl, rfl, by decide +kernel, by decide +kernel, fun _ => ⟨mem_g (i := 1078) rfl rfl, mem_g (i := 67) rfl rfl, ⟨mem_g (i := 1076) rfl rfl, mem_g (i := 1077) rfl rfl, rfl⟩⟩⟩, List.forall_mem_cons.mpr ⟨⟨rfl, rfl, by decide +kernel, by decide +kernel, fun _ => ⟨mem_g (i := 1121) rfl rfl, mem_g (i := 67) rfl rfl, ⟨mem_g (i := 1120) rfl rfl, mem_g (i := 46) rfl rfl, rfl⟩⟩⟩, List.forall_mem_cons.mpr ⟨⟨rfl, rfl, by decide +kernel, by decide +kernel, fun _ => ⟨mem_g (i := 1117) rfl rfl, mem_g (i := 67) rfl rfl, ⟨mem_g (i := 1116) rfl rfl, mem_g (i := 45) rfl rfl, rfl⟩⟩⟩, List.forall_mem_cons.mpr ⟨⟨rfl, rfl, by decide +kernel, by decide +kernel, fun _ => ⟨mem_g (i := 1108) rfl rfl, mem_g (i := 67) rfl rfl, ⟨mem_g (i := 1106) rfl rfl, mem_g (i := 1107) rfl rfl, rfl⟩⟩⟩, List.forall_mem_cons.mpr ⟨⟨rfl, rfl, by decide +kernel, by decide +kernel, fun _ => ⟨mem_g (i := 1129) rfl rfl, mem_g (i := 67) rfl rfl, ⟨mem_g (i := 1127) rfl rfl, mem_g (i := 1128) rfl rfl, rfl⟩⟩⟩, List.forall_mem_cons.mpr ⟨⟨rfl, rfl, by decide +kernel, by decide +kernel, fun _ => ⟨mem_g (i := 1133) rfl rfl, mem_g (i := 67) rfl rfl, ⟨mem_g (i := 1131) rfl rfl, mem_g (i := 1132) rfl rfl, rfl⟩⟩⟩, List.forall_mem_cons.mpr ⟨⟨rfl, rfl, by decide +kernel, by decide +kernel, fun _ => ⟨mem_g (i := 1143) rfl rfl, mem_g (i := 67) rfl rfl, ⟨mem_g (i := 1142) rfl rfl, mem_g (i := 48) rfl rfl, rfl⟩⟩⟩, List.forall_mem_cons.mpr ⟨⟨rfl, rfl, by decide +kernel, by decide +kernel, fun _ => ⟨mem_g (i := 1137) rfl rfl, mem_g (i := 67) rfl rfl, ⟨mem_g (i := 1135) rfl rfl, mem_g (i := 1136) rfl rfl, rfl⟩⟩⟩, List.forall_mem_cons.mpr ⟨⟨rfl, rfl, by decide +kernel, by decide +kernel, fun _ => ⟨mem_g (i := 1146) rfl rfl, mem_g (i := 67) rfl rfl, mem_g (i := 1145) rfl rfl⟩⟩, List.forall_mem_cons.mpr ⟨⟨rfl, rfl, by decide +kernel, by decide +kernel, fun _ => ⟨mem_g (i := 1150) rfl rfl, mem_g (i := 67) rfl rfl, ⟨mem_g (i := 1148) rfl rfl, mem_g (i := 1149) rfl rfl, rfl⟩⟩⟩, List.forall_mem_cons.mpr ⟨⟨rfl, rfl, by decide +kernel, by decide +kernel, fun _ => ⟨mem_g (i := 1155) rfl rfl, mem_g (i := 67) rfl rfl, ⟨mem_g (i := 1153) rfl rfl, mem_g (i := 1154) rfl rfl, rfl⟩⟩⟩, List.forall_mem_cons.mpr ⟨⟨rfl, rfl, by decide +kernel, by decide +kernel, fun _ => ⟨mem_g (i := 1162) rfl rfl, mem_g (i := 67) rfl rfl, mem_g (i := 1161) rfl rfl⟩⟩, fun _ h => absurd h List.not_mem_nil⟩⟩⟩⟩⟩⟩⟩⟩⟩⟩⟩⟩⟩⟩⟩⟩⟩⟩⟩⟩⟩⟩⟩⟩⟩⟩⟩⟩⟩⟩
set_option maxRecDepth 100000 in
theorem infOK_6 : ∀ q ∈ am_inf_6, infOK q := List.forall_mem_cons.mpr ⟨⟨rfl, rfl, by decide +kernel, by decide +kernel, fun _ => ⟨mem_g (i := 1159) rfl rfl, mem_g (i := 67) rfl rfl, ⟨mem_g (i := 1157) rfl rfl, mem_g (i := 1158) rfl rfl, rfl⟩⟩⟩, List.forall_mem_cons.mpr ⟨⟨rfl, rfl, by decide +kernel, by decide +kernel, fun _ => ⟨mem_g (i := 1166) rfl rfl, mem_g (i := 67) rfl rfl, ⟨mem_g (i := 1164) rfl rfl, mem_g (i := 1165) rfl rfl, rfl⟩⟩⟩, List.forall_mem_cons.mpr ⟨⟨rfl, rfl, by decide +kernel, by decide +kernel, fun _ => ⟨mem_g (i := 822) rfl rfl, mem_g (i := 67) rfl rfl, ⟨mem_g (i := 821) rfl rfl, mem_g (i := 20) rfl rfl, rfl⟩⟩⟩, List.forall_mem_cons.mpr ⟨⟨rfl, rfl, by decide +kernel, by decide +kernel, fun _ => ⟨mem_g (i := 1174) rfl rfl, mem_g (i := 67) rfl rfl, mem_g (i := 1173) rfl rfl⟩⟩, List.forall_mem_cons.mpr ⟨⟨rfl, rfl, by decide +kernel, by decide +kernel, fun _ => ⟨mem_g (i := 1178) rfl rfl, mem_g (i := 67) rfl rfl, ⟨mem_g (i := 1177) rfl rfl, mem_g (i := 49) rfl rfl, rfl⟩⟩⟩, List.forall_mem_cons.mpr ⟨⟨rfl, rfl, by decide +kernel, by decide +kernel, fun _ => ⟨mem_g (i := 1171) rfl rfl, mem_g (i := 67) rfl rfl, ⟨mem_g (i := 1169) rfl rfl, mem_g (i := 1170) rfl rfl, rfl⟩⟩⟩, List.forall_mem_cons.mpr ⟨⟨rfl, rfl, by decide +kernel, by decide +kernel, fun _ => ⟨mem_g (i := 1193) rfl rfl, mem_g (i := 67) rfl rfl, ⟨mem_g (i := 1192) rfl rfl, mem_g (i := 51) rfl rfl, rfl⟩⟩⟩, List.forall_mem_cons.mpr ⟨⟨rfl, rfl, by decide +kernel, by decide +kernel, fun _ => ⟨mem_g (i := 1189) rfl rfl, mem_g (i := 67) rfl rfl, ⟨mem_g (i := 1188) rfl rfl, mem_g (i := 50) rfl rfl, rfl⟩⟩⟩, List.forall_mem_cons.mpr ⟨⟨rfl, rfl, by decide +kernel, by decide +kernel, fun _ => ⟨mem_g (i := 1182) rfl rfl, mem_g (i := 67) rfl rfl, ⟨mem_g (i := 1180) rfl rfl, mem_g (i := 1181) rfl rfl, rfl⟩⟩⟩, List.forall_mem_cons.mpr ⟨⟨rfl, rfl, by decide +kernel, by decide +kernel, fun _ => ⟨mem_g (i := 1201) rfl rfl, mem_g (i := 67) rfl rfl, ⟨mem_g (i := 1200) rfl rfl, mem_g (i := 52) rfl rfl, rfl⟩⟩⟩, List.forall_mem_cons.mpr ⟨⟨rfl, rfl, by decide +kernel, by decide +kernel, fun _ => ⟨mem_g (i := 1197) rfl rfl, mem_g (i := 67) rfl rfl, ⟨mem_g (i := 1195) rfl rfl, mem_g (i := 1196) rfl rfl, rfl⟩⟩⟩, List.forall_mem_cons.mpr ⟨⟨rfl, rfl, by decide +kernel, by decide +kernel, fun _ => ⟨mem_g (i := 1206) rfl rfl, mem_g (i := 67) rfl rfl, ⟨mem_g (i := 1204) rfl rfl, mem_g (i := 1205) rfl rfl, rfl⟩⟩⟩, List.forall_mem_cons.mpr ⟨⟨rfl, rfl, by decide +kernel, by decide +kernel, fun _ => ⟨mem_g (i := 1214) rfl rfl, mem_g (i := 67) rfl rfl, ⟨mem_g (i := 1213) rfl rfl, mem_g (i := 53) rfl rfl, rfl⟩⟩⟩, List.forall_mem_cons.mpr ⟨⟨rfl, rfl, by decide +kernel, by decide +kernel, fun _ => ⟨mem_g (i := 1218) rfl rfl, mem_g (i := 67) rfl rfl, ⟨mem_g (i := 1217) rfl rfl, mem_g (i := 54) rfl rfl, rfl⟩⟩⟩, List.forall_mem_cons.mpr ⟨⟨rfl, rfl, by decide +kernel, by decide +kernel, fun _ => ⟨mem_g (i := 1210) rfl rfl, mem_g (i := 67) rfl rfl, ⟨mem_g (i := 1208) rfl rfl, mem_g (i := 1209) rfl rfl, rfl⟩⟩⟩, List.forall_mem_cons.mpr ⟨⟨rfl, rfl, by decide +kernel, by decide +kernel, fun _ => ⟨mem_g (i := 1222) rfl rfl, mem_g (i := 67) rfl rfl, ⟨mem_g (i := 1220) rfl rfl, mem_g (i := 1221) rfl rfl, rfl⟩⟩⟩, List.forall_mem_cons.mpr ⟨⟨rfl, rfl, by decide +kernel, by decide +kernel, fun _ => ⟨mem_g (i := 1226) rfl rfl, mem_g (i := 67) rfl rfl, ⟨mem_g (i := 1224) rfl rfl, mem_g (i := 1225) rfl rfl, rfl⟩⟩⟩, List.forall_mem_cons.mpr ⟨⟨rfl, rfl, by decide +kernel, by decide +kernel, fun _ => ⟨mem_g (i := 1234) rfl rfl, mem_g (i := 67) rfl rfl, ⟨mem_g (i := 1233) rfl rfl, mem_g (i := 55) rfl rfl, rfl⟩⟩⟩, List.forall_mem_cons.mpr ⟨⟨rfl, rfl, by decide +kernel, by decide +kernel, fun _ => ⟨mem_g (i := 1238) rfl rfl, mem_g (i := 67) rfl rfl, ⟨mem_g (i := 1237) rfl rfl, mem_g (i := 56) rfl rfl, rfl⟩⟩⟩, List.forall_mem_cons.mpr ⟨⟨rfl, rfl, by decide +kernel, by decide +kernel, fun _ => ⟨mem_g (i := 1242) rfl rfl, mem_g (i := 67) rfl rfl, ⟨mem_g (i := 1241) rfl rfl, mem_g (i := 57) rfl rfl, rfl⟩⟩⟩, List.forall_mem_cons.mpr ⟨⟨rfl, rfl, by decide +kernel, by decide +kernel, fun _ => ⟨mem_g (i := 1230) rfl rfl, mem_g (i := 67) rfl rfl, ⟨mem_g (i := 1228) rfl rfl, mem_g (i := 1229) rfl rfl, rfl⟩⟩⟩, List.forall_mem_cons.mpr ⟨⟨rfl, rfl, by decide +kernel, by decide +kernel, fun _ => ⟨mem_g (i := 636) rfl rfl, mem_g (i := 74) rfl rfl, mem_g (i := 635) rfl rfl⟩⟩, List.forall_mem_cons.mpr ⟨⟨rfl, rfl, by decide +kernel, by decide +kernel, fun h => absurd rfl h⟩, fun _ h => absurd h List.not_mem_nil⟩⟩⟩⟩⟩⟩⟩⟩⟩⟩⟩⟩⟩⟩⟩⟩⟩⟩⟩⟩⟩⟩⟩
set_option maxRecDepth 100000 in
theorem ck_Bd_init : (pg_Bd_init).all (am_chk 0 cX0_init) = true := by decide +kernel
set_option maxRecDepth 100000 in
theorem ck_Bd_setUp : (pg_Bd_setUp).all (am_chk 0 cX0_setUp) = true := by decide +kernel
set_option maxRecDepth 100000 in
theorem ck_Bd_copy : (pg_Bd_copy).all (am_chk 0 cX0_copy) = true := by decide +kernel
set_option maxRecDepth 100000 in
theorem ck_Bd_houses : (pg_Bd_houses).all (am_chk 0 cX0_houses) = true := by decide +kernel
set_option maxRecDepth 100000 in
theorem ck_Bd_has : (pg_Bd_has).all (am_chk 0 cX0_has) = true := by decide +kernel
set_option maxRecDepth 100000 in
theorem ck_Bd_sideOf : (pg_Bd_sideOf).all (am_chk 0 cX0_sideOf) = true := by decide +kernel
set_option maxRecDepth 100000 in
theorem ck_Bd_moves : (pg_Bd_moves).all (am_chk 0 cX0_moves) = true := by decide +kernel
set_option maxRecDepth 100000 in
theorem ck_Bd_turn : (pg_Bd_turn).all (am_chk 0 cX0_turn) = true := by decide +kernel
set_option maxRecDepth 100000 in
theorem ck_Bd_barn : (pg_Bd_barn).all (am_chk 0 cX0_barn) = true := by decide +kernel
set_option maxRecDepth 100000 in
theorem ck_Bd_lead : (pg_Bd_lead).all (am_chk 0 cX0_lead) = true := by decide +kernel
set_option maxRecDepth 100000 in
theorem ck_Bd_kind : (pg_Bd_kind).all (am_chk 0 cX0_kind) = true := by decide +kernel
set_option maxRecDepth 100000 in
theorem ck_Bd_seeds : (pg_Bd_seeds).all (am_chk 0 cX0_seeds) = true := by decide +kernel
set_option maxRecDepth 100000 in
theorem ck_Bd_lifted : (pg_Bd_lifted).all (am_chk 0 cX0_lifted) = true := by decide +kernel
set_option maxRecDepth 100000 in
theorem ck_Bd_takes : (pg_Bd_takes).all (am_chk 0 cX0_takes) = true := by decide +kernel
set_option maxRecDepth 100000 in
theorem ck_Bd_yields : (pg_Bd_yields).all (am_chk 0 cX0_yields) = true := by decide +kernel
set_option maxRecDepth 100000 in
theorem ck_Bd_goes : (pg_Bd_goes).all (am_chk 0 cX0_goes) = true := by decide +kernel
set_option maxRecDepth 100000 in
theorem ck_Bd_goingBits : (pg_Bd_goingBits).all (am_chk 0 cX0_goingBits) = true := by decide +kernel
set_option maxRecDepth 100000 in
theorem ck_Bd_allSeeds : (pg_Bd_allSeeds).all (am_chk 0 cX0_allSeeds) = true := by decide +kernel
set_option maxRecDepth 100000 in
theorem ck_Bd_setKind : (pg_Bd_setKind).all (am_chk 0 cX0_setKind) = true := by decide +kernel
set_option maxRecDepth 100000 in
theorem ck_Bd_setSeeds : (pg_Bd_setSeeds).all (am_chk 0 cX0_setSeeds) = true := by decide +kernel
set_option maxRecDepth 100000 in
theorem ck_Bd_setBarn : (pg_Bd_setBarn).all (am_chk 0 cX0_setBarn) = true := by decide +kernel
set_option maxRecDepth 100000 in
theorem ck_Bd_setTurn : (pg_Bd_setTurn).all (am_chk 0 cX0_setTurn) = true := by decide +kernel
set_option maxRecDepth 100000 in
theorem ck_Bd_give : (pg_Bd_give).all (am_chk 0 cX0_give) = true := by decide +kernel
set_option maxRecDepth 100000 in
theorem ck_Bd_exchangeKinds : (pg_Bd_exchangeKinds).all (am_chk 0 cX0_exchangeKinds) = true := by decide +kernel
set_option maxRecDepth 100000 in
theorem ck_Bd_sow : (pg_Bd_sow).all (am_chk 0 cX0_sow) = true := by decide +kernel
set_option maxRecDepth 100000 in
theorem ck_Bd_spread : (pg_Bd_spread).all (am_chk 0 cX0_spread) = true := by decide +kernel
set_option maxRecDepth 100000 in
theorem ck_Bd_nextTaker : (pg_Bd_nextTaker).all (am_chk 0 cX0_nextTaker) = true := by decide +kernel
set_option maxRecDepth 100000 in
theorem ck_Bd_reap : (pg_Bd_reap).all (am_chk 0 cX0_reap) = true := by decide +kernel
set_option maxRecDepth 100000 in
theorem ck_Bx_init : (pg_Bx_init).all (am_chk 1 cX1_init) = true := by decide +kernel
set_option maxRecDepth 100000 in
theorem ck_Bx_push : (pg_Bx_push).all (am_chk 1 cX1_push) = true := by decide +kernel
set_option maxRecDepth 100000 in
theorem ck_Bx_hasOnTop : (pg_Bx_hasOnTop).all (am_chk 1 cX1_hasOnTop) = true := by decide +kernel
set_option maxRecDepth 100000 in
theorem ck_Bx_pullBox : (pg_Bx_pullBox).all (am_chk 1 cX1_pullBox) = true := by decide +kernel
set_option maxRecDepth 100000 in
theorem ck_Bx_numbers : (pg_Bx_numbers).all (am_chk 1 cX1_numbers) = true := by decide +kernel
set_option maxRecDepth 100000 in
theorem ck_Bx_sum : (pg_Bx_sum).all (am_chk 1 cX1_sum) = true := by decide +kernel
set_option maxRecDepth 100000 in
theorem ck_Bx_houseBits : (pg_Bx_houseBits).all (am_chk 1 cX1_houseBits) = true := by decide +kernel
set_option maxRecDepth 100000 in
theorem ck_Bs_init : (pg_Bs_init).all (am_chk 2 cX2_init) = true := by decide +kernel
set_option maxRecDepth 100000 in
theorem ck_Bs_has : (pg_Bs_has).all (am_chk 2 cX2_has) = true := by decide +kernel
set_option maxRecDepth 100000 in
theorem ck_Bs_isThere : (pg_Bs_isThere).all (am_chk 2 cX2_isThere) = true := by decide +kernel
set_option maxRecDepth 100000 in
theorem ck_Bs_thereBits : (pg_Bs_thereBits).all (am_chk 2 cX2_thereBits) = true := by decide +kernel
set_option maxRecDepth 100000 in
theorem ck_Bs_clear : (pg_Bs_clear).all (am_chk 2 cX2_clear) = true := by decide +kernel
set_option maxRecDepth 100000 in
theorem ck_Bs_make : (pg_Bs_make).all (am_chk 2 cX2_make) = true := by decide +kernel
set_option maxRecDepth 100000 in
theorem ck_Bs_remove : (pg_Bs_remove).all (am_chk 2 cX2_remove) = true := by decide +kernel
set_option maxRecDepth 100000 in
theorem ck_Bs_lay_0 : (pg_Bs_lay_0).all (am_chk 2 cX2_lay) = true := by decide +kernel
set_option maxRecDepth 100000 in
theorem ck_Bs_lay_1 : (pg_Bs_lay_1).all (am_chk 2 cX2_lay) = true := by decide +kernel
theorem ck_Bs_lay : (pg_Bs_lay).all (am_chk 2 cX2_lay) = true := by
  unfold pg_Bs_lay
  simp only [List.all_append, Bool.and_eq_true]
  exact ⟨ck_Bs_lay_0, ck_Bs_lay_1⟩
set_option maxRecDepth 100000 in
theorem ck_Bs_lift : (pg_Bs_lift).all (am_chk 2 cX2_lift) = true := by decide +kernel
set_option maxRecDepth 100000 in
theorem ck_Bs_pour_0 : (pg_Bs_pour_0).all (am_chk 2 cX2_pour) = true := by decide +kernel
set_option maxRecDepth 100000 in
theorem ck_Bs_pour_1 : (pg_Bs_pour_1).all (am_chk 2 cX2_pour) = true := by decide +kernel
theorem ck_Bs_pour : (pg_Bs_pour).all (am_chk 2 cX2_pour) = true := by
  unfold pg_Bs_pour
  simp only [List.all_append, Bool.and_eq_true]
  exact ⟨ck_Bs_pour_0, ck_Bs_pour_1⟩
set_option maxRecDepth 100000 in
theorem ck_Bs_throughout : (pg_Bs_throughout).all (am_chk 2 cX2_throughout) = true := by decide +kernel
set_option maxRecDepth 100000 in
theorem ck_Bs_withInner : (pg_Bs_withInner).all (am_chk 2 cX2_withInner) = true := by decide +kernel
set_option maxRecDepth 100000 in
theorem ck_Bs_stepsUp : (pg_Bs_stepsUp).all (am_chk 2 cX2_stepsUp) = true := by decide +kernel
set_option maxRecDepth 100000 in
theorem ck_Bs_holdSame : (pg_Bs_holdSame).all (am_chk 2 cX2_holdSame) = true := by decide +kernel
set_option maxRecDepth 100000 in
theorem ck_Bs_holdSameFrom : (pg_Bs_holdSameFrom).all (am_chk 2 cX2_holdSameFrom) = true := by decide +kernel
set_option maxRecDepth 100000 in
theorem ck_Bs_isSame : (pg_Bs_isSame).all (am_chk 2 cX2_isSame) = true := by decide +kernel
set_option maxRecDepth 100000 in
theorem ck_Fo_init : (pg_Fo_init).all (am_chk 3 cX3_init) = true := by decide +kernel
set_option maxRecDepth 100000 in
theorem ck_Fo_broughtBy : (pg_Fo_broughtBy).all (am_chk 3 cX3_broughtBy) = true := by decide +kernel
set_option maxRecDepth 100000 in
theorem ck_Fo_bestLead : (pg_Fo_bestLead).all (am_chk 3 cX3_bestLead) = true := by decide +kernel
set_option maxRecDepth 100000 in
theorem ck_Fo_lineMove : (pg_Fo_lineMove).all (am_chk 3 cX3_lineMove) = true := by decide +kernel
set_option maxRecDepth 100000 in
theorem ck_Fo_search_0 : (pg_Fo_search_0).all (am_chk 3 cX3_search) = true := by decide +kernel
set_option maxRecDepth 100000 in
theorem ck_Fo_search_1 : (pg_Fo_search_1).all (am_chk 3 cX3_search) = true := by decide +kernel
theorem ck_Fo_search : (pg_Fo_search).all (am_chk 3 cX3_search) = true := by
  unfold pg_Fo_search
  simp only [List.all_append, Bool.and_eq_true]
  exact ⟨ck_Fo_search_0, ck_Fo_search_1⟩
set_option maxRecDepth 100000 in
theorem ck_Fo_rashBoard : (pg_Fo_rashBoard).all (am_chk 3 cX3_rashBoard) = true := by decide +kernel
set_option maxRecDepth 100000 in
theorem ck_Fo_rashHouse : (pg_Fo_rashHouse).all (am_chk 3 cX3_rashHouse) = true := by decide +kernel
set_option maxRecDepth 100000 in
theorem ck_Fo_bestGift : (pg_Fo_bestGift).all (am_chk 3 cX3_bestGift) = true := by decide +kernel
set_option maxRecDepth 100000 in
theorem ck_Fo_odds : (pg_Fo_odds).all (am_chk 3 cX3_odds) = true := by decide +kernel
set_option maxRecDepth 100000 in
theorem ck_Fo_leading_0 : (pg_Fo_leading_0).all (am_chk 3 cX3_leading) = true := by decide +kernel
set_option maxRecDepth 100000 in
theorem ck_Fo_leading_1 : (pg_Fo_leading_1).all (am_chk 3 cX3_leading) = true := by decide +kernel
theorem ck_Fo_leading : (pg_Fo_leading).all (am_chk 3 cX3_leading) = true := by
  unfold pg_Fo_leading
  simp only [List.all_append, Bool.and_eq_true]
  exact ⟨ck_Fo_leading_0, ck_Fo_leading_1⟩
set_option maxRecDepth 100000 in
theorem ck_Fo_commonDivisor : (pg_Fo_commonDivisor).all (am_chk 3 cX3_commonDivisor) = true := by decide +kernel
set_option maxRecDepth 100000 in
theorem ck_Ki_isUnder : (pg_Ki_isUnder).all (am_chk 8 cX4_isUnder) = true := by decide +kernel
set_option maxRecDepth 100000 in
theorem ck_Ki_lifted : (pg_Ki_lifted).all (am_chk 8 cX4_lifted) = true := by decide +kernel
set_option maxRecDepth 100000 in
theorem ck_Ki_takes : (pg_Ki_takes).all (am_chk 8 cX4_takes) = true := by decide +kernel
set_option maxRecDepth 100000 in
theorem ck_Ki_yields : (pg_Ki_yields).all (am_chk 8 cX4_yields) = true := by decide +kernel
set_option maxRecDepth 100000 in
theorem ck_Si_init : (pg_Si_init).all (am_chk 4 cX5_init) = true := by decide +kernel
set_option maxRecDepth 100000 in
theorem ck_Si_add : (pg_Si_add).all (am_chk 4 cX5_add) = true := by decide +kernel
set_option maxRecDepth 100000 in
theorem ck_Si_clear : (pg_Si_clear).all (am_chk 4 cX5_clear) = true := by decide +kernel
set_option maxRecDepth 100000 in
theorem ck_Si_size : (pg_Si_size).all (am_chk 4 cX5_size) = true := by decide +kernel
set_option maxRecDepth 100000 in
theorem ck_Si_possible : (pg_Si_possible).all (am_chk 4 cX5_possible) = true := by decide +kernel
set_option maxRecDepth 100000 in
theorem ck_Si_fits : (pg_Si_fits).all (am_chk 4 cX5_fits) = true := by decide +kernel
set_option maxRecDepth 100000 in
theorem ck_Si_question : (pg_Si_question).all (am_chk 4 cX5_question) = true := by decide +kernel
set_option maxRecDepth 100000 in
theorem ck_Si_greatestPart : (pg_Si_greatestPart).all (am_chk 4 cX5_greatestPart) = true := by decide +kernel
set_option maxRecDepth 100000 in
theorem ck_Si_doAlike : (pg_Si_doAlike).all (am_chk 4 cX5_doAlike) = true := by decide +kernel
set_option maxRecDepth 100000 in
theorem ck_Te_init : (pg_Te_init).all (am_chk 5 cX6_init) = true := by decide +kernel
set_option maxRecDepth 100000 in
theorem ck_Te_add : (pg_Te_add).all (am_chk 5 cX6_add) = true := by decide +kernel
set_option maxRecDepth 100000 in
theorem ck_Te_clear : (pg_Te_clear).all (am_chk 5 cX6_clear) = true := by decide +kernel
set_option maxRecDepth 100000 in
theorem ck_Te_length : (pg_Te_length).all (am_chk 5 cX6_length) = true := by decide +kernel
set_option maxRecDepth 100000 in
theorem ck_Te_clauses : (pg_Te_clauses).all (am_chk 5 cX6_clauses) = true := by decide +kernel
set_option maxRecDepth 100000 in
theorem ck_Te_read : (pg_Te_read).all (am_chk 5 cX6_read) = true := by decide +kernel
set_option maxRecDepth 100000 in
theorem ck_Te_readClause : (pg_Te_readClause).all (am_chk 5 cX6_readClause) = true := by decide +kernel
set_option maxRecDepth 100000 in
theorem ck_Te_readFirst : (pg_Te_readFirst).all (am_chk 5 cX6_readFirst) = true := by decide +kernel
set_option maxRecDepth 100000 in
theorem ck_Te_readSecond : (pg_Te_readSecond).all (am_chk 5 cX6_readSecond) = true := by decide +kernel
set_option maxRecDepth 100000 in
theorem ck_Te_perform : (pg_Te_perform).all (am_chk 5 cX6_perform) = true := by decide +kernel
set_option maxRecDepth 100000 in
theorem ck_Te_readNumber : (pg_Te_readNumber).all (am_chk 5 cX6_readNumber) = true := by decide +kernel
set_option maxRecDepth 100000 in
theorem ck_Te_word : (pg_Te_word).all (am_chk 5 cX6_word) = true := by decide +kernel
set_option maxRecDepth 100000 in
theorem ck_Te_isWord : (pg_Te_isWord).all (am_chk 5 cX6_isWord) = true := by decide +kernel
set_option maxRecDepth 100000 in
theorem ck_Te_advance_0 : (pg_Te_advance_0).all (am_chk 5 cX6_advance) = true := by decide +kernel
set_option maxRecDepth 100000 in
theorem ck_Te_advance_1 : (pg_Te_advance_1).all (am_chk 5 cX6_advance) = true := by decide +kernel
theorem ck_Te_advance : (pg_Te_advance).all (am_chk 5 cX6_advance) = true := by
  unfold pg_Te_advance
  simp only [List.all_append, Bool.and_eq_true]
  exact ⟨ck_Te_advance_0, ck_Te_advance_1⟩
set_option maxRecDepth 100000 in
theorem ck_Te_isAt : (pg_Te_isAt).all (am_chk 5 cX6_isAt) = true := by decide +kernel
set_option maxRecDepth 100000 in
theorem ck_Ss_init_0 : (pg_Ss_init_0).all (am_chk 6 cX7_init) = true := by decide +kernel
set_option maxRecDepth 100000 in
theorem ck_Ss_init_1 : (pg_Ss_init_1).all (am_chk 6 cX7_init) = true := by decide +kernel
theorem ck_Ss_init : (pg_Ss_init).all (am_chk 6 cX7_init) = true := by
  unfold pg_Ss_init
  simp only [List.all_append, Bool.and_eq_true]
  exact ⟨ck_Ss_init_0, ck_Ss_init_1⟩
set_option maxRecDepth 100000 in
theorem ck_Ss_write : (pg_Ss_write).all (am_chk 6 cX7_write) = true := by decide +kernel
set_option maxRecDepth 100000 in
theorem ck_Ss_erase : (pg_Ss_erase).all (am_chk 6 cX7_erase) = true := by decide +kernel
set_option maxRecDepth 100000 in
theorem ck_Ss_fault : (pg_Ss_fault).all (am_chk 6 cX7_fault) = true := by decide +kernel
set_option maxRecDepth 100000 in
theorem ck_Ss_board : (pg_Ss_board).all (am_chk 6 cX7_board) = true := by decide +kernel
set_option maxRecDepth 100000 in
theorem ck_Ss_house : (pg_Ss_house).all (am_chk 6 cX7_house) = true := by decide +kernel
set_option maxRecDepth 100000 in
theorem ck_Ss_as : (pg_Ss_as).all (am_chk 6 cX7_as) = true := by decide +kernel
set_option maxRecDepth 100000 in
theorem ck_Ss_move : (pg_Ss_move).all (am_chk 6 cX7_move) = true := by decide +kernel
set_option maxRecDepth 100000 in
theorem ck_Ss_drop : (pg_Ss_drop).all (am_chk 6 cX7_drop) = true := by decide +kernel
set_option maxRecDepth 100000 in
theorem ck_Ss_swap : (pg_Ss_swap).all (am_chk 6 cX7_swap) = true := by decide +kernel
set_option maxRecDepth 100000 in
theorem ck_Ss_undo : (pg_Ss_undo).all (am_chk 6 cX7_undo) = true := by decide +kernel
set_option maxRecDepth 100000 in
theorem ck_Ss_keep : (pg_Ss_keep).all (am_chk 6 cX7_keep) = true := by decide +kernel
set_option maxRecDepth 100000 in
theorem ck_Ss_back : (pg_Ss_back).all (am_chk 6 cX7_back) = true := by decide +kernel
set_option maxRecDepth 100000 in
theorem ck_Ss_brings : (pg_Ss_brings).all (am_chk 6 cX7_brings) = true := by decide +kernel
set_option maxRecDepth 100000 in
theorem ck_Ss_best : (pg_Ss_best).all (am_chk 6 cX7_best) = true := by decide +kernel
set_option maxRecDepth 100000 in
theorem ck_Ss_rash : (pg_Ss_rash).all (am_chk 6 cX7_rash) = true := by decide +kernel
set_option maxRecDepth 100000 in
theorem ck_Ss_over : (pg_Ss_over).all (am_chk 6 cX7_over) = true := by decide +kernel
set_option maxRecDepth 100000 in
theorem ck_Ss_gift : (pg_Ss_gift).all (am_chk 6 cX7_gift) = true := by decide +kernel
set_option maxRecDepth 100000 in
theorem ck_Ss_luck : (pg_Ss_luck).all (am_chk 6 cX7_luck) = true := by decide +kernel
set_option maxRecDepth 100000 in
theorem ck_Ss_seen : (pg_Ss_seen).all (am_chk 6 cX7_seen) = true := by decide +kernel
set_option maxRecDepth 100000 in
theorem ck_Ss_forget : (pg_Ss_forget).all (am_chk 6 cX7_forget) = true := by decide +kernel
set_option maxRecDepth 100000 in
theorem ck_Ss_kinds : (pg_Ss_kinds).all (am_chk 6 cX7_kinds) = true := by decide +kernel
set_option maxRecDepth 100000 in
theorem ck_Ss_ask : (pg_Ss_ask).all (am_chk 6 cX7_ask) = true := by decide +kernel
set_option maxRecDepth 100000 in
theorem ck_Ss_box : (pg_Ss_box).all (am_chk 6 cX7_box) = true := by decide +kernel
set_option maxRecDepth 100000 in
theorem ck_Ss_put_0 : (pg_Ss_put_0).all (am_chk 6 cX7_put) = true := by decide +kernel
set_option maxRecDepth 100000 in
theorem ck_Ss_put_1 : (pg_Ss_put_1).all (am_chk 6 cX7_put) = true := by decide +kernel
theorem ck_Ss_put : (pg_Ss_put).all (am_chk 6 cX7_put) = true := by
  unfold pg_Ss_put
  simp only [List.all_append, Bool.and_eq_true]
  exact ⟨ck_Ss_put_0, ck_Ss_put_1⟩
set_option maxRecDepth 100000 in
theorem ck_Ss_take : (pg_Ss_take).all (am_chk 6 cX7_take) = true := by decide +kernel
set_option maxRecDepth 100000 in
theorem ck_Ss_spill : (pg_Ss_spill).all (am_chk 6 cX7_spill) = true := by decide +kernel
set_option maxRecDepth 100000 in
theorem ck_Ss_deep : (pg_Ss_deep).all (am_chk 6 cX7_deep) = true := by decide +kernel
set_option maxRecDepth 100000 in
theorem ck_Ss_alike : (pg_Ss_alike).all (am_chk 6 cX7_alike) = true := by decide +kernel
set_option maxRecDepth 100000 in
theorem ck_Ss_lose : (pg_Ss_lose).all (am_chk 6 cX7_lose) = true := by decide +kernel
set_option maxRecDepth 100000 in
theorem ck_Ss_count : (pg_Ss_count).all (am_chk 6 cX7_count) = true := by decide +kernel
set_option maxRecDepth 100000 in
theorem ck_Ss_isWithin : (pg_Ss_isWithin).all (am_chk 6 cX7_isWithin) = true := by decide +kernel
set_option maxRecDepth 100000 in
theorem ck_Ss_remember : (pg_Ss_remember).all (am_chk 6 cX7_remember) = true := by decide +kernel
set_option maxRecDepth 100000 in
theorem ck_Mo_in : (pg_Mo_in).all (am_chk 7 cX8_in) = true := by decide +kernel
set_option maxRecDepth 100000 in
theorem ck_Mo_init_0 : (pg_Mo_init_0).all (am_chk 7 cX8_init) = true := by decide +kernel
set_option maxRecDepth 100000 in
theorem ck_Mo_init_1 : (pg_Mo_init_1).all (am_chk 7 cX8_init) = true := by decide +kernel
theorem ck_Mo_init : (pg_Mo_init).all (am_chk 7 cX8_init) = true := by
  unfold pg_Mo_init
  simp only [List.all_append, Bool.and_eq_true]
  exact ⟨ck_Mo_init_0, ck_Mo_init_1⟩
set_option maxRecDepth 100000 in
theorem ck_Mo_atFirst : (pg_Mo_atFirst).all (am_chk 7 cX8_atFirst) = true := by decide +kernel
set_option maxRecDepth 100000 in
theorem ck_Mo_write : (pg_Mo_write).all (am_chk 7 cX8_write) = true := by decide +kernel
set_option maxRecDepth 100000 in
theorem ck_Mo_erase : (pg_Mo_erase).all (am_chk 7 cX8_erase) = true := by decide +kernel
set_option maxRecDepth 100000 in
theorem ck_Mo_letterAt : (pg_Mo_letterAt).all (am_chk 7 cX8_letterAt) = true := by decide +kernel
set_option maxRecDepth 100000 in
theorem ck_Mo_word : (pg_Mo_word).all (am_chk 7 cX8_word) = true := by decide +kernel
set_option maxRecDepth 100000 in
theorem ck_Mo_said_0 : (pg_Mo_said_0).all (am_chk 7 cX8_said) = true := by decide +kernel
set_option maxRecDepth 100000 in
theorem ck_Mo_said_1 : (pg_Mo_said_1).all (am_chk 7 cX8_said) = true := by decide +kernel
set_option maxRecDepth 100000 in
theorem ck_Mo_said_2 : (pg_Mo_said_2).all (am_chk 7 cX8_said) = true := by decide +kernel
theorem ck_Mo_said : (pg_Mo_said).all (am_chk 7 cX8_said) = true := by
  unfold pg_Mo_said
  simp only [List.all_append, Bool.and_eq_true]
  exact ⟨ck_Mo_said_0, ck_Mo_said_1, ck_Mo_said_2⟩
set_option maxRecDepth 100000 in
theorem ck_Mo_looksOn_0 : (pg_Mo_looksOn_0).all (am_chk 7 cX8_looksOn) = true := by decide +kernel
set_option maxRecDepth 100000 in
theorem ck_Mo_looksOn_1 : (pg_Mo_looksOn_1).all (am_chk 7 cX8_looksOn) = true := by decide +kernel
set_option maxRecDepth 100000 in
theorem ck_Mo_looksOn_2 : (pg_Mo_looksOn_2).all (am_chk 7 cX8_looksOn) = true := by decide +kernel
theorem ck_Mo_looksOn : (pg_Mo_looksOn).all (am_chk 7 cX8_looksOn) = true := by
  unfold pg_Mo_looksOn
  simp only [List.all_append, Bool.and_eq_true]
  exact ⟨ck_Mo_looksOn_0, ck_Mo_looksOn_1, ck_Mo_looksOn_2⟩
set_option maxRecDepth 100000 in
theorem ck_Mo_must : (pg_Mo_must).all (am_chk 7 cX8_must) = true := by decide +kernel
set_option maxRecDepth 100000 in
theorem ck_Mo_number : (pg_Mo_number).all (am_chk 7 cX8_number) = true := by decide +kernel
set_option maxRecDepth 100000 in
theorem ck_Mo_reads_0 : (pg_Mo_reads_0).all (am_chk 7 cX8_reads) = true := by decide +kernel
set_option maxRecDepth 100000 in
theorem ck_Mo_reads_1 : (pg_Mo_reads_1).all (am_chk 7 cX8_reads) = true := by decide +kernel
theorem ck_Mo_reads : (pg_Mo_reads).all (am_chk 7 cX8_reads) = true := by
  unfold pg_Mo_reads
  simp only [List.all_append, Bool.and_eq_true]
  exact ⟨ck_Mo_reads_0, ck_Mo_reads_1⟩
set_option maxRecDepth 100000 in
theorem ck_Mo_clauses_0 : (pg_Mo_clauses_0).all (am_chk 7 cX8_clauses) = true := by decide +kernel
set_option maxRecDepth 100000 in
theorem ck_Mo_clauses_1 : (pg_Mo_clauses_1).all (am_chk 7 cX8_clauses) = true := by decide +kernel
theorem ck_Mo_clauses : (pg_Mo_clauses).all (am_chk 7 cX8_clauses) = true := by
  unfold pg_Mo_clauses
  simp only [List.all_append, Bool.and_eq_true]
  exact ⟨ck_Mo_clauses_0, ck_Mo_clauses_1⟩
set_option maxRecDepth 100000 in
theorem ck_Mo_fault : (pg_Mo_fault).all (am_chk 7 cX8_fault) = true := by decide +kernel
set_option maxRecDepth 100000 in
theorem ck_Mo_board : (pg_Mo_board).all (am_chk 7 cX8_board) = true := by decide +kernel
set_option maxRecDepth 100000 in
theorem ck_Mo_isHouse : (pg_Mo_isHouse).all (am_chk 7 cX8_isHouse) = true := by decide +kernel
set_option maxRecDepth 100000 in
theorem ck_Mo_liftsOf : (pg_Mo_liftsOf).all (am_chk 7 cX8_liftsOf) = true := by decide +kernel
set_option maxRecDepth 100000 in
theorem ck_Mo_takesOne : (pg_Mo_takesOne).all (am_chk 7 cX8_takesOne) = true := by decide +kernel
set_option maxRecDepth 100000 in
theorem ck_Mo_yieldsAll : (pg_Mo_yieldsAll).all (am_chk 7 cX8_yieldsAll) = true := by decide +kernel
set_option maxRecDepth 100000 in
theorem ck_Mo_lifts : (pg_Mo_lifts).all (am_chk 7 cX8_lifts) = true := by decide +kernel
set_option maxRecDepth 100000 in
theorem ck_Mo_sideOf : (pg_Mo_sideOf).all (am_chk 7 cX8_sideOf) = true := by decide +kernel
set_option maxRecDepth 100000 in
theorem ck_Mo_canGo : (pg_Mo_canGo).all (am_chk 7 cX8_canGo) = true := by decide +kernel
set_option maxRecDepth 100000 in
theorem ck_Mo_house : (pg_Mo_house).all (am_chk 7 cX8_house) = true := by decide +kernel
set_option maxRecDepth 100000 in
theorem ck_Mo_as : (pg_Mo_as).all (am_chk 7 cX8_as) = true := by decide +kernel
set_option maxRecDepth 100000 in
theorem ck_Mo_next : (pg_Mo_next).all (am_chk 7 cX8_next) = true := by decide +kernel
set_option maxRecDepth 100000 in
theorem ck_Mo_ahead : (pg_Mo_ahead).all (am_chk 7 cX8_ahead) = true := by decide +kernel
set_option maxRecDepth 100000 in
theorem ck_Mo_anyTakes : (pg_Mo_anyTakes).all (am_chk 7 cX8_anyTakes) = true := by decide +kernel
set_option maxRecDepth 100000 in
theorem ck_Mo_goes_0 : (pg_Mo_goes_0).all (am_chk 7 cX8_goes) = true := by decide +kernel
set_option maxRecDepth 100000 in
theorem ck_Mo_goes_1 : (pg_Mo_goes_1).all (am_chk 7 cX8_goes) = true := by decide +kernel
set_option maxRecDepth 100000 in
theorem ck_Mo_goes_2 : (pg_Mo_goes_2).all (am_chk 7 cX8_goes) = true := by decide +kernel
theorem ck_Mo_goes : (pg_Mo_goes).all (am_chk 7 cX8_goes) = true := by
  unfold pg_Mo_goes
  simp only [List.all_append, Bool.and_eq_true]
  exact ⟨ck_Mo_goes_0, ck_Mo_goes_1, ck_Mo_goes_2⟩
set_option maxRecDepth 100000 in
theorem ck_Mo_notes : (pg_Mo_notes).all (am_chk 7 cX8_notes) = true := by decide +kernel
set_option maxRecDepth 100000 in
theorem ck_Mo_move : (pg_Mo_move).all (am_chk 7 cX8_move) = true := by decide +kernel
set_option maxRecDepth 100000 in
theorem ck_Mo_drop : (pg_Mo_drop).all (am_chk 7 cX8_drop) = true := by decide +kernel
set_option maxRecDepth 100000 in
theorem ck_Mo_swap : (pg_Mo_swap).all (am_chk 7 cX8_swap) = true := by decide +kernel
set_option maxRecDepth 100000 in
theorem ck_Mo_undo : (pg_Mo_undo).all (am_chk 7 cX8_undo) = true := by decide +kernel
set_option maxRecDepth 100000 in
theorem ck_Mo_keep : (pg_Mo_keep).all (am_chk 7 cX8_keep) = true := by decide +kernel
set_option maxRecDepth 100000 in
theorem ck_Mo_back : (pg_Mo_back).all (am_chk 7 cX8_back) = true := by decide +kernel
set_option maxRecDepth 100000 in
theorem ck_Mo_asides : (pg_Mo_asides).all (am_chk 7 cX8_asides) = true := by decide +kernel
set_option maxRecDepth 100000 in
theorem ck_Mo_backs : (pg_Mo_backs).all (am_chk 7 cX8_backs) = true := by decide +kernel
set_option maxRecDepth 100000 in
theorem ck_Mo_lead : (pg_Mo_lead).all (am_chk 7 cX8_lead) = true := by decide +kernel
set_option maxRecDepth 100000 in
theorem ck_Mo_wouldBring : (pg_Mo_wouldBring).all (am_chk 7 cX8_wouldBring) = true := by decide +kernel
set_option maxRecDepth 100000 in
theorem ck_Mo_brings : (pg_Mo_brings).all (am_chk 7 cX8_brings) = true := by decide +kernel
set_option maxRecDepth 100000 in
theorem ck_Mo_noted : (pg_Mo_noted).all (am_chk 7 cX8_noted) = true := by decide +kernel
set_option maxRecDepth 100000 in
theorem ck_Mo_begins : (pg_Mo_begins).all (am_chk 7 cX8_begins) = true := by decide +kernel
set_option maxRecDepth 100000 in
theorem ck_Mo_laysBack : (pg_Mo_laysBack).all (am_chk 7 cX8_laysBack) = true := by decide +kernel
set_option maxRecDepth 100000 in
theorem ck_Mo_ends_0 : (pg_Mo_ends_0).all (am_chk 7 cX8_ends) = true := by decide +kernel
set_option maxRecDepth 100000 in
theorem ck_Mo_ends_1 : (pg_Mo_ends_1).all (am_chk 7 cX8_ends) = true := by decide +kernel
theorem ck_Mo_ends : (pg_Mo_ends).all (am_chk 7 cX8_ends) = true := by
  unfold pg_Mo_ends
  simp only [List.all_append, Bool.and_eq_true]
  exact ⟨ck_Mo_ends_0, ck_Mo_ends_1⟩
set_option maxRecDepth 100000 in
theorem ck_Mo_looksAhead_0 : (pg_Mo_looksAhead_0).all (am_chk 7 cX8_looksAhead) = true := by decide +kernel
set_option maxRecDepth 100000 in
theorem ck_Mo_looksAhead_1 : (pg_Mo_looksAhead_1).all (am_chk 7 cX8_looksAhead) = true := by decide +kernel
theorem ck_Mo_looksAhead : (pg_Mo_looksAhead).all (am_chk 7 cX8_looksAhead) = true := by
  unfold pg_Mo_looksAhead
  simp only [List.all_append, Bool.and_eq_true]
  exact ⟨ck_Mo_looksAhead_0, ck_Mo_looksAhead_1⟩
set_option maxRecDepth 100000 in
theorem ck_Mo_best : (pg_Mo_best).all (am_chk 7 cX8_best) = true := by decide +kernel
set_option maxRecDepth 100000 in
theorem ck_Mo_rashOne : (pg_Mo_rashOne).all (am_chk 7 cX8_rashOne) = true := by decide +kernel
set_option maxRecDepth 100000 in
theorem ck_Mo_rashOnes : (pg_Mo_rashOnes).all (am_chk 7 cX8_rashOnes) = true := by decide +kernel
set_option maxRecDepth 100000 in
theorem ck_Mo_rash : (pg_Mo_rash).all (am_chk 7 cX8_rash) = true := by decide +kernel
set_option maxRecDepth 100000 in
theorem ck_Mo_over : (pg_Mo_over).all (am_chk 7 cX8_over) = true := by decide +kernel
set_option maxRecDepth 100000 in
theorem ck_Mo_gift_0 : (pg_Mo_gift_0).all (am_chk 7 cX8_gift) = true := by decide +kernel
set_option maxRecDepth 100000 in
theorem ck_Mo_gift_1 : (pg_Mo_gift_1).all (am_chk 7 cX8_gift) = true := by decide +kernel
theorem ck_Mo_gift : (pg_Mo_gift).all (am_chk 7 cX8_gift) = true := by
  unfold pg_Mo_gift
  simp only [List.all_append, Bool.and_eq_true]
  exact ⟨ck_Mo_gift_0, ck_Mo_gift_1⟩
set_option maxRecDepth 100000 in
theorem ck_Mo_movesThere : (pg_Mo_movesThere).all (am_chk 7 cX8_movesThere) = true := by decide +kernel
set_option maxRecDepth 100000 in
theorem ck_Mo_luck_0 : (pg_Mo_luck_0).all (am_chk 7 cX8_luck) = true := by decide +kernel
set_option maxRecDepth 100000 in
theorem ck_Mo_luck_1 : (pg_Mo_luck_1).all (am_chk 7 cX8_luck) = true := by decide +kernel
set_option maxRecDepth 100000 in
theorem ck_Mo_luck_2 : (pg_Mo_luck_2).all (am_chk 7 cX8_luck) = true := by decide +kernel
theorem ck_Mo_luck : (pg_Mo_luck).all (am_chk 7 cX8_luck) = true := by
  unfold pg_Mo_luck
  simp only [List.all_append, Bool.and_eq_true]
  exact ⟨ck_Mo_luck_0, ck_Mo_luck_1, ck_Mo_luck_2⟩
set_option maxRecDepth 100000 in
theorem ck_Mo_part : (pg_Mo_part).all (am_chk 7 cX8_part) = true := by decide +kernel
set_option maxRecDepth 100000 in
theorem ck_Mo_seen_0 : (pg_Mo_seen_0).all (am_chk 7 cX8_seen) = true := by decide +kernel
set_option maxRecDepth 100000 in
theorem ck_Mo_seen_1 : (pg_Mo_seen_1).all (am_chk 7 cX8_seen) = true := by decide +kernel
theorem ck_Mo_seen : (pg_Mo_seen).all (am_chk 7 cX8_seen) = true := by
  unfold pg_Mo_seen
  simp only [List.all_append, Bool.and_eq_true]
  exact ⟨ck_Mo_seen_0, ck_Mo_seen_1⟩
set_option maxRecDepth 100000 in
theorem ck_Mo_forget : (pg_Mo_forget).all (am_chk 7 cX8_forget) = true := by decide +kernel
set_option maxRecDepth 100000 in
theorem ck_Mo_isOf : (pg_Mo_isOf).all (am_chk 7 cX8_isOf) = true := by decide +kernel
set_option maxRecDepth 100000 in
theorem ck_Mo_kinds_0 : (pg_Mo_kinds_0).all (am_chk 7 cX8_kinds) = true := by decide +kernel
set_option maxRecDepth 100000 in
theorem ck_Mo_kinds_1 : (pg_Mo_kinds_1).all (am_chk 7 cX8_kinds) = true := by decide +kernel
theorem ck_Mo_kinds : (pg_Mo_kinds).all (am_chk 7 cX8_kinds) = true := by
  unfold pg_Mo_kinds
  simp only [List.all_append, Bool.and_eq_true]
  exact ⟨ck_Mo_kinds_0, ck_Mo_kinds_1⟩
set_option maxRecDepth 100000 in
theorem ck_Mo_ask_0 : (pg_Mo_ask_0).all (am_chk 7 cX8_ask) = true := by decide +kernel
set_option maxRecDepth 100000 in
theorem ck_Mo_ask_1 : (pg_Mo_ask_1).all (am_chk 7 cX8_ask) = true := by decide +kernel
theorem ck_Mo_ask : (pg_Mo_ask).all (am_chk 7 cX8_ask) = true := by
  unfold pg_Mo_ask
  simp only [List.all_append, Bool.and_eq_true]
  exact ⟨ck_Mo_ask_0, ck_Mo_ask_1⟩
set_option maxRecDepth 100000 in
theorem ck_Mo_noBoxes : (pg_Mo_noBoxes).all (am_chk 7 cX8_noBoxes) = true := by decide +kernel
set_option maxRecDepth 100000 in
theorem ck_Mo_isBox : (pg_Mo_isBox).all (am_chk 7 cX8_isBox) = true := by decide +kernel
set_option maxRecDepth 100000 in
theorem ck_Mo_loses_0 : (pg_Mo_loses_0).all (am_chk 7 cX8_loses) = true := by decide +kernel
set_option maxRecDepth 100000 in
theorem ck_Mo_loses_1 : (pg_Mo_loses_1).all (am_chk 7 cX8_loses) = true := by decide +kernel
set_option maxRecDepth 100000 in
theorem ck_Mo_loses_2 : (pg_Mo_loses_2).all (am_chk 7 cX8_loses) = true := by decide +kernel
theorem ck_Mo_loses : (pg_Mo_loses).all (am_chk 7 cX8_loses) = true := by
  unfold pg_Mo_loses
  simp only [List.all_append, Bool.and_eq_true]
  exact ⟨ck_Mo_loses_0, ck_Mo_loses_1, ck_Mo_loses_2⟩
set_option maxRecDepth 100000 in
theorem ck_Mo_box : (pg_Mo_box).all (am_chk 7 cX8_box) = true := by decide +kernel
set_option maxRecDepth 100000 in
theorem ck_Mo_isWithin : (pg_Mo_isWithin).all (am_chk 7 cX8_isWithin) = true := by decide +kernel
set_option maxRecDepth 100000 in
theorem ck_Mo_whyNotPut : (pg_Mo_whyNotPut).all (am_chk 7 cX8_whyNotPut) = true := by decide +kernel
set_option maxRecDepth 100000 in
theorem ck_Mo_put_0 : (pg_Mo_put_0).all (am_chk 7 cX8_put) = true := by decide +kernel
set_option maxRecDepth 100000 in
theorem ck_Mo_put_1 : (pg_Mo_put_1).all (am_chk 7 cX8_put) = true := by decide +kernel
theorem ck_Mo_put : (pg_Mo_put).all (am_chk 7 cX8_put) = true := by
  unfold pg_Mo_put
  simp only [List.all_append, Bool.and_eq_true]
  exact ⟨ck_Mo_put_0, ck_Mo_put_1⟩
set_option maxRecDepth 100000 in
theorem ck_Mo_whyNotOut : (pg_Mo_whyNotOut).all (am_chk 7 cX8_whyNotOut) = true := by decide +kernel
set_option maxRecDepth 100000 in
theorem ck_Mo_take : (pg_Mo_take).all (am_chk 7 cX8_take) = true := by decide +kernel
set_option maxRecDepth 100000 in
theorem ck_Mo_spill_0 : (pg_Mo_spill_0).all (am_chk 7 cX8_spill) = true := by decide +kernel
set_option maxRecDepth 100000 in
theorem ck_Mo_spill_1 : (pg_Mo_spill_1).all (am_chk 7 cX8_spill) = true := by decide +kernel
set_option maxRecDepth 100000 in
theorem ck_Mo_spill_2 : (pg_Mo_spill_2).all (am_chk 7 cX8_spill) = true := by decide +kernel
theorem ck_Mo_spill : (pg_Mo_spill).all (am_chk 7 cX8_spill) = true := by
  unfold pg_Mo_spill
  simp only [List.all_append, Bool.and_eq_true]
  exact ⟨ck_Mo_spill_0, ck_Mo_spill_1, ck_Mo_spill_2⟩
set_option maxRecDepth 100000 in
theorem ck_Mo_boxesIn : (pg_Mo_boxesIn).all (am_chk 7 cX8_boxesIn) = true := by decide +kernel
set_option maxRecDepth 100000 in
theorem ck_Mo_depth : (pg_Mo_depth).all (am_chk 7 cX8_depth) = true := by decide +kernel
set_option maxRecDepth 100000 in
theorem ck_Mo_deep_0 : (pg_Mo_deep_0).all (am_chk 7 cX8_deep) = true := by decide +kernel
set_option maxRecDepth 100000 in
theorem ck_Mo_deep_1 : (pg_Mo_deep_1).all (am_chk 7 cX8_deep) = true := by decide +kernel
set_option maxRecDepth 100000 in
theorem ck_Mo_deep_2 : (pg_Mo_deep_2).all (am_chk 7 cX8_deep) = true := by decide +kernel
theorem ck_Mo_deep : (pg_Mo_deep).all (am_chk 7 cX8_deep) = true := by
  unfold pg_Mo_deep
  simp only [List.all_append, Bool.and_eq_true]
  exact ⟨ck_Mo_deep_0, ck_Mo_deep_1, ck_Mo_deep_2⟩
set_option maxRecDepth 100000 in
theorem ck_Mo_alike_0 : (pg_Mo_alike_0).all (am_chk 7 cX8_alike) = true := by decide +kernel
set_option maxRecDepth 100000 in
theorem ck_Mo_alike_1 : (pg_Mo_alike_1).all (am_chk 7 cX8_alike) = true := by decide +kernel
set_option maxRecDepth 100000 in
theorem ck_Mo_alike_2 : (pg_Mo_alike_2).all (am_chk 7 cX8_alike) = true := by decide +kernel
theorem ck_Mo_alike : (pg_Mo_alike).all (am_chk 7 cX8_alike) = true := by
  unfold pg_Mo_alike
  simp only [List.all_append, Bool.and_eq_true]
  exact ⟨ck_Mo_alike_0, ck_Mo_alike_1, ck_Mo_alike_2⟩
set_option maxRecDepth 100000 in
theorem ck_Mo_lose : (pg_Mo_lose).all (am_chk 7 cX8_lose) = true := by decide +kernel
set_option maxRecDepth 100000 in
theorem ck_Mo_seedsOfAll : (pg_Mo_seedsOfAll).all (am_chk 7 cX8_seedsOfAll) = true := by decide +kernel
set_option maxRecDepth 100000 in
theorem ck_Mo_goers : (pg_Mo_goers).all (am_chk 7 cX8_goers) = true := by decide +kernel
set_option maxRecDepth 100000 in
theorem ck_Mo_boxesThere : (pg_Mo_boxesThere).all (am_chk 7 cX8_boxesThere) = true := by decide +kernel
set_option maxRecDepth 100000 in
theorem ck_Mo_count : (pg_Mo_count).all (am_chk 7 cX8_count) = true := by decide +kernel
set_option maxRecDepth 100000 in
theorem ck_Jd_bitCount : (pg_Jd_bitCount).all (am_chk 9 cJ6_bitCount_0f7a4) = true := by decide +kernel
set_option maxRecDepth 100000 in
theorem ck_La_law_0 : (pg_La_law_0).all (am_chk 10 cL_law) = true := by decide +kernel
set_option maxRecDepth 100000 in
theorem ck_La_law_1 : (pg_La_law_1).all (am_chk 10 cL_law) = true := by decide +kernel
set_option maxRecDepth 100000 in
theorem ck_La_law_2 : (pg_La_law_2).all (am_chk 10 cL_law) = true := by decide +kernel
set_option maxRecDepth 100000 in
theorem ck_La_law_3 : (pg_La_law_3).all (am_chk 10 cL_law) = true := by decide +kernel
set_option maxRecDepth 100000 in
theorem ck_La_law_4 : (pg_La_law_4).all (am_chk 10 cL_law) = true := by decide +kernel
set_option maxRecDepth 100000 in
theorem ck_La_law_5 : (pg_La_law_5).all (am_chk 10 cL_law) = true := by decide +kernel
set_option maxRecDepth 100000 in
theorem ck_La_law_6 : (pg_La_law_6).all (am_chk 10 cL_law) = true := by decide +kernel
set_option maxRecDepth 100000 in
theorem ck_La_law_7 : (pg_La_law_7).all (am_chk 10 cL_law) = true := by decide +kernel
set_option maxRecDepth 100000 in
theorem ck_La_law_8 : (pg_La_law_8).all (am_chk 10 cL_law) = true := by decide +kernel
set_option maxRecDepth 100000 in
theorem ck_La_law_9 : (pg_La_law_9).all (am_chk 10 cL_law) = true := by decide +kernel
set_option maxRecDepth 100000 in
theorem ck_La_law_10 : (pg_La_law_10).all (am_chk 10 cL_law) = true := by decide +kernel
theorem ck_La_law : (pg_La_law).all (am_chk 10 cL_law) = true := by
  unfold pg_La_law
  simp only [List.all_append, Bool.and_eq_true]
  exact ⟨ck_La_law_0, ck_La_law_1, ck_La_law_2, ck_La_law_3, ck_La_law_4, ck_La_law_5, ck_La_law_6, ck_La_law_7, ck_La_law_8, ck_La_law_9, ck_La_law_10⟩
end
section
/-! All methods at once. -/
theorem msOK_0 : ∀ k q a, (am_inf_0)[k]? = some q → am_ms[0 + k]? = some a → a.1.all (am_chk q.2.2.2.2.2.2.2.2 q.2.1) = true ∧ a.2 = q.2.2.1 := by
  intro k q a hq ha
  match k, hq, ha with
  | 0, hq, ha => cases hq; cases ha; exact ⟨ck_Bd_init, rfl⟩
  | 1, hq, ha => cases hq; cases ha; exact ⟨ck_Bd_setUp, rfl⟩
  | 2, hq, ha => cases hq; cases ha; exact ⟨ck_Bd_copy, rfl⟩
  | 3, hq, ha => cases hq; cases ha; exact ⟨ck_Bd_houses, rfl⟩
  | 4, hq, ha => cases hq; cases ha; exact ⟨ck_Bd_has, rfl⟩
  | 5, hq, ha => cases hq; cases ha; exact ⟨ck_Bd_sideOf, rfl⟩
  | 6, hq, ha => cases hq; cases ha; exact ⟨ck_Bd_moves, rfl⟩
  | 7, hq, ha => cases hq; cases ha; exact ⟨ck_Bd_turn, rfl⟩
  | 8, hq, ha => cases hq; cases ha; exact ⟨ck_Bd_barn, rfl⟩
  | 9, hq, ha => cases hq; cases ha; exact ⟨ck_Bd_lead, rfl⟩
  | 10, hq, ha => cases hq; cases ha; exact ⟨ck_Bd_kind, rfl⟩
  | 11, hq, ha => cases hq; cases ha; exact ⟨ck_Bd_seeds, rfl⟩
  | 12, hq, ha => cases hq; cases ha; exact ⟨ck_Bd_lifted, rfl⟩
  | 13, hq, ha => cases hq; cases ha; exact ⟨ck_Bd_takes, rfl⟩
  | 14, hq, ha => cases hq; cases ha; exact ⟨ck_Bd_yields, rfl⟩
  | 15, hq, ha => cases hq; cases ha; exact ⟨ck_Bd_goes, rfl⟩
  | 16, hq, ha => cases hq; cases ha; exact ⟨ck_Bd_goingBits, rfl⟩
  | 17, hq, ha => cases hq; cases ha; exact ⟨ck_Bd_allSeeds, rfl⟩
  | 18, hq, ha => cases hq; cases ha; exact ⟨ck_Bd_setKind, rfl⟩
  | 19, hq, ha => cases hq; cases ha; exact ⟨ck_Bd_setSeeds, rfl⟩
  | 20, hq, ha => cases hq; cases ha; exact ⟨ck_Bd_setBarn, rfl⟩
  | 21, hq, ha => cases hq; cases ha; exact ⟨ck_Bd_setTurn, rfl⟩
  | 22, hq, ha => cases hq; cases ha; exact ⟨ck_Bd_give, rfl⟩
  | 23, hq, ha => cases hq; cases ha; exact ⟨ck_Bd_exchangeKinds, rfl⟩
  | 24, hq, ha => cases hq; cases ha; exact ⟨ck_Bd_sow, rfl⟩
  | 25, hq, ha => cases hq; cases ha; exact ⟨ck_Bd_spread, rfl⟩
  | 26, hq, ha => cases hq; cases ha; exact ⟨ck_Bd_nextTaker, rfl⟩
  | 27, hq, ha => cases hq; cases ha; exact ⟨ck_Bd_reap, rfl⟩
  | 28, hq, ha => cases hq; cases ha; exact ⟨ck_Bx_init, rfl⟩
  | 29, hq, ha => cases hq; cases ha; exact ⟨ck_Bx_push, rfl⟩
  | k + 30, hq, _ => cases hq
theorem msOK_1 : ∀ k q a, (am_inf_1)[k]? = some q → am_ms[30 + k]? = some a → a.1.all (am_chk q.2.2.2.2.2.2.2.2 q.2.1) = true ∧ a.2 = q.2.2.1 := by
  intro k q a hq ha
  match k, hq, ha with
  | 0, hq, ha => cases hq; cases ha; exact ⟨ck_Bx_hasOnTop, rfl⟩
  | 1, hq, ha => cases hq; cases ha; exact ⟨ck_Bx_pullBox, rfl⟩
  | 2, hq, ha => cases hq; cases ha; exact ⟨ck_Bx_numbers, rfl⟩
  | 3, hq, ha => cases hq; cases ha; exact ⟨ck_Bx_sum, rfl⟩
  | 4, hq, ha => cases hq; cases ha; exact ⟨ck_Bx_houseBits, rfl⟩
  | 5, hq, ha => cases hq; cases ha; exact ⟨ck_Bs_init, rfl⟩
  | 6, hq, ha => cases hq; cases ha; exact ⟨ck_Bs_has, rfl⟩
  | 7, hq, ha => cases hq; cases ha; exact ⟨ck_Bs_isThere, rfl⟩
  | 8, hq, ha => cases hq; cases ha; exact ⟨ck_Bs_thereBits, rfl⟩
  | 9, hq, ha => cases hq; cases ha; exact ⟨ck_Bs_clear, rfl⟩
  | 10, hq, ha => cases hq; cases ha; exact ⟨ck_Bs_make, rfl⟩
  | 11, hq, ha => cases hq; cases ha; exact ⟨ck_Bs_remove, rfl⟩
  | 12, hq, ha => cases hq; cases ha; exact ⟨ck_Bs_lay, rfl⟩
  | 13, hq, ha => cases hq; cases ha; exact ⟨ck_Bs_lift, rfl⟩
  | 14, hq, ha => cases hq; cases ha; exact ⟨ck_Bs_pour, rfl⟩
  | 15, hq, ha => cases hq; cases ha; exact ⟨ck_Bs_throughout, rfl⟩
  | 16, hq, ha => cases hq; cases ha; exact ⟨ck_Bs_withInner, rfl⟩
  | 17, hq, ha => cases hq; cases ha; exact ⟨ck_Bs_stepsUp, rfl⟩
  | 18, hq, ha => cases hq; cases ha; exact ⟨ck_Bs_holdSame, rfl⟩
  | 19, hq, ha => cases hq; cases ha; exact ⟨ck_Bs_holdSameFrom, rfl⟩
  | 20, hq, ha => cases hq; cases ha; exact ⟨ck_Bs_isSame, rfl⟩
  | 21, hq, ha => cases hq; cases ha; exact ⟨ck_Fo_init, rfl⟩
  | 22, hq, ha => cases hq; cases ha; exact ⟨ck_Fo_broughtBy, rfl⟩
  | 23, hq, ha => cases hq; cases ha; exact ⟨ck_Fo_bestLead, rfl⟩
  | 24, hq, ha => cases hq; cases ha; exact ⟨ck_Fo_lineMove, rfl⟩
  | 25, hq, ha => cases hq; cases ha; exact ⟨ck_Fo_search, rfl⟩
  | 26, hq, ha => cases hq; cases ha; exact ⟨ck_Fo_rashBoard, rfl⟩
  | 27, hq, ha => cases hq; cases ha; exact ⟨ck_Fo_rashHouse, rfl⟩
  | 28, hq, ha => cases hq; cases ha; exact ⟨ck_Fo_bestGift, rfl⟩
  | 29, hq, ha => cases hq; cases ha; exact ⟨ck_Fo_odds, rfl⟩
  | k + 30, hq, _ => cases hq
theorem msOK_2 : ∀ k q a, (am_inf_2)[k]? = some q → am_ms[60 + k]? = some a → a.1.all (am_chk q.2.2.2.2.2.2.2.2 q.2.1) = true ∧ a.2 = q.2.2.1 := by
  intro k q a hq ha
  match k, hq, ha with
  | 0, hq, ha => cases hq; cases ha; exact ⟨ck_Fo_leading, rfl⟩
  | 1, hq, ha => cases hq; cases ha; exact ⟨ck_Fo_commonDivisor, rfl⟩
  | 2, hq, ha => cases hq; cases ha; exact ⟨ck_Ki_isUnder, rfl⟩
  | 3, hq, ha => cases hq; cases ha; exact ⟨ck_Ki_lifted, rfl⟩
  | 4, hq, ha => cases hq; cases ha; exact ⟨ck_Ki_takes, rfl⟩
  | 5, hq, ha => cases hq; cases ha; exact ⟨ck_Ki_yields, rfl⟩
  | 6, hq, ha => cases hq; cases ha; exact ⟨ck_Si_init, rfl⟩
  | 7, hq, ha => cases hq; cases ha; exact ⟨ck_Si_add, rfl⟩
  | 8, hq, ha => cases hq; cases ha; exact ⟨ck_Si_clear, rfl⟩
  | 9, hq, ha => cases hq; cases ha; exact ⟨ck_Si_size, rfl⟩
  | 10, hq, ha => cases hq; cases ha; exact ⟨ck_Si_possible, rfl⟩
  | 11, hq, ha => cases hq; cases ha; exact ⟨ck_Si_fits, rfl⟩
  | 12, hq, ha => cases hq; cases ha; exact ⟨ck_Si_question, rfl⟩
  | 13, hq, ha => cases hq; cases ha; exact ⟨ck_Si_greatestPart, rfl⟩
  | 14, hq, ha => cases hq; cases ha; exact ⟨ck_Si_doAlike, rfl⟩
  | 15, hq, ha => cases hq; cases ha; exact ⟨ck_Te_init, rfl⟩
  | 16, hq, ha => cases hq; cases ha; exact ⟨ck_Te_add, rfl⟩
  | 17, hq, ha => cases hq; cases ha; exact ⟨ck_Te_clear, rfl⟩
  | 18, hq, ha => cases hq; cases ha; exact ⟨ck_Te_length, rfl⟩
  | 19, hq, ha => cases hq; cases ha; exact ⟨ck_Te_clauses, rfl⟩
  | 20, hq, ha => cases hq; cases ha; exact ⟨ck_Te_read, rfl⟩
  | 21, hq, ha => cases hq; cases ha; exact ⟨ck_Te_readClause, rfl⟩
  | 22, hq, ha => cases hq; cases ha; exact ⟨ck_Te_readFirst, rfl⟩
  | 23, hq, ha => cases hq; cases ha; exact ⟨ck_Te_readSecond, rfl⟩
  | 24, hq, ha => cases hq; cases ha; exact ⟨ck_Te_perform, rfl⟩
  | 25, hq, ha => cases hq; cases ha; exact ⟨ck_Te_readNumber, rfl⟩
  | 26, hq, ha => cases hq; cases ha; exact ⟨ck_Te_word, rfl⟩
  | 27, hq, ha => cases hq; cases ha; exact ⟨ck_Te_isWord, rfl⟩
  | 28, hq, ha => cases hq; cases ha; exact ⟨ck_Te_advance, rfl⟩
  | 29, hq, ha => cases hq; cases ha; exact ⟨ck_Te_isAt, rfl⟩
  | k + 30, hq, _ => cases hq
theorem msOK_3 : ∀ k q a, (am_inf_3)[k]? = some q → am_ms[90 + k]? = some a → a.1.all (am_chk q.2.2.2.2.2.2.2.2 q.2.1) = true ∧ a.2 = q.2.2.1 := by
  intro k q a hq ha
  match k, hq, ha with
  | 0, hq, ha => cases hq; cases ha; exact ⟨ck_Ss_init, rfl⟩
  | 1, hq, ha => cases hq; cases ha; exact ⟨ck_Ss_write, rfl⟩
  | 2, hq, ha => cases hq; cases ha; exact ⟨ck_Ss_erase, rfl⟩
  | 3, hq, ha => cases hq; cases ha; exact ⟨ck_Ss_fault, rfl⟩
  | 4, hq, ha => cases hq; cases ha; exact ⟨ck_Ss_board, rfl⟩
  | 5, hq, ha => cases hq; cases ha; exact ⟨ck_Ss_house, rfl⟩
  | 6, hq, ha => cases hq; cases ha; exact ⟨ck_Ss_as, rfl⟩
  | 7, hq, ha => cases hq; cases ha; exact ⟨ck_Ss_move, rfl⟩
  | 8, hq, ha => cases hq; cases ha; exact ⟨ck_Ss_drop, rfl⟩
  | 9, hq, ha => cases hq; cases ha; exact ⟨ck_Ss_swap, rfl⟩
  | 10, hq, ha => cases hq; cases ha; exact ⟨ck_Ss_undo, rfl⟩
  | 11, hq, ha => cases hq; cases ha; exact ⟨ck_Ss_keep, rfl⟩
  | 12, hq, ha => cases hq; cases ha; exact ⟨ck_Ss_back, rfl⟩
  | 13, hq, ha => cases hq; cases ha; exact ⟨ck_Ss_brings, rfl⟩
  | 14, hq, ha => cases hq; cases ha; exact ⟨ck_Ss_best, rfl⟩
  | 15, hq, ha => cases hq; cases ha; exact ⟨ck_Ss_rash, rfl⟩
  | 16, hq, ha => cases hq; cases ha; exact ⟨ck_Ss_over, rfl⟩
  | 17, hq, ha => cases hq; cases ha; exact ⟨ck_Ss_gift, rfl⟩
  | 18, hq, ha => cases hq; cases ha; exact ⟨ck_Ss_luck, rfl⟩
  | 19, hq, ha => cases hq; cases ha; exact ⟨ck_Ss_seen, rfl⟩
  | 20, hq, ha => cases hq; cases ha; exact ⟨ck_Ss_forget, rfl⟩
  | 21, hq, ha => cases hq; cases ha; exact ⟨ck_Ss_kinds, rfl⟩
  | 22, hq, ha => cases hq; cases ha; exact ⟨ck_Ss_ask, rfl⟩
  | 23, hq, ha => cases hq; cases ha; exact ⟨ck_Ss_box, rfl⟩
  | 24, hq, ha => cases hq; cases ha; exact ⟨ck_Ss_put, rfl⟩
  | 25, hq, ha => cases hq; cases ha; exact ⟨ck_Ss_take, rfl⟩
  | 26, hq, ha => cases hq; cases ha; exact ⟨ck_Ss_spill, rfl⟩
  | 27, hq, ha => cases hq; cases ha; exact ⟨ck_Ss_deep, rfl⟩
  | 28, hq, ha => cases hq; cases ha; exact ⟨ck_Ss_alike, rfl⟩
  | 29, hq, ha => cases hq; cases ha; exact ⟨ck_Ss_lose, rfl⟩
  | k + 30, hq, _ => cases hq
theorem msOK_4 : ∀ k q a, (am_inf_4)[k]? = some q → am_ms[120 + k]? = some a → a.1.all (am_chk q.2.2.2.2.2.2.2.2 q.2.1) = true ∧ a.2 = q.2.2.1 := by
  intro k q a hq ha
  match k, hq, ha with
  | 0, hq, ha => cases hq; cases ha; exact ⟨ck_Ss_count, rfl⟩
  | 1, hq, ha => cases hq; cases ha; exact ⟨ck_Ss_isWithin, rfl⟩
  | 2, hq, ha => cases hq; cases ha; exact ⟨ck_Ss_remember, rfl⟩
  | 3, hq, ha => cases hq; cases ha; exact ⟨ck_Mo_in, rfl⟩
  | 4, hq, ha => cases hq; cases ha; exact ⟨ck_Mo_init, rfl⟩
  | 5, hq, ha => cases hq; cases ha; exact ⟨ck_Mo_atFirst, rfl⟩
  | 6, hq, ha => cases hq; cases ha; exact ⟨ck_Mo_write, rfl⟩
  | 7, hq, ha => cases hq; cases ha; exact ⟨ck_Mo_erase, rfl⟩
  | 8, hq, ha => cases hq; cases ha; exact ⟨ck_Mo_letterAt, rfl⟩
  | 9, hq, ha => cases hq; cases ha; exact ⟨ck_Mo_word, rfl⟩
  | 10, hq, ha => cases hq; cases ha; exact ⟨ck_Mo_said, rfl⟩
  | 11, hq, ha => cases hq; cases ha; exact ⟨ck_Mo_looksOn, rfl⟩
  | 12, hq, ha => cases hq; cases ha; exact ⟨ck_Mo_must, rfl⟩
  | 13, hq, ha => cases hq; cases ha; exact ⟨ck_Mo_number, rfl⟩
  | 14, hq, ha => cases hq; cases ha; exact ⟨ck_Mo_reads, rfl⟩
  | 15, hq, ha => cases hq; cases ha; exact ⟨ck_Mo_clauses, rfl⟩
  | 16, hq, ha => cases hq; cases ha; exact ⟨ck_Mo_fault, rfl⟩
  | 17, hq, ha => cases hq; cases ha; exact ⟨ck_Mo_board, rfl⟩
  | 18, hq, ha => cases hq; cases ha; exact ⟨ck_Mo_isHouse, rfl⟩
  | 19, hq, ha => cases hq; cases ha; exact ⟨ck_Mo_liftsOf, rfl⟩
  | 20, hq, ha => cases hq; cases ha; exact ⟨ck_Mo_takesOne, rfl⟩
  | 21, hq, ha => cases hq; cases ha; exact ⟨ck_Mo_yieldsAll, rfl⟩
  | 22, hq, ha => cases hq; cases ha; exact ⟨ck_Mo_lifts, rfl⟩
  | 23, hq, ha => cases hq; cases ha; exact ⟨ck_Mo_sideOf, rfl⟩
  | 24, hq, ha => cases hq; cases ha; exact ⟨ck_Mo_canGo, rfl⟩
  | 25, hq, ha => cases hq; cases ha; exact ⟨ck_Mo_house, rfl⟩
  | 26, hq, ha => cases hq; cases ha; exact ⟨ck_Mo_as, rfl⟩
  | 27, hq, ha => cases hq; cases ha; exact ⟨ck_Mo_next, rfl⟩
  | 28, hq, ha => cases hq; cases ha; exact ⟨ck_Mo_ahead, rfl⟩
  | 29, hq, ha => cases hq; cases ha; exact ⟨ck_Mo_anyTakes, rfl⟩
  | k + 30, hq, _ => cases hq
theorem msOK_5 : ∀ k q a, (am_inf_5)[k]? = some q → am_ms[150 + k]? = some a → a.1.all (am_chk q.2.2.2.2.2.2.2.2 q.2.1) = true ∧ a.2 = q.2.2.1 := by
  intro k q a hq ha
  match k, hq, ha with
  | 0, hq, ha => cases hq; cases ha; exact ⟨ck_Mo_goes, rfl⟩
  | 1, hq, ha => cases hq; cases ha; exact ⟨ck_Mo_notes, rfl⟩
  | 2, hq, ha => cases hq; cases ha; exact ⟨ck_Mo_move, rfl⟩
  | 3, hq, ha => cases hq; cases ha; exact ⟨ck_Mo_drop, rfl⟩
  | 4, hq, ha => cases hq; cases ha; exact ⟨ck_Mo_swap, rfl⟩
  | 5, hq, ha => cases hq; cases ha; exact ⟨ck_Mo_undo, rfl⟩
  | 6, hq, ha => cases hq; cases ha; exact ⟨ck_Mo_keep, rfl⟩
  | 7, hq, ha => cases hq; cases ha; exact ⟨ck_Mo_back, rfl⟩
  | 8, hq, ha => cases hq; cases ha; exact ⟨ck_Mo_asides, rfl⟩
  | 9, hq, ha => cases hq; cases ha; exact ⟨ck_Mo_backs, rfl⟩
  | 10, hq, ha => cases hq; cases ha; exact ⟨ck_Mo_lead, rfl⟩
  | 11, hq, ha => cases hq; cases ha; exact ⟨ck_Mo_wouldBring, rfl⟩
  | 12, hq, ha => cases hq; cases ha; exact ⟨ck_Mo_brings, rfl⟩
  | 13, hq, ha => cases hq; cases ha; exact ⟨ck_Mo_noted, rfl⟩
  | 14, hq, ha => cases hq; cases ha; exact ⟨ck_Mo_begins, rfl⟩
  | 15, hq, ha => cases hq; cases ha; exact ⟨ck_Mo_laysBack, rfl⟩
  | 16, hq, ha => cases hq; cases ha; exact ⟨ck_Mo_ends, rfl⟩
  | 17, hq, ha => cases hq; cases ha; exact ⟨ck_Mo_looksAhead, rfl⟩
  | 18, hq, ha => cases hq; cases ha; exact ⟨ck_Mo_best, rfl⟩
  | 19, hq, ha => cases hq; cases ha; exact ⟨ck_Mo_rashOne, rfl⟩
  | 20, hq, ha => cases hq; cases ha; exact ⟨ck_Mo_rashOnes, rfl⟩
  | 21, hq, ha => cases hq; cases ha; exact ⟨ck_Mo_rash, rfl⟩
  | 22, hq, ha => cases hq; cases ha; exact ⟨ck_Mo_over, rfl⟩
  | 23, hq, ha => cases hq; cases ha; exact ⟨ck_Mo_gift, rfl⟩
  | 24, hq, ha => cases hq; cases ha; exact ⟨ck_Mo_movesThere, rfl⟩
  | 25, hq, ha => cases hq; cases ha; exact ⟨ck_Mo_luck, rfl⟩
  | 26, hq, ha => cases hq; cases ha; exact ⟨ck_Mo_part, rfl⟩
  | 27, hq, ha => cases hq; cases ha; exact ⟨ck_Mo_seen, rfl⟩
  | 28, hq, ha => cases hq; cases ha; exact ⟨ck_Mo_forget, rfl⟩
  | 29, hq, ha => cases hq; cases ha; exact ⟨ck_Mo_isOf, rfl⟩
  | k + 30, hq, _ => cases hq
theorem msOK_6 : ∀ k q a, (am_inf_6)[k]? = some q → am_ms[180 + k]? = some a → a.1.all (am_chk q.2.2.2.2.2.2.2.2 q.2.1) = true ∧ a.2 = q.2.2.1 := by
  intro k q a hq ha
  match k, hq, ha with
  | 0, hq, ha => cases hq; cases ha; exact ⟨ck_Mo_kinds, rfl⟩
  | 1, hq, ha => cases hq; cases ha; exact ⟨ck_Mo_ask, rfl⟩
  | 2, hq, ha => cases hq; cases ha; exact ⟨ck_Mo_noBoxes, rfl⟩
  | 3, hq, ha => cases hq; cases ha; exact ⟨ck_Mo_isBox, rfl⟩
  | 4, hq, ha => cases hq; cases ha; exact ⟨ck_Mo_loses, rfl⟩
  | 5, hq, ha => cases hq; cases ha; exact ⟨ck_Mo_box, rfl⟩
  | 6, hq, ha => cases hq; cases ha; exact ⟨ck_Mo_isWithin, rfl⟩
  | 7, hq, ha => cases hq; cases ha; exact ⟨ck_Mo_whyNotPut, rfl⟩
  | 8, hq, ha => cases hq; cases ha; exact ⟨ck_Mo_put, rfl⟩
  | 9, hq, ha => cases hq; cases ha; exact ⟨ck_Mo_whyNotOut, rfl⟩
  | 10, hq, ha => cases hq; cases ha; exact ⟨ck_Mo_take, rfl⟩
  | 11, hq, ha => cases hq; cases ha; exact ⟨ck_Mo_spill, rfl⟩
  | 12, hq, ha => cases hq; cases ha; exact ⟨ck_Mo_boxesIn, rfl⟩
  | 13, hq, ha => cases hq; cases ha; exact ⟨ck_Mo_depth, rfl⟩
  | 14, hq, ha => cases hq; cases ha; exact ⟨ck_Mo_deep, rfl⟩
  | 15, hq, ha => cases hq; cases ha; exact ⟨ck_Mo_alike, rfl⟩
  | 16, hq, ha => cases hq; cases ha; exact ⟨ck_Mo_lose, rfl⟩
  | 17, hq, ha => cases hq; cases ha; exact ⟨ck_Mo_seedsOfAll, rfl⟩
  | 18, hq, ha => cases hq; cases ha; exact ⟨ck_Mo_goers, rfl⟩
  | 19, hq, ha => cases hq; cases ha; exact ⟨ck_Mo_boxesThere, rfl⟩
  | 20, hq, ha => cases hq; cases ha; exact ⟨ck_Mo_count, rfl⟩
  | 21, hq, ha => cases hq; cases ha; exact ⟨ck_Jd_bitCount, rfl⟩
  | 22, hq, ha => cases hq; cases ha; exact ⟨ck_La_law, rfl⟩
  | k + 23, hq, _ => cases hq
end
section
/-! Runs of the abstract machine: by fuel, their limit, its fixed point, and the limit unfolded up to given places. -/
def fetM (m pc : Nat) : Option (Instr × LK × List (Int × Nat)) := match nthL am_ms m with
  | none => none
  | some q => fetL q.1 pc
def entM (m : Nat) (as : List AV) : List AV := match nthL am_ms m with
  | none => []
  | some q => padL q.2 (argL as)
/-- the arguments fit the method's locals -/
def entOK (m : Nat) (as : List AV) : Bool := match nthL am_ms m with
  | none => false
  | some q => Nat.ble (argL as).length q.2
noncomputable def stepM (self : Nat → List AV → List AV → AH → AR) (call : Nat → List AV → AH → AR) (m pc : Nat) (ls st : List AV) (h : AH) : AR := match fetM m pc with
  | none => none
  | some q => stepF self call q.1 q.2.1 q.2.2 pc ls st h
noncomputable def exec : Nat → Nat → Nat → Nat → List AV → List AV → AH → AR
  | 0, _, _, _, _, _, _ => none
  | f + 1, d, m, pc, ls, st, h => stepM (fun pc ls st h => exec f d m pc ls st h) (fun m' as h => match d with
    | 0 => none
    | d' + 1 => cond (entOK m' as) (exec f d' m' 0 (entM m' as) [] h) none) m pc ls st h
def LimR (F : Nat → AR) (g : AR) : Prop := (∀ f f' r, f ≤ f' → F f = some r → F f' = some r) ∧ ∀ r, g = some r ↔ ∃ f, F f = some r
theorem lim_const (c : AR) : LimR (fun _ => c) c := ⟨fun _ _ _ _ h => h, fun _ => ⟨fun h => ⟨0, h⟩, fun ⟨_, h⟩ => h⟩⟩
theorem lim_bind {α : Type} (p : Option α) {F : Nat → α → AR} {g : α → AR} (h : ∀ a, LimR (fun f => F f a) (g a)) : LimR (fun f => p.bind (F f)) (p.bind g) := by
  cases p with
  | none => exact lim_const none
  | some a => exact h a
theorem lim_call {C : Nat → AR} {c : AR} {K : Nat → (Int × AH) → AR} {k : (Int × AH) → AR} (hC : LimR C c) (hK : ∀ q, LimR (fun f => K f q) (k q)) : LimR (fun f => (C f).bind (K f)) (c.bind k) := by
  refine ⟨?_, ?_⟩
  · intro f f' r hf h
    simp only [Option.bind_eq_some_iff] at h ⊢
    obtain ⟨q, h1, h2⟩ := h
    exact ⟨q, hC.1 f f' q hf h1, (hK q).1 f f' r hf h2⟩
  · intro r
    simp only [Option.bind_eq_some_iff]
    constructor
    · rintro ⟨q, h1, h2⟩
      obtain ⟨f1, h1⟩ := (hC.2 q).mp h1
      obtain ⟨f2, h2⟩ := ((hK q).2 r).mp h2
      exact ⟨f1 + f2, q, hC.1 _ _ _ (Nat.le_add_right _ _) h1, (hK q).1 _ _ _ (Nat.le_add_left _ _) h2⟩
    · rintro ⟨f, q, h1, h2⟩
      exact ⟨q, (hC.2 q).mpr ⟨f, h1⟩, ((hK q).2 r).mpr ⟨f, h2⟩⟩
theorem lim_ite {c : Prop} [Decidable c] {A B : Nat → AR} {a b : AR} (hA : LimR A a) (hB : LimR B b) : LimR (fun f => if c then A f else B f) (if c then a else b) := by
  by_cases h : c
  · simp only [h, if_true]; exact hA
  · simp only [h, if_false]; exact hB
theorem lim_cond {c : Bool} {A B : Nat → AR} {a b : AR} (hA : LimR A a) (hB : LimR B b) : LimR (fun f => cond c (A f) (B f)) (cond c a b) := by
  cases c
  · exact hB
  · exact hA
theorem lim_p1 {t : Nat} {st : List AV} {K : Nat → Int → List AV → AR} {k : Int → List AV → AR} (h : ∀ x st, LimR (fun f => K f x st) (k x st)) : LimR (fun f => am_p1 t st (K f)) (am_p1 t st k) := by
  unfold am_p1
  cases st with
  | nil => exact lim_const none
  | cons v r => exact lim_cond (h _ _) (lim_const none)
theorem lim_ld {t i : Nat} {ls st : List AV} {K : Nat → List AV → AR} {k : List AV → AR} (h : ∀ st, LimR (fun f => K f st) (k st)) : LimR (fun f => am_ld t i ls st (K f)) (am_ld t i ls st k) := by
  unfold am_ld
  cases nthL ls i with
  | none => exact lim_const none
  | some v => exact lim_cond (h _) (lim_const none)
theorem lim_lda {i : Nat} {ls st : List AV} {K : Nat → List AV → AR} {k : List AV → AR} (h : ∀ st, LimR (fun f => K f st) (k st)) : LimR (fun f => am_lda i ls st (K f)) (am_lda i ls st k) := by
  unfold am_lda
  cases nthL ls i with
  | none => exact lim_const none
  | some v => exact lim_cond (h _) (lim_const none)
theorem lim_ldl {i : Nat} {ls st : List AV} {K : Nat → List AV → AR} {k : List AV → AR} (h : ∀ st, LimR (fun f => K f st) (k st)) : LimR (fun f => am_ldl i ls st (K f)) (am_ldl i ls st k) := by
  unfold am_ldl
  cases nthL ls i with
  | none => exact lim_const none
  | some v =>
    cases nthL ls (i + 1) with
    | none => exact lim_const none
    | some u => exact lim_cond (h _) (lim_const none)
theorem lim_st {t i : Nat} {ls st : List AV} {K : Nat → List AV → List AV → AR} {k : List AV → List AV → AR} (h : ∀ ls st, LimR (fun f => K f ls st) (k ls st)) : LimR (fun f => am_st t i ls st (K f)) (am_st t i ls st k) := by
  unfold am_st
  cases st with
  | nil => exact lim_const none
  | cons v r => exact lim_cond (h _ _) (lim_const none)
theorem lim_sta {i : Nat} {ls st : List AV} {K : Nat → List AV → List AV → AR} {k : List AV → List AV → AR} (h : ∀ ls st, LimR (fun f => K f ls st) (k ls st)) : LimR (fun f => am_sta i ls st (K f)) (am_sta i ls st k) := by
  unfold am_sta
  cases st with
  | nil => exact lim_const none
  | cons v r => exact lim_cond (h _ _) (lim_const none)
theorem lim_stl {i : Nat} {ls st : List AV} {K : Nat → List AV → List AV → AR} {k : List AV → List AV → AR} (h : ∀ ls st, LimR (fun f => K f ls st) (k ls st)) : LimR (fun f => am_stl i ls st (K f)) (am_stl i ls st k) := by
  unfold am_stl
  cases st with
  | nil => exact lim_const none
  | cons v r => exact lim_cond (h _ _) (lim_const none)
theorem lim_b2 {g : Int → Int → Int} {st : List AV} {K : Nat → List AV → AR} {k : List AV → AR} (h : ∀ st, LimR (fun f => K f st) (k st)) : LimR (fun f => am_b2 g st (K f)) (am_b2 g st k) := lim_p1 fun _ _ => lim_p1 fun _ _ => h _
theorem lim_l2 {g : Int → Int → Int} {st : List AV} {K : Nat → List AV → AR} {k : List AV → AR} (h : ∀ st, LimR (fun f => K f st) (k st)) : LimR (fun f => am_l2 g st (K f)) (am_l2 g st k) := lim_p1 fun _ _ => lim_p1 fun _ _ => h _
theorem lim_br {c : ClassFile.Cond} {x y : Int} {A B : Nat → AR} {a b : AR} (hA : LimR A a) (hB : LimR B b) : LimR (fun f => am_br c x y (A f) (B f)) (am_br c x y a b) := by
  cases c <;> first | exact lim_ite hA hB | exact lim_ite hB hA
theorem lim_sw {K : Nat → Nat → AR} {k : Nat → AR} (h : ∀ t, LimR (fun f => K f t) (k t)) (x : Int) (prs : List (Int × Nat)) (d : Nat) : LimR (fun f => am_sw (K f) x prs d) (am_sw k x prs d) := by
  induction prs with
  | nil => exact h d
  | cons p r ih => exact lim_ite (h _) ih
theorem lim_cl {C : Nat → Nat → List AV → AH → AR} {c : Nat → List AV → AH → AR} (hC : ∀ m as h, LimR (fun f => C f m as h) (c m as h)) {lk : LK} {st : List AV} {h : AH} {K : Nat → List AV → AH → AR} {k : List AV → AH → AR} (hK : ∀ st h, LimR (fun f => K f st h) (k st h)) : LimR (fun f => am_call (C f) lk st h (K f)) (am_call c lk st h k) := by
  unfold am_call
  cases am_pop lk.2.1 st [] with
  | none => exact lim_const none
  | some ar => exact lim_cond (lim_call (hC _ _ _) (fun q => lim_cond (hK _ _) (hK _ _))) (lim_const none)
set_option maxHeartbeats 4000000 in
theorem lim_step {S : Nat → Nat → List AV → List AV → AH → AR} {s : Nat → List AV → List AV → AH → AR} {C : Nat → Nat → List AV → AH → AR} {c : Nat → List AV → AH → AR} (hS : ∀ pc ls st h, LimR (fun f => S f pc ls st h) (s pc ls st h)) (hC : ∀ m as h, LimR (fun f => C f m as h) (c m as h))
    (ins : Instr) (lk : LK) (prs : List (Int × Nat)) (pc : Nat) (ls st : List AV) (h : AH) : LimR (fun f => stepF (S f) (C f) ins lk prs pc ls st h) (stepF s c ins lk prs pc ls st h) := by
  cases ins <;> dsimp only [stepF] <;> (try exact lim_const _) <;> (try (rcases st with _ | ⟨v, _ | ⟨u, r⟩⟩ <;> first | exact lim_const none | exact lim_cond (lim_const none) (hS _ _ _ _) | fail)) <;> repeat' first
    | exact lim_const _
    | exact hS _ _ _ _
    | refine lim_cond ?_ ?_
    | refine lim_p1 (fun _ _ => ?_)
    | refine lim_ld (fun _ => ?_)
    | refine lim_lda (fun _ => ?_)
    | refine lim_ldl (fun _ => ?_)
    | refine lim_st (fun _ _ => ?_)
    | refine lim_sta (fun _ _ => ?_)
    | refine lim_stl (fun _ _ => ?_)
    | refine lim_b2 (fun _ => ?_)
    | refine lim_l2 (fun _ => ?_)
    | refine lim_br ?_ ?_
    | refine lim_sw (fun _ => ?_) _ _ _
    | refine lim_cl hC (fun _ _ => ?_)
    | refine lim_bind _ (fun _ => ?_)
    | refine lim_ite ?_ ?_
theorem lim_stepM {S : Nat → Nat → List AV → List AV → AH → AR} {s : Nat → List AV → List AV → AH → AR} {C : Nat → Nat → List AV → AH → AR} {c : Nat → List AV → AH → AR} (hS : ∀ pc ls st h, LimR (fun f => S f pc ls st h) (s pc ls st h)) (hC : ∀ m as h, LimR (fun f => C f m as h) (c m as h))
    (m pc : Nat) (ls st : List AV) (h : AH) : LimR (fun f => stepM (S f) (C f) m pc ls st h) (stepM s c m pc ls st h) := by
  unfold stepM
  cases fetM m pc with
  | none => exact lim_const none
  | some q => exact lim_step hS hC _ _ _ _ _ _ _
theorem stepM_mono {s s' : Nat → List AV → List AV → AH → AR} {c c' : Nat → List AV → AH → AR} (hS : ∀ pc ls st h r, s pc ls st h = some r → s' pc ls st h = some r) (hC : ∀ m as h r, c m as h = some r → c' m as h = some r)
    (m pc : Nat) (ls st : List AV) (h : AH) (r : Int × AH) (e : stepM s c m pc ls st h = some r) : stepM s' c' m pc ls st h = some r := by
  have L := lim_stepM (S := fun f => match f with | 0 => s | _ + 1 => s') (s := s') (C := fun f => match f with | 0 => c | _ + 1 => c') (c := c') ?_ ?_ m pc ls st h
  · exact L.1 0 1 r (Nat.zero_le 1) e
  · intro pc ls st h
    refine ⟨?_, ?_⟩
    · intro f f' r hf h1
      match f, f', hf, h1 with
      | 0, 0, _, h1 => exact h1
      | 0, _ + 1, _, h1 => exact hS _ _ _ _ _ h1
      | _ + 1, _ + 1, _, h1 => exact h1
      | _ + 1, 0, h0, _ => exact absurd h0 (by omega)
    · intro r
      constructor
      · intro h1; exact ⟨1, h1⟩
      · rintro ⟨f, h1⟩
        match f, h1 with
        | 0, h1 => exact hS _ _ _ _ _ h1
        | _ + 1, h1 => exact h1
  · intro m as h
    refine ⟨?_, ?_⟩
    · intro f f' r hf h1
      match f, f', hf, h1 with
      | 0, 0, _, h1 => exact h1
      | 0, _ + 1, _, h1 => exact hC _ _ _ _ h1
      | _ + 1, _ + 1, _, h1 => exact h1
      | _ + 1, 0, h0, _ => exact absurd h0 (by omega)
    · intro r
      constructor
      · intro h1; exact ⟨1, h1⟩
      · rintro ⟨f, h1⟩
        match f, h1 with
        | 0, h1 => exact hC _ _ _ _ h1
        | _ + 1, h1 => exact h1
theorem exec_succ (f : Nat) : ∀ d m pc ls st h r, exec f d m pc ls st h = some r → exec (f + 1) d m pc ls st h = some r := by
  induction f with
  | zero => intro d m pc ls st h r e; cases e
  | succ f ih =>
    intro d m pc ls st h r e
    cases d with
    | zero => exact stepM_mono (s := fun pc ls st h => exec f 0 m pc ls st h) (c := fun m' as h => none) (fun pc ls st h r e => ih _ _ _ _ _ _ _ e) (fun m' as h r e => e) m pc ls st h r e
    | succ d => exact stepM_mono (s := fun pc ls st h => exec f (d + 1) m pc ls st h) (c := fun m' as h => cond (entOK m' as) (exec f d m' 0 (entM m' as) [] h) none) (fun pc ls st h r e => ih _ _ _ _ _ _ _ e) (fun m' as h r e => by
      revert e
      show cond (entOK m' as) (exec f d m' 0 (entM m' as) [] h) none = some r → cond (entOK m' as) (exec (f + 1) d m' 0 (entM m' as) [] h) none = some r
      cases entOK m' as with
      | false => exact fun e => e
      | true => exact fun e => ih _ _ _ _ _ _ _ e) m pc ls st h r e
theorem exec_mono {f f' d m pc : Nat} {ls st : List AV} {h : AH} {r : Int × AH} (hf : f ≤ f') (e : exec f d m pc ls st h = some r) : exec f' d m pc ls st h = some r := by
  induction hf with
  | refl => exact e
  | step _ ih => exact exec_succ _ _ _ _ _ _ _ _ ih
noncomputable def run (d m pc : Nat) (ls st : List AV) (h : AH) : AR := Classical.choose (p := fun g : AR => LimR (fun f => exec f d m pc ls st h) g) (by
  by_cases q : ∃ r f, exec f d m pc ls st h = some r
  · obtain ⟨r, f, e⟩ := q
    refine ⟨some r, fun _ _ _ hf e => exec_mono hf e, fun r' => ⟨fun e' => ⟨f, by rw [← e']; exact e⟩, fun ⟨f', e'⟩ => ?_⟩⟩
    have h1 := exec_mono (Nat.le_add_right f f') e
    have h2 := exec_mono (Nat.le_add_left f' f) e'
    exact h1.symm.trans h2
  · exact ⟨none, fun _ _ _ hf e => exec_mono hf e, fun r' => ⟨fun e' => (by cases e'), fun ⟨f', e'⟩ => absurd ⟨r', f', e'⟩ q⟩⟩)
theorem run_lim (d m pc : Nat) (ls st : List AV) (h : AH) : LimR (fun f => exec f d m pc ls st h) (run d m pc ls st h) := Classical.choose_spec (p := fun g : AR => LimR (fun f => exec f d m pc ls st h) g) _
noncomputable def cal (d m : Nat) (as : List AV) (h : AH) : AR := cond (entOK m as) (run d m 0 (entM m as) [] h) none
noncomputable def calO (d : Nat) (m : Nat) (as : List AV) (h : AH) : AR := match d with
  | 0 => none
  | d + 1 => cal d m as h
theorem run_fix (d m pc : Nat) (ls st : List AV) (h : AH) : run d m pc ls st h = stepM (run d m) (calO d) m pc ls st h := by
  have L := lim_stepM (S := fun f pc ls st h => exec f d m pc ls st h) (s := run d m) (C := fun f m' as h => match d with | 0 => none | d' + 1 => cond (entOK m' as) (exec f d' m' 0 (entM m' as) [] h) none) (c := calO d) (fun pc ls st h => run_lim _ _ _ _ _ _) (fun m' as h => by
    cases d with
    | zero => exact lim_const none
    | succ d => exact lim_cond (run_lim _ _ _ _ _ _) (lim_const none)) m pc ls st h
  have key : ∀ r, run d m pc ls st h = some r ↔ stepM (run d m) (calO d) m pc ls st h = some r := by
    intro r
    rw [(run_lim d m pc ls st h).2 r, L.2 r]
    constructor
    · rintro ⟨f, e⟩
      cases f with
      | zero => cases e
      | succ f => exact ⟨f, e⟩
    · rintro ⟨f, e⟩
      exact ⟨f + 1, e⟩
  cases e1 : run d m pc ls st h with
  | some r => exact ((key r).mp e1).symm
  | none =>
    cases e2 : stepM (run d m) (calO d) m pc ls st h with
    | none => rfl
    | some r => rw [(key r).mpr e2] at e1; cases e1
def memN : Nat → List Nat → Bool
  | _, [] => false
  | n, a :: l => cond (Nat.beq n a) true (memN n l)
noncomputable def blk (cs : List Nat) (self : Nat → List AV → List AV → AH → AR) (call : Nat → List AV → AH → AR) (m : Nat) : Nat → Nat → List AV → List AV → AH → AR
  | 0, pc, ls, st, h => self pc ls st h
  | K + 1, pc, ls, st, h => stepM (fun pc ls st h => cond (memN pc cs) (self pc ls st h) (blk cs self call m K pc ls st h)) call m pc ls st h
theorem run_blk (cs : List Nat) (K d m : Nat) : ∀ (pc : Nat) (ls st : List AV) (h : AH), run (d + 1) m pc ls st h = blk cs (run (d + 1) m) (cal d) m K pc ls st h := by
  induction K with
  | zero => intro pc ls st h; rfl
  | succ K ih =>
    intro pc ls st h
    have e : (fun pc ls st h => cond (memN pc cs) (run (d + 1) m pc ls st h) (blk cs (run (d + 1) m) (cal d) m K pc ls st h)) = run (d + 1) m := by
      funext pc ls st h
      rw [← ih]
      cases memN pc cs <;> rfl
    show _ = stepM (fun pc ls st h => cond (memN pc cs) (run (d + 1) m pc ls st h) (blk cs (run (d + 1) m) (cal d) m K pc ls st h)) (cal d) m pc ls st h
    rw [e]
    exact run_fix (d + 1) m pc ls st h
/-- a method from its entry, unfolded up to the places cs -/
theorem cal_blk (cs : List Nat) (K d m : Nat) (as : List AV) (h : AH) (ho : entOK m as = true) : cal (d + 1) m as h = blk cs (run (d + 1) m) (cal d) m K 0 (entM m as) [] h := by
  unfold cal
  rw [ho]
  exact run_blk cs K d m 0 _ [] h
end
section
/-! The methods' equations, a row a place: printed by program (wip/tools/dec.py). -/
set_option maxRecDepth 20000 in
theorem k_Bd_init (d : Nat) (x0 : Int) (h : AH) : cal (d + 1) m_Bd_init [(100, x0)] h = (wrf 0 (h ++ [(20, List.replicate (Int.toNat 10) 0)]) x0 0 (Int.ofNat (List.length h))).bind (fun h1 => (wrf 0 (h1 ++ [(20, List.replicate (Int.toNat 10) 0)]) x0 1 (Int.ofNat (List.length h1))).bind (fun h2 => (wrf 0 (h2 ++ [(20, List.replicate (Int.toNat 2) 0)]) x0 2 (Int.ofNat (List.length h2))).bind (fun h3 => (cal d m_Bd_setUp [(100, x0), (0, 3)] h3).bind (fun q4 => some (0, q4.2))))) := (cal_blk [] 23 d m_Bd_init _ h rfl).trans rfl
set_option maxRecDepth 20000 in
theorem k_Bd_setUp (d : Nat) (x0 : Int) (x1 : Int) (h : AH) : cal (d + 1) m_Bd_setUp [(100, x0), (0, x1)] h = (wrf 0 h x0 3 (a_max 2 (a_min x1 5))).bind (fun h1 => run (d + 1) m_Bd_setUp 15 [(100, x0), (0, x1), (0, 0)] [] h1) := (cal_blk [15] 15 d m_Bd_setUp _ h rfl).trans rfl
set_option maxRecDepth 20000 in
theorem k_Bd_setUp_15 (d : Nat) (x0 : Int) (x1 : Int) (x2 : Int) (h : AH) : run (d + 1) m_Bd_setUp 15 [(100, x0), (0, x1), (0, x2)] [] h = (if x2 < 10 then (rdr 0 h x0 0).bind (fun y1 => (wra 20 h y1 x2 0).bind (fun h2 => (rdr 0 h2 x0 1).bind (fun y3 => (wra 20 h2 y3 x2 4).bind (fun h4 => run (d + 1) m_Bd_setUp 15 [(100, x0), (0, x1), (0, a_add x2 1)] [] h4)))) else (rdr 0 h x0 2).bind (fun y5 => (wra 20 h y5 0 0).bind (fun h6 => (rdr 0 h6 x0 2).bind (fun y7 => (wra 20 h6 y7 1 0).bind (fun h8 => (wrf 0 h8 x0 4 0).bind (fun h9 => (wrf 0 h9 x0 5 0).bind (fun h10 => some (0, h10)))))))) := (run_blk [15] 38 d m_Bd_setUp 15 _ _ h).trans rfl
set_option maxRecDepth 20000 in
theorem k_Bd_copy (d : Nat) (x0 : Int) (x1 : Int) (h : AH) : cal (d + 1) m_Bd_copy [(100, x0), (100, x1)] h = (rdr 0 h x1 0).bind (fun y1 => (rdr 0 h x0 0).bind (fun y2 => (wrcp h y1 y2 10).bind (fun h3 => (rdr 0 h3 x1 1).bind (fun y4 => (rdr 0 h3 x0 1).bind (fun y5 => (wrcp h3 y4 y5 10).bind (fun h6 => (rdr 0 h6 x0 2).bind (fun y7 => (rdr 0 h6 x1 2).bind (fun y8 => (rda 20 h6 y8 0).bind (fun y9 => (wra 20 h6 y7 0 y9).bind (fun h10 => (rdr 0 h10 x0 2).bind (fun y11 => (rdr 0 h10 x1 2).bind (fun y12 => (rda 20 h10 y12 1).bind (fun y13 => (wra 20 h10 y11 1 y13).bind (fun h14 => (rdf 0 h14 x1 3).bind (fun y15 => (wrf 0 h14 x0 3 y15).bind (fun h16 => (rdf 0 h16 x1 4).bind (fun y17 => (wrf 0 h16 x0 4 y17).bind (fun h18 => (rdf 0 h18 x1 5).bind (fun y19 => (wrf 0 h18 x0 5 y19).bind (fun h20 => some (0, h20))))))))))))))))))))) := (cal_blk [] 50 d m_Bd_copy _ h rfl).trans rfl
set_option maxRecDepth 20000 in
theorem k_Bd_houses (d : Nat) (x0 : Int) (h : AH) : cal (d + 1) m_Bd_houses [(100, x0)] h = (rdf 0 h x0 3).bind (fun y1 => some (a_mul 2 y1, h)) := (cal_blk [] 10 d m_Bd_houses _ h rfl).trans rfl
set_option maxRecDepth 20000 in
theorem k_Bd_has (d : Nat) (x0 : Int) (x1 : Int) (h : AH) : cal (d + 1) m_Bd_has [(100, x0), (0, x1)] h = (if x1 < 0 then some (0, h) else (cal d m_Bd_houses [(100, x0)] h).bind (fun q1 => (if x1 < q1.1 then some (1, q1.2) else some (0, q1.2)))) := (cal_blk [] 18 d m_Bd_has _ h rfl).trans rfl
set_option maxRecDepth 20000 in
theorem k_Bd_sideOf (d : Nat) (x0 : Int) (x1 : Int) (h : AH) : cal (d + 1) m_Bd_sideOf [(100, x0), (0, x1)] h = (rdf 0 h x0 3).bind (fun y1 => (if x1 < y1 then some (0, h) else some (1, h))) := (cal_blk [] 14 d m_Bd_sideOf _ h rfl).trans rfl
set_option maxRecDepth 20000 in
theorem k_Bd_moves (d : Nat) (x0 : Int) (h : AH) : cal (d + 1) m_Bd_moves [(100, x0)] h = (rdf 0 h x0 5).bind (fun y1 => some (y1, h)) := (cal_blk [] 8 d m_Bd_moves _ h rfl).trans rfl
set_option maxRecDepth 20000 in
theorem k_Bd_turn (d : Nat) (x0 : Int) (h : AH) : cal (d + 1) m_Bd_turn [(100, x0)] h = (rdf 0 h x0 4).bind (fun y1 => some (y1, h)) := (cal_blk [] 8 d m_Bd_turn _ h rfl).trans rfl
set_option maxRecDepth 20000 in
theorem k_Bd_barn (d : Nat) (x0 : Int) (x1 : Int) (h : AH) : cal (d + 1) m_Bd_barn [(100, x0), (0, x1)] h = (rdr 0 h x0 2).bind (fun y1 => (rda 20 h y1 x1).bind (fun y2 => some (y2, h))) := (cal_blk [] 10 d m_Bd_barn _ h rfl).trans rfl
set_option maxRecDepth 20000 in
theorem k_Bd_lead (d : Nat) (x0 : Int) (x1 : Int) (h : AH) : cal (d + 1) m_Bd_lead [(100, x0), (0, x1)] h = (if x1 = 0 then (rdr 0 h x0 2).bind (fun y1 => (rda 20 h y1 0).bind (fun y2 => (rdr 0 h x0 2).bind (fun y3 => (rda 20 h y3 1).bind (fun y4 => some (a_sub y2 y4, h))))) else (rdr 0 h x0 2).bind (fun y5 => (rda 20 h y5 1).bind (fun y6 => (rdr 0 h x0 2).bind (fun y7 => (rda 20 h y7 0).bind (fun y8 => some (a_sub y6 y8, h)))))) := (cal_blk [] 28 d m_Bd_lead _ h rfl).trans rfl
set_option maxRecDepth 20000 in
theorem k_Bd_kind (d : Nat) (x0 : Int) (x1 : Int) (h : AH) : cal (d + 1) m_Bd_kind [(100, x0), (0, x1)] h = (rdr 0 h x0 0).bind (fun y1 => (rda 20 h y1 x1).bind (fun y2 => some (y2, h))) := (cal_blk [] 10 d m_Bd_kind _ h rfl).trans rfl
set_option maxRecDepth 20000 in
theorem k_Bd_seeds (d : Nat) (x0 : Int) (x1 : Int) (h : AH) : cal (d + 1) m_Bd_seeds [(100, x0), (0, x1)] h = (rdr 0 h x0 1).bind (fun y1 => (rda 20 h y1 x1).bind (fun y2 => some (y2, h))) := (cal_blk [] 10 d m_Bd_seeds _ h rfl).trans rfl
set_option maxRecDepth 20000 in
theorem k_Bd_lifted (d : Nat) (x0 : Int) (x1 : Int) (h : AH) : cal (d + 1) m_Bd_lifted [(100, x0), (0, x1)] h = (rdr 0 h x0 0).bind (fun y1 => (rda 20 h y1 x1).bind (fun y2 => (rdr 0 h x0 1).bind (fun y3 => (rda 20 h y3 x1).bind (fun y4 => (cal d m_Ki_lifted [(0, y2), (0, y4)] h).bind (fun q5 => some (q5.1, q5.2)))))) := (cal_blk [] 15 d m_Bd_lifted _ h rfl).trans rfl
set_option maxRecDepth 20000 in
theorem k_Bd_takes (d : Nat) (x0 : Int) (x1 : Int) (h : AH) : cal (d + 1) m_Bd_takes [(100, x0), (0, x1)] h = (rdr 0 h x0 0).bind (fun y1 => (rda 20 h y1 x1).bind (fun y2 => (rdr 0 h x0 1).bind (fun y3 => (rda 20 h y3 x1).bind (fun y4 => (cal d m_Ki_takes [(0, y2), (0, y4)] h).bind (fun q5 => (if q5.1 = 0 ∨ q5.1 = 1 then some (q5.1, q5.2) else none)))))) := (cal_blk [] 15 d m_Bd_takes _ h rfl).trans rfl
set_option maxRecDepth 20000 in
theorem k_Bd_yields (d : Nat) (x0 : Int) (x1 : Int) (h : AH) : cal (d + 1) m_Bd_yields [(100, x0), (0, x1)] h = (rdr 0 h x0 0).bind (fun y1 => (rda 20 h y1 x1).bind (fun y2 => (rdr 0 h x0 1).bind (fun y3 => (rda 20 h y3 x1).bind (fun y4 => (cal d m_Ki_yields [(0, y2), (0, y4)] h).bind (fun q5 => (if q5.1 = 0 ∨ q5.1 = 1 then some (q5.1, q5.2) else none)))))) := (cal_blk [] 15 d m_Bd_yields _ h rfl).trans rfl
set_option maxRecDepth 20000 in
theorem k_Bd_goes (d : Nat) (x0 : Int) (x1 : Int) (h : AH) : cal (d + 1) m_Bd_goes [(100, x0), (0, x1)] h = (cal d m_Bd_sideOf [(100, x0), (0, x1)] h).bind (fun q1 => (rdf 0 q1.2 x0 4).bind (fun y2 => (if q1.1 = y2 then (cal d m_Bd_lifted [(100, x0), (0, x1)] q1.2).bind (fun q3 => (if q3.1 < 1 then some (0, q3.2) else some (1, q3.2))) else some (0, q1.2)))) := (cal_blk [] 23 d m_Bd_goes _ h rfl).trans rfl
set_option maxRecDepth 20000 in
theorem k_Bd_goingBits (d : Nat) (x0 : Int) (h : AH) : cal (d + 1) m_Bd_goingBits [(100, x0)] h = run (d + 1) m_Bd_goingBits 4 [(100, x0), (0, 0), (0, 0)] [] h := (cal_blk [4] 10 d m_Bd_goingBits _ h rfl).trans rfl
set_option maxRecDepth 20000 in
theorem k_Bd_goingBits_4 (d : Nat) (x0 : Int) (x1 : Int) (x2 : Int) (h : AH) : run (d + 1) m_Bd_goingBits 4 [(100, x0), (0, x1), (0, x2)] [] h = (cal d m_Bd_houses [(100, x0)] h).bind (fun q1 => (if x2 < q1.1 then (cal d m_Bd_goes [(100, x0), (0, x2)] q1.2).bind (fun q2 => (if q2.1 = 0 then run (d + 1) m_Bd_goingBits 4 [(100, x0), (0, a_or x1 0), (0, a_add x2 1)] [] q2.2 else run (d + 1) m_Bd_goingBits 4 [(100, x0), (0, a_or x1 (a_shl 1 x2)), (0, a_add x2 1)] [] q2.2)) else some (x1, q1.2))) := (run_blk [4] 31 d m_Bd_goingBits 4 _ _ h).trans rfl
set_option maxRecDepth 20000 in
theorem k_Bd_allSeeds (d : Nat) (x0 : Int) (h : AH) : cal (d + 1) m_Bd_allSeeds [(100, x0)] h = run (d + 1) m_Bd_allSeeds 4 [(100, x0), (0, 0), (0, 0)] [] h := (cal_blk [4] 10 d m_Bd_allSeeds _ h rfl).trans rfl
set_option maxRecDepth 20000 in
theorem k_Bd_allSeeds_4 (d : Nat) (x0 : Int) (x1 : Int) (x2 : Int) (h : AH) : run (d + 1) m_Bd_allSeeds 4 [(100, x0), (0, x1), (0, x2)] [] h = (cal d m_Bd_houses [(100, x0)] h).bind (fun q1 => (if x2 < q1.1 then (rdr 0 q1.2 x0 1).bind (fun y2 => (rda 20 q1.2 y2 x2).bind (fun y3 => run (d + 1) m_Bd_allSeeds 4 [(100, x0), (0, a_add x1 y3), (0, a_add x2 1)] [] q1.2)) else some (x1, q1.2))) := (run_blk [4] 21 d m_Bd_allSeeds 4 _ _ h).trans rfl
set_option maxRecDepth 20000 in
theorem k_Bd_setKind (d : Nat) (x0 : Int) (x1 : Int) (x2 : Int) (h : AH) : cal (d + 1) m_Bd_setKind [(100, x0), (0, x1), (0, x2)] h = (rdr 0 h x0 0).bind (fun y1 => (wra 20 h y1 x1 x2).bind (fun h2 => some (0, h2))) := (cal_blk [] 11 d m_Bd_setKind _ h rfl).trans rfl
set_option maxRecDepth 20000 in
theorem k_Bd_setSeeds (d : Nat) (x0 : Int) (x1 : Int) (x2 : Int) (h : AH) : cal (d + 1) m_Bd_setSeeds [(100, x0), (0, x1), (0, x2)] h = (rdr 0 h x0 1).bind (fun y1 => (wra 20 h y1 x1 x2).bind (fun h2 => some (0, h2))) := (cal_blk [] 11 d m_Bd_setSeeds _ h rfl).trans rfl
set_option maxRecDepth 20000 in
theorem k_Bd_setBarn (d : Nat) (x0 : Int) (x1 : Int) (x2 : Int) (h : AH) : cal (d + 1) m_Bd_setBarn [(100, x0), (0, x1), (0, x2)] h = (rdr 0 h x0 2).bind (fun y1 => (wra 20 h y1 x1 x2).bind (fun h2 => some (0, h2))) := (cal_blk [] 11 d m_Bd_setBarn _ h rfl).trans rfl
set_option maxRecDepth 20000 in
theorem k_Bd_setTurn (d : Nat) (x0 : Int) (x1 : Int) (h : AH) : cal (d + 1) m_Bd_setTurn [(100, x0), (0, x1)] h = (wrf 0 h x0 4 x1).bind (fun h1 => some (0, h1)) := (cal_blk [] 9 d m_Bd_setTurn _ h rfl).trans rfl
set_option maxRecDepth 20000 in
theorem k_Bd_give (d : Nat) (x0 : Int) (x1 : Int) (x2 : Int) (h : AH) : cal (d + 1) m_Bd_give [(100, x0), (0, x1), (0, x2)] h = (rdr 0 h x0 1).bind (fun y1 => (rdr 0 h x0 1).bind (fun y2 => (rda 20 h y2 x1).bind (fun y3 => (wra 20 h y1 x1 (a_min (a_add y3 x2) 99)).bind (fun h4 => some (0, h4))))) := (cal_blk [] 18 d m_Bd_give _ h rfl).trans rfl
set_option maxRecDepth 20000 in
theorem k_Bd_exchangeKinds (d : Nat) (x0 : Int) (x1 : Int) (x2 : Int) (h : AH) : cal (d + 1) m_Bd_exchangeKinds [(100, x0), (0, x1), (0, x2)] h = (rdr 0 h x0 0).bind (fun y1 => (rda 20 h y1 x1).bind (fun y2 => (rdr 0 h x0 0).bind (fun y3 => (rdr 0 h x0 0).bind (fun y4 => (rda 20 h y4 x2).bind (fun y5 => (wra 20 h y3 x1 y5).bind (fun h6 => (rdr 0 h6 x0 0).bind (fun y7 => (wra 20 h6 y7 x2 y2).bind (fun h8 => some (0, h8))))))))) := (cal_blk [] 24 d m_Bd_exchangeKinds _ h rfl).trans rfl
set_option maxRecDepth 20000 in
theorem k_Bd_sow (d : Nat) (x0 : Int) (x1 : Int) (h : AH) : cal (d + 1) m_Bd_sow [(100, x0), (0, x1)] h = (rdr 0 h x0 2).bind (fun y1 => (rdf 0 h x0 4).bind (fun y2 => (rda 20 h y1 y2).bind (fun y3 => (cal d m_Bd_spread [(100, x0), (0, x1)] h).bind (fun q4 => (if q4.1 = (-1) then (rdr 0 q4.2 x0 2).bind (fun y5 => (rdf 0 q4.2 x0 4).bind (fun y6 => (rda 20 q4.2 y5 y6).bind (fun y7 => (rdf 0 q4.2 x0 4).bind (fun y8 => (wrf 0 q4.2 x0 4 (a_sub 1 y8)).bind (fun h9 => (rdf 0 h9 x0 5).bind (fun y10 => (wrf 0 h9 x0 5 (a_add y10 1)).bind (fun h11 => some (a_sub y7 y3, h11)))))))) else (cal d m_Bd_reap [(100, x0), (0, q4.1)] q4.2).bind (fun q12 => (rdr 0 q12.2 x0 2).bind (fun y13 => (rdf 0 q12.2 x0 4).bind (fun y14 => (rda 20 q12.2 y13 y14).bind (fun y15 => (rdf 0 q12.2 x0 4).bind (fun y16 => (wrf 0 q12.2 x0 4 (a_sub 1 y16)).bind (fun h17 => (rdf 0 h17 x0 5).bind (fun y18 => (wrf 0 h17 x0 5 (a_add y18 1)).bind (fun h19 => some (a_sub y15 y3, h19)))))))))))))) := (cal_blk [] 65 d m_Bd_sow _ h rfl).trans rfl
set_option maxRecDepth 20000 in
theorem k_Bd_spread (d : Nat) (x0 : Int) (x1 : Int) (h : AH) : cal (d + 1) m_Bd_spread [(100, x0), (0, x1)] h = (cal d m_Bd_lifted [(100, x0), (0, x1)] h).bind (fun q1 => (rdr 0 q1.2 x0 1).bind (fun y2 => (rda 20 q1.2 y2 x1).bind (fun y3 => (wra 20 q1.2 y2 x1 (a_sub y3 q1.1)).bind (fun h4 => run (d + 1) m_Bd_spread 18 [(100, x0), (0, x1), (0, q1.1), (0, x1), (9, 0)] [] h4)))) := (cal_blk [18] 20 d m_Bd_spread _ h rfl).trans rfl
set_option maxRecDepth 20000 in
theorem k_Bd_spread_18 (d : Nat) (x0 : Int) (x1 : Int) (x2 : Int) (x3 : Int) (v4 : AV) (h : AH) : run (d + 1) m_Bd_spread 18 [(100, x0), (0, x1), (0, x2), (0, x3), v4] [] h = (if 0 < x2 then (cal d m_Bd_nextTaker [(100, x0), (0, x3), (0, x1)] h).bind (fun q1 => (if q1.1 = (-1) then (rdr 0 q1.2 x0 2).bind (fun y2 => (rdf 0 q1.2 x0 4).bind (fun y3 => (rda 20 q1.2 y2 y3).bind (fun y4 => (wra 20 q1.2 y2 y3 (a_add y4 x2)).bind (fun h5 => some ((-1), h5))))) else (rdr 0 q1.2 x0 1).bind (fun y6 => (rda 20 q1.2 y6 q1.1).bind (fun y7 => (wra 20 q1.2 y6 q1.1 (a_add y7 1)).bind (fun h8 => run (d + 1) m_Bd_spread 18 [(100, x0), (0, x1), (0, a_add x2 (-1)), (0, q1.1), (0, q1.1)] [] h8))))) else some (x3, h)) := (run_blk [18] 41 d m_Bd_spread 18 _ _ h).trans rfl
set_option maxRecDepth 20000 in
theorem k_Bd_nextTaker (d : Nat) (x0 : Int) (x1 : Int) (x2 : Int) (h : AH) : cal (d + 1) m_Bd_nextTaker [(100, x0), (0, x1), (0, x2)] h = (cal d m_Bd_houses [(100, x0)] h).bind (fun q1 => run (d + 1) m_Bd_nextTaker 11 [(100, x0), (0, x1), (0, x2), (0, x1), (0, q1.1), (0, 0)] [] q1.2) := (cal_blk [11] 13 d m_Bd_nextTaker _ h rfl).trans rfl
set_option maxRecDepth 20000 in
theorem k_Bd_nextTaker_11 (d : Nat) (x0 : Int) (x1 : Int) (x2 : Int) (x3 : Int) (x4 : Int) (x5 : Int) (h : AH) : run (d + 1) m_Bd_nextTaker 11 [(100, x0), (0, x1), (0, x2), (0, x3), (0, x4), (0, x5)] [] h = (if x5 < x4 then (if a_add x3 1 < x4 then (if a_add x3 1 = x2 then run (d + 1) m_Bd_nextTaker 11 [(100, x0), (0, x1), (0, x2), (0, a_add x3 1), (0, x4), (0, a_add x5 1)] [] h else (rdr 0 h x0 0).bind (fun y1 => (rda 20 h y1 (a_add x3 1)).bind (fun y2 => (rdr 0 h x0 1).bind (fun y3 => (rda 20 h y3 (a_add x3 1)).bind (fun y4 => (cal d m_Ki_takes [(0, y2), (0, y4)] h).bind (fun q5 => (if q5.1 = 0 then run (d + 1) m_Bd_nextTaker 11 [(100, x0), (0, x1), (0, x2), (0, a_add x3 1), (0, x4), (0, a_add x5 1)] [] q5.2 else some (a_add x3 1, q5.2)))))))) else (if 0 = x2 then run (d + 1) m_Bd_nextTaker 11 [(100, x0), (0, x1), (0, x2), (0, 0), (0, x4), (0, a_add x5 1)] [] h else (rdr 0 h x0 0).bind (fun y6 => (rda 20 h y6 0).bind (fun y7 => (rdr 0 h x0 1).bind (fun y8 => (rda 20 h y8 0).bind (fun y9 => (cal d m_Ki_takes [(0, y7), (0, y9)] h).bind (fun q10 => (if q10.1 = 0 then run (d + 1) m_Bd_nextTaker 11 [(100, x0), (0, x1), (0, x2), (0, 0), (0, x4), (0, a_add x5 1)] [] q10.2 else some (0, q10.2))))))))) else some ((-1), h)) := (run_blk [11] 64 d m_Bd_nextTaker 11 _ _ h).trans rfl
set_option maxRecDepth 20000 in
theorem k_Bd_reap (d : Nat) (x0 : Int) (x1 : Int) (h : AH) : cal (d + 1) m_Bd_reap [(100, x0), (0, x1)] h = run (d + 1) m_Bd_reap 4 [(100, x0), (0, x1), (0, x1), (0, 0)] [] h := (cal_blk [4] 10 d m_Bd_reap _ h rfl).trans rfl
set_option maxRecDepth 20000 in
theorem k_Bd_reap_4 (d : Nat) (x0 : Int) (x1 : Int) (x2 : Int) (x3 : Int) (h : AH) : run (d + 1) m_Bd_reap 4 [(100, x0), (0, x1), (0, x2), (0, x3)] [] h = (rdf 0 h x0 3).bind (fun y1 => (if x3 < y1 then (cal d m_Bd_sideOf [(100, x0), (0, x2)] h).bind (fun q2 => (rdf 0 q2.2 x0 4).bind (fun y3 => (if q2.1 = y3 then some (0, q2.2) else (cal d m_Bd_yields [(100, x0), (0, x2)] q2.2).bind (fun q4 => (if q4.1 = 0 then some (0, q4.2) else (rdr 0 q4.2 x0 2).bind (fun y5 => (rdf 0 q4.2 x0 4).bind (fun y6 => (rda 20 q4.2 y5 y6).bind (fun y7 => (rdr 0 q4.2 x0 1).bind (fun y8 => (rda 20 q4.2 y8 x2).bind (fun y9 => (wra 20 q4.2 y5 y6 (a_add y7 y9)).bind (fun h10 => (rdr 0 h10 x0 1).bind (fun y11 => (wra 20 h10 y11 x2 0).bind (fun h12 => (if 0 < x2 then run (d + 1) m_Bd_reap 4 [(100, x0), (0, x1), (0, a_sub x2 1), (0, a_add x3 1)] [] h12 else (cal d m_Bd_houses [(100, x0)] h12).bind (fun q13 => run (d + 1) m_Bd_reap 4 [(100, x0), (0, x1), (0, a_sub q13.1 1), (0, a_add x3 1)] [] q13.2))))))))))))))) else some (0, h))) := (run_blk [4] 57 d m_Bd_reap 4 _ _ h).trans rfl
set_option maxRecDepth 20000 in
theorem k_Bx_init (d : Nat) (x0 : Int) (h : AH) : cal (d + 1) m_Bx_init [(101, x0)] h = (wrf 1 (h ++ [(20, List.replicate (Int.toNat 4) 0)]) x0 0 (Int.ofNat (List.length h))).bind (fun h1 => (wrf 1 (h1 ++ [(20, List.replicate (Int.toNat 4) 0)]) x0 1 (Int.ofNat (List.length h1))).bind (fun h2 => (wrf 1 h2 x0 2 0).bind (fun h3 => (wrf 1 h3 x0 3 0).bind (fun h4 => (wrfb 1 h4 x0 4 0).bind (fun h5 => (wrf 1 h5 x0 5 (-1)).bind (fun h6 => some (0, h6))))))) := (cal_blk [] 28 d m_Bx_init _ h rfl).trans rfl
set_option maxRecDepth 20000 in
theorem k_Bx_push (d : Nat) (x0 : Int) (x1 : Int) (x2 : Int) (h : AH) : cal (d + 1) m_Bx_push [(101, x0), (0, x1), (0, x2)] h = (rdf 1 h x0 3).bind (fun y1 => (if y1 < 4 then (rdr 1 h x0 0).bind (fun y2 => (rdf 1 h x0 3).bind (fun y3 => (wra 20 h y2 y3 x1).bind (fun h4 => (rdr 1 h4 x0 1).bind (fun y5 => (rdf 1 h4 x0 3).bind (fun y6 => (wra 20 h4 y5 y6 x2).bind (fun h7 => (rdf 1 h7 x0 3).bind (fun y8 => (wrf 1 h7 x0 3 (a_add y8 1)).bind (fun h9 => some (0, h9))))))))) else some (0, h))) := (cal_blk [] 29 d m_Bx_push _ h rfl).trans rfl
set_option maxRecDepth 20000 in
theorem k_Bx_hasOnTop (d : Nat) (x0 : Int) (x1 : Int) (h : AH) : cal (d + 1) m_Bx_hasOnTop [(101, x0), (0, x1)] h = (rdf 1 h x0 3).bind (fun y1 => (if 0 < y1 then (rdr 1 h x0 0).bind (fun y2 => (rdf 1 h x0 3).bind (fun y3 => (rda 20 h y2 (a_sub y3 1)).bind (fun y4 => (if y4 = x1 then some (1, h) else some (0, h))))) else some (0, h))) := (cal_blk [] 24 d m_Bx_hasOnTop _ h rfl).trans rfl
set_option maxRecDepth 20000 in
theorem k_Bx_pullBox (d : Nat) (x0 : Int) (x1 : Int) (h : AH) : cal (d + 1) m_Bx_pullBox [(101, x0), (0, x1)] h = run (d + 1) m_Bx_pullBox 4 [(101, x0), (0, x1), (0, 0), (0, 0)] [] h := (cal_blk [4] 10 d m_Bx_pullBox _ h rfl).trans rfl
set_option maxRecDepth 20000 in
theorem k_Bx_pullBox_4 (d : Nat) (x0 : Int) (x1 : Int) (x2 : Int) (x3 : Int) (h : AH) : run (d + 1) m_Bx_pullBox 4 [(101, x0), (0, x1), (0, x2), (0, x3)] [] h = (rdf 1 h x0 3).bind (fun y1 => (if x3 < y1 then (rdr 1 h x0 0).bind (fun y2 => (rda 20 h y2 x3).bind (fun y3 => (if y3 = 2 then (rdr 1 h x0 1).bind (fun y4 => (rda 20 h y4 x3).bind (fun y5 => (if y5 = x1 then run (d + 1) m_Bx_pullBox 4 [(101, x0), (0, x1), (0, x2), (0, a_add x3 1)] [] h else (rdr 1 h x0 0).bind (fun y6 => (rdr 1 h x0 0).bind (fun y7 => (rda 20 h y7 x3).bind (fun y8 => (wra 20 h y6 x2 y8).bind (fun h9 => (rdr 1 h9 x0 1).bind (fun y10 => (rdr 1 h9 x0 1).bind (fun y11 => (rda 20 h9 y11 x3).bind (fun y12 => (wra 20 h9 y10 x2 y12).bind (fun h13 => run (d + 1) m_Bx_pullBox 4 [(101, x0), (0, x1), (0, a_add x2 1), (0, a_add x3 1)] [] h13))))))))))) else (rdr 1 h x0 0).bind (fun y14 => (rdr 1 h x0 0).bind (fun y15 => (rda 20 h y15 x3).bind (fun y16 => (wra 20 h y14 x2 y16).bind (fun h17 => (rdr 1 h17 x0 1).bind (fun y18 => (rdr 1 h17 x0 1).bind (fun y19 => (rda 20 h17 y19 x3).bind (fun y20 => (wra 20 h17 y18 x2 y20).bind (fun h21 => run (d + 1) m_Bx_pullBox 4 [(101, x0), (0, x1), (0, a_add x2 1), (0, a_add x3 1)] [] h21))))))))))) else (wrf 1 h x0 3 x2).bind (fun h22 => some (0, h22)))) := (run_blk [4] 68 d m_Bx_pullBox 4 _ _ h).trans rfl
set_option maxRecDepth 20000 in
theorem k_Bx_numbers (d : Nat) (x0 : Int) (h : AH) : cal (d + 1) m_Bx_numbers [(101, x0)] h = run (d + 1) m_Bx_numbers 4 [(101, x0), (0, 0), (0, 0)] [] h := (cal_blk [4] 10 d m_Bx_numbers _ h rfl).trans rfl
set_option maxRecDepth 20000 in
theorem k_Bx_numbers_4 (d : Nat) (x0 : Int) (x1 : Int) (x2 : Int) (h : AH) : run (d + 1) m_Bx_numbers 4 [(101, x0), (0, x1), (0, x2)] [] h = (rdf 1 h x0 3).bind (fun y1 => (if x2 < y1 then (rdr 1 h x0 0).bind (fun y2 => (rda 20 h y2 x2).bind (fun y3 => (if y3 = 0 then run (d + 1) m_Bx_numbers 4 [(101, x0), (0, a_add x1 1), (0, a_add x2 1)] [] h else run (d + 1) m_Bx_numbers 4 [(101, x0), (0, a_add x1 0), (0, a_add x2 1)] [] h))) else some (x1, h))) := (run_blk [4] 30 d m_Bx_numbers 4 _ _ h).trans rfl
set_option maxRecDepth 20000 in
theorem k_Bx_sum (d : Nat) (x0 : Int) (h : AH) : cal (d + 1) m_Bx_sum [(101, x0)] h = run (d + 1) m_Bx_sum 4 [(101, x0), (0, 0), (0, 0)] [] h := (cal_blk [4] 10 d m_Bx_sum _ h rfl).trans rfl
set_option maxRecDepth 20000 in
theorem k_Bx_sum_4 (d : Nat) (x0 : Int) (x1 : Int) (x2 : Int) (h : AH) : run (d + 1) m_Bx_sum 4 [(101, x0), (0, x1), (0, x2)] [] h = (rdf 1 h x0 3).bind (fun y1 => (if x2 < y1 then (rdr 1 h x0 0).bind (fun y2 => (rda 20 h y2 x2).bind (fun y3 => (if y3 = 0 then (rdr 1 h x0 1).bind (fun y4 => (rda 20 h y4 x2).bind (fun y5 => run (d + 1) m_Bx_sum 4 [(101, x0), (0, a_add x1 y5), (0, a_add x2 1)] [] h)) else run (d + 1) m_Bx_sum 4 [(101, x0), (0, a_add x1 0), (0, a_add x2 1)] [] h))) else some (x1, h))) := (run_blk [4] 33 d m_Bx_sum 4 _ _ h).trans rfl
set_option maxRecDepth 20000 in
theorem k_Bx_houseBits (d : Nat) (x0 : Int) (h : AH) : cal (d + 1) m_Bx_houseBits [(101, x0)] h = run (d + 1) m_Bx_houseBits 4 [(101, x0), (0, 0), (0, 0)] [] h := (cal_blk [4] 10 d m_Bx_houseBits _ h rfl).trans rfl
set_option maxRecDepth 20000 in
theorem k_Bx_houseBits_4 (d : Nat) (x0 : Int) (x1 : Int) (x2 : Int) (h : AH) : run (d + 1) m_Bx_houseBits 4 [(101, x0), (0, x1), (0, x2)] [] h = (rdf 1 h x0 3).bind (fun y1 => (if x2 < y1 then (rdr 1 h x0 0).bind (fun y2 => (rda 20 h y2 x2).bind (fun y3 => (if y3 = 1 then (rdr 1 h x0 1).bind (fun y4 => (rda 20 h y4 x2).bind (fun y5 => run (d + 1) m_Bx_houseBits 4 [(101, x0), (0, a_or x1 (a_shl 1 y5)), (0, a_add x2 1)] [] h)) else run (d + 1) m_Bx_houseBits 4 [(101, x0), (0, a_or x1 0), (0, a_add x2 1)] [] h))) else some (x1, h))) := (run_blk [4] 36 d m_Bx_houseBits 4 _ _ h).trans rfl
set_option maxRecDepth 20000 in
theorem k_Bs_init (d : Nat) (x0 : Int) (h : AH) : cal (d + 1) m_Bs_init [(102, x0)] h = (wrf 2 (h ++ [(25, List.replicate (Int.toNat 5) (-1))]) x0 0 (Int.ofNat (List.length h))).bind (fun h1 => run (d + 1) m_Bs_init 14 [(102, x0), (0, 0)] [] h1) := (cal_blk [14] 14 d m_Bs_init _ h rfl).trans rfl
set_option maxRecDepth 20000 in
theorem k_Bs_init_14 (d : Nat) (x0 : Int) (x1 : Int) (h : AH) : run (d + 1) m_Bs_init 14 [(102, x0), (0, x1)] [] h = (if x1 < 5 then (rdr 2 h x0 0).bind (fun y1 => (cal d m_Bx_init [(101, Int.ofNat (List.length h))] (h ++ [(1, am_ini 1)])).bind (fun q2 => (wra 25 q2.2 y1 x1 (Int.ofNat (List.length h))).bind (fun h3 => run (d + 1) m_Bs_init 14 [(102, x0), (0, a_add x1 1)] [] h3))) else some (0, h)) := (run_blk [14] 19 d m_Bs_init 14 _ _ h).trans rfl
set_option maxRecDepth 20000 in
theorem k_Bs_has (d : Nat) (x0 : Int) (x1 : Int) (h : AH) : cal (d + 1) m_Bs_has [(102, x0), (0, x1)] h = (if x1 < 0 then some (0, h) else (if x1 < 5 then some (1, h) else some (0, h))) := (cal_blk [] 17 d m_Bs_has _ h rfl).trans rfl
set_option maxRecDepth 20000 in
theorem k_Bs_isThere (d : Nat) (x0 : Int) (x1 : Int) (h : AH) : cal (d + 1) m_Bs_isThere [(102, x0), (0, x1)] h = (rdr 2 h x0 0).bind (fun y1 => (rdar 25 h y1 x1).bind (fun y2 => (rdf 1 h y2 4).bind (fun y3 => (if y3 = 0 ∨ y3 = 1 then some (y3, h) else none)))) := (cal_blk [] 11 d m_Bs_isThere _ h rfl).trans rfl
set_option maxRecDepth 20000 in
theorem k_Bs_thereBits (d : Nat) (x0 : Int) (h : AH) : cal (d + 1) m_Bs_thereBits [(102, x0)] h = run (d + 1) m_Bs_thereBits 4 [(102, x0), (0, 0), (0, 0)] [] h := (cal_blk [4] 10 d m_Bs_thereBits _ h rfl).trans rfl
set_option maxRecDepth 20000 in
theorem k_Bs_thereBits_4 (d : Nat) (x0 : Int) (x1 : Int) (x2 : Int) (h : AH) : run (d + 1) m_Bs_thereBits 4 [(102, x0), (0, x1), (0, x2)] [] h = (if x2 < 5 then (cal d m_Bs_isThere [(102, x0), (0, x2)] h).bind (fun q1 => (if q1.1 = 0 then run (d + 1) m_Bs_thereBits 4 [(102, x0), (0, a_or x1 0), (0, a_add x2 1)] [] q1.2 else run (d + 1) m_Bs_thereBits 4 [(102, x0), (0, a_or x1 (a_shl 1 x2)), (0, a_add x2 1)] [] q1.2)) else some (x1, h)) := (run_blk [4] 30 d m_Bs_thereBits 4 _ _ h).trans rfl
set_option maxRecDepth 20000 in
theorem k_Bs_clear (d : Nat) (x0 : Int) (h : AH) : cal (d + 1) m_Bs_clear [(102, x0)] h = run (d + 1) m_Bs_clear 2 [(102, x0), (0, 0)] [] h := (cal_blk [2] 8 d m_Bs_clear _ h rfl).trans rfl
set_option maxRecDepth 20000 in
theorem k_Bs_clear_2 (d : Nat) (x0 : Int) (x1 : Int) (h : AH) : run (d + 1) m_Bs_clear 2 [(102, x0), (0, x1)] [] h = (if x1 < 5 then (cal d m_Bs_remove [(102, x0), (0, x1)] h).bind (fun q1 => run (d + 1) m_Bs_clear 2 [(102, x0), (0, a_add x1 1)] [] q1.2) else some (0, h)) := (run_blk [2] 16 d m_Bs_clear 2 _ _ h).trans rfl
set_option maxRecDepth 20000 in
theorem k_Bs_make (d : Nat) (x0 : Int) (x1 : Int) (x2 : Int) (h : AH) : cal (d + 1) m_Bs_make [(102, x0), (0, x1), (0, x2)] h = (cal d m_Bs_remove [(102, x0), (0, x1)] h).bind (fun q1 => (rdr 2 q1.2 x0 0).bind (fun y2 => (rdar 25 q1.2 y2 x1).bind (fun y3 => (wrfb 1 q1.2 y3 4 1).bind (fun h4 => (rdr 2 h4 x0 0).bind (fun y5 => (rdar 25 h4 y5 x1).bind (fun y6 => (wrf 1 h4 y6 2 x2).bind (fun h7 => some (0, h7)))))))) := (cal_blk [] 22 d m_Bs_make _ h rfl).trans rfl
set_option maxRecDepth 20000 in
theorem k_Bs_remove (d : Nat) (x0 : Int) (x1 : Int) (h : AH) : cal (d + 1) m_Bs_remove [(102, x0), (0, x1)] h = (rdr 2 h x0 0).bind (fun y1 => (rdar 25 h y1 x1).bind (fun y2 => (rdf 1 h y2 3).bind (fun y3 => run (d + 1) m_Bs_remove 15 [(102, x0), (0, x1), (101, y2), (0, y3), (0, 0)] [] h))) := (cal_blk [15] 16 d m_Bs_remove _ h rfl).trans rfl
set_option maxRecDepth 20000 in
theorem k_Bs_remove_15 (d : Nat) (x0 : Int) (x1 : Int) (x2 : Int) (x3 : Int) (x4 : Int) (h : AH) : run (d + 1) m_Bs_remove 15 [(102, x0), (0, x1), (101, x2), (0, x3), (0, x4)] [] h = (if x4 < 5 then (rdr 2 h x0 0).bind (fun y1 => (rdar 25 h y1 x4).bind (fun y2 => (cal d m_Bx_pullBox [(101, y2), (0, x1)] h).bind (fun q3 => (rdr 2 q3.2 x0 0).bind (fun y4 => (rdar 25 q3.2 y4 x4).bind (fun y5 => (rdf 1 q3.2 y5 5).bind (fun y6 => (if y6 = x1 then (rdr 2 q3.2 x0 0).bind (fun y7 => (rdar 25 q3.2 y7 x4).bind (fun y8 => (wrf 1 q3.2 y8 5 (-1)).bind (fun h9 => run (d + 1) m_Bs_remove 15 [(102, x0), (0, x1), (101, x2), (0, x3), (0, a_add x4 1)] [] h9))) else run (d + 1) m_Bs_remove 15 [(102, x0), (0, x1), (101, x2), (0, x3), (0, a_add x4 1)] [] q3.2))))))) else (wrf 1 h x2 5 (-1)).bind (fun h10 => (wrf 1 h10 x2 3 0).bind (fun h11 => (wrfb 1 h11 x2 4 0).bind (fun h12 => some (x3, h12))))) := (run_blk [15] 44 d m_Bs_remove 15 _ _ h).trans rfl
set_option maxRecDepth 20000 in
theorem k_Bs_lay (d : Nat) (x0 : Int) (x1 : Int) (x2 : Int) (x3 : Int) (h : AH) : cal (d + 1) m_Bs_lay [(102, x0), (0, x1), (0, x2), (0, x3)] h = (rdr 2 h x0 0).bind (fun y1 => (rdar 25 h y1 x1).bind (fun y2 => (if x2 = 2 then (cal d m_Bs_has [(102, x0), (0, x3)] h).bind (fun q3 => (if q3.1 = 0 then run (d + 1) m_Bs_lay 49 [(102, x0), (0, x1), (0, x2), (0, x3), (101, y2), (0, 0)] [] q3.2 else (rdr 2 q3.2 x0 0).bind (fun y4 => (rdar 25 q3.2 y4 x3).bind (fun y5 => (rdf 1 q3.2 y5 5).bind (fun y6 => (if y6 = (-1) then run (d + 1) m_Bs_lay 49 [(102, x0), (0, x1), (0, x2), (0, x3), (101, y2), (0, 1)] [] q3.2 else some ((-4), q3.2))))))) else run (d + 1) m_Bs_lay 49 [(102, x0), (0, x1), (0, x2), (0, x3), (101, y2), (0, 0)] [] h))) := (cal_blk [49] 42 d m_Bs_lay _ h rfl).trans rfl
set_option maxRecDepth 20000 in
theorem k_Bs_lay_49 (d : Nat) (x0 : Int) (x1 : Int) (x2 : Int) (x3 : Int) (x4 : Int) (x5 : Int) (h : AH) : run (d + 1) m_Bs_lay 49 [(102, x0), (0, x1), (0, x2), (0, x3), (101, x4), (0, x5)] [] h = (rdf 1 h x4 4).bind (fun y1 => (if y1 = 0 then some ((-11), h) else (if x5 = 0 then (rdf 1 h x4 3).bind (fun y2 => (rdf 1 h x4 2).bind (fun y3 => (if y2 < y3 then (if x5 = 0 then (cal d m_Bx_push [(101, x4), (0, x2), (0, x3)] h).bind (fun q4 => (if x5 = 0 then (rdf 1 q4.2 x4 3).bind (fun y5 => some (y5, q4.2)) else (rdr 2 q4.2 x0 0).bind (fun y6 => (rdar 25 q4.2 y6 x3).bind (fun y7 => (wrf 1 q4.2 y7 5 x1).bind (fun h8 => (rdf 1 h8 x4 3).bind (fun y9 => some (y9, h8))))))) else (cal d m_Bs_stepsUp [(102, x0), (0, x1), (0, x3)] h).bind (fun q10 => (if q10.1 = (-1) then (cal d m_Bx_push [(101, x4), (0, x2), (0, x3)] q10.2).bind (fun q11 => (if x5 = 0 then (rdf 1 q11.2 x4 3).bind (fun y12 => some (y12, q11.2)) else (rdr 2 q11.2 x0 0).bind (fun y13 => (rdar 25 q11.2 y13 x3).bind (fun y14 => (wrf 1 q11.2 y14 5 x1).bind (fun h15 => (rdf 1 h15 x4 3).bind (fun y16 => some (y16, h15))))))) else some ((-15), q10.2)))) else some ((-14), h)))) else (cal d m_Bs_isThere [(102, x0), (0, x3)] h).bind (fun q17 => (if q17.1 = 0 then some ((-11), q17.2) else (rdf 1 q17.2 x4 3).bind (fun y18 => (rdf 1 q17.2 x4 2).bind (fun y19 => (if y18 < y19 then (if x5 = 0 then (cal d m_Bx_push [(101, x4), (0, x2), (0, x3)] q17.2).bind (fun q20 => (if x5 = 0 then (rdf 1 q20.2 x4 3).bind (fun y21 => some (y21, q20.2)) else (rdr 2 q20.2 x0 0).bind (fun y22 => (rdar 25 q20.2 y22 x3).bind (fun y23 => (wrf 1 q20.2 y23 5 x1).bind (fun h24 => (rdf 1 h24 x4 3).bind (fun y25 => some (y25, h24))))))) else (cal d m_Bs_stepsUp [(102, x0), (0, x1), (0, x3)] q17.2).bind (fun q26 => (if q26.1 = (-1) then (cal d m_Bx_push [(101, x4), (0, x2), (0, x3)] q26.2).bind (fun q27 => (if x5 = 0 then (rdf 1 q27.2 x4 3).bind (fun y28 => some (y28, q27.2)) else (rdr 2 q27.2 x0 0).bind (fun y29 => (rdar 25 q27.2 y29 x3).bind (fun y30 => (wrf 1 q27.2 y30 5 x1).bind (fun h31 => (rdf 1 h31 x4 3).bind (fun y32 => some (y32, h31))))))) else some ((-15), q26.2)))) else some ((-14), q17.2))))))))) := (run_blk [49] 124 d m_Bs_lay 49 _ _ h).trans rfl
set_option maxRecDepth 20000 in
theorem k_Bs_lift (d : Nat) (x0 : Int) (x1 : Int) (x2 : Int) (h : AH) : cal (d + 1) m_Bs_lift [(102, x0), (0, x1), (0, x2)] h = (rdr 2 h x0 0).bind (fun y1 => (rdar 25 h y1 x1).bind (fun y2 => (rdf 1 h y2 4).bind (fun y3 => (if y3 = 0 then some ((-11), h) else (rdf 1 h y2 3).bind (fun y4 => (if 0 < y4 then (cal d m_Bx_hasOnTop [(101, y2), (0, x2)] h).bind (fun q5 => (if q5.1 = 0 then some ((-13), q5.2) else (rdf 1 q5.2 y2 3).bind (fun y6 => (wrf 1 q5.2 y2 3 (a_sub y6 1)).bind (fun h7 => (rdr 1 h7 y2 1).bind (fun y8 => (rdf 1 h7 y2 3).bind (fun y9 => (rda 20 h7 y8 y9).bind (fun y10 => (if x2 = 2 then (cal d m_Bs_has [(102, x0), (0, y10)] h7).bind (fun q11 => (if q11.1 = 0 then (if x2 = 0 then some (a_add 50000 y10, q11.2) else some (y10, q11.2)) else (rdr 2 q11.2 x0 0).bind (fun y12 => (rdar 25 q11.2 y12 y10).bind (fun y13 => (wrf 1 q11.2 y13 5 (-1)).bind (fun h14 => (if x2 = 0 then some (a_add 50000 y10, h14) else some (y10, h14))))))) else (if x2 = 0 then some (a_add 50000 y10, h7) else some (y10, h7)))))))))) else some ((-12), h))))))) := (cal_blk [] 78 d m_Bs_lift _ h rfl).trans rfl
set_option maxRecDepth 20000 in
theorem k_Bs_pour (d : Nat) (x0 : Int) (x1 : Int) (h : AH) : cal (d + 1) m_Bs_pour [(102, x0), (0, x1)] h = (rdr 2 h x0 0).bind (fun y1 => (rdar 25 h y1 x1).bind (fun y2 => (rdf 1 h y2 4).bind (fun y3 => (if y3 = 0 then some ((-11), h) else (rdf 1 h y2 3).bind (fun y4 => (if 0 < y4 then (rdr 1 h y2 1).bind (fun y5 => (rdf 1 h y2 3).bind (fun y6 => (rda 20 h y5 (a_sub y6 1)).bind (fun y7 => (cal d m_Bx_hasOnTop [(101, y2), (0, 2)] h).bind (fun q8 => (if q8.1 = 0 then some ((-13), q8.2) else (cal d m_Bs_has [(102, x0), (0, y7)] q8.2).bind (fun q9 => (if q9.1 = 0 then some ((-13), q9.2) else (rdr 2 q9.2 x0 0).bind (fun y10 => (rdar 25 q9.2 y10 y7).bind (fun y11 => (rdf 1 q9.2 y2 3).bind (fun y12 => (rdf 1 q9.2 y11 3).bind (fun y13 => (rdf 1 q9.2 y2 2).bind (fun y14 => (if y14 < a_add (a_sub y12 1) y13 then some ((-14), q9.2) else (rdf 1 q9.2 y2 3).bind (fun y15 => (wrf 1 q9.2 y2 3 (a_sub y15 1)).bind (fun h16 => (wrf 1 h16 y11 5 (-1)).bind (fun h17 => run (d + 1) m_Bs_pour 107 [(102, x0), (0, x1), (101, y2), (0, y7), (101, y11), (0, 0)] [] h17)))))))))))))))) else some ((-12), h))))))) := (cal_blk [107] 69 d m_Bs_pour _ h rfl).trans rfl
set_option maxRecDepth 20000 in
theorem k_Bs_pour_107 (d : Nat) (x0 : Int) (x1 : Int) (x2 : Int) (x3 : Int) (x4 : Int) (x5 : Int) (h : AH) : run (d + 1) m_Bs_pour 107 [(102, x0), (0, x1), (101, x2), (0, x3), (101, x4), (0, x5)] [] h = (rdf 1 h x4 3).bind (fun y1 => (if x5 < y1 then (rdr 1 h x4 0).bind (fun y2 => (rda 20 h y2 x5).bind (fun y3 => (rdr 1 h x4 1).bind (fun y4 => (rda 20 h y4 x5).bind (fun y5 => (cal d m_Bx_push [(101, x2), (0, y3), (0, y5)] h).bind (fun q6 => (rdr 1 q6.2 x4 0).bind (fun y7 => (rda 20 q6.2 y7 x5).bind (fun y8 => (if y8 = 2 then (rdr 1 q6.2 x4 1).bind (fun y9 => (rda 20 q6.2 y9 x5).bind (fun y10 => (cal d m_Bs_has [(102, x0), (0, y10)] q6.2).bind (fun q11 => (if q11.1 = 0 then run (d + 1) m_Bs_pour 107 [(102, x0), (0, x1), (101, x2), (0, x3), (101, x4), (0, a_add x5 1)] [] q11.2 else (rdr 2 q11.2 x0 0).bind (fun y12 => (rdr 1 q11.2 x4 1).bind (fun y13 => (rda 20 q11.2 y13 x5).bind (fun y14 => (rdar 25 q11.2 y12 y14).bind (fun y15 => (wrf 1 q11.2 y15 5 x1).bind (fun h16 => run (d + 1) m_Bs_pour 107 [(102, x0), (0, x1), (101, x2), (0, x3), (101, x4), (0, a_add x5 1)] [] h16))))))))) else run (d + 1) m_Bs_pour 107 [(102, x0), (0, x1), (101, x2), (0, x3), (101, x4), (0, a_add x5 1)] [] q6.2)))))))) else (wrf 1 h x4 3 0).bind (fun h17 => (rdf 1 h17 x2 3).bind (fun y18 => some (y18, h17))))) := (run_blk [107] 56 d m_Bs_pour 107 _ _ h).trans rfl
set_option maxRecDepth 20000 in
theorem k_Bs_throughout (d : Nat) (x0 : Int) (x1 : Int) (x2 : Int) (h : AH) : cal (d + 1) m_Bs_throughout [(102, x0), (0, x1), (0, x2)] h = (if x2 = 1 then run (d + 1) m_Bs_throughout 15 [(102, x0), (0, x1), (0, x2), (0, 50000), (0, 0), (9, 0)] [] h else run (d + 1) m_Bs_throughout 15 [(102, x0), (0, x1), (0, x2), (0, 0), (0, 0), (9, 0)] [] h) := (cal_blk [15] 19 d m_Bs_throughout _ h rfl).trans rfl
set_option maxRecDepth 20000 in
theorem k_Bs_throughout_15 (d : Nat) (x0 : Int) (x1 : Int) (x2 : Int) (x3 : Int) (x4 : Int) (v5 : AV) (h : AH) : run (d + 1) m_Bs_throughout 15 [(102, x0), (0, x1), (0, x2), (0, x3), (0, x4), v5] [] h = (if x4 < 5 then (cal d m_Bs_stepsUp [(102, x0), (0, x4), (0, x1)] h).bind (fun q1 => (if q1.1 = (-1) then run (d + 1) m_Bs_throughout 15 [(102, x0), (0, x1), (0, x2), (0, x3), (0, a_add x4 1), (0, q1.1)] [] q1.2 else (cal d m_Bs_withInner [(102, x0), (0, x3), (0, x4), (0, q1.1), (0, x2)] q1.2).bind (fun q2 => run (d + 1) m_Bs_throughout 15 [(102, x0), (0, x1), (0, x2), (0, q2.1), (0, a_add x4 1), (0, q1.1)] [] q2.2))) else some (x3, h)) := (run_blk [15] 31 d m_Bs_throughout 15 _ _ h).trans rfl
set_option maxRecDepth 20000 in
theorem k_Bs_withInner (d : Nat) (x0 : Int) (x1 : Int) (x2 : Int) (x3 : Int) (x4 : Int) (h : AH) : cal (d + 1) m_Bs_withInner [(102, x0), (0, x1), (0, x2), (0, x3), (0, x4)] h = (if x4 = 0 then (rdr 2 h x0 0).bind (fun y7 => (rdar 25 h y7 x2).bind (fun y8 => (cal d m_Bx_numbers [(101, y8)] h).bind (fun q9 => some (a_add x1 q9.1, q9.2)))) else (if x4 = 1 then (rdr 2 h x0 0).bind (fun y4 => (rdar 25 h y4 x2).bind (fun y5 => (cal d m_Bx_sum [(101, y5)] h).bind (fun q6 => some (a_add x1 q6.1, q6.2)))) else (if x4 = 2 then (rdr 2 h x0 0).bind (fun y1 => (rdar 25 h y1 x2).bind (fun y2 => (cal d m_Bx_houseBits [(101, y2)] h).bind (fun q3 => some (a_or x1 q3.1, q3.2)))) else (if x4 = 3 then (if 0 < x3 then some (a_or x1 (a_shl 1 x2), h) else some (x1, h)) else some (a_max x1 x3, h))))) := (cal_blk [] 46 d m_Bs_withInner _ h rfl).trans rfl
set_option maxRecDepth 20000 in
theorem k_Bs_stepsUp (d : Nat) (x0 : Int) (x1 : Int) (x2 : Int) (h : AH) : cal (d + 1) m_Bs_stepsUp [(102, x0), (0, x1), (0, x2)] h = run (d + 1) m_Bs_stepsUp 5 [(102, x0), (0, x1), (0, x2), (0, x1), (0, 0)] [] h := (cal_blk [5] 10 d m_Bs_stepsUp _ h rfl).trans rfl
set_option maxRecDepth 20000 in
theorem k_Bs_stepsUp_5 (d : Nat) (x0 : Int) (x1 : Int) (x2 : Int) (x3 : Int) (x4 : Int) (h : AH) : run (d + 1) m_Bs_stepsUp 5 [(102, x0), (0, x1), (0, x2), (0, x3), (0, x4)] [] h = (if x4 < 5 then (if x3 = (-1) then some ((-1), h) else (if x3 = x2 then some (x4, h) else (rdr 2 h x0 0).bind (fun y1 => (rdar 25 h y1 x3).bind (fun y2 => (rdf 1 h y2 5).bind (fun y3 => run (d + 1) m_Bs_stepsUp 5 [(102, x0), (0, x1), (0, x2), (0, y3), (0, a_add x4 1)] [] h))))) else some ((-1), h)) := (run_blk [5] 29 d m_Bs_stepsUp 5 _ _ h).trans rfl
set_option maxRecDepth 20000 in
theorem k_Bs_holdSame (d : Nat) (x0 : Int) (x1 : Int) (x2 : Int) (h : AH) : cal (d + 1) m_Bs_holdSame [(102, x0), (0, x1), (0, x2)] h = (cal d m_Bs_holdSameFrom [(102, x0), (0, x1), (0, x2), (0, 0)] h).bind (fun q1 => (if q1.1 = 0 ∨ q1.1 = 1 then some (q1.1, q1.2) else none)) := (cal_blk [] 11 d m_Bs_holdSame _ h rfl).trans rfl
set_option maxRecDepth 20000 in
theorem k_Bs_holdSameFrom (d : Nat) (x0 : Int) (x1 : Int) (x2 : Int) (x3 : Int) (h : AH) : cal (d + 1) m_Bs_holdSameFrom [(102, x0), (0, x1), (0, x2), (0, x3)] h = (rdr 2 h x0 0).bind (fun y1 => (rdar 25 h y1 x1).bind (fun y2 => (rdr 2 h x0 0).bind (fun y3 => (rdar 25 h y3 x2).bind (fun y4 => (rdf 1 h y2 3).bind (fun y5 => (rdf 1 h y4 3).bind (fun y6 => (if y5 = y6 then (if 5 < x3 then some (0, h) else run (d + 1) m_Bs_holdSameFrom 39 [(102, x0), (0, x1), (0, x2), (0, x3), (101, y2), (101, y4), (0, 0)] [] h) else some (0, h)))))))) := (cal_blk [39] 30 d m_Bs_holdSameFrom _ h rfl).trans rfl
set_option maxRecDepth 20000 in
theorem k_Bs_holdSameFrom_39 (d : Nat) (x0 : Int) (x1 : Int) (x2 : Int) (x3 : Int) (x4 : Int) (x5 : Int) (x6 : Int) (h : AH) : run (d + 1) m_Bs_holdSameFrom 39 [(102, x0), (0, x1), (0, x2), (0, x3), (101, x4), (101, x5), (0, x6)] [] h = (rdf 1 h x4 3).bind (fun y1 => (if x6 < y1 then (rdr 1 h x4 0).bind (fun y2 => (rda 20 h y2 x6).bind (fun y3 => (rdr 1 h x5 0).bind (fun y4 => (rda 20 h y4 x6).bind (fun y5 => (if y3 = y5 then (rdr 1 h x4 0).bind (fun y6 => (rda 20 h y6 x6).bind (fun y7 => (rdr 1 h x4 1).bind (fun y8 => (rda 20 h y8 x6).bind (fun y9 => (rdr 1 h x5 1).bind (fun y10 => (rda 20 h y10 x6).bind (fun y11 => (cal d m_Bs_isSame [(102, x0), (0, y7), (0, y9), (0, y11), (0, x3)] h).bind (fun q12 => (if q12.1 = 0 then some (0, q12.2) else run (d + 1) m_Bs_holdSameFrom 39 [(102, x0), (0, x1), (0, x2), (0, x3), (101, x4), (101, x5), (0, a_add x6 1)] [] q12.2)))))))) else some (0, h)))))) else some (1, h))) := (run_blk [39] 43 d m_Bs_holdSameFrom 39 _ _ h).trans rfl
set_option maxRecDepth 20000 in
theorem k_Bs_isSame (d : Nat) (x0 : Int) (x1 : Int) (x2 : Int) (x3 : Int) (x4 : Int) (h : AH) : cal (d + 1) m_Bs_isSame [(102, x0), (0, x1), (0, x2), (0, x3), (0, x4)] h = (if x1 = 2 then (cal d m_Bs_has [(102, x0), (0, x2)] h).bind (fun q1 => (if q1.1 = 0 then (if x2 = x3 then some (1, q1.2) else some (0, q1.2)) else (cal d m_Bs_has [(102, x0), (0, x3)] q1.2).bind (fun q2 => (if q2.1 = 0 then (if x2 = x3 then some (1, q2.2) else some (0, q2.2)) else (cal d m_Bs_holdSameFrom [(102, x0), (0, x2), (0, x3), (0, a_add x4 1)] q2.2).bind (fun q3 => (if q3.1 = 0 ∨ q3.1 = 1 then some (q3.1, q3.2) else none)))))) else (if x2 = x3 then some (1, h) else some (0, h))) := (cal_blk [] 48 d m_Bs_isSame _ h rfl).trans rfl
set_option maxRecDepth 20000 in
theorem k_Fo_init (d : Nat) (x0 : Int) (h : AH) : cal (d + 1) m_Fo_init [(103, x0)] h = (wrf 3 (h ++ [(24, List.replicate (Int.toNat 6) (-1))]) x0 0 (Int.ofNat (List.length h))).bind (fun h1 => (wrf 3 h1 x0 1 (-1)).bind (fun h2 => run (d + 1) m_Fo_init 20 [(103, x0), (0, 0)] [] h2)) := (cal_blk [20] 17 d m_Fo_init _ h rfl).trans rfl
set_option maxRecDepth 20000 in
theorem k_Fo_init_20 (d : Nat) (x0 : Int) (x1 : Int) (h : AH) : run (d + 1) m_Fo_init 20 [(103, x0), (0, x1)] [] h = (if 5 < x1 then some (0, h) else (rdr 3 h x0 0).bind (fun y1 => (cal d m_Bd_init [(100, Int.ofNat (List.length h))] (h ++ [(0, am_ini 0)])).bind (fun q2 => (wra 24 q2.2 y1 x1 (Int.ofNat (List.length h))).bind (fun h3 => run (d + 1) m_Fo_init 20 [(103, x0), (0, a_add x1 1)] [] h3)))) := (run_blk [20] 19 d m_Fo_init 20 _ _ h).trans rfl
set_option maxRecDepth 20000 in
theorem k_Fo_broughtBy (d : Nat) (x0 : Int) (x1 : Int) (x2 : Int) (h : AH) : cal (d + 1) m_Fo_broughtBy [(103, x0), (100, x1), (0, x2)] h = (rdr 3 h x0 0).bind (fun y1 => (rdar 24 h y1 0).bind (fun y2 => (cal d m_Bd_copy [(100, y2), (100, x1)] h).bind (fun q3 => (rdr 3 q3.2 x0 0).bind (fun y4 => (rdar 24 q3.2 y4 0).bind (fun y5 => (cal d m_Bd_sow [(100, y5), (0, x2)] q3.2).bind (fun q6 => some (q6.1, q6.2))))))) := (cal_blk [] 18 d m_Fo_broughtBy _ h rfl).trans rfl
set_option maxRecDepth 20000 in
theorem k_Fo_bestLead (d : Nat) (x0 : Int) (x1 : Int) (x2 : Int) (h : AH) : cal (d + 1) m_Fo_bestLead [(103, x0), (100, x1), (0, x2)] h = (rdr 3 h x0 0).bind (fun y1 => (rdar 24 h y1 0).bind (fun y2 => (cal d m_Bd_copy [(100, y2), (100, x1)] h).bind (fun q3 => (cal d m_Fo_search [(103, x0), (0, 0), (0, x2), (0, (-1000000)), (0, 1000000)] q3.2).bind (fun q4 => some (q4.1, q4.2))))) := (cal_blk [] 18 d m_Fo_bestLead _ h rfl).trans rfl
set_option maxRecDepth 20000 in
theorem k_Fo_lineMove (d : Nat) (x0 : Int) (x1 : Int) (x2 : Int) (x3 : Int) (h : AH) : cal (d + 1) m_Fo_lineMove [(103, x0), (100, x1), (0, x2), (0, x3)] h = (rdr 3 h x0 0).bind (fun y1 => (rdar 24 h y1 0).bind (fun y2 => (cal d m_Bd_copy [(100, y2), (100, x1)] h).bind (fun q3 => run (d + 1) m_Fo_lineMove 13 [(103, x0), (100, x1), (0, x2), (0, x3), (0, 0)] [] q3.2))) := (cal_blk [13] 14 d m_Fo_lineMove _ h rfl).trans rfl
set_option maxRecDepth 20000 in
theorem k_Fo_lineMove_13 (d : Nat) (x0 : Int) (x1 : Int) (x2 : Int) (x3 : Int) (x4 : Int) (h : AH) : run (d + 1) m_Fo_lineMove 13 [(103, x0), (100, x1), (0, x2), (0, x3), (0, x4)] [] h = (if x4 < x2 then (if x3 < x4 then some ((-1), h) else (cal d m_Fo_search [(103, x0), (0, 0), (0, a_sub x2 x4), (0, (-1000000)), (0, 1000000)] h).bind (fun q1 => (if x4 = x3 then (rdf 3 q1.2 x0 1).bind (fun y2 => some (y2, q1.2)) else (rdf 3 q1.2 x0 1).bind (fun y3 => (if y3 = (-1) then (rdf 3 q1.2 x0 1).bind (fun y4 => some (y4, q1.2)) else (rdr 3 q1.2 x0 0).bind (fun y5 => (rdar 24 q1.2 y5 0).bind (fun y6 => (rdf 3 q1.2 x0 1).bind (fun y7 => (cal d m_Bd_sow [(100, y6), (0, y7)] q1.2).bind (fun q8 => run (d + 1) m_Fo_lineMove 13 [(103, x0), (100, x1), (0, x2), (0, x3), (0, a_add x4 1)] [] q8.2))))))))) else some ((-1), h)) := (run_blk [13] 48 d m_Fo_lineMove 13 _ _ h).trans rfl
set_option maxRecDepth 20000 in
theorem k_Fo_search (d : Nat) (x0 : Int) (x1 : Int) (x2 : Int) (x3 : Int) (x4 : Int) (h : AH) : cal (d + 1) m_Fo_search [(103, x0), (0, x1), (0, x2), (0, x3), (0, x4)] h = (rdr 3 h x0 0).bind (fun y1 => (rdar 24 h y1 x1).bind (fun y2 => (if 0 < x2 then (if x1 < 5 then (rdr 3 h x0 0).bind (fun y3 => (rdar 24 h y3 (a_add x1 1)).bind (fun y4 => run (d + 1) m_Fo_search 37 [(103, x0), (0, x1), (0, x2), (0, x3), (0, x4), (100, y2), (0, (-1000000)), (0, (-1)), (100, y4), (0, 0), (9, 0)] [] h)) else (if x1 = 0 then (wrf 3 h x0 1 (-1)).bind (fun h5 => (cal d m_Bd_turn [(100, y2)] h5).bind (fun q6 => (cal d m_Bd_lead [(100, y2), (0, q6.1)] q6.2).bind (fun q7 => some (q7.1, q7.2)))) else (cal d m_Bd_turn [(100, y2)] h).bind (fun q8 => (cal d m_Bd_lead [(100, y2), (0, q8.1)] q8.2).bind (fun q9 => some (q9.1, q9.2))))) else (if x1 = 0 then (wrf 3 h x0 1 (-1)).bind (fun h10 => (cal d m_Bd_turn [(100, y2)] h10).bind (fun q11 => (cal d m_Bd_lead [(100, y2), (0, q11.1)] q11.2).bind (fun q12 => some (q12.1, q12.2)))) else (cal d m_Bd_turn [(100, y2)] h).bind (fun q13 => (cal d m_Bd_lead [(100, y2), (0, q13.1)] q13.2).bind (fun q14 => some (q14.1, q14.2))))))) := (cal_blk [37] 75 d m_Fo_search _ h rfl).trans rfl
set_option maxRecDepth 20000 in
theorem k_Fo_search_37 (d : Nat) (x0 : Int) (x1 : Int) (x2 : Int) (x3 : Int) (x4 : Int) (x5 : Int) (x6 : Int) (x7 : Int) (x8 : Int) (x9 : Int) (v10 : AV) (h : AH) : run (d + 1) m_Fo_search 37 [(103, x0), (0, x1), (0, x2), (0, x3), (0, x4), (100, x5), (0, x6), (0, x7), (100, x8), (0, x9), v10] [] h = (cal d m_Bd_houses [(100, x5)] h).bind (fun q1 => (if x9 < q1.1 then (if x6 < x4 then (cal d m_Bd_goes [(100, x5), (0, x9)] q1.2).bind (fun q2 => (if q2.1 = 0 then run (d + 1) m_Fo_search 37 [(103, x0), (0, x1), (0, x2), (0, x3), (0, x4), (100, x5), (0, x6), (0, x7), (100, x8), (0, a_add x9 1), v10] [] q2.2 else (cal d m_Bd_copy [(100, x8), (100, x5)] q2.2).bind (fun q3 => (cal d m_Bd_sow [(100, x8), (0, x9)] q3.2).bind (fun q4 => (cal d m_Fo_search [(103, x0), (0, a_add x1 1), (0, a_sub x2 1), (0, a_neg x4), (0, a_neg (a_max x3 x6))] q4.2).bind (fun q5 => (if x6 < a_neg q5.1 then run (d + 1) m_Fo_search 37 [(103, x0), (0, x1), (0, x2), (0, x3), (0, x4), (100, x5), (0, a_neg q5.1), (0, x9), (100, x8), (0, a_add x9 1), (0, a_neg q5.1)] [] q5.2 else run (d + 1) m_Fo_search 37 [(103, x0), (0, x1), (0, x2), (0, x3), (0, x4), (100, x5), (0, x6), (0, x7), (100, x8), (0, a_add x9 1), (0, a_neg q5.1)] [] q5.2)))))) else (if x1 = 0 then (wrf 3 q1.2 x0 1 x7).bind (fun h6 => (if x7 = (-1) then (cal d m_Bd_turn [(100, x5)] h6).bind (fun q7 => (cal d m_Bd_lead [(100, x5), (0, q7.1)] q7.2).bind (fun q8 => some (q8.1, q8.2))) else some (x6, h6))) else (if x7 = (-1) then (cal d m_Bd_turn [(100, x5)] q1.2).bind (fun q9 => (cal d m_Bd_lead [(100, x5), (0, q9.1)] q9.2).bind (fun q10 => some (q10.1, q10.2))) else some (x6, q1.2)))) else (if x1 = 0 then (wrf 3 q1.2 x0 1 x7).bind (fun h11 => (if x7 = (-1) then (cal d m_Bd_turn [(100, x5)] h11).bind (fun q12 => (cal d m_Bd_lead [(100, x5), (0, q12.1)] q12.2).bind (fun q13 => some (q13.1, q13.2))) else some (x6, h11))) else (if x7 = (-1) then (cal d m_Bd_turn [(100, x5)] q1.2).bind (fun q14 => (cal d m_Bd_lead [(100, x5), (0, q14.1)] q14.2).bind (fun q15 => some (q15.1, q15.2))) else some (x6, q1.2))))) := (run_blk [37] 109 d m_Fo_search 37 _ _ h).trans rfl
set_option maxRecDepth 20000 in
theorem k_Fo_rashBoard (d : Nat) (x0 : Int) (x1 : Int) (x2 : Int) (h : AH) : cal (d + 1) m_Fo_rashBoard [(103, x0), (100, x1), (0, x2)] h = (rdr 3 h x0 0).bind (fun y1 => (rdar 24 h y1 0).bind (fun y2 => (cal d m_Bd_copy [(100, y2), (100, x1)] h).bind (fun q3 => run (d + 1) m_Fo_rashBoard 12 [(103, x0), (100, x1), (0, x2), (0, 0), (9, 0)] [] q3.2))) := (cal_blk [12] 14 d m_Fo_rashBoard _ h rfl).trans rfl
set_option maxRecDepth 20000 in
theorem k_Fo_rashBoard_12 (d : Nat) (x0 : Int) (x1 : Int) (x2 : Int) (x3 : Int) (v4 : AV) (h : AH) : run (d + 1) m_Fo_rashBoard 12 [(103, x0), (100, x1), (0, x2), (0, x3), v4] [] h = (if x3 < x2 then (cal d m_Fo_rashHouse [(103, x0)] h).bind (fun q1 => (if q1.1 = (-1) then (rdr 3 q1.2 x0 0).bind (fun y2 => (rdar 24 q1.2 y2 0).bind (fun y3 => some (y3, q1.2))) else (rdr 3 q1.2 x0 0).bind (fun y4 => (rdar 24 q1.2 y4 0).bind (fun y5 => (cal d m_Bd_sow [(100, y5), (0, q1.1)] q1.2).bind (fun q6 => run (d + 1) m_Fo_rashBoard 12 [(103, x0), (100, x1), (0, x2), (0, a_add x3 1), (0, q1.1)] [] q6.2))))) else (rdr 3 h x0 0).bind (fun y7 => (rdar 24 h y7 0).bind (fun y8 => some (y8, h)))) := (run_blk [12] 35 d m_Fo_rashBoard 12 _ _ h).trans rfl
set_option maxRecDepth 20000 in
theorem k_Fo_rashHouse (d : Nat) (x0 : Int) (h : AH) : cal (d + 1) m_Fo_rashHouse [(103, x0)] h = run (d + 1) m_Fo_rashHouse 6 [(103, x0), (0, (-1)), (0, (-1)), (0, 0), (9, 0)] [] h := (cal_blk [6] 12 d m_Fo_rashHouse _ h rfl).trans rfl
set_option maxRecDepth 20000 in
theorem k_Fo_rashHouse_6 (d : Nat) (x0 : Int) (x1 : Int) (x2 : Int) (x3 : Int) (v4 : AV) (h : AH) : run (d + 1) m_Fo_rashHouse 6 [(103, x0), (0, x1), (0, x2), (0, x3), v4] [] h = (rdr 3 h x0 0).bind (fun y1 => (rdar 24 h y1 0).bind (fun y2 => (cal d m_Bd_houses [(100, y2)] h).bind (fun q3 => (if x3 < q3.1 then (rdr 3 q3.2 x0 0).bind (fun y4 => (rdar 24 q3.2 y4 0).bind (fun y5 => (cal d m_Bd_goes [(100, y5), (0, x3)] q3.2).bind (fun q6 => (if q6.1 = 0 then run (d + 1) m_Fo_rashHouse 6 [(103, x0), (0, x1), (0, x2), (0, a_add x3 1), v4] [] q6.2 else (rdr 3 q6.2 x0 0).bind (fun y7 => (rdar 24 q6.2 y7 1).bind (fun y8 => (rdr 3 q6.2 x0 0).bind (fun y9 => (rdar 24 q6.2 y9 0).bind (fun y10 => (cal d m_Bd_copy [(100, y8), (100, y10)] q6.2).bind (fun q11 => (rdr 3 q11.2 x0 0).bind (fun y12 => (rdar 24 q11.2 y12 1).bind (fun y13 => (cal d m_Bd_sow [(100, y13), (0, x3)] q11.2).bind (fun q14 => (if x1 < q14.1 then run (d + 1) m_Fo_rashHouse 6 [(103, x0), (0, q14.1), (0, x3), (0, a_add x3 1), (0, q14.1)] [] q14.2 else run (d + 1) m_Fo_rashHouse 6 [(103, x0), (0, x1), (0, x2), (0, a_add x3 1), (0, q14.1)] [] q14.2))))))))))))) else some (x2, q3.2))))) := (run_blk [6] 53 d m_Fo_rashHouse 6 _ _ h).trans rfl
set_option maxRecDepth 20000 in
theorem k_Fo_bestGift (d : Nat) (x0 : Int) (x1 : Int) (x2 : Int) (h : AH) : cal (d + 1) m_Fo_bestGift [(103, x0), (100, x1), (0, x2)] h = (rdr 3 h x0 0).bind (fun y1 => (rdar 24 h y1 0).bind (fun y2 => (cal d m_Bd_copy [(100, y2), (100, x1)] h).bind (fun q3 => (cal d m_Fo_search [(103, x0), (0, 0), (0, x2), (0, (-1000000)), (0, 1000000)] q3.2).bind (fun q4 => run (d + 1) m_Fo_bestGift 27 [(103, x0), (100, x1), (0, x2), (0, q4.1), (0, (-1)), (0, 0), (9, 0)] [] q4.2)))) := (cal_blk [27] 23 d m_Fo_bestGift _ h rfl).trans rfl
set_option maxRecDepth 20000 in
theorem k_Fo_bestGift_27 (d : Nat) (x0 : Int) (x1 : Int) (x2 : Int) (x3 : Int) (x4 : Int) (x5 : Int) (v6 : AV) (h : AH) : run (d + 1) m_Fo_bestGift 27 [(103, x0), (100, x1), (0, x2), (0, x3), (0, x4), (0, x5), v6] [] h = (cal d m_Bd_houses [(100, x1)] h).bind (fun q1 => (if x5 < q1.1 then (cal d m_Bd_sideOf [(100, x1), (0, x5)] q1.2).bind (fun q2 => (cal d m_Bd_turn [(100, x1)] q2.2).bind (fun q3 => (if q2.1 = q3.1 then (rdr 3 q3.2 x0 0).bind (fun y4 => (rdar 24 q3.2 y4 0).bind (fun y5 => (cal d m_Bd_copy [(100, y5), (100, x1)] q3.2).bind (fun q6 => (rdr 3 q6.2 x0 0).bind (fun y7 => (rdar 24 q6.2 y7 0).bind (fun y8 => (cal d m_Bd_give [(100, y8), (0, x5), (0, 1)] q6.2).bind (fun q9 => (cal d m_Fo_search [(103, x0), (0, 0), (0, x2), (0, (-1000000)), (0, 1000000)] q9.2).bind (fun q10 => (if x3 < q10.1 then run (d + 1) m_Fo_bestGift 27 [(103, x0), (100, x1), (0, x2), (0, q10.1), (0, x5), (0, a_add x5 1), (0, q10.1)] [] q10.2 else run (d + 1) m_Fo_bestGift 27 [(103, x0), (100, x1), (0, x2), (0, x3), (0, x4), (0, a_add x5 1), (0, q10.1)] [] q10.2)))))))) else run (d + 1) m_Fo_bestGift 27 [(103, x0), (100, x1), (0, x2), (0, x3), (0, x4), (0, a_add x5 1), v6] [] q3.2))) else some (x4, q1.2))) := (run_blk [27] 53 d m_Fo_bestGift 27 _ _ h).trans rfl
set_option maxRecDepth 20000 in
theorem k_Fo_odds (d : Nat) (x0 : Int) (x1 : Int) (x2 : Int) (x3 : Int) (h : AH) : cal (d + 1) m_Fo_odds [(103, x0), (100, x1), (0, x2), (0, x3)] h = (rdr 3 h x0 0).bind (fun y1 => (rdar 24 h y1 0).bind (fun y2 => (cal d m_Bd_copy [(100, y2), (100, x1)] h).bind (fun q3 => (cal d m_Bd_turn [(100, x1)] q3.2).bind (fun q4 => (cal d m_Fo_leading [(103, x0), (0, 0), (0, x2), (0, 216000), (0, q4.1)] q4.2).bind (fun q5 => (cal d m_Fo_commonDivisor [(0, 216000), (0, q5.1)] q5.2).bind (fun q6 => (if 0 < q6.1 then (if x3 = 0 then (if q6.1 = 0 then none else some (a_div q5.1 q6.1, q6.2)) else (if q6.1 = 0 then none else some (a_div 216000 q6.1, q6.2))) else some (0, q6.2)))))))) := (cal_blk [] 38 d m_Fo_odds _ h rfl).trans rfl
set_option maxRecDepth 20000 in
theorem k_Fo_leading (d : Nat) (x0 : Int) (x1 : Int) (x2 : Int) (x3 : Int) (x4 : Int) (h : AH) : cal (d + 1) m_Fo_leading [(103, x0), (0, x1), (0, x2), (0, x3), (0, x4)] h = (rdr 3 h x0 0).bind (fun y1 => (rdar 24 h y1 x1).bind (fun y2 => (cal d m_Bd_goingBits [(100, y2)] h).bind (fun q3 => (cal d m_Jd_bitCount [(0, q3.1)] q3.2).bind (fun q4 => (if 0 < x2 then (if 0 < q4.1 then (if x1 < 5 then (rdr 3 q4.2 x0 0).bind (fun y5 => (rdar 24 q4.2 y5 (a_add x1 1)).bind (fun y6 => run (d + 1) m_Fo_leading 64 [(103, x0), (0, x1), (0, x2), (0, x3), (0, x4), (100, y2), (0, q4.1), (100, y6), (0, 0), (0, 0)] [] q4.2)) else (cal d m_Bd_lead [(100, y2), (0, x4)] q4.2).bind (fun q7 => (if 0 < q7.1 then some (x3, q7.2) else some (0, q7.2)))) else (cal d m_Bd_lead [(100, y2), (0, x4)] q4.2).bind (fun q8 => (if 0 < q8.1 then some (x3, q8.2) else some (0, q8.2)))) else (cal d m_Bd_lead [(100, y2), (0, x4)] q4.2).bind (fun q9 => (if 0 < q9.1 then some (x3, q9.2) else some (0, q9.2)))))))) := (cal_blk [64] 60 d m_Fo_leading _ h rfl).trans rfl
set_option maxRecDepth 20000 in
theorem k_Fo_leading_64 (d : Nat) (x0 : Int) (x1 : Int) (x2 : Int) (x3 : Int) (x4 : Int) (x5 : Int) (x6 : Int) (x7 : Int) (x8 : Int) (x9 : Int) (h : AH) : run (d + 1) m_Fo_leading 64 [(103, x0), (0, x1), (0, x2), (0, x3), (0, x4), (100, x5), (0, x6), (100, x7), (0, x8), (0, x9)] [] h = (cal d m_Bd_houses [(100, x5)] h).bind (fun q1 => (if x9 < q1.1 then (cal d m_Bd_goes [(100, x5), (0, x9)] q1.2).bind (fun q2 => (if q2.1 = 0 then run (d + 1) m_Fo_leading 64 [(103, x0), (0, x1), (0, x2), (0, x3), (0, x4), (100, x5), (0, x6), (100, x7), (0, x8), (0, a_add x9 1)] [] q2.2 else (cal d m_Bd_copy [(100, x7), (100, x5)] q2.2).bind (fun q3 => (cal d m_Bd_sow [(100, x7), (0, x9)] q3.2).bind (fun q4 => (if x6 = 0 then none else (cal d m_Fo_leading [(103, x0), (0, a_add x1 1), (0, a_sub x2 1), (0, a_div x3 x6), (0, x4)] q4.2).bind (fun q5 => run (d + 1) m_Fo_leading 64 [(103, x0), (0, x1), (0, x2), (0, x3), (0, x4), (100, x5), (0, x6), (100, x7), (0, a_add x8 q5.1), (0, a_add x9 1)] [] q5.2)))))) else some (x8, q1.2))) := (run_blk [64] 43 d m_Fo_leading 64 _ _ h).trans rfl
set_option maxRecDepth 20000 in
theorem k_Fo_commonDivisor (d : Nat) (x0 : Int) (x1 : Int) (h : AH) : cal (d + 1) m_Fo_commonDivisor [(0, x0), (0, x1)] h = run (d + 1) m_Fo_commonDivisor 7 [(0, x0), (0, x1), (0, x0), (0, x1), (0, 0), (9, 0)] [] h := (cal_blk [7] 12 d m_Fo_commonDivisor _ h rfl).trans rfl
set_option maxRecDepth 20000 in
theorem k_Fo_commonDivisor_7 (d : Nat) (x0 : Int) (x1 : Int) (x2 : Int) (x3 : Int) (x4 : Int) (v5 : AV) (h : AH) : run (d + 1) m_Fo_commonDivisor 7 [(0, x0), (0, x1), (0, x2), (0, x3), (0, x4), v5] [] h = (if x4 < 64 then (if 0 < x3 then (if x3 = 0 then none else run (d + 1) m_Fo_commonDivisor 7 [(0, x0), (0, x1), (0, x3), (0, a_rem x2 x3), (0, a_add x4 1), (0, a_rem x2 x3)] [] h) else some (x2, h)) else some (x2, h)) := (run_blk [7] 25 d m_Fo_commonDivisor 7 _ _ h).trans rfl
set_option maxRecDepth 20000 in
theorem k_Ki_isUnder (d : Nat) (x0 : Int) (x1 : Int) (h : AH) : cal (d + 1) m_Ki_isUnder [(0, x0), (0, x1)] h = (cal d m_Ss_isWithin [(0, x0), (0, 0), (0, 4)] h).bind (fun q1 => (if q1.1 = 0 then some (0, q1.2) else (cal d m_Ss_isWithin [(0, x1), (0, 0), (0, 5)] q1.2).bind (fun q2 => (if q2.1 = 0 then some (0, q2.2) else (rda 26 q2.2 1 x0).bind (fun y3 => (if a_and (a_shr y3 x1) 1 = 1 then some (1, q2.2) else some (0, q2.2))))))) := (cal_blk [] 33 d m_Ki_isUnder _ h rfl).trans rfl
set_option maxRecDepth 20000 in
theorem k_Ki_lifted (d : Nat) (x0 : Int) (x1 : Int) (h : AH) : cal (d + 1) m_Ki_lifted [(0, x0), (0, x1)] h = (if x0 = 1 then (if 0 < x1 then some (a_sub x1 1, h) else some (0, h)) else (if x0 = 2 then some (x1, h) else (if x0 = 3 then some (0, h) else (if x0 = 4 then some (a_div (a_add x1 1) 2, h) else some (x1, h))))) := (cal_blk [] 28 d m_Ki_lifted _ h rfl).trans rfl
set_option maxRecDepth 20000 in
theorem k_Ki_takes (d : Nat) (x0 : Int) (x1 : Int) (h : AH) : cal (d + 1) m_Ki_takes [(0, x0), (0, x1)] h = (if x0 = 3 then some (0, h) else (if x0 = 4 then (if 2 < x1 then some (0, h) else some (1, h)) else (if x1 < 99 then some (1, h) else some (0, h)))) := (cal_blk [] 25 d m_Ki_takes _ h rfl).trans rfl
set_option maxRecDepth 20000 in
theorem k_Ki_yields (d : Nat) (x0 : Int) (x1 : Int) (h : AH) : cal (d + 1) m_Ki_yields [(0, x0), (0, x1)] h = (if x0 = 2 then (if x1 < 2 then some (0, h) else (if 5 < x1 then some (0, h) else some (1, h))) else (if x0 = 3 then some (0, h) else (if x0 = 4 then some (0, h) else (if x1 < 2 then some (0, h) else (if 3 < x1 then some (0, h) else some (1, h)))))) := (cal_blk [] 37 d m_Ki_yields _ h rfl).trans rfl
set_option maxRecDepth 20000 in
theorem k_Si_init (d : Nat) (x0 : Int) (h : AH) : cal (d + 1) m_Si_init [(104, x0)] h = (wrf 4 (h ++ [(20, List.replicate (Int.toNat 6) 0)]) x0 0 (Int.ofNat (List.length h))).bind (fun h1 => (wrf 4 (h1 ++ [(20, List.replicate (Int.toNat 6) 0)]) x0 1 (Int.ofNat (List.length h1))).bind (fun h2 => (wrf 4 (h2 ++ [(21, List.replicate (Int.toNat 6) 0)]) x0 2 (Int.ofNat (List.length h2))).bind (fun h3 => (wrf 4 (h3 ++ [(21, List.replicate (Int.toNat 6) 0)]) x0 3 (Int.ofNat (List.length h3))).bind (fun h4 => (wrf 4 h4 x0 4 0).bind (fun h5 => some (0, h5)))))) := (cal_blk [] 27 d m_Si_init _ h rfl).trans rfl
set_option maxRecDepth 20000 in
theorem k_Si_add (d : Nat) (x0 : Int) (x1 : Int) (x2 : Int) (x3 : Int) (x4 : Int) (h : AH) : cal (d + 1) m_Si_add [(104, x0), (0, x1), (0, x2), (0, x3), (0, x4)] h = (rdf 4 h x0 4).bind (fun y1 => (if y1 < 6 then (rdr 4 h x0 0).bind (fun y2 => (rdf 4 h x0 4).bind (fun y3 => (wra 20 h y2 y3 x1).bind (fun h4 => (rdr 4 h4 x0 1).bind (fun y5 => (rdf 4 h4 x0 4).bind (fun y6 => (wra 20 h4 y5 y6 x2).bind (fun h7 => (rdr 4 h7 x0 2).bind (fun y8 => (rdf 4 h7 x0 4).bind (fun y9 => (wrab 21 h7 y8 y9 x3).bind (fun h10 => (rdr 4 h10 x0 3).bind (fun y11 => (rdf 4 h10 x0 4).bind (fun y12 => (wrab 21 h10 y11 y12 x4).bind (fun h13 => (rdf 4 h13 x0 4).bind (fun y14 => (wrf 4 h13 x0 4 (a_add y14 1)).bind (fun h15 => some (1, h15))))))))))))))) else some (0, h))) := (cal_blk [] 43 d m_Si_add _ h rfl).trans rfl
set_option maxRecDepth 20000 in
theorem k_Si_clear (d : Nat) (x0 : Int) (h : AH) : cal (d + 1) m_Si_clear [(104, x0)] h = (wrf 4 h x0 4 0).bind (fun h1 => some (0, h1)) := (cal_blk [] 9 d m_Si_clear _ h rfl).trans rfl
set_option maxRecDepth 20000 in
theorem k_Si_size (d : Nat) (x0 : Int) (h : AH) : cal (d + 1) m_Si_size [(104, x0)] h = (rdf 4 h x0 4).bind (fun y1 => some (y1, h)) := (cal_blk [] 8 d m_Si_size _ h rfl).trans rfl
set_option maxRecDepth 20000 in
theorem k_Si_possible (d : Nat) (x0 : Int) (h : AH) : cal (d + 1) m_Si_possible [(104, x0)] h = run (d + 1) m_Si_possible 4 [(104, x0), (0, 0), (0, 0)] [] h := (cal_blk [4] 10 d m_Si_possible _ h rfl).trans rfl
set_option maxRecDepth 20000 in
theorem k_Si_possible_4 (d : Nat) (x0 : Int) (x1 : Int) (x2 : Int) (h : AH) : run (d + 1) m_Si_possible 4 [(104, x0), (0, x1), (0, x2)] [] h = (if x2 < 5 then (cal d m_Si_fits [(104, x0), (0, x2)] h).bind (fun q1 => (if q1.1 = 0 then run (d + 1) m_Si_possible 4 [(104, x0), (0, a_or x1 0), (0, a_add x2 1)] [] q1.2 else run (d + 1) m_Si_possible 4 [(104, x0), (0, a_or x1 (a_shl 1 x2)), (0, a_add x2 1)] [] q1.2)) else some (x1, h)) := (run_blk [4] 30 d m_Si_possible 4 _ _ h).trans rfl
set_option maxRecDepth 20000 in
theorem k_Si_fits (d : Nat) (x0 : Int) (x1 : Int) (h : AH) : cal (d + 1) m_Si_fits [(104, x0), (0, x1)] h = run (d + 1) m_Si_fits 2 [(104, x0), (0, x1), (0, 0), (9, 0)] [] h := (cal_blk [2] 8 d m_Si_fits _ h rfl).trans rfl
set_option maxRecDepth 20000 in
theorem k_Si_fits_2 (d : Nat) (x0 : Int) (x1 : Int) (x2 : Int) (v3 : AV) (h : AH) : run (d + 1) m_Si_fits 2 [(104, x0), (0, x1), (0, x2), v3] [] h = (rdf 4 h x0 4).bind (fun y1 => (if x2 < y1 then (rdr 4 h x0 0).bind (fun y2 => (rda 20 h y2 x2).bind (fun y3 => (cal d m_Ki_lifted [(0, x1), (0, y3)] h).bind (fun q4 => (rdr 4 q4.2 x0 1).bind (fun y5 => (rda 20 q4.2 y5 x2).bind (fun y6 => (if q4.1 = y6 then (rdr 4 q4.2 x0 0).bind (fun y7 => (rda 20 q4.2 y7 x2).bind (fun y8 => (cal d m_Ki_takes [(0, x1), (0, y8)] q4.2).bind (fun q9 => (rdr 4 q9.2 x0 2).bind (fun y10 => (rda 21 q9.2 y10 x2).bind (fun y11 => (if q9.1 = y11 then (rdr 4 q9.2 x0 0).bind (fun y12 => (rda 20 q9.2 y12 x2).bind (fun y13 => (cal d m_Ki_yields [(0, x1), (0, y13)] q9.2).bind (fun q14 => (rdr 4 q14.2 x0 3).bind (fun y15 => (rda 21 q14.2 y15 x2).bind (fun y16 => (if q14.1 = y16 then run (d + 1) m_Si_fits 2 [(104, x0), (0, x1), (0, a_add x2 1), (0, 1)] [] q14.2 else some (0, q14.2))))))) else some (0, q9.2))))))) else some (0, q4.2))))))) else some (1, h))) := (run_blk [2] 70 d m_Si_fits 2 _ _ h).trans rfl
set_option maxRecDepth 20000 in
theorem k_Si_question (d : Nat) (x0 : Int) (h : AH) : cal (d + 1) m_Si_question [(104, x0)] h = (cal d m_Si_possible [(104, x0)] h).bind (fun q1 => (cal d m_Jd_bitCount [(0, q1.1)] q1.2).bind (fun q2 => run (d + 1) m_Si_question 15 [(104, x0), (0, q1.1), (0, q2.1), (0, (-1)), (0, 0), (9, 0)] [] q2.2)) := (cal_blk [15] 16 d m_Si_question _ h rfl).trans rfl
set_option maxRecDepth 20000 in
theorem k_Si_question_15 (d : Nat) (x0 : Int) (x1 : Int) (x2 : Int) (x3 : Int) (x4 : Int) (v5 : AV) (h : AH) : run (d + 1) m_Si_question 15 [(104, x0), (0, x1), (0, x2), (0, x3), (0, x4), v5] [] h = (if 12 < x4 then some (x3, h) else (cal d m_Si_greatestPart [(0, x1), (0, x4)] h).bind (fun q1 => (if q1.1 < x2 then run (d + 1) m_Si_question 15 [(104, x0), (0, x1), (0, q1.1), (0, x4), (0, a_add x4 1), (0, q1.1)] [] q1.2 else run (d + 1) m_Si_question 15 [(104, x0), (0, x1), (0, x2), (0, x3), (0, a_add x4 1), (0, q1.1)] [] q1.2))) := (run_blk [15] 27 d m_Si_question 15 _ _ h).trans rfl
set_option maxRecDepth 20000 in
theorem k_Si_greatestPart (d : Nat) (x0 : Int) (x1 : Int) (h : AH) : cal (d + 1) m_Si_greatestPart [(0, x0), (0, x1)] h = run (d + 1) m_Si_greatestPart 4 [(0, x0), (0, x1), (0, 0), (0, 0), (9, 0), (9, 0), (9, 0)] [] h := (cal_blk [4, 15] 10 d m_Si_greatestPart _ h rfl).trans rfl
set_option maxRecDepth 20000 in
theorem k_Si_greatestPart_4 (d : Nat) (x0 : Int) (x1 : Int) (x2 : Int) (x3 : Int) (v4 : AV) (v5 : AV) (v6 : AV) (h : AH) : run (d + 1) m_Si_greatestPart 4 [(0, x0), (0, x1), (0, x2), (0, x3), v4, v5, v6] [] h = (if x3 < 5 then run (d + 1) m_Si_greatestPart 15 [(0, x0), (0, x1), (0, x2), (0, x3), (0, 0), (0, 0), v6] [] h else some (x2, h)) := (run_blk [4, 15] 15 d m_Si_greatestPart 4 _ _ h).trans rfl
set_option maxRecDepth 20000 in
theorem k_Si_greatestPart_15 (d : Nat) (x0 : Int) (x1 : Int) (x2 : Int) (x3 : Int) (x4 : Int) (x5 : Int) (v6 : AV) (h : AH) : run (d + 1) m_Si_greatestPart 15 [(0, x0), (0, x1), (0, x2), (0, x3), (0, x4), (0, x5), v6] [] h = (if x5 < 5 then (if a_and (a_shr x0 x3) 1 = 1 then (if a_and (a_shr x0 x5) 1 = 1 then (cal d m_Si_doAlike [(0, x3), (0, x5), (0, x1)] h).bind (fun q1 => (if q1.1 = 0 then run (d + 1) m_Si_greatestPart 15 [(0, x0), (0, x1), (0, x2), (0, x3), (0, a_add x4 0), (0, a_add x5 1), (0, 1)] [] q1.2 else run (d + 1) m_Si_greatestPart 15 [(0, x0), (0, x1), (0, x2), (0, x3), (0, a_add x4 1), (0, a_add x5 1), (0, 1)] [] q1.2)) else run (d + 1) m_Si_greatestPart 15 [(0, x0), (0, x1), (0, x2), (0, x3), (0, a_add x4 0), (0, a_add x5 1), (0, 0)] [] h) else run (d + 1) m_Si_greatestPart 15 [(0, x0), (0, x1), (0, x2), (0, x3), (0, a_add x4 0), (0, a_add x5 1), (0, 0)] [] h) else run (d + 1) m_Si_greatestPart 4 [(0, x0), (0, x1), (0, a_max x2 x4), (0, a_add x3 1), (0, x4), (0, x5), v6] [] h) := (run_blk [4, 15] 75 d m_Si_greatestPart 15 _ _ h).trans rfl
set_option maxRecDepth 20000 in
theorem k_Si_doAlike (d : Nat) (x0 : Int) (x1 : Int) (x2 : Int) (h : AH) : cal (d + 1) m_Si_doAlike [(0, x0), (0, x1), (0, x2)] h = (cal d m_Ki_lifted [(0, x0), (0, x2)] h).bind (fun q1 => (cal d m_Ki_lifted [(0, x1), (0, x2)] q1.2).bind (fun q2 => (if q1.1 = q2.1 then (cal d m_Ki_takes [(0, x0), (0, x2)] q2.2).bind (fun q3 => (cal d m_Ki_takes [(0, x1), (0, x2)] q3.2).bind (fun q4 => (if q3.1 = q4.1 then (cal d m_Ki_yields [(0, x0), (0, x2)] q4.2).bind (fun q5 => (cal d m_Ki_yields [(0, x1), (0, x2)] q5.2).bind (fun q6 => (if q5.1 = q6.1 then some (1, q6.2) else some (0, q6.2)))) else some (0, q4.2)))) else some (0, q2.2)))) := (cal_blk [] 35 d m_Si_doAlike _ h rfl).trans rfl
set_option maxRecDepth 20000 in
theorem k_Te_init (d : Nat) (x0 : Int) (h : AH) : cal (d + 1) m_Te_init [(105, x0)] h = (wrf 5 (h ++ [(22, List.replicate (Int.toNat 200) 0)]) x0 0 (Int.ofNat (List.length h))).bind (fun h1 => (wrf 5 h1 x0 1 0).bind (fun h2 => (wrf 5 h2 x0 2 0).bind (fun h3 => (wrf 5 h3 x0 3 0).bind (fun h4 => (wrf 5 h4 x0 4 0).bind (fun h5 => some (0, h5)))))) := (cal_blk [] 24 d m_Te_init _ h rfl).trans rfl
set_option maxRecDepth 20000 in
theorem k_Te_add (d : Nat) (x0 : Int) (x1 : Int) (h : AH) : cal (d + 1) m_Te_add [(105, x0), (0, x1)] h = (rdf 5 h x0 1).bind (fun y1 => (if y1 < 200 then (rdr 5 h x0 0).bind (fun y2 => (rdf 5 h x0 1).bind (fun y3 => (wrac 22 h y2 y3 (a_i2c x1)).bind (fun h4 => (rdf 5 h4 x0 1).bind (fun y5 => (wrf 5 h4 x0 1 (a_add y5 1)).bind (fun h6 => some (1, h6)))))) else some (0, h))) := (cal_blk [] 26 d m_Te_add _ h rfl).trans rfl
set_option maxRecDepth 20000 in
theorem k_Te_clear (d : Nat) (x0 : Int) (h : AH) : cal (d + 1) m_Te_clear [(105, x0)] h = (wrf 5 h x0 1 0).bind (fun h1 => some (0, h1)) := (cal_blk [] 9 d m_Te_clear _ h rfl).trans rfl
set_option maxRecDepth 20000 in
theorem k_Te_length (d : Nat) (x0 : Int) (h : AH) : cal (d + 1) m_Te_length [(105, x0)] h = (rdf 5 h x0 1).bind (fun y1 => some (y1, h)) := (cal_blk [] 8 d m_Te_length _ h rfl).trans rfl
set_option maxRecDepth 20000 in
theorem k_Te_clauses (d : Nat) (x0 : Int) (h : AH) : cal (d + 1) m_Te_clauses [(105, x0)] h = (rdf 5 h x0 2).bind (fun y1 => some (y1, h)) := (cal_blk [] 8 d m_Te_clauses _ h rfl).trans rfl
set_option maxRecDepth 20000 in
theorem k_Te_read (d : Nat) (x0 : Int) (x1 : Int) (h : AH) : cal (d + 1) m_Te_read [(105, x0), (100, x1)] h = (wrf 5 h x0 4 0).bind (fun h1 => (wrf 5 h1 x0 2 1).bind (fun h2 => run (d + 1) m_Te_read 10 [(105, x0), (100, x1)] [] h2)) := (cal_blk [10] 12 d m_Te_read _ h rfl).trans rfl
set_option maxRecDepth 20000 in
theorem k_Te_read_10 (d : Nat) (x0 : Int) (x1 : Int) (h : AH) : run (d + 1) m_Te_read 10 [(105, x0), (100, x1)] [] h = (rdf 5 h x0 2).bind (fun y1 => (if 24 < y1 then (rdf 5 h x0 3).bind (fun y2 => some (y2, h)) else (cal d m_Te_readClause [(105, x0), (100, x1)] h).bind (fun q3 => (if q3.1 = 0 then (rdf 5 q3.2 x0 3).bind (fun y4 => some (y4, q3.2)) else (cal d m_Te_advance [(105, x0)] q3.2).bind (fun q5 => (rdf 5 q5.2 x0 3).bind (fun y6 => (rdf 5 q5.2 x0 1).bind (fun y7 => (if y6 < y7 then (rdr 5 q5.2 x0 0).bind (fun y8 => (rdf 5 q5.2 x0 3).bind (fun y9 => (rda 22 q5.2 y8 y9).bind (fun y10 => (if y10 = 59 then (rdf 5 q5.2 x0 2).bind (fun y11 => (wrf 5 q5.2 x0 2 (a_add y11 1)).bind (fun h12 => run (d + 1) m_Te_read 10 [(105, x0), (100, x1)] [] h12)) else (rdf 5 q5.2 x0 3).bind (fun y13 => some (y13, q5.2)))))) else some ((-1), q5.2))))))))) := (run_blk [10] 46 d m_Te_read 10 _ _ h).trans rfl
set_option maxRecDepth 20000 in
theorem k_Te_readClause (d : Nat) (x0 : Int) (x1 : Int) (h : AH) : cal (d + 1) m_Te_readClause [(105, x0), (100, x1)] h = (cal d m_Te_advance [(105, x0)] h).bind (fun q1 => (cal d m_Te_word [(105, x0)] q1.2).bind (fun q2 => (if q2.1 = (-1) then some (0, q2.2) else (cal d m_Bd_houses [(100, x1)] q2.2).bind (fun q3 => (cal d m_Te_readFirst [(105, x0), (0, q2.1), (0, q3.1)] q3.2).bind (fun q4 => (if q4.1 = (-1) then some (0, q4.2) else (cal d m_Te_readSecond [(105, x0), (0, q2.1)] q4.2).bind (fun q5 => (if q5.1 = (-1) then some (0, q5.2) else (cal d m_Te_perform [(100, x1), (0, q2.1), (0, q4.1), (0, q5.1)] q5.2).bind (fun q6 => some (1, q6.2)))))))))) := (cal_blk [] 42 d m_Te_readClause _ h rfl).trans rfl
set_option maxRecDepth 20000 in
theorem k_Te_readFirst (d : Nat) (x0 : Int) (x1 : Int) (x2 : Int) (h : AH) : cal (d + 1) m_Te_readFirst [(105, x0), (0, x1), (0, x2)] h = (if x1 = 5 then (cal d m_Te_readNumber [(105, x0), (0, 2), (0, 5)] h).bind (fun q5 => some (q5.1, q5.2)) else (if x1 = 6 then (cal d m_Te_readNumber [(105, x0), (0, 0), (0, a_sub x2 1)] h).bind (fun q4 => some (q4.1, q4.2)) else (if x1 = 7 then (cal d m_Te_readNumber [(105, x0), (0, 0), (0, 1)] h).bind (fun q3 => some (q3.1, q3.2)) else (if x1 = 8 then (cal d m_Te_readNumber [(105, x0), (0, 0), (0, 1)] h).bind (fun q2 => some (q2.1, q2.2)) else (cal d m_Te_readNumber [(105, x0), (0, 0), (0, a_sub x2 1)] h).bind (fun q1 => some (q1.1, q1.2)))))) := (cal_blk [] 36 d m_Te_readFirst _ h rfl).trans rfl
set_option maxRecDepth 20000 in
theorem k_Te_readSecond (d : Nat) (x0 : Int) (x1 : Int) (h : AH) : cal (d + 1) m_Te_readSecond [(105, x0), (0, x1)] h = (if x1 = 6 then (cal d m_Te_readNumber [(105, x0), (0, 0), (0, 30)] h).bind (fun q2 => some (q2.1, q2.2)) else (if x1 = 7 then (cal d m_Te_readNumber [(105, x0), (0, 0), (0, 99)] h).bind (fun q1 => some (q1.1, q1.2)) else some (0, h))) := (cal_blk [] 19 d m_Te_readSecond _ h rfl).trans rfl
set_option maxRecDepth 20000 in
theorem k_Te_perform (d : Nat) (x0 : Int) (x1 : Int) (x2 : Int) (x3 : Int) (h : AH) : cal (d + 1) m_Te_perform [(100, x0), (0, x1), (0, x2), (0, x3)] h = (if x1 = 5 then (cal d m_Bd_setUp [(100, x0), (0, x2)] h).bind (fun q5 => some (0, q5.2)) else (if x1 = 6 then (cal d m_Bd_setSeeds [(100, x0), (0, x2), (0, x3)] h).bind (fun q4 => some (0, q4.2)) else (if x1 = 7 then (cal d m_Bd_setBarn [(100, x0), (0, x2), (0, x3)] h).bind (fun q3 => some (0, q3.2)) else (if x1 = 8 then (cal d m_Bd_setTurn [(100, x0), (0, x2)] h).bind (fun q2 => some (0, q2.2)) else (cal d m_Bd_setKind [(100, x0), (0, x2), (0, x1)] h).bind (fun q1 => some (0, q1.2)))))) := (cal_blk [] 34 d m_Te_perform _ h rfl).trans rfl
set_option maxRecDepth 20000 in
theorem k_Te_readNumber (d : Nat) (x0 : Int) (x1 : Int) (x2 : Int) (h : AH) : cal (d + 1) m_Te_readNumber [(105, x0), (0, x1), (0, x2)] h = (cal d m_Te_advance [(105, x0)] h).bind (fun q1 => (rdf 5 q1.2 x0 3).bind (fun y2 => (cal d m_Te_isAt [(105, x0), (0, y2), (0, 48), (0, 57)] q1.2).bind (fun q3 => (if q3.1 = 0 then some ((-1), q3.2) else (rdf 5 q3.2 x0 4).bind (fun y4 => (rdf 5 q3.2 x0 3).bind (fun y5 => (if 2 < a_sub y4 y5 then some ((-1), q3.2) else (rdf 5 q3.2 x0 3).bind (fun y6 => run (d + 1) m_Te_readNumber 42 [(105, x0), (0, x1), (0, x2), (0, 0), (0, y6)] [] q3.2)))))))) := (cal_blk [42] 31 d m_Te_readNumber _ h rfl).trans rfl
set_option maxRecDepth 20000 in
theorem k_Te_readNumber_42 (d : Nat) (x0 : Int) (x1 : Int) (x2 : Int) (x3 : Int) (x4 : Int) (h : AH) : run (d + 1) m_Te_readNumber 42 [(105, x0), (0, x1), (0, x2), (0, x3), (0, x4)] [] h = (rdf 5 h x0 4).bind (fun y1 => (if x4 < y1 then (rdr 5 h x0 0).bind (fun y2 => (rda 22 h y2 x4).bind (fun y3 => run (d + 1) m_Te_readNumber 42 [(105, x0), (0, x1), (0, x2), (0, a_sub (a_add (a_mul 10 x3) y3) 48), (0, a_add x4 1)] [] h)) else (cal d m_Ss_isWithin [(0, x3), (0, x1), (0, x2)] h).bind (fun q4 => (if q4.1 = 0 then some ((-1), q4.2) else some (x3, q4.2))))) := (run_blk [42] 33 d m_Te_readNumber 42 _ _ h).trans rfl
set_option maxRecDepth 20000 in
theorem k_Te_word (d : Nat) (x0 : Int) (h : AH) : cal (d + 1) m_Te_word [(105, x0)] h = (cal d m_Te_isWord [(105, x0), (3, 0)] h).bind (fun q1 => (if q1.1 = 0 then (cal d m_Te_isWord [(105, x0), (3, 1)] q1.2).bind (fun q2 => (if q2.1 = 0 then (cal d m_Te_isWord [(105, x0), (3, 2)] q2.2).bind (fun q3 => (if q3.1 = 0 then (cal d m_Te_isWord [(105, x0), (3, 3)] q3.2).bind (fun q4 => (if q4.1 = 0 then (cal d m_Te_isWord [(105, x0), (3, 4)] q4.2).bind (fun q5 => (if q5.1 = 0 then (cal d m_Te_isWord [(105, x0), (3, 5)] q5.2).bind (fun q6 => (if q6.1 = 0 then (cal d m_Te_isWord [(105, x0), (3, 6)] q6.2).bind (fun q7 => (if q7.1 = 0 then (cal d m_Te_isWord [(105, x0), (3, 7)] q7.2).bind (fun q8 => (if q8.1 = 0 then (cal d m_Te_isWord [(105, x0), (3, 8)] q8.2).bind (fun q9 => (if q9.1 = 0 then some ((-1), q9.2) else some (8, q9.2))) else some (7, q8.2))) else some (6, q7.2))) else some (5, q6.2))) else some (4, q5.2))) else some (3, q4.2))) else some (2, q3.2))) else some (1, q2.2))) else some (0, q1.2))) := (cal_blk [] 62 d m_Te_word _ h rfl).trans rfl
set_option maxRecDepth 20000 in
theorem k_Te_isWord (d : Nat) (x0 : Int) (x1 : Int) (h : AH) : cal (d + 1) m_Te_isWord [(105, x0), (3, x1)] h = (rdf 5 h x0 4).bind (fun y1 => (rdf 5 h x0 3).bind (fun y2 => (strl x1).bind (fun y3 => (if a_sub y1 y2 = y3 then run (d + 1) m_Te_isWord 20 [(105, x0), (3, x1), (0, 0)] [] h else some (0, h))))) := (cal_blk [20] 18 d m_Te_isWord _ h rfl).trans rfl
set_option maxRecDepth 20000 in
theorem k_Te_isWord_20 (d : Nat) (x0 : Int) (x1 : Int) (x2 : Int) (h : AH) : run (d + 1) m_Te_isWord 20 [(105, x0), (3, x1), (0, x2)] [] h = (strl x1).bind (fun y1 => (if x2 < y1 then (rdr 5 h x0 0).bind (fun y2 => (rdf 5 h x0 3).bind (fun y3 => (rda 22 h y2 (a_add y3 x2)).bind (fun y4 => (strc x1 x2).bind (fun y5 => (if y4 = y5 then run (d + 1) m_Te_isWord 20 [(105, x0), (3, x1), (0, a_add x2 1)] [] h else some (0, h)))))) else some (1, h))) := (run_blk [20] 27 d m_Te_isWord 20 _ _ h).trans rfl
set_option maxRecDepth 20000 in
theorem k_Te_advance (d : Nat) (x0 : Int) (h : AH) : cal (d + 1) m_Te_advance [(105, x0)] h = (rdf 5 h x0 4).bind (fun y1 => (wrf 5 h x0 3 y1).bind (fun h2 => run (d + 1) m_Te_advance 8 [(105, x0)] [] h2)) := (cal_blk [8, 89, 143] 10 d m_Te_advance _ h rfl).trans rfl
set_option maxRecDepth 20000 in
theorem k_Te_advance_8 (d : Nat) (x0 : Int) (h : AH) : run (d + 1) m_Te_advance 8 [(105, x0)] [] h = (rdf 5 h x0 3).bind (fun y1 => (rdf 5 h x0 1).bind (fun y2 => (if y1 < y2 then (rdr 5 h x0 0).bind (fun y3 => (rdf 5 h x0 3).bind (fun y4 => (rda 22 h y3 y4).bind (fun y5 => (if y5 = 32 then (rdf 5 h x0 3).bind (fun y6 => (wrf 5 h x0 3 (a_add y6 1)).bind (fun h7 => run (d + 1) m_Te_advance 8 [(105, x0)] [] h7)) else (rdf 5 h x0 3).bind (fun y8 => (rdf 5 h x0 1).bind (fun y9 => (if y8 < y9 then (rdf 5 h x0 3).bind (fun y10 => (wrf 5 h x0 4 (a_add y10 1)).bind (fun h11 => (rdf 5 h11 x0 3).bind (fun y12 => (cal d m_Te_isAt [(105, x0), (0, y12), (0, 97), (0, 122)] h11).bind (fun q13 => (if q13.1 = 0 then (rdf 5 q13.2 x0 3).bind (fun y14 => (cal d m_Te_isAt [(105, x0), (0, y14), (0, 48), (0, 57)] q13.2).bind (fun q15 => (if q15.1 = 0 then some (0, q15.2) else run (d + 1) m_Te_advance 143 [(105, x0)] [] q15.2))) else run (d + 1) m_Te_advance 89 [(105, x0)] [] q13.2))))) else (rdf 5 h x0 1).bind (fun y16 => (wrf 5 h x0 4 y16).bind (fun h17 => (rdf 5 h17 x0 3).bind (fun y18 => (cal d m_Te_isAt [(105, x0), (0, y18), (0, 97), (0, 122)] h17).bind (fun q19 => (if q19.1 = 0 then (rdf 5 q19.2 x0 3).bind (fun y20 => (cal d m_Te_isAt [(105, x0), (0, y20), (0, 48), (0, 57)] q19.2).bind (fun q21 => (if q21.1 = 0 then some (0, q21.2) else run (d + 1) m_Te_advance 143 [(105, x0)] [] q21.2))) else run (d + 1) m_Te_advance 89 [(105, x0)] [] q19.2)))))))))))) else (rdf 5 h x0 3).bind (fun y22 => (rdf 5 h x0 1).bind (fun y23 => (if y22 < y23 then (rdf 5 h x0 3).bind (fun y24 => (wrf 5 h x0 4 (a_add y24 1)).bind (fun h25 => (rdf 5 h25 x0 3).bind (fun y26 => (cal d m_Te_isAt [(105, x0), (0, y26), (0, 97), (0, 122)] h25).bind (fun q27 => (if q27.1 = 0 then (rdf 5 q27.2 x0 3).bind (fun y28 => (cal d m_Te_isAt [(105, x0), (0, y28), (0, 48), (0, 57)] q27.2).bind (fun q29 => (if q29.1 = 0 then some (0, q29.2) else run (d + 1) m_Te_advance 143 [(105, x0)] [] q29.2))) else run (d + 1) m_Te_advance 89 [(105, x0)] [] q27.2))))) else (rdf 5 h x0 1).bind (fun y30 => (wrf 5 h x0 4 y30).bind (fun h31 => (rdf 5 h31 x0 3).bind (fun y32 => (cal d m_Te_isAt [(105, x0), (0, y32), (0, 97), (0, 122)] h31).bind (fun q33 => (if q33.1 = 0 then (rdf 5 q33.2 x0 3).bind (fun y34 => (cal d m_Te_isAt [(105, x0), (0, y34), (0, 48), (0, 57)] q33.2).bind (fun q35 => (if q35.1 = 0 then some (0, q35.2) else run (d + 1) m_Te_advance 143 [(105, x0)] [] q35.2))) else run (d + 1) m_Te_advance 89 [(105, x0)] [] q33.2))))))))))) := (run_blk [8, 89, 143] 123 d m_Te_advance 8 _ _ h).trans rfl
set_option maxRecDepth 20000 in
theorem k_Te_advance_89 (d : Nat) (x0 : Int) (h : AH) : run (d + 1) m_Te_advance 89 [(105, x0)] [] h = (rdf 5 h x0 4).bind (fun y1 => (rdf 5 h x0 1).bind (fun y2 => (if y1 < y2 then (rdf 5 h x0 4).bind (fun y3 => (cal d m_Te_isAt [(105, x0), (0, y3), (0, 97), (0, 122)] h).bind (fun q4 => (if q4.1 = 0 then some (0, q4.2) else (rdf 5 q4.2 x0 4).bind (fun y5 => (wrf 5 q4.2 x0 4 (a_add y5 1)).bind (fun h6 => run (d + 1) m_Te_advance 89 [(105, x0)] [] h6))))) else some (0, h)))) := (run_blk [8, 89, 143] 27 d m_Te_advance 89 _ _ h).trans rfl
set_option maxRecDepth 20000 in
theorem k_Te_advance_143 (d : Nat) (x0 : Int) (h : AH) : run (d + 1) m_Te_advance 143 [(105, x0)] [] h = (rdf 5 h x0 4).bind (fun y1 => (rdf 5 h x0 1).bind (fun y2 => (if y1 < y2 then (rdf 5 h x0 4).bind (fun y3 => (cal d m_Te_isAt [(105, x0), (0, y3), (0, 48), (0, 57)] h).bind (fun q4 => (if q4.1 = 0 then some (0, q4.2) else (rdf 5 q4.2 x0 4).bind (fun y5 => (wrf 5 q4.2 x0 4 (a_add y5 1)).bind (fun h6 => run (d + 1) m_Te_advance 143 [(105, x0)] [] h6))))) else some (0, h)))) := (run_blk [8, 89, 143] 27 d m_Te_advance 143 _ _ h).trans rfl
set_option maxRecDepth 20000 in
theorem k_Te_isAt (d : Nat) (x0 : Int) (x1 : Int) (x2 : Int) (x3 : Int) (h : AH) : cal (d + 1) m_Te_isAt [(105, x0), (0, x1), (0, x2), (0, x3)] h = (rdf 5 h x0 1).bind (fun y1 => (if x1 < y1 then (rdr 5 h x0 0).bind (fun y2 => (rda 22 h y2 x1).bind (fun y3 => (if y3 < x2 then some (0, h) else (rdr 5 h x0 0).bind (fun y4 => (rda 22 h y4 x1).bind (fun y5 => (if x3 < y5 then some (0, h) else some (1, h))))))) else some (0, h))) := (cal_blk [] 30 d m_Te_isAt _ h rfl).trans rfl
set_option maxRecDepth 20000 in
theorem k_Ss_init (d : Nat) (x0 : Int) (h : AH) : cal (d + 1) m_Ss_init [(106, x0)] h = (cal d m_Bd_init [(100, Int.ofNat (List.length h))] (h ++ [(0, am_ini 0)])).bind (fun q1 => (wrf 6 q1.2 x0 0 (Int.ofNat (List.length h))).bind (fun h2 => (cal d m_Bd_init [(100, Int.ofNat (List.length h2))] (h2 ++ [(0, am_ini 0)])).bind (fun q3 => (wrf 6 q3.2 x0 1 (Int.ofNat (List.length h2))).bind (fun h4 => (cal d m_Bd_init [(100, Int.ofNat (List.length h4))] (h4 ++ [(0, am_ini 0)])).bind (fun q5 => (wrf 6 q5.2 x0 2 (Int.ofNat (List.length h4))).bind (fun h6 => (wrf 6 (h6 ++ [(24, List.replicate (Int.toNat 8) (-1))]) x0 3 (Int.ofNat (List.length h6))).bind (fun h7 => (wrf 6 (h7 ++ [(24, List.replicate (Int.toNat 2) (-1))]) x0 4 (Int.ofNat (List.length h7))).bind (fun h8 => (wrf 6 (h8 ++ [(21, List.replicate (Int.toNat 2) 0)]) x0 5 (Int.ofNat (List.length h8))).bind (fun h9 => (cal d m_Te_init [(105, Int.ofNat (List.length h9))] (h9 ++ [(5, am_ini 5)])).bind (fun q10 => (wrf 6 q10.2 x0 6 (Int.ofNat (List.length h9))).bind (fun h11 => (cal d m_Fo_init [(103, Int.ofNat (List.length h11))] (h11 ++ [(3, am_ini 3)])).bind (fun q12 => (wrf 6 q12.2 x0 7 (Int.ofNat (List.length h11))).bind (fun h13 => (cal d m_Si_init [(104, Int.ofNat (List.length h13))] (h13 ++ [(4, am_ini 4)])).bind (fun q14 => (wrf 6 q14.2 x0 8 (Int.ofNat (List.length h13))).bind (fun h15 => (cal d m_Bs_init [(102, Int.ofNat (List.length h15))] (h15 ++ [(2, am_ini 2)])).bind (fun q16 => (wrf 6 q16.2 x0 9 (Int.ofNat (List.length h15))).bind (fun h17 => (wrf 6 h17 x0 10 0).bind (fun h18 => run (d + 1) m_Ss_init 112 [(106, x0), (0, 0)] [] h18)))))))))))))))))) := (cal_blk [112, 139] 60 d m_Ss_init _ h rfl).trans rfl
set_option maxRecDepth 20000 in
theorem k_Ss_init_112 (d : Nat) (x0 : Int) (x1 : Int) (h : AH) : run (d + 1) m_Ss_init 112 [(106, x0), (0, x1)] [] h = (if x1 < 8 then (rdr 6 h x0 3).bind (fun y1 => (cal d m_Bd_init [(100, Int.ofNat (List.length h))] (h ++ [(0, am_ini 0)])).bind (fun q2 => (wra 24 q2.2 y1 x1 (Int.ofNat (List.length h))).bind (fun h3 => run (d + 1) m_Ss_init 112 [(106, x0), (0, a_add x1 1)] [] h3))) else run (d + 1) m_Ss_init 139 [(106, x0), (0, 0)] [] h) := (run_blk [112, 139] 21 d m_Ss_init 112 _ _ h).trans rfl
set_option maxRecDepth 20000 in
theorem k_Ss_init_139 (d : Nat) (x0 : Int) (x1 : Int) (h : AH) : run (d + 1) m_Ss_init 139 [(106, x0), (0, x1)] [] h = (if x1 < 2 then (rdr 6 h x0 4).bind (fun y1 => (cal d m_Bd_init [(100, Int.ofNat (List.length h))] (h ++ [(0, am_ini 0)])).bind (fun q2 => (wra 24 q2.2 y1 x1 (Int.ofNat (List.length h))).bind (fun h3 => run (d + 1) m_Ss_init 139 [(106, x0), (0, a_add x1 1)] [] h3))) else some (0, h)) := (run_blk [112, 139] 19 d m_Ss_init 139 _ _ h).trans rfl
set_option maxRecDepth 20000 in
theorem k_Ss_write (d : Nat) (x0 : Int) (x1 : Int) (h : AH) : cal (d + 1) m_Ss_write [(106, x0), (0, x1)] h = (cal d m_Ss_isWithin [(0, x1), (0, 0), (0, 255)] h).bind (fun q1 => (if q1.1 = 0 then some ((-3), q1.2) else (rdr 6 q1.2 x0 6).bind (fun y2 => (cal d m_Te_add [(105, y2), (0, x1)] q1.2).bind (fun q3 => (if q3.1 = 0 then some ((-5), q3.2) else (rdr 6 q3.2 x0 6).bind (fun y4 => (cal d m_Te_length [(105, y4)] q3.2).bind (fun q5 => some (q5.1, q5.2)))))))) := (cal_blk [] 24 d m_Ss_write _ h rfl).trans rfl
set_option maxRecDepth 20000 in
theorem k_Ss_erase (d : Nat) (x0 : Int) (h : AH) : cal (d + 1) m_Ss_erase [(106, x0)] h = (rdr 6 h x0 6).bind (fun y1 => (cal d m_Te_length [(105, y1)] h).bind (fun q2 => (rdr 6 q2.2 x0 6).bind (fun y3 => (cal d m_Te_clear [(105, y3)] q2.2).bind (fun q4 => some (q2.1, q4.2))))) := (cal_blk [] 14 d m_Ss_erase _ h rfl).trans rfl
set_option maxRecDepth 20000 in
theorem k_Ss_fault (d : Nat) (x0 : Int) (h : AH) : cal (d + 1) m_Ss_fault [(106, x0)] h = (rdr 6 h x0 1).bind (fun y1 => (rdr 6 h x0 0).bind (fun y2 => (cal d m_Bd_copy [(100, y1), (100, y2)] h).bind (fun q3 => (rdr 6 q3.2 x0 6).bind (fun y4 => (rdr 6 q3.2 x0 1).bind (fun y5 => (cal d m_Te_read [(105, y4), (100, y5)] q3.2).bind (fun q6 => some (q6.1, q6.2))))))) := (cal_blk [] 16 d m_Ss_fault _ h rfl).trans rfl
set_option maxRecDepth 20000 in
theorem k_Ss_board (d : Nat) (x0 : Int) (h : AH) : cal (d + 1) m_Ss_board [(106, x0)] h = (rdr 6 h x0 1).bind (fun y1 => (rdr 6 h x0 0).bind (fun y2 => (cal d m_Bd_copy [(100, y1), (100, y2)] h).bind (fun q3 => (rdr 6 q3.2 x0 6).bind (fun y4 => (rdr 6 q3.2 x0 1).bind (fun y5 => (cal d m_Te_read [(105, y4), (100, y5)] q3.2).bind (fun q6 => (if q6.1 = (-1) then (rdr 6 q6.2 x0 0).bind (fun y7 => (rdr 6 q6.2 x0 1).bind (fun y8 => (cal d m_Bd_copy [(100, y7), (100, y8)] q6.2).bind (fun q9 => (rdr 6 q9.2 x0 2).bind (fun y10 => (rdr 6 q9.2 x0 0).bind (fun y11 => (cal d m_Bd_copy [(100, y10), (100, y11)] q9.2).bind (fun q12 => (wrf 6 q12.2 x0 10 0).bind (fun h13 => run (d + 1) m_Ss_board 58 [(106, x0), (0, 0)] [] h13))))))) else some ((-4), q6.2)))))))) := (cal_blk [58] 35 d m_Ss_board _ h rfl).trans rfl
set_option maxRecDepth 20000 in
theorem k_Ss_board_58 (d : Nat) (x0 : Int) (x1 : Int) (h : AH) : run (d + 1) m_Ss_board 58 [(106, x0), (0, x1)] [] h = (if x1 < 2 then (rdr 6 h x0 5).bind (fun y1 => (wrab 21 h y1 x1 0).bind (fun h2 => run (d + 1) m_Ss_board 58 [(106, x0), (0, a_add x1 1)] [] h2)) else (rdr 6 h x0 8).bind (fun y3 => (cal d m_Si_clear [(104, y3)] h).bind (fun q4 => (rdr 6 q4.2 x0 9).bind (fun y5 => (cal d m_Bs_clear [(102, y5)] q4.2).bind (fun q6 => (rdr 6 q6.2 x0 6).bind (fun y7 => (cal d m_Te_clear [(105, y7)] q6.2).bind (fun q8 => (rdr 6 q8.2 x0 6).bind (fun y9 => (cal d m_Te_clauses [(105, y9)] q8.2).bind (fun q10 => some (q10.1, q10.2)))))))))) := (run_blk [58] 29 d m_Ss_board 58 _ _ h).trans rfl
set_option maxRecDepth 20000 in
theorem k_Ss_house (d : Nat) (x0 : Int) (x1 : Int) (x2 : Int) (h : AH) : cal (d + 1) m_Ss_house [(106, x0), (0, x1), (0, x2)] h = (rdr 6 h x0 2).bind (fun y1 => (cal d m_Bd_has [(100, y1), (0, x1)] h).bind (fun q2 => (if q2.1 = 0 then some ((-2), q2.2) else (if x2 = 0 then (rdr 6 q2.2 x0 2).bind (fun y11 => (cal d m_Bd_kind [(100, y11), (0, x1)] q2.2).bind (fun q12 => some (q12.1, q12.2))) else (if x2 = 1 then (rdr 6 q2.2 x0 2).bind (fun y9 => (cal d m_Bd_seeds [(100, y9), (0, x1)] q2.2).bind (fun q10 => some (q10.1, q10.2))) else (if x2 = 2 then (rdr 6 q2.2 x0 2).bind (fun y7 => (cal d m_Bd_lifted [(100, y7), (0, x1)] q2.2).bind (fun q8 => some (q8.1, q8.2))) else (if x2 = 3 then (rdr 6 q2.2 x0 2).bind (fun y5 => (cal d m_Bd_takes [(100, y5), (0, x1)] q2.2).bind (fun q6 => (if q6.1 = 0 then some (0, q6.2) else some (1, q6.2)))) else (if x2 = 4 then (rdr 6 q2.2 x0 2).bind (fun y3 => (cal d m_Bd_yields [(100, y3), (0, x1)] q2.2).bind (fun q4 => (if q4.1 = 0 then some (0, q4.2) else some (1, q4.2)))) else some ((-3), q2.2))))))))) := (cal_blk [] 51 d m_Ss_house _ h rfl).trans rfl
set_option maxRecDepth 20000 in
theorem k_Ss_as (d : Nat) (x0 : Int) (x1 : Int) (x2 : Int) (h : AH) : cal (d + 1) m_Ss_as [(106, x0), (0, x1), (0, x2)] h = (rdr 6 h x0 2).bind (fun y1 => (cal d m_Bd_has [(100, y1), (0, x1)] h).bind (fun q2 => (if q2.1 = 0 then some ((-2), q2.2) else (cal d m_Ss_isWithin [(0, x2), (0, 0), (0, 5)] q2.2).bind (fun q3 => (if q3.1 = 0 then some ((-3), q3.2) else (rdr 6 q3.2 x0 2).bind (fun y4 => (cal d m_Bd_kind [(100, y4), (0, x1)] q3.2).bind (fun q5 => (cal d m_Ki_isUnder [(0, q5.1), (0, x2)] q5.2).bind (fun q6 => (if q6.1 = 0 then some ((-4), q6.2) else (rdr 6 q6.2 x0 2).bind (fun y7 => (cal d m_Bd_kind [(100, y7), (0, x1)] q6.2).bind (fun q8 => (cal d m_Ki_lifted [(0, q8.1), (0, 7)] q8.2).bind (fun q9 => some (q9.1, q9.2))))))))))))) := (cal_blk [] 36 d m_Ss_as _ h rfl).trans rfl
set_option maxRecDepth 20000 in
theorem k_Ss_move (d : Nat) (x0 : Int) (x1 : Int) (h : AH) : cal (d + 1) m_Ss_move [(106, x0), (0, x1)] h = (rdr 6 h x0 2).bind (fun y1 => (cal d m_Bd_has [(100, y1), (0, x1)] h).bind (fun q2 => (if q2.1 = 0 then some ((-2), q2.2) else (rdr 6 q2.2 x0 2).bind (fun y3 => (cal d m_Bd_goes [(100, y3), (0, x1)] q2.2).bind (fun q4 => (if q4.1 = 0 then some ((-4), q4.2) else (rdr 6 q4.2 x0 2).bind (fun y5 => (cal d m_Bd_moves [(100, y5)] q4.2).bind (fun q6 => (if q6.1 < 999 then (cal d m_Ss_remember [(106, x0)] q6.2).bind (fun q7 => (rdr 6 q7.2 x0 2).bind (fun y8 => (cal d m_Bd_sow [(100, y8), (0, x1)] q7.2).bind (fun q9 => some (q9.1, q9.2)))) else some ((-5), q6.2)))))))))) := (cal_blk [] 33 d m_Ss_move _ h rfl).trans rfl
set_option maxRecDepth 20000 in
theorem k_Ss_drop (d : Nat) (x0 : Int) (x1 : Int) (x2 : Int) (h : AH) : cal (d + 1) m_Ss_drop [(106, x0), (0, x1), (0, x2)] h = (rdr 6 h x0 2).bind (fun y1 => (cal d m_Bd_has [(100, y1), (0, x1)] h).bind (fun q2 => (if q2.1 = 0 then some ((-2), q2.2) else (cal d m_Ss_isWithin [(0, x2), (0, 1), (0, 30)] q2.2).bind (fun q3 => (if q3.1 = 0 then some ((-3), q3.2) else (rdr 6 q3.2 x0 2).bind (fun y4 => (cal d m_Bd_seeds [(100, y4), (0, x1)] q3.2).bind (fun q5 => (if q5.1 < 99 then (cal d m_Ss_remember [(106, x0)] q5.2).bind (fun q6 => (rdr 6 q6.2 x0 2).bind (fun y7 => (cal d m_Bd_give [(100, y7), (0, x1), (0, x2)] q6.2).bind (fun q8 => (rdr 6 q8.2 x0 2).bind (fun y9 => (cal d m_Bd_seeds [(100, y9), (0, x1)] q8.2).bind (fun q10 => some (q10.1, q10.2)))))) else some ((-4), q5.2))))))))) := (cal_blk [] 39 d m_Ss_drop _ h rfl).trans rfl
set_option maxRecDepth 20000 in
theorem k_Ss_swap (d : Nat) (x0 : Int) (x1 : Int) (x2 : Int) (h : AH) : cal (d + 1) m_Ss_swap [(106, x0), (0, x1), (0, x2)] h = (rdr 6 h x0 2).bind (fun y1 => (cal d m_Bd_has [(100, y1), (0, x1)] h).bind (fun q2 => (if q2.1 = 0 then some ((-2), q2.2) else (rdr 6 q2.2 x0 2).bind (fun y3 => (cal d m_Bd_has [(100, y3), (0, x2)] q2.2).bind (fun q4 => (if q4.1 = 0 then some ((-2), q4.2) else (if x1 = x2 then some ((-2), q4.2) else (rdr 6 q4.2 x0 2).bind (fun y5 => (cal d m_Bd_kind [(100, y5), (0, x1)] q4.2).bind (fun q6 => (rdr 6 q6.2 x0 2).bind (fun y7 => (cal d m_Bd_kind [(100, y7), (0, x2)] q6.2).bind (fun q8 => (if q6.1 = q8.1 then some ((-4), q8.2) else (cal d m_Ss_remember [(106, x0)] q8.2).bind (fun q9 => (rdr 6 q9.2 x0 2).bind (fun y10 => (cal d m_Bd_exchangeKinds [(100, y10), (0, x1), (0, x2)] q9.2).bind (fun q11 => (rdr 6 q11.2 x0 2).bind (fun y12 => (cal d m_Bd_kind [(100, y12), (0, x1)] q11.2).bind (fun q13 => some (q13.1, q13.2)))))))))))))))))) := (cal_blk [] 47 d m_Ss_swap _ h rfl).trans rfl
set_option maxRecDepth 20000 in
theorem k_Ss_undo (d : Nat) (x0 : Int) (h : AH) : cal (d + 1) m_Ss_undo [(106, x0)] h = (rdf 6 h x0 10).bind (fun y1 => (if 0 < y1 then (rdf 6 h x0 10).bind (fun y2 => (wrf 6 h x0 10 (a_sub y2 1)).bind (fun h3 => (rdr 6 h3 x0 2).bind (fun y4 => (rdr 6 h3 x0 3).bind (fun y5 => (rdf 6 h3 x0 10).bind (fun y6 => (rdar 24 h3 y5 y6).bind (fun y7 => (cal d m_Bd_copy [(100, y4), (100, y7)] h3).bind (fun q8 => (rdf 6 q8.2 x0 10).bind (fun y9 => some (y9, q8.2))))))))) else some ((-4), h))) := (cal_blk [] 27 d m_Ss_undo _ h rfl).trans rfl
set_option maxRecDepth 20000 in
theorem k_Ss_keep (d : Nat) (x0 : Int) (x1 : Int) (h : AH) : cal (d + 1) m_Ss_keep [(106, x0), (0, x1)] h = (cal d m_Ss_isWithin [(0, x1), (0, 0), (0, 1)] h).bind (fun q1 => (if q1.1 = 0 then some ((-2), q1.2) else (rdr 6 q1.2 x0 4).bind (fun y2 => (rdar 24 q1.2 y2 x1).bind (fun y3 => (rdr 6 q1.2 x0 2).bind (fun y4 => (cal d m_Bd_copy [(100, y3), (100, y4)] q1.2).bind (fun q5 => (rdr 6 q5.2 x0 5).bind (fun y6 => (wrab 21 q5.2 y6 x1 1).bind (fun h7 => (rdr 6 h7 x0 2).bind (fun y8 => (cal d m_Bd_moves [(100, y8)] h7).bind (fun q9 => some (q9.1, q9.2))))))))))) := (cal_blk [] 28 d m_Ss_keep _ h rfl).trans rfl
set_option maxRecDepth 20000 in
theorem k_Ss_back (d : Nat) (x0 : Int) (x1 : Int) (h : AH) : cal (d + 1) m_Ss_back [(106, x0), (0, x1)] h = (cal d m_Ss_isWithin [(0, x1), (0, 0), (0, 1)] h).bind (fun q1 => (if q1.1 = 0 then some ((-2), q1.2) else (rdr 6 q1.2 x0 5).bind (fun y2 => (rda 21 q1.2 y2 x1).bind (fun y3 => (if y3 = 0 then some ((-4), q1.2) else (rdr 6 q1.2 x0 2).bind (fun y4 => (rdr 6 q1.2 x0 4).bind (fun y5 => (rdar 24 q1.2 y5 x1).bind (fun y6 => (cal d m_Bd_copy [(100, y4), (100, y6)] q1.2).bind (fun q7 => (wrf 6 q7.2 x0 10 0).bind (fun h8 => (rdr 6 h8 x0 2).bind (fun y9 => (cal d m_Bd_moves [(100, y9)] h8).bind (fun q10 => some (q10.1, q10.2))))))))))))) := (cal_blk [] 33 d m_Ss_back _ h rfl).trans rfl
set_option maxRecDepth 20000 in
theorem k_Ss_brings (d : Nat) (x0 : Int) (x1 : Int) (h : AH) : cal (d + 1) m_Ss_brings [(106, x0), (0, x1)] h = (rdr 6 h x0 2).bind (fun y1 => (cal d m_Bd_has [(100, y1), (0, x1)] h).bind (fun q2 => (if q2.1 = 0 then some ((-2), q2.2) else (rdr 6 q2.2 x0 2).bind (fun y3 => (cal d m_Bd_goes [(100, y3), (0, x1)] q2.2).bind (fun q4 => (if q4.1 = 0 then some ((-4), q4.2) else (rdr 6 q4.2 x0 7).bind (fun y5 => (rdr 6 q4.2 x0 2).bind (fun y6 => (cal d m_Fo_broughtBy [(103, y5), (100, y6), (0, x1)] q4.2).bind (fun q7 => some (q7.1, q7.2)))))))))) := (cal_blk [] 27 d m_Ss_brings _ h rfl).trans rfl
set_option maxRecDepth 20000 in
theorem k_Ss_best (d : Nat) (x0 : Int) (x1 : Int) (x2 : Int) (h : AH) : cal (d + 1) m_Ss_best [(106, x0), (0, x1), (0, x2)] h = (cal d m_Ss_isWithin [(0, x1), (0, 1), (0, 5)] h).bind (fun q1 => (if q1.1 = 0 then some ((-3), q1.2) else (cal d m_Ss_isWithin [(0, x2), (0, (-1)), (0, 4)] q1.2).bind (fun q2 => (if q2.1 = 0 then some ((-3), q2.2) else (if x2 = (-1) then (rdr 6 q2.2 x0 7).bind (fun y3 => (rdr 6 q2.2 x0 2).bind (fun y4 => (cal d m_Fo_bestLead [(103, y3), (100, y4), (0, x1)] q2.2).bind (fun q5 => some (a_add 5000 q5.1, q5.2)))) else (rdr 6 q2.2 x0 7).bind (fun y6 => (rdr 6 q2.2 x0 2).bind (fun y7 => (cal d m_Fo_lineMove [(103, y6), (100, y7), (0, x1), (0, x2)] q2.2).bind (fun q8 => some (q8.1, q8.2))))))))) := (cal_blk [] 40 d m_Ss_best _ h rfl).trans rfl
set_option maxRecDepth 20000 in
theorem k_Ss_rash (d : Nat) (x0 : Int) (x1 : Int) (h : AH) : cal (d + 1) m_Ss_rash [(106, x0), (0, x1)] h = (cal d m_Ss_isWithin [(0, x1), (0, 0), (0, 40)] h).bind (fun q1 => (if q1.1 = 0 then some ((-3), q1.2) else (rdr 6 q1.2 x0 7).bind (fun y2 => (rdr 6 q1.2 x0 2).bind (fun y3 => (cal d m_Fo_rashBoard [(103, y2), (100, y3), (0, x1)] q1.2).bind (fun q4 => (cal d m_Bd_lead [(100, q4.1), (0, 0)] q4.2).bind (fun q5 => some (a_add 5000 q5.1, q5.2))))))) := (cal_blk [] 23 d m_Ss_rash _ h rfl).trans rfl
set_option maxRecDepth 20000 in
theorem k_Ss_over (d : Nat) (x0 : Int) (h : AH) : cal (d + 1) m_Ss_over [(106, x0)] h = (rdr 6 h x0 7).bind (fun y1 => (rdr 6 h x0 2).bind (fun y2 => (cal d m_Fo_rashBoard [(103, y1), (100, y2), (0, 60)] h).bind (fun q3 => (cal d m_Bd_goingBits [(100, q3.1)] q3.2).bind (fun q4 => (if q4.1 = 0 then (cal d m_Bd_moves [(100, q3.1)] q4.2).bind (fun q5 => (rdr 6 q5.2 x0 2).bind (fun y6 => (cal d m_Bd_moves [(100, y6)] q5.2).bind (fun q7 => some (a_sub q5.1 q7.1, q7.2)))) else some ((-1), q4.2)))))) := (cal_blk [] 25 d m_Ss_over _ h rfl).trans rfl
set_option maxRecDepth 20000 in
theorem k_Ss_gift (d : Nat) (x0 : Int) (x1 : Int) (h : AH) : cal (d + 1) m_Ss_gift [(106, x0), (0, x1)] h = (cal d m_Ss_isWithin [(0, x1), (0, 1), (0, 4)] h).bind (fun q1 => (if q1.1 = 0 then some ((-3), q1.2) else (rdr 6 q1.2 x0 7).bind (fun y2 => (rdr 6 q1.2 x0 2).bind (fun y3 => (cal d m_Fo_bestGift [(103, y2), (100, y3), (0, x1)] q1.2).bind (fun q4 => some (q4.1, q4.2)))))) := (cal_blk [] 19 d m_Ss_gift _ h rfl).trans rfl
set_option maxRecDepth 20000 in
theorem k_Ss_luck (d : Nat) (x0 : Int) (x1 : Int) (x2 : Int) (h : AH) : cal (d + 1) m_Ss_luck [(106, x0), (0, x1), (0, x2)] h = (cal d m_Ss_isWithin [(0, x1), (0, 1), (0, 3)] h).bind (fun q1 => (if q1.1 = 0 then some ((-3), q1.2) else (cal d m_Ss_isWithin [(0, x2), (0, 0), (0, 1)] q1.2).bind (fun q2 => (if q2.1 = 0 then some ((-3), q2.2) else (rdr 6 q2.2 x0 7).bind (fun y3 => (rdr 6 q2.2 x0 2).bind (fun y4 => (cal d m_Fo_odds [(103, y3), (100, y4), (0, x1), (0, x2)] q2.2).bind (fun q5 => some (q5.1, q5.2)))))))) := (cal_blk [] 27 d m_Ss_luck _ h rfl).trans rfl
set_option maxRecDepth 20000 in
theorem k_Ss_seen (d : Nat) (x0 : Int) (x1 : Int) (x2 : Int) (x3 : Int) (x4 : Int) (h : AH) : cal (d + 1) m_Ss_seen [(106, x0), (0, x1), (0, x2), (0, x3), (0, x4)] h = (cal d m_Ss_isWithin [(0, x1), (0, 0), (0, 20)] h).bind (fun q1 => (if q1.1 = 0 then some ((-3), q1.2) else (cal d m_Ss_isWithin [(0, x2), (0, 0), (0, 20)] q1.2).bind (fun q2 => (if q2.1 = 0 then some ((-3), q2.2) else (cal d m_Ss_isWithin [(0, x3), (0, 0), (0, 1)] q2.2).bind (fun q3 => (if q3.1 = 0 then some ((-3), q3.2) else (cal d m_Ss_isWithin [(0, x4), (0, 0), (0, 1)] q3.2).bind (fun q4 => (if q4.1 = 0 then some ((-3), q4.2) else (rdr 6 q4.2 x0 8).bind (fun y5 => (if x3 = 1 then (if x4 = 1 then (cal d m_Si_add [(104, y5), (0, x1), (0, x2), (0, 1), (0, 1)] q4.2).bind (fun q6 => (if q6.1 = 0 then some ((-5), q6.2) else (rdr 6 q6.2 x0 8).bind (fun y7 => (cal d m_Si_size [(104, y7)] q6.2).bind (fun q8 => some (q8.1, q8.2))))) else (cal d m_Si_add [(104, y5), (0, x1), (0, x2), (0, 1), (0, 0)] q4.2).bind (fun q9 => (if q9.1 = 0 then some ((-5), q9.2) else (rdr 6 q9.2 x0 8).bind (fun y10 => (cal d m_Si_size [(104, y10)] q9.2).bind (fun q11 => some (q11.1, q11.2)))))) else (if x4 = 1 then (cal d m_Si_add [(104, y5), (0, x1), (0, x2), (0, 0), (0, 1)] q4.2).bind (fun q12 => (if q12.1 = 0 then some ((-5), q12.2) else (rdr 6 q12.2 x0 8).bind (fun y13 => (cal d m_Si_size [(104, y13)] q12.2).bind (fun q14 => some (q14.1, q14.2))))) else (cal d m_Si_add [(104, y5), (0, x1), (0, x2), (0, 0), (0, 0)] q4.2).bind (fun q15 => (if q15.1 = 0 then some ((-5), q15.2) else (rdr 6 q15.2 x0 8).bind (fun y16 => (cal d m_Si_size [(104, y16)] q15.2).bind (fun q17 => some (q17.1, q17.2)))))))))))))))) := (cal_blk [] 91 d m_Ss_seen _ h rfl).trans rfl
set_option maxRecDepth 20000 in
theorem k_Ss_forget (d : Nat) (x0 : Int) (h : AH) : cal (d + 1) m_Ss_forget [(106, x0)] h = (rdr 6 h x0 8).bind (fun y1 => (cal d m_Si_size [(104, y1)] h).bind (fun q2 => (rdr 6 q2.2 x0 8).bind (fun y3 => (cal d m_Si_clear [(104, y3)] q2.2).bind (fun q4 => some (q2.1, q4.2))))) := (cal_blk [] 14 d m_Ss_forget _ h rfl).trans rfl
set_option maxRecDepth 20000 in
theorem k_Ss_kinds (d : Nat) (x0 : Int) (h : AH) : cal (d + 1) m_Ss_kinds [(106, x0)] h = (rdr 6 h x0 8).bind (fun y1 => (cal d m_Si_possible [(104, y1)] h).bind (fun q2 => some (q2.1, q2.2))) := (cal_blk [] 9 d m_Ss_kinds _ h rfl).trans rfl
set_option maxRecDepth 20000 in
theorem k_Ss_ask (d : Nat) (x0 : Int) (h : AH) : cal (d + 1) m_Ss_ask [(106, x0)] h = (rdr 6 h x0 8).bind (fun y1 => (cal d m_Si_question [(104, y1)] h).bind (fun q2 => some (q2.1, q2.2))) := (cal_blk [] 9 d m_Ss_ask _ h rfl).trans rfl
set_option maxRecDepth 20000 in
theorem k_Ss_box (d : Nat) (x0 : Int) (x1 : Int) (x2 : Int) (h : AH) : cal (d + 1) m_Ss_box [(106, x0), (0, x1), (0, x2)] h = (rdr 6 h x0 9).bind (fun y1 => (cal d m_Bs_has [(102, y1), (0, x1)] h).bind (fun q2 => (if q2.1 = 0 then some ((-2), q2.2) else (if 4 < x2 then some ((-3), q2.2) else (if x2 < 0 then some ((-16), q2.2) else (rdr 6 q2.2 x0 9).bind (fun y3 => (cal d m_Bs_make [(102, y3), (0, x1), (0, x2)] q2.2).bind (fun q4 => some (x2, q4.2)))))))) := (cal_blk [] 28 d m_Ss_box _ h rfl).trans rfl
set_option maxRecDepth 20000 in
theorem k_Ss_put (d : Nat) (x0 : Int) (x1 : Int) (x2 : Int) (x3 : Int) (h : AH) : cal (d + 1) m_Ss_put [(106, x0), (0, x1), (0, x2), (0, x3)] h = (if x2 = 1 then (rdr 6 h x0 2).bind (fun y1 => (cal d m_Bd_has [(100, y1), (0, x3)] h).bind (fun q2 => (if q2.1 = 0 then (if x2 = 2 then (rdr 6 q2.2 x0 9).bind (fun y3 => (cal d m_Bs_has [(102, y3), (0, x3)] q2.2).bind (fun q4 => (if q4.1 = 0 then (rdr 6 q4.2 x0 9).bind (fun y5 => (cal d m_Bs_has [(102, y5), (0, x1)] q4.2).bind (fun q6 => (if q6.1 = 0 then some ((-2), q6.2) else some ((-2), q6.2)))) else run (d + 1) m_Ss_put 43 [(106, x0), (0, x1), (0, x2), (0, x3), (0, 1), (9, 0), (9, 0)] [] q4.2))) else run (d + 1) m_Ss_put 43 [(106, x0), (0, x1), (0, x2), (0, x3), (0, 1), (9, 0), (9, 0)] [] q2.2) else run (d + 1) m_Ss_put 20 [(106, x0), (0, x1), (0, x2), (0, x3), (9, 0), (9, 0), (9, 0)] [] q2.2))) else run (d + 1) m_Ss_put 20 [(106, x0), (0, x1), (0, x2), (0, x3), (9, 0), (9, 0), (9, 0)] [] h) := (cal_blk [20, 43] 42 d m_Ss_put _ h rfl).trans rfl
set_option maxRecDepth 20000 in
theorem k_Ss_put_20 (d : Nat) (x0 : Int) (x1 : Int) (x2 : Int) (x3 : Int) (v4 : AV) (v5 : AV) (v6 : AV) (h : AH) : run (d + 1) m_Ss_put 20 [(106, x0), (0, x1), (0, x2), (0, x3), v4, v5, v6] [] h = (if x2 = 2 then (rdr 6 h x0 9).bind (fun y1 => (cal d m_Bs_has [(102, y1), (0, x3)] h).bind (fun q2 => (if q2.1 = 0 then (rdr 6 q2.2 x0 9).bind (fun y3 => (cal d m_Bs_has [(102, y3), (0, x1)] q2.2).bind (fun q4 => (if q4.1 = 0 then some ((-2), q4.2) else some ((-2), q4.2)))) else run (d + 1) m_Ss_put 43 [(106, x0), (0, x1), (0, x2), (0, x3), (0, 0), v5, v6] [] q2.2))) else run (d + 1) m_Ss_put 43 [(106, x0), (0, x1), (0, x2), (0, x3), (0, 0), v5, v6] [] h) := (run_blk [20, 43] 33 d m_Ss_put 20 _ _ h).trans rfl
set_option maxRecDepth 20000 in
theorem k_Ss_put_43 (d : Nat) (x0 : Int) (x1 : Int) (x2 : Int) (x3 : Int) (x4 : Int) (v5 : AV) (v6 : AV) (h : AH) : run (d + 1) m_Ss_put 43 [(106, x0), (0, x1), (0, x2), (0, x3), (0, x4), v5, v6] [] h = (rdr 6 h x0 9).bind (fun y1 => (cal d m_Bs_has [(102, y1), (0, x1)] h).bind (fun q2 => (if q2.1 = 0 then some ((-2), q2.2) else (if x4 = 0 then (if x2 = 0 then (cal d m_Ss_isWithin [(0, x3), (0, (-9999)), (0, 9999)] q2.2).bind (fun q3 => (if q3.1 = 0 then (cal d m_Ss_isWithin [(0, x2), (0, 0), (0, 2)] q3.2).bind (fun q4 => (if q4.1 = 0 then some ((-3), q4.2) else some ((-3), q4.2))) else (cal d m_Ss_isWithin [(0, x2), (0, 0), (0, 2)] q3.2).bind (fun q5 => (if q5.1 = 0 then some ((-3), q5.2) else (rdr 6 q5.2 x0 9).bind (fun y6 => (cal d m_Bs_lay [(102, y6), (0, x1), (0, x2), (0, x3)] q5.2).bind (fun q7 => some (q7.1, q7.2))))))) else (cal d m_Ss_isWithin [(0, x2), (0, 0), (0, 2)] q2.2).bind (fun q8 => (if q8.1 = 0 then some ((-3), q8.2) else (rdr 6 q8.2 x0 9).bind (fun y9 => (cal d m_Bs_lay [(102, y9), (0, x1), (0, x2), (0, x3)] q8.2).bind (fun q10 => some (q10.1, q10.2)))))) else some ((-2), q2.2))))) := (run_blk [20, 43] 77 d m_Ss_put 43 _ _ h).trans rfl
set_option maxRecDepth 20000 in
theorem k_Ss_take (d : Nat) (x0 : Int) (x1 : Int) (x2 : Int) (h : AH) : cal (d + 1) m_Ss_take [(106, x0), (0, x1), (0, x2)] h = (rdr 6 h x0 9).bind (fun y1 => (cal d m_Bs_has [(102, y1), (0, x1)] h).bind (fun q2 => (if q2.1 = 0 then some ((-2), q2.2) else (cal d m_Ss_isWithin [(0, x2), (0, 0), (0, 2)] q2.2).bind (fun q3 => (if q3.1 = 0 then some ((-3), q3.2) else (rdr 6 q3.2 x0 9).bind (fun y4 => (cal d m_Bs_lift [(102, y4), (0, x1), (0, x2)] q3.2).bind (fun q5 => some (q5.1, q5.2)))))))) := (cal_blk [] 25 d m_Ss_take _ h rfl).trans rfl
set_option maxRecDepth 20000 in
theorem k_Ss_spill (d : Nat) (x0 : Int) (x1 : Int) (h : AH) : cal (d + 1) m_Ss_spill [(106, x0), (0, x1)] h = (rdr 6 h x0 9).bind (fun y1 => (cal d m_Bs_has [(102, y1), (0, x1)] h).bind (fun q2 => (if q2.1 = 0 then some ((-2), q2.2) else (rdr 6 q2.2 x0 9).bind (fun y3 => (cal d m_Bs_pour [(102, y3), (0, x1)] q2.2).bind (fun q4 => some (q4.1, q4.2)))))) := (cal_blk [] 18 d m_Ss_spill _ h rfl).trans rfl
set_option maxRecDepth 20000 in
theorem k_Ss_deep (d : Nat) (x0 : Int) (x1 : Int) (x2 : Int) (h : AH) : cal (d + 1) m_Ss_deep [(106, x0), (0, x1), (0, x2)] h = (rdr 6 h x0 9).bind (fun y1 => (cal d m_Bs_has [(102, y1), (0, x1)] h).bind (fun q2 => (if q2.1 = 0 then some ((-2), q2.2) else (cal d m_Ss_isWithin [(0, x2), (0, 0), (0, 4)] q2.2).bind (fun q3 => (if q3.1 = 0 then some ((-3), q3.2) else (rdr 6 q3.2 x0 9).bind (fun y4 => (cal d m_Bs_isThere [(102, y4), (0, x1)] q3.2).bind (fun q5 => (if q5.1 = 0 then some ((-11), q5.2) else (rdr 6 q5.2 x0 9).bind (fun y6 => (cal d m_Bs_throughout [(102, y6), (0, x1), (0, x2)] q5.2).bind (fun q7 => some (q7.1, q7.2))))))))))) := (cal_blk [] 33 d m_Ss_deep _ h rfl).trans rfl
set_option maxRecDepth 20000 in
theorem k_Ss_alike (d : Nat) (x0 : Int) (x1 : Int) (x2 : Int) (h : AH) : cal (d + 1) m_Ss_alike [(106, x0), (0, x1), (0, x2)] h = (rdr 6 h x0 9).bind (fun y1 => (cal d m_Bs_has [(102, y1), (0, x1)] h).bind (fun q2 => (if q2.1 = 0 then some ((-2), q2.2) else (rdr 6 q2.2 x0 9).bind (fun y3 => (cal d m_Bs_has [(102, y3), (0, x2)] q2.2).bind (fun q4 => (if q4.1 = 0 then some ((-2), q4.2) else (rdr 6 q4.2 x0 9).bind (fun y5 => (cal d m_Bs_isThere [(102, y5), (0, x1)] q4.2).bind (fun q6 => (if q6.1 = 0 then some ((-11), q6.2) else (rdr 6 q6.2 x0 9).bind (fun y7 => (cal d m_Bs_isThere [(102, y7), (0, x2)] q6.2).bind (fun q8 => (if q8.1 = 0 then some ((-11), q8.2) else (rdr 6 q8.2 x0 9).bind (fun y9 => (cal d m_Bs_holdSame [(102, y9), (0, x1), (0, x2)] q8.2).bind (fun q10 => (if q10.1 = 0 then some (0, q10.2) else some (1, q10.2)))))))))))))))) := (cal_blk [] 44 d m_Ss_alike _ h rfl).trans rfl
set_option maxRecDepth 20000 in
theorem k_Ss_lose (d : Nat) (x0 : Int) (x1 : Int) (h : AH) : cal (d + 1) m_Ss_lose [(106, x0), (0, x1)] h = (rdr 6 h x0 9).bind (fun y1 => (cal d m_Bs_has [(102, y1), (0, x1)] h).bind (fun q2 => (if q2.1 = 0 then some ((-2), q2.2) else (rdr 6 q2.2 x0 9).bind (fun y3 => (cal d m_Bs_isThere [(102, y3), (0, x1)] q2.2).bind (fun q4 => (if q4.1 = 0 then some ((-11), q4.2) else (rdr 6 q4.2 x0 9).bind (fun y5 => (cal d m_Bs_remove [(102, y5), (0, x1)] q4.2).bind (fun q6 => some (q6.1, q6.2))))))))) := (cal_blk [] 25 d m_Ss_lose _ h rfl).trans rfl
set_option maxRecDepth 20000 in
theorem k_Ss_count (d : Nat) (x0 : Int) (x1 : Int) (h : AH) : cal (d + 1) m_Ss_count [(106, x0), (0, x1)] h = (if x1 = 0 then (rdr 6 h x0 2).bind (fun y20 => (cal d m_Bd_houses [(100, y20)] h).bind (fun q21 => some (q21.1, q21.2))) else (if x1 = 1 then (rdr 6 h x0 2).bind (fun y18 => (cal d m_Bd_moves [(100, y18)] h).bind (fun q19 => some (q19.1, q19.2))) else (if x1 = 2 then (rdr 6 h x0 2).bind (fun y16 => (cal d m_Bd_turn [(100, y16)] h).bind (fun q17 => some (q17.1, q17.2))) else (if x1 = 3 then (rdr 6 h x0 2).bind (fun y14 => (cal d m_Bd_barn [(100, y14), (0, 0)] h).bind (fun q15 => some (q15.1, q15.2))) else (if x1 = 4 then (rdr 6 h x0 2).bind (fun y12 => (cal d m_Bd_barn [(100, y12), (0, 1)] h).bind (fun q13 => some (q13.1, q13.2))) else (if x1 = 5 then (rdr 6 h x0 2).bind (fun y10 => (cal d m_Bd_allSeeds [(100, y10)] h).bind (fun q11 => some (q11.1, q11.2))) else (if x1 = 6 then (rdr 6 h x0 2).bind (fun y8 => (cal d m_Bd_goingBits [(100, y8)] h).bind (fun q9 => some (q9.1, q9.2))) else (if x1 = 7 then (rdr 6 h x0 8).bind (fun y6 => (cal d m_Si_size [(104, y6)] h).bind (fun q7 => some (q7.1, q7.2))) else (if x1 = 8 then (rdr 6 h x0 9).bind (fun y4 => (cal d m_Bs_thereBits [(102, y4)] h).bind (fun q5 => some (q5.1, q5.2))) else (if x1 = 9 then (rdf 6 h x0 10).bind (fun y3 => some (y3, h)) else (if x1 = 10 then (rdr 6 h x0 6).bind (fun y1 => (cal d m_Te_length [(105, y1)] h).bind (fun q2 => some (q2.1, q2.2))) else some ((-3), h)))))))))))) := (cal_blk [] 54 d m_Ss_count _ h rfl).trans rfl
set_option maxRecDepth 20000 in
theorem k_Ss_isWithin (d : Nat) (x0 : Int) (x1 : Int) (x2 : Int) (h : AH) : cal (d + 1) m_Ss_isWithin [(0, x0), (0, x1), (0, x2)] h = (if x0 < x1 then some (0, h) else (if x2 < x0 then some (0, h) else some (1, h))) := (cal_blk [] 18 d m_Ss_isWithin _ h rfl).trans rfl
set_option maxRecDepth 20000 in
theorem k_Ss_remember (d : Nat) (x0 : Int) (h : AH) : cal (d + 1) m_Ss_remember [(106, x0)] h = (rdf 6 h x0 10).bind (fun y1 => (if y1 < 8 then (rdr 6 h x0 3).bind (fun y2 => (rdf 6 h x0 10).bind (fun y3 => (rdar 24 h y2 y3).bind (fun y4 => (rdr 6 h x0 2).bind (fun y5 => (cal d m_Bd_copy [(100, y4), (100, y5)] h).bind (fun q6 => (rdf 6 q6.2 x0 10).bind (fun y7 => (wrf 6 q6.2 x0 10 (a_add y7 1)).bind (fun h8 => some (0, h8)))))))) else (rdr 6 h x0 3).bind (fun y9 => (rdar 24 h y9 0).bind (fun y10 => run (d + 1) m_Ss_remember 18 [(106, x0), (100, y10), (0, 1)] [] h)))) := (cal_blk [18] 32 d m_Ss_remember _ h rfl).trans rfl
set_option maxRecDepth 20000 in
theorem k_Ss_remember_18 (d : Nat) (x0 : Int) (x1 : Int) (x2 : Int) (h : AH) : run (d + 1) m_Ss_remember 18 [(106, x0), (100, x1), (0, x2)] [] h = (if x2 < 8 then (rdr 6 h x0 3).bind (fun y1 => (rdr 6 h x0 3).bind (fun y2 => (rdar 24 h y2 x2).bind (fun y3 => (wra 24 h y1 (a_sub x2 1) y3).bind (fun h4 => run (d + 1) m_Ss_remember 18 [(106, x0), (100, x1), (0, a_add x2 1)] [] h4)))) else (rdr 6 h x0 3).bind (fun y5 => (wra 24 h y5 7 x1).bind (fun h6 => (wrf 6 h6 x0 10 7).bind (fun h7 => (rdr 6 h7 x0 3).bind (fun y8 => (rdf 6 h7 x0 10).bind (fun y9 => (rdar 24 h7 y8 y9).bind (fun y10 => (rdr 6 h7 x0 2).bind (fun y11 => (cal d m_Bd_copy [(100, y10), (100, y11)] h7).bind (fun q12 => (rdf 6 q12.2 x0 10).bind (fun y13 => (wrf 6 q12.2 x0 10 (a_add y13 1)).bind (fun h14 => some (0, h14)))))))))))) := (run_blk [18] 44 d m_Ss_remember 18 _ _ h).trans rfl
set_option maxRecDepth 20000 in
theorem k_Jd_bitCount (d : Nat) (x0 : Int) (h : AH) : cal (d + 1) m_Jd_bitCount [(0, x0)] h = some (a_and (a_add (a_add (a_and (a_add (a_add (a_and (a_sub x0 (a_and (a_ushr x0 1) 1431655765)) 858993459) (a_and (a_ushr (a_sub x0 (a_and (a_ushr x0 1) 1431655765)) 2) 858993459)) (a_ushr (a_add (a_and (a_sub x0 (a_and (a_ushr x0 1) 1431655765)) 858993459) (a_and (a_ushr (a_sub x0 (a_and (a_ushr x0 1) 1431655765)) 2) 858993459)) 4)) 252645135) (a_ushr (a_and (a_add (a_add (a_and (a_sub x0 (a_and (a_ushr x0 1) 1431655765)) 858993459) (a_and (a_ushr (a_sub x0 (a_and (a_ushr x0 1) 1431655765)) 2) 858993459)) (a_ushr (a_add (a_and (a_sub x0 (a_and (a_ushr x0 1) 1431655765)) 858993459) (a_and (a_ushr (a_sub x0 (a_and (a_ushr x0 1) 1431655765)) 2) 858993459)) 4)) 252645135) 8)) (a_ushr (a_add (a_and (a_add (a_add (a_and (a_sub x0 (a_and (a_ushr x0 1) 1431655765)) 858993459) (a_and (a_ushr (a_sub x0 (a_and (a_ushr x0 1) 1431655765)) 2) 858993459)) (a_ushr (a_add (a_and (a_sub x0 (a_and (a_ushr x0 1) 1431655765)) 858993459) (a_and (a_ushr (a_sub x0 (a_and (a_ushr x0 1) 1431655765)) 2) 858993459)) 4)) 252645135) (a_ushr (a_and (a_add (a_add (a_and (a_sub x0 (a_and (a_ushr x0 1) 1431655765)) 858993459) (a_and (a_ushr (a_sub x0 (a_and (a_ushr x0 1) 1431655765)) 2) 858993459)) (a_ushr (a_add (a_and (a_sub x0 (a_and (a_ushr x0 1) 1431655765)) 858993459) (a_and (a_ushr (a_sub x0 (a_and (a_ushr x0 1) 1431655765)) 2) 858993459)) 4)) 252645135) 8)) 16)) 63, h) := (cal_blk [] 47 d m_Jd_bitCount _ h rfl).trans rfl
end
section
/-! The methods' equations, a row a place: printed by program (wip/tools/dec.py). -/
set_option maxRecDepth 20000 in
theorem k_Mo_in (d : Nat) (x0 : Int) (x2 : Int) (x4 : Int) (h : AH) : cal (d + 1) m_Mo_in [(2, x0), (2, x2), (2, x4)] h = (if a_lcmp x0 x2 < 0 then some (0, h) else (if 0 < a_lcmp x0 x4 then some (0, h) else some (1, h))) := (cal_blk [] 20 d m_Mo_in _ h rfl).trans rfl
set_option maxRecDepth 20000 in
theorem k_Mo_init (d : Nat) (x0 : Int) (h : AH) : cal (d + 1) m_Mo_init [(107, x0)] h = (wrf 7 (h ++ [(20, List.replicate (Int.toNat 25) 0)]) x0 0 (Int.ofNat (List.length h))).bind (fun h1 => (wrf 7 (h1 ++ [(20, List.replicate (Int.toNat 25) 0)]) x0 1 (Int.ofNat (List.length h1))).bind (fun h2 => (wrf 7 (h2 ++ [(20, List.replicate (Int.toNat 200) 0)]) x0 2 (Int.ofNat (List.length h2))).bind (fun h3 => (wrf 7 (h3 ++ [(20, List.replicate (Int.toNat 25) 0)]) x0 9 (Int.ofNat (List.length h3))).bind (fun h4 => (wrf 7 (h4 ++ [(20, List.replicate (Int.toNat 200) 0)]) x0 10 (Int.ofNat (List.length h4))).bind (fun h5 => (wrf 7 (h5 ++ [(20, List.replicate (Int.toNat 50) 0)]) x0 12 (Int.ofNat (List.length h5))).bind (fun h6 => (wrf 7 (h6 ++ [(20, List.replicate (Int.toNat 25) 0)]) x0 14 (Int.ofNat (List.length h6))).bind (fun h7 => (wrf 7 (h7 ++ [(20, List.replicate (Int.toNat 175) 0)]) x0 15 (Int.ofNat (List.length h7))).bind (fun h8 => (wrf 7 (h8 ++ [(20, List.replicate (Int.toNat 6) 0)]) x0 16 (Int.ofNat (List.length h8))).bind (fun h9 => (wrf 7 (h9 ++ [(20, List.replicate (Int.toNat 6) 0)]) x0 17 (Int.ofNat (List.length h9))).bind (fun h10 => (wrf 7 (h10 ++ [(21, List.replicate (Int.toNat 6) 0)]) x0 18 (Int.ofNat (List.length h10))).bind (fun h11 => (wrf 7 (h11 ++ [(20, List.replicate (Int.toNat 36) 0)]) x0 19 (Int.ofNat (List.length h11))).bind (fun h12 => (wrf 7 (h12 ++ [(23, List.replicate (Int.toNat 6) 0)]) x0 21 (Int.ofNat (List.length h12))).bind (fun h13 => (wrf 7 (h13 ++ [(20, List.replicate (Int.toNat 24) 0)]) x0 22 (Int.ofNat (List.length h13))).bind (fun h14 => (wrf 7 (h14 ++ [(20, List.replicate (Int.toNat 5) 0)]) x0 24 (Int.ofNat (List.length h14))).bind (fun h15 => (wrf 7 (h15 ++ [(20, List.replicate (Int.toNat 5) 0)]) x0 25 (Int.ofNat (List.length h15))).bind (fun h16 => (wrf 7 (h16 ++ [(20, List.replicate (Int.toNat 20) 0)]) x0 26 (Int.ofNat (List.length h16))).bind (fun h17 => (wrf 7 (h17 ++ [(20, List.replicate (Int.toNat 20) 0)]) x0 27 (Int.ofNat (List.length h17))).bind (fun h18 => (wrf 7 (h18 ++ [(20, List.replicate (Int.toNat 5) 0)]) x0 28 (Int.ofNat (List.length h18))).bind (fun h19 => (wrf 7 (h19 ++ [(20, List.replicate (Int.toNat 24) 0)]) x0 29 (Int.ofNat (List.length h19))).bind (fun h20 => (wrf 7 (h20 ++ [(20, List.replicate (Int.toNat 24) 0)]) x0 30 (Int.ofNat (List.length h20))).bind (fun h21 => (rdr 7 h21 x0 1).bind (fun y22 => (cal d m_Mo_atFirst [(120, y22), (0, 3)] h21).bind (fun q23 => (rdr 7 q23.2 x0 0).bind (fun y24 => (cal d m_Mo_atFirst [(120, y24), (0, 3)] q23.2).bind (fun q25 => (cal d m_Mo_noBoxes [(107, x0)] q25.2).bind (fun q26 => some (0, q26.2))))))))))))))))))))))))))) := (cal_blk [] 102 d m_Mo_init _ h rfl).trans rfl
set_option maxRecDepth 20000 in
theorem k_Mo_atFirst (d : Nat) (x0 : Int) (x1 : Int) (h : AH) : cal (d + 1) m_Mo_atFirst [(120, x0), (0, x1)] h = run (d + 1) m_Mo_atFirst 2 [(120, x0), (0, x1), (0, 0)] [] h := (cal_blk [2, 24] 8 d m_Mo_atFirst _ h rfl).trans rfl
set_option maxRecDepth 20000 in
theorem k_Mo_atFirst_2 (d : Nat) (x0 : Int) (x1 : Int) (x2 : Int) (h : AH) : run (d + 1) m_Mo_atFirst 2 [(120, x0), (0, x1), (0, x2)] [] h = (if x2 < 25 then (wra 20 h x0 x2 0).bind (fun h1 => run (d + 1) m_Mo_atFirst 2 [(120, x0), (0, x1), (0, a_add x2 1)] [] h1) else (wra 20 h x0 0 x1).bind (fun h2 => run (d + 1) m_Mo_atFirst 24 [(120, x0), (0, x1), (0, 0)] [] h2)) := (run_blk [2, 24] 22 d m_Mo_atFirst 2 _ _ h).trans rfl
set_option maxRecDepth 20000 in
theorem k_Mo_atFirst_24 (d : Nat) (x0 : Int) (x1 : Int) (x2 : Int) (h : AH) : run (d + 1) m_Mo_atFirst 24 [(120, x0), (0, x1), (0, x2)] [] h = (if x2 < a_mul 2 x1 then (wra 20 h x0 (a_add 15 x2) 4).bind (fun h1 => run (d + 1) m_Mo_atFirst 24 [(120, x0), (0, x1), (0, a_add x2 1)] [] h1) else some (0, h)) := (run_blk [2, 24] 20 d m_Mo_atFirst 24 _ _ h).trans rfl
set_option maxRecDepth 20000 in
theorem k_Mo_write (d : Nat) (x0 : Int) (x1 : Int) (h : AH) : cal (d + 1) m_Mo_write [(107, x0), (0, x1)] h = (cal d m_Mo_in [(2, x1), (2, 0), (2, 255)] h).bind (fun q1 => (if q1.1 = 0 then some ((-3), q1.2) else (rdf 7 q1.2 x0 3).bind (fun y2 => (if y2 = 200 then some ((-5), q1.2) else (rdr 7 q1.2 x0 2).bind (fun y3 => (rdf 7 q1.2 x0 3).bind (fun y4 => (wra 20 q1.2 y3 y4 x1).bind (fun h5 => (rdf 7 h5 x0 3).bind (fun y6 => (wrf 7 h5 x0 3 (a_add y6 1)).bind (fun h7 => (rdf 7 h7 x0 3).bind (fun y8 => some (y8, h7))))))))))) := (cal_blk [] 34 d m_Mo_write _ h rfl).trans rfl
set_option maxRecDepth 20000 in
theorem k_Mo_erase (d : Nat) (x0 : Int) (h : AH) : cal (d + 1) m_Mo_erase [(107, x0)] h = (rdf 7 h x0 3).bind (fun y1 => (wrf 7 h x0 3 0).bind (fun h2 => some (y1, h2))) := (cal_blk [] 13 d m_Mo_erase _ h rfl).trans rfl
set_option maxRecDepth 20000 in
theorem k_Mo_letterAt (d : Nat) (x0 : Int) (x1 : Int) (h : AH) : cal (d + 1) m_Mo_letterAt [(107, x0), (0, x1)] h = (rdf 7 h x0 3).bind (fun y1 => (if x1 < y1 then (rdr 7 h x0 2).bind (fun y2 => (rda 20 h y2 x1).bind (fun y3 => some (y3, h))) else some ((-1), h))) := (cal_blk [] 17 d m_Mo_letterAt _ h rfl).trans rfl
set_option maxRecDepth 20000 in
theorem k_Mo_word (d : Nat) (x0 : Int) (x2 : Int) (x4 : Int) (x6 : Int) (x8 : Int) (x10 : Int) (h : AH) : cal (d + 1) m_Mo_word [(2, x0), (2, x2), (2, x4), (2, x6), (2, x8), (2, x10)] h = some (a_lor (a_lor (a_lor (a_lor (a_lor (a_lshl x0 40) (a_lshl x2 32)) (a_lshl x4 24)) (a_lshl x6 16)) (a_lshl x8 8)) x10, h) := (cal_blk [] 27 d m_Mo_word _ h rfl).trans rfl
set_option maxRecDepth 20000 in
theorem k_Mo_said (d : Nat) (x0 : Int) (x1 : Int) (x2 : Int) (h : AH) : cal (d + 1) m_Mo_said [(107, x0), (0, x1), (0, x2)] h = run (d + 1) m_Mo_said 5 [(107, x0), (0, x1), (0, x2), (2, 0), (8, 0), (0, x1)] [] h := (cal_blk [5, 36, 292] 10 d m_Mo_said _ h rfl).trans rfl
set_option maxRecDepth 20000 in
theorem k_Mo_said_5 (d : Nat) (x0 : Int) (x1 : Int) (x2 : Int) (x3 : Int) (x5 : Int) (h : AH) : run (d + 1) m_Mo_said 5 [(107, x0), (0, x1), (0, x2), (2, x3), (8, 0), (0, x5)] [] h = (if x5 < x2 then (if 6 < a_sub x2 x1 then run (d + 1) m_Mo_said 36 [(107, x0), (0, x1), (0, x2), (2, x3), (8, 0), (0, x5)] [(2, 0)] h else (rdr 7 h x0 2).bind (fun y1 => (rda 20 h y1 x5).bind (fun y2 => run (d + 1) m_Mo_said 36 [(107, x0), (0, x1), (0, x2), (2, x3), (8, 0), (0, x5)] [(2, a_lor (a_lshl x3 8) y2)] h))) else (cal d m_Mo_word [(2, 0), (2, 98), (2, 111), (2, 97), (2, 114), (2, 100)] h).bind (fun q3 => (if a_lcmp x3 q3.1 = 0 then run (d + 1) m_Mo_said 292 [(107, x0), (0, x1), (0, x2), (2, x3), (8, 0), (0, x5)] [(0, 1)] q3.2 else (cal d m_Mo_word [(2, 0), (2, 115), (2, 101), (2, 101), (2, 100), (2, 115)] q3.2).bind (fun q4 => (if a_lcmp x3 q4.1 = 0 then run (d + 1) m_Mo_said 292 [(107, x0), (0, x1), (0, x2), (2, x3), (8, 0), (0, x5)] [(0, 2)] q4.2 else (cal d m_Mo_word [(2, 0), (2, 0), (2, 98), (2, 97), (2, 114), (2, 110)] q4.2).bind (fun q5 => (if a_lcmp x3 q5.1 = 0 then run (d + 1) m_Mo_said 292 [(107, x0), (0, x1), (0, x2), (2, x3), (8, 0), (0, x5)] [(0, 3)] q5.2 else (cal d m_Mo_word [(2, 0), (2, 0), (2, 116), (2, 117), (2, 114), (2, 110)] q5.2).bind (fun q6 => (if a_lcmp x3 q6.1 = 0 then run (d + 1) m_Mo_said 292 [(107, x0), (0, x1), (0, x2), (2, x3), (8, 0), (0, x5)] [(0, 4)] q6.2 else (cal d m_Mo_word [(2, 0), (2, 112), (2, 108), (2, 97), (2, 105), (2, 110)] q6.2).bind (fun q7 => (if a_lcmp x3 q7.1 = 0 then run (d + 1) m_Mo_said 292 [(107, x0), (0, x1), (0, x2), (2, x3), (8, 0), (0, x5)] [(0, 5)] q7.2 else (cal d m_Mo_word [(2, 0), (2, 0), (2, 100), (2, 101), (2, 101), (2, 112)] q7.2).bind (fun q8 => (if a_lcmp x3 q8.1 = 0 then run (d + 1) m_Mo_said 292 [(107, x0), (0, x1), (0, x2), (2, x3), (8, 0), (0, x5)] [(0, 6)] q8.2 else (cal d m_Mo_word [(2, 0), (2, 0), (2, 114), (2, 105), (2, 99), (2, 104)] q8.2).bind (fun q9 => (if a_lcmp x3 q9.1 = 0 then run (d + 1) m_Mo_said 292 [(107, x0), (0, x1), (0, x2), (2, x3), (8, 0), (0, x5)] [(0, 7)] q9.2 else (cal d m_Mo_word [(2, 98), (2, 97), (2, 114), (2, 114), (2, 101), (2, 100)] q9.2).bind (fun q10 => (if a_lcmp x3 q10.1 = 0 then run (d + 1) m_Mo_said 292 [(107, x0), (0, x1), (0, x2), (2, x3), (8, 0), (0, x5)] [(0, 8)] q10.2 else (cal d m_Mo_word [(2, 0), (2, 0), (2, 109), (2, 101), (2, 97), (2, 110)] q10.2).bind (fun q11 => (if a_lcmp x3 q11.1 = 0 then run (d + 1) m_Mo_said 292 [(107, x0), (0, x1), (0, x2), (2, x3), (8, 0), (0, x5)] [(0, 9)] q11.2 else run (d + 1) m_Mo_said 292 [(107, x0), (0, x1), (0, x2), (2, x3), (8, 0), (0, x5)] [(0, 0)] q11.2))))))))))))))))))) := (run_blk [5, 36, 292] 145 d m_Mo_said 5 _ _ h).trans rfl
set_option maxRecDepth 20000 in
theorem k_Mo_said_36 (d : Nat) (x0 : Int) (x1 : Int) (x2 : Int) (x3 : Int) (x5 : Int) (s0 : Int) (h : AH) : run (d + 1) m_Mo_said 36 [(107, x0), (0, x1), (0, x2), (2, x3), (8, 0), (0, x5)] [(2, s0)] h = run (d + 1) m_Mo_said 5 [(107, x0), (0, x1), (0, x2), (2, s0), (8, 0), (0, a_add x5 1)] [] h := (run_blk [5, 36, 292] 9 d m_Mo_said 36 _ _ h).trans rfl
set_option maxRecDepth 20000 in
theorem k_Mo_said_292 (d : Nat) (x0 : Int) (x1 : Int) (x2 : Int) (x3 : Int) (x5 : Int) (s0 : Int) (h : AH) : run (d + 1) m_Mo_said 292 [(107, x0), (0, x1), (0, x2), (2, x3), (8, 0), (0, x5)] [(0, s0)] h = some (s0, h) := (run_blk [5, 36, 292] 6 d m_Mo_said 292 _ _ h).trans rfl
set_option maxRecDepth 20000 in
theorem k_Mo_looksOn_0 (d : Nat) (x0 : Int) (h : AH) : run (d + 1) m_Mo_looksOn 0 [(107, x0), (9, 0)] [] h = (rdf 7 h x0 4).bind (fun y1 => (cal d m_Mo_letterAt [(107, x0), (0, y1)] h).bind (fun q2 => (if q2.1 = 32 then (rdf 7 q2.2 x0 4).bind (fun y3 => (wrf 7 q2.2 x0 4 (a_add y3 1)).bind (fun h4 => run (d + 1) m_Mo_looksOn 0 [(107, x0), (9, 0)] [] h4)) else (rdf 7 q2.2 x0 4).bind (fun y5 => (wrf 7 q2.2 x0 5 y5).bind (fun h6 => (rdf 7 h6 x0 4).bind (fun y7 => (cal d m_Mo_letterAt [(107, x0), (0, y7)] h6).bind (fun q8 => (cal d m_Mo_in [(2, q8.1), (2, 97), (2, 122)] q8.2).bind (fun q9 => (if q9.1 = 0 then (cal d m_Mo_in [(2, q8.1), (2, 48), (2, 57)] q9.2).bind (fun q10 => (if q10.1 = 0 then (if q8.1 = 59 then (wrf 7 q10.2 x0 6 3).bind (fun h11 => (rdf 7 h11 x0 4).bind (fun y12 => (if q8.1 < 0 then (wrf 7 h11 x0 4 (a_add y12 0)).bind (fun h13 => some (0, h13)) else (wrf 7 h11 x0 4 (a_add y12 1)).bind (fun h14 => some (0, h14))))) else (if q8.1 < 0 then (wrf 7 q10.2 x0 6 4).bind (fun h15 => (rdf 7 h15 x0 4).bind (fun y16 => (if q8.1 < 0 then (wrf 7 h15 x0 4 (a_add y16 0)).bind (fun h17 => some (0, h17)) else (wrf 7 h15 x0 4 (a_add y16 1)).bind (fun h18 => some (0, h18))))) else (wrf 7 q10.2 x0 6 5).bind (fun h19 => (rdf 7 h19 x0 4).bind (fun y20 => (if q8.1 < 0 then (wrf 7 h19 x0 4 (a_add y20 0)).bind (fun h21 => some (0, h21)) else (wrf 7 h19 x0 4 (a_add y20 1)).bind (fun h22 => some (0, h22))))))) else (wrf 7 q10.2 x0 7 0).bind (fun h23 => run (d + 1) m_Mo_looksOn 134 [(107, x0), (0, q8.1)] [] h23))) else run (d + 1) m_Mo_looksOn 57 [(107, x0), (0, q8.1)] [] q9.2))))))))) := (run_blk [0, 57, 134] 101 d m_Mo_looksOn 0 _ _ h).trans rfl
set_option maxRecDepth 20000 in
theorem k_Mo_looksOn_57 (d : Nat) (x0 : Int) (x1 : Int) (h : AH) : run (d + 1) m_Mo_looksOn 57 [(107, x0), (0, x1)] [] h = (rdf 7 h x0 4).bind (fun y1 => (cal d m_Mo_letterAt [(107, x0), (0, y1)] h).bind (fun q2 => (cal d m_Mo_in [(2, q2.1), (2, 97), (2, 122)] q2.2).bind (fun q3 => (if q3.1 = 0 then (wrf 7 q3.2 x0 6 1).bind (fun h4 => (rdf 7 h4 x0 5).bind (fun y5 => (rdf 7 h4 x0 4).bind (fun y6 => (cal d m_Mo_said [(107, x0), (0, y5), (0, y6)] h4).bind (fun q7 => (wrf 7 q7.2 x0 7 q7.1).bind (fun h8 => some (0, h8)))))) else (rdf 7 q3.2 x0 4).bind (fun y9 => (wrf 7 q3.2 x0 4 (a_add y9 1)).bind (fun h10 => run (d + 1) m_Mo_looksOn 57 [(107, x0), (0, x1)] [] h10)))))) := (run_blk [0, 57, 134] 35 d m_Mo_looksOn 57 _ _ h).trans rfl
set_option maxRecDepth 20000 in
theorem k_Mo_looksOn_134 (d : Nat) (x0 : Int) (x1 : Int) (h : AH) : run (d + 1) m_Mo_looksOn 134 [(107, x0), (0, x1)] [] h = (rdf 7 h x0 4).bind (fun y1 => (cal d m_Mo_letterAt [(107, x0), (0, y1)] h).bind (fun q2 => (cal d m_Mo_in [(2, q2.1), (2, 48), (2, 57)] q2.2).bind (fun q3 => (if q3.1 = 0 then (rdf 7 q3.2 x0 4).bind (fun y4 => (rdf 7 q3.2 x0 5).bind (fun y5 => (if 2 < a_sub y4 y5 then (wrf 7 q3.2 x0 6 5).bind (fun h6 => some (0, h6)) else (wrf 7 q3.2 x0 6 2).bind (fun h7 => some (0, h7))))) else (rdf 7 q3.2 x0 4).bind (fun y8 => (rdf 7 q3.2 x0 5).bind (fun y9 => (if a_sub y8 y9 < 2 then (rdf 7 q3.2 x0 7).bind (fun y10 => (rdr 7 q3.2 x0 2).bind (fun y11 => (rdf 7 q3.2 x0 4).bind (fun y12 => (rda 20 q3.2 y11 y12).bind (fun y13 => (wrf 7 q3.2 x0 7 (a_sub (a_add (a_mul 10 y10) y13) 48)).bind (fun h14 => (rdf 7 h14 x0 4).bind (fun y15 => (wrf 7 h14 x0 4 (a_add y15 1)).bind (fun h16 => run (d + 1) m_Mo_looksOn 134 [(107, x0), (0, x1)] [] h16))))))) else (rdf 7 q3.2 x0 7).bind (fun y17 => (wrf 7 q3.2 x0 7 y17).bind (fun h18 => (rdf 7 h18 x0 4).bind (fun y19 => (wrf 7 h18 x0 4 (a_add y19 1)).bind (fun h20 => run (d + 1) m_Mo_looksOn 134 [(107, x0), (0, x1)] [] h20))))))))))) := (run_blk [0, 57, 134] 72 d m_Mo_looksOn 134 _ _ h).trans rfl
set_option maxRecDepth 20000 in
theorem k_Mo_must (d : Nat) (x0 : Int) (x1 : Int) (h : AH) : cal (d + 1) m_Mo_must [(107, x0), (0, x1)] h = (rdf 7 h x0 8).bind (fun y1 => (if y1 < 0 then (if x1 = 0 then (rdf 7 h x0 5).bind (fun y2 => (wrf 7 h x0 8 y2).bind (fun h3 => (rdf 7 h3 x0 8).bind (fun y4 => (if y4 < 0 then (cal d m_Mo_looksOn [(107, x0)] h3).bind (fun q5 => some (0, q5.2)) else some (0, h3))))) else (rdf 7 h x0 8).bind (fun y6 => (if y6 < 0 then (cal d m_Mo_looksOn [(107, x0)] h).bind (fun q7 => some (0, q7.2)) else some (0, h)))) else (rdf 7 h x0 8).bind (fun y8 => (if y8 < 0 then (cal d m_Mo_looksOn [(107, x0)] h).bind (fun q9 => some (0, q9.2)) else some (0, h))))) := (cal_blk [] 35 d m_Mo_must _ h rfl).trans rfl
set_option maxRecDepth 20000 in
theorem k_Mo_number (d : Nat) (x0 : Int) (x1 : Int) (x2 : Int) (h : AH) : cal (d + 1) m_Mo_number [(107, x0), (0, x1), (0, x2)] h = (rdf 7 h x0 7).bind (fun y1 => (rdf 7 h x0 6).bind (fun y2 => (if y2 = 2 then (cal d m_Mo_in [(2, y1), (2, x1), (2, x2)] h).bind (fun q3 => (if q3.1 = 0 then (cal d m_Mo_must [(107, x0), (0, 0)] q3.2).bind (fun q4 => some (y1, q4.2)) else (cal d m_Mo_must [(107, x0), (0, 1)] q3.2).bind (fun q5 => some (y1, q5.2)))) else (cal d m_Mo_must [(107, x0), (0, 0)] h).bind (fun q6 => some (y1, q6.2))))) := (cal_blk [] 34 d m_Mo_number _ h rfl).trans rfl
set_option maxRecDepth 20000 in
theorem k_Mo_reads (d : Nat) (x0 : Int) (h : AH) : cal (d + 1) m_Mo_reads [(107, x0)] h = (rdf 7 h x0 6).bind (fun y1 => (if y1 = 1 then (rdf 7 h x0 7).bind (fun y2 => (if 0 < y2 then run (d + 1) m_Mo_reads 27 [(107, x0), (0, y2), (9, 0), (9, 0)] [(0, 1), (107, x0)] h else run (d + 1) m_Mo_reads 27 [(107, x0), (0, y2), (9, 0), (9, 0)] [(0, 0), (107, x0)] h)) else run (d + 1) m_Mo_reads 27 [(107, x0), (0, 0), (9, 0), (9, 0)] [(0, 0), (107, x0)] h)) := (cal_blk [27, 57, 116, 153, 180] 28 d m_Mo_reads _ h rfl).trans rfl
set_option maxRecDepth 20000 in
theorem k_Mo_reads_27 (d : Nat) (x0 : Int) (x1 : Int) (v2 : AV) (v3 : AV) (s0 : Int) (s1 : Int) (h : AH) : run (d + 1) m_Mo_reads 27 [(107, x0), (0, x1), v2, v3] [(0, s0), (107, s1)] h = (cal d m_Mo_must [(107, s1), (0, s0)] h).bind (fun q1 => (if x1 = 1 then (cal d m_Mo_number [(107, x0), (0, 2), (0, 5)] q1.2).bind (fun q2 => (rdf 7 q2.2 x0 8).bind (fun y3 => (if y3 < 0 then (rdr 7 q2.2 x0 9).bind (fun y4 => (cal d m_Mo_atFirst [(120, y4), (0, q2.1)] q2.2).bind (fun q5 => run (d + 1) m_Mo_reads 57 [(107, x0), (0, x1), (0, q2.1), v3] [] q5.2)) else run (d + 1) m_Mo_reads 57 [(107, x0), (0, x1), (0, q2.1), v3] [] q2.2))) else (if x1 = 4 then (rdr 7 q1.2 x0 9).bind (fun y6 => (cal d m_Mo_number [(107, x0), (0, 0), (0, 1)] q1.2).bind (fun q7 => (wra 20 q7.2 y6 1 q7.1).bind (fun h8 => run (d + 1) m_Mo_reads 180 [(107, x0), (0, x1), v2, v3] [] h8))) else (if x1 = 3 then (cal d m_Mo_number [(107, x0), (0, 0), (0, 1)] q1.2).bind (fun q9 => (cal d m_Mo_number [(107, x0), (0, 0), (0, 99)] q9.2).bind (fun q10 => (rdf 7 q10.2 x0 8).bind (fun y11 => (if y11 < 0 then (rdr 7 q10.2 x0 9).bind (fun y12 => (wra 20 q10.2 y12 (a_add 2 q9.1) q10.1).bind (fun h13 => run (d + 1) m_Mo_reads 116 [(107, x0), (0, x1), (0, q9.1), (0, q10.1)] [] h13)) else run (d + 1) m_Mo_reads 116 [(107, x0), (0, x1), (0, q9.1), (0, q10.1)] [] q10.2)))) else (rdr 7 q1.2 x0 9).bind (fun y14 => (rda 20 q1.2 y14 0).bind (fun y15 => (cal d m_Mo_number [(107, x0), (0, 0), (0, a_sub (a_mul 2 y15) 1)] q1.2).bind (fun q16 => (if x1 = 2 then (cal d m_Mo_number [(107, x0), (0, 0), (0, 30)] q16.2).bind (fun q17 => run (d + 1) m_Mo_reads 153 [(107, x0), (0, x1), (0, q16.1), v3] [(0, q17.1)] q17.2) else run (d + 1) m_Mo_reads 153 [(107, x0), (0, x1), (0, q16.1), v3] [(0, a_sub x1 5)] q16.2)))))))) := (run_blk [27, 57, 116, 153, 180] 86 d m_Mo_reads 27 _ _ h).trans rfl
set_option maxRecDepth 20000 in
theorem k_Mo_reads_57 (d : Nat) (x0 : Int) (x1 : Int) (x2 : Int) (v3 : AV) (h : AH) : run (d + 1) m_Mo_reads 57 [(107, x0), (0, x1), (0, x2), v3] [] h = run (d + 1) m_Mo_reads 180 [(107, x0), (0, x1), (0, x2), v3] [] h := (run_blk [27, 57, 116, 153, 180] 7 d m_Mo_reads 57 _ _ h).trans rfl
set_option maxRecDepth 20000 in
theorem k_Mo_reads_116 (d : Nat) (x0 : Int) (x1 : Int) (x2 : Int) (x3 : Int) (h : AH) : run (d + 1) m_Mo_reads 116 [(107, x0), (0, x1), (0, x2), (0, x3)] [] h = run (d + 1) m_Mo_reads 180 [(107, x0), (0, x1), (0, x2), (0, x3)] [] h := (run_blk [27, 57, 116, 153, 180] 7 d m_Mo_reads 116 _ _ h).trans rfl
set_option maxRecDepth 20000 in
theorem k_Mo_reads_153 (d : Nat) (x0 : Int) (x1 : Int) (x2 : Int) (v3 : AV) (s0 : Int) (h : AH) : run (d + 1) m_Mo_reads 153 [(107, x0), (0, x1), (0, x2), v3] [(0, s0)] h = (rdf 7 h x0 8).bind (fun y1 => (if y1 < 0 then (rdr 7 h x0 9).bind (fun y2 => (if x1 = 2 then (wra 20 h y2 (a_add 15 x2) s0).bind (fun h3 => run (d + 1) m_Mo_reads 180 [(107, x0), (0, x1), (0, x2), (0, s0)] [] h3) else (wra 20 h y2 (a_add 5 x2) s0).bind (fun h4 => run (d + 1) m_Mo_reads 180 [(107, x0), (0, x1), (0, x2), (0, s0)] [] h4))) else run (d + 1) m_Mo_reads 180 [(107, x0), (0, x1), (0, x2), (0, s0)] [] h)) := (run_blk [27, 57, 116, 153, 180] 28 d m_Mo_reads 153 _ _ h).trans rfl
set_option maxRecDepth 20000 in
theorem k_Mo_reads_180 (d : Nat) (x0 : Int) (x1 : Int) (v2 : AV) (v3 : AV) (h : AH) : run (d + 1) m_Mo_reads 180 [(107, x0), (0, x1), v2, v3] [] h = some (0, h) := (run_blk [27, 57, 116, 153, 180] 6 d m_Mo_reads 180 _ _ h).trans rfl
set_option maxRecDepth 20000 in
theorem k_Mo_clauses (d : Nat) (x0 : Int) (h : AH) : cal (d + 1) m_Mo_clauses [(107, x0)] h = run (d + 1) m_Mo_clauses 2 [(107, x0), (0, 0), (9, 0)] [] h := (cal_blk [2, 44, 74] 8 d m_Mo_clauses _ h rfl).trans rfl
set_option maxRecDepth 20000 in
theorem k_Mo_clauses_2 (d : Nat) (x0 : Int) (x1 : Int) (v2 : AV) (h : AH) : run (d + 1) m_Mo_clauses 2 [(107, x0), (0, x1), v2] [] h = (if x1 < 25 then (rdr 7 h x0 9).bind (fun y1 => (rdr 7 h x0 1).bind (fun y2 => (rda 20 h y2 x1).bind (fun y3 => (wra 20 h y1 x1 y3).bind (fun h4 => run (d + 1) m_Mo_clauses 2 [(107, x0), (0, a_add x1 1), v2] [] h4)))) else (wrf 7 h x0 4 0).bind (fun h5 => (wrf 7 h5 x0 8 (-1)).bind (fun h6 => (cal d m_Mo_looksOn [(107, x0)] h6).bind (fun q7 => run (d + 1) m_Mo_clauses 44 [(107, x0), (0, 0), (0, 1)] [] q7.2)))) := (run_blk [2, 44, 74] 32 d m_Mo_clauses 2 _ _ h).trans rfl
set_option maxRecDepth 20000 in
theorem k_Mo_clauses_44 (d : Nat) (x0 : Int) (x1 : Int) (x2 : Int) (h : AH) : run (d + 1) m_Mo_clauses 44 [(107, x0), (0, x1), (0, x2)] [] h = (if x2 = 0 then some (x1, h) else (cal d m_Mo_reads [(107, x0)] h).bind (fun q1 => (rdf 7 q1.2 x0 8).bind (fun y2 => (if y2 < 0 then (rdf 7 q1.2 x0 6).bind (fun y3 => (if y3 = 4 then run (d + 1) m_Mo_clauses 74 [(107, x0), (0, a_add x1 1), (0, x2)] [] q1.2 else (rdf 7 q1.2 x0 6).bind (fun y4 => (if y4 = 3 then (if a_add x1 1 < 24 then (cal d m_Mo_must [(107, x0), (0, 1)] q1.2).bind (fun q5 => (rdf 7 q5.2 x0 8).bind (fun y6 => (if y6 < 0 then run (d + 1) m_Mo_clauses 44 [(107, x0), (0, a_add x1 1), (0, 1)] [] q5.2 else run (d + 1) m_Mo_clauses 44 [(107, x0), (0, a_add x1 1), (0, 0)] [] q5.2))) else (cal d m_Mo_must [(107, x0), (0, 0)] q1.2).bind (fun q7 => (rdf 7 q7.2 x0 8).bind (fun y8 => (if y8 < 0 then run (d + 1) m_Mo_clauses 44 [(107, x0), (0, a_add x1 1), (0, 1)] [] q7.2 else run (d + 1) m_Mo_clauses 44 [(107, x0), (0, a_add x1 1), (0, 0)] [] q7.2)))) else (cal d m_Mo_must [(107, x0), (0, 0)] q1.2).bind (fun q9 => (rdf 7 q9.2 x0 8).bind (fun y10 => (if y10 < 0 then run (d + 1) m_Mo_clauses 44 [(107, x0), (0, a_add x1 1), (0, 1)] [] q9.2 else run (d + 1) m_Mo_clauses 44 [(107, x0), (0, a_add x1 1), (0, 0)] [] q9.2))))))) else run (d + 1) m_Mo_clauses 74 [(107, x0), (0, a_add x1 1), (0, x2)] [] q1.2)))) := (run_blk [2, 44, 74] 77 d m_Mo_clauses 44 _ _ h).trans rfl
set_option maxRecDepth 20000 in
theorem k_Mo_clauses_74 (d : Nat) (x0 : Int) (x1 : Int) (x2 : Int) (h : AH) : run (d + 1) m_Mo_clauses 74 [(107, x0), (0, x1), (0, x2)] [] h = run (d + 1) m_Mo_clauses 44 [(107, x0), (0, x1), (0, 0)] [] h := (run_blk [2, 44, 74] 10 d m_Mo_clauses 74 _ _ h).trans rfl
set_option maxRecDepth 20000 in
theorem k_Mo_fault (d : Nat) (x0 : Int) (h : AH) : cal (d + 1) m_Mo_fault [(107, x0)] h = (cal d m_Mo_clauses [(107, x0)] h).bind (fun q1 => (if 0 < q1.1 then (rdf 7 q1.2 x0 8).bind (fun y2 => (if y2 < 0 then some ((-1), q1.2) else (rdf 7 q1.2 x0 8).bind (fun y3 => some (y3, q1.2)))) else some ((-1), q1.2))) := (cal_blk [] 19 d m_Mo_fault _ h rfl).trans rfl
set_option maxRecDepth 20000 in
theorem k_Mo_board (d : Nat) (x0 : Int) (h : AH) : cal (d + 1) m_Mo_board [(107, x0)] h = (cal d m_Mo_clauses [(107, x0)] h).bind (fun q1 => (rdf 7 q1.2 x0 8).bind (fun y2 => (if y2 < 0 then run (d + 1) m_Mo_board 17 [(107, x0), (0, q1.1), (0, 0)] [] q1.2 else some ((-4), q1.2)))) := (cal_blk [17] 16 d m_Mo_board _ h rfl).trans rfl
set_option maxRecDepth 20000 in
theorem k_Mo_board_17 (d : Nat) (x0 : Int) (x1 : Int) (x2 : Int) (h : AH) : run (d + 1) m_Mo_board 17 [(107, x0), (0, x1), (0, x2)] [] h = (if x2 < 25 then (rdr 7 h x0 1).bind (fun y1 => (rdr 7 h x0 9).bind (fun y2 => (rda 20 h y2 x2).bind (fun y3 => (wra 20 h y1 x2 y3).bind (fun h4 => (rdr 7 h4 x0 0).bind (fun y5 => (rdr 7 h4 x0 9).bind (fun y6 => (rda 20 h4 y6 x2).bind (fun y7 => (wra 20 h4 y5 x2 y7).bind (fun h8 => run (d + 1) m_Mo_board 17 [(107, x0), (0, x1), (0, a_add x2 1)] [] h8)))))))) else (wrf 7 h x0 3 0).bind (fun h9 => (wrf 7 h9 x0 11 0).bind (fun h10 => (wrf 7 h10 x0 13 0).bind (fun h11 => (wrf 7 h11 x0 23 0).bind (fun h12 => (cal d m_Mo_noBoxes [(107, x0)] h12).bind (fun q13 => some (x1, q13.2))))))) := (run_blk [17] 43 d m_Mo_board 17 _ _ h).trans rfl
set_option maxRecDepth 20000 in
theorem k_Mo_isHouse (d : Nat) (x0 : Int) (x1 : Int) (h : AH) : cal (d + 1) m_Mo_isHouse [(107, x0), (0, x1)] h = (rdr 7 h x0 0).bind (fun y1 => (rda 20 h y1 0).bind (fun y2 => (cal d m_Mo_in [(2, x1), (2, 0), (2, a_sub (a_mul 2 y2) 1)] h).bind (fun q3 => (if q3.1 = 0 ∨ q3.1 = 1 then some (q3.1, q3.2) else none)))) := (cal_blk [] 19 d m_Mo_isHouse _ h rfl).trans rfl
set_option maxRecDepth 20000 in
theorem k_Mo_liftsOf (d : Nat) (x0 : Int) (x1 : Int) (h : AH) : cal (d + 1) m_Mo_liftsOf [(0, x0), (0, x1)] h = (if x0 = 1 then (if x1 < 1 then some (0, h) else some (a_sub x1 1, h)) else (if x0 = 3 then some (0, h) else (if x0 = 4 then some (a_div (a_add x1 1) 2, h) else some (x1, h)))) := (cal_blk [] 37 d m_Mo_liftsOf _ h rfl).trans rfl
set_option maxRecDepth 20000 in
theorem k_Mo_takesOne (d : Nat) (x0 : Int) (x1 : Int) (h : AH) : cal (d + 1) m_Mo_takesOne [(0, x0), (0, x1)] h = (if x0 < 3 then (if 98 < x1 then some (0, h) else some (1, h)) else (if x0 = 4 then (if 2 < x1 then some (0, h) else some (1, h)) else some (0, h))) := (cal_blk [] 30 d m_Mo_takesOne _ h rfl).trans rfl
set_option maxRecDepth 20000 in
theorem k_Mo_yieldsAll (d : Nat) (x0 : Int) (x1 : Int) (h : AH) : cal (d + 1) m_Mo_yieldsAll [(0, x0), (0, x1)] h = (if x0 < 3 then (if 1 < x1 then (if x0 = 2 then (if x1 < 6 then some (1, h) else some (0, h)) else (if x1 < 4 then some (1, h) else some (0, h))) else some (0, h)) else some (0, h)) := (cal_blk [] 34 d m_Mo_yieldsAll _ h rfl).trans rfl
set_option maxRecDepth 20000 in
theorem k_Mo_lifts (d : Nat) (x0 : Int) (x1 : Int) (h : AH) : cal (d + 1) m_Mo_lifts [(107, x0), (0, x1)] h = (rdr 7 h x0 0).bind (fun y1 => (rda 20 h y1 (a_add 5 x1)).bind (fun y2 => (rdr 7 h x0 0).bind (fun y3 => (rda 20 h y3 (a_add 15 x1)).bind (fun y4 => (cal d m_Mo_liftsOf [(0, y2), (0, y4)] h).bind (fun q5 => some (q5.1, q5.2)))))) := (cal_blk [] 19 d m_Mo_lifts _ h rfl).trans rfl
set_option maxRecDepth 20000 in
theorem k_Mo_sideOf (d : Nat) (x0 : Int) (x1 : Int) (h : AH) : cal (d + 1) m_Mo_sideOf [(107, x0), (0, x1)] h = (rdr 7 h x0 0).bind (fun y1 => (rda 20 h y1 0).bind (fun y2 => (if x1 < y2 then some (0, h) else some (1, h)))) := (cal_blk [] 16 d m_Mo_sideOf _ h rfl).trans rfl
set_option maxRecDepth 20000 in
theorem k_Mo_canGo (d : Nat) (x0 : Int) (x1 : Int) (h : AH) : cal (d + 1) m_Mo_canGo [(107, x0), (0, x1)] h = (cal d m_Mo_sideOf [(107, x0), (0, x1)] h).bind (fun q1 => (rdr 7 q1.2 x0 0).bind (fun y2 => (rda 20 q1.2 y2 1).bind (fun y3 => (if q1.1 = y3 then (cal d m_Mo_lifts [(107, x0), (0, x1)] q1.2).bind (fun q4 => (if 0 < q4.1 then some (1, q4.2) else some (0, q4.2))) else some (0, q1.2))))) := (cal_blk [] 24 d m_Mo_canGo _ h rfl).trans rfl
set_option maxRecDepth 20000 in
theorem k_Mo_house (d : Nat) (x0 : Int) (x1 : Int) (x2 : Int) (h : AH) : cal (d + 1) m_Mo_house [(107, x0), (0, x1), (0, x2)] h = (cal d m_Mo_isHouse [(107, x0), (0, x1)] h).bind (fun q1 => (if q1.1 = 0 then some ((-2), q1.2) else (rdr 7 q1.2 x0 0).bind (fun y2 => (rda 20 q1.2 y2 (a_add 5 x1)).bind (fun y3 => (rdr 7 q1.2 x0 0).bind (fun y4 => (rda 20 q1.2 y4 (a_add 15 x1)).bind (fun y5 => (if x2 = 0 then some (y3, q1.2) else (if x2 = 1 then some (y5, q1.2) else (if x2 = 2 then (cal d m_Mo_liftsOf [(0, y3), (0, y5)] q1.2).bind (fun q8 => some (q8.1, q8.2)) else (if x2 = 3 then (cal d m_Mo_takesOne [(0, y3), (0, y5)] q1.2).bind (fun q7 => (if q7.1 = 0 then some (0, q7.2) else some (1, q7.2))) else (if x2 = 4 then (cal d m_Mo_yieldsAll [(0, y3), (0, y5)] q1.2).bind (fun q6 => (if q6.1 = 0 then some (0, q6.2) else some (1, q6.2))) else some ((-3), q1.2)))))))))))) := (cal_blk [] 55 d m_Mo_house _ h rfl).trans rfl
set_option maxRecDepth 20000 in
theorem k_Mo_as (d : Nat) (x0 : Int) (x1 : Int) (x2 : Int) (h : AH) : cal (d + 1) m_Mo_as [(107, x0), (0, x1), (0, x2)] h = (cal d m_Mo_isHouse [(107, x0), (0, x1)] h).bind (fun q1 => (if q1.1 = 0 then some ((-2), q1.2) else (cal d m_Mo_in [(2, x2), (2, 0), (2, 5)] q1.2).bind (fun q2 => (if q2.1 = 0 then some ((-3), q2.2) else (rdr 7 q2.2 x0 0).bind (fun y3 => (rda 20 q2.2 y3 (a_add 5 x1)).bind (fun y4 => (if x2 = 0 then run (d + 1) m_Mo_as 66 [(107, x0), (0, x1), (0, x2), (0, y4), (9, 0)] [] q2.2 else (if x2 = a_add y4 1 then run (d + 1) m_Mo_as 66 [(107, x0), (0, x1), (0, x2), (0, y4), (9, 0)] [] q2.2 else (if x2 = 1 then (if y4 < 3 then run (d + 1) m_Mo_as 66 [(107, x0), (0, x1), (0, x2), (0, y4), (9, 0)] [] q2.2 else (if x2 = 4 then (if y4 = 4 then run (d + 1) m_Mo_as 66 [(107, x0), (0, x1), (0, x2), (0, y4), (9, 0)] [] q2.2 else some ((-4), q2.2)) else some ((-4), q2.2))) else (if x2 = 4 then (if y4 = 4 then run (d + 1) m_Mo_as 66 [(107, x0), (0, x1), (0, x2), (0, y4), (9, 0)] [] q2.2 else some ((-4), q2.2)) else some ((-4), q2.2))))))))))) := (cal_blk [66] 80 d m_Mo_as _ h rfl).trans rfl
set_option maxRecDepth 20000 in
theorem k_Mo_as_66 (d : Nat) (x0 : Int) (x1 : Int) (x2 : Int) (x3 : Int) (v4 : AV) (h : AH) : run (d + 1) m_Mo_as 66 [(107, x0), (0, x1), (0, x2), (0, x3), v4] [] h = (cal d m_Mo_liftsOf [(0, x3), (0, 7)] h).bind (fun q1 => some (q1.1, q1.2)) := (run_blk [66] 15 d m_Mo_as 66 _ _ h).trans rfl
set_option maxRecDepth 20000 in
theorem k_Mo_next (d : Nat) (x0 : Int) (x1 : Int) (h : AH) : cal (d + 1) m_Mo_next [(107, x0), (0, x1)] h = (rdr 7 h x0 0).bind (fun y1 => (rda 20 h y1 0).bind (fun y2 => (if a_mul 2 y2 = 0 then none else some (a_rem (a_add x1 1) (a_mul 2 y2), h)))) := (cal_blk [] 16 d m_Mo_next _ h rfl).trans rfl
set_option maxRecDepth 20000 in
theorem k_Mo_ahead (d : Nat) (x0 : Int) (x1 : Int) (h : AH) : cal (d + 1) m_Mo_ahead [(107, x0), (0, x1)] h = (rdr 7 h x0 0).bind (fun y1 => (rda 20 h y1 0).bind (fun y2 => (rdr 7 h x0 0).bind (fun y3 => (rda 20 h y3 0).bind (fun y4 => (if a_mul 2 y4 = 0 then none else some (a_rem (a_sub (a_add x1 (a_mul 2 y2)) 1) (a_mul 2 y4), h)))))) := (cal_blk [] 23 d m_Mo_ahead _ h rfl).trans rfl
set_option maxRecDepth 20000 in
theorem k_Mo_anyTakes (d : Nat) (x0 : Int) (x1 : Int) (h : AH) : cal (d + 1) m_Mo_anyTakes [(107, x0), (0, x1)] h = run (d + 1) m_Mo_anyTakes 4 [(107, x0), (0, x1), (0, 0), (0, 0)] [] h := (cal_blk [4] 10 d m_Mo_anyTakes _ h rfl).trans rfl
set_option maxRecDepth 20000 in
theorem k_Mo_anyTakes_4 (d : Nat) (x0 : Int) (x1 : Int) (x2 : Int) (x3 : Int) (h : AH) : run (d + 1) m_Mo_anyTakes 4 [(107, x0), (0, x1), (0, x2), (0, x3)] [] h = (rdr 7 h x0 0).bind (fun y1 => (rda 20 h y1 0).bind (fun y2 => (if x3 < a_mul 2 y2 then (if x2 = 0 then (if x3 = x1 then run (d + 1) m_Mo_anyTakes 4 [(107, x0), (0, x1), (0, 0), (0, a_add x3 1)] [] h else (rdr 7 h x0 0).bind (fun y3 => (rda 20 h y3 (a_add 5 x3)).bind (fun y4 => (rdr 7 h x0 0).bind (fun y5 => (rda 20 h y5 (a_add 15 x3)).bind (fun y6 => (cal d m_Mo_takesOne [(0, y4), (0, y6)] h).bind (fun q7 => (if q7.1 = 0 then run (d + 1) m_Mo_anyTakes 4 [(107, x0), (0, x1), (0, 0), (0, a_add x3 1)] [] q7.2 else run (d + 1) m_Mo_anyTakes 4 [(107, x0), (0, x1), (0, 1), (0, a_add x3 1)] [] q7.2))))))) else run (d + 1) m_Mo_anyTakes 4 [(107, x0), (0, x1), (0, 1), (0, a_add x3 1)] [] h) else (if x2 = 0 ∨ x2 = 1 then some (x2, h) else none)))) := (run_blk [4] 56 d m_Mo_anyTakes 4 _ _ h).trans rfl
set_option maxRecDepth 20000 in
theorem k_Mo_goes (d : Nat) (x0 : Int) (x1 : Int) (h : AH) : cal (d + 1) m_Mo_goes [(107, x0), (0, x1)] h = (rdr 7 h x0 0).bind (fun y1 => (rda 20 h y1 1).bind (fun y2 => (cal d m_Mo_lifts [(107, x0), (0, x1)] h).bind (fun q3 => (rdr 7 q3.2 x0 0).bind (fun y4 => (rda 20 q3.2 y4 (a_add 15 x1)).bind (fun y5 => (wra 20 q3.2 y4 (a_add 15 x1) (a_sub y5 q3.1)).bind (fun h6 => run (d + 1) m_Mo_goes 29 [(107, x0), (0, x1), (0, y2), (0, q3.1), (0, x1), (9, 0), (9, 0)] [] h6)))))) := (cal_blk [29, 49, 125, 202] 27 d m_Mo_goes _ h rfl).trans rfl
set_option maxRecDepth 20000 in
theorem k_Mo_goes_29 (d : Nat) (x0 : Int) (x1 : Int) (x2 : Int) (x3 : Int) (x4 : Int) (v5 : AV) (v6 : AV) (h : AH) : run (d + 1) m_Mo_goes 29 [(107, x0), (0, x1), (0, x2), (0, x3), (0, x4), v5, v6] [] h = (if 0 < x3 then (cal d m_Mo_anyTakes [(107, x0), (0, x1)] h).bind (fun q1 => (if q1.1 = 0 then (if x3 = 0 then run (d + 1) m_Mo_goes 125 [(107, x0), (0, x1), (0, x2), (0, x3), (0, x4), (0, x3), (0, 1)] [] q1.2 else run (d + 1) m_Mo_goes 125 [(107, x0), (0, x1), (0, x2), (0, x3), (0, x4), (0, x3), (0, 0)] [] q1.2) else (cal d m_Mo_next [(107, x0), (0, x4)] q1.2).bind (fun q2 => run (d + 1) m_Mo_goes 49 [(107, x0), (0, x1), (0, x2), (0, x3), (0, q2.1), v5, v6] [] q2.2))) else (if x3 = 0 then run (d + 1) m_Mo_goes 125 [(107, x0), (0, x1), (0, x2), (0, x3), (0, x4), (0, x3), (0, 1)] [] h else run (d + 1) m_Mo_goes 125 [(107, x0), (0, x1), (0, x2), (0, x3), (0, x4), (0, x3), (0, 0)] [] h)) := (run_blk [29, 49, 125, 202] 38 d m_Mo_goes 29 _ _ h).trans rfl
set_option maxRecDepth 20000 in
theorem k_Mo_goes_49 (d : Nat) (x0 : Int) (x1 : Int) (x2 : Int) (x3 : Int) (x4 : Int) (v5 : AV) (v6 : AV) (h : AH) : run (d + 1) m_Mo_goes 49 [(107, x0), (0, x1), (0, x2), (0, x3), (0, x4), v5, v6] [] h = (if x4 = x1 then (cal d m_Mo_next [(107, x0), (0, x4)] h).bind (fun q1 => run (d + 1) m_Mo_goes 49 [(107, x0), (0, x1), (0, x2), (0, x3), (0, q1.1), v5, v6] [] q1.2) else (rdr 7 h x0 0).bind (fun y2 => (rda 20 h y2 (a_add 5 x4)).bind (fun y3 => (rdr 7 h x0 0).bind (fun y4 => (rda 20 h y4 (a_add 15 x4)).bind (fun y5 => (cal d m_Mo_takesOne [(0, y3), (0, y5)] h).bind (fun q6 => (if q6.1 = 0 then (cal d m_Mo_next [(107, x0), (0, x4)] q6.2).bind (fun q7 => run (d + 1) m_Mo_goes 49 [(107, x0), (0, x1), (0, x2), (0, x3), (0, q7.1), v5, v6] [] q7.2) else (rdr 7 q6.2 x0 0).bind (fun y8 => (rda 20 q6.2 y8 (a_add 15 x4)).bind (fun y9 => (wra 20 q6.2 y8 (a_add 15 x4) (a_add y9 1)).bind (fun h10 => run (d + 1) m_Mo_goes 29 [(107, x0), (0, x1), (0, x2), (0, a_add x3 (-1)), (0, x4), v5, v6] [] h10)))))))))) := (run_blk [29, 49, 125, 202] 47 d m_Mo_goes 49 _ _ h).trans rfl
set_option maxRecDepth 20000 in
theorem k_Mo_goes_125 (d : Nat) (x0 : Int) (x1 : Int) (x2 : Int) (x3 : Int) (x4 : Int) (x5 : Int) (x6 : Int) (h : AH) : run (d + 1) m_Mo_goes 125 [(107, x0), (0, x1), (0, x2), (0, x3), (0, x4), (0, x5), (0, x6)] [] h = (if x6 = 0 then run (d + 1) m_Mo_goes 202 [(107, x0), (0, x1), (0, x2), (0, x3), (0, x4), (0, x5), (0, x6)] [] h else (cal d m_Mo_sideOf [(107, x0), (0, x4)] h).bind (fun q1 => (if q1.1 = x2 then run (d + 1) m_Mo_goes 202 [(107, x0), (0, x1), (0, x2), (0, x3), (0, x4), (0, x5), (0, x6)] [] q1.2 else (rdr 7 q1.2 x0 0).bind (fun y2 => (rda 20 q1.2 y2 (a_add 5 x4)).bind (fun y3 => (rdr 7 q1.2 x0 0).bind (fun y4 => (rda 20 q1.2 y4 (a_add 15 x4)).bind (fun y5 => (cal d m_Mo_yieldsAll [(0, y3), (0, y5)] q1.2).bind (fun q6 => (if q6.1 = 0 then run (d + 1) m_Mo_goes 202 [(107, x0), (0, x1), (0, x2), (0, x3), (0, x4), (0, x5), (0, x6)] [] q6.2 else (rdr 7 q6.2 x0 0).bind (fun y7 => (rda 20 q6.2 y7 (a_add 15 x4)).bind (fun y8 => (rdr 7 q6.2 x0 0).bind (fun y9 => (wra 20 q6.2 y9 (a_add 15 x4) 0).bind (fun h10 => (cal d m_Mo_ahead [(107, x0), (0, x4)] h10).bind (fun q11 => run (d + 1) m_Mo_goes 125 [(107, x0), (0, x1), (0, x2), (0, x3), (0, q11.1), (0, a_add x5 y8), (0, x6)] [] q11.2)))))))))))))) := (run_blk [29, 49, 125, 202] 51 d m_Mo_goes 125 _ _ h).trans rfl
set_option maxRecDepth 20000 in
theorem k_Mo_goes_202 (d : Nat) (x0 : Int) (x1 : Int) (x2 : Int) (x3 : Int) (x4 : Int) (x5 : Int) (x6 : Int) (h : AH) : run (d + 1) m_Mo_goes 202 [(107, x0), (0, x1), (0, x2), (0, x3), (0, x4), (0, x5), (0, x6)] [] h = (rdr 7 h x0 0).bind (fun y1 => (rda 20 h y1 (a_add 2 x2)).bind (fun y2 => (wra 20 h y1 (a_add 2 x2) (a_add y2 x5)).bind (fun h3 => (rdr 7 h3 x0 0).bind (fun y4 => (wra 20 h3 y4 1 (a_sub 1 x2)).bind (fun h5 => (rdr 7 h5 x0 0).bind (fun y6 => (rda 20 h5 y6 4).bind (fun y7 => (wra 20 h5 y6 4 (a_add y7 1)).bind (fun h8 => some (x5, h8))))))))) := (run_blk [29, 49, 125, 202] 32 d m_Mo_goes 202 _ _ h).trans rfl
set_option maxRecDepth 20000 in
theorem k_Mo_notes (d : Nat) (x0 : Int) (h : AH) : cal (d + 1) m_Mo_notes [(107, x0)] h = (rdf 7 h x0 11).bind (fun y1 => (if y1 = 8 then run (d + 1) m_Mo_notes 12 [(107, x0), (0, 25)] [] h else run (d + 1) m_Mo_notes 48 [(107, x0), (0, 0)] [] h)) := (cal_blk [12, 48] 15 d m_Mo_notes _ h rfl).trans rfl
set_option maxRecDepth 20000 in
theorem k_Mo_notes_12 (d : Nat) (x0 : Int) (x1 : Int) (h : AH) : run (d + 1) m_Mo_notes 12 [(107, x0), (0, x1)] [] h = (if x1 < 200 then (rdr 7 h x0 10).bind (fun y1 => (rdr 7 h x0 10).bind (fun y2 => (rda 20 h y2 x1).bind (fun y3 => (wra 20 h y1 (a_sub x1 25) y3).bind (fun h4 => run (d + 1) m_Mo_notes 12 [(107, x0), (0, a_add x1 1)] [] h4)))) else (wrf 7 h x0 11 7).bind (fun h5 => run (d + 1) m_Mo_notes 48 [(107, x0), (0, 0)] [] h5)) := (run_blk [12, 48] 27 d m_Mo_notes 12 _ _ h).trans rfl
set_option maxRecDepth 20000 in
theorem k_Mo_notes_48 (d : Nat) (x0 : Int) (x1 : Int) (h : AH) : run (d + 1) m_Mo_notes 48 [(107, x0), (0, x1)] [] h = (if x1 < 25 then (rdr 7 h x0 10).bind (fun y1 => (rdf 7 h x0 11).bind (fun y2 => (rdr 7 h x0 0).bind (fun y3 => (rda 20 h y3 x1).bind (fun y4 => (wra 20 h y1 (a_add (a_mul 25 y2) x1) y4).bind (fun h5 => run (d + 1) m_Mo_notes 48 [(107, x0), (0, a_add x1 1)] [] h5))))) else (rdf 7 h x0 11).bind (fun y6 => (wrf 7 h x0 11 (a_add y6 1)).bind (fun h7 => some (0, h7)))) := (run_blk [12, 48] 31 d m_Mo_notes 48 _ _ h).trans rfl
set_option maxRecDepth 20000 in
theorem k_Mo_move (d : Nat) (x0 : Int) (x1 : Int) (h : AH) : cal (d + 1) m_Mo_move [(107, x0), (0, x1)] h = (cal d m_Mo_isHouse [(107, x0), (0, x1)] h).bind (fun q1 => (if q1.1 = 0 then some ((-2), q1.2) else (cal d m_Mo_canGo [(107, x0), (0, x1)] q1.2).bind (fun q2 => (if q2.1 = 0 then some ((-4), q2.2) else (rdr 7 q2.2 x0 0).bind (fun y3 => (rda 20 q2.2 y3 4).bind (fun y4 => (if y4 = 999 then some ((-5), q2.2) else (cal d m_Mo_notes [(107, x0)] q2.2).bind (fun q5 => (cal d m_Mo_goes [(107, x0), (0, x1)] q5.2).bind (fun q6 => some (q6.1, q6.2)))))))))) := (cal_blk [] 31 d m_Mo_move _ h rfl).trans rfl
set_option maxRecDepth 20000 in
theorem k_Mo_drop (d : Nat) (x0 : Int) (x1 : Int) (x2 : Int) (h : AH) : cal (d + 1) m_Mo_drop [(107, x0), (0, x1), (0, x2)] h = (cal d m_Mo_isHouse [(107, x0), (0, x1)] h).bind (fun q1 => (if q1.1 = 0 then some ((-2), q1.2) else (cal d m_Mo_in [(2, x2), (2, 1), (2, 30)] q1.2).bind (fun q2 => (if q2.1 = 0 then some ((-3), q2.2) else (rdr 7 q2.2 x0 0).bind (fun y3 => (rda 20 q2.2 y3 (a_add 15 x1)).bind (fun y4 => (if y4 = 99 then some ((-4), q2.2) else (cal d m_Mo_notes [(107, x0)] q2.2).bind (fun q5 => (rdr 7 q5.2 x0 0).bind (fun y6 => (if 99 < a_add y4 x2 then (wra 20 q5.2 y6 (a_add 15 x1) 99).bind (fun h7 => (rdr 7 h7 x0 0).bind (fun y8 => (rda 20 h7 y8 (a_add 15 x1)).bind (fun y9 => some (y9, h7)))) else (wra 20 q5.2 y6 (a_add 15 x1) (a_add y4 x2)).bind (fun h10 => (rdr 7 h10 x0 0).bind (fun y11 => (rda 20 h10 y11 (a_add 15 x1)).bind (fun y12 => some (y12, h10)))))))))))))) := (cal_blk [] 64 d m_Mo_drop _ h rfl).trans rfl
set_option maxRecDepth 20000 in
theorem k_Mo_swap (d : Nat) (x0 : Int) (x1 : Int) (x2 : Int) (h : AH) : cal (d + 1) m_Mo_swap [(107, x0), (0, x1), (0, x2)] h = (cal d m_Mo_isHouse [(107, x0), (0, x1)] h).bind (fun q1 => (if q1.1 = 0 then some ((-2), q1.2) else (cal d m_Mo_isHouse [(107, x0), (0, x2)] q1.2).bind (fun q2 => (if q2.1 = 0 then some ((-2), q2.2) else (if x1 = x2 then some ((-2), q2.2) else (rdr 7 q2.2 x0 0).bind (fun y3 => (rda 20 q2.2 y3 (a_add 5 x1)).bind (fun y4 => (rdr 7 q2.2 x0 0).bind (fun y5 => (rda 20 q2.2 y5 (a_add 5 x2)).bind (fun y6 => (if y4 = y6 then some ((-4), q2.2) else (cal d m_Mo_notes [(107, x0)] q2.2).bind (fun q7 => (rdr 7 q7.2 x0 0).bind (fun y8 => (wra 20 q7.2 y8 (a_add 5 x1) y6).bind (fun h9 => (rdr 7 h9 x0 0).bind (fun y10 => (wra 20 h9 y10 (a_add 5 x2) y4).bind (fun h11 => some (y6, h11)))))))))))))))) := (cal_blk [] 59 d m_Mo_swap _ h rfl).trans rfl
set_option maxRecDepth 20000 in
theorem k_Mo_undo (d : Nat) (x0 : Int) (h : AH) : cal (d + 1) m_Mo_undo [(107, x0)] h = (rdf 7 h x0 11).bind (fun y1 => (if y1 = 0 then some ((-4), h) else (rdf 7 h x0 11).bind (fun y2 => (wrf 7 h x0 11 (a_sub y2 1)).bind (fun h3 => run (d + 1) m_Mo_undo 22 [(107, x0), (0, 0)] [] h3)))) := (cal_blk [22] 19 d m_Mo_undo _ h rfl).trans rfl
set_option maxRecDepth 20000 in
theorem k_Mo_undo_22 (d : Nat) (x0 : Int) (x1 : Int) (h : AH) : run (d + 1) m_Mo_undo 22 [(107, x0), (0, x1)] [] h = (if x1 < 25 then (rdr 7 h x0 0).bind (fun y1 => (rdr 7 h x0 10).bind (fun y2 => (rdf 7 h x0 11).bind (fun y3 => (rda 20 h y2 (a_add (a_mul 25 y3) x1)).bind (fun y4 => (wra 20 h y1 x1 y4).bind (fun h5 => run (d + 1) m_Mo_undo 22 [(107, x0), (0, a_add x1 1)] [] h5))))) else (rdf 7 h x0 11).bind (fun y6 => some (y6, h))) := (run_blk [22] 27 d m_Mo_undo 22 _ _ h).trans rfl
set_option maxRecDepth 20000 in
theorem k_Mo_keep (d : Nat) (x0 : Int) (x1 : Int) (h : AH) : cal (d + 1) m_Mo_keep [(107, x0), (0, x1)] h = (cal d m_Mo_in [(2, x1), (2, 0), (2, 1)] h).bind (fun q1 => (if q1.1 = 0 then some ((-2), q1.2) else run (d + 1) m_Mo_keep 15 [(107, x0), (0, x1), (0, 0)] [] q1.2)) := (cal_blk [15] 16 d m_Mo_keep _ h rfl).trans rfl
set_option maxRecDepth 20000 in
theorem k_Mo_keep_15 (d : Nat) (x0 : Int) (x1 : Int) (x2 : Int) (h : AH) : run (d + 1) m_Mo_keep 15 [(107, x0), (0, x1), (0, x2)] [] h = (if x2 < 25 then (rdr 7 h x0 12).bind (fun y1 => (rdr 7 h x0 0).bind (fun y2 => (rda 20 h y2 x2).bind (fun y3 => (wra 20 h y1 (a_add (a_mul 25 x1) x2) y3).bind (fun h4 => run (d + 1) m_Mo_keep 15 [(107, x0), (0, x1), (0, a_add x2 1)] [] h4)))) else (rdf 7 h x0 13).bind (fun y5 => (wrf 7 h x0 13 (a_or y5 (a_shl 1 x1))).bind (fun h6 => (rdr 7 h6 x0 0).bind (fun y7 => (rda 20 h6 y7 4).bind (fun y8 => some (y8, h6)))))) := (run_blk [15] 36 d m_Mo_keep 15 _ _ h).trans rfl
set_option maxRecDepth 20000 in
theorem k_Mo_back (d : Nat) (x0 : Int) (x1 : Int) (h : AH) : cal (d + 1) m_Mo_back [(107, x0), (0, x1)] h = (cal d m_Mo_in [(2, x1), (2, 0), (2, 1)] h).bind (fun q1 => (if q1.1 = 0 then some ((-2), q1.2) else (rdf 7 q1.2 x0 13).bind (fun y2 => (if a_and (a_shr y2 x1) 1 = 0 then some ((-4), q1.2) else run (d + 1) m_Mo_back 29 [(107, x0), (0, x1), (0, 0)] [] q1.2)))) := (cal_blk [29] 25 d m_Mo_back _ h rfl).trans rfl
set_option maxRecDepth 20000 in
theorem k_Mo_back_29 (d : Nat) (x0 : Int) (x1 : Int) (x2 : Int) (h : AH) : run (d + 1) m_Mo_back 29 [(107, x0), (0, x1), (0, x2)] [] h = (if x2 < 25 then (rdr 7 h x0 0).bind (fun y1 => (rdr 7 h x0 12).bind (fun y2 => (rda 20 h y2 (a_add (a_mul 25 x1) x2)).bind (fun y3 => (wra 20 h y1 x2 y3).bind (fun h4 => run (d + 1) m_Mo_back 29 [(107, x0), (0, x1), (0, a_add x2 1)] [] h4)))) else (wrf 7 h x0 11 0).bind (fun h5 => (rdr 7 h5 x0 0).bind (fun y6 => (rda 20 h5 y6 4).bind (fun y7 => some (y7, h5))))) := (run_blk [29] 31 d m_Mo_back 29 _ _ h).trans rfl
set_option maxRecDepth 20000 in
theorem k_Mo_asides (d : Nat) (x0 : Int) (h : AH) : cal (d + 1) m_Mo_asides [(107, x0)] h = run (d + 1) m_Mo_asides 2 [(107, x0), (0, 0)] [] h := (cal_blk [2] 8 d m_Mo_asides _ h rfl).trans rfl
set_option maxRecDepth 20000 in
theorem k_Mo_asides_2 (d : Nat) (x0 : Int) (x1 : Int) (h : AH) : run (d + 1) m_Mo_asides 2 [(107, x0), (0, x1)] [] h = (if x1 < 25 then (rdr 7 h x0 14).bind (fun y1 => (rdr 7 h x0 0).bind (fun y2 => (rda 20 h y2 x1).bind (fun y3 => (wra 20 h y1 x1 y3).bind (fun h4 => run (d + 1) m_Mo_asides 2 [(107, x0), (0, a_add x1 1)] [] h4)))) else some (0, h)) := (run_blk [2] 20 d m_Mo_asides 2 _ _ h).trans rfl
set_option maxRecDepth 20000 in
theorem k_Mo_backs (d : Nat) (x0 : Int) (h : AH) : cal (d + 1) m_Mo_backs [(107, x0)] h = run (d + 1) m_Mo_backs 2 [(107, x0), (0, 0)] [] h := (cal_blk [2] 8 d m_Mo_backs _ h rfl).trans rfl
set_option maxRecDepth 20000 in
theorem k_Mo_backs_2 (d : Nat) (x0 : Int) (x1 : Int) (h : AH) : run (d + 1) m_Mo_backs 2 [(107, x0), (0, x1)] [] h = (if x1 < 25 then (rdr 7 h x0 0).bind (fun y1 => (rdr 7 h x0 14).bind (fun y2 => (rda 20 h y2 x1).bind (fun y3 => (wra 20 h y1 x1 y3).bind (fun h4 => run (d + 1) m_Mo_backs 2 [(107, x0), (0, a_add x1 1)] [] h4)))) else some (0, h)) := (run_blk [2] 20 d m_Mo_backs 2 _ _ h).trans rfl
set_option maxRecDepth 20000 in
theorem k_Mo_lead (d : Nat) (x0 : Int) (h : AH) : cal (d + 1) m_Mo_lead [(107, x0)] h = (rdr 7 h x0 0).bind (fun y1 => (rda 20 h y1 2).bind (fun y2 => (rdr 7 h x0 0).bind (fun y3 => (rda 20 h y3 3).bind (fun y4 => some (a_sub y2 y4, h))))) := (cal_blk [] 15 d m_Mo_lead _ h rfl).trans rfl
set_option maxRecDepth 20000 in
theorem k_Mo_wouldBring (d : Nat) (x0 : Int) (x1 : Int) (h : AH) : cal (d + 1) m_Mo_wouldBring [(107, x0), (0, x1)] h = run (d + 1) m_Mo_wouldBring 2 [(107, x0), (0, x1), (0, 0), (9, 0)] [] h := (cal_blk [2, 38] 8 d m_Mo_wouldBring _ h rfl).trans rfl
set_option maxRecDepth 20000 in
theorem k_Mo_wouldBring_2 (d : Nat) (x0 : Int) (x1 : Int) (x2 : Int) (v3 : AV) (h : AH) : run (d + 1) m_Mo_wouldBring 2 [(107, x0), (0, x1), (0, x2), v3] [] h = (if x2 < 25 then (rdr 7 h x0 15).bind (fun y1 => (rdr 7 h x0 0).bind (fun y2 => (rda 20 h y2 x2).bind (fun y3 => (wra 20 h y1 (a_add 150 x2) y3).bind (fun h4 => run (d + 1) m_Mo_wouldBring 2 [(107, x0), (0, x1), (0, a_add x2 1), v3] [] h4)))) else (cal d m_Mo_goes [(107, x0), (0, x1)] h).bind (fun q5 => run (d + 1) m_Mo_wouldBring 38 [(107, x0), (0, x1), (0, q5.1), (0, 0)] [] q5.2)) := (run_blk [2, 38] 28 d m_Mo_wouldBring 2 _ _ h).trans rfl
set_option maxRecDepth 20000 in
theorem k_Mo_wouldBring_38 (d : Nat) (x0 : Int) (x1 : Int) (x2 : Int) (x3 : Int) (h : AH) : run (d + 1) m_Mo_wouldBring 38 [(107, x0), (0, x1), (0, x2), (0, x3)] [] h = (if x3 < 25 then (rdr 7 h x0 0).bind (fun y1 => (rdr 7 h x0 15).bind (fun y2 => (rda 20 h y2 (a_add 150 x3)).bind (fun y3 => (wra 20 h y1 x3 y3).bind (fun h4 => run (d + 1) m_Mo_wouldBring 38 [(107, x0), (0, x1), (0, x2), (0, a_add x3 1)] [] h4)))) else some (x2, h)) := (run_blk [2, 38] 23 d m_Mo_wouldBring 38 _ _ h).trans rfl
set_option maxRecDepth 20000 in
theorem k_Mo_brings (d : Nat) (x0 : Int) (x1 : Int) (h : AH) : cal (d + 1) m_Mo_brings [(107, x0), (0, x1)] h = (cal d m_Mo_isHouse [(107, x0), (0, x1)] h).bind (fun q1 => (if q1.1 = 0 then some ((-2), q1.2) else (cal d m_Mo_canGo [(107, x0), (0, x1)] q1.2).bind (fun q2 => (if q2.1 = 0 then some ((-4), q2.2) else (cal d m_Mo_wouldBring [(107, x0), (0, x1)] q2.2).bind (fun q3 => some (q3.1, q3.2)))))) := (cal_blk [] 22 d m_Mo_brings _ h rfl).trans rfl
set_option maxRecDepth 20000 in
theorem k_Mo_noted (d : Nat) (x0 : Int) (x1 : Int) (h : AH) : cal (d + 1) m_Mo_noted [(107, x0), (0, x1)] h = (wrf 7 h x0 20 x1).bind (fun h1 => some (0, h1)) := (cal_blk [] 9 d m_Mo_noted _ h rfl).trans rfl
set_option maxRecDepth 20000 in
theorem k_Mo_begins (d : Nat) (x0 : Int) (x1 : Int) (h : AH) : cal (d + 1) m_Mo_begins [(107, x0), (0, x1)] h = run (d + 1) m_Mo_begins 2 [(107, x0), (0, x1), (0, 0)] [] h := (cal_blk [2, 47] 8 d m_Mo_begins _ h rfl).trans rfl
set_option maxRecDepth 20000 in
theorem k_Mo_begins_2 (d : Nat) (x0 : Int) (x1 : Int) (x2 : Int) (h : AH) : run (d + 1) m_Mo_begins 2 [(107, x0), (0, x1), (0, x2)] [] h = (if x2 < 25 then (rdr 7 h x0 15).bind (fun y1 => (rdr 7 h x0 0).bind (fun y2 => (rda 20 h y2 x2).bind (fun y3 => (wra 20 h y1 (a_add (a_mul 25 x1) x2) y3).bind (fun h4 => run (d + 1) m_Mo_begins 2 [(107, x0), (0, x1), (0, a_add x2 1)] [] h4)))) else (rdr 7 h x0 16).bind (fun y5 => (wra 20 h y5 x1 0).bind (fun h6 => (rdr 7 h6 x0 18).bind (fun y7 => (wrab 21 h6 y7 x1 0).bind (fun h8 => run (d + 1) m_Mo_begins 47 [(107, x0), (0, x1), (0, x1)] [] h8))))) := (run_blk [2, 47] 36 d m_Mo_begins 2 _ _ h).trans rfl
set_option maxRecDepth 20000 in
theorem k_Mo_begins_47 (d : Nat) (x0 : Int) (x1 : Int) (x2 : Int) (h : AH) : run (d + 1) m_Mo_begins 47 [(107, x0), (0, x1), (0, x2)] [] h = (if x2 < 6 then (rdr 7 h x0 19).bind (fun y1 => (wra 20 h y1 (a_add (a_mul 6 x1) x2) (-1)).bind (fun h2 => run (d + 1) m_Mo_begins 47 [(107, x0), (0, x1), (0, a_add x2 1)] [] h2)) else some (0, h)) := (run_blk [2, 47] 21 d m_Mo_begins 47 _ _ h).trans rfl
set_option maxRecDepth 20000 in
theorem k_Mo_laysBack (d : Nat) (x0 : Int) (x1 : Int) (h : AH) : cal (d + 1) m_Mo_laysBack [(107, x0), (0, x1)] h = run (d + 1) m_Mo_laysBack 2 [(107, x0), (0, x1), (0, 0)] [] h := (cal_blk [2] 8 d m_Mo_laysBack _ h rfl).trans rfl
set_option maxRecDepth 20000 in
theorem k_Mo_laysBack_2 (d : Nat) (x0 : Int) (x1 : Int) (x2 : Int) (h : AH) : run (d + 1) m_Mo_laysBack 2 [(107, x0), (0, x1), (0, x2)] [] h = (if x2 < 25 then (rdr 7 h x0 0).bind (fun y1 => (rdr 7 h x0 15).bind (fun y2 => (rda 20 h y2 (a_add (a_mul 25 x1) x2)).bind (fun y3 => (wra 20 h y1 x2 y3).bind (fun h4 => run (d + 1) m_Mo_laysBack 2 [(107, x0), (0, x1), (0, a_add x2 1)] [] h4)))) else some (0, h)) := (run_blk [2] 24 d m_Mo_laysBack 2 _ _ h).trans rfl
set_option maxRecDepth 20000 in
theorem k_Mo_ends (d : Nat) (x0 : Int) (x1 : Int) (x2 : Int) (h : AH) : cal (d + 1) m_Mo_ends [(107, x0), (0, x1), (0, x2)] h = (rdr 7 h x0 15).bind (fun y1 => (rda 20 h y1 (a_add (a_mul 25 x1) 1)).bind (fun y2 => (if y2 = 0 then (rdr 7 h x0 18).bind (fun y3 => (rda 21 h y3 x1).bind (fun y4 => (if y4 = 0 then run (d + 1) m_Mo_ends 56 [(107, x0), (0, x1), (0, x2), (0, 1), (9, 0), (9, 0)] [] h else (rdr 7 h x0 17).bind (fun y5 => (rda 20 h y5 x1).bind (fun y6 => (if y6 < x2 then run (d + 1) m_Mo_ends 56 [(107, x0), (0, x1), (0, x2), (0, 1), (9, 0), (9, 0)] [] h else run (d + 1) m_Mo_ends 60 [(107, x0), (0, x1), (0, x2), (0, 1), (9, 0), (9, 0)] [] h)))))) else (rdr 7 h x0 18).bind (fun y7 => (rda 21 h y7 x1).bind (fun y8 => (if y8 = 0 then run (d + 1) m_Mo_ends 56 [(107, x0), (0, x1), (0, x2), (0, 0), (9, 0), (9, 0)] [] h else (rdr 7 h x0 17).bind (fun y9 => (rda 20 h y9 x1).bind (fun y10 => (if x2 < y10 then run (d + 1) m_Mo_ends 56 [(107, x0), (0, x1), (0, x2), (0, 0), (9, 0), (9, 0)] [] h else run (d + 1) m_Mo_ends 60 [(107, x0), (0, x1), (0, x2), (0, 0), (9, 0), (9, 0)] [] h))))))))) := (cal_blk [56, 60, 104] 52 d m_Mo_ends _ h rfl).trans rfl
set_option maxRecDepth 20000 in
theorem k_Mo_ends_56 (d : Nat) (x0 : Int) (x1 : Int) (x2 : Int) (x3 : Int) (v4 : AV) (v5 : AV) (h : AH) : run (d + 1) m_Mo_ends 56 [(107, x0), (0, x1), (0, x2), (0, x3), v4, v5] [] h = (rdr 7 h x0 17).bind (fun y1 => (wra 20 h y1 x1 x2).bind (fun h2 => (rdr 7 h2 x0 18).bind (fun y3 => (wrab 21 h2 y3 x1 1).bind (fun h4 => (rdr 7 h4 x0 19).bind (fun y5 => (rdr 7 h4 x0 16).bind (fun y6 => (rda 20 h4 y6 x1).bind (fun y7 => (wra 20 h4 y5 (a_add (a_mul 6 x1) x1) y7).bind (fun h8 => run (d + 1) m_Mo_ends 104 [(107, x0), (0, x1), (0, x2), (0, x3), (0, 1), (0, a_add x1 1)] [] h8)))))))) := (run_blk [56, 60, 104] 37 d m_Mo_ends 56 _ _ h).trans rfl
set_option maxRecDepth 20000 in
theorem k_Mo_ends_60 (d : Nat) (x0 : Int) (x1 : Int) (x2 : Int) (x3 : Int) (v4 : AV) (v5 : AV) (h : AH) : run (d + 1) m_Mo_ends 60 [(107, x0), (0, x1), (0, x2), (0, x3), v4, v5] [] h = (rdr 7 h x0 16).bind (fun y1 => (rda 20 h y1 x1).bind (fun y2 => (wra 20 h y1 x1 (a_add y2 1)).bind (fun h3 => some (0, h3)))) := (run_blk [56, 60, 104] 18 d m_Mo_ends 60 _ _ h).trans rfl
set_option maxRecDepth 20000 in
theorem k_Mo_ends_104 (d : Nat) (x0 : Int) (x1 : Int) (x2 : Int) (x3 : Int) (x4 : Int) (x5 : Int) (h : AH) : run (d + 1) m_Mo_ends 104 [(107, x0), (0, x1), (0, x2), (0, x3), (0, x4), (0, x5)] [] h = (if x5 < 6 then (rdr 7 h x0 19).bind (fun y1 => (rdr 7 h x0 19).bind (fun y2 => (rda 20 h y2 (a_add (a_mul 6 (a_add x1 1)) x5)).bind (fun y3 => (wra 20 h y1 (a_add (a_mul 6 x1) x5) y3).bind (fun h4 => run (d + 1) m_Mo_ends 104 [(107, x0), (0, x1), (0, x2), (0, x3), (0, x4), (0, a_add x5 1)] [] h4)))) else (rdr 7 h x0 16).bind (fun y5 => (rda 20 h y5 x1).bind (fun y6 => (wra 20 h y5 x1 (a_add y6 1)).bind (fun h7 => some (0, h7))))) := (run_blk [56, 60, 104] 38 d m_Mo_ends 104 _ _ h).trans rfl
set_option maxRecDepth 20000 in
theorem k_Mo_looksAhead (d : Nat) (x0 : Int) (x1 : Int) (h : AH) : cal (d + 1) m_Mo_looksAhead [(107, x0), (0, x1)] h = (cal d m_Mo_begins [(107, x0), (0, 0)] h).bind (fun q1 => (rdr 7 q1.2 x0 0).bind (fun y2 => (rda 20 q1.2 y2 0).bind (fun y3 => run (d + 1) m_Mo_looksAhead 16 [(107, x0), (0, x1), (0, 0), (0, a_mul 2 y3), (9, 0)] [] q1.2))) := (cal_blk [16, 30, 45] 18 d m_Mo_looksAhead _ h rfl).trans rfl
set_option maxRecDepth 20000 in
theorem k_Mo_looksAhead_16 (d : Nat) (x0 : Int) (x1 : Int) (x2 : Int) (x3 : Int) (v4 : AV) (h : AH) : run (d + 1) m_Mo_looksAhead 16 [(107, x0), (0, x1), (0, x2), (0, x3), v4] [] h = (if 0 < x2 then run (d + 1) m_Mo_looksAhead 30 [(107, x0), (0, x1), (0, x2), (0, x3), v4] [] h else (rdr 7 h x0 16).bind (fun y1 => (rda 20 h y1 0).bind (fun y2 => (if y2 < x3 then run (d + 1) m_Mo_looksAhead 30 [(107, x0), (0, x1), (0, x2), (0, x3), v4] [] h else (cal d m_Mo_laysBack [(107, x0), (0, 0)] h).bind (fun q3 => (rdr 7 q3.2 x0 18).bind (fun y4 => (rda 21 q3.2 y4 0).bind (fun y5 => (if y5 = 0 then (cal d m_Mo_lead [(107, x0)] q3.2).bind (fun q6 => some (q6.1, q6.2)) else (rdr 7 q3.2 x0 17).bind (fun y7 => (rda 20 q3.2 y7 0).bind (fun y8 => some (y8, q3.2))))))))))) := (run_blk [16, 30, 45] 32 d m_Mo_looksAhead 16 _ _ h).trans rfl
set_option maxRecDepth 20000 in
theorem k_Mo_looksAhead_30 (d : Nat) (x0 : Int) (x1 : Int) (x2 : Int) (x3 : Int) (v4 : AV) (h : AH) : run (d + 1) m_Mo_looksAhead 30 [(107, x0), (0, x1), (0, x2), (0, x3), v4] [] h = (if x2 = x1 then run (d + 1) m_Mo_looksAhead 45 [(107, x0), (0, x1), (0, x2), (0, x3), v4] [] h else (rdr 7 h x0 16).bind (fun y1 => (rda 20 h y1 x2).bind (fun y2 => (if y2 = x3 then run (d + 1) m_Mo_looksAhead 45 [(107, x0), (0, x1), (0, x2), (0, x3), v4] [] h else (cal d m_Mo_laysBack [(107, x0), (0, x2)] h).bind (fun q3 => (rdr 7 q3.2 x0 16).bind (fun y4 => (rda 20 q3.2 y4 x2).bind (fun y5 => (cal d m_Mo_canGo [(107, x0), (0, y5)] q3.2).bind (fun q6 => (if q6.1 = 0 then (rdr 7 q6.2 x0 16).bind (fun y7 => (rda 20 q6.2 y7 x2).bind (fun y8 => (wra 20 q6.2 y7 x2 (a_add y8 1)).bind (fun h9 => run (d + 1) m_Mo_looksAhead 16 [(107, x0), (0, x1), (0, x2), (0, x3), v4] [] h9))) else (rdr 7 q6.2 x0 16).bind (fun y10 => (rda 20 q6.2 y10 x2).bind (fun y11 => (cal d m_Mo_goes [(107, x0), (0, y11)] q6.2).bind (fun q12 => (cal d m_Mo_noted [(107, x0), (0, q12.1)] q12.2).bind (fun q13 => (cal d m_Mo_begins [(107, x0), (0, a_add x2 1)] q13.2).bind (fun q14 => run (d + 1) m_Mo_looksAhead 16 [(107, x0), (0, x1), (0, a_add x2 1), (0, x3), v4] [] q14.2)))))))))))))) := (run_blk [16, 30, 45] 50 d m_Mo_looksAhead 30 _ _ h).trans rfl
set_option maxRecDepth 20000 in
theorem k_Mo_looksAhead_45 (d : Nat) (x0 : Int) (x1 : Int) (x2 : Int) (x3 : Int) (v4 : AV) (h : AH) : run (d + 1) m_Mo_looksAhead 45 [(107, x0), (0, x1), (0, x2), (0, x3), v4] [] h = (cal d m_Mo_laysBack [(107, x0), (0, x2)] h).bind (fun q1 => (if x2 = x1 then (cal d m_Mo_lead [(107, x0)] q1.2).bind (fun q2 => (cal d m_Mo_ends [(107, x0), (0, a_add x2 (-1)), (0, q2.1)] q2.2).bind (fun q3 => run (d + 1) m_Mo_looksAhead 16 [(107, x0), (0, x1), (0, a_add x2 (-1)), (0, x3), (0, q2.1)] [] q3.2)) else (rdr 7 q1.2 x0 18).bind (fun y4 => (rda 21 q1.2 y4 x2).bind (fun y5 => (if y5 = 0 then (cal d m_Mo_lead [(107, x0)] q1.2).bind (fun q6 => (cal d m_Mo_ends [(107, x0), (0, a_add x2 (-1)), (0, q6.1)] q6.2).bind (fun q7 => run (d + 1) m_Mo_looksAhead 16 [(107, x0), (0, x1), (0, a_add x2 (-1)), (0, x3), (0, q6.1)] [] q7.2)) else (rdr 7 q1.2 x0 17).bind (fun y8 => (rda 20 q1.2 y8 x2).bind (fun y9 => (cal d m_Mo_ends [(107, x0), (0, a_add x2 (-1)), (0, y9)] q1.2).bind (fun q10 => run (d + 1) m_Mo_looksAhead 16 [(107, x0), (0, x1), (0, a_add x2 (-1)), (0, x3), (0, y9)] [] q10.2)))))))) := (run_blk [16, 30, 45] 50 d m_Mo_looksAhead 45 _ _ h).trans rfl
set_option maxRecDepth 20000 in
theorem k_Mo_best (d : Nat) (x0 : Int) (x1 : Int) (x2 : Int) (h : AH) : cal (d + 1) m_Mo_best [(107, x0), (0, x1), (0, x2)] h = (cal d m_Mo_in [(2, x1), (2, 1), (2, 5)] h).bind (fun q1 => (if q1.1 = 0 then some ((-3), q1.2) else (cal d m_Mo_in [(2, x2), (2, (-1)), (2, 4)] q1.2).bind (fun q2 => (if q2.1 = 0 then some ((-3), q2.2) else (cal d m_Mo_looksAhead [(107, x0), (0, x1)] q2.2).bind (fun q3 => (if x2 < 0 then (rdr 7 q3.2 x0 0).bind (fun y4 => (rda 20 q3.2 y4 1).bind (fun y5 => (if y5 = 0 then some (a_add 5000 q3.1, q3.2) else some (a_add 5000 (a_neg q3.1), q3.2)))) else (rdr 7 q3.2 x0 19).bind (fun y6 => (rda 20 q3.2 y6 x2).bind (fun y7 => some (y7, q3.2))))))))) := (cal_blk [] 48 d m_Mo_best _ h rfl).trans rfl
set_option maxRecDepth 20000 in
theorem k_Mo_rashOne (d : Nat) (x0 : Int) (h : AH) : cal (d + 1) m_Mo_rashOne [(107, x0)] h = run (d + 1) m_Mo_rashOne 6 [(107, x0), (0, (-1)), (0, (-1)), (0, 0), (9, 0)] [] h := (cal_blk [6] 12 d m_Mo_rashOne _ h rfl).trans rfl
set_option maxRecDepth 20000 in
theorem k_Mo_rashOne_6 (d : Nat) (x0 : Int) (x1 : Int) (x2 : Int) (x3 : Int) (v4 : AV) (h : AH) : run (d + 1) m_Mo_rashOne 6 [(107, x0), (0, x1), (0, x2), (0, x3), v4] [] h = (rdr 7 h x0 0).bind (fun y1 => (rda 20 h y1 0).bind (fun y2 => (if x3 < a_mul 2 y2 then (cal d m_Mo_canGo [(107, x0), (0, x3)] h).bind (fun q3 => (if q3.1 = 0 then (if x2 < (-1) then (if x2 < (-1) then run (d + 1) m_Mo_rashOne 6 [(107, x0), (0, x3), (0, (-1)), (0, a_add x3 1), (0, (-1))] [] q3.2 else run (d + 1) m_Mo_rashOne 6 [(107, x0), (0, x3), (0, x2), (0, a_add x3 1), (0, (-1))] [] q3.2) else (if x2 < (-1) then run (d + 1) m_Mo_rashOne 6 [(107, x0), (0, x1), (0, (-1)), (0, a_add x3 1), (0, (-1))] [] q3.2 else run (d + 1) m_Mo_rashOne 6 [(107, x0), (0, x1), (0, x2), (0, a_add x3 1), (0, (-1))] [] q3.2)) else (cal d m_Mo_wouldBring [(107, x0), (0, x3)] q3.2).bind (fun q4 => (if x2 < q4.1 then (if x2 < q4.1 then run (d + 1) m_Mo_rashOne 6 [(107, x0), (0, x3), (0, q4.1), (0, a_add x3 1), (0, q4.1)] [] q4.2 else run (d + 1) m_Mo_rashOne 6 [(107, x0), (0, x3), (0, x2), (0, a_add x3 1), (0, q4.1)] [] q4.2) else (if x2 < q4.1 then run (d + 1) m_Mo_rashOne 6 [(107, x0), (0, x1), (0, q4.1), (0, a_add x3 1), (0, q4.1)] [] q4.2 else run (d + 1) m_Mo_rashOne 6 [(107, x0), (0, x1), (0, x2), (0, a_add x3 1), (0, q4.1)] [] q4.2))))) else some (x1, h)))) := (run_blk [6] 98 d m_Mo_rashOne 6 _ _ h).trans rfl
set_option maxRecDepth 20000 in
theorem k_Mo_rashOnes (d : Nat) (x0 : Int) (x1 : Int) (h : AH) : cal (d + 1) m_Mo_rashOnes [(107, x0), (0, x1)] h = (cal d m_Mo_rashOne [(107, x0)] h).bind (fun q1 => run (d + 1) m_Mo_rashOnes 7 [(107, x0), (0, x1), (0, 0), (0, q1.1)] [] q1.2) := (cal_blk [7] 11 d m_Mo_rashOnes _ h rfl).trans rfl
set_option maxRecDepth 20000 in
theorem k_Mo_rashOnes_7 (d : Nat) (x0 : Int) (x1 : Int) (x2 : Int) (x3 : Int) (h : AH) : run (d + 1) m_Mo_rashOnes 7 [(107, x0), (0, x1), (0, x2), (0, x3)] [] h = (if x2 < x1 then (if x3 = (-1) then some (x2, h) else (cal d m_Mo_goes [(107, x0), (0, x3)] h).bind (fun q1 => (cal d m_Mo_noted [(107, x0), (0, q1.1)] q1.2).bind (fun q2 => (cal d m_Mo_rashOne [(107, x0)] q2.2).bind (fun q3 => run (d + 1) m_Mo_rashOnes 7 [(107, x0), (0, x1), (0, a_add x2 1), (0, q3.1)] [] q3.2)))) else some (x2, h)) := (run_blk [7] 26 d m_Mo_rashOnes 7 _ _ h).trans rfl
set_option maxRecDepth 20000 in
theorem k_Mo_rash (d : Nat) (x0 : Int) (x1 : Int) (h : AH) : cal (d + 1) m_Mo_rash [(107, x0), (0, x1)] h = (cal d m_Mo_in [(2, x1), (2, 0), (2, 40)] h).bind (fun q1 => (if q1.1 = 0 then some ((-3), q1.2) else (cal d m_Mo_asides [(107, x0)] q1.2).bind (fun q2 => (cal d m_Mo_rashOnes [(107, x0), (0, x1)] q2.2).bind (fun q3 => (if q3.1 < 0 then (cal d m_Mo_backs [(107, x0)] q3.2).bind (fun q4 => some (a_add 5000 0, q4.2)) else (cal d m_Mo_lead [(107, x0)] q3.2).bind (fun q5 => (cal d m_Mo_backs [(107, x0)] q5.2).bind (fun q6 => some (a_add 5000 q5.1, q6.2)))))))) := (cal_blk [] 39 d m_Mo_rash _ h rfl).trans rfl
set_option maxRecDepth 20000 in
theorem k_Mo_over (d : Nat) (x0 : Int) (h : AH) : cal (d + 1) m_Mo_over [(107, x0)] h = (cal d m_Mo_asides [(107, x0)] h).bind (fun q1 => (cal d m_Mo_rashOnes [(107, x0), (0, 61)] q1.2).bind (fun q2 => (cal d m_Mo_backs [(107, x0)] q2.2).bind (fun q3 => (if q2.1 < 61 then some (q2.1, q3.2) else some ((-1), q3.2))))) := (cal_blk [] 21 d m_Mo_over _ h rfl).trans rfl
set_option maxRecDepth 20000 in
theorem k_Mo_gift (d : Nat) (x0 : Int) (x1 : Int) (h : AH) : cal (d + 1) m_Mo_gift [(107, x0), (0, x1)] h = (cal d m_Mo_in [(2, x1), (2, 1), (2, 4)] h).bind (fun q1 => (if q1.1 = 0 then some ((-3), q1.2) else (rdr 7 q1.2 x0 0).bind (fun y2 => (rda 20 q1.2 y2 1).bind (fun y3 => (if y3 = 0 then (cal d m_Mo_looksAhead [(107, x0), (0, x1)] q1.2).bind (fun q4 => (cal d m_Mo_asides [(107, x0)] q4.2).bind (fun q5 => run (d + 1) m_Mo_gift 48 [(107, x0), (0, x1), (0, 1), (0, a_mul 1 q4.1), (0, (-1)), (0, 0), (9, 0)] [] q5.2)) else (cal d m_Mo_looksAhead [(107, x0), (0, x1)] q1.2).bind (fun q6 => (cal d m_Mo_asides [(107, x0)] q6.2).bind (fun q7 => run (d + 1) m_Mo_gift 48 [(107, x0), (0, x1), (0, (-1)), (0, a_mul (-1) q6.1), (0, (-1)), (0, 0), (9, 0)] [] q7.2))))))) := (cal_blk [48] 49 d m_Mo_gift _ h rfl).trans rfl
set_option maxRecDepth 20000 in
theorem k_Mo_gift_48 (d : Nat) (x0 : Int) (x1 : Int) (x2 : Int) (x3 : Int) (x4 : Int) (x5 : Int) (v6 : AV) (h : AH) : run (d + 1) m_Mo_gift 48 [(107, x0), (0, x1), (0, x2), (0, x3), (0, x4), (0, x5), v6] [] h = (rdr 7 h x0 0).bind (fun y1 => (rda 20 h y1 0).bind (fun y2 => (if x5 < a_mul 2 y2 then (cal d m_Mo_sideOf [(107, x0), (0, x5)] h).bind (fun q3 => (rdr 7 q3.2 x0 0).bind (fun y4 => (rda 20 q3.2 y4 1).bind (fun y5 => (if q3.1 = y5 then (rdr 7 q3.2 x0 0).bind (fun y6 => (rda 20 q3.2 y6 (a_add 15 x5)).bind (fun y7 => (if y7 < 99 then (rdr 7 q3.2 x0 0).bind (fun y8 => (rda 20 q3.2 y8 (a_add 15 x5)).bind (fun y9 => (wra 20 q3.2 y8 (a_add 15 x5) (a_add y9 1)).bind (fun h10 => (cal d m_Mo_looksAhead [(107, x0), (0, x1)] h10).bind (fun q11 => (cal d m_Mo_backs [(107, x0)] q11.2).bind (fun q12 => (if x3 < a_mul x2 q11.1 then (if x3 < a_mul x2 q11.1 then run (d + 1) m_Mo_gift 48 [(107, x0), (0, x1), (0, x2), (0, a_mul x2 q11.1), (0, x5), (0, a_add x5 1), (0, a_mul x2 q11.1)] [] q12.2 else run (d + 1) m_Mo_gift 48 [(107, x0), (0, x1), (0, x2), (0, x3), (0, x5), (0, a_add x5 1), (0, a_mul x2 q11.1)] [] q12.2) else (if x3 < a_mul x2 q11.1 then run (d + 1) m_Mo_gift 48 [(107, x0), (0, x1), (0, x2), (0, a_mul x2 q11.1), (0, x4), (0, a_add x5 1), (0, a_mul x2 q11.1)] [] q12.2 else run (d + 1) m_Mo_gift 48 [(107, x0), (0, x1), (0, x2), (0, x3), (0, x4), (0, a_add x5 1), (0, a_mul x2 q11.1)] [] q12.2))))))) else run (d + 1) m_Mo_gift 48 [(107, x0), (0, x1), (0, x2), (0, x3), (0, x4), (0, a_add x5 1), v6] [] q3.2))) else run (d + 1) m_Mo_gift 48 [(107, x0), (0, x1), (0, x2), (0, x3), (0, x4), (0, a_add x5 1), v6] [] q3.2)))) else some (x4, h)))) := (run_blk [48] 91 d m_Mo_gift 48 _ _ h).trans rfl
set_option maxRecDepth 20000 in
theorem k_Mo_movesThere (d : Nat) (x0 : Int) (h : AH) : cal (d + 1) m_Mo_movesThere [(107, x0)] h = run (d + 1) m_Mo_movesThere 4 [(107, x0), (0, 0), (0, 0)] [] h := (cal_blk [4] 10 d m_Mo_movesThere _ h rfl).trans rfl
set_option maxRecDepth 20000 in
theorem k_Mo_movesThere_4 (d : Nat) (x0 : Int) (x1 : Int) (x2 : Int) (h : AH) : run (d + 1) m_Mo_movesThere 4 [(107, x0), (0, x1), (0, x2)] [] h = (rdr 7 h x0 0).bind (fun y1 => (rda 20 h y1 0).bind (fun y2 => (if x2 < a_mul 2 y2 then (cal d m_Mo_canGo [(107, x0), (0, x2)] h).bind (fun q3 => (if q3.1 = 0 then run (d + 1) m_Mo_movesThere 4 [(107, x0), (0, a_add x1 0), (0, a_add x2 1)] [] q3.2 else run (d + 1) m_Mo_movesThere 4 [(107, x0), (0, a_add x1 1), (0, a_add x2 1)] [] q3.2)) else some (x1, h)))) := (run_blk [4] 33 d m_Mo_movesThere 4 _ _ h).trans rfl
set_option maxRecDepth 20000 in
theorem k_Mo_luck (d : Nat) (x0 : Int) (x1 : Int) (x2 : Int) (h : AH) : cal (d + 1) m_Mo_luck [(107, x0), (0, x1), (0, x2)] h = (cal d m_Mo_in [(2, x1), (2, 1), (2, 3)] h).bind (fun q1 => (if q1.1 = 0 then some ((-3), q1.2) else (cal d m_Mo_in [(2, x2), (2, 0), (2, 1)] q1.2).bind (fun q2 => (if q2.1 = 0 then some ((-3), q2.2) else (rdr 7 q2.2 x0 0).bind (fun y3 => (rda 20 q2.2 y3 1).bind (fun y4 => (rdr 7 q2.2 x0 0).bind (fun y5 => (rda 20 q2.2 y5 0).bind (fun y6 => run (d + 1) m_Mo_luck 48 [(107, x0), (0, x1), (0, x2), (0, y4), (0, a_mul 2 y6), (2, 1), (8, 0), (0, 0), (9, 0), (9, 0), (9, 0), (9, 0)] [] q2.2)))))))) := (cal_blk [48, 87, 135, 148, 276] 38 d m_Mo_luck _ h rfl).trans rfl
set_option maxRecDepth 20000 in
theorem k_Mo_luck_48 (d : Nat) (x0 : Int) (x1 : Int) (x2 : Int) (x3 : Int) (x4 : Int) (x5 : Int) (x7 : Int) (v8 : AV) (v9 : AV) (v10 : AV) (v11 : AV) (h : AH) : run (d + 1) m_Mo_luck 48 [(107, x0), (0, x1), (0, x2), (0, x3), (0, x4), (2, x5), (8, 0), (0, x7), v8, v9, v10, v11] [] h = (if x7 < x1 then run (d + 1) m_Mo_luck 48 [(107, x0), (0, x1), (0, x2), (0, x3), (0, x4), (2, a_lmul x5 60), (8, 0), (0, a_add x7 1), v8, v9, v10, v11] [] h else (cal d m_Mo_begins [(107, x0), (0, 0)] h).bind (fun q1 => (rdr 7 q1.2 x0 21).bind (fun y2 => (wra 23 q1.2 y2 0 x5).bind (fun h3 => run (d + 1) m_Mo_luck 87 [(107, x0), (0, x1), (0, x2), (0, x3), (0, x4), (2, x5), (8, 0), (2, 0), (8, 0), (0, 0), v10, v11] [] h3)))) := (run_blk [48, 87, 135, 148, 276] 28 d m_Mo_luck 48 _ _ h).trans rfl
set_option maxRecDepth 20000 in
theorem k_Mo_luck_87 (d : Nat) (x0 : Int) (x1 : Int) (x2 : Int) (x3 : Int) (x4 : Int) (x5 : Int) (x7 : Int) (x9 : Int) (v10 : AV) (v11 : AV) (h : AH) : run (d + 1) m_Mo_luck 87 [(107, x0), (0, x1), (0, x2), (0, x3), (0, x4), (2, x5), (8, 0), (2, x7), (8, 0), (0, x9), v10, v11] [] h = (if x9 < 0 then (cal d m_Mo_laysBack [(107, x0), (0, 0)] h).bind (fun q1 => (cal d m_Mo_part [(2, x7), (2, x5), (0, x2)] q1.2).bind (fun q2 => some (q2.1, q2.2))) else (cal d m_Mo_laysBack [(107, x0), (0, x9)] h).bind (fun q3 => (cal d m_Mo_movesThere [(107, x0)] q3.2).bind (fun q4 => (if x3 = 0 then (cal d m_Mo_lead [(107, x0)] q4.2).bind (fun q5 => (if 0 < q5.1 then run (d + 1) m_Mo_luck 135 [(107, x0), (0, x1), (0, x2), (0, x3), (0, x4), (2, x5), (8, 0), (2, x7), (8, 0), (0, x9), (0, q4.1), v11] [(0, 1)] q5.2 else run (d + 1) m_Mo_luck 135 [(107, x0), (0, x1), (0, x2), (0, x3), (0, x4), (2, x5), (8, 0), (2, x7), (8, 0), (0, x9), (0, q4.1), v11] [(0, 0)] q5.2)) else (cal d m_Mo_lead [(107, x0)] q4.2).bind (fun q6 => (if q6.1 < 0 then run (d + 1) m_Mo_luck 135 [(107, x0), (0, x1), (0, x2), (0, x3), (0, x4), (2, x5), (8, 0), (2, x7), (8, 0), (0, x9), (0, q4.1), v11] [(0, 1)] q6.2 else run (d + 1) m_Mo_luck 135 [(107, x0), (0, x1), (0, x2), (0, x3), (0, x4), (2, x5), (8, 0), (2, x7), (8, 0), (0, x9), (0, q4.1), v11] [(0, 0)] q6.2)))))) := (run_blk [48, 87, 135, 148, 276] 40 d m_Mo_luck 87 _ _ h).trans rfl
set_option maxRecDepth 20000 in
theorem k_Mo_luck_135 (d : Nat) (x0 : Int) (x1 : Int) (x2 : Int) (x3 : Int) (x4 : Int) (x5 : Int) (x7 : Int) (x9 : Int) (x10 : Int) (v11 : AV) (s0 : Int) (h : AH) : run (d + 1) m_Mo_luck 135 [(107, x0), (0, x1), (0, x2), (0, x3), (0, x4), (2, x5), (8, 0), (2, x7), (8, 0), (0, x9), (0, x10), v11] [(0, s0)] h = (if x9 = x1 then run (d + 1) m_Mo_luck 148 [(107, x0), (0, x1), (0, x2), (0, x3), (0, x4), (2, x5), (8, 0), (2, x7), (8, 0), (0, x9), (0, x10), (0, s0)] [] h else (if x10 = 0 then run (d + 1) m_Mo_luck 148 [(107, x0), (0, x1), (0, x2), (0, x3), (0, x4), (2, x5), (8, 0), (2, x7), (8, 0), (0, x9), (0, x10), (0, s0)] [] h else (rdr 7 h x0 16).bind (fun y1 => (rda 20 h y1 x9).bind (fun y2 => (if y2 = x4 then run (d + 1) m_Mo_luck 276 [(107, x0), (0, x1), (0, x2), (0, x3), (0, x4), (2, x5), (8, 0), (2, x7), (8, 0), (0, a_add x9 (-1)), (0, x10), (0, s0)] [] h else (rdr 7 h x0 16).bind (fun y3 => (rda 20 h y3 x9).bind (fun y4 => (cal d m_Mo_canGo [(107, x0), (0, y4)] h).bind (fun q5 => (if q5.1 = 0 then (rdr 7 q5.2 x0 16).bind (fun y6 => (rda 20 q5.2 y6 x9).bind (fun y7 => (wra 20 q5.2 y6 x9 (a_add y7 1)).bind (fun h8 => run (d + 1) m_Mo_luck 276 [(107, x0), (0, x1), (0, x2), (0, x3), (0, x4), (2, x5), (8, 0), (2, x7), (8, 0), (0, x9), (0, x10), (0, s0)] [] h8))) else (rdr 7 q5.2 x0 21).bind (fun y9 => (rdr 7 q5.2 x0 21).bind (fun y10 => (rda 23 q5.2 y10 x9).bind (fun y11 => (if x10 = 0 then none else (wra 23 q5.2 y9 (a_add x9 1) (a_ldiv y11 x10)).bind (fun h12 => (rdr 7 h12 x0 16).bind (fun y13 => (rda 20 h12 y13 x9).bind (fun y14 => (cal d m_Mo_goes [(107, x0), (0, y14)] h12).bind (fun q15 => (cal d m_Mo_noted [(107, x0), (0, q15.1)] q15.2).bind (fun q16 => (rdr 7 q16.2 x0 16).bind (fun y17 => (rda 20 q16.2 y17 x9).bind (fun y18 => (wra 20 q16.2 y17 x9 (a_add y18 1)).bind (fun h19 => (cal d m_Mo_begins [(107, x0), (0, a_add x9 1)] h19).bind (fun q20 => run (d + 1) m_Mo_luck 276 [(107, x0), (0, x1), (0, x2), (0, x3), (0, x4), (2, x5), (8, 0), (2, x7), (8, 0), (0, a_add x9 1), (0, x10), (0, s0)] [] q20.2)))))))))))))))))))))) := (run_blk [48, 87, 135, 148, 276] 73 d m_Mo_luck 135 _ _ h).trans rfl
set_option maxRecDepth 20000 in
theorem k_Mo_luck_148 (d : Nat) (x0 : Int) (x1 : Int) (x2 : Int) (x3 : Int) (x4 : Int) (x5 : Int) (x7 : Int) (x9 : Int) (x10 : Int) (x11 : Int) (h : AH) : run (d + 1) m_Mo_luck 148 [(107, x0), (0, x1), (0, x2), (0, x3), (0, x4), (2, x5), (8, 0), (2, x7), (8, 0), (0, x9), (0, x10), (0, x11)] [] h = (if x11 = 0 then run (d + 1) m_Mo_luck 276 [(107, x0), (0, x1), (0, x2), (0, x3), (0, x4), (2, x5), (8, 0), (2, a_ladd x7 0), (8, 0), (0, a_add x9 (-1)), (0, x10), (0, x11)] [] h else (rdr 7 h x0 21).bind (fun y1 => (rda 23 h y1 x9).bind (fun y2 => run (d + 1) m_Mo_luck 276 [(107, x0), (0, x1), (0, x2), (0, x3), (0, x4), (2, x5), (8, 0), (2, a_ladd x7 y2), (8, 0), (0, a_add x9 (-1)), (0, x10), (0, x11)] [] h))) := (run_blk [48, 87, 135, 148, 276] 24 d m_Mo_luck 148 _ _ h).trans rfl
set_option maxRecDepth 20000 in
theorem k_Mo_luck_276 (d : Nat) (x0 : Int) (x1 : Int) (x2 : Int) (x3 : Int) (x4 : Int) (x5 : Int) (x7 : Int) (x9 : Int) (x10 : Int) (x11 : Int) (h : AH) : run (d + 1) m_Mo_luck 276 [(107, x0), (0, x1), (0, x2), (0, x3), (0, x4), (2, x5), (8, 0), (2, x7), (8, 0), (0, x9), (0, x10), (0, x11)] [] h = run (d + 1) m_Mo_luck 87 [(107, x0), (0, x1), (0, x2), (0, x3), (0, x4), (2, x5), (8, 0), (2, x7), (8, 0), (0, x9), (0, x10), (0, x11)] [] h := (run_blk [48, 87, 135, 148, 276] 7 d m_Mo_luck 276 _ _ h).trans rfl
set_option maxRecDepth 20000 in
theorem k_Mo_part (d : Nat) (x0 : Int) (x2 : Int) (x4 : Int) (h : AH) : cal (d + 1) m_Mo_part [(2, x0), (2, x2), (0, x4)] h = run (d + 1) m_Mo_part 6 [(2, x0), (8, 0), (2, x2), (8, 0), (0, x4), (2, x0), (8, 0), (2, x2), (8, 0), (9, 0), (9, 0)] [] h := (cal_blk [6] 10 d m_Mo_part _ h rfl).trans rfl
set_option maxRecDepth 20000 in
theorem k_Mo_part_6 (d : Nat) (x0 : Int) (x2 : Int) (x4 : Int) (x5 : Int) (x7 : Int) (v9 : AV) (v10 : AV) (h : AH) : run (d + 1) m_Mo_part 6 [(2, x0), (8, 0), (2, x2), (8, 0), (0, x4), (2, x5), (8, 0), (2, x7), (8, 0), v9, v10] [] h = (if a_lcmp x7 0 = 0 then (if x4 = 0 then (if x5 = 0 then none else some (w32 (a_ldiv x0 x5), h)) else (if x5 = 0 then none else some (w32 (a_ldiv x2 x5), h))) else (if x7 = 0 then none else run (d + 1) m_Mo_part 6 [(2, x0), (8, 0), (2, x2), (8, 0), (0, x4), (2, x7), (8, 0), (2, a_lrem x5 x7), (8, 0), (2, a_lrem x5 x7), (8, 0)] [] h)) := (run_blk [6] 32 d m_Mo_part 6 _ _ h).trans rfl
set_option maxRecDepth 20000 in
theorem k_Mo_seen (d : Nat) (x0 : Int) (x1 : Int) (x2 : Int) (x3 : Int) (x4 : Int) (h : AH) : cal (d + 1) m_Mo_seen [(107, x0), (0, x1), (0, x2), (0, x3), (0, x4)] h = (cal d m_Mo_in [(2, x1), (2, 0), (2, 20)] h).bind (fun q1 => (if q1.1 = 0 then some ((-3), q1.2) else (cal d m_Mo_in [(2, x2), (2, 0), (2, 20)] q1.2).bind (fun q2 => (if q2.1 = 0 then some ((-3), q2.2) else (cal d m_Mo_in [(2, x3), (2, 0), (2, 1)] q2.2).bind (fun q3 => (if q3.1 = 0 then some ((-3), q3.2) else (cal d m_Mo_in [(2, x4), (2, 0), (2, 1)] q3.2).bind (fun q4 => (if q4.1 = 0 then some ((-3), q4.2) else (rdf 7 q4.2 x0 23).bind (fun y5 => (if y5 = 6 then some ((-5), q4.2) else (rdr 7 q4.2 x0 22).bind (fun y6 => (rdf 7 q4.2 x0 23).bind (fun y7 => (wra 20 q4.2 y6 (a_mul 4 y7) x1).bind (fun h8 => (rdr 7 h8 x0 22).bind (fun y9 => (rdf 7 h8 x0 23).bind (fun y10 => (wra 20 h8 y9 (a_add (a_mul 4 y10) 1) x2).bind (fun h11 => (rdr 7 h11 x0 22).bind (fun y12 => (rdf 7 h11 x0 23).bind (fun y13 => (wra 20 h11 y12 (a_add (a_mul 4 y13) 2) x3).bind (fun h14 => (rdr 7 h14 x0 22).bind (fun y15 => (rdf 7 h14 x0 23).bind (fun y16 => (wra 20 h14 y15 (a_add (a_mul 4 y16) 3) x4).bind (fun h17 => (rdf 7 h17 x0 23).bind (fun y18 => (wrf 7 h17 x0 23 (a_add y18 1)).bind (fun h19 => (rdf 7 h19 x0 23).bind (fun y20 => some (y20, h19)))))))))))))))))))))))))) := (cal_blk [] 90 d m_Mo_seen _ h rfl).trans rfl
set_option maxRecDepth 20000 in
theorem k_Mo_forget (d : Nat) (x0 : Int) (h : AH) : cal (d + 1) m_Mo_forget [(107, x0)] h = (rdf 7 h x0 23).bind (fun y1 => (wrf 7 h x0 23 0).bind (fun h2 => some (y1, h2))) := (cal_blk [] 13 d m_Mo_forget _ h rfl).trans rfl
set_option maxRecDepth 20000 in
theorem k_Mo_isOf (d : Nat) (x0 : Int) (x1 : Int) (h : AH) : cal (d + 1) m_Mo_isOf [(0, x0), (0, x1)] h = (cal d m_Mo_liftsOf [(0, x0), (0, x1)] h).bind (fun q1 => (cal d m_Mo_takesOne [(0, x0), (0, x1)] q1.2).bind (fun q2 => (if q2.1 = 0 then (cal d m_Mo_yieldsAll [(0, x0), (0, x1)] q2.2).bind (fun q3 => (if q3.1 = 0 then some (a_add (a_add (a_mul 4 q1.1) 0) 0, q3.2) else some (a_add (a_add (a_mul 4 q1.1) 0) 1, q3.2))) else (cal d m_Mo_yieldsAll [(0, x0), (0, x1)] q2.2).bind (fun q4 => (if q4.1 = 0 then some (a_add (a_add (a_mul 4 q1.1) 2) 0, q4.2) else some (a_add (a_add (a_mul 4 q1.1) 2) 1, q4.2)))))) := (cal_blk [] 41 d m_Mo_isOf _ h rfl).trans rfl
set_option maxRecDepth 20000 in
theorem k_Mo_kinds (d : Nat) (x0 : Int) (h : AH) : cal (d + 1) m_Mo_kinds [(107, x0)] h = run (d + 1) m_Mo_kinds 4 [(107, x0), (0, 0), (0, 0), (9, 0), (9, 0)] [] h := (cal_blk [4, 14] 10 d m_Mo_kinds _ h rfl).trans rfl
set_option maxRecDepth 20000 in
theorem k_Mo_kinds_4 (d : Nat) (x0 : Int) (x1 : Int) (x2 : Int) (v3 : AV) (v4 : AV) (h : AH) : run (d + 1) m_Mo_kinds 4 [(107, x0), (0, x1), (0, x2), v3, v4] [] h = (if x2 < 5 then run (d + 1) m_Mo_kinds 14 [(107, x0), (0, x1), (0, x2), (0, 1), (0, 0)] [] h else some (x1, h)) := (run_blk [4, 14] 15 d m_Mo_kinds 4 _ _ h).trans rfl
set_option maxRecDepth 20000 in
theorem k_Mo_kinds_14 (d : Nat) (x0 : Int) (x1 : Int) (x2 : Int) (x3 : Int) (x4 : Int) (h : AH) : run (d + 1) m_Mo_kinds 14 [(107, x0), (0, x1), (0, x2), (0, x3), (0, x4)] [] h = (rdf 7 h x0 23).bind (fun y1 => (if x4 < y1 then (if x3 = 0 then run (d + 1) m_Mo_kinds 14 [(107, x0), (0, x1), (0, x2), (0, 0), (0, a_add x4 1)] [] h else (rdr 7 h x0 22).bind (fun y2 => (rda 20 h y2 (a_mul 4 x4)).bind (fun y3 => (cal d m_Mo_isOf [(0, x2), (0, y3)] h).bind (fun q4 => (rdr 7 q4.2 x0 22).bind (fun y5 => (rda 20 q4.2 y5 (a_add (a_mul 4 x4) 1)).bind (fun y6 => (rdr 7 q4.2 x0 22).bind (fun y7 => (rda 20 q4.2 y7 (a_add (a_mul 4 x4) 2)).bind (fun y8 => (rdr 7 q4.2 x0 22).bind (fun y9 => (rda 20 q4.2 y9 (a_add (a_mul 4 x4) 3)).bind (fun y10 => (if q4.1 = a_add (a_add (a_mul 4 y6) (a_mul 2 y8)) y10 then run (d + 1) m_Mo_kinds 14 [(107, x0), (0, x1), (0, x2), (0, 1), (0, a_add x4 1)] [] q4.2 else run (d + 1) m_Mo_kinds 14 [(107, x0), (0, x1), (0, x2), (0, 0), (0, a_add x4 1)] [] q4.2))))))))))) else (if x3 = 0 then run (d + 1) m_Mo_kinds 4 [(107, x0), (0, a_or x1 0), (0, a_add x2 1), (0, x3), (0, x4)] [] h else run (d + 1) m_Mo_kinds 4 [(107, x0), (0, a_or x1 (a_shl 1 x2)), (0, a_add x2 1), (0, x3), (0, x4)] [] h))) := (run_blk [4, 14] 84 d m_Mo_kinds 14 _ _ h).trans rfl
set_option maxRecDepth 20000 in
theorem k_Mo_ask (d : Nat) (x0 : Int) (h : AH) : cal (d + 1) m_Mo_ask [(107, x0)] h = (cal d m_Mo_kinds [(107, x0)] h).bind (fun q1 => run (d + 1) m_Mo_ask 9 [(107, x0), (0, q1.1), (0, 0), (0, 0), (9, 0), (9, 0), (9, 0), (9, 0), (9, 0), (9, 0)] [] q1.2) := (cal_blk [9, 36, 49, 61] 13 d m_Mo_ask _ h rfl).trans rfl
set_option maxRecDepth 20000 in
theorem k_Mo_ask_9 (d : Nat) (x0 : Int) (x1 : Int) (x2 : Int) (x3 : Int) (v4 : AV) (v5 : AV) (v6 : AV) (v7 : AV) (v8 : AV) (v9 : AV) (h : AH) : run (d + 1) m_Mo_ask 9 [(107, x0), (0, x1), (0, x2), (0, x3), v4, v5, v6, v7, v8, v9] [] h = (if x3 < 5 then run (d + 1) m_Mo_ask 9 [(107, x0), (0, x1), (0, a_add x2 (a_and (a_shr x1 x3) 1)), (0, a_add x3 1), v4, v5, v6, v7, v8, v9] [] h else run (d + 1) m_Mo_ask 36 [(107, x0), (0, x1), (0, x2), (0, (-1)), (0, x2), (0, 0), v6, v7, v8, v9] [] h) := (run_blk [9, 36, 49, 61] 26 d m_Mo_ask 9 _ _ h).trans rfl
set_option maxRecDepth 20000 in
theorem k_Mo_ask_36 (d : Nat) (x0 : Int) (x1 : Int) (x2 : Int) (x3 : Int) (x4 : Int) (x5 : Int) (v6 : AV) (v7 : AV) (v8 : AV) (v9 : AV) (h : AH) : run (d + 1) m_Mo_ask 36 [(107, x0), (0, x1), (0, x2), (0, x3), (0, x4), (0, x5), v6, v7, v8, v9] [] h = (if x5 < 13 then run (d + 1) m_Mo_ask 49 [(107, x0), (0, x1), (0, x2), (0, x3), (0, x4), (0, x5), (0, 0), (0, 0), v8, v9] [] h else some (x3, h)) := (run_blk [9, 36, 49, 61] 15 d m_Mo_ask 36 _ _ h).trans rfl
set_option maxRecDepth 20000 in
theorem k_Mo_ask_49 (d : Nat) (x0 : Int) (x1 : Int) (x2 : Int) (x3 : Int) (x4 : Int) (x5 : Int) (x6 : Int) (x7 : Int) (v8 : AV) (v9 : AV) (h : AH) : run (d + 1) m_Mo_ask 49 [(107, x0), (0, x1), (0, x2), (0, x3), (0, x4), (0, x5), (0, x6), (0, x7), v8, v9] [] h = (if x7 < 5 then run (d + 1) m_Mo_ask 61 [(107, x0), (0, x1), (0, x2), (0, x3), (0, x4), (0, x5), (0, x6), (0, x7), (0, 0), (0, 0)] [] h else (if x6 < x4 then (if x6 < x4 then run (d + 1) m_Mo_ask 36 [(107, x0), (0, x1), (0, x2), (0, x5), (0, x6), (0, a_add x5 1), (0, x6), (0, x7), v8, v9] [] h else run (d + 1) m_Mo_ask 36 [(107, x0), (0, x1), (0, x2), (0, x5), (0, x4), (0, a_add x5 1), (0, x6), (0, x7), v8, v9] [] h) else (if x6 < x4 then run (d + 1) m_Mo_ask 36 [(107, x0), (0, x1), (0, x2), (0, x3), (0, x6), (0, a_add x5 1), (0, x6), (0, x7), v8, v9] [] h else run (d + 1) m_Mo_ask 36 [(107, x0), (0, x1), (0, x2), (0, x3), (0, x4), (0, a_add x5 1), (0, x6), (0, x7), v8, v9] [] h))) := (run_blk [9, 36, 49, 61] 49 d m_Mo_ask 49 _ _ h).trans rfl
set_option maxRecDepth 20000 in
theorem k_Mo_ask_61 (d : Nat) (x0 : Int) (x1 : Int) (x2 : Int) (x3 : Int) (x4 : Int) (x5 : Int) (x6 : Int) (x7 : Int) (x8 : Int) (x9 : Int) (h : AH) : run (d + 1) m_Mo_ask 61 [(107, x0), (0, x1), (0, x2), (0, x3), (0, x4), (0, x5), (0, x6), (0, x7), (0, x8), (0, x9)] [] h = (if x9 < 5 then (if a_and (a_and (a_shr x1 x7) (a_shr x1 x9)) 1 = 1 then (cal d m_Mo_isOf [(0, x7), (0, x5)] h).bind (fun q1 => (cal d m_Mo_isOf [(0, x9), (0, x5)] q1.2).bind (fun q2 => (if q1.1 = q2.1 then run (d + 1) m_Mo_ask 61 [(107, x0), (0, x1), (0, x2), (0, x3), (0, x4), (0, x5), (0, x6), (0, x7), (0, a_add x8 1), (0, a_add x9 1)] [] q2.2 else run (d + 1) m_Mo_ask 61 [(107, x0), (0, x1), (0, x2), (0, x3), (0, x4), (0, x5), (0, x6), (0, x7), (0, a_add x8 0), (0, a_add x9 1)] [] q2.2))) else run (d + 1) m_Mo_ask 61 [(107, x0), (0, x1), (0, x2), (0, x3), (0, x4), (0, x5), (0, x6), (0, x7), (0, a_add x8 0), (0, a_add x9 1)] [] h) else (if x6 < x8 then run (d + 1) m_Mo_ask 49 [(107, x0), (0, x1), (0, x2), (0, x3), (0, x4), (0, x5), (0, x8), (0, a_add x7 1), (0, x8), (0, x9)] [] h else run (d + 1) m_Mo_ask 49 [(107, x0), (0, x1), (0, x2), (0, x3), (0, x4), (0, x5), (0, x6), (0, a_add x7 1), (0, x8), (0, x9)] [] h)) := (run_blk [9, 36, 49, 61] 60 d m_Mo_ask 61 _ _ h).trans rfl
set_option maxRecDepth 20000 in
theorem k_Mo_noBoxes (d : Nat) (x0 : Int) (h : AH) : cal (d + 1) m_Mo_noBoxes [(107, x0)] h = run (d + 1) m_Mo_noBoxes 2 [(107, x0), (0, 0)] [] h := (cal_blk [2] 8 d m_Mo_noBoxes _ h rfl).trans rfl
set_option maxRecDepth 20000 in
theorem k_Mo_noBoxes_2 (d : Nat) (x0 : Int) (x1 : Int) (h : AH) : run (d + 1) m_Mo_noBoxes 2 [(107, x0), (0, x1)] [] h = (if x1 < 5 then (rdr 7 h x0 24).bind (fun y1 => (wra 20 h y1 x1 (-1)).bind (fun h2 => (rdr 7 h2 x0 25).bind (fun y3 => (wra 20 h2 y3 x1 0).bind (fun h4 => (rdr 7 h4 x0 28).bind (fun y5 => (wra 20 h4 y5 x1 (-1)).bind (fun h6 => run (d + 1) m_Mo_noBoxes 2 [(107, x0), (0, a_add x1 1)] [] h6)))))) else some (0, h)) := (run_blk [2] 27 d m_Mo_noBoxes 2 _ _ h).trans rfl
set_option maxRecDepth 20000 in
theorem k_Mo_isBox (d : Nat) (x0 : Int) (h : AH) : cal (d + 1) m_Mo_isBox [(0, x0)] h = (cal d m_Mo_in [(2, x0), (2, 0), (2, 4)] h).bind (fun q1 => (if q1.1 = 0 ∨ q1.1 = 1 then some (q1.1, q1.2) else none)) := (cal_blk [] 11 d m_Mo_isBox _ h rfl).trans rfl
set_option maxRecDepth 20000 in
theorem k_Mo_loses (d : Nat) (x0 : Int) (x1 : Int) (h : AH) : cal (d + 1) m_Mo_loses [(107, x0), (0, x1)] h = (rdr 7 h x0 28).bind (fun y1 => (rda 20 h y1 x1).bind (fun y2 => (if y2 = (-1) then (rdr 7 h x0 28).bind (fun y3 => (wra 20 h y3 x1 (-1)).bind (fun h4 => run (d + 1) m_Mo_loses 135 [(107, x0), (0, x1), (0, y2), (0, 0), (9, 0)] [] h4)) else run (d + 1) m_Mo_loses 14 [(107, x0), (0, x1), (0, y2), (0, 0), (9, 0)] [] h))) := (cal_blk [14, 61, 135] 24 d m_Mo_loses _ h rfl).trans rfl
set_option maxRecDepth 20000 in
theorem k_Mo_loses_14 (d : Nat) (x0 : Int) (x1 : Int) (x2 : Int) (x3 : Int) (v4 : AV) (h : AH) : run (d + 1) m_Mo_loses 14 [(107, x0), (0, x1), (0, x2), (0, x3), v4] [] h = (rdr 7 h x0 26).bind (fun y1 => (rda 20 h y1 (a_add (a_mul 4 x2) x3)).bind (fun y2 => (if y2 = 2 then (rdr 7 h x0 27).bind (fun y3 => (rda 20 h y3 (a_add (a_mul 4 x2) x3)).bind (fun y4 => (if y4 = x1 then (rdr 7 h x0 25).bind (fun y5 => (rda 20 h y5 x2).bind (fun y6 => (wra 20 h y5 x2 (a_sub y6 1)).bind (fun h7 => run (d + 1) m_Mo_loses 61 [(107, x0), (0, x1), (0, x2), (0, x3), (0, x3)] [] h7))) else run (d + 1) m_Mo_loses 14 [(107, x0), (0, x1), (0, x2), (0, a_add x3 1), v4] [] h))) else run (d + 1) m_Mo_loses 14 [(107, x0), (0, x1), (0, x2), (0, a_add x3 1), v4] [] h))) := (run_blk [14, 61, 135] 42 d m_Mo_loses 14 _ _ h).trans rfl
set_option maxRecDepth 20000 in
theorem k_Mo_loses_61 (d : Nat) (x0 : Int) (x1 : Int) (x2 : Int) (x3 : Int) (x4 : Int) (h : AH) : run (d + 1) m_Mo_loses 61 [(107, x0), (0, x1), (0, x2), (0, x3), (0, x4)] [] h = (rdr 7 h x0 25).bind (fun y1 => (rda 20 h y1 x2).bind (fun y2 => (if x4 < y2 then (rdr 7 h x0 26).bind (fun y3 => (rdr 7 h x0 26).bind (fun y4 => (rda 20 h y4 (a_add (a_add (a_mul 4 x2) x4) 1)).bind (fun y5 => (wra 20 h y3 (a_add (a_mul 4 x2) x4) y5).bind (fun h6 => (rdr 7 h6 x0 27).bind (fun y7 => (rdr 7 h6 x0 27).bind (fun y8 => (rda 20 h6 y8 (a_add (a_add (a_mul 4 x2) x4) 1)).bind (fun y9 => (wra 20 h6 y7 (a_add (a_mul 4 x2) x4) y9).bind (fun h10 => run (d + 1) m_Mo_loses 61 [(107, x0), (0, x1), (0, x2), (0, x3), (0, a_add x4 1)] [] h10)))))))) else (rdr 7 h x0 28).bind (fun y11 => (wra 20 h y11 x1 (-1)).bind (fun h12 => run (d + 1) m_Mo_loses 135 [(107, x0), (0, x1), (0, x2), (0, 0), (0, x4)] [] h12))))) := (run_blk [14, 61, 135] 58 d m_Mo_loses 61 _ _ h).trans rfl
set_option maxRecDepth 20000 in
theorem k_Mo_loses_135 (d : Nat) (x0 : Int) (x1 : Int) (x2 : Int) (x3 : Int) (v4 : AV) (h : AH) : run (d + 1) m_Mo_loses 135 [(107, x0), (0, x1), (0, x2), (0, x3), v4] [] h = (if x3 < 5 then (rdr 7 h x0 28).bind (fun y1 => (rdr 7 h x0 28).bind (fun y2 => (rda 20 h y2 x3).bind (fun y3 => (if y3 = x1 then (wra 20 h y1 x3 (-1)).bind (fun h4 => run (d + 1) m_Mo_loses 135 [(107, x0), (0, x1), (0, x2), (0, a_add x3 1), v4] [] h4) else (rdr 7 h x0 28).bind (fun y5 => (rda 20 h y5 x3).bind (fun y6 => (wra 20 h y1 x3 y6).bind (fun h7 => run (d + 1) m_Mo_loses 135 [(107, x0), (0, x1), (0, x2), (0, a_add x3 1), v4] [] h7))))))) else (rdr 7 h x0 25).bind (fun y8 => (wra 20 h y8 x1 0).bind (fun h9 => (rdr 7 h9 x0 24).bind (fun y10 => (wra 20 h9 y10 x1 (-1)).bind (fun h11 => some (0, h11)))))) := (run_blk [14, 61, 135] 42 d m_Mo_loses 135 _ _ h).trans rfl
set_option maxRecDepth 20000 in
theorem k_Mo_box (d : Nat) (x0 : Int) (x1 : Int) (x2 : Int) (h : AH) : cal (d + 1) m_Mo_box [(107, x0), (0, x1), (0, x2)] h = (cal d m_Mo_isBox [(0, x1)] h).bind (fun q1 => (if q1.1 = 0 then some ((-2), q1.2) else (if 4 < x2 then some ((-3), q1.2) else (if x2 < 0 then some ((-16), q1.2) else (cal d m_Mo_loses [(107, x0), (0, x1)] q1.2).bind (fun q2 => (rdr 7 q2.2 x0 24).bind (fun y3 => (wra 20 q2.2 y3 x1 x2).bind (fun h4 => some (x2, h4)))))))) := (cal_blk [] 29 d m_Mo_box _ h rfl).trans rfl
set_option maxRecDepth 20000 in
theorem k_Mo_isWithin (d : Nat) (x0 : Int) (x1 : Int) (x2 : Int) (h : AH) : cal (d + 1) m_Mo_isWithin [(107, x0), (0, x1), (0, x2)] h = run (d + 1) m_Mo_isWithin 2 [(107, x0), (0, x1), (0, x2), (0, x1)] [] h := (cal_blk [2] 8 d m_Mo_isWithin _ h rfl).trans rfl
set_option maxRecDepth 20000 in
theorem k_Mo_isWithin_2 (d : Nat) (x0 : Int) (x1 : Int) (x2 : Int) (x3 : Int) (h : AH) : run (d + 1) m_Mo_isWithin 2 [(107, x0), (0, x1), (0, x2), (0, x3)] [] h = (if x3 = (-1) then (if x3 = x2 then some (1, h) else some (0, h)) else (if x3 = x2 then (if x3 = x2 then some (1, h) else some (0, h)) else (rdr 7 h x0 28).bind (fun y1 => (rda 20 h y1 x3).bind (fun y2 => run (d + 1) m_Mo_isWithin 2 [(107, x0), (0, x1), (0, x2), (0, y2)] [] h)))) := (run_blk [2] 34 d m_Mo_isWithin 2 _ _ h).trans rfl
set_option maxRecDepth 20000 in
theorem k_Mo_whyNotPut (d : Nat) (x0 : Int) (x1 : Int) (x2 : Int) (x3 : Int) (h : AH) : cal (d + 1) m_Mo_whyNotPut [(107, x0), (0, x1), (0, x2), (0, x3)] h = (if x2 = 2 then (rdr 7 h x0 28).bind (fun y1 => (rda 20 h y1 x3).bind (fun y2 => (if y2 = (-1) then run (d + 1) m_Mo_whyNotPut 30 [(107, x0), (0, x1), (0, x2), (0, x3), (0, 1)] [] h else some ((-4), h)))) else run (d + 1) m_Mo_whyNotPut 30 [(107, x0), (0, x1), (0, x2), (0, x3), (0, 0)] [] h) := (cal_blk [30] 27 d m_Mo_whyNotPut _ h rfl).trans rfl
set_option maxRecDepth 20000 in
theorem k_Mo_whyNotPut_30 (d : Nat) (x0 : Int) (x1 : Int) (x2 : Int) (x3 : Int) (x4 : Int) (h : AH) : run (d + 1) m_Mo_whyNotPut 30 [(107, x0), (0, x1), (0, x2), (0, x3), (0, x4)] [] h = (rdr 7 h x0 24).bind (fun y1 => (rda 20 h y1 x1).bind (fun y2 => (if y2 < 0 then some ((-11), h) else (if x4 = 0 then (rdr 7 h x0 25).bind (fun y3 => (rda 20 h y3 x1).bind (fun y4 => (rdr 7 h x0 24).bind (fun y5 => (rda 20 h y5 x1).bind (fun y6 => (if y4 = y6 then some ((-14), h) else (if x4 = 0 then some (0, h) else (cal d m_Mo_isWithin [(107, x0), (0, x1), (0, x3)] h).bind (fun q7 => (if q7.1 = 0 then some (0, q7.2) else some ((-15), q7.2))))))))) else (rdr 7 h x0 24).bind (fun y8 => (rda 20 h y8 x3).bind (fun y9 => (if y9 < 0 then some ((-11), h) else (rdr 7 h x0 25).bind (fun y10 => (rda 20 h y10 x1).bind (fun y11 => (rdr 7 h x0 24).bind (fun y12 => (rda 20 h y12 x1).bind (fun y13 => (if y11 = y13 then some ((-14), h) else (if x4 = 0 then some (0, h) else (cal d m_Mo_isWithin [(107, x0), (0, x1), (0, x3)] h).bind (fun q14 => (if q14.1 = 0 then some (0, q14.2) else some ((-15), q14.2)))))))))))))))) := (run_blk [30] 71 d m_Mo_whyNotPut 30 _ _ h).trans rfl
set_option maxRecDepth 20000 in
theorem k_Mo_put (d : Nat) (x0 : Int) (x1 : Int) (x2 : Int) (x3 : Int) (h : AH) : cal (d + 1) m_Mo_put [(107, x0), (0, x1), (0, x2), (0, x3)] h = (cal d m_Mo_isBox [(0, x1)] h).bind (fun q1 => (if q1.1 = 0 then some ((-2), q1.2) else (if x2 = 1 then (cal d m_Mo_isHouse [(107, x0), (0, x3)] q1.2).bind (fun q2 => (if q2.1 = 0 then some ((-2), q2.2) else (if x2 = 2 then (cal d m_Mo_isBox [(0, x3)] q2.2).bind (fun q3 => (if q3.1 = 0 then some ((-2), q3.2) else (cal d m_Mo_in [(2, x2), (2, 0), (2, 2)] q3.2).bind (fun q4 => (if q4.1 = 0 then some ((-3), q4.2) else (if x2 = 0 then (cal d m_Mo_in [(2, x3), (2, (-9999)), (2, 9999)] q4.2).bind (fun q5 => (if q5.1 = 0 then some ((-3), q5.2) else run (d + 1) m_Mo_put 68 [(107, x0), (0, x1), (0, x2), (0, x3), (9, 0)] [] q5.2)) else run (d + 1) m_Mo_put 68 [(107, x0), (0, x1), (0, x2), (0, x3), (9, 0)] [] q4.2))))) else (cal d m_Mo_in [(2, x2), (2, 0), (2, 2)] q2.2).bind (fun q6 => (if q6.1 = 0 then some ((-3), q6.2) else (if x2 = 0 then (cal d m_Mo_in [(2, x3), (2, (-9999)), (2, 9999)] q6.2).bind (fun q7 => (if q7.1 = 0 then some ((-3), q7.2) else run (d + 1) m_Mo_put 68 [(107, x0), (0, x1), (0, x2), (0, x3), (9, 0)] [] q7.2)) else run (d + 1) m_Mo_put 68 [(107, x0), (0, x1), (0, x2), (0, x3), (9, 0)] [] q6.2)))))) else (if x2 = 2 then (cal d m_Mo_isBox [(0, x3)] q1.2).bind (fun q8 => (if q8.1 = 0 then some ((-2), q8.2) else (cal d m_Mo_in [(2, x2), (2, 0), (2, 2)] q8.2).bind (fun q9 => (if q9.1 = 0 then some ((-3), q9.2) else (if x2 = 0 then (cal d m_Mo_in [(2, x3), (2, (-9999)), (2, 9999)] q9.2).bind (fun q10 => (if q10.1 = 0 then some ((-3), q10.2) else run (d + 1) m_Mo_put 68 [(107, x0), (0, x1), (0, x2), (0, x3), (9, 0)] [] q10.2)) else run (d + 1) m_Mo_put 68 [(107, x0), (0, x1), (0, x2), (0, x3), (9, 0)] [] q9.2))))) else (cal d m_Mo_in [(2, x2), (2, 0), (2, 2)] q1.2).bind (fun q11 => (if q11.1 = 0 then some ((-3), q11.2) else (if x2 = 0 then (cal d m_Mo_in [(2, x3), (2, (-9999)), (2, 9999)] q11.2).bind (fun q12 => (if q12.1 = 0 then some ((-3), q12.2) else run (d + 1) m_Mo_put 68 [(107, x0), (0, x1), (0, x2), (0, x3), (9, 0)] [] q12.2)) else run (d + 1) m_Mo_put 68 [(107, x0), (0, x1), (0, x2), (0, x3), (9, 0)] [] q11.2))))))) := (cal_blk [68] 115 d m_Mo_put _ h rfl).trans rfl
set_option maxRecDepth 20000 in
theorem k_Mo_put_68 (d : Nat) (x0 : Int) (x1 : Int) (x2 : Int) (x3 : Int) (v4 : AV) (h : AH) : run (d + 1) m_Mo_put 68 [(107, x0), (0, x1), (0, x2), (0, x3), v4] [] h = (cal d m_Mo_whyNotPut [(107, x0), (0, x1), (0, x2), (0, x3)] h).bind (fun q1 => (if q1.1 < 0 then some (q1.1, q1.2) else (rdr 7 q1.2 x0 26).bind (fun y2 => (rdr 7 q1.2 x0 25).bind (fun y3 => (rda 20 q1.2 y3 x1).bind (fun y4 => (wra 20 q1.2 y2 (a_add (a_mul 4 x1) y4) x2).bind (fun h5 => (rdr 7 h5 x0 27).bind (fun y6 => (rdr 7 h5 x0 25).bind (fun y7 => (rda 20 h5 y7 x1).bind (fun y8 => (wra 20 h5 y6 (a_add (a_mul 4 x1) y8) x3).bind (fun h9 => (rdr 7 h9 x0 25).bind (fun y10 => (rda 20 h9 y10 x1).bind (fun y11 => (wra 20 h9 y10 x1 (a_add y11 1)).bind (fun h12 => (if x2 = 2 then (rdr 7 h12 x0 28).bind (fun y13 => (wra 20 h12 y13 x3 x1).bind (fun h14 => (rdr 7 h14 x0 25).bind (fun y15 => (rda 20 h14 y15 x1).bind (fun y16 => some (y16, h14))))) else (rdr 7 h12 x0 25).bind (fun y17 => (rda 20 h12 y17 x1).bind (fun y18 => some (y18, h12))))))))))))))))) := (run_blk [68] 65 d m_Mo_put 68 _ _ h).trans rfl
set_option maxRecDepth 20000 in
theorem k_Mo_whyNotOut (d : Nat) (x0 : Int) (x1 : Int) (x2 : Int) (h : AH) : cal (d + 1) m_Mo_whyNotOut [(107, x0), (0, x1), (0, x2)] h = (rdr 7 h x0 24).bind (fun y1 => (rda 20 h y1 x1).bind (fun y2 => (if y2 < 0 then some ((-11), h) else (rdr 7 h x0 25).bind (fun y3 => (rda 20 h y3 x1).bind (fun y4 => (if y4 = 0 then some ((-12), h) else (rdr 7 h x0 26).bind (fun y5 => (rdr 7 h x0 25).bind (fun y6 => (rda 20 h y6 x1).bind (fun y7 => (rda 20 h y5 (a_sub (a_add (a_mul 4 x1) y7) 1)).bind (fun y8 => (if y8 = x2 then some (0, h) else some ((-13), h)))))))))))) := (cal_blk [] 39 d m_Mo_whyNotOut _ h rfl).trans rfl
set_option maxRecDepth 20000 in
theorem k_Mo_take (d : Nat) (x0 : Int) (x1 : Int) (x2 : Int) (h : AH) : cal (d + 1) m_Mo_take [(107, x0), (0, x1), (0, x2)] h = (cal d m_Mo_isBox [(0, x1)] h).bind (fun q1 => (if q1.1 = 0 then some ((-2), q1.2) else (cal d m_Mo_in [(2, x2), (2, 0), (2, 2)] q1.2).bind (fun q2 => (if q2.1 = 0 then some ((-3), q2.2) else (cal d m_Mo_whyNotOut [(107, x0), (0, x1), (0, x2)] q2.2).bind (fun q3 => (if q3.1 < 0 then some (q3.1, q3.2) else (rdr 7 q3.2 x0 25).bind (fun y4 => (rda 20 q3.2 y4 x1).bind (fun y5 => (wra 20 q3.2 y4 x1 (a_sub y5 1)).bind (fun h6 => (rdr 7 h6 x0 27).bind (fun y7 => (rdr 7 h6 x0 25).bind (fun y8 => (rda 20 h6 y8 x1).bind (fun y9 => (rda 20 h6 y7 (a_add (a_mul 4 x1) y9)).bind (fun y10 => (if x2 = 2 then (rdr 7 h6 x0 28).bind (fun y11 => (wra 20 h6 y11 y10 (-1)).bind (fun h12 => (if x2 = 0 then some (a_add y10 50000, h12) else some (y10, h12)))) else (if x2 = 0 then some (a_add y10 50000, h6) else some (y10, h6)))))))))))))))) := (cal_blk [] 73 d m_Mo_take _ h rfl).trans rfl
set_option maxRecDepth 20000 in
theorem k_Mo_spill (d : Nat) (x0 : Int) (x1 : Int) (h : AH) : cal (d + 1) m_Mo_spill [(107, x0), (0, x1)] h = (cal d m_Mo_isBox [(0, x1)] h).bind (fun q1 => (if q1.1 = 0 then some ((-2), q1.2) else (cal d m_Mo_whyNotOut [(107, x0), (0, x1), (0, 2)] q1.2).bind (fun q2 => (if q2.1 < 0 then some (q2.1, q2.2) else (rdr 7 q2.2 x0 27).bind (fun y3 => (rdr 7 q2.2 x0 25).bind (fun y4 => (rda 20 q2.2 y4 x1).bind (fun y5 => (rda 20 q2.2 y3 (a_sub (a_add (a_mul 4 x1) y5) 1)).bind (fun y6 => (rdr 7 q2.2 x0 25).bind (fun y7 => (rda 20 q2.2 y7 x1).bind (fun y8 => (rdr 7 q2.2 x0 25).bind (fun y9 => (rda 20 q2.2 y9 y6).bind (fun y10 => (rdr 7 q2.2 x0 24).bind (fun y11 => (rda 20 q2.2 y11 x1).bind (fun y12 => (if y12 < a_add (a_sub y8 1) y10 then some ((-14), q2.2) else (rdr 7 q2.2 x0 25).bind (fun y13 => (rda 20 q2.2 y13 x1).bind (fun y14 => (wra 20 q2.2 y13 x1 (a_sub y14 1)).bind (fun h15 => (rdr 7 h15 x0 28).bind (fun y16 => (wra 20 h15 y16 y6 (-1)).bind (fun h17 => run (d + 1) m_Mo_spill 88 [(107, x0), (0, x1), (0, q2.1), (0, y6), (0, 0), (9, 0), (9, 0)] [] h17)))))))))))))))))))) := (cal_blk [88] 67 d m_Mo_spill _ h rfl).trans rfl
set_option maxRecDepth 20000 in
theorem k_Mo_spill_88 (d : Nat) (x0 : Int) (x1 : Int) (x2 : Int) (x3 : Int) (x4 : Int) (v5 : AV) (v6 : AV) (h : AH) : run (d + 1) m_Mo_spill 88 [(107, x0), (0, x1), (0, x2), (0, x3), (0, x4), v5, v6] [] h = (rdr 7 h x0 25).bind (fun y1 => (rda 20 h y1 x3).bind (fun y2 => (if x4 < y2 then (rdr 7 h x0 26).bind (fun y3 => (rda 20 h y3 (a_add (a_mul 4 x3) x4)).bind (fun y4 => (rdr 7 h x0 27).bind (fun y5 => (rda 20 h y5 (a_add (a_mul 4 x3) x4)).bind (fun y6 => (rdr 7 h x0 26).bind (fun y7 => (rdr 7 h x0 25).bind (fun y8 => (rda 20 h y8 x1).bind (fun y9 => (wra 20 h y7 (a_add (a_mul 4 x1) y9) y4).bind (fun h10 => (rdr 7 h10 x0 27).bind (fun y11 => (rdr 7 h10 x0 25).bind (fun y12 => (rda 20 h10 y12 x1).bind (fun y13 => (wra 20 h10 y11 (a_add (a_mul 4 x1) y13) y6).bind (fun h14 => (rdr 7 h14 x0 25).bind (fun y15 => (rda 20 h14 y15 x1).bind (fun y16 => (wra 20 h14 y15 x1 (a_add y16 1)).bind (fun h17 => (if y4 = 2 then (rdr 7 h17 x0 28).bind (fun y18 => (wra 20 h17 y18 y6 x1).bind (fun h19 => run (d + 1) m_Mo_spill 88 [(107, x0), (0, x1), (0, x2), (0, x3), (0, a_add x4 1), (0, y4), (0, y6)] [] h19)) else run (d + 1) m_Mo_spill 88 [(107, x0), (0, x1), (0, x2), (0, x3), (0, a_add x4 1), (0, y4), (0, y6)] [] h17)))))))))))))))) else (rdr 7 h x0 25).bind (fun y20 => (wra 20 h y20 x3 0).bind (fun h21 => (rdr 7 h21 x0 25).bind (fun y22 => (rda 20 h21 y22 x1).bind (fun y23 => some (y23, h21)))))))) := (run_blk [88] 85 d m_Mo_spill 88 _ _ h).trans rfl
set_option maxRecDepth 20000 in
theorem k_Mo_boxesIn (d : Nat) (x0 : Int) (x1 : Int) (h : AH) : cal (d + 1) m_Mo_boxesIn [(107, x0), (0, x1)] h = run (d + 1) m_Mo_boxesIn 4 [(107, x0), (0, x1), (0, 0), (0, 0)] [] h := (cal_blk [4] 10 d m_Mo_boxesIn _ h rfl).trans rfl
set_option maxRecDepth 20000 in
theorem k_Mo_boxesIn_4 (d : Nat) (x0 : Int) (x1 : Int) (x2 : Int) (x3 : Int) (h : AH) : run (d + 1) m_Mo_boxesIn 4 [(107, x0), (0, x1), (0, x2), (0, x3)] [] h = (if x3 < 5 then (if x3 = x1 then run (d + 1) m_Mo_boxesIn 4 [(107, x0), (0, x1), (0, a_or x2 0), (0, a_add x3 1)] [] h else (cal d m_Mo_isWithin [(107, x0), (0, x3), (0, x1)] h).bind (fun q1 => (if q1.1 = 0 then run (d + 1) m_Mo_boxesIn 4 [(107, x0), (0, x1), (0, a_or x2 0), (0, a_add x3 1)] [] q1.2 else run (d + 1) m_Mo_boxesIn 4 [(107, x0), (0, x1), (0, a_or x2 (a_shl 1 x3)), (0, a_add x3 1)] [] q1.2))) else some (x2, h)) := (run_blk [4] 40 d m_Mo_boxesIn 4 _ _ h).trans rfl
set_option maxRecDepth 20000 in
theorem k_Mo_depth (d : Nat) (x0 : Int) (x1 : Int) (h : AH) : cal (d + 1) m_Mo_depth [(107, x0), (0, x1)] h = run (d + 1) m_Mo_depth 4 [(107, x0), (0, x1), (0, 0), (0, 0), (9, 0), (9, 0)] [] h := (cal_blk [4, 15] 10 d m_Mo_depth _ h rfl).trans rfl
set_option maxRecDepth 20000 in
theorem k_Mo_depth_4 (d : Nat) (x0 : Int) (x1 : Int) (x2 : Int) (x3 : Int) (v4 : AV) (v5 : AV) (h : AH) : run (d + 1) m_Mo_depth 4 [(107, x0), (0, x1), (0, x2), (0, x3), v4, v5] [] h = (if x3 < 5 then run (d + 1) m_Mo_depth 15 [(107, x0), (0, x1), (0, x2), (0, x3), (0, 0), (0, x3)] [] h else some (x2, h)) := (run_blk [4, 15] 15 d m_Mo_depth 4 _ _ h).trans rfl
set_option maxRecDepth 20000 in
theorem k_Mo_depth_15 (d : Nat) (x0 : Int) (x1 : Int) (x2 : Int) (x3 : Int) (x4 : Int) (x5 : Int) (h : AH) : run (d + 1) m_Mo_depth 15 [(107, x0), (0, x1), (0, x2), (0, x3), (0, x4), (0, x5)] [] h = (if x5 = (-1) then (if x5 = x1 then (if x2 < x4 then run (d + 1) m_Mo_depth 4 [(107, x0), (0, x1), (0, x4), (0, a_add x3 1), (0, x4), (0, x5)] [] h else run (d + 1) m_Mo_depth 4 [(107, x0), (0, x1), (0, x2), (0, a_add x3 1), (0, x4), (0, x5)] [] h) else run (d + 1) m_Mo_depth 4 [(107, x0), (0, x1), (0, x2), (0, a_add x3 1), (0, x4), (0, x5)] [] h) else (if x5 = x1 then (if x5 = x1 then (if x2 < x4 then run (d + 1) m_Mo_depth 4 [(107, x0), (0, x1), (0, x4), (0, a_add x3 1), (0, x4), (0, x5)] [] h else run (d + 1) m_Mo_depth 4 [(107, x0), (0, x1), (0, x2), (0, a_add x3 1), (0, x4), (0, x5)] [] h) else run (d + 1) m_Mo_depth 4 [(107, x0), (0, x1), (0, x2), (0, a_add x3 1), (0, x4), (0, x5)] [] h) else (rdr 7 h x0 28).bind (fun y1 => (rda 20 h y1 x5).bind (fun y2 => run (d + 1) m_Mo_depth 15 [(107, x0), (0, x1), (0, x2), (0, x3), (0, a_add x4 1), (0, y2)] [] h)))) := (run_blk [4, 15] 63 d m_Mo_depth 15 _ _ h).trans rfl
set_option maxRecDepth 20000 in
theorem k_Mo_deep (d : Nat) (x0 : Int) (x1 : Int) (x2 : Int) (h : AH) : cal (d + 1) m_Mo_deep [(107, x0), (0, x1), (0, x2)] h = (cal d m_Mo_isBox [(0, x1)] h).bind (fun q1 => (if q1.1 = 0 then some ((-2), q1.2) else (cal d m_Mo_in [(2, x2), (2, 0), (2, 4)] q1.2).bind (fun q2 => (if q2.1 = 0 then some ((-3), q2.2) else (rdr 7 q2.2 x0 24).bind (fun y3 => (rda 20 q2.2 y3 x1).bind (fun y4 => (if y4 < 0 then some ((-11), q2.2) else (cal d m_Mo_boxesIn [(107, x0), (0, x1)] q2.2).bind (fun q5 => run (d + 1) m_Mo_deep 59 [(107, x0), (0, x1), (0, x2), (0, a_or q5.1 (a_shl 1 x1)), (0, 0), (0, 0), (0, 0), (0, 0), (9, 0)] [] q5.2)))))))) := (cal_blk [59, 98, 123, 154] 42 d m_Mo_deep _ h rfl).trans rfl
set_option maxRecDepth 20000 in
theorem k_Mo_deep_59 (d : Nat) (x0 : Int) (x1 : Int) (x2 : Int) (x3 : Int) (x4 : Int) (x5 : Int) (x6 : Int) (x7 : Int) (v8 : AV) (h : AH) : run (d + 1) m_Mo_deep 59 [(107, x0), (0, x1), (0, x2), (0, x3), (0, x4), (0, x5), (0, x6), (0, x7), v8] [] h = (if x7 < 20 then (if a_and (a_shr x3 (a_div x7 4)) 1 = 1 then (rdr 7 h x0 25).bind (fun y1 => (rda 20 h y1 (a_div x7 4)).bind (fun y2 => (if a_rem x7 4 < y2 then (rdr 7 h x0 26).bind (fun y3 => (rda 20 h y3 x7).bind (fun y4 => (if y4 = 0 then run (d + 1) m_Mo_deep 123 [(107, x0), (0, x1), (0, x2), (0, x3), (0, x4), (0, x5), (0, x6), (0, x7), (0, 1)] [(0, 1), (0, x4)] h else run (d + 1) m_Mo_deep 123 [(107, x0), (0, x1), (0, x2), (0, x3), (0, x4), (0, x5), (0, x6), (0, x7), (0, 1)] [(0, 0), (0, x4)] h))) else run (d + 1) m_Mo_deep 98 [(107, x0), (0, x1), (0, x2), (0, x3), (0, x4), (0, x5), (0, x6), (0, x7), v8] [] h))) else run (d + 1) m_Mo_deep 98 [(107, x0), (0, x1), (0, x2), (0, x3), (0, x4), (0, x5), (0, x6), (0, x7), v8] [] h) else (if x2 = 0 then some (x4, h) else (if x2 = 1 then some (a_add 50000 x5, h) else (if x2 = 2 then some (x6, h) else (if x2 = 3 then (cal d m_Mo_boxesIn [(107, x0), (0, x1)] h).bind (fun q5 => some (q5.1, q5.2)) else (cal d m_Mo_depth [(107, x0), (0, x1)] h).bind (fun q6 => some (q6.1, q6.2))))))) := (run_blk [59, 98, 123, 154] 76 d m_Mo_deep 59 _ _ h).trans rfl
set_option maxRecDepth 20000 in
theorem k_Mo_deep_98 (d : Nat) (x0 : Int) (x1 : Int) (x2 : Int) (x3 : Int) (x4 : Int) (x5 : Int) (x6 : Int) (x7 : Int) (v8 : AV) (h : AH) : run (d + 1) m_Mo_deep 98 [(107, x0), (0, x1), (0, x2), (0, x3), (0, x4), (0, x5), (0, x6), (0, x7), v8] [] h = run (d + 1) m_Mo_deep 123 [(107, x0), (0, x1), (0, x2), (0, x3), (0, x4), (0, x5), (0, x6), (0, x7), (0, 0)] [(0, 0), (0, x4)] h := (run_blk [59, 98, 123, 154] 12 d m_Mo_deep 98 _ _ h).trans rfl
set_option maxRecDepth 20000 in
theorem k_Mo_deep_123 (d : Nat) (x0 : Int) (x1 : Int) (x2 : Int) (x3 : Int) (x4 : Int) (x5 : Int) (x6 : Int) (x7 : Int) (x8 : Int) (s0 : Int) (s1 : Int) (h : AH) : run (d + 1) m_Mo_deep 123 [(107, x0), (0, x1), (0, x2), (0, x3), (0, x4), (0, x5), (0, x6), (0, x7), (0, x8)] [(0, s0), (0, s1)] h = (if x8 = 0 then run (d + 1) m_Mo_deep 154 [(107, x0), (0, x1), (0, x2), (0, x3), (0, a_add s1 s0), (0, x5), (0, x6), (0, x7), (0, x8)] [(0, 0), (0, x5)] h else (rdr 7 h x0 26).bind (fun y1 => (rda 20 h y1 x7).bind (fun y2 => (if y2 = 0 then (rdr 7 h x0 27).bind (fun y3 => (rda 20 h y3 x7).bind (fun y4 => run (d + 1) m_Mo_deep 154 [(107, x0), (0, x1), (0, x2), (0, x3), (0, a_add s1 s0), (0, x5), (0, x6), (0, x7), (0, x8)] [(0, y4), (0, x5)] h)) else run (d + 1) m_Mo_deep 154 [(107, x0), (0, x1), (0, x2), (0, x3), (0, a_add s1 s0), (0, x5), (0, x6), (0, x7), (0, x8)] [(0, 0), (0, x5)] h)))) := (run_blk [59, 98, 123, 154] 25 d m_Mo_deep 123 _ _ h).trans rfl
set_option maxRecDepth 20000 in
theorem k_Mo_deep_154 (d : Nat) (x0 : Int) (x1 : Int) (x2 : Int) (x3 : Int) (x4 : Int) (x5 : Int) (x6 : Int) (x7 : Int) (x8 : Int) (s0 : Int) (s1 : Int) (h : AH) : run (d + 1) m_Mo_deep 154 [(107, x0), (0, x1), (0, x2), (0, x3), (0, x4), (0, x5), (0, x6), (0, x7), (0, x8)] [(0, s0), (0, s1)] h = (if x8 = 0 then run (d + 1) m_Mo_deep 59 [(107, x0), (0, x1), (0, x2), (0, x3), (0, x4), (0, a_add s1 s0), (0, a_or x6 0), (0, a_add x7 1), (0, x8)] [] h else (rdr 7 h x0 26).bind (fun y1 => (rda 20 h y1 x7).bind (fun y2 => (if y2 = 1 then (rdr 7 h x0 27).bind (fun y3 => (rda 20 h y3 x7).bind (fun y4 => run (d + 1) m_Mo_deep 59 [(107, x0), (0, x1), (0, x2), (0, x3), (0, x4), (0, a_add s1 s0), (0, a_or x6 (a_shl 1 y4)), (0, a_add x7 1), (0, x8)] [] h)) else run (d + 1) m_Mo_deep 59 [(107, x0), (0, x1), (0, x2), (0, x3), (0, x4), (0, a_add s1 s0), (0, a_or x6 0), (0, a_add x7 1), (0, x8)] [] h)))) := (run_blk [59, 98, 123, 154] 40 d m_Mo_deep 154 _ _ h).trans rfl
set_option maxRecDepth 20000 in
theorem k_Mo_alike (d : Nat) (x0 : Int) (x1 : Int) (x2 : Int) (h : AH) : cal (d + 1) m_Mo_alike [(107, x0), (0, x1), (0, x2)] h = (cal d m_Mo_isBox [(0, x1)] h).bind (fun q1 => (if q1.1 = 0 then some ((-2), q1.2) else (cal d m_Mo_isBox [(0, x2)] q1.2).bind (fun q2 => (if q2.1 = 0 then some ((-2), q2.2) else (rdr 7 q2.2 x0 24).bind (fun y3 => (rda 20 q2.2 y3 x1).bind (fun y4 => (if y4 < 0 then some ((-11), q2.2) else (rdr 7 q2.2 x0 24).bind (fun y5 => (rda 20 q2.2 y5 x2).bind (fun y6 => (if y6 < 0 then some ((-11), q2.2) else (rdr 7 q2.2 x0 29).bind (fun y7 => (wra 20 q2.2 y7 0 x1).bind (fun h8 => (rdr 7 h8 x0 30).bind (fun y9 => (wra 20 h8 y9 0 x2).bind (fun h10 => run (d + 1) m_Mo_alike 60 [(107, x0), (0, x1), (0, x2), (0, 1), (0, 1), (0, 0), (9, 0), (9, 0), (9, 0), (9, 0)] [] h10)))))))))))))) := (cal_blk [60, 116, 197, 201] 46 d m_Mo_alike _ h rfl).trans rfl
set_option maxRecDepth 20000 in
theorem k_Mo_alike_60 (d : Nat) (x0 : Int) (x1 : Int) (x2 : Int) (x3 : Int) (x4 : Int) (x5 : Int) (v6 : AV) (v7 : AV) (v8 : AV) (v9 : AV) (h : AH) : run (d + 1) m_Mo_alike 60 [(107, x0), (0, x1), (0, x2), (0, x3), (0, x4), (0, x5), v6, v7, v8, v9] [] h = (if x5 < x3 then (if x4 = 0 then (if x4 = 0 then some (0, h) else some (1, h)) else (rdr 7 h x0 29).bind (fun y1 => (rda 20 h y1 x5).bind (fun y2 => (rdr 7 h x0 30).bind (fun y3 => (rda 20 h y3 x5).bind (fun y4 => (rdr 7 h x0 25).bind (fun y5 => (rda 20 h y5 y2).bind (fun y6 => (rdr 7 h x0 25).bind (fun y7 => (rda 20 h y7 y4).bind (fun y8 => (if y6 = y8 then run (d + 1) m_Mo_alike 116 [(107, x0), (0, x1), (0, x2), (0, x3), (0, 1), (0, x5), (0, y2), (0, y4), (0, 0), v9] [] h else run (d + 1) m_Mo_alike 116 [(107, x0), (0, x1), (0, x2), (0, x3), (0, 0), (0, x5), (0, y2), (0, y4), (0, 0), v9] [] h)))))))))) else (if x4 = 0 then some (0, h) else some (1, h))) := (run_blk [60, 116, 197, 201] 54 d m_Mo_alike 60 _ _ h).trans rfl
set_option maxRecDepth 20000 in
theorem k_Mo_alike_116 (d : Nat) (x0 : Int) (x1 : Int) (x2 : Int) (x3 : Int) (x4 : Int) (x5 : Int) (x6 : Int) (x7 : Int) (x8 : Int) (v9 : AV) (h : AH) : run (d + 1) m_Mo_alike 116 [(107, x0), (0, x1), (0, x2), (0, x3), (0, x4), (0, x5), (0, x6), (0, x7), (0, x8), v9] [] h = (rdr 7 h x0 25).bind (fun y1 => (rda 20 h y1 x6).bind (fun y2 => (if x8 < y2 then (if x4 = 0 then run (d + 1) m_Mo_alike 60 [(107, x0), (0, x1), (0, x2), (0, x3), (0, x4), (0, a_add x5 1), (0, x6), (0, x7), (0, x8), v9] [] h else (rdr 7 h x0 26).bind (fun y3 => (rda 20 h y3 (a_add (a_mul 4 x6) x8)).bind (fun y4 => (rdr 7 h x0 26).bind (fun y5 => (rda 20 h y5 (a_add (a_mul 4 x7) x8)).bind (fun y6 => (if y4 = y6 then (if y4 = 2 then run (d + 1) m_Mo_alike 197 [(107, x0), (0, x1), (0, x2), (0, x3), (0, x4), (0, x5), (0, x6), (0, x7), (0, x8), (0, y4)] [] h else (rdr 7 h x0 27).bind (fun y7 => (rda 20 h y7 (a_add (a_mul 4 x6) x8)).bind (fun y8 => (rdr 7 h x0 27).bind (fun y9 => (rda 20 h y9 (a_add (a_mul 4 x7) x8)).bind (fun y10 => (if y8 = y10 then run (d + 1) m_Mo_alike 197 [(107, x0), (0, x1), (0, x2), (0, x3), (0, x4), (0, x5), (0, x6), (0, x7), (0, x8), (0, y4)] [] h else run (d + 1) m_Mo_alike 201 [(107, x0), (0, x1), (0, x2), (0, x3), (0, x4), (0, x5), (0, x6), (0, x7), (0, x8), (0, y4)] [] h)))))) else run (d + 1) m_Mo_alike 201 [(107, x0), (0, x1), (0, x2), (0, x3), (0, x4), (0, x5), (0, x6), (0, x7), (0, x8), (0, y4)] [] h)))))) else run (d + 1) m_Mo_alike 60 [(107, x0), (0, x1), (0, x2), (0, x3), (0, x4), (0, a_add x5 1), (0, x6), (0, x7), (0, x8), v9] [] h))) := (run_blk [60, 116, 197, 201] 62 d m_Mo_alike 116 _ _ h).trans rfl
set_option maxRecDepth 20000 in
theorem k_Mo_alike_197 (d : Nat) (x0 : Int) (x1 : Int) (x2 : Int) (x3 : Int) (x4 : Int) (x5 : Int) (x6 : Int) (x7 : Int) (x8 : Int) (x9 : Int) (h : AH) : run (d + 1) m_Mo_alike 197 [(107, x0), (0, x1), (0, x2), (0, x3), (0, x4), (0, x5), (0, x6), (0, x7), (0, x8), (0, x9)] [] h = (if x9 = 2 then (rdr 7 h x0 29).bind (fun y1 => (rdr 7 h x0 27).bind (fun y2 => (rda 20 h y2 (a_add (a_mul 4 x6) x8)).bind (fun y3 => (wra 20 h y1 x3 y3).bind (fun h4 => (rdr 7 h4 x0 30).bind (fun y5 => (rdr 7 h4 x0 27).bind (fun y6 => (rda 20 h4 y6 (a_add (a_mul 4 x7) x8)).bind (fun y7 => (wra 20 h4 y5 x3 y7).bind (fun h8 => run (d + 1) m_Mo_alike 116 [(107, x0), (0, x1), (0, x2), (0, a_add x3 1), (0, 1), (0, x5), (0, x6), (0, x7), (0, a_add x8 1), (0, x9)] [] h8)))))))) else run (d + 1) m_Mo_alike 116 [(107, x0), (0, x1), (0, x2), (0, x3), (0, 1), (0, x5), (0, x6), (0, x7), (0, a_add x8 1), (0, x9)] [] h) := (run_blk [60, 116, 197, 201] 44 d m_Mo_alike 197 _ _ h).trans rfl
set_option maxRecDepth 20000 in
theorem k_Mo_alike_201 (d : Nat) (x0 : Int) (x1 : Int) (x2 : Int) (x3 : Int) (x4 : Int) (x5 : Int) (x6 : Int) (x7 : Int) (x8 : Int) (x9 : Int) (h : AH) : run (d + 1) m_Mo_alike 201 [(107, x0), (0, x1), (0, x2), (0, x3), (0, x4), (0, x5), (0, x6), (0, x7), (0, x8), (0, x9)] [] h = run (d + 1) m_Mo_alike 116 [(107, x0), (0, x1), (0, x2), (0, x3), (0, 0), (0, x5), (0, x6), (0, x7), (0, a_add x8 1), (0, x9)] [] h := (run_blk [60, 116, 197, 201] 12 d m_Mo_alike 201 _ _ h).trans rfl
set_option maxRecDepth 20000 in
theorem k_Mo_lose (d : Nat) (x0 : Int) (x1 : Int) (h : AH) : cal (d + 1) m_Mo_lose [(107, x0), (0, x1)] h = (cal d m_Mo_isBox [(0, x1)] h).bind (fun q1 => (if q1.1 = 0 then some ((-2), q1.2) else (rdr 7 q1.2 x0 24).bind (fun y2 => (rda 20 q1.2 y2 x1).bind (fun y3 => (if y3 < 0 then some ((-11), q1.2) else (rdr 7 q1.2 x0 25).bind (fun y4 => (rda 20 q1.2 y4 x1).bind (fun y5 => (cal d m_Mo_loses [(107, x0), (0, x1)] q1.2).bind (fun q6 => some (y5, q6.2))))))))) := (cal_blk [] 27 d m_Mo_lose _ h rfl).trans rfl
set_option maxRecDepth 20000 in
theorem k_Mo_seedsOfAll (d : Nat) (x0 : Int) (h : AH) : cal (d + 1) m_Mo_seedsOfAll [(107, x0)] h = run (d + 1) m_Mo_seedsOfAll 4 [(107, x0), (0, 0), (0, 0)] [] h := (cal_blk [4] 10 d m_Mo_seedsOfAll _ h rfl).trans rfl
set_option maxRecDepth 20000 in
theorem k_Mo_seedsOfAll_4 (d : Nat) (x0 : Int) (x1 : Int) (x2 : Int) (h : AH) : run (d + 1) m_Mo_seedsOfAll 4 [(107, x0), (0, x1), (0, x2)] [] h = (rdr 7 h x0 0).bind (fun y1 => (rda 20 h y1 0).bind (fun y2 => (if x2 < a_mul 2 y2 then (rdr 7 h x0 0).bind (fun y3 => (rda 20 h y3 (a_add 15 x2)).bind (fun y4 => run (d + 1) m_Mo_seedsOfAll 4 [(107, x0), (0, a_add x1 y4), (0, a_add x2 1)] [] h)) else some (x1, h)))) := (run_blk [4] 27 d m_Mo_seedsOfAll 4 _ _ h).trans rfl
set_option maxRecDepth 20000 in
theorem k_Mo_goers (d : Nat) (x0 : Int) (h : AH) : cal (d + 1) m_Mo_goers [(107, x0)] h = run (d + 1) m_Mo_goers 4 [(107, x0), (0, 0), (0, 0)] [] h := (cal_blk [4] 10 d m_Mo_goers _ h rfl).trans rfl
set_option maxRecDepth 20000 in
theorem k_Mo_goers_4 (d : Nat) (x0 : Int) (x1 : Int) (x2 : Int) (h : AH) : run (d + 1) m_Mo_goers 4 [(107, x0), (0, x1), (0, x2)] [] h = (rdr 7 h x0 0).bind (fun y1 => (rda 20 h y1 0).bind (fun y2 => (if x2 < a_mul 2 y2 then (cal d m_Mo_canGo [(107, x0), (0, x2)] h).bind (fun q3 => (if q3.1 = 0 then run (d + 1) m_Mo_goers 4 [(107, x0), (0, a_or x1 0), (0, a_add x2 1)] [] q3.2 else run (d + 1) m_Mo_goers 4 [(107, x0), (0, a_or x1 (a_shl 1 x2)), (0, a_add x2 1)] [] q3.2)) else some (x1, h)))) := (run_blk [4] 35 d m_Mo_goers 4 _ _ h).trans rfl
set_option maxRecDepth 20000 in
theorem k_Mo_boxesThere (d : Nat) (x0 : Int) (h : AH) : cal (d + 1) m_Mo_boxesThere [(107, x0)] h = run (d + 1) m_Mo_boxesThere 4 [(107, x0), (0, 0), (0, 0)] [] h := (cal_blk [4] 10 d m_Mo_boxesThere _ h rfl).trans rfl
set_option maxRecDepth 20000 in
theorem k_Mo_boxesThere_4 (d : Nat) (x0 : Int) (x1 : Int) (x2 : Int) (h : AH) : run (d + 1) m_Mo_boxesThere 4 [(107, x0), (0, x1), (0, x2)] [] h = (if x2 < 5 then (rdr 7 h x0 24).bind (fun y1 => (rda 20 h y1 x2).bind (fun y2 => (if y2 < 0 then run (d + 1) m_Mo_boxesThere 4 [(107, x0), (0, a_or x1 0), (0, a_add x2 1)] [] h else run (d + 1) m_Mo_boxesThere 4 [(107, x0), (0, a_or x1 (a_shl 1 x2)), (0, a_add x2 1)] [] h))) else some (x1, h)) := (run_blk [4] 31 d m_Mo_boxesThere 4 _ _ h).trans rfl
set_option maxRecDepth 20000 in
theorem k_Mo_count (d : Nat) (x0 : Int) (x1 : Int) (h : AH) : cal (d + 1) m_Mo_count [(107, x0), (0, x1)] h = (if x1 = 0 then (rdr 7 h x0 0).bind (fun y15 => (rda 20 h y15 0).bind (fun y16 => some (a_mul 2 y16, h))) else (if x1 = 1 then (rdr 7 h x0 0).bind (fun y13 => (rda 20 h y13 4).bind (fun y14 => some (y14, h))) else (if x1 = 2 then (rdr 7 h x0 0).bind (fun y11 => (rda 20 h y11 1).bind (fun y12 => some (y12, h))) else (if x1 = 3 then (rdr 7 h x0 0).bind (fun y9 => (rda 20 h y9 2).bind (fun y10 => some (y10, h))) else (if x1 = 4 then (rdr 7 h x0 0).bind (fun y7 => (rda 20 h y7 3).bind (fun y8 => some (y8, h))) else (if x1 = 5 then (cal d m_Mo_seedsOfAll [(107, x0)] h).bind (fun q6 => some (q6.1, q6.2)) else (if x1 = 6 then (cal d m_Mo_goers [(107, x0)] h).bind (fun q5 => some (q5.1, q5.2)) else (if x1 = 7 then (rdf 7 h x0 23).bind (fun y4 => some (y4, h)) else (if x1 = 8 then (cal d m_Mo_boxesThere [(107, x0)] h).bind (fun q3 => some (q3.1, q3.2)) else (if x1 = 9 then (rdf 7 h x0 11).bind (fun y2 => some (y2, h)) else (if x1 = 10 then (rdf 7 h x0 3).bind (fun y1 => some (y1, h)) else some ((-3), h)))))))))))) := (cal_blk [] 54 d m_Mo_count _ h rfl).trans rfl
end
section
/-! The methods' equations, a row a place: printed by program (wip/tools/dec.py). -/
set_option maxRecDepth 20000 in
theorem k_La_law (d : Nat) (x0 : Int) (h : AH) : cal (d + 1) m_La_law [(126, x0)] h = (cal d m_Ss_init [(106, Int.ofNat (List.length h))] (h ++ [(6, am_ini 6)])).bind (fun q1 => (cal d m_Mo_init [(107, Int.ofNat (List.length q1.2))] (q1.2 ++ [(7, am_ini 7)])).bind (fun q2 => run (d + 1) m_La_law 18 [(126, x0), (106, Int.ofNat (List.length h)), (107, Int.ofNat (List.length q1.2)), (0, 0)] [] q2.2)) := (cal_blk [18, 928] 16 d m_La_law _ h rfl).trans rfl
set_option maxRecDepth 20000 in
theorem k_La_law_18 (d : Nat) (x0 : Int) (x1 : Int) (x2 : Int) (x3 : Int) (h : AH) : run (d + 1) m_La_law 18 [(126, x0), (106, x1), (107, x2), (0, x3)] [] h = (am_cl 26 h x0).bind (fun y1 => (if a_sub (Int.ofNat y1.length) 5 < x3 then some (1, h) else (rda 26 h x0 x3).bind (fun y2 => (if a_and y2 31 = 0 then (rda 26 h x0 (a_add x3 1)).bind (fun y133 => (cal d m_Ss_write [(106, x1), (0, y133)] h).bind (fun q134 => (rda 26 q134.2 x0 (a_add x3 1)).bind (fun y135 => (cal d m_Mo_write [(107, x2), (0, y135)] q134.2).bind (fun q136 => (if q134.1 = q136.1 then run (d + 1) m_La_law 928 [(126, x0), (106, x1), (107, x2), (0, x3)] [] q136.2 else some (0, q136.2)))))) else (if a_and y2 31 = 1 then (cal d m_Ss_erase [(106, x1)] h).bind (fun q131 => (cal d m_Mo_erase [(107, x2)] q131.2).bind (fun q132 => (if q131.1 = q132.1 then run (d + 1) m_La_law 928 [(126, x0), (106, x1), (107, x2), (0, x3)] [] q132.2 else some (0, q132.2)))) else (if a_and y2 31 = 2 then (cal d m_Ss_fault [(106, x1)] h).bind (fun q129 => (cal d m_Mo_fault [(107, x2)] q129.2).bind (fun q130 => (if q129.1 = q130.1 then run (d + 1) m_La_law 928 [(126, x0), (106, x1), (107, x2), (0, x3)] [] q130.2 else some (0, q130.2)))) else (if a_and y2 31 = 3 then (cal d m_Ss_board [(106, x1)] h).bind (fun q127 => (cal d m_Mo_board [(107, x2)] q127.2).bind (fun q128 => (if q127.1 = q128.1 then run (d + 1) m_La_law 928 [(126, x0), (106, x1), (107, x2), (0, x3)] [] q128.2 else some (0, q128.2)))) else (if a_and y2 31 = 4 then (rda 26 h x0 (a_add x3 1)).bind (fun y121 => (rda 26 h x0 (a_add x3 2)).bind (fun y122 => (cal d m_Ss_house [(106, x1), (0, y121), (0, y122)] h).bind (fun q123 => (rda 26 q123.2 x0 (a_add x3 1)).bind (fun y124 => (rda 26 q123.2 x0 (a_add x3 2)).bind (fun y125 => (cal d m_Mo_house [(107, x2), (0, y124), (0, y125)] q123.2).bind (fun q126 => (if q123.1 = q126.1 then run (d + 1) m_La_law 928 [(126, x0), (106, x1), (107, x2), (0, x3)] [] q126.2 else some (0, q126.2)))))))) else (if a_and y2 31 = 5 then (rda 26 h x0 (a_add x3 1)).bind (fun y115 => (rda 26 h x0 (a_add x3 2)).bind (fun y116 => (cal d m_Ss_as [(106, x1), (0, y115), (0, y116)] h).bind (fun q117 => (rda 26 q117.2 x0 (a_add x3 1)).bind (fun y118 => (rda 26 q117.2 x0 (a_add x3 2)).bind (fun y119 => (cal d m_Mo_as [(107, x2), (0, y118), (0, y119)] q117.2).bind (fun q120 => (if q117.1 = q120.1 then run (d + 1) m_La_law 928 [(126, x0), (106, x1), (107, x2), (0, x3)] [] q120.2 else some (0, q120.2)))))))) else (if a_and y2 31 = 6 then (rda 26 h x0 (a_add x3 1)).bind (fun y111 => (cal d m_Ss_move [(106, x1), (0, y111)] h).bind (fun q112 => (rda 26 q112.2 x0 (a_add x3 1)).bind (fun y113 => (cal d m_Mo_move [(107, x2), (0, y113)] q112.2).bind (fun q114 => (if q112.1 = q114.1 then run (d + 1) m_La_law 928 [(126, x0), (106, x1), (107, x2), (0, x3)] [] q114.2 else some (0, q114.2)))))) else (if a_and y2 31 = 7 then (rda 26 h x0 (a_add x3 1)).bind (fun y105 => (rda 26 h x0 (a_add x3 2)).bind (fun y106 => (cal d m_Ss_drop [(106, x1), (0, y105), (0, y106)] h).bind (fun q107 => (rda 26 q107.2 x0 (a_add x3 1)).bind (fun y108 => (rda 26 q107.2 x0 (a_add x3 2)).bind (fun y109 => (cal d m_Mo_drop [(107, x2), (0, y108), (0, y109)] q107.2).bind (fun q110 => (if q107.1 = q110.1 then run (d + 1) m_La_law 928 [(126, x0), (106, x1), (107, x2), (0, x3)] [] q110.2 else some (0, q110.2)))))))) else (if a_and y2 31 = 8 then (rda 26 h x0 (a_add x3 1)).bind (fun y99 => (rda 26 h x0 (a_add x3 2)).bind (fun y100 => (cal d m_Ss_swap [(106, x1), (0, y99), (0, y100)] h).bind (fun q101 => (rda 26 q101.2 x0 (a_add x3 1)).bind (fun y102 => (rda 26 q101.2 x0 (a_add x3 2)).bind (fun y103 => (cal d m_Mo_swap [(107, x2), (0, y102), (0, y103)] q101.2).bind (fun q104 => (if q101.1 = q104.1 then run (d + 1) m_La_law 928 [(126, x0), (106, x1), (107, x2), (0, x3)] [] q104.2 else some (0, q104.2)))))))) else (if a_and y2 31 = 9 then (cal d m_Ss_undo [(106, x1)] h).bind (fun q97 => (cal d m_Mo_undo [(107, x2)] q97.2).bind (fun q98 => (if q97.1 = q98.1 then run (d + 1) m_La_law 928 [(126, x0), (106, x1), (107, x2), (0, x3)] [] q98.2 else some (0, q98.2)))) else (if a_and y2 31 = 10 then (rda 26 h x0 (a_add x3 1)).bind (fun y93 => (cal d m_Ss_keep [(106, x1), (0, y93)] h).bind (fun q94 => (rda 26 q94.2 x0 (a_add x3 1)).bind (fun y95 => (cal d m_Mo_keep [(107, x2), (0, y95)] q94.2).bind (fun q96 => (if q94.1 = q96.1 then run (d + 1) m_La_law 928 [(126, x0), (106, x1), (107, x2), (0, x3)] [] q96.2 else some (0, q96.2)))))) else (if a_and y2 31 = 11 then (rda 26 h x0 (a_add x3 1)).bind (fun y89 => (cal d m_Ss_back [(106, x1), (0, y89)] h).bind (fun q90 => (rda 26 q90.2 x0 (a_add x3 1)).bind (fun y91 => (cal d m_Mo_back [(107, x2), (0, y91)] q90.2).bind (fun q92 => (if q90.1 = q92.1 then run (d + 1) m_La_law 928 [(126, x0), (106, x1), (107, x2), (0, x3)] [] q92.2 else some (0, q92.2)))))) else (if a_and y2 31 = 12 then (rda 26 h x0 (a_add x3 1)).bind (fun y85 => (cal d m_Ss_brings [(106, x1), (0, y85)] h).bind (fun q86 => (rda 26 q86.2 x0 (a_add x3 1)).bind (fun y87 => (cal d m_Mo_brings [(107, x2), (0, y87)] q86.2).bind (fun q88 => (if q86.1 = q88.1 then run (d + 1) m_La_law 928 [(126, x0), (106, x1), (107, x2), (0, x3)] [] q88.2 else some (0, q88.2)))))) else (if a_and y2 31 = 13 then (rda 26 h x0 (a_add x3 1)).bind (fun y79 => (rda 26 h x0 (a_add x3 2)).bind (fun y80 => (cal d m_Ss_best [(106, x1), (0, y79), (0, y80)] h).bind (fun q81 => (rda 26 q81.2 x0 (a_add x3 1)).bind (fun y82 => (rda 26 q81.2 x0 (a_add x3 2)).bind (fun y83 => (cal d m_Mo_best [(107, x2), (0, y82), (0, y83)] q81.2).bind (fun q84 => (if q81.1 = q84.1 then run (d + 1) m_La_law 928 [(126, x0), (106, x1), (107, x2), (0, x3)] [] q84.2 else some (0, q84.2)))))))) else (if a_and y2 31 = 14 then (rda 26 h x0 (a_add x3 1)).bind (fun y75 => (cal d m_Ss_rash [(106, x1), (0, y75)] h).bind (fun q76 => (rda 26 q76.2 x0 (a_add x3 1)).bind (fun y77 => (cal d m_Mo_rash [(107, x2), (0, y77)] q76.2).bind (fun q78 => (if q76.1 = q78.1 then run (d + 1) m_La_law 928 [(126, x0), (106, x1), (107, x2), (0, x3)] [] q78.2 else some (0, q78.2)))))) else (if a_and y2 31 = 15 then (cal d m_Ss_over [(106, x1)] h).bind (fun q73 => (cal d m_Mo_over [(107, x2)] q73.2).bind (fun q74 => (if q73.1 = q74.1 then run (d + 1) m_La_law 928 [(126, x0), (106, x1), (107, x2), (0, x3)] [] q74.2 else some (0, q74.2)))) else (if a_and y2 31 = 16 then (rda 26 h x0 (a_add x3 1)).bind (fun y69 => (cal d m_Ss_gift [(106, x1), (0, y69)] h).bind (fun q70 => (rda 26 q70.2 x0 (a_add x3 1)).bind (fun y71 => (cal d m_Mo_gift [(107, x2), (0, y71)] q70.2).bind (fun q72 => (if q70.1 = q72.1 then run (d + 1) m_La_law 928 [(126, x0), (106, x1), (107, x2), (0, x3)] [] q72.2 else some (0, q72.2)))))) else (if a_and y2 31 = 17 then (rda 26 h x0 (a_add x3 1)).bind (fun y63 => (rda 26 h x0 (a_add x3 2)).bind (fun y64 => (cal d m_Ss_luck [(106, x1), (0, y63), (0, y64)] h).bind (fun q65 => (rda 26 q65.2 x0 (a_add x3 1)).bind (fun y66 => (rda 26 q65.2 x0 (a_add x3 2)).bind (fun y67 => (cal d m_Mo_luck [(107, x2), (0, y66), (0, y67)] q65.2).bind (fun q68 => (if q65.1 = q68.1 then run (d + 1) m_La_law 928 [(126, x0), (106, x1), (107, x2), (0, x3)] [] q68.2 else some (0, q68.2)))))))) else (if a_and y2 31 = 18 then (rda 26 h x0 (a_add x3 1)).bind (fun y53 => (rda 26 h x0 (a_add x3 2)).bind (fun y54 => (rda 26 h x0 (a_add x3 3)).bind (fun y55 => (rda 26 h x0 (a_add x3 4)).bind (fun y56 => (cal d m_Ss_seen [(106, x1), (0, y53), (0, y54), (0, y55), (0, y56)] h).bind (fun q57 => (rda 26 q57.2 x0 (a_add x3 1)).bind (fun y58 => (rda 26 q57.2 x0 (a_add x3 2)).bind (fun y59 => (rda 26 q57.2 x0 (a_add x3 3)).bind (fun y60 => (rda 26 q57.2 x0 (a_add x3 4)).bind (fun y61 => (cal d m_Mo_seen [(107, x2), (0, y58), (0, y59), (0, y60), (0, y61)] q57.2).bind (fun q62 => (if q57.1 = q62.1 then run (d + 1) m_La_law 928 [(126, x0), (106, x1), (107, x2), (0, x3)] [] q62.2 else some (0, q62.2)))))))))))) else (if a_and y2 31 = 19 then (cal d m_Ss_forget [(106, x1)] h).bind (fun q51 => (cal d m_Mo_forget [(107, x2)] q51.2).bind (fun q52 => (if q51.1 = q52.1 then run (d + 1) m_La_law 928 [(126, x0), (106, x1), (107, x2), (0, x3)] [] q52.2 else some (0, q52.2)))) else (if a_and y2 31 = 20 then (cal d m_Ss_kinds [(106, x1)] h).bind (fun q49 => (cal d m_Mo_kinds [(107, x2)] q49.2).bind (fun q50 => (if q49.1 = q50.1 then run (d + 1) m_La_law 928 [(126, x0), (106, x1), (107, x2), (0, x3)] [] q50.2 else some (0, q50.2)))) else (if a_and y2 31 = 21 then (cal d m_Ss_ask [(106, x1)] h).bind (fun q47 => (cal d m_Mo_ask [(107, x2)] q47.2).bind (fun q48 => (if q47.1 = q48.1 then run (d + 1) m_La_law 928 [(126, x0), (106, x1), (107, x2), (0, x3)] [] q48.2 else some (0, q48.2)))) else (if a_and y2 31 = 22 then (rda 26 h x0 (a_add x3 1)).bind (fun y41 => (rda 26 h x0 (a_add x3 2)).bind (fun y42 => (cal d m_Ss_box [(106, x1), (0, y41), (0, y42)] h).bind (fun q43 => (rda 26 q43.2 x0 (a_add x3 1)).bind (fun y44 => (rda 26 q43.2 x0 (a_add x3 2)).bind (fun y45 => (cal d m_Mo_box [(107, x2), (0, y44), (0, y45)] q43.2).bind (fun q46 => (if q43.1 = q46.1 then run (d + 1) m_La_law 928 [(126, x0), (106, x1), (107, x2), (0, x3)] [] q46.2 else some (0, q46.2)))))))) else (if a_and y2 31 = 23 then (rda 26 h x0 (a_add x3 1)).bind (fun y33 => (rda 26 h x0 (a_add x3 2)).bind (fun y34 => (rda 26 h x0 (a_add x3 3)).bind (fun y35 => (cal d m_Ss_put [(106, x1), (0, y33), (0, y34), (0, y35)] h).bind (fun q36 => (rda 26 q36.2 x0 (a_add x3 1)).bind (fun y37 => (rda 26 q36.2 x0 (a_add x3 2)).bind (fun y38 => (rda 26 q36.2 x0 (a_add x3 3)).bind (fun y39 => (cal d m_Mo_put [(107, x2), (0, y37), (0, y38), (0, y39)] q36.2).bind (fun q40 => (if q36.1 = q40.1 then run (d + 1) m_La_law 928 [(126, x0), (106, x1), (107, x2), (0, x3)] [] q40.2 else some (0, q40.2)))))))))) else (if a_and y2 31 = 24 then (rda 26 h x0 (a_add x3 1)).bind (fun y27 => (rda 26 h x0 (a_add x3 2)).bind (fun y28 => (cal d m_Ss_take [(106, x1), (0, y27), (0, y28)] h).bind (fun q29 => (rda 26 q29.2 x0 (a_add x3 1)).bind (fun y30 => (rda 26 q29.2 x0 (a_add x3 2)).bind (fun y31 => (cal d m_Mo_take [(107, x2), (0, y30), (0, y31)] q29.2).bind (fun q32 => (if q29.1 = q32.1 then run (d + 1) m_La_law 928 [(126, x0), (106, x1), (107, x2), (0, x3)] [] q32.2 else some (0, q32.2)))))))) else (if a_and y2 31 = 25 then (rda 26 h x0 (a_add x3 1)).bind (fun y23 => (cal d m_Ss_spill [(106, x1), (0, y23)] h).bind (fun q24 => (rda 26 q24.2 x0 (a_add x3 1)).bind (fun y25 => (cal d m_Mo_spill [(107, x2), (0, y25)] q24.2).bind (fun q26 => (if q24.1 = q26.1 then run (d + 1) m_La_law 928 [(126, x0), (106, x1), (107, x2), (0, x3)] [] q26.2 else some (0, q26.2)))))) else (if a_and y2 31 = 26 then (rda 26 h x0 (a_add x3 1)).bind (fun y17 => (rda 26 h x0 (a_add x3 2)).bind (fun y18 => (cal d m_Ss_deep [(106, x1), (0, y17), (0, y18)] h).bind (fun q19 => (rda 26 q19.2 x0 (a_add x3 1)).bind (fun y20 => (rda 26 q19.2 x0 (a_add x3 2)).bind (fun y21 => (cal d m_Mo_deep [(107, x2), (0, y20), (0, y21)] q19.2).bind (fun q22 => (if q19.1 = q22.1 then run (d + 1) m_La_law 928 [(126, x0), (106, x1), (107, x2), (0, x3)] [] q22.2 else some (0, q22.2)))))))) else (if a_and y2 31 = 27 then (rda 26 h x0 (a_add x3 1)).bind (fun y11 => (rda 26 h x0 (a_add x3 2)).bind (fun y12 => (cal d m_Ss_alike [(106, x1), (0, y11), (0, y12)] h).bind (fun q13 => (rda 26 q13.2 x0 (a_add x3 1)).bind (fun y14 => (rda 26 q13.2 x0 (a_add x3 2)).bind (fun y15 => (cal d m_Mo_alike [(107, x2), (0, y14), (0, y15)] q13.2).bind (fun q16 => (if q13.1 = q16.1 then run (d + 1) m_La_law 928 [(126, x0), (106, x1), (107, x2), (0, x3)] [] q16.2 else some (0, q16.2)))))))) else (if a_and y2 31 = 28 then (rda 26 h x0 (a_add x3 1)).bind (fun y7 => (cal d m_Ss_lose [(106, x1), (0, y7)] h).bind (fun q8 => (rda 26 q8.2 x0 (a_add x3 1)).bind (fun y9 => (cal d m_Mo_lose [(107, x2), (0, y9)] q8.2).bind (fun q10 => (if q8.1 = q10.1 then run (d + 1) m_La_law 928 [(126, x0), (106, x1), (107, x2), (0, x3)] [] q10.2 else some (0, q10.2)))))) else (if a_and y2 31 = 29 then (rda 26 h x0 (a_add x3 1)).bind (fun y3 => (cal d m_Ss_count [(106, x1), (0, y3)] h).bind (fun q4 => (rda 26 q4.2 x0 (a_add x3 1)).bind (fun y5 => (cal d m_Mo_count [(107, x2), (0, y5)] q4.2).bind (fun q6 => (if q4.1 = q6.1 then run (d + 1) m_La_law 928 [(126, x0), (106, x1), (107, x2), (0, x3)] [] q6.2 else some (0, q6.2)))))) else run (d + 1) m_La_law 928 [(126, x0), (106, x1), (107, x2), (0, x3)] [] h))))))))))))))))))))))))))))))))) := (run_blk [18, 928] 630 d m_La_law 18 _ _ h).trans rfl
set_option maxRecDepth 20000 in
theorem k_La_law_928 (d : Nat) (x0 : Int) (x1 : Int) (x2 : Int) (x3 : Int) (h : AH) : run (d + 1) m_La_law 928 [(126, x0), (106, x1), (107, x2), (0, x3)] [] h = run (d + 1) m_La_law 18 [(126, x0), (106, x1), (107, x2), (0, a_add x3 5)] [] h := (run_blk [18, 928] 8 d m_La_law 928 _ _ h).trans rfl
end
section
/-! What ties a heap of the abstract machine to the machine's own: addresses as, cells, tags. -/
/-- classes and slots; array classes; where the new cells begin; the script; where the Strings and their bytes lie -/
abbrev AG : Type := va_G × (Nat → ClassId) × Nat × List Int × (Nat → Nat) × (Nat → Nat)
def gA (G : AG) : Nat → Prop := fun q => G.2.2.1 ≤ q
abbrev gD (G : AG) : va_G := G.1
abbrev gC (G : AG) : Nat → ClassId := G.2.1
abbrev gS (G : AG) : List Int := G.2.2.2.1
abbrev gK (G : AG) : Nat → Nat := G.2.2.2.2.1
abbrev gV (G : AG) : Nat → Nat := G.2.2.2.2.2
def ovr : List Int := [3, 7, 11, 17, 49]
def tyA (G : AG) : List (ClassId × FieldType) := [(gC G 20, .int), (gC G 21, .boolean), (gC G 22, .char), (gC G 23, .long), (gC G 24, .object RX0), (gC G 25, .object RX1)]
def inI (x : Int) : Prop := -2147483648 ≤ x ∧ x < 2147483648
def inL (x : Int) : Prop := -9223372036854775808 ≤ x ∧ x < 9223372036854775808
def adr (as : List Nat) (x : Int) : Nat := as.getD x.toNat 0
def hro (as : List Nat) (x : Int) : Option Nat := if x < 0 then none else some (adr as x)
def cvv (G : AG) (as : List Nat) (v : AV) : Value := if v.1 = 0 then .int (Int32.ofInt v.2) else if v.1 = 2 then .long (Int64.ofInt v.2) else if v.1 = 3 then .ref (gK G v.2.toNat) else .ref (adr as v.2)
def okv (tg : List Nat) (v : AV) : Prop := (v.1 = 0 ∧ inI v.2) ∨ (v.1 = 2 ∧ inL v.2) ∨ (v.1 = 3 ∧ 0 ≤ v.2 ∧ v.2 < 9) ∨ (100 ≤ v.1 ∧ 0 ≤ v.2 ∧ tg[v.2.toNat]? = some (v.1 - 100))
def sty (t k : Nat) : Nat := if t ≤ 7 then (am_ft t).getD k 1 else if t = 23 then 2 else if t = 24 then 100 else if t = 25 then 101 else 0
def okx (tg : List Nat) (g : Nat) (x : Int) : Prop := (g = 0 → inI x) ∧ (g = 2 → inL x) ∧ (100 ≤ g → 0 ≤ x → tg[x.toNat]? = some (g - 100))
def okc (tg : List Nat) (c : Nat × List Int) : Prop := ((c.1 ≤ 7 ∧ c.2.length = cF c.1) ∨ (20 ≤ c.1 ∧ c.1 ≤ 25)) ∧ ∀ k x, c.2[k]? = some x → okx tg (sty c.1 k) x
def hvx (as : List Nat) (g : Nat) (x : Int) : Value := if 100 ≤ g then va_rf (hro as x) else .int (Int32.ofInt x)
def encF (as : List Nat) (t : Nat) (xs : List Int) : List Value := (List.range xs.length).map (fun k => hvx as (sty t k) (xs.getD k 0))
def enc (G : AG) (as : List Nat) (c : Nat × List Int) : va_E := if c.1 = 23 then .inl (gC G 23, c.2.length, .inr (.inl (fun j => Int64.ofInt (c.2.getD j 0)))) else if 24 ≤ c.1 then .inl (gC G c.1, c.2.length, .inr (.inr (.inr (.inr (fun j => hro as (c.2.getD j (-1))))))) else if 20 ≤ c.1 then .inl (gC G c.1, c.2.length, .inl (fun j => Int32.ofInt (c.2.getD j 0))) else .inr (c.1, encF as c.1 c.2)
def wd (G : AG) (as : List Nat) (h : AH) : va_W := (List.range (h.length - 2)).map (fun k => (as.getD (k + 2) 0, enc G as (h.getD (k + 2) (0, []))))
def tgs (h : AH) : List Nat := h.map Prod.fst
def RelP (G : AG) (as : List Nat) (h : AH) (H : Heap) : Prop := as.length = h.length ∧ 2 ≤ h.length ∧ h[0]? = some (26, gS G) ∧ h[1]? = some (26, ovr) ∧ (∀ k c, 2 ≤ k → h[k]? = some c → okc (tgs h) c) ∧ va_P (gD G) clA (wd G as h) H ∧ va_D (gA G) (wd G as h)
theorem gdE {α : Type} (l : List α) {i : Nat} {d : α} : l.getD i d = (l[i]?).getD d := List.getD_eq_getElem?_getD
theorem wd_get {G : AG} {as : List Nat} {h : AH} {k : Nat} {c : Nat × List Int} (hk : 2 ≤ k) (hc : h[k]? = some c) : (wd G as h)[k - 2]? = some (as.getD k 0, enc G as c) := by
  have hl : k < h.length := (List.getElem?_eq_some_iff.mp hc).1
  unfold wd
  rw [List.getElem?_map, List.getElem?_range (by omega)]
  simp only [Option.map_some, show k - 2 + 2 = k by omega]
  rw [gdE h, hc]; rfl
theorem wd_set {G : AG} {as : List Nat} {h : AH} {k : Nat} {c : Nat × List Int} (hk : 2 ≤ k) (hl : k < h.length) : (wd G as h).set (k - 2) (as.getD k 0, enc G as c) = wd G as (h.set k c) := by
  apply List.ext_getElem?
  intro j
  unfold wd
  rw [List.getElem?_set, List.length_map, List.length_range, List.length_set]
  by_cases hj : k - 2 = j
  · subst hj
    rw [if_pos rfl, if_pos (by omega), List.getElem?_map, List.getElem?_range (by omega)]
    simp only [Option.map_some, show k - 2 + 2 = k by omega]
    rw [gdE (h.set k c), List.getElem?_set, if_pos rfl, if_pos hl]; rfl
  · rw [if_neg hj, List.getElem?_map, List.getElem?_map]
    by_cases hj2 : j < h.length - 2
    · rw [List.getElem?_range hj2]
      simp only [Option.map_some]
      rw [gdE (h.set k c), List.getElem?_set, if_neg (by omega), ← List.getD_eq_getElem?_getD]
    · rw [List.getElem?_eq_none (by rw [List.length_range]; omega)]; rfl
theorem adr_ext {as : List Nat} {x : Int} (e : List Nat) (hx : x.toNat < as.length) : adr (as ++ e) x = adr as x := by
  unfold adr
  rw [List.getD_eq_getElem?_getD, List.getD_eq_getElem?_getD, List.getElem?_append_left hx]
theorem hro_ext {as : List Nat} {x : Int} (e : List Nat) (hx : 0 ≤ x → x.toNat < as.length) : hro (as ++ e) x = hro as x := by
  unfold hro
  by_cases h : x < 0
  · rw [if_pos h, if_pos h]
  · rw [if_neg h, if_neg h, adr_ext e (hx (by omega))]
theorem tg_lt {h : AH} {n t : Nat} (hx : (tgs h)[n]? = some t) : n < h.length := by
  have := (List.getElem?_eq_some_iff.mp hx).1
  simpa [tgs] using this
theorem tg_at {h : AH} {n t : Nat} (hx : (tgs h)[n]? = some t) : ∃ xs, h[n]? = some (t, xs) := by
  unfold tgs at hx
  rw [List.getElem?_map] at hx
  cases hc : h[n]? with
  | none => rw [hc] at hx; cases hx
  | some c => rw [hc] at hx; cases hx; exact ⟨c.2, rfl⟩
theorem at_tg {h : AH} {n t : Nat} {xs : List Int} (hx : h[n]? = some (t, xs)) : (tgs h)[n]? = some t := by
  unfold tgs; rw [List.getElem?_map, hx]; rfl
theorem okx_ref {h : AH} {g : Nat} {x : Int} (ho : okx (tgs h) g x) (hg : 100 ≤ g) (hx : 0 ≤ x) : x.toNat < h.length := tg_lt (ho.2.2 hg hx)
theorem enc_ext {G : AG} {as : List Nat} {h : AH} {c : Nat × List Int} (e : List Nat) (hlen : as.length = h.length) (ho : okc (tgs h) c) : enc G (as ++ e) c = enc G as c := by
  obtain ⟨h1, h2⟩ := ho
  unfold enc
  by_cases a : c.1 = 23
  · rw [if_pos a, if_pos a]
  · rw [if_neg a, if_neg a]
    by_cases b : 24 ≤ c.1
    · rw [if_pos b, if_pos b]
      have : (fun j => hro (as ++ e) (c.2.getD j (-1))) = (fun j => hro as (c.2.getD j (-1))) := by
        funext j
        cases hj : c.2[j]? with
        | none => rw [List.getD_eq_getElem?_getD, hj]; rfl
        | some x =>
          rw [List.getD_eq_getElem?_getD, hj]
          have h3 := h2 j x hj
          refine hro_ext e (fun hx => ?_)
          have hg : 100 ≤ sty c.1 j := by
            unfold sty
            rcases (show c.1 = 24 ∨ c.1 = 25 by omega) with q | q <;> simp [q]
          rw [hlen]; exact okx_ref h3 hg hx
      rw [this]
    · rw [if_neg b, if_neg b]
      by_cases d : 20 ≤ c.1
      · rw [if_pos d, if_pos d]
      · rw [if_neg d, if_neg d]
        have : encF (as ++ e) c.1 c.2 = encF as c.1 c.2 := by
          unfold encF
          apply List.map_congr_left
          intro k hk
          have hk' : k < c.2.length := List.mem_range.mp hk
          unfold hvx
          by_cases g : 100 ≤ sty c.1 k
          · rw [if_pos g, if_pos g]
            congr 1
            have h3 := h2 k _ (List.getElem?_eq_getElem hk')
            rw [List.getD_eq_getElem?_getD, List.getElem?_eq_getElem hk']
            exact hro_ext e (fun hx => by rw [hlen]; exact okx_ref h3 g hx)
          · rw [if_neg g, if_neg g]
        rw [this]
theorem wd_push {G : AG} {as : List Nat} {h : AH} {c : Nat × List Int} (q : Nat) (hlen : as.length = h.length) (h2 : 2 ≤ h.length) (ho : ∀ k c, 2 ≤ k → h[k]? = some c → okc (tgs h) c) : wd G (as ++ [q]) (h ++ [c]) = wd G as h ++ [(q, enc G (as ++ [q]) c)] := by
  apply List.ext_getElem?
  intro j
  unfold wd
  rw [List.length_append, List.length_singleton, List.getElem?_append, List.length_map, List.length_range]
  by_cases hj : j < h.length - 2
  · rw [if_pos hj, List.getElem?_map, List.getElem?_map, List.getElem?_range (by omega), List.getElem?_range hj]
    simp only [Option.map_some]
    have hl : j + 2 < h.length := by omega
    rw [gdE (as ++ [q]), List.getElem?_append_left (by omega), ← List.getD_eq_getElem?_getD]
    rw [gdE (h ++ [c]), List.getElem?_append_left hl, ← List.getD_eq_getElem?_getD]
    rw [enc_ext [q] hlen (ho (j + 2) _ (by omega) (by rw [List.getD_eq_getElem?_getD, List.getElem?_eq_getElem hl]; rfl))]
  · rw [if_neg hj]
    by_cases hj2 : j = h.length - 2
    · subst hj2
      rw [List.getElem?_map, List.getElem?_range (by omega)]
      simp only [Option.map_some, Nat.sub_self, List.getElem?_cons_zero, show h.length - 2 + 2 = h.length by omega]
      rw [gdE (as ++ [q]), List.getElem?_append_right (by omega), gdE (h ++ [c]), List.getElem?_append_right (by omega)]
      simp [hlen]
    · rw [List.getElem?_eq_none (by rw [List.length_map, List.length_range]; omega), List.getElem?_eq_none (by simp; omega)]
theorem cvv_ext {G : AG} {as : List Nat} {h : AH} {v : AV} (e : List Nat) (hlen : as.length = h.length) (ho : okv (tgs h) v) : cvv G (as ++ e) v = cvv G as v := by
  unfold cvv
  rcases ho with ⟨a, -⟩ | ⟨a, -⟩ | ⟨a, -⟩ | ⟨a, b, d⟩
  · simp [a]
  · simp [a]
  · simp [a]
  · rw [if_neg (by omega), if_neg (by omega), if_neg (by omega), if_neg (by omega), if_neg (by omega), if_neg (by omega)]
    rw [adr_ext e (by rw [hlen]; exact tg_lt d)]
theorem okv_ext {tg : List Nat} {v : AV} (e : List Nat) (ho : okv tg v) : okv (tg ++ e) v := by
  rcases ho with a | a | a | ⟨a, b, d⟩
  · exact Or.inl a
  · exact Or.inr (Or.inl a)
  · exact Or.inr (Or.inr (Or.inl a))
  · exact Or.inr (Or.inr (Or.inr ⟨a, b, by rw [List.getElem?_append_left (List.getElem?_eq_some_iff.mp d).1]; exact d⟩))
theorem okx_ext {tg : List Nat} {g : Nat} {x : Int} (e : List Nat) (ho : okx tg g x) : okx (tg ++ e) g x :=
  ⟨ho.1, ho.2.1, fun a b => by rw [List.getElem?_append_left (List.getElem?_eq_some_iff.mp (ho.2.2 a b)).1]; exact ho.2.2 a b⟩
theorem okc_ext {tg : List Nat} {c : Nat × List Int} (e : List Nat) (ho : okc tg c) : okc (tg ++ e) c := ⟨ho.1, fun k x hx => okx_ext e (ho.2 k x hx)⟩
theorem tgs_set {h : AH} {k : Nat} {t : Nat} {xs ys : List Int} (hc : h[k]? = some (t, xs)) : tgs (h.set k (t, ys)) = tgs h := by
  unfold tgs
  apply List.ext_getElem?
  intro j
  rw [List.getElem?_map, List.getElem?_map, List.getElem?_set]
  by_cases hj : k = j
  · subst hj
    rw [if_pos rfl, if_pos (List.getElem?_eq_some_iff.mp hc).1, hc]; rfl
  · rw [if_neg hj]
/-- a cell is written: the world behind it -/
theorem RelP.set {G : AG} {as : List Nat} {h : AH} {H H1 : Heap} {k t : Nat} {xs ys : List Int} (hR : RelP G as h H) (hk : 2 ≤ k) (hc : h[k]? = some (t, xs)) (ho : okc (tgs h) (t, ys))
    (hP : va_P (gD G) clA ((wd G as h).set (k - 2) (as.getD k 0, enc G as (t, ys))) H1) (hD : va_D (gA G) ((wd G as h).set (k - 2) (as.getD k 0, enc G as (t, ys)))) : RelP G as (h.set k (t, ys)) H1 := by
  obtain ⟨h1, h2, h3, h4, h5, -, -⟩ := hR
  have hl := (List.getElem?_eq_some_iff.mp hc).1
  rw [wd_set hk hl] at hP hD
  refine ⟨by rw [List.length_set]; exact h1, by rw [List.length_set]; exact h2, by rw [List.getElem?_set, if_neg (by omega)]; exact h3, by rw [List.getElem?_set, if_neg (by omega)]; exact h4, fun j c hj hc' => ?_, hP, hD⟩
  rw [tgs_set hc]
  rw [List.getElem?_set] at hc'
  by_cases e : k = j
  · subst e
    rw [if_pos rfl, if_pos hl] at hc'
    cases hc'; exact ho
  · rw [if_neg e] at hc'; exact h5 j c hj hc'
/-- a cell is made -/
theorem RelP.push {G : AG} {as : List Nat} {h : AH} {H H1 : Heap} {c : Nat × List Int} {q : Nat} (hR : RelP G as h H) (ho : okc (tgs h ++ [c.1]) c)
    (hP : va_P (gD G) clA (wd G as h ++ [(q, enc G (as ++ [q]) c)]) H1) (hD : va_D (gA G) (wd G as h ++ [(q, enc G (as ++ [q]) c)])) : RelP G (as ++ [q]) (h ++ [c]) H1 := by
  obtain ⟨h1, h2, h3, h4, h5, -, -⟩ := hR
  rw [← wd_push q h1 h2 h5] at hP hD
  have ht : tgs (h ++ [c]) = tgs h ++ [c.1] := by simp [tgs]
  refine ⟨by simp [h1], by simp; omega, by rw [List.getElem?_append_left (by omega)]; exact h3, by rw [List.getElem?_append_left (by omega)]; exact h4, fun j c' hj hc' => ?_, hP, hD⟩
  rw [ht]
  by_cases e : j < h.length
  · rw [List.getElem?_append_left e] at hc'
    exact okc_ext _ (h5 j c' hj hc')
  · rw [List.getElem?_append_right (by omega)] at hc'
    have : j - h.length = 0 := by
      have := (List.getElem?_eq_some_iff.mp hc').1
      simp at this; omega
    rw [this] at hc'
    cases hc'; exact ho
theorem am_cl_spec {t : Nat} {h : AH} {a : Int} {xs : List Int} (e : am_cl t h a = some xs) : 0 ≤ a ∧ h[a.toNat]? = some (t, xs) := by
  unfold am_cl at e
  split at e
  next ha =>
    split at e
    next c hc =>
      split at e
      next ht => cases e; subst ht; exact ⟨ha, hc⟩
      next => cases e
    next => cases e
  next => cases e
theorem RelP.at2 {G : AG} {as : List Nat} {h : AH} {H : Heap} {n t : Nat} {xs : List Int} (hR : RelP G as h H) (hc : h[n]? = some (t, xs)) (ht : t ≠ 26) : 2 ≤ n := by
  obtain ⟨-, -, h3, h4, -⟩ := hR
  rcases Nat.lt_or_ge n 2 with q | q
  · rcases (show n = 0 ∨ n = 1 by omega) with rfl | rfl
    · rw [h3] at hc; cases hc; exact absurd rfl ht
    · rw [h4] at hc; cases hc; exact absurd rfl ht
  · exact q
end
section
/-! The words on the classes' fields: printed by program. -/
set_option maxRecDepth 100000 in
theorem wsIn_0 : ∀ w ∈ u_ws RX0 TX0 6, w ∈ WSg := List.forall_mem_cons.mpr ⟨mem_g (i := 105) rfl rfl, List.forall_mem_cons.mpr ⟨mem_g (i := 107) rfl rfl, List.forall_mem_cons.mpr ⟨mem_g (i := 109) rfl rfl, List.forall_mem_cons.mpr ⟨mem_g (i := 111) rfl rfl, List.forall_mem_cons.mpr ⟨mem_g (i := 113) rfl rfl, List.forall_mem_cons.mpr ⟨mem_g (i := 115) rfl rfl, fun _ h => absurd h List.not_mem_nil⟩⟩⟩⟩⟩⟩
set_option maxRecDepth 100000 in
theorem inst_0 : Cond.instantiable RX0 6 ∈ WSg := mem_g (i := 84) rfl rfl
set_option maxRecDepth 100000 in
theorem ini_0 : Cond.initialized RX0 ∈ WSg := mem_g (i := 60) rfl rfl
set_option maxRecDepth 100000 in
theorem wsIn_1 : ∀ w ∈ u_ws RX1 TX1 6, w ∈ WSg := List.forall_mem_cons.mpr ⟨mem_g (i := 206) rfl rfl, List.forall_mem_cons.mpr ⟨mem_g (i := 208) rfl rfl, List.forall_mem_cons.mpr ⟨mem_g (i := 210) rfl rfl, List.forall_mem_cons.mpr ⟨mem_g (i := 212) rfl rfl, List.forall_mem_cons.mpr ⟨mem_g (i := 214) rfl rfl, List.forall_mem_cons.mpr ⟨mem_g (i := 216) rfl rfl, fun _ h => absurd h List.not_mem_nil⟩⟩⟩⟩⟩⟩
set_option maxRecDepth 100000 in
theorem inst_1 : Cond.instantiable RX1 6 ∈ WSg := mem_g (i := 189) rfl rfl
set_option maxRecDepth 100000 in
theorem ini_1 : Cond.initialized RX1 ∈ WSg := mem_g (i := 66) rfl rfl
set_option maxRecDepth 100000 in
theorem wsIn_2 : ∀ w ∈ u_ws RX2 TX2 1, w ∈ WSg := List.forall_mem_cons.mpr ⟨mem_g (i := 220) rfl rfl, fun _ h => absurd h List.not_mem_nil⟩
set_option maxRecDepth 100000 in
theorem inst_2 : Cond.instantiable RX2 1 ∈ WSg := mem_g (i := 182) rfl rfl
set_option maxRecDepth 100000 in
theorem ini_2 : Cond.initialized RX2 ∈ WSg := mem_g (i := 65) rfl rfl
set_option maxRecDepth 100000 in
theorem wsIn_3 : ∀ w ∈ u_ws RX3 TX3 2, w ∈ WSg := List.forall_mem_cons.mpr ⟨mem_g (i := 154) rfl rfl, List.forall_mem_cons.mpr ⟨mem_g (i := 156) rfl rfl, fun _ h => absurd h List.not_mem_nil⟩⟩
set_option maxRecDepth 100000 in
theorem inst_3 : Cond.instantiable RX3 2 ∈ WSg := mem_g (i := 145) rfl rfl
set_option maxRecDepth 100000 in
theorem ini_3 : Cond.initialized RX3 ∈ WSg := mem_g (i := 63) rfl rfl
set_option maxRecDepth 100000 in
theorem wsIn_4 : ∀ w ∈ u_ws RX5 TX5 5, w ∈ WSg := List.forall_mem_cons.mpr ⟨mem_g (i := 170) rfl rfl, List.forall_mem_cons.mpr ⟨mem_g (i := 172) rfl rfl, List.forall_mem_cons.mpr ⟨mem_g (i := 174) rfl rfl, List.forall_mem_cons.mpr ⟨mem_g (i := 176) rfl rfl, List.forall_mem_cons.mpr ⟨mem_g (i := 178) rfl rfl, fun _ h => absurd h List.not_mem_nil⟩⟩⟩⟩⟩
set_option maxRecDepth 100000 in
theorem inst_4 : Cond.instantiable RX5 5 ∈ WSg := mem_g (i := 160) rfl rfl
set_option maxRecDepth 100000 in
theorem ini_4 : Cond.initialized RX5 ∈ WSg := mem_g (i := 64) rfl rfl
set_option maxRecDepth 100000 in
theorem wsIn_5 : ∀ w ∈ u_ws RX6 TX6 5, w ∈ WSg := List.forall_mem_cons.mpr ⟨mem_g (i := 131) rfl rfl, List.forall_mem_cons.mpr ⟨mem_g (i := 133) rfl rfl, List.forall_mem_cons.mpr ⟨mem_g (i := 135) rfl rfl, List.forall_mem_cons.mpr ⟨mem_g (i := 137) rfl rfl, List.forall_mem_cons.mpr ⟨mem_g (i := 139) rfl rfl, fun _ h => absurd h List.not_mem_nil⟩⟩⟩⟩⟩
set_option maxRecDepth 100000 in
theorem inst_5 : Cond.instantiable RX6 5 ∈ WSg := mem_g (i := 121) rfl rfl
set_option maxRecDepth 100000 in
theorem ini_5 : Cond.initialized RX6 ∈ WSg := mem_g (i := 62) rfl rfl
set_option maxRecDepth 100000 in
theorem wsIn_6 : ∀ w ∈ u_ws RX7 TX7 11, w ∈ WSg := List.forall_mem_cons.mpr ⟨mem_g (i := 234) rfl rfl, List.forall_mem_cons.mpr ⟨mem_g (i := 236) rfl rfl, List.forall_mem_cons.mpr ⟨mem_g (i := 238) rfl rfl, List.forall_mem_cons.mpr ⟨mem_g (i := 240) rfl rfl, List.forall_mem_cons.mpr ⟨mem_g (i := 242) rfl rfl, List.forall_mem_cons.mpr ⟨mem_g (i := 244) rfl rfl, List.forall_mem_cons.mpr ⟨mem_g (i := 246) rfl rfl, List.forall_mem_cons.mpr ⟨mem_g (i := 248) rfl rfl, List.forall_mem_cons.mpr ⟨mem_g (i := 250) rfl rfl, List.forall_mem_cons.mpr ⟨mem_g (i := 252) rfl rfl, List.forall_mem_cons.mpr ⟨mem_g (i := 254) rfl rfl, fun _ h => absurd h List.not_mem_nil⟩⟩⟩⟩⟩⟩⟩⟩⟩⟩⟩
set_option maxRecDepth 100000 in
theorem inst_6 : Cond.instantiable RX7 11 ∈ WSg := mem_g (i := 76) rfl rfl
set_option maxRecDepth 100000 in
theorem ini_6 : Cond.initialized RX7 ∈ WSg := mem_g (i := 59) rfl rfl
set_option maxRecDepth 100000 in
theorem wsIn_7 : ∀ w ∈ u_ws RX8 TX8 31, w ∈ WSg := List.forall_mem_cons.mpr ⟨mem_g (i := 854) rfl rfl, List.forall_mem_cons.mpr ⟨mem_g (i := 856) rfl rfl, List.forall_mem_cons.mpr ⟨mem_g (i := 858) rfl rfl, List.forall_mem_cons.mpr ⟨mem_g (i := 860) rfl rfl, List.forall_mem_cons.mpr ⟨mem_g (i := 862) rfl rfl, List.forall_mem_cons.mpr ⟨mem_g (i := 864) rfl rfl, List.forall_mem_cons.mpr ⟨mem_g (i := 866) rfl rfl, List.forall_mem_cons.mpr ⟨mem_g (i := 868) rfl rfl, List.forall_mem_cons.mpr ⟨mem_g (i := 870) rfl rfl, List.forall_mem_cons.mpr ⟨mem_g (i := 872) rfl rfl, List.forall_mem_cons.mpr ⟨mem_g (i := 874) rfl rfl, List.forall_mem_cons.mpr ⟨mem_g (i := 876) rfl rfl, List.forall_mem_cons.mpr ⟨mem_g (i := 878) rfl rfl, List.forall_mem_cons.mpr ⟨mem_g (i := 880) rfl rfl, List.forall_mem_cons.mpr ⟨mem_g (i := 882) rfl rfl, List.forall_mem_cons.mpr ⟨mem_g (i := 884) rfl rfl, List.forall_mem_cons.mpr ⟨mem_g (i := 886) rfl rfl, List.forall_mem_cons.mpr ⟨mem_g (i := 888) rfl rfl, List.forall_mem_cons.mpr ⟨mem_g (i := 890) rfl rfl, List.forall_mem_cons.mpr ⟨mem_g (i := 892) rfl rfl, List.forall_mem_cons.mpr ⟨mem_g (i := 894) rfl rfl, List.forall_mem_cons.mpr ⟨mem_g (i := 896) rfl rfl, List.forall_mem_cons.mpr ⟨mem_g (i := 898) rfl rfl, List.forall_mem_cons.mpr ⟨mem_g (i := 900) rfl rfl, List.forall_mem_cons.mpr ⟨mem_g (i := 902) rfl rfl, List.forall_mem_cons.mpr ⟨mem_g (i := 904) rfl rfl, List.forall_mem_cons.mpr ⟨mem_g (i := 906) rfl rfl, List.forall_mem_cons.mpr ⟨mem_g (i := 908) rfl rfl, List.forall_mem_cons.mpr ⟨mem_g (i := 910) rfl rfl, List.forall_mem_cons.mpr ⟨mem_g (i := 912) rfl rfl, List.forall_mem_cons.mpr ⟨mem_g (i := 914) rfl rfl, fun _ h => absurd h List.not_mem_nil⟩⟩⟩⟩⟩⟩⟩⟩⟩⟩⟩⟩⟩⟩⟩⟩⟩⟩⟩⟩⟩⟩⟩⟩⟩⟩⟩⟩⟩⟩⟩
set_option maxRecDepth 100000 in
theorem inst_7 : Cond.instantiable RX8 31 ∈ WSg := mem_g (i := 811) rfl rfl
set_option maxRecDepth 100000 in
theorem ini_7 : Cond.initialized RX8 ∈ WSg := mem_g (i := 67) rfl rfl
set_option maxRecDepth 100000 in
theorem wg_arI : Cond.arrayClass .int ∈ WSg := mem_g (i := 118) rfl rfl
set_option maxRecDepth 100000 in
theorem wg_arZ : Cond.arrayClass .boolean ∈ WSg := mem_g (i := 142) rfl rfl
set_option maxRecDepth 100000 in
theorem wg_arC : Cond.arrayClass .char ∈ WSg := mem_g (i := 143) rfl rfl
set_option maxRecDepth 100000 in
theorem wg_arL : Cond.arrayClass .long ∈ WSg := mem_g (i := 917) rfl rfl
set_option maxRecDepth 100000 in
theorem wg_cpN : Cond.native arr0 ∈ WSg := mem_g (i := 290) rfl rfl
set_option maxRecDepth 100000 in
theorem wg_cpS : Cond.static arr0 ∈ WSg := mem_g (i := 289) rfl rfl
set_option maxRecDepth 100000 in
theorem wg_cpI : Cond.initialized "java/lang/System" ∈ WSg := mem_g (i := 68) rfl rfl
set_option maxRecDepth 100000 in
theorem wg_maI : Cond.initialized "java/lang/Math" ∈ WSg := mem_g (i := 61) rfl rfl
set_option maxRecDepth 100000 in
theorem wg_mxS : Cond.static Lib.Math.max.name ∈ WSg := mem_g (i := 97) rfl rfl
set_option maxRecDepth 100000 in
theorem wg_mnS : Cond.static Lib.Math.min.name ∈ WSg := mem_g (i := 94) rfl rfl
set_option maxRecDepth 100000 in
theorem wg_obM : Cond.instanceMethod Lib.objectInit ∈ WSg := mem_g (i := 81) rfl rfl
set_option maxRecDepth 100000 in
theorem wg_mxC : Cond.code Lib.Math.max.name Lib.Math.max.code 2 (some .int) ∈ WSg := mem_g (i := 98) rfl rfl
set_option maxRecDepth 100000 in
theorem wg_mnC : Cond.code Lib.Math.min.name Lib.Math.min.code 2 (some .int) ∈ WSg := mem_g (i := 95) rfl rfl
set_option maxRecDepth 100000 in
theorem wg_obC : Cond.code Lib.objectInit ⟨#[0xb1]⟩ 1 none ∈ WSg := mem_g (i := 82) rfl rfl
end
section
/-! What holds of the machine's state at every method's entry; the classes' tables by their tags; the locals. -/
def lenS : List Nat := [5, 4, 4, 6, 4, 5, 5, 4, 4]
def bytS : List (List Int32) := am_str.map (fun s => s.map Int32.ofInt)
def KS (G : AG) (a0 a1 : Nat) (U : State) : Prop :=
  va_K (gD G) clA (tyA G) U ∧ va_T .int a0 (gS G).length (fun j => .int (Int32.ofInt ((gS G).getD j 0))) (gA G) U U.heap ∧ va_T .int a1 5 (fun j => .int (Int32.ofInt (ovr.getD j 0))) (gA G) U U.heap ∧ va_Z "SownSeeds$Kind" "OVER" "[I" (.ref a1) (gA G) U U.heap ∧ va_Z "java/lang/String" "COMPACT_STRINGS" "Z" (.int 1) (gA G) U U.heap ∧
  vk_S 9 lenS bytS (gK G) (gV G) (gA G) U U.heap ∧ (∀ i, i < 9 → vk_R RX6 (strI.getD i (0, "")).1 (strI.getD i (0, "")).2 (gK G i) U) ∧ (∀ w ∈ nestF, va_Nw w U) ∧ (∀ w ∈ nestM, va_Nw w U) ∧ va_AO RX0 U ∧ va_AO RX1 U ∧ G.2.2.1 ≤ U.heap.size ∧ (gS G).length < 2 ^ 31 ∧ (∀ x ∈ gS G, inI x) ∧ va_Zq "jdk/internal/util/Preconditions" "SIOOBE_FORMATTER" "Ljava/util/function/BiFunction;" (gA G) U U.heap
theorem KS.gen {G : AG} {a0 a1 : Nat} {u U : State} (h : KS G a0 a1 u) (hal : u.vm.Alike U.vm) (hr : ∀ own k tx a, vk_R own k tx a u → vk_R own k tx a U) (hF : ∀ w ∈ nestF, va_Nw w u → va_Nw w U) (hM : ∀ w ∈ nestM, va_Nw w u → va_Nw w U)
    (hsz : u.heap.size ≤ U.heap.size) (hk : ∀ q : Nat, q < u.heap.size → ¬ gA G q → U.heap[q]? = u.heap[q]?) : KS G a0 a1 U := by
  obtain ⟨h1, h2, h3, h4, h5, h6, h7, h8, h9, h10, h11, h12, h13, h14, h15⟩ := h
  exact ⟨h1.moved hal, (h2.moved hal).kept hk, (h3.moved hal).kept hk, (h4.moved hal).kept hk, (h5.moved hal).kept hk, (h6.moved hal).kept hk, fun i hi => hr _ _ _ _ (h7 i hi), fun w hw => hF w hw (h8 w hw), fun w hw => hM w hw (h9 w hw), h10.moved hal, h11.moved hal, Nat.le_trans h12 hsz, h13, h14, (h15.moved hal).kept hk⟩
theorem nestF_form : ∀ w ∈ nestF, ∃ a i b n d h, w = Cond.fieldLinkNest a i b n d h := by
  intro w hw
  simp only [nestF, List.mem_cons, List.not_mem_nil, or_false] at hw
  rcases hw with rfl | rfl | rfl | rfl | rfl | rfl <;> exact ⟨_, _, _, _, _, _, rfl⟩
theorem nestM_form : ∀ w ∈ nestM, ∃ a i x h, w = Cond.methodLinkNest a i x h := by
  intro w hw
  simp only [nestM, List.mem_cons, List.not_mem_nil, or_false] at hw
  rcases hw with rfl | rfl | rfl | rfl | rfl <;> exact ⟨_, _, _, _, rfl⟩
theorem KS.warm {G : AG} {a0 a1 : Nat} {s U : State} (h : KS G a0 a1 s) (hW : s.WarmedH U.vm) (hsz : s.heap.size ≤ U.heap.size) (hk : ∀ q : Nat, q < s.heap.size → ¬ gA G q → U.heap[q]? = s.heap[q]?) : KS G a0 a1 U :=
  h.gen hW.alike (fun _ _ _ _ hq => hq.warm hW) (fun w hw hq => by obtain ⟨a, i, b, n, d, h', rfl⟩ := nestF_form w hw; exact va_Nw.warmF hW hq) (fun w hw hq => by obtain ⟨a, i, x, h', rfl⟩ := nestM_form w hw; exact va_Nw.warmM hW hq) hsz hk
theorem KS.same {G : AG} {a0 a1 : Nat} {u U : State} (h : KS G a0 a1 u) (hv : U.vm = u.vm) (hh : U.heap = u.heap) : KS G a0 a1 U :=
  h.gen (by rw [hv]; exact Vm.Alike.refl _) (fun _ _ _ _ hq => hq.same hv) (fun w hw hq => by obtain ⟨a, i, b, n, d, h', rfl⟩ := nestF_form w hw; exact va_Nw.same rfl hv.symm hq) (fun w hw hq => by obtain ⟨a, i, x, h', rfl⟩ := nestM_form w hw; exact va_Nw.same rfl hv.symm hq) (by rw [hh]; exact Nat.le_refl _) (fun q _ _ => by rw [hh])
theorem clA_at {t : Nat} (ht : t ≤ 7) : clA[t]? = some (cN t, cT t, cF t) := by
  rcases (show t = 0 ∨ t = 1 ∨ t = 2 ∨ t = 3 ∨ t = 4 ∨ t = 5 ∨ t = 6 ∨ t = 7 by omega) with rfl | rfl | rfl | rfl | rfl | rfl | rfl | rfl <;> rfl
theorem wsIn {t : Nat} (ht : t ≤ 7) : ∀ w ∈ u_ws (cN t) (cT t) (cF t), w ∈ WSg := by
  rcases (show t = 0 ∨ t = 1 ∨ t = 2 ∨ t = 3 ∨ t = 4 ∨ t = 5 ∨ t = 6 ∨ t = 7 by omega) with rfl | rfl | rfl | rfl | rfl | rfl | rfl | rfl
  · exact wsIn_0
  · exact wsIn_1
  · exact wsIn_2
  · exact wsIn_3
  · exact wsIn_4
  · exact wsIn_5
  · exact wsIn_6
  · exact wsIn_7
theorem instIn {t : Nat} (ht : t ≤ 7) : Cond.instantiable (cN t) (cF t) ∈ WSg ∧ Cond.initialized (cN t) ∈ WSg := by
  rcases (show t = 0 ∨ t = 1 ∨ t = 2 ∨ t = 3 ∨ t = 4 ∨ t = 5 ∨ t = 6 ∨ t = 7 by omega) with rfl | rfl | rfl | rfl | rfl | rfl | rfl | rfl
  · exact ⟨inst_0, ini_0⟩
  · exact ⟨inst_1, ini_1⟩
  · exact ⟨inst_2, ini_2⟩
  · exact ⟨inst_3, ini_3⟩
  · exact ⟨inst_4, ini_4⟩
  · exact ⟨inst_5, ini_5⟩
  · exact ⟨inst_6, ini_6⟩
  · exact ⟨inst_7, ini_7⟩
theorem tyOK {t : Nat} (ht : t ≤ 7) : ∀ k, k < cF t → parseFieldDescriptor (cT t k).2.2.1 = some (cTy t k) := by
  rcases (show t = 0 ∨ t = 1 ∨ t = 2 ∨ t = 3 ∨ t = 4 ∨ t = 5 ∨ t = 6 ∨ t = 7 by omega) with rfl | rfl | rfl | rfl | rfl | rfl | rfl | rfl
  · exact tyX0_ok
  · exact tyX1_ok
  · exact tyX2_ok
  · exact tyX3_ok
  · exact tyX5_ok
  · exact tyX6_ok
  · exact tyX7_ok
  · exact tyX8_ok
theorem nmOK {t : Nat} (ht : t ≤ 7) : ∀ a, a < cF t → ∀ b, b < cF t → a ≠ b → (cT t a).2.1 ≠ (cT t b).2.1 := by
  rcases (show t = 0 ∨ t = 1 ∨ t = 2 ∨ t = 3 ∨ t = 4 ∨ t = 5 ∨ t = 6 ∨ t = 7 by omega) with rfl | rfl | rfl | rfl | rfl | rfl | rfl | rfl
  · exact nmX0
  · exact nmX1
  · exact nmX2
  · exact nmX3
  · exact nmX5
  · exact nmX6
  · exact nmX7
  · exact nmX8
theorem dclOK {t : Nat} (ht : t ≤ 7) : ∀ k, k < cF t → (cT t k).1 = cN t := by
  rcases (show t = 0 ∨ t = 1 ∨ t = 2 ∨ t = 3 ∨ t = 4 ∨ t = 5 ∨ t = 6 ∨ t = 7 by omega) with rfl | rfl | rfl | rfl | rfl | rfl | rfl | rfl <;> decide +kernel
/-- a field's type and its tag -/
def ftOK (ty : FieldType) (g : Nat) : Bool := match ty with
  | .int => Nat.beq g 0
  | .boolean => Nat.beq g 0
  | .array _ => Nat.ble 100 g
  | .object _ => Nat.ble 100 g
  | _ => false
theorem ftA {t : Nat} (ht : t ≤ 7) : (am_ft t).length = cF t ∧ ∀ k, k < cF t → ftOK (cTy t k) ((am_ft t).getD k 1) = true := by
  rcases (show t = 0 ∨ t = 1 ∨ t = 2 ∨ t = 3 ∨ t = 4 ∨ t = 5 ∨ t = 6 ∨ t = 7 by omega) with rfl | rfl | rfl | rfl | rfl | rfl | rfl | rfl <;> exact ⟨rfl, by decide +kernel⟩
theorem nth_get {α : Type} (l : List α) (i : Nat) : nthL l i = l[i]? := by
  induction l generalizing i with
  | nil => cases i <;> rfl
  | cons a l ih => cases i with
    | zero => rfl
    | succ i => exact ih i
theorem setL_set {α : Type} (l : List α) (i : Nat) (v : α) : setL l i v = l.set i v := by
  induction l generalizing i with
  | nil => rfl
  | cons a l ih => cases i with
    | zero => rfl
    | succ i => exact congrArg (a :: ·) (ih i)
/-- the value at this place can be loaded -/
def vldB (ls : List AV) (j : Nat) (v : AV) : Bool := if v.1 = 2 then (match ls[j + 1]? with
  | some u => decide (u.1 = 8)
  | none => false) else decide (v.1 = 0) || decide (v.1 = 3) || decide (100 ≤ v.1)
def lvl (G : AG) (as : List Nat) (ls : List AV) : List (Nat × Value) := (List.range ls.length).filterMap (fun j => match ls[j]? with
  | some v => if vldB ls j v = true then some (j, cvv G as v) else none
  | none => none)
theorem mem_lvl {G : AG} {as : List Nat} {ls : List AV} {q : Nat × Value} : q ∈ lvl G as ls ↔ ∃ v, ls[q.1]? = some v ∧ vldB ls q.1 v = true ∧ q.2 = cvv G as v := by
  unfold lvl
  rw [List.mem_filterMap]
  constructor
  · rintro ⟨j, hj, e⟩
    cases hv : ls[j]? with
    | none => rw [hv] at e; cases e
    | some v =>
      rw [hv] at e
      by_cases hb : vldB ls j v = true
      · simp only [hb, if_true] at e
        cases e
        exact ⟨v, hv, hb, rfl⟩
      · simp only [hb] at e
        cases e
  · rintro ⟨v, h1, h2, h3⟩
    refine ⟨q.1, List.mem_range.mpr (List.getElem?_eq_some_iff.mp h1).1, ?_⟩
    rw [h1]
    simp only [h2, if_true, ← h3]
def LsR (G : AG) (as : List Nat) (tg : List Nat) (ls : List AV) (lsA : Array Slot) (nL : Nat) : Prop := ls.length = nL ∧ (∀ j v, ls[j]? = some v → vldB ls j v = true → okv tg v) ∧ lv_has lsA nL (lvl G as ls)
theorem LsR.at {G : AG} {as tg : List Nat} {ls : List AV} {lsA : Array Slot} {nL j : Nat} {v : AV} (h : LsR G as tg ls lsA nL) (hv : ls[j]? = some v) (hb : vldB ls j v = true) : okv tg v ∧ lsA[j]? = some (.val (cvv G as v)) := ⟨h.2.1 j v hv hb, h.2.2.2.2 (j, cvv G as v) (mem_lvl.mpr ⟨v, hv, hb, rfl⟩)⟩
theorem cvv_cat {G : AG} {as : List Nat} {v : AV} : (cvv G as v).category = if v.1 = 2 then 2 else 1 := by
  unfold cvv
  by_cases a : v.1 = 0
  · simp [a, Value.category]
  · by_cases b : v.1 = 2
    · simp [b, Value.category]
    · by_cases d : v.1 = 3
      · simp [d, Value.category]
      · simp [a, b, d, Value.category]
theorem LsR.store1 {G : AG} {as tg : List Nat} {ls : List AV} {lsA lsB : Array Slot} {nL i : Nat} {v : AV} (h : LsR G as tg ls lsA nL) (hi : i < nL) (ho : okv tg v) (h2 : v.1 ≠ 2)
    (hB : lv_has lsB nL ((i, cvv G as v) :: (lvl G as ls).filter (fun q => !(q.1 == i) && !(q.1 + 1 == i && q.2.category == 2)))) : LsR G as tg (ls.set i v) lsB nL := by
  obtain ⟨h1, h3, h4⟩ := h
  have hget : ∀ j, (ls.set i v)[j]? = if j = i then some v else ls[j]? := by
    intro j
    rw [List.getElem?_set]
    by_cases e : i = j
    · subst e; rw [if_pos rfl, if_pos rfl, if_pos (by omega)]
    · rw [if_neg e, if_neg (fun q => e q.symm)]
  have hval : ∀ j w, j ≠ i → (ls.set i v)[j]? = some w → vldB (ls.set i v) j w = true → ls[j]? = some w ∧ vldB ls j w = true ∧ ¬ (j + 1 = i ∧ w.1 = 2) := by
    intro j w hj hw hb
    rw [hget, if_neg hj] at hw
    unfold vldB at hb ⊢
    by_cases e : w.1 = 2
    · rw [if_pos e] at hb ⊢
      rw [hget] at hb
      by_cases e2 : j + 1 = i
      · rw [if_pos e2] at hb
        have h8 : v.1 = 8 := by simpa using hb
        rcases ho with a | a | a | a <;> omega
      · rw [if_neg e2] at hb
        exact ⟨hw, hb, fun q => e2 q.1⟩
    · rw [if_neg e] at hb ⊢
      exact ⟨hw, hb, fun q => e q.2⟩
  refine ⟨by rw [List.length_set]; exact h1, fun j w hw hb => ?_, hB.1, hB.2.1, fun q hq => ?_⟩
  · by_cases e : j = i
    · subst e
      rw [hget, if_pos rfl] at hw; cases hw; exact ho
    · obtain ⟨a, b, -⟩ := hval j w e hw hb
      exact h3 j w a b
  · obtain ⟨w, hw, hb, hc⟩ := mem_lvl.mp hq
    by_cases e : q.1 = i
    · rw [hget, if_pos e] at hw
      cases hw
      refine hB.2.2 q (List.mem_cons.mpr (Or.inl ?_))
      rw [← e, ← hc]
    · obtain ⟨a, b, d⟩ := hval q.1 w e hw hb
      refine hB.2.2 q (List.mem_cons.mpr (Or.inr (List.mem_filter.mpr ⟨mem_lvl.mpr ⟨w, a, b, hc⟩, ?_⟩)))
      rw [hc, cvv_cat]
      by_cases e3 : w.1 = 2
      · have : ¬ q.1 + 1 = i := fun z => d ⟨z, e3⟩
        simp [e, this]
      · simp [e, e3]
theorem LsR.store2 {G : AG} {as tg : List Nat} {ls : List AV} {lsA lsB : Array Slot} {nL i : Nat} {v : AV} (h : LsR G as tg ls lsA nL) (hi : i + 1 < nL) (ho : okv tg v) (h2 : v.1 = 2)
    (hB : lv_has lsB nL ((i, cvv G as v) :: (lvl G as ls).filter (fun q => !(q.1 == i) && (!(q.1 == i + 1) && !(q.1 + 1 == i && q.2.category == 2))))) : LsR G as tg ((ls.set i v).set (i + 1) (8, 0)) lsB nL := by
  obtain ⟨h1, h3, h4⟩ := h
  have hget : ∀ j, ((ls.set i v).set (i + 1) (8, 0))[j]? = if j = i + 1 then some (8, 0) else if j = i then some v else ls[j]? := by
    intro j
    by_cases e : j = i + 1
    · subst e; rw [if_pos rfl, List.getElem?_set, if_pos rfl, if_pos (by rw [List.length_set]; omega)]
    · rw [if_neg e, List.getElem?_set, if_neg (fun q => e q.symm), List.getElem?_set]
      by_cases e2 : j = i
      · subst e2; rw [if_pos rfl, if_pos rfl, if_pos (by omega)]
      · rw [if_neg (fun q => e2 q.symm), if_neg e2]
  have hval : ∀ j w, j ≠ i → ((ls.set i v).set (i + 1) (8, 0))[j]? = some w → vldB ((ls.set i v).set (i + 1) (8, 0)) j w = true → j ≠ i + 1 ∧ ls[j]? = some w ∧ vldB ls j w = true ∧ ¬ (j + 1 = i ∧ w.1 = 2) := by
    intro j w hj hw hb
    rw [hget] at hw
    by_cases e0 : j = i + 1
    · rw [if_pos e0] at hw
      cases hw
      unfold vldB at hb
      simp at hb
    · rw [if_neg e0, if_neg hj] at hw
      unfold vldB at hb ⊢
      by_cases e : w.1 = 2
      · rw [if_pos e] at hb ⊢
        rw [hget] at hb
        rw [if_neg (by omega)] at hb
        by_cases e2 : j + 1 = i
        · rw [if_pos e2] at hb
          have h8 : v.1 = 8 := by simpa using hb
          omega
        · rw [if_neg e2] at hb
          exact ⟨e0, hw, hb, fun q => e2 q.1⟩
      · rw [if_neg e] at hb ⊢
        exact ⟨e0, hw, hb, fun q => e q.2⟩
  refine ⟨by rw [List.length_set, List.length_set]; exact h1, fun j w hw hb => ?_, hB.1, hB.2.1, fun q hq => ?_⟩
  · by_cases e : j = i
    · subst e
      rw [hget, if_neg (by omega), if_pos rfl] at hw; cases hw; exact ho
    · obtain ⟨-, a, b, -⟩ := hval j w e hw hb
      exact h3 j w a b
  · obtain ⟨w, hw, hb, hc⟩ := mem_lvl.mp hq
    by_cases e : q.1 = i
    · rw [hget, if_neg (by omega), if_pos e] at hw
      cases hw
      refine hB.2.2 q (List.mem_cons.mpr (Or.inl ?_))
      rw [← e, ← hc]
    · obtain ⟨e0, a, b, d⟩ := hval q.1 w e hw hb
      refine hB.2.2 q (List.mem_cons.mpr (Or.inr (List.mem_filter.mpr ⟨mem_lvl.mpr ⟨w, a, b, hc⟩, ?_⟩)))
      rw [hc, cvv_cat]
      by_cases e3 : w.1 = 2
      · have : ¬ q.1 + 1 = i := fun z => d ⟨z, e3⟩
        simp [e, e0, this]
      · simp [e, e0, e3]
theorem LsR.ext {G : AG} {as : List Nat} {h : AH} {ls : List AV} {lsA : Array Slot} {nL : Nat} (e : List Nat) (hlen : as.length = h.length) (te : List Nat) (H : LsR G as (tgs h) ls lsA nL) : LsR G (as ++ e) (tgs h ++ te) ls lsA nL := by
  obtain ⟨h1, h2, h3⟩ := H
  refine ⟨h1, fun j v hv hb => okv_ext te (h2 j v hv hb), h3.1, h3.2.1, fun q hq => ?_⟩
  obtain ⟨v, a, b, d⟩ := mem_lvl.mp hq
  exact h3.2.2 q (mem_lvl.mpr ⟨v, a, b, by rw [d]; exact cvv_ext e hlen (h2 _ v a b)⟩)
end
section
/-! Inversions of a step; numbers. -/
theorem p1_inv {t : Nat} {st : List AV} {k : Int → List AV → AR} {r : Int × AH} (e : am_p1 t st k = some r) : ∃ x st', st = (t, x) :: st' ∧ k x st' = some r := by
  unfold am_p1 at e
  cases st with
  | nil => cases e
  | cons v r' =>
    dsimp only at e
    cases hb : Nat.beq v.1 t with
    | false => rw [hb] at e; cases e
    | true =>
      rw [hb] at e
      have : v.1 = t := Nat.eq_of_beq_eq_true hb
      subst this
      exact ⟨v.2, r', rfl, e⟩
theorem ld_inv {t i : Nat} {ls st : List AV} {k : List AV → AR} {r : Int × AH} (e : am_ld t i ls st k = some r) : ∃ x, ls[i]? = some (t, x) ∧ k ((t, x) :: st) = some r := by
  unfold am_ld at e
  rw [nth_get] at e
  cases hv : ls[i]? with
  | none => rw [hv] at e; cases e
  | some v =>
    rw [hv] at e
    dsimp only at e
    cases hb : Nat.beq v.1 t with
    | false => rw [hb] at e; cases e
    | true =>
      rw [hb] at e
      have : v.1 = t := Nat.eq_of_beq_eq_true hb
      subst this
      exact ⟨v.2, rfl, e⟩
theorem lda_inv {i : Nat} {ls st : List AV} {k : List AV → AR} {r : Int × AH} (e : am_lda i ls st k = some r) : ∃ v, ls[i]? = some v ∧ (v.1 = 3 ∨ 100 ≤ v.1) ∧ k (v :: st) = some r := by
  unfold am_lda at e
  rw [nth_get] at e
  cases hv : ls[i]? with
  | none => rw [hv] at e; cases e
  | some v =>
    rw [hv] at e
    dsimp only at e
    cases hb : am_isr v.1 with
    | false => rw [hb] at e; cases e
    | true =>
      rw [hb] at e
      refine ⟨v, rfl, ?_, e⟩
      simp only [am_isr, Bool.or_eq_true] at hb
      rcases hb with q | q
      · exact Or.inr (Nat.le_of_ble_eq_true q)
      · exact Or.inl (Nat.eq_of_beq_eq_true q)
theorem ldl_inv {i : Nat} {ls st : List AV} {k : List AV → AR} {r : Int × AH} (e : am_ldl i ls st k = some r) : ∃ x u, ls[i]? = some (2, x) ∧ ls[i + 1]? = some u ∧ u.1 = 8 ∧ k ((2, x) :: st) = some r := by
  unfold am_ldl at e
  rw [nth_get, nth_get] at e
  cases hv : ls[i]? with
  | none => rw [hv] at e; cases e
  | some v =>
    rw [hv] at e
    dsimp only at e
    cases hu : ls[i + 1]? with
    | none => rw [hu] at e; cases e
    | some u =>
      rw [hu] at e
      dsimp only at e
      cases hb : Nat.beq v.1 2 && Nat.beq u.1 8 with
      | false => rw [hb] at e; cases e
      | true =>
        rw [hb] at e
        simp only [Bool.and_eq_true] at hb
        have : v.1 = 2 := Nat.eq_of_beq_eq_true hb.1
        obtain ⟨t, x⟩ := v
        subst this
        exact ⟨x, u, rfl, rfl, Nat.eq_of_beq_eq_true hb.2, e⟩
theorem st_inv {t i : Nat} {ls st : List AV} {k : List AV → List AV → AR} {r : Int × AH} (e : am_st t i ls st k = some r) : ∃ x st', st = (t, x) :: st' ∧ i < ls.length ∧ k (ls.set i (t, x)) st' = some r := by
  unfold am_st at e
  cases st with
  | nil => cases e
  | cons v r' =>
    dsimp only at e
    cases hb : Nat.beq v.1 t && Nat.ble (i + 1) ls.length with
    | false => rw [hb] at e; cases e
    | true =>
      rw [hb] at e
      simp only [Bool.and_eq_true] at hb
      have : v.1 = t := Nat.eq_of_beq_eq_true hb.1
      subst this
      rw [setL_set] at e
      exact ⟨v.2, r', rfl, Nat.le_of_ble_eq_true hb.2, e⟩
theorem sta_inv {i : Nat} {ls st : List AV} {k : List AV → List AV → AR} {r : Int × AH} (e : am_sta i ls st k = some r) : ∃ v st', st = v :: st' ∧ (v.1 = 3 ∨ 100 ≤ v.1) ∧ i < ls.length ∧ k (ls.set i v) st' = some r := by
  unfold am_sta at e
  cases st with
  | nil => cases e
  | cons v r' =>
    dsimp only at e
    cases hb : am_isr v.1 && Nat.ble (i + 1) ls.length with
    | false => rw [hb] at e; cases e
    | true =>
      rw [hb] at e
      simp only [Bool.and_eq_true] at hb
      rw [setL_set] at e
      refine ⟨v, r', rfl, ?_, Nat.le_of_ble_eq_true hb.2, e⟩
      have hb1 := hb.1
      simp only [am_isr, Bool.or_eq_true] at hb1
      rcases hb1 with q | q
      · exact Or.inr (Nat.le_of_ble_eq_true q)
      · exact Or.inl (Nat.eq_of_beq_eq_true q)
theorem stl_inv {i : Nat} {ls st : List AV} {k : List AV → List AV → AR} {r : Int × AH} (e : am_stl i ls st k = some r) : ∃ x st', st = (2, x) :: st' ∧ i + 1 < ls.length ∧ k ((ls.set i (2, x)).set (i + 1) (8, 0)) st' = some r := by
  unfold am_stl at e
  cases st with
  | nil => cases e
  | cons v r' =>
    dsimp only at e
    cases hb : Nat.beq v.1 2 && Nat.ble (i + 2) ls.length with
    | false => rw [hb] at e; cases e
    | true =>
      rw [hb] at e
      simp only [Bool.and_eq_true] at hb
      obtain ⟨t, x⟩ := v
      have : t = 2 := Nat.eq_of_beq_eq_true hb.1
      subst this
      rw [setL_set, setL_set] at e
      exact ⟨x, r', rfl, Nat.le_of_ble_eq_true hb.2, e⟩
theorem cond_inv {b : Bool} {x : AR} {r : Int × AH} (e : cond b x none = some r) : b = true ∧ x = some r := by
  cases b with
  | false => cases e
  | true => exact ⟨rfl, e⟩
theorem condN_inv {b : Bool} {x : AR} {r : Int × AH} (e : cond b none x = some r) : b = false ∧ x = some r := by
  cases b with
  | true => cases e
  | false => exact ⟨rfl, e⟩
theorem bind_inv {α : Type} {o : Option α} {k : α → AR} {r : Int × AH} (e : o.bind k = some r) : ∃ a, o = some a ∧ k a = some r := Option.bind_eq_some_iff.mp e
theorem ite_inv {c : Prop} [Decidable c] {x : AR} {r : Int × AH} (e : (if c then x else none) = some r) : c ∧ x = some r := by
  by_cases h : c
  · rw [if_pos h] at e; exact ⟨h, e⟩
  · rw [if_neg h] at e; cases e
theorem iteN_inv {c : Prop} [Decidable c] {x : AR} {r : Int × AH} (e : (if c then none else x) = some r) : ¬ c ∧ x = some r := by
  by_cases h : c
  · rw [if_pos h] at e; cases e
  · rw [if_neg h] at e; exact ⟨h, e⟩
theorem rdf_inv {t : Nat} {h : AH} {a : Int} {k : Nat} {v : Int} (e : rdf t h a k = some v) : ∃ xs, 0 ≤ a ∧ h[a.toNat]? = some (t, xs) ∧ xs[k]? = some v := by
  unfold rdf at e
  obtain ⟨xs, h1, h2⟩ := Option.bind_eq_some_iff.mp e
  obtain ⟨h3, h4⟩ := am_cl_spec h1
  exact ⟨xs, h3, h4, h2⟩
theorem rdr_inv {t : Nat} {h : AH} {a : Int} {k : Nat} {v : Int} (e : rdr t h a k = some v) : ∃ xs, 0 ≤ a ∧ h[a.toNat]? = some (t, xs) ∧ xs[k]? = some v ∧ 0 ≤ v := by
  unfold rdr at e
  obtain ⟨w, h1, h2⟩ := Option.bind_eq_some_iff.mp e
  obtain ⟨xs, h3, h4, h5⟩ := rdf_inv h1
  by_cases hw : 0 ≤ w
  · rw [if_pos hw] at h2; cases h2; exact ⟨xs, h3, h4, h5, hw⟩
  · rw [if_neg hw] at h2; cases h2
theorem rda_inv {t : Nat} {h : AH} {a i v : Int} (e : rda t h a i = some v) : ∃ xs, 0 ≤ a ∧ h[a.toNat]? = some (t, xs) ∧ 0 ≤ i ∧ xs[i.toNat]? = some v := by
  unfold rda at e
  by_cases hi : 0 ≤ i
  · rw [if_pos hi] at e
    obtain ⟨xs, h3, h4, h5⟩ := rdf_inv e
    exact ⟨xs, h3, h4, hi, h5⟩
  · rw [if_neg hi] at e; cases e
theorem rdar_inv {t : Nat} {h : AH} {a i v : Int} (e : rdar t h a i = some v) : ∃ xs, 0 ≤ a ∧ h[a.toNat]? = some (t, xs) ∧ 0 ≤ i ∧ xs[i.toNat]? = some v ∧ 0 ≤ v := by
  unfold rdar at e
  by_cases hi : 0 ≤ i
  · rw [if_pos hi] at e
    obtain ⟨xs, h3, h4, h5, h6⟩ := rdr_inv e
    exact ⟨xs, h3, h4, hi, h5, h6⟩
  · rw [if_neg hi] at e; cases e
theorem wrf_inv {t : Nat} {h h' : AH} {a : Int} {k : Nat} {v : Int} (e : wrf t h a k v = some h') : ∃ xs, 0 ≤ a ∧ h[a.toNat]? = some (t, xs) ∧ k < xs.length ∧ h' = h.set a.toNat (t, xs.set k v) := by
  unfold wrf at e
  obtain ⟨xs, h1, h2⟩ := Option.bind_eq_some_iff.mp e
  obtain ⟨h3, h4⟩ := am_cl_spec h1
  by_cases hk : k < xs.length
  · rw [if_pos hk] at h2; cases h2; exact ⟨xs, h3, h4, hk, rfl⟩
  · rw [if_neg hk] at h2; cases h2
theorem wrfb_inv {t : Nat} {h h' : AH} {a : Int} {k : Nat} {v : Int} (e : wrfb t h a k v = some h') : (v = 0 ∨ v = 1) ∧ wrf t h a k v = some h' := by
  unfold wrfb at e
  by_cases hv : v = 0 ∨ v = 1
  · rw [if_pos hv] at e; exact ⟨hv, e⟩
  · rw [if_neg hv] at e; cases e
theorem wra_inv {t : Nat} {h h' : AH} {a i v : Int} (e : wra t h a i v = some h') : ∃ xs, 0 ≤ a ∧ h[a.toNat]? = some (t, xs) ∧ 0 ≤ i ∧ i.toNat < xs.length ∧ h' = h.set a.toNat (t, xs.set i.toNat v) := by
  unfold wra at e
  by_cases hi : 0 ≤ i
  · rw [if_pos hi] at e
    obtain ⟨xs, h3, h4, h5, h6⟩ := wrf_inv e
    exact ⟨xs, h3, h4, hi, h5, h6⟩
  · rw [if_neg hi] at e; cases e
theorem wrab_inv {t : Nat} {h h' : AH} {a i v : Int} (e : wrab t h a i v = some h') : (v = 0 ∨ v = 1) ∧ wra t h a i v = some h' := by
  unfold wrab at e
  by_cases hv : v = 0 ∨ v = 1
  · rw [if_pos hv] at e; exact ⟨hv, e⟩
  · rw [if_neg hv] at e; cases e
theorem wrac_inv {t : Nat} {h h' : AH} {a i v : Int} (e : wrac t h a i v = some h') : (0 ≤ v ∧ v < 65536) ∧ wra t h a i v = some h' := by
  unfold wrac at e
  by_cases hv : 0 ≤ v ∧ v < 65536
  · rw [if_pos hv] at e; exact ⟨hv, e⟩
  · rw [if_neg hv] at e; cases e
theorem wrcp_inv {h h' : AH} {a b n : Int} (e : wrcp h a b n = some h') : ∃ xs ys, 0 ≤ a ∧ h[a.toNat]? = some (20, xs) ∧ 0 ≤ b ∧ h[b.toNat]? = some (20, ys) ∧ 0 ≤ n ∧ n.toNat ≤ xs.length ∧ n.toNat ≤ ys.length ∧ h' = h.set b.toNat (20, a_cpy xs ys n) := by
  unfold wrcp at e
  obtain ⟨xs, h1, h2⟩ := Option.bind_eq_some_iff.mp e
  obtain ⟨ys, h3, h4⟩ := Option.bind_eq_some_iff.mp h2
  obtain ⟨h5, h6⟩ := am_cl_spec h1
  obtain ⟨h7, h8⟩ := am_cl_spec h3
  by_cases hn : 0 ≤ n ∧ n.toNat ≤ xs.length ∧ n.toNat ≤ ys.length
  · rw [if_pos hn] at h4; cases h4; exact ⟨xs, ys, h5, h6, h7, h8, hn.1, hn.2.1, hn.2.2, rfl⟩
  · rw [if_neg hn] at h4; cases h4
/-! numbers -/
theorem inI_of (z : Int32) : inI z.toInt := ⟨by have := z.le_toInt; omega, by have := z.toInt_lt; omega⟩
theorem inL_of (z : Int64) : inL z.toInt := ⟨by have := z.le_toInt; omega, by have := z.toInt_lt; omega⟩
theorem toI {x : Int} (h : inI x) : (Int32.ofInt x).toInt = x := Int32.toInt_ofInt_of_le (by have := h.1; omega) (by have := h.2; omega)
theorem toL {x : Int} (h : inL x) : (Int64.ofInt x).toInt = x := Int64.toInt_ofInt_of_le (by have := h.1; omega) (by have := h.2; omega)
theorem eqI {x y : Int} (hx : inI x) (hy : inI y) : Int32.ofInt x = Int32.ofInt y ↔ x = y := by rw [← Int32.toInt_inj, toI hx, toI hy]
theorem ltI {x y : Int} (hx : inI x) (hy : inI y) : Int32.ofInt x < Int32.ofInt y ↔ x < y := by rw [Int32.lt_iff_toInt_lt, toI hx, toI hy]
theorem leI {x y : Int} (hx : inI x) (hy : inI y) : Int32.ofInt x ≤ Int32.ofInt y ↔ x ≤ y := by rw [Int32.le_iff_toInt_le, toI hx, toI hy]
theorem eqL {x y : Int} (hx : inL x) (hy : inL y) : Int64.ofInt x = Int64.ofInt y ↔ x = y := by rw [← Int64.toInt_inj, toL hx, toL hy]
theorem ltL {x y : Int} (hx : inL x) (hy : inL y) : Int64.ofInt x < Int64.ofInt y ↔ x < y := by rw [Int64.lt_iff_toInt_lt, toL hx, toL hy]
theorem inI0 : inI 0 := ⟨by omega, by omega⟩
theorem clI {x : Int} (h : inI x) : (Int32.ofInt x).toNatClampNeg = x.toNat := by
  show (Int32.ofInt x).toInt.toNat = _
  rw [toI h]
theorem ngI {x : Int} (h : inI x) : Int32.ofInt x < 0 ↔ x < 0 := ltI (y := 0) h inI0
theorem vin {x : Int} {n : Nat} (h : inI x) (h0 : 0 ≤ x) (hn : x.toNat < n) : vp_in (Int32.ofInt x) n := by
  intro q
  rw [ngI h, clI h] at q
  rcases q with q | q <;> omega
theorem oAdd (x y : Int) : Int32.ofInt (a_add x y) = Int32.ofInt x + Int32.ofInt y ∧ inI (a_add x y) := by
  rw [a_add_def, w32_def, Int32.ofInt_toInt, Int32.ofInt_add]; exact ⟨rfl, inI_of _⟩
theorem oSub (x y : Int) : Int32.ofInt (a_sub x y) = Int32.ofInt x - Int32.ofInt y ∧ inI (a_sub x y) := by
  rw [a_sub_def, w32_def, Int32.ofInt_toInt, Int32.ofInt_sub]; exact ⟨rfl, inI_of _⟩
theorem oMul (x y : Int) : Int32.ofInt (a_mul x y) = Int32.ofInt x * Int32.ofInt y ∧ inI (a_mul x y) := by
  rw [a_mul_def, w32_def, Int32.ofInt_toInt, Int32.ofInt_mul]; exact ⟨rfl, inI_of _⟩
theorem oNeg (x : Int) : Int32.ofInt (a_neg x) = -Int32.ofInt x ∧ inI (a_neg x) := by
  rw [a_neg_def, w32_def, Int32.ofInt_toInt, Int32.ofInt_neg]; exact ⟨rfl, inI_of _⟩
theorem oDiv (x y : Int) : Int32.ofInt (a_div x y) = Int32.ofInt x / Int32.ofInt y ∧ inI (a_div x y) := by
  rw [a_div_def, Int32.ofInt_toInt]; exact ⟨rfl, inI_of _⟩
theorem oRem (x y : Int) : Int32.ofInt (a_rem x y) = Int32.ofInt x - Int32.ofInt x / Int32.ofInt y * Int32.ofInt y ∧ inI (a_rem x y) := by
  rw [a_rem_def, Int32.ofInt_toInt]; exact ⟨rfl, inI_of _⟩
theorem oAnd (x y : Int) : Int32.ofInt (a_and x y) = Int32.ofInt x &&& Int32.ofInt y ∧ inI (a_and x y) := by
  rw [a_and_def, Int32.ofInt_toInt]; exact ⟨rfl, inI_of _⟩
theorem oOr (x y : Int) : Int32.ofInt (a_or x y) = Int32.ofInt x ||| Int32.ofInt y ∧ inI (a_or x y) := by
  rw [a_or_def, Int32.ofInt_toInt]; exact ⟨rfl, inI_of _⟩
theorem oShl (x y : Int) : Int32.ofInt (a_shl x y) = Int32.ofInt x <<< (Int32.ofInt y &&& 31) ∧ inI (a_shl x y) := by
  rw [a_shl_def, Int32.ofInt_toInt]; exact ⟨rfl, inI_of _⟩
theorem oShr (x y : Int) : Int32.ofInt (a_shr x y) = Int32.ofInt x >>> (Int32.ofInt y &&& 31) ∧ inI (a_shr x y) := by
  rw [a_shr_def, Int32.ofInt_toInt]; exact ⟨rfl, inI_of _⟩
theorem oUshr (x y : Int) : Int32.ofInt (a_ushr x y) = ((Int32.ofInt x).toUInt32 >>> ((Int32.ofInt y).toUInt32 &&& Int32.toUInt32 31)).toInt32 ∧ inI (a_ushr x y) := by
  rw [a_ushr_def, Int32.ofInt_toInt]; exact ⟨rfl, inI_of _⟩
theorem oI2c (x : Int) : Int32.ofInt (a_i2c x) = ((Int32.ofInt x).toUInt32 % 65536).toInt32 ∧ inI (a_i2c x) := by
  rw [a_i2c_def, Int32.ofInt_toInt]; exact ⟨rfl, inI_of _⟩
theorem oLadd (x y : Int) : Int64.ofInt (a_ladd x y) = Int64.ofInt x + Int64.ofInt y ∧ inL (a_ladd x y) := by
  rw [a_ladd_def, w64_def, Int64.ofInt_toInt, Int64.ofInt_add]; exact ⟨rfl, inL_of _⟩
theorem oLmul (x y : Int) : Int64.ofInt (a_lmul x y) = Int64.ofInt x * Int64.ofInt y ∧ inL (a_lmul x y) := by
  rw [a_lmul_def, w64_def, Int64.ofInt_toInt, Int64.ofInt_mul]; exact ⟨rfl, inL_of _⟩
theorem oLdiv (x y : Int) : Int64.ofInt (a_ldiv x y) = Int64.ofInt x / Int64.ofInt y ∧ inL (a_ldiv x y) := by
  rw [a_ldiv_def, Int64.ofInt_toInt]; exact ⟨rfl, inL_of _⟩
theorem oLrem (x y : Int) : Int64.ofInt (a_lrem x y) = Int64.ofInt x - Int64.ofInt x / Int64.ofInt y * Int64.ofInt y ∧ inL (a_lrem x y) := by
  rw [a_lrem_def, Int64.ofInt_toInt]; exact ⟨rfl, inL_of _⟩
theorem oLor (x y : Int) : Int64.ofInt (a_lor x y) = Int64.ofInt x ||| Int64.ofInt y ∧ inL (a_lor x y) := by
  rw [a_lor_def, Int64.ofInt_toInt]; exact ⟨rfl, inL_of _⟩
theorem oLshl (x y : Int) : Int64.ofInt (a_lshl x y) = Int64.ofInt x <<< ((Int32.ofInt y).toInt64 &&& 63) ∧ inL (a_lshl x y) := by
  rw [a_lshl_def, Int64.ofInt_toInt]; exact ⟨rfl, inL_of _⟩
theorem oLcmp {x y : Int} (hx : inL x) (hy : inL y) : Int32.ofInt (a_lcmp x y) = lg_cmp (Int64.ofInt x) (Int64.ofInt y) ∧ inI (a_lcmp x y) := by
  rw [a_lcmp_def]
  unfold lg_cmp
  by_cases h1 : y < x
  · rw [if_pos h1, if_pos ((ltL hy hx).mpr h1)]; exact ⟨rfl, by constructor <;> omega⟩
  · rw [if_neg h1, if_neg (fun q => h1 ((ltL hy hx).mp q))]
    by_cases h2 : x = y
    · subst h2; simp [inI]
    · rw [if_neg h2, if_neg (fun q => h2 ((eqL hx hy).mp q))]; exact ⟨rfl, by constructor <;> omega⟩
theorem oMax {x y : Int} (hx : inI x) (hy : inI y) : Int32.ofInt (a_max x y) = (if Int32.ofInt x < Int32.ofInt y then Int32.ofInt y else Int32.ofInt x) ∧ inI (a_max x y) := by
  rw [a_max_def]
  by_cases h1 : x < y
  · rw [if_pos h1, if_pos ((ltI hx hy).mpr h1)]; exact ⟨rfl, hy⟩
  · rw [if_neg h1, if_neg (fun q => h1 ((ltI hx hy).mp q))]; exact ⟨rfl, hx⟩
theorem oMin {x y : Int} (hx : inI x) (hy : inI y) : Int32.ofInt (a_min x y) = (if Int32.ofInt y < Int32.ofInt x then Int32.ofInt y else Int32.ofInt x) ∧ inI (a_min x y) := by
  rw [a_min_def]
  by_cases h1 : y < x
  · rw [if_pos h1, if_pos ((ltI hy hx).mpr h1)]; exact ⟨rfl, hy⟩
  · rw [if_neg h1, if_neg (fun q => h1 ((ltI hy hx).mp q))]; exact ⟨rfl, hx⟩
theorem oI2l {x : Int} (hx : inI x) : (Int32.ofInt x).toInt64 = Int64.ofInt x ∧ inL x := by
  have hL : inL x := ⟨by have := hx.1; omega, by have := hx.2; omega⟩
  refine ⟨?_, hL⟩
  rw [← Int64.toInt_inj, Int32.toInt_toInt64, toI hx, toL hL]
theorem oL2i (x : Int) : (Int64.ofInt x).toInt32 = Int32.ofInt (w32 x) ∧ inI (w32 x) := by
  rw [w32_def, Int32.ofInt_toInt, Int64.toInt32_ofInt]; exact ⟨rfl, inI_of _⟩
theorem oBi {n : Int} (h : -128 ≤ n ∧ n < 128) : (Int8.ofInt n).toInt32 = Int32.ofInt n ∧ inI n := by
  have hI : inI n := ⟨by omega, by omega⟩
  refine ⟨?_, hI⟩
  rw [← Int32.toInt_inj, Int8.toInt_toInt32, toI hI]
  exact Int8.toInt_ofInt_of_le (by omega) (by omega)
theorem oSi {n : Int} (h : -32768 ≤ n ∧ n < 32768) : (Int16.ofInt n).toInt32 = Int32.ofInt n ∧ inI n := by
  have hI : inI n := ⟨by omega, by omega⟩
  refine ⟨?_, hI⟩
  rw [← Int32.toInt_inj, Int16.toInt_toInt32, toI hI]
  exact Int16.toInt_ofInt_of_le (by omega) (by omega)
def tot (h : AH) : Nat := (h.map (fun c => c.2.length)).sum
theorem tot_set {h : AH} {k t : Nat} {xs ys : List Int} (hc : h[k]? = some (t, xs)) (hl : ys.length = xs.length) : tot (h.set k (t, ys)) = tot h := by
  unfold tot
  congr 1
  apply List.ext_getElem?
  intro j
  rw [List.getElem?_map, List.getElem?_map, List.getElem?_set]
  by_cases hj : k = j
  · subst hj
    rw [if_pos rfl, if_pos (List.getElem?_eq_some_iff.mp hc).1, hc]
    simp [hl]
  · rw [if_neg hj]
theorem tot_push (h : AH) (c : Nat × List Int) : tot (h ++ [c]) = tot h + c.2.length := by
  unfold tot
  simp
theorem cv0 (G : AG) (as : List Nat) (x : Int) : cvv G as (0, x) = .int (Int32.ofInt x) := rfl
theorem cv2 (G : AG) (as : List Nat) (x : Int) : cvv G as (2, x) = .long (Int64.ofInt x) := rfl
theorem cv3 (G : AG) (as : List Nat) (x : Int) : cvv G as (3, x) = .ref (gK G x.toNat) := rfl
theorem cvR (G : AG) (as : List Nat) {t : Nat} (ht : 100 ≤ t) (x : Int) : cvv G as (t, x) = .ref (adr as x) := by
  unfold cvv
  rw [if_neg (show ¬ t = 0 by omega), if_neg (show ¬ t = 2 by omega), if_neg (show ¬ t = 3 by omega)]
theorem ok0 {tg : List Nat} {x : Int} (h : okv tg (0, x)) : inI x := by
  rcases h with ⟨-, a⟩ | ⟨a, -⟩ | ⟨a, -⟩ | ⟨a, -⟩
  · exact a
  · cases a
  · cases a
  · exact absurd a (by omega)
theorem ok2 {tg : List Nat} {x : Int} (h : okv tg (2, x)) : inL x := by
  rcases h with ⟨a, -⟩ | ⟨-, a⟩ | ⟨a, -⟩ | ⟨a, -⟩
  · cases a
  · exact a
  · cases a
  · exact absurd a (by omega)
theorem okR {tg : List Nat} {t : Nat} {x : Int} (ht : 100 ≤ t) (h : okv tg (t, x)) : 0 ≤ x ∧ tg[x.toNat]? = some (t - 100) := by
  rcases h with ⟨a, -⟩ | ⟨a, -⟩ | ⟨a, -⟩ | ⟨-, a⟩
  · have : t = 0 := a; omega
  · have : t = 2 := a; omega
  · have : t = 3 := a; omega
  · exact a
end
section
/-! A step of the abstract machine is a step of the machine: pure instructions. -/
def Gd (G : AG) (p : Program) (l : Launch) (e : Env) (R : Room) (s : State) (mm : MethodId) (args : Array Value) (below : List Frame) (meth : Method) (c : Code) (Q : State → Prop) (nL n0 t0 : Nat) (as0 : List Nat) (pc : Nat) (ls st : List AV) (h : AH) : Prop :=
  ∀ (as : List Nat) (H : Heap) (locs : List Loc) (cells slots : Nat) (lsA : Array Slot), (∃ ex, as = as0 ++ ex) → RelP G as h H → va_S (gA G) s.heap H locs → LsR G as (tgs h) ls lsA nL → (∀ v ∈ st, okv (tgs h) v) → cells + n0 = h.length → slots + t0 = tot h →
    W p l e R s mm args below meth c H locs cells slots Q (F0 mm pc lsA (st.map (cvv G as)))
section PURE
variable {p : Program} {l : Launch} {e : Env} {R : Room} {s : State} {mm : MethodId} {args : Array Value} {below : List Frame} {meth : Method} {c : Code} {Q : State → Prop}
variable {G : AG} {nL n0 t0 pc : Nat} {as0 : List Nat} {ls st : List AV} {h : AH} {cc : ByteArray}

theorem oks_cons {tg : List Nat} {v : AV} {st : List AV} (h1 : okv tg v) (h2 : ∀ v ∈ st, okv tg v) : ∀ u ∈ v :: st, okv tg u := by
  intro u hu
  rcases List.mem_cons.mp hu with rfl | q
  · exact h1
  · exact h2 u q
theorem oks_tl {tg : List Nat} {v : AV} {st : List AV} (h2 : ∀ u ∈ v :: st, okv tg u) : ∀ u ∈ st, okv tg u := fun u hu => h2 u (List.mem_cons_of_mem _ hu)
theorem oks_hd {tg : List Nat} {v : AV} {st : List AV} (h2 : ∀ u ∈ v :: st, okv tg u) : okv tg v := h2 v List.mem_cons_self
theorem ok0I {tg : List Nat} {x : Int} (h : inI x) : okv tg (0, x) := Or.inl ⟨rfl, h⟩
theorem ok2L {tg : List Nat} {x : Int} (h : inL x) : okv tg (2, x) := Or.inr (Or.inl ⟨rfl, h⟩)
/-- a row that touches the stack alone -/
theorem g_st {pc' : Nat} {st' : List AV} (hN : Gd G p l e R s mm args below meth c Q nL n0 t0 as0 pc' ls st' h) (hok : (∀ v ∈ st, okv (tgs h) v) → ∀ v ∈ st', okv (tgs h) v)
    (row : ∀ (as : List Nat) (H : Heap) (locs : List Loc) (cells slots : Nat) (lsA : Array Slot), (∀ v ∈ st, okv (tgs h) v) → LsR G as (tgs h) ls lsA nL → W p l e R s mm args below meth c H locs cells slots Q (F0 mm pc' lsA (st'.map (cvv G as))) → W p l e R s mm args below meth c H locs cells slots Q (F0 mm pc lsA (st.map (cvv G as)))) : Gd G p l e R s mm args below meth c Q nL n0 t0 as0 pc ls st h :=
  fun as H locs cells slots lsA hE hR hS hL hO hc hs => row as H locs cells slots lsA hO hL (hN as H locs cells slots lsA hE hR hS hL (hok hO) hc hs)
theorem g_iconst (hx : p.tables.exec = Jvm.exec) (hb : c.code = cc) {n : Int} (hd : decode cc pc = .ok (.iconst n, 1)) (hn : inI n) (hN : Gd G p l e R s mm args below meth c Q nL n0 t0 as0 (pc + 1) ls ((0, n) :: st) h) : Gd G p l e R s mm args below meth c Q nL n0 t0 as0 pc ls st h :=
  g_st hN (fun hO => oks_cons (ok0I hn) hO) (fun as H locs cells slots lsA hO hL k => lv_iconst hx hb hd rfl k)
theorem g_bipush (hx : p.tables.exec = Jvm.exec) (hb : c.code = cc) {n : Int} (hd : decode cc pc = .ok (.bipush n, 2)) (hn : -128 ≤ n ∧ n < 128) (hN : Gd G p l e R s mm args below meth c Q nL n0 t0 as0 (pc + 2) ls ((0, n) :: st) h) : Gd G p l e R s mm args below meth c Q nL n0 t0 as0 pc ls st h :=
  g_st hN (fun hO => oks_cons (ok0I (oBi hn).2) hO) (fun as H locs cells slots lsA hO hL k => lv_bipush hx hb hd (oBi hn).1 k)
theorem g_sipush (hx : p.tables.exec = Jvm.exec) (hb : c.code = cc) {n : Int} (hd : decode cc pc = .ok (.sipush n, 3)) (hn : -32768 ≤ n ∧ n < 32768) (hN : Gd G p l e R s mm args below meth c Q nL n0 t0 as0 (pc + 3) ls ((0, n) :: st) h) : Gd G p l e R s mm args below meth c Q nL n0 t0 as0 pc ls st h :=
  g_st hN (fun hO => oks_cons (ok0I (oSi hn).2) hO) (fun as H locs cells slots lsA hO hL k => lv_sipush hx hb hd (oSi hn).1 k)
theorem g_lconst (hx : p.tables.exec = Jvm.exec) (hb : c.code = cc) {n : Fin 2} {z : Int} (hd : decode cc pc = .ok (.lconst n, 1)) (hn : z = (n.val : Int)) (hN : Gd G p l e R s mm args below meth c Q nL n0 t0 as0 (pc + 1) ls ((2, z) :: st) h) : Gd G p l e R s mm args below meth c Q nL n0 t0 as0 pc ls st h :=
  g_st hN (fun hO => oks_cons (ok2L (by have := n.isLt; constructor <;> omega)) hO) (fun as H locs cells slots lsA hO hL k => lv_lconst hx hb hd (by subst hn; rfl) k)
theorem g_ldcI (hx : p.tables.exec = Jvm.exec) (hb : c.code = cc) {own : String} {i : Nat} {z : Int} (hown : s.vm.findClass own = some mm.cls) (hw : (Cond.constant own i (Int32.ofInt z)).before args s = true) (hd : decode cc pc = .ok (.ldc i, 2)) (hn : inI z) (hN : Gd G p l e R s mm args below meth c Q nL n0 t0 as0 (pc + 2) ls ((0, z) :: st) h) : Gd G p l e R s mm args below meth c Q nL n0 t0 as0 pc ls st h :=
  g_st hN (fun hO => oks_cons (ok0I hn) hO) (fun as H locs cells slots lsA hO hL k => lv_ldc hx hb hown hw hd k)
theorem g_ldcw (hx : p.tables.exec = Jvm.exec) (hb : c.code = cc) {own : String} {i : Nat} {z : Int} (hown : s.vm.findClass own = some mm.cls) (hw : (Cond.constant own i (Int32.ofInt z)).before args s = true) (hd : decode cc pc = .ok (.ldc_w i, 3)) (hn : inI z) (hN : Gd G p l e R s mm args below meth c Q nL n0 t0 as0 (pc + 3) ls ((0, z) :: st) h) : Gd G p l e R s mm args below meth c Q nL n0 t0 as0 pc ls st h :=
  g_st hN (fun hO => oks_cons (ok0I hn) hO) (fun as H locs cells slots lsA hO hL k => lv_ldcw hx hb hown hw hd k)
theorem g_ldc2 (hx : p.tables.exec = Jvm.exec) (hb : c.code = cc) {own : String} {i : Nat} {z : Int} (hown : s.vm.findClass own = some mm.cls) (hw : (Cond.constantLong own i (Int64.ofInt z)).before args s = true) (hd : decode cc pc = .ok (.ldc2_w i, 3)) (hn : inL z) (hN : Gd G p l e R s mm args below meth c Q nL n0 t0 as0 (pc + 3) ls ((2, z) :: st) h) : Gd G p l e R s mm args below meth c Q nL n0 t0 as0 pc ls st h :=
  g_st hN (fun hO => oks_cons (ok2L hn) hO) (fun as H locs cells slots lsA hO hL k => lv_ldc2 hx hb hown hw hd k)
theorem g_ldcS (hx : p.tables.exec = Jvm.exec) (hb : c.code = cc) {own tx : String} {i : Nat} {z : Int} (hown : s.vm.findClass own = some mm.cls) (hw : vk_R own i tx (gK G z.toNat) s) (hd : decode cc pc = .ok (.ldc i, 2)) (hn : 0 ≤ z ∧ z < 9) (hN : Gd G p l e R s mm args below meth c Q nL n0 t0 as0 (pc + 2) ls ((3, z) :: st) h) : Gd G p l e R s mm args below meth c Q nL n0 t0 as0 pc ls st h :=
  g_st hN (fun hO => oks_cons (Or.inr (Or.inr (Or.inl ⟨rfl, hn⟩))) hO) (fun as H locs cells slots lsA hO hL k => va_ldcS hx hb hown hw hd k)
theorem cv_ref {as : List Nat} {v : AV} (ht : v.1 = 3 ∨ 100 ≤ v.1) : ∃ a, cvv G as v = .ref a := by
  obtain ⟨t, x⟩ := v
  rcases ht with q | q
  · have : t = 3 := q
    subst this; exact ⟨_, cv3 G as x⟩
  · exact ⟨_, cvR G as q x⟩
theorem g_iload_n (hx : p.tables.exec = Jvm.exec) (hb : c.code = cc) {k : Fin 4} {i : Nat} {x : Int} (hd : decode cc pc = .ok (.iload_n k, 1)) (hk : k.val = i) (hl : ls[i]? = some (0, x)) (hN : Gd G p l e R s mm args below meth c Q nL n0 t0 as0 (pc + 1) ls ((0, x) :: st) h) : Gd G p l e R s mm args below meth c Q nL n0 t0 as0 pc ls st h := by
  have hv : vldB ls i (0, x) = true := rfl
  exact fun as H locs cells slots lsA hE hR hS hL hO hc hs => lv_iload_n hx hb hd hk (hL.at hl hv).2 (hN as H locs cells slots lsA hE hR hS hL (oks_cons (hL.at hl hv).1 hO) hc hs)
theorem g_iload (hx : p.tables.exec = Jvm.exec) (hb : c.code = cc) {i : Nat} {x : Int} (hd : decode cc pc = .ok (.iload i, 2)) (hl : ls[i]? = some (0, x)) (hN : Gd G p l e R s mm args below meth c Q nL n0 t0 as0 (pc + 2) ls ((0, x) :: st) h) : Gd G p l e R s mm args below meth c Q nL n0 t0 as0 pc ls st h := by
  have hv : vldB ls i (0, x) = true := rfl
  exact fun as H locs cells slots lsA hE hR hS hL hO hc hs => lv_iload hx hb hd (hL.at hl hv).2 (hN as H locs cells slots lsA hE hR hS hL (oks_cons (hL.at hl hv).1 hO) hc hs)
theorem g_lload_n (hx : p.tables.exec = Jvm.exec) (hb : c.code = cc) {k : Fin 4} {i : Nat} {x : Int} {u : AV} (hd : decode cc pc = .ok (.lload_n k, 1)) (hk : k.val = i) (hl : ls[i]? = some (2, x)) (hu : ls[i + 1]? = some u) (h8 : u.1 = 8) (hN : Gd G p l e R s mm args below meth c Q nL n0 t0 as0 (pc + 1) ls ((2, x) :: st) h) : Gd G p l e R s mm args below meth c Q nL n0 t0 as0 pc ls st h := by
  have hv : vldB ls i (2, x) = true := by unfold vldB; rw [if_pos rfl, hu]; simpa using h8
  exact fun as H locs cells slots lsA hE hR hS hL hO hc hs => lv_lload_n hx hb hd hk (hL.at hl hv).2 (hN as H locs cells slots lsA hE hR hS hL (oks_cons (hL.at hl hv).1 hO) hc hs)
theorem g_lload (hx : p.tables.exec = Jvm.exec) (hb : c.code = cc) {i : Nat} {x : Int} {u : AV} (hd : decode cc pc = .ok (.lload i, 2)) (hl : ls[i]? = some (2, x)) (hu : ls[i + 1]? = some u) (h8 : u.1 = 8) (hN : Gd G p l e R s mm args below meth c Q nL n0 t0 as0 (pc + 2) ls ((2, x) :: st) h) : Gd G p l e R s mm args below meth c Q nL n0 t0 as0 pc ls st h := by
  have hv : vldB ls i (2, x) = true := by unfold vldB; rw [if_pos rfl, hu]; simpa using h8
  exact fun as H locs cells slots lsA hE hR hS hL hO hc hs => lv_lload hx hb hd (hL.at hl hv).2 (hN as H locs cells slots lsA hE hR hS hL (oks_cons (hL.at hl hv).1 hO) hc hs)
theorem g_aload_n (hx : p.tables.exec = Jvm.exec) (hb : c.code = cc) {k : Fin 4} {i : Nat} {v : AV} (hd : decode cc pc = .ok (.aload_n k, 1)) (hk : k.val = i) (hl : ls[i]? = some v) (ht : v.1 = 3 ∨ 100 ≤ v.1) (hN : Gd G p l e R s mm args below meth c Q nL n0 t0 as0 (pc + 1) ls (v :: st) h) : Gd G p l e R s mm args below meth c Q nL n0 t0 as0 pc ls st h := by
  have hv : vldB ls i v = true := by unfold vldB; rw [if_neg (by omega)]; rcases ht with q | q <;> simp [q]
  intro as H locs cells slots lsA hE hR hS hL hO hc hs
  obtain ⟨a, ha⟩ := cv_ref (G := G) (as := as) ht
  have h2 := (hL.at hl hv).2
  have hk2 := hN as H locs cells slots lsA hE hR hS hL (oks_cons (hL.at hl hv).1 hO) hc hs
  rw [List.map_cons, ha] at hk2
  rw [ha] at h2
  exact lv_aload_n hx hb hd hk h2 hk2
theorem g_aload (hx : p.tables.exec = Jvm.exec) (hb : c.code = cc) {i : Nat} {v : AV} (hd : decode cc pc = .ok (.aload i, 2)) (hl : ls[i]? = some v) (ht : v.1 = 3 ∨ 100 ≤ v.1) (hN : Gd G p l e R s mm args below meth c Q nL n0 t0 as0 (pc + 2) ls (v :: st) h) : Gd G p l e R s mm args below meth c Q nL n0 t0 as0 pc ls st h := by
  have hv : vldB ls i v = true := by unfold vldB; rw [if_neg (by omega)]; rcases ht with q | q <;> simp [q]
  intro as H locs cells slots lsA hE hR hS hL hO hc hs
  obtain ⟨a, ha⟩ := cv_ref (G := G) (as := as) ht
  have h2 := (hL.at hl hv).2
  have hk2 := hN as H locs cells slots lsA hE hR hS hL (oks_cons (hL.at hl hv).1 hO) hc hs
  rw [List.map_cons, ha] at hk2
  rw [ha] at h2
  exact lv_aload hx hb hd h2 hk2
theorem g_istore_n (hx : p.tables.exec = Jvm.exec) (hb : c.code = cc) {k : Fin 4} {i : Nat} {x : Int} (hd : decode cc pc = .ok (.istore_n k, 1)) (hk : k.val = i) (hi : i < ls.length) (hN : Gd G p l e R s mm args below meth c Q nL n0 t0 as0 (pc + 1) (ls.set i (0, x)) st h) : Gd G p l e R s mm args below meth c Q nL n0 t0 as0 pc ls ((0, x) :: st) h := by
  intro as H locs cells slots lsA hE hR hS hL hO hc hs
  have hi' : i < nL := by rw [← hL.1]; exact hi
  exact lv_istore_n hx hb hd hk hL.2.2 hi' rfl (fun lsB hB => hN as H locs cells slots lsB hE hR hS (hL.store1 hi' (oks_hd hO) (show (0 : Nat) ≠ 2 by decide) hB) (oks_tl hO) hc hs)
theorem g_istore (hx : p.tables.exec = Jvm.exec) (hb : c.code = cc) {i : Nat} {x : Int} (hd : decode cc pc = .ok (.istore i, 2)) (hi : i < ls.length) (hN : Gd G p l e R s mm args below meth c Q nL n0 t0 as0 (pc + 2) (ls.set i (0, x)) st h) : Gd G p l e R s mm args below meth c Q nL n0 t0 as0 pc ls ((0, x) :: st) h := by
  intro as H locs cells slots lsA hE hR hS hL hO hc hs
  have hi' : i < nL := by rw [← hL.1]; exact hi
  exact lv_istore hx hb hd hL.2.2 hi' rfl (fun lsB hB => hN as H locs cells slots lsB hE hR hS (hL.store1 hi' (oks_hd hO) (show (0 : Nat) ≠ 2 by decide) hB) (oks_tl hO) hc hs)
theorem g_lstore_n (hx : p.tables.exec = Jvm.exec) (hb : c.code = cc) {k : Fin 4} {i : Nat} {x : Int} (hd : decode cc pc = .ok (.lstore_n k, 1)) (hk : k.val = i) (hi : i + 1 < ls.length) (hN : Gd G p l e R s mm args below meth c Q nL n0 t0 as0 (pc + 1) ((ls.set i (2, x)).set (i + 1) (8, 0)) st h) : Gd G p l e R s mm args below meth c Q nL n0 t0 as0 pc ls ((2, x) :: st) h := by
  intro as H locs cells slots lsA hE hR hS hL hO hc hs
  have hi' : i + 1 < nL := by rw [← hL.1]; exact hi
  exact lv_lstore_n hx hb hd hk hL.2.2 hi' rfl (fun lsB hB => hN as H locs cells slots lsB hE hR hS (hL.store2 hi' (oks_hd hO) rfl hB) (oks_tl hO) hc hs)
theorem g_lstore (hx : p.tables.exec = Jvm.exec) (hb : c.code = cc) {i : Nat} {x : Int} (hd : decode cc pc = .ok (.lstore i, 2)) (hi : i + 1 < ls.length) (hN : Gd G p l e R s mm args below meth c Q nL n0 t0 as0 (pc + 2) ((ls.set i (2, x)).set (i + 1) (8, 0)) st h) : Gd G p l e R s mm args below meth c Q nL n0 t0 as0 pc ls ((2, x) :: st) h := by
  intro as H locs cells slots lsA hE hR hS hL hO hc hs
  have hi' : i + 1 < nL := by rw [← hL.1]; exact hi
  exact lv_lstore hx hb hd hL.2.2 hi' rfl (fun lsB hB => hN as H locs cells slots lsB hE hR hS (hL.store2 hi' (oks_hd hO) rfl hB) (oks_tl hO) hc hs)
theorem g_astore_n (hx : p.tables.exec = Jvm.exec) (hb : c.code = cc) {k : Fin 4} {i : Nat} {v : AV} (hd : decode cc pc = .ok (.astore_n k, 1)) (hk : k.val = i) (hi : i < ls.length) (ht : v.1 = 3 ∨ 100 ≤ v.1) (hN : Gd G p l e R s mm args below meth c Q nL n0 t0 as0 (pc + 1) (ls.set i v) st h) : Gd G p l e R s mm args below meth c Q nL n0 t0 as0 pc ls (v :: st) h := by
  intro as H locs cells slots lsA hE hR hS hL hO hc hs
  have hi' : i < nL := by rw [← hL.1]; exact hi
  obtain ⟨a, ha⟩ := cv_ref (G := G) (as := as) ht
  rw [List.map_cons, ha]
  refine lv_astore_n hx hb hd hk hL.2.2 hi' rfl (fun lsB hB => hN as H locs cells slots lsB hE hR hS (hL.store1 hi' (oks_hd hO) (by omega) ?_) (oks_tl hO) hc hs)
  rw [ha]; exact hB
theorem g_astore (hx : p.tables.exec = Jvm.exec) (hb : c.code = cc) {i : Nat} {v : AV} (hd : decode cc pc = .ok (.astore i, 2)) (hi : i < ls.length) (ht : v.1 = 3 ∨ 100 ≤ v.1) (hN : Gd G p l e R s mm args below meth c Q nL n0 t0 as0 (pc + 2) (ls.set i v) st h) : Gd G p l e R s mm args below meth c Q nL n0 t0 as0 pc ls (v :: st) h := by
  intro as H locs cells slots lsA hE hR hS hL hO hc hs
  have hi' : i < nL := by rw [← hL.1]; exact hi
  obtain ⟨a, ha⟩ := cv_ref (G := G) (as := as) ht
  rw [List.map_cons, ha]
  refine lv_astore hx hb hd hL.2.2 hi' rfl (fun lsB hB => hN as H locs cells slots lsB hE hR hS (hL.store1 hi' (oks_hd hO) (by omega) ?_) (oks_tl hO) hc hs)
  rw [ha]; exact hB
theorem g_iinc (hx : p.tables.exec = Jvm.exec) (hb : c.code = cc) {i : Nat} {n x : Int} (hd : decode cc pc = .ok (.iinc i n, 3)) (hl : ls[i]? = some (0, x)) (hi : i < ls.length) (hN : Gd G p l e R s mm args below meth c Q nL n0 t0 as0 (pc + 3) (ls.set i (0, a_add x n)) st h) : Gd G p l e R s mm args below meth c Q nL n0 t0 as0 pc ls st h := by
  intro as H locs cells slots lsA hE hR hS hL hO hc hs
  have hi' : i < nL := by rw [← hL.1]; exact hi
  obtain ⟨k, hk⟩ := List.getElem?_of_mem (mem_lvl.mpr ⟨(0, x), hl, rfl, rfl⟩ : (i, cvv G as (0, x)) ∈ lvl G as ls)
  refine lv_iinc (v := Int32.ofInt (a_add x n)) hx hb hd hL.2.2 hk (oAdd x n).1.symm hi' rfl (fun lsB hB => hN as H locs cells slots lsB hE hR hS (hL.store1 hi' (ok0I (oAdd x n).2) (show (0 : Nat) ≠ 2 by decide) hB) hO hc hs)
theorem g_iadd (hx : p.tables.exec = Jvm.exec) (hb : c.code = cc) {x y : Int} (hd : decode cc pc = .ok (.iadd, 1)) (hN : Gd G p l e R s mm args below meth c Q nL n0 t0 as0 (pc + 1) ls ((0, a_add x y) :: st) h) : Gd G p l e R s mm args below meth c Q nL n0 t0 as0 pc ls ((0, y) :: (0, x) :: st) h :=
  g_st hN (fun hO => oks_cons (ok0I (oAdd x y).2) (oks_tl (oks_tl hO))) (fun as H locs cells slots lsA hO hL k => lv_iadd hx hb hd (by rw [List.map_cons, cv0, (oAdd x y).1] at k; exact k))
theorem g_isub (hx : p.tables.exec = Jvm.exec) (hb : c.code = cc) {x y : Int} (hd : decode cc pc = .ok (.isub, 1)) (hN : Gd G p l e R s mm args below meth c Q nL n0 t0 as0 (pc + 1) ls ((0, a_sub x y) :: st) h) : Gd G p l e R s mm args below meth c Q nL n0 t0 as0 pc ls ((0, y) :: (0, x) :: st) h :=
  g_st hN (fun hO => oks_cons (ok0I (oSub x y).2) (oks_tl (oks_tl hO))) (fun as H locs cells slots lsA hO hL k => lv_isub hx hb hd (by rw [List.map_cons, cv0, (oSub x y).1] at k; exact k))
theorem g_imul (hx : p.tables.exec = Jvm.exec) (hb : c.code = cc) {x y : Int} (hd : decode cc pc = .ok (.imul, 1)) (hN : Gd G p l e R s mm args below meth c Q nL n0 t0 as0 (pc + 1) ls ((0, a_mul x y) :: st) h) : Gd G p l e R s mm args below meth c Q nL n0 t0 as0 pc ls ((0, y) :: (0, x) :: st) h :=
  g_st hN (fun hO => oks_cons (ok0I (oMul x y).2) (oks_tl (oks_tl hO))) (fun as H locs cells slots lsA hO hL k => lv_imul hx hb hd (by rw [List.map_cons, cv0, (oMul x y).1] at k; exact k))
theorem g_iand (hx : p.tables.exec = Jvm.exec) (hb : c.code = cc) {x y : Int} (hd : decode cc pc = .ok (.iand, 1)) (hN : Gd G p l e R s mm args below meth c Q nL n0 t0 as0 (pc + 1) ls ((0, a_and x y) :: st) h) : Gd G p l e R s mm args below meth c Q nL n0 t0 as0 pc ls ((0, y) :: (0, x) :: st) h :=
  g_st hN (fun hO => oks_cons (ok0I (oAnd x y).2) (oks_tl (oks_tl hO))) (fun as H locs cells slots lsA hO hL k => lv_iand hx hb hd (by rw [List.map_cons, cv0, (oAnd x y).1] at k; exact k))
theorem g_ior (hx : p.tables.exec = Jvm.exec) (hb : c.code = cc) {x y : Int} (hd : decode cc pc = .ok (.ior, 1)) (hN : Gd G p l e R s mm args below meth c Q nL n0 t0 as0 (pc + 1) ls ((0, a_or x y) :: st) h) : Gd G p l e R s mm args below meth c Q nL n0 t0 as0 pc ls ((0, y) :: (0, x) :: st) h :=
  g_st hN (fun hO => oks_cons (ok0I (oOr x y).2) (oks_tl (oks_tl hO))) (fun as H locs cells slots lsA hO hL k => lv_ior hx hb hd (by rw [List.map_cons, cv0, (oOr x y).1] at k; exact k))
theorem g_ishl (hx : p.tables.exec = Jvm.exec) (hb : c.code = cc) {x y : Int} (hd : decode cc pc = .ok (.ishl, 1)) (hN : Gd G p l e R s mm args below meth c Q nL n0 t0 as0 (pc + 1) ls ((0, a_shl x y) :: st) h) : Gd G p l e R s mm args below meth c Q nL n0 t0 as0 pc ls ((0, y) :: (0, x) :: st) h :=
  g_st hN (fun hO => oks_cons (ok0I (oShl x y).2) (oks_tl (oks_tl hO))) (fun as H locs cells slots lsA hO hL k => lv_ishl hx hb hd (by rw [List.map_cons, cv0, (oShl x y).1] at k; exact k))
theorem g_ishr (hx : p.tables.exec = Jvm.exec) (hb : c.code = cc) {x y : Int} (hd : decode cc pc = .ok (.ishr, 1)) (hN : Gd G p l e R s mm args below meth c Q nL n0 t0 as0 (pc + 1) ls ((0, a_shr x y) :: st) h) : Gd G p l e R s mm args below meth c Q nL n0 t0 as0 pc ls ((0, y) :: (0, x) :: st) h :=
  g_st hN (fun hO => oks_cons (ok0I (oShr x y).2) (oks_tl (oks_tl hO))) (fun as H locs cells slots lsA hO hL k => lv_ishr hx hb hd (by rw [List.map_cons, cv0, (oShr x y).1] at k; exact k))
theorem g_ladd (hx : p.tables.exec = Jvm.exec) (hb : c.code = cc) {x y : Int} (hd : decode cc pc = .ok (.ladd, 1)) (hN : Gd G p l e R s mm args below meth c Q nL n0 t0 as0 (pc + 1) ls ((2, a_ladd x y) :: st) h) : Gd G p l e R s mm args below meth c Q nL n0 t0 as0 pc ls ((2, y) :: (2, x) :: st) h :=
  g_st hN (fun hO => oks_cons (ok2L (oLadd x y).2) (oks_tl (oks_tl hO))) (fun as H locs cells slots lsA hO hL k => lv_ladd hx hb hd (by rw [List.map_cons, cv2, (oLadd x y).1] at k; exact k))
theorem g_lmul (hx : p.tables.exec = Jvm.exec) (hb : c.code = cc) {x y : Int} (hd : decode cc pc = .ok (.lmul, 1)) (hN : Gd G p l e R s mm args below meth c Q nL n0 t0 as0 (pc + 1) ls ((2, a_lmul x y) :: st) h) : Gd G p l e R s mm args below meth c Q nL n0 t0 as0 pc ls ((2, y) :: (2, x) :: st) h :=
  g_st hN (fun hO => oks_cons (ok2L (oLmul x y).2) (oks_tl (oks_tl hO))) (fun as H locs cells slots lsA hO hL k => lv_lmul hx hb hd (by rw [List.map_cons, cv2, (oLmul x y).1] at k; exact k))
theorem g_lor (hx : p.tables.exec = Jvm.exec) (hb : c.code = cc) {x y : Int} (hd : decode cc pc = .ok (.lor, 1)) (hN : Gd G p l e R s mm args below meth c Q nL n0 t0 as0 (pc + 1) ls ((2, a_lor x y) :: st) h) : Gd G p l e R s mm args below meth c Q nL n0 t0 as0 pc ls ((2, y) :: (2, x) :: st) h :=
  g_st hN (fun hO => oks_cons (ok2L (oLor x y).2) (oks_tl (oks_tl hO))) (fun as H locs cells slots lsA hO hL k => lv_lor hx hb hd (by rw [List.map_cons, cv2, (oLor x y).1] at k; exact k))
theorem g_iushr (hx : p.tables.exec = Jvm.exec) (hb : c.code = cc) {x y : Int} (hd : decode cc pc = .ok (.iushr, 1)) (hN : Gd G p l e R s mm args below meth c Q nL n0 t0 as0 (pc + 1) ls ((0, a_ushr x y) :: st) h) : Gd G p l e R s mm args below meth c Q nL n0 t0 as0 pc ls ((0, y) :: (0, x) :: st) h :=
  g_st hN (fun hO => oks_cons (ok0I (oUshr x y).2) (oks_tl (oks_tl hO))) (fun as H locs cells slots lsA hO hL k => lv_iushr hx hb hd (oUshr x y).1.symm k)
theorem g_idiv (hx : p.tables.exec = Jvm.exec) (hb : c.code = cc) {x y : Int} (hd : decode cc pc = .ok (.idiv, 1)) (hy : ¬ y = 0) (hN : Gd G p l e R s mm args below meth c Q nL n0 t0 as0 (pc + 1) ls ((0, a_div x y) :: st) h) : Gd G p l e R s mm args below meth c Q nL n0 t0 as0 pc ls ((0, y) :: (0, x) :: st) h :=
  g_st hN (fun hO => oks_cons (ok0I (oDiv x y).2) (oks_tl (oks_tl hO))) (fun as H locs cells slots lsA hO hL k => lv_idiv hx hb hd (fun q => hy ((eqI (y := 0) (ok0 (oks_hd hO)) inI0).mp q)) (by rw [List.map_cons, cv0, (oDiv x y).1] at k; exact k))
theorem g_irem (hx : p.tables.exec = Jvm.exec) (hb : c.code = cc) {x y : Int} (hd : decode cc pc = .ok (.irem, 1)) (hy : ¬ y = 0) (hN : Gd G p l e R s mm args below meth c Q nL n0 t0 as0 (pc + 1) ls ((0, a_rem x y) :: st) h) : Gd G p l e R s mm args below meth c Q nL n0 t0 as0 pc ls ((0, y) :: (0, x) :: st) h :=
  g_st hN (fun hO => oks_cons (ok0I (oRem x y).2) (oks_tl (oks_tl hO))) (fun as H locs cells slots lsA hO hL k => lv_irem hx hb hd (fun q => hy ((eqI (y := 0) (ok0 (oks_hd hO)) inI0).mp q)) (by rw [List.map_cons, cv0, (oRem x y).1] at k; exact k))
theorem inL0 : inL 0 := ⟨by omega, by omega⟩
theorem g_ldiv (hx : p.tables.exec = Jvm.exec) (hb : c.code = cc) {x y : Int} (hd : decode cc pc = .ok (.ldiv, 1)) (hy : ¬ y = 0) (hN : Gd G p l e R s mm args below meth c Q nL n0 t0 as0 (pc + 1) ls ((2, a_ldiv x y) :: st) h) : Gd G p l e R s mm args below meth c Q nL n0 t0 as0 pc ls ((2, y) :: (2, x) :: st) h :=
  g_st hN (fun hO => oks_cons (ok2L (oLdiv x y).2) (oks_tl (oks_tl hO))) (fun as H locs cells slots lsA hO hL k => lv_ldiv hx hb hd (fun q => hy ((eqL (y := 0) (ok2 (oks_hd hO)) inL0).mp q)) (by rw [List.map_cons, cv2, (oLdiv x y).1] at k; exact k))
theorem g_lrem (hx : p.tables.exec = Jvm.exec) (hb : c.code = cc) {x y : Int} (hd : decode cc pc = .ok (.lrem, 1)) (hy : ¬ y = 0) (hN : Gd G p l e R s mm args below meth c Q nL n0 t0 as0 (pc + 1) ls ((2, a_lrem x y) :: st) h) : Gd G p l e R s mm args below meth c Q nL n0 t0 as0 pc ls ((2, y) :: (2, x) :: st) h :=
  g_st hN (fun hO => oks_cons (ok2L (oLrem x y).2) (oks_tl (oks_tl hO))) (fun as H locs cells slots lsA hO hL k => lv_lrem hx hb hd (fun q => hy ((eqL (y := 0) (ok2 (oks_hd hO)) inL0).mp q)) (by rw [List.map_cons, cv2, (oLrem x y).1] at k; exact k))
theorem g_ineg (hx : p.tables.exec = Jvm.exec) (hb : c.code = cc) {x : Int} (hd : decode cc pc = .ok (.ineg, 1)) (hN : Gd G p l e R s mm args below meth c Q nL n0 t0 as0 (pc + 1) ls ((0, a_neg x) :: st) h) : Gd G p l e R s mm args below meth c Q nL n0 t0 as0 pc ls ((0, x) :: st) h :=
  g_st hN (fun hO => oks_cons (ok0I (oNeg x).2) (oks_tl hO)) (fun as H locs cells slots lsA hO hL k => lv_ineg hx hb hd (by rw [List.map_cons, cv0, (oNeg x).1] at k; exact k))
theorem g_i2c (hx : p.tables.exec = Jvm.exec) (hb : c.code = cc) {x : Int} (hd : decode cc pc = .ok (.i2c, 1)) (hN : Gd G p l e R s mm args below meth c Q nL n0 t0 as0 (pc + 1) ls ((0, a_i2c x) :: st) h) : Gd G p l e R s mm args below meth c Q nL n0 t0 as0 pc ls ((0, x) :: st) h :=
  g_st hN (fun hO => oks_cons (ok0I (oI2c x).2) (oks_tl hO)) (fun as H locs cells slots lsA hO hL k => lv_i2c hx hb hd (oI2c x).1.symm k)
theorem g_i2l (hx : p.tables.exec = Jvm.exec) (hb : c.code = cc) {x : Int} (hd : decode cc pc = .ok (.i2l, 1)) (hN : Gd G p l e R s mm args below meth c Q nL n0 t0 as0 (pc + 1) ls ((2, x) :: st) h) : Gd G p l e R s mm args below meth c Q nL n0 t0 as0 pc ls ((0, x) :: st) h :=
  g_st hN (fun hO => oks_cons (ok2L (oI2l (ok0 (oks_hd hO))).2) (oks_tl hO)) (fun as H locs cells slots lsA hO hL k => lv_i2l hx hb hd (oI2l (ok0 (oks_hd hO))).1 k)
theorem g_l2i (hx : p.tables.exec = Jvm.exec) (hb : c.code = cc) {x : Int} (hd : decode cc pc = .ok (.l2i, 1)) (hN : Gd G p l e R s mm args below meth c Q nL n0 t0 as0 (pc + 1) ls ((0, w32 x) :: st) h) : Gd G p l e R s mm args below meth c Q nL n0 t0 as0 pc ls ((2, x) :: st) h :=
  g_st hN (fun hO => oks_cons (ok0I (oL2i x).2) (oks_tl hO)) (fun as H locs cells slots lsA hO hL k => lv_l2i hx hb hd (oL2i x).1 k)
theorem g_lshl (hx : p.tables.exec = Jvm.exec) (hb : c.code = cc) {x y : Int} (hd : decode cc pc = .ok (.lshl, 1)) (hN : Gd G p l e R s mm args below meth c Q nL n0 t0 as0 (pc + 1) ls ((2, a_lshl x y) :: st) h) : Gd G p l e R s mm args below meth c Q nL n0 t0 as0 pc ls ((0, y) :: (2, x) :: st) h :=
  g_st hN (fun hO => oks_cons (ok2L (oLshl x y).2) (oks_tl (oks_tl hO))) (fun as H locs cells slots lsA hO hL k => lv_lshl hx hb hd (oLshl x y).1.symm k)
theorem g_lcmp (hx : p.tables.exec = Jvm.exec) (hb : c.code = cc) {x y : Int} (hd : decode cc pc = .ok (.lcmp, 1)) (hN : Gd G p l e R s mm args below meth c Q nL n0 t0 as0 (pc + 1) ls ((0, a_lcmp x y) :: st) h) : Gd G p l e R s mm args below meth c Q nL n0 t0 as0 pc ls ((2, y) :: (2, x) :: st) h :=
  g_st hN (fun hO => oks_cons (ok0I (oLcmp (ok2 (oks_hd (oks_tl hO))) (ok2 (oks_hd hO))).2) (oks_tl (oks_tl hO))) (fun as H locs cells slots lsA hO hL k => W.lcmp hx hb hd (by rw [List.map_cons, cv0, (oLcmp (ok2 (oks_hd (oks_tl hO))) (ok2 (oks_hd hO))).1] at k; exact k))
theorem cv_c1 {as : List Nat} {v : AV} (h2 : Nat.beq v.1 2 = false) : (cvv G as v).category = 1 := by
  rw [cvv_cat, if_neg]
  intro q
  rw [q] at h2
  cases h2
theorem g_dup (hx : p.tables.exec = Jvm.exec) (hb : c.code = cc) {v : AV} (hd : decode cc pc = .ok (.dup, 1)) (h2 : Nat.beq v.1 2 = false) (hN : Gd G p l e R s mm args below meth c Q nL n0 t0 as0 (pc + 1) ls (v :: v :: st) h) : Gd G p l e R s mm args below meth c Q nL n0 t0 as0 pc ls (v :: st) h :=
  g_st hN (fun hO => oks_cons (oks_hd hO) hO) (fun as H locs cells slots lsA hO hL k => lv_dup hx hb hd (cv_c1 h2) k)
theorem g_dup2 (hx : p.tables.exec = Jvm.exec) (hb : c.code = cc) {v u : AV} (hd : decode cc pc = .ok (.dup2, 1)) (h2 : Nat.beq v.1 2 = false) (h3 : Nat.beq u.1 2 = false) (hN : Gd G p l e R s mm args below meth c Q nL n0 t0 as0 (pc + 1) ls (v :: u :: v :: u :: st) h) : Gd G p l e R s mm args below meth c Q nL n0 t0 as0 pc ls (v :: u :: st) h :=
  g_st hN (fun hO => oks_cons (oks_hd hO) (oks_cons (oks_hd (oks_tl hO)) hO)) (fun as H locs cells slots lsA hO hL k => lv_dup2_11 hx hb hd (cv_c1 h2) (cv_c1 h3) k)
theorem g_pop (hx : p.tables.exec = Jvm.exec) (hb : c.code = cc) {v : AV} (hd : decode cc pc = .ok (.pop, 1)) (h2 : Nat.beq v.1 2 = false) (hN : Gd G p l e R s mm args below meth c Q nL n0 t0 as0 (pc + 1) ls st h) : Gd G p l e R s mm args below meth c Q nL n0 t0 as0 pc ls (v :: st) h :=
  g_st hN (fun hO => oks_tl hO) (fun as H locs cells slots lsA hO hL k => lv_pop hx hb hd (cv_c1 h2) k)
theorem g_goto (hx : p.tables.exec = Jvm.exec) (hb : c.code = cc) {o : Int} {t : Nat} (hd : decode cc pc = .ok (.goto o, 3)) (ht : (pc : Int) + o = (t : Int)) (hN : Gd G p l e R s mm args below meth c Q nL n0 t0 as0 t ls st h) : Gd G p l e R s mm args below meth c Q nL n0 t0 as0 pc ls st h :=
  g_st hN (fun hO => hO) (fun as H locs cells slots lsA hO hL k => lv_goto hx hb hd ht k)
theorem g_if (hx : p.tables.exec = Jvm.exec) (hb : c.code = cc) {k : ClassFile.Cond} {o : Int} {t : Nat} {x : Int} (hd : decode cc pc = .ok (.ifCond k o, 3)) (ht : (pc : Int) + o = (t : Int)) {A B : AR} {r : Int × AH} (e0 : am_br k x 0 A B = some r) (hA : A = some r → Gd G p l e R s mm args below meth c Q nL n0 t0 as0 t ls st h) (hB : B = some r → Gd G p l e R s mm args below meth c Q nL n0 t0 as0 (pc + 3) ls st h) : Gd G p l e R s mm args below meth c Q nL n0 t0 as0 pc ls ((0, x) :: st) h := by
  intro as H locs cells slots lsA hE hR hS hL hO hc hs
  have hxI := ok0 (oks_hd hO)
  have kA : A = some r → W p l e R s mm args below meth c H locs cells slots Q (F0 mm t lsA (st.map (cvv G as))) := fun q => hA q as H locs cells slots lsA hE hR hS hL (oks_tl hO) hc hs
  have kB : B = some r → W p l e R s mm args below meth c H locs cells slots Q (F0 mm (pc + 3) lsA (st.map (cvv G as))) := fun q => hB q as H locs cells slots lsA hE hR hS hL (oks_tl hO) hc hs
  have q1 : Int32.ofInt x = 0 ↔ x = 0 := eqI (y := 0) hxI inI0
  have q2 : Int32.ofInt x < 0 ↔ x < 0 := ltI (y := 0) hxI inI0
  have q3 : 0 < Int32.ofInt x ↔ 0 < x := ltI (x := 0) inI0 hxI
  cases k with
  | eq => exact lv_if_eq hx hb hd ht (fun q => kA (by rw [am_br, if_pos (q1.mp q)] at e0; exact e0)) (fun q => kB (by rw [am_br, if_neg (fun z => q (q1.mpr z))] at e0; exact e0))
  | ne => exact lv_if_ne hx hb hd ht (fun q => kA (by rw [am_br, if_neg (fun z => q (q1.mpr z))] at e0; exact e0)) (fun q => kB (by rw [am_br, if_pos (q1.mp q)] at e0; exact e0))
  | lt => exact lv_if_lt hx hb hd ht (fun q => kA (by rw [am_br, if_pos (q2.mp q)] at e0; exact e0)) (fun q => kB (by rw [am_br, if_neg (fun z => q (q2.mpr z))] at e0; exact e0))
  | ge => exact lv_if_ge hx hb hd ht (fun q => kA (by rw [am_br, if_neg (fun z => Int32.not_lt.mpr q (q2.mpr z))] at e0; exact e0)) (fun q => kB (by rw [am_br, if_pos (q2.mp (Int32.not_le.mp q))] at e0; exact e0))
  | gt => exact lv_if_gt hx hb hd ht (fun q => kA (by rw [am_br, if_pos (q3.mp q)] at e0; exact e0)) (fun q => kB (by rw [am_br, if_neg (fun z => q (q3.mpr z))] at e0; exact e0))
  | le => exact lv_if_le hx hb hd ht (fun q => kA (by rw [am_br, if_neg (fun z => Int32.not_lt.mpr q (q3.mpr z))] at e0; exact e0)) (fun q => kB (by rw [am_br, if_pos (q3.mp (Int32.not_le.mp q))] at e0; exact e0))
theorem g_icmp (hx : p.tables.exec = Jvm.exec) (hb : c.code = cc) {k : ClassFile.Cond} {o : Int} {t : Nat} {x y : Int} (hd : decode cc pc = .ok (.if_icmp k o, 3)) (ht : (pc : Int) + o = (t : Int)) {A B : AR} {r : Int × AH} (e0 : am_br k x y A B = some r) (hA : A = some r → Gd G p l e R s mm args below meth c Q nL n0 t0 as0 t ls st h) (hB : B = some r → Gd G p l e R s mm args below meth c Q nL n0 t0 as0 (pc + 3) ls st h) : Gd G p l e R s mm args below meth c Q nL n0 t0 as0 pc ls ((0, y) :: (0, x) :: st) h := by
  intro as H locs cells slots lsA hE hR hS hL hO hc hs
  have hyI := ok0 (oks_hd hO)
  have hxI := ok0 (oks_hd (oks_tl hO))
  have kA : A = some r → W p l e R s mm args below meth c H locs cells slots Q (F0 mm t lsA (st.map (cvv G as))) := fun q => hA q as H locs cells slots lsA hE hR hS hL (oks_tl (oks_tl hO)) hc hs
  have kB : B = some r → W p l e R s mm args below meth c H locs cells slots Q (F0 mm (pc + 3) lsA (st.map (cvv G as))) := fun q => hB q as H locs cells slots lsA hE hR hS hL (oks_tl (oks_tl hO)) hc hs
  have q1 : Int32.ofInt x = Int32.ofInt y ↔ x = y := eqI hxI hyI
  have q2 : Int32.ofInt x < Int32.ofInt y ↔ x < y := ltI hxI hyI
  have q3 : Int32.ofInt y < Int32.ofInt x ↔ y < x := ltI hyI hxI
  cases k with
  | eq => exact lv_icmp_eq hx hb hd ht (fun q => kA (by rw [am_br, if_pos (q1.mp q)] at e0; exact e0)) (fun q => kB (by rw [am_br, if_neg (fun z => q (q1.mpr z))] at e0; exact e0))
  | ne => exact lv_icmp_ne hx hb hd ht (fun q => kA (by rw [am_br, if_neg (fun z => q (q1.mpr z))] at e0; exact e0)) (fun q => kB (by rw [am_br, if_pos (q1.mp q)] at e0; exact e0))
  | lt => exact lv_icmp_lt hx hb hd ht (fun q => kA (by rw [am_br, if_pos (q2.mp q)] at e0; exact e0)) (fun q => kB (by rw [am_br, if_neg (fun z => q (q2.mpr z))] at e0; exact e0))
  | ge => exact lv_icmp_ge hx hb hd ht (fun q => kA (by rw [am_br, if_neg (fun z => Int32.not_lt.mpr q (q2.mpr z))] at e0; exact e0)) (fun q => kB (by rw [am_br, if_pos (q2.mp (Int32.not_le.mp q))] at e0; exact e0))
  | gt => exact lv_icmp_gt hx hb hd ht (fun q => kA (by rw [am_br, if_pos (q3.mp q)] at e0; exact e0)) (fun q => kB (by rw [am_br, if_neg (fun z => q (q3.mpr z))] at e0; exact e0))
  | le => exact lv_icmp_le hx hb hd ht (fun q => kA (by rw [am_br, if_neg (fun z => Int32.not_lt.mpr q (q3.mpr z))] at e0; exact e0)) (fun q => kB (by rw [am_br, if_pos (q3.mp (Int32.not_le.mp q))] at e0; exact e0))
end PURE
end
section
/-! A step of the abstract machine is a step of the machine: switches, fields, arrays. -/
section HEAP
variable {p : Program} {l : Launch} {e : Env} {R : Room} {s : State} {mm : MethodId} {args : Array Value} {below : List Frame} {meth : Method} {c : Code} {Q : State → Prop}
variable {G : AG} {nL n0 t0 pc : Nat} {as0 : List Nat} {ls st : List AV} {h : AH} {cc : ByteArray}
theorem sw_inv {k : Nat → AR} {x : Int} {prs : List (Int × Nat)} {d : Nat} {r : Int × AH} (e0 : am_sw k x prs d = some r) : (∃ (j t : Nat), prs[j]? = some (x, t) ∧ k t = some r) ∨ ((∀ q ∈ prs, q.1 ≠ x) ∧ k d = some r) := by
  induction prs with
  | nil => exact Or.inr ⟨fun q hq => absurd hq List.not_mem_nil, e0⟩
  | cons a rs ih =>
    unfold am_sw at e0
    by_cases hq : x = a.1
    · rw [if_pos hq] at e0
      exact Or.inl ⟨0, a.2, by rw [hq]; rfl, e0⟩
    · rw [if_neg hq] at e0
      rcases ih e0 with ⟨j, t, h1, h2⟩ | ⟨h1, h2⟩
      · exact Or.inl ⟨j + 1, t, h1, h2⟩
      · refine Or.inr ⟨fun q hq' => ?_, h2⟩
        rcases List.mem_cons.mp hq' with rfl | z
        · exact fun z => hq z.symm
        · exact h1 q z
theorem g_tsw (hx : p.tables.exec = Jvm.exec) (hb : c.code = cc) {df lo hi : Int} {os : Array Int} {len d : Nat} {prs : List (Int × Nat)} {x : Int} {r : Int × AH} {k : Nat → AR} (hd : decode cc pc = .ok (.tableswitch df lo hi os, len))
    (h1 : (pc : Int) + df = (d : Int)) (h2 : hi = lo + (os.toList.length : Int) - 1) (h3 : prs.map Prod.fst = (List.range os.toList.length).map (fun (j : Nat) => lo + (j : Int))) (h4 : prs.map (fun q => (q.2 : Int)) = os.toList.map (fun f => (pc : Int) + f)) (e0 : am_sw k x prs d = some r)
    (hN : ∀ t, k t = some r → Gd G p l e R s mm args below meth c Q nL n0 t0 as0 t ls st h) : Gd G p l e R s mm args below meth c Q nL n0 t0 as0 pc ls ((0, x) :: st) h := by
  intro as H locs cells slots lsA hE hR hS hL hO hc hs
  have hxI := ok0 (oks_hd hO)
  have hlen : prs.length = os.toList.length := by have := congrArg List.length h3; simpa using this
  rcases sw_inv e0 with ⟨j, t, hj, hk⟩ | ⟨hno, hk⟩
  · have hjl : j < os.toList.length := by rw [← hlen]; exact (List.getElem?_eq_some_iff.mp hj).1
    have e1 : (prs.map Prod.fst)[j]? = some x := by rw [List.getElem?_map, hj]; rfl
    rw [h3, List.getElem?_map, List.getElem?_range hjl] at e1
    have e1 : lo + (j : Int) = x := by simpa using e1
    have e2 : (prs.map (fun q => (q.2 : Int)))[j]? = some (t : Int) := by rw [List.getElem?_map, hj]; rfl
    rw [h4, List.getElem?_map] at e2
    cases hf : os.toList[j]? with
    | none => rw [hf] at e2; cases e2
    | some f =>
      rw [hf] at e2
      have e2 : (pc : Int) + f = (t : Int) := by simpa using e2
      refine lv_tableIn (off := f) (tgt := t) hx hb hd ?_ ?_ ?_ e2 (hN t hk as H locs cells slots lsA hE hR hS hL (oks_tl hO) hc hs)
      · rw [toI hxI]; show ¬ x < lo; omega
      · rw [toI hxI]; show ¬ hi < x; omega
      · rw [toI hxI]
        show os[(x - lo).toNat]? = some f
        rw [show (x - lo).toNat = j by omega, ← Array.getElem?_toList]; exact hf
  · refine lv_tableOut (tgt := d) hx hb hd ?_ h1 (hN d hk as H locs cells slots lsA hE hR hS hL (oks_tl hO) hc hs)
    rw [toI hxI]
    show x < lo ∨ hi < x
    rcases Int.lt_or_le x lo with q | q
    · exact Or.inl q
    · rcases Int.lt_or_le hi x with q2 | q2
      · exact Or.inr q2
      · exfalso
        have hjl : (x - lo).toNat < os.toList.length := by omega
        have hjp : (x - lo).toNat < prs.length := by rw [hlen]; exact hjl
        have e1 : (prs.map Prod.fst)[(x - lo).toNat]? = some x := by
          rw [h3, List.getElem?_map, List.getElem?_range hjl]
          show some (lo + ((x - lo).toNat : Int)) = some x
          congr 1; omega
        rw [List.getElem?_map, List.getElem?_eq_getElem hjp] at e1
        exact hno _ (List.getElem_mem hjp) (by simpa using e1)
theorem lsw {k : Nat → AR} {x df : Int} {pc : Nat} {d : Nat} {r : Int × AH} (hdf : (pc : Int) + df = (d : Int)) : ∀ {ps : List (Int × Int)} {prs : List (Int × Nat)}, prs.map (fun q => (q.1, (q.2 : Int))) = ps.map (fun a => (a.1, (pc : Int) + a.2)) → am_sw k x prs d = some r → ∃ t : Nat, (pc : Int) + Op.lookupswitch.offset ps df x = (t : Int) ∧ k t = some r := by
  intro ps
  induction ps with
  | nil =>
    intro prs hp e0
    cases prs with
    | nil => exact ⟨d, hdf, e0⟩
    | cons a b => cases hp
  | cons a ps ih =>
    intro prs hp e0
    cases prs with
    | nil => cases hp
    | cons b prs =>
      simp only [List.map_cons, List.cons.injEq, Prod.mk.injEq] at hp
      obtain ⟨⟨p1, p2⟩, p3⟩ := hp
      unfold am_sw at e0
      rw [show a = (a.1, a.2) from rfl, Op.lookupswitch.offset_cons]
      by_cases hq : x = b.1
      · rw [if_pos hq] at e0
        rw [if_pos (by rw [← p1, hq])]
        exact ⟨b.2, p2.symm, e0⟩
      · rw [if_neg hq] at e0
        rw [if_neg (by rw [← p1]; first | exact hq | exact fun z => hq z.symm)]
        exact ih p3 e0
theorem g_lsw (hx : p.tables.exec = Jvm.exec) (hb : c.code = cc) {df : Int} {ps : Array (Int × Int)} {len d : Nat} {prs : List (Int × Nat)} {x : Int} {r : Int × AH} {k : Nat → AR} (hd : decode cc pc = .ok (.lookupswitch df ps, len))
    (h1 : (pc : Int) + df = (d : Int)) (h2 : (ps.toList.zip (ps.toList.drop 1)).all (fun (a, next) => a.1 < next.1) = true) (h4 : prs.map (fun q => (q.1, (q.2 : Int))) = ps.toList.map (fun a => (a.1, (pc : Int) + a.2))) (e0 : am_sw k x prs d = some r)
    (hN : ∀ t, k t = some r → Gd G p l e R s mm args below meth c Q nL n0 t0 as0 t ls st h) : Gd G p l e R s mm args below meth c Q nL n0 t0 as0 pc ls ((0, x) :: st) h := by
  intro as H locs cells slots lsA hE hR hS hL hO hc hs
  have hxI := ok0 (oks_hd hO)
  obtain ⟨t, ht, hk⟩ := lsw h1 h4 e0
  exact lv_lookup (tgt := t) hx hb hd h2 rfl (by rw [toI hxI]; exact ht) (hN t hk as H locs cells slots lsA hE hR hS hL (oks_tl hO) hc hs)
theorem enc_o {as : List Nat} {t : Nat} {xs : List Int} (ht : t ≤ 7) : enc G as (t, xs) = .inr (t, encF as t xs) := by
  unfold enc
  rw [if_neg (show ¬ t = 23 by omega), if_neg (show ¬ 24 ≤ t by omega), if_neg (show ¬ 20 ≤ t by omega)]
theorem encF_get {as : List Nat} {t k : Nat} {xs : List Int} {x : Int} (hx : xs[k]? = some x) : (encF as t xs)[k]? = some (hvx as (sty t k) x) := by
  have hl := (List.getElem?_eq_some_iff.mp hx).1
  unfold encF
  rw [List.getElem?_map, List.getElem?_range hl]
  simp only [Option.map_some]
  rw [gdE xs, hx]; rfl
theorem encF_set {as : List Nat} {t k : Nat} {xs : List Int} {x : Int} (hk : k < xs.length) : encF as t (xs.set k x) = (encF as t xs).set k (hvx as (sty t k) x) := by
  apply List.ext_getElem?
  intro j
  rw [List.getElem?_set]
  unfold encF
  rw [List.length_map, List.length_range, List.length_set]
  by_cases hj : k = j
  · subst hj
    rw [if_pos rfl, if_pos hk, List.getElem?_map, List.getElem?_range hk]
    simp only [Option.map_some]
    rw [gdE (xs.set k x), List.getElem?_set, if_pos rfl, if_pos hk]; rfl
  · rw [if_neg hj, List.getElem?_map, List.getElem?_map]
    by_cases hl : j < xs.length
    · rw [List.getElem?_range hl]
      simp only [Option.map_some]
      rw [gdE (xs.set k x), List.getElem?_set, if_neg hj, ← gdE]
    · rw [List.getElem?_eq_none (by rw [List.length_range]; omega)]; rfl
theorem g_getf (hx : p.tables.exec = Jvm.exec) (hb : c.code = cc) {own : String} (hown : s.vm.findClass own = some mm.cls) (hts : ∀ w ∈ WSg, w.before args s = true) {a0 a1 : Nat} (hK : KS G a0 a1 s) {i t k : Nat} {a x : Int} {xs : List Int} {v : AV} (hd : decode cc pc = .ok (.getfield i, 3)) (ht : t ≤ 7) (hk : k < cF t)
    (hlk : (Cond.fieldLink own i (cN t) (cT t k).2.1 (cT t k).2.2.1).before args s = true ∨ (Cond.fieldLinkNest own i (cN t) (cT t k).2.1 (cT t k).2.2.1 RX7).before args s = true) (h0 : 0 ≤ a) (hc0 : h[a.toNat]? = some (t, xs)) (hx0 : xs[k]? = some x)
    (hv : ∀ as, hvx as (sty t k) x = cvv G as v) (hvo : (okx (tgs h) (sty t k) x) → okv (tgs h) v) (hN : Gd G p l e R s mm args below meth c Q nL n0 t0 as0 (pc + 3) ls (v :: st) h) : Gd G p l e R s mm args below meth c Q nL n0 t0 as0 pc ls ((100 + t, a) :: st) h := by
  intro as H locs cells slots lsA hE hR hS hL hO hc hs
  have h2 := hR.at2 hc0 (by omega)
  have he := wd_get (G := G) (as := as) h2 hc0
  rw [enc_o ht] at he
  have hok := (hR.2.2.2.2.1 _ _ h2 hc0).2 k x hx0
  have hfv := encF_get (as := as) (t := t) hx0
  rw [hv as] at hfv
  have hkk := hN as H locs cells slots lsA hE hR hS hL (oks_cons (hvo hok) (oks_tl hO)) hc hs
  rw [List.map_cons, cvR G as (by omega)]
  have hsm : ∀ z, s.fieldFound? (cT t k).1 (cT t k).2.1 (cT t k).2.2.1 = some z → s.fieldFound? (cN t) (cT t k).2.1 (cT t k).2.2.1 = some z := fun z hz => by rw [dclOK ht k hk] at hz; exact hz
  rcases hlk with q | q
  · exact va_get hx hb hts (wsIn ht) hown hK.1 hR.2.2.2.2.2.1 (a.toNat - 2) he (clA_at ht) k hk q hsm hfv hd hkk
  · exact va_getN hx hb hts (wsIn ht) hown hK.1 hR.2.2.2.2.2.1 (a.toNat - 2) he (clA_at ht) k hk q hsm hfv hd hkk
theorem g_putf (hx : p.tables.exec = Jvm.exec) (hb : c.code = cc) {own : String} (hown : s.vm.findClass own = some mm.cls) (hts : ∀ w ∈ WSg, w.before args s = true) {a0 a1 : Nat} (hK : KS G a0 a1 s) {i t k : Nat} {a : Int} {xs : List Int} {v : AV} (hd : decode cc pc = .ok (.putfield i, 3)) (ht : t ≤ 7) (hk : k < cF t)
    (hlk : ((Cond.fieldLink own i (cN t) (cT t k).2.1 (cT t k).2.2.1).before args s = true ∧ ((cT t k).2.2.2 = false ∨ (meth.name = "<init>" ∧ cN t = own))) ∨ ((Cond.fieldLinkNest own i (cN t) (cT t k).2.1 (cT t k).2.2.1 RX7).before args s = true ∧ (cT t k).2.2.2 = false)) (h0 : 0 ≤ a) (hc0 : h[a.toNat]? = some (t, xs)) (hkx : k < xs.length)
    (hv : ∀ as, hvx as (sty t k) v.2 = cvv G as v) (hvo : okv (tgs h) v → okx (tgs h) (sty t k) v.2) (hnf : ∀ as, narrow (cTy t k) (cvv G as v) = cvv G as v ∧ fits (cTy t k) (cvv G as v) = true) (hN : Gd G p l e R s mm args below meth c Q nL n0 t0 as0 (pc + 3) ls st (h.set a.toNat (t, xs.set k v.2))) : Gd G p l e R s mm args below meth c Q nL n0 t0 as0 pc ls (v :: (100 + t, a) :: st) h := by
  intro as H locs cells slots lsA hE hR hS hL hO hc hs
  have h2 := hR.at2 hc0 (by omega)
  have he := wd_get (G := G) (as := as) h2 hc0
  rw [enc_o ht] at he
  have hoc := hR.2.2.2.2.1 _ _ h2 hc0
  have htg := tgs_set (ys := xs.set k v.2) hc0
  have hoc' : okc (tgs h) (t, xs.set k v.2) := by
    refine ⟨?_, fun j x hj => ?_⟩
    · rcases hoc.1 with ⟨q1, q2⟩ | q
      · exact Or.inl ⟨q1, by rw [List.length_set]; exact q2⟩
      · exact Or.inr q
    · have hj : (xs.set k v.2)[j]? = some x := hj
      rw [List.getElem?_set] at hj
      by_cases e1 : k = j
      · subst e1
        rw [if_pos rfl, if_pos hkx] at hj
        cases hj
        exact hvo (oks_hd hO)
      · rw [if_neg e1] at hj; exact hoc.2 j x hj
  have hkk : ∀ (H1 : Heap) (locs1 : List Loc), va_P (gD G) clA ((wd G as h).set (a.toNat - 2) (as.getD a.toNat 0, .inr (t, (encF as t xs).set k (cvv G as v)))) H1 → va_D (gA G) ((wd G as h).set (a.toNat - 2) (as.getD a.toNat 0, .inr (t, (encF as t xs).set k (cvv G as v)))) → va_S (gA G) s.heap H1 locs1 → W p l e R s mm args below meth c H1 locs1 cells slots Q (F0 mm (pc + 3) lsA (st.map (cvv G as))) := by
    intro H1 locs1 hP1 hD1 hS1
    rw [← hv as, ← encF_set hkx, ← enc_o ht] at hP1 hD1
    refine hN as H1 locs1 cells slots lsA hE (hR.set h2 hc0 hoc' hP1 hD1) hS1 (by rw [htg]; exact hL) (by rw [htg]; exact oks_tl (oks_tl hO)) (by rw [List.length_set]; exact hc) (by rw [tot_set hc0 (by rw [List.length_set])]; exact hs)
  rw [List.map_cons, List.map_cons, cvR G as (show 100 ≤ 100 + t by omega)]
  have hsm : ∀ z, s.fieldFound? (cT t k).1 (cT t k).2.1 (cT t k).2.2.1 = some z → s.fieldFound? (cN t) (cT t k).2.1 (cT t k).2.2.1 = some z := fun z hz => by rw [dclOK ht k hk] at hz; exact hz
  have hfl : k < (encF as t xs).length := by unfold encF; rw [List.length_map, List.length_range]; exact hkx
  rcases hlk with ⟨q, qf⟩ | ⟨q, qf⟩
  · cases hfb : (cT t k).2.2.2 with
    | false => exact va_put hx hb hts (wsIn ht) (cTy t) (tyOK ht) (nmOK ht) hown hK.1 hR.2.2.2.2.2.1 hR.2.2.2.2.2.2 hS (a.toNat - 2) he (clA_at ht) k hk q hsm hfb (tyOK ht k hk) (hnf as).1 (hnf as).2 hfl hd hkk
    | true =>
      rcases qf with z | ⟨z1, z2⟩
      · rw [hfb] at z; cases z
      · exact va_putF hx hb hts (wsIn ht) (cTy t) (tyOK ht) (nmOK ht) hown hK.1 hR.2.2.2.2.2.1 hR.2.2.2.2.2.2 hS (a.toNat - 2) he (clA_at ht) k hk q hsm hfb z1 ((dclOK ht k hk).trans z2) (tyOK ht k hk) (hnf as).1 (hnf as).2 hfl hd hkk
  · exact va_putN hx hb hts (wsIn ht) (cTy t) (tyOK ht) (nmOK ht) hown hK.1 hR.2.2.2.2.2.1 hR.2.2.2.2.2.2 hS (a.toNat - 2) he (clA_at ht) k hk q hsm qf (tyOK ht k hk) (hnf as).1 (hnf as).2 hfl hd hkk
theorem g_getst (hx : p.tables.exec = Jvm.exec) (hb : c.code = cc) {own : String} (hown : s.vm.findClass own = some mm.cls) {a0 : Nat} (hK : KS G a0 (as0.getD 1 0) s) (hl0 : 2 ≤ as0.length) {i : Nat} (hd : decode cc pc = .ok (.getstatic i, 3)) (hlk : (Cond.fieldLink own i "SownSeeds$Kind" "OVER" "[I").before args s = true)
    (hN : Gd G p l e R s mm args below meth c Q nL n0 t0 as0 (pc + 3) ls ((126, 1) :: st) h) : Gd G p l e R s mm args below meth c Q nL n0 t0 as0 pc ls st h := by
  intro as H locs cells slots lsA hE hR hS hL hO hc hs
  have hok : okv (tgs h) (126, 1) := Or.inr (Or.inr (Or.inr ⟨show 100 ≤ 126 by omega, show (0 : Int) ≤ 1 by omega, at_tg hR.2.2.2.1⟩))
  have hkk := hN as H locs cells slots lsA hE hR hS hL (oks_cons hok hO) hc hs
  rw [List.map_cons, cvR G as (by omega)] at hkk
  obtain ⟨ex, rfl⟩ := hE
  have : adr (as0 ++ ex) 1 = as0.getD 1 0 := adr_ext ex (show 1 < as0.length by omega)
  rw [this] at hkk
  exact va_gets hx hb hK.2.2.2.1 hS hown hlk (fun z hz => hz) hd hkk
/-- an int[] that is only read -/
theorem g_ro (hx : p.tables.exec = Jvm.exec) (hb : c.code = cc) {N : Nat} {f : Nat → Int} {ad : Nat} (hT : va_T .int ad N (fun j => .int (Int32.ofInt (f j))) (gA G) s s.heap) {H : Heap} {locs : List Loc} {cells slots : Nat} {lsA : Array Slot} {rest : List Value} (hS : va_S (gA G) s.heap H locs) {i : Int} (hiI : inI i) (hi : 0 ≤ i) (hn : i.toNat < N) (hd : decode cc pc = .ok (.iaload, 1))
    (kk : W p l e R s mm args below meth c H locs cells slots Q (F0 mm (pc + 1) lsA (.int (Int32.ofInt (f i.toNat)) :: rest))) : W p l e R s mm args below meth c H locs cells slots Q (F0 mm pc lsA (.int (Int32.ofInt i) :: .ref ad :: rest)) := by
  obtain ⟨cell, h1, h2, h3, h4, h5, h6, h7⟩ := hT
  refine W.iald (v := .int (Int32.ofInt (f i.toNat))) hx hb (by rw [hS.2.1 ad (Array.getElem?_eq_some_iff.mp h1).1 h7]; exact h1) h2 h3 ?_ ?_ rfl rfl hd kk
  · rw [ngI hiI, clI hiI]; omega
  · rw [clI hiI]; exact h6 _ hn
theorem g_iald (hx : p.tables.exec = Jvm.exec) (hb : c.code = cc) {a0 a1 : Nat} (hK : KS G a0 a1 s) {a i x : Int} {xs : List Int} (hd : decode cc pc = .ok (.iaload, 1)) (h0 : 0 ≤ a) (hc0 : h[a.toNat]? = some (20, xs)) (hi : 0 ≤ i) (hx0 : xs[i.toNat]? = some x) (hN : Gd G p l e R s mm args below meth c Q nL n0 t0 as0 (pc + 1) ls ((0, x) :: st) h) : Gd G p l e R s mm args below meth c Q nL n0 t0 as0 pc ls ((0, i) :: (120, a) :: st) h := by
  intro as H locs cells slots lsA hE hR hS hL hO hc hs
  have h2 := hR.at2 hc0 (by omega)
  have he : (wd G as h)[a.toNat - 2]? = some (as.getD a.toNat 0, .inl (gC G 20, xs.length, .inl (fun j => Int32.ofInt (xs.getD j 0)))) := wd_get (G := G) (as := as) h2 hc0
  have hok := (hR.2.2.2.2.1 _ _ h2 hc0).2 _ x hx0
  have hiI := ok0 (oks_hd hO)
  have hkk := hN as H locs cells slots lsA hE hR hS hL (oks_cons (ok0I (hok.1 rfl)) (oks_tl (oks_tl hO))) hc hs
  rw [List.map_cons, List.map_cons, cvR G as (show 100 ≤ 120 by omega), cv0]
  refine va_iald hx hb hK.1 hR.2.2.2.2.2.1 (a.toNat - 2) 0 he rfl (vin hiI hi (List.getElem?_eq_some_iff.mp hx0).1) hd ?_
  rw [clI hiI, gdE xs, hx0]; exact hkk
theorem g_zald (hx : p.tables.exec = Jvm.exec) (hb : c.code = cc) {a0 a1 : Nat} (hK : KS G a0 a1 s) {a i x : Int} {xs : List Int} (hd : decode cc pc = .ok (.baload, 1)) (h0 : 0 ≤ a) (hc0 : h[a.toNat]? = some (21, xs)) (hi : 0 ≤ i) (hx0 : xs[i.toNat]? = some x) (hN : Gd G p l e R s mm args below meth c Q nL n0 t0 as0 (pc + 1) ls ((0, x) :: st) h) : Gd G p l e R s mm args below meth c Q nL n0 t0 as0 pc ls ((0, i) :: (121, a) :: st) h := by
  intro as H locs cells slots lsA hE hR hS hL hO hc hs
  have h2 := hR.at2 hc0 (by omega)
  have he : (wd G as h)[a.toNat - 2]? = some (as.getD a.toNat 0, .inl (gC G 21, xs.length, .inl (fun j => Int32.ofInt (xs.getD j 0)))) := wd_get (G := G) (as := as) h2 hc0
  have hok := (hR.2.2.2.2.1 _ _ h2 hc0).2 _ x hx0
  have hiI := ok0 (oks_hd hO)
  have hkk := hN as H locs cells slots lsA hE hR hS hL (oks_cons (ok0I (hok.1 rfl)) (oks_tl (oks_tl hO))) hc hs
  rw [List.map_cons, List.map_cons, cvR G as (show 100 ≤ 121 by omega), cv0]
  refine va_zald hx hb hK.1 hR.2.2.2.2.2.1 (a.toNat - 2) 1 he rfl (vin hiI hi (List.getElem?_eq_some_iff.mp hx0).1) hd ?_
  rw [clI hiI, gdE xs, hx0]; exact hkk
theorem g_cald (hx : p.tables.exec = Jvm.exec) (hb : c.code = cc) {a0 a1 : Nat} (hK : KS G a0 a1 s) {a i x : Int} {xs : List Int} (hd : decode cc pc = .ok (.caload, 1)) (h0 : 0 ≤ a) (hc0 : h[a.toNat]? = some (22, xs)) (hi : 0 ≤ i) (hx0 : xs[i.toNat]? = some x) (hN : Gd G p l e R s mm args below meth c Q nL n0 t0 as0 (pc + 1) ls ((0, x) :: st) h) : Gd G p l e R s mm args below meth c Q nL n0 t0 as0 pc ls ((0, i) :: (122, a) :: st) h := by
  intro as H locs cells slots lsA hE hR hS hL hO hc hs
  have h2 := hR.at2 hc0 (by omega)
  have he : (wd G as h)[a.toNat - 2]? = some (as.getD a.toNat 0, .inl (gC G 22, xs.length, .inl (fun j => Int32.ofInt (xs.getD j 0)))) := wd_get (G := G) (as := as) h2 hc0
  have hok := (hR.2.2.2.2.1 _ _ h2 hc0).2 _ x hx0
  have hiI := ok0 (oks_hd hO)
  have hkk := hN as H locs cells slots lsA hE hR hS hL (oks_cons (ok0I (hok.1 rfl)) (oks_tl (oks_tl hO))) hc hs
  rw [List.map_cons, List.map_cons, cvR G as (show 100 ≤ 122 by omega), cv0]
  refine va_cald hx hb hK.1 hR.2.2.2.2.2.1 (a.toNat - 2) 2 he rfl (vin hiI hi (List.getElem?_eq_some_iff.mp hx0).1) hd ?_
  rw [clI hiI, gdE xs, hx0]; exact hkk
theorem g_lald (hx : p.tables.exec = Jvm.exec) (hb : c.code = cc) {a0 a1 : Nat} (hK : KS G a0 a1 s) {a i x : Int} {xs : List Int} (hd : decode cc pc = .ok (.laload, 1)) (h0 : 0 ≤ a) (hc0 : h[a.toNat]? = some (23, xs)) (hi : 0 ≤ i) (hx0 : xs[i.toNat]? = some x) (hN : Gd G p l e R s mm args below meth c Q nL n0 t0 as0 (pc + 1) ls ((2, x) :: st) h) : Gd G p l e R s mm args below meth c Q nL n0 t0 as0 pc ls ((0, i) :: (123, a) :: st) h := by
  intro as H locs cells slots lsA hE hR hS hL hO hc hs
  have h2 := hR.at2 hc0 (by omega)
  have he : (wd G as h)[a.toNat - 2]? = some (as.getD a.toNat 0, .inl (gC G 23, xs.length, .inr (.inl (fun j => Int64.ofInt (xs.getD j 0))))) := wd_get (G := G) (as := as) h2 hc0
  have hok := (hR.2.2.2.2.1 _ _ h2 hc0).2 _ x hx0
  have hiI := ok0 (oks_hd hO)
  have hkk := hN as H locs cells slots lsA hE hR hS hL (oks_cons (ok2L (hok.2.1 rfl)) (oks_tl (oks_tl hO))) hc hs
  rw [List.map_cons, List.map_cons, cvR G as (show 100 ≤ 123 by omega), cv0]
  refine va_lald hx hb hK.1 hR.2.2.2.2.2.1 (a.toNat - 2) 3 he rfl (vin hiI hi (List.getElem?_eq_some_iff.mp hx0).1) hd ?_
  rw [clI hiI, gdE xs, hx0]; exact hkk
theorem g_aald (hx : p.tables.exec = Jvm.exec) (hb : c.code = cc) {a0 a1 : Nat} (hK : KS G a0 a1 s) {t t0' : Nat} {C : String} (ht : (t = 24 ∧ t0' = 4 ∧ C = RX0) ∨ (t = 25 ∧ t0' = 5 ∧ C = RX1)) {a i x : Int} {xs : List Int} (hd : decode cc pc = .ok (.aaload, 1)) (h0 : 0 ≤ a) (hc0 : h[a.toNat]? = some (t, xs)) (hi : 0 ≤ i) (hx0 : xs[i.toNat]? = some x) (hx1 : 0 ≤ x) (hN : Gd G p l e R s mm args below meth c Q nL n0 t0 as0 (pc + 1) ls ((t + 76, x) :: st) h) : Gd G p l e R s mm args below meth c Q nL n0 t0 as0 pc ls ((0, i) :: (100 + t, a) :: st) h := by
  intro as H locs cells slots lsA hE hR hS hL hO hc hs
  have h2 := hR.at2 hc0 (by omega)
  have he : (wd G as h)[a.toNat - 2]? = some (as.getD a.toNat 0, .inl (gC G t, xs.length, .inr (.inr (.inr (.inr (fun j => hro as (xs.getD j (-1)))))))) := by
    have := wd_get (G := G) (as := as) h2 hc0
    rw [this]
    unfold enc
    rw [if_neg (show ¬ t = 23 by omega), if_pos (show 24 ≤ t by omega)]
  have hok := (hR.2.2.2.2.1 _ _ h2 hc0).2 _ x hx0
  have hst : sty t i.toNat = t + 76 := by
    unfold sty
    rcases ht with ⟨rfl, -⟩ | ⟨rfl, -⟩ <;> simp
  have hov : okv (tgs h) (t + 76, x) := by
    have := hok.2.2 (by show 100 ≤ sty t i.toNat; rw [hst]; omega) hx1
    refine Or.inr (Or.inr (Or.inr ⟨show 100 ≤ t + 76 by omega, hx1, ?_⟩))
    rw [this]; show some (sty t i.toNat - 100) = _; rw [hst]
  have hiI := ok0 (oks_hd hO)
  have hkk := hN as H locs cells slots lsA hE hR hS hL (oks_cons hov (oks_tl (oks_tl hO))) hc hs
  rw [List.map_cons, cvR G as (show 100 ≤ t + 76 by omega)] at hkk
  rw [List.map_cons, List.map_cons, cvR G as (show 100 ≤ 100 + t by omega), cv0]
  have htt : (tyA G)[t0']? = some (gC G t, .object C) := by rcases ht with ⟨rfl, rfl, rfl⟩ | ⟨rfl, rfl, rfl⟩ <;> rfl
  refine va_aldq hx hb hK.1 hR.2.2.2.2.2.1 (a.toNat - 2) t0' he htt (vin hiI hi (List.getElem?_eq_some_iff.mp hx0).1) hd ?_
  rw [clI hiI, gdE xs, hx0]
  show W _ _ _ _ _ _ _ _ _ _ _ _ _ _ _ (F0 mm (pc + 1) lsA (va_rf (hro as x) :: _))
  unfold hro
  rw [if_neg (by omega)]
  exact hkk
theorem g_alen (hx : p.tables.exec = Jvm.exec) (hb : c.code = cc) (hK : KS G (as0.getD 0 0) (as0.getD 1 0) s) (hl0 : 2 ≤ as0.length) {a : Int} {xs : List Int} (hd : decode cc pc = .ok (.arraylength, 1)) (h0 : 0 ≤ a) (hc0 : h[a.toNat]? = some (26, xs)) (hN : Gd G p l e R s mm args below meth c Q nL n0 t0 as0 (pc + 1) ls ((0, Int.ofNat xs.length) :: st) h) : Gd G p l e R s mm args below meth c Q nL n0 t0 as0 pc ls ((126, a) :: st) h := by
  intro as H locs cells slots lsA hE hR hS hL hO hc hs
  have key : (a.toNat = 0 ∧ xs = gS G) ∨ (a.toNat = 1 ∧ xs = ovr) := by
    obtain ⟨-, -, h3, h4, h5, -⟩ := hR
    rcases Nat.lt_or_ge a.toNat 2 with q | q
    · rcases (show a.toNat = 0 ∨ a.toNat = 1 by omega) with z | z
      · rw [z, h3] at hc0; cases hc0; exact Or.inl ⟨z, rfl⟩
      · rw [z, h4] at hc0; cases hc0; exact Or.inr ⟨z, rfl⟩
    · rcases (h5 _ _ q hc0).1 with z | z <;> omega
  have hlen : xs.length < 2 ^ 31 := by
    rcases key with ⟨-, rfl⟩ | ⟨-, rfl⟩
    · exact hK.2.2.2.2.2.2.2.2.2.2.2.2.1
    · decide
  have hkk := hN as H locs cells slots lsA hE hR hS hL (oks_cons (ok0I ⟨by show _ ≤ (xs.length : Int); omega, by show (xs.length : Int) < _; omega⟩) (oks_tl hO)) hc hs
  rw [List.map_cons, cvR G as (show 100 ≤ 126 by omega)]
  obtain ⟨ex, rfl⟩ := hE
  have hT : va_T .int (adr (as0 ++ ex) a) xs.length (fun j => .int (Int32.ofInt (xs.getD j 0))) (gA G) s s.heap := by
    rcases key with ⟨z, rfl⟩ | ⟨z, rfl⟩
    · rw [adr_ext ex (by omega)]; unfold adr; rw [z]; exact hK.2.1
    · rw [adr_ext ex (by omega)]; unfold adr; rw [z]; exact hK.2.2.1
  obtain ⟨cell, h1, h2, h3, h4, h5, h6, h7⟩ := hT
  exact W.alen (n := Int32.ofNat xs.length) hx hb (by rw [hS.2.1 _ (Array.getElem?_eq_some_iff.mp h1).1 h7]; exact h1) h2 h5 rfl rfl hd hkk
theorem g_ialdR (hx : p.tables.exec = Jvm.exec) (hb : c.code = cc) (hK : KS G (as0.getD 0 0) (as0.getD 1 0) s) (hl0 : 2 ≤ as0.length) {a i x : Int} {xs : List Int} (hd : decode cc pc = .ok (.iaload, 1)) (h0 : 0 ≤ a) (hc0 : h[a.toNat]? = some (26, xs)) (hi : 0 ≤ i) (hx0 : xs[i.toNat]? = some x) (hN : Gd G p l e R s mm args below meth c Q nL n0 t0 as0 (pc + 1) ls ((0, x) :: st) h) : Gd G p l e R s mm args below meth c Q nL n0 t0 as0 pc ls ((0, i) :: (126, a) :: st) h := by
  intro as H locs cells slots lsA hE hR hS hL hO hc hs
  have key : (a.toNat = 0 ∧ xs = gS G) ∨ (a.toNat = 1 ∧ xs = ovr) := by
    obtain ⟨-, -, h3, h4, h5, -⟩ := hR
    rcases Nat.lt_or_ge a.toNat 2 with q | q
    · rcases (show a.toNat = 0 ∨ a.toNat = 1 by omega) with z | z
      · rw [z, h3] at hc0; cases hc0; exact Or.inl ⟨z, rfl⟩
      · rw [z, h4] at hc0; cases hc0; exact Or.inr ⟨z, rfl⟩
    · rcases (h5 _ _ q hc0).1 with z | z <;> omega
  have hxI : inI x := by
    have hm := List.mem_of_getElem? hx0
    rcases key with ⟨-, rfl⟩ | ⟨-, rfl⟩
    · exact hK.2.2.2.2.2.2.2.2.2.2.2.2.2.1 x hm
    · simp only [ovr, List.mem_cons, List.not_mem_nil, or_false] at hm
      rcases hm with rfl | rfl | rfl | rfl | rfl <;> exact ⟨by omega, by omega⟩
  have hiI := ok0 (oks_hd hO)
  have hkk := hN as H locs cells slots lsA hE hR hS hL (oks_cons (ok0I hxI) (oks_tl (oks_tl hO))) hc hs
  rw [List.map_cons, List.map_cons, cvR G as (show 100 ≤ 126 by omega), cv0]
  obtain ⟨ex, rfl⟩ := hE
  have hT : va_T .int (adr (as0 ++ ex) a) xs.length (fun j => .int (Int32.ofInt (xs.getD j 0))) (gA G) s s.heap := by
    rcases key with ⟨z, rfl⟩ | ⟨z, rfl⟩
    · rw [adr_ext ex (by omega)]; unfold adr; rw [z]; exact hK.2.1
    · rw [adr_ext ex (by omega)]; unfold adr; rw [z]; exact hK.2.2.1
  refine g_ro hx hb hT hS hiI hi (List.getElem?_eq_some_iff.mp hx0).1 hd ?_
  rw [gdE xs, hx0]; exact hkk
end HEAP
end
section
/-! A step of the abstract machine is a step of the machine: stores, new cells, the JDK's own. -/
section STORE
variable {p : Program} {l : Launch} {e : Env} {R : Room} {s : State} {mm : MethodId} {args : Array Value} {below : List Frame} {meth : Method} {c : Code} {Q : State → Prop}
variable {G : AG} {nL n0 t0 pc : Nat} {as0 : List Nat} {ls st : List AV} {h : AH} {cc : ByteArray}
theorem okc_set {tg : List Nat} {t k : Nat} {xs : List Int} {x : Int} (ho : okc tg (t, xs)) (hx : okx tg (sty t k) x) (hk : k < xs.length) : okc tg (t, xs.set k x) := by
  refine ⟨?_, fun j y hj => ?_⟩
  · rcases ho.1 with ⟨q1, q2⟩ | q
    · exact Or.inl ⟨q1, by rw [List.length_set]; exact q2⟩
    · exact Or.inr q
  · have hj : (xs.set k x)[j]? = some y := hj
    rw [List.getElem?_set] at hj
    by_cases e1 : k = j
    · subst e1
      rw [if_pos rfl, if_pos hk] at hj
      cases hj
      exact hx
    · rw [if_neg e1] at hj; exact ho.2 j y hj
theorem getD_set {xs : List Int} {n j : Nat} {v d : Int} (hn : n < xs.length) : (xs.set n v).getD j d = if j = n then v else xs.getD j d := by
  rw [gdE (xs.set n v), List.getElem?_set]
  by_cases q : n = j
  · subst q; rw [if_pos rfl, if_pos rfl, if_pos hn]; rfl
  · rw [if_neg q, if_neg (fun z => q z.symm), ← gdE]
theorem updE {xs : List Int} {n : Nat} {v : Int} (hn : n < xs.length) : (fun j => Int32.ofInt ((xs.set n v).getD j 0)) = upd (fun j => Int32.ofInt (xs.getD j 0)) n (Int32.ofInt v) := by
  funext j
  rw [getD_set hn]
  unfold upd
  by_cases q : j = n
  · rw [if_pos q, if_pos q]
  · rw [if_neg q, if_neg q]
theorem updL {xs : List Int} {n : Nat} {v : Int} (hn : n < xs.length) : (fun j => Int64.ofInt ((xs.set n v).getD j 0)) = vp_updL (fun j => Int64.ofInt (xs.getD j 0)) n (Int64.ofInt v) := by
  funext j
  rw [getD_set hn]
  unfold vp_updL
  by_cases q : j = n
  · rw [if_pos q, if_pos q]
  · rw [if_neg q, if_neg q]
theorem updR {as : List Nat} {xs : List Int} {n : Nat} {v : Int} (hn : n < xs.length) (hv : 0 ≤ v) : (fun j => hro as ((xs.set n v).getD j (-1))) = va_up (fun j => hro as (xs.getD j (-1))) n (some (adr as v)) := by
  funext j
  rw [getD_set hn]
  unfold va_up
  by_cases q : j = n
  · rw [if_pos q, if_pos q]; unfold hro; rw [if_neg (by omega)]
  · rw [if_neg q, if_neg q]
/-- behind a store -/
theorem g_put {t k : Nat} {xs : List Int} {x : Int} {a : Int} {st' : List AV} {pc' : Nat} (hN : Gd G p l e R s mm args below meth c Q nL n0 t0 as0 pc' ls st' (h.set a.toNat (t, xs.set k x))) (hc0 : h[a.toNat]? = some (t, xs)) (hk : k < xs.length) (ht : t ≠ 26)
    {as : List Nat} {H : Heap} {cells slots : Nat} {lsA : Array Slot} (hE : ∃ ex, as = as0 ++ ex) (hR : RelP G as h H) (hL : LsR G as (tgs h) ls lsA nL) (hO : ∀ v ∈ st', okv (tgs h) v) (hc : cells + n0 = h.length) (hs : slots + t0 = tot h) (hx : okx (tgs h) (sty t k) x)
    (H1 : Heap) (locs1 : List Loc) (hP1 : va_P (gD G) clA ((wd G as h).set (a.toNat - 2) (as.getD a.toNat 0, enc G as (t, xs.set k x))) H1) (hD1 : va_D (gA G) ((wd G as h).set (a.toNat - 2) (as.getD a.toNat 0, enc G as (t, xs.set k x)))) (hS1 : va_S (gA G) s.heap H1 locs1) : W p l e R s mm args below meth c H1 locs1 cells slots Q (F0 mm pc' lsA (st'.map (cvv G as))) := by
  have h2 := hR.at2 hc0 ht
  have htg := tgs_set (ys := xs.set k x) hc0
  exact hN as H1 locs1 cells slots lsA hE (hR.set h2 hc0 (okc_set (hR.2.2.2.2.1 _ _ h2 hc0) hx hk) hP1 hD1) hS1 (by rw [htg]; exact hL) (by rw [htg]; exact hO) (by rw [List.length_set]; exact hc) (by rw [tot_set hc0 (by rw [List.length_set])]; exact hs)
theorem g_iast (hx : p.tables.exec = Jvm.exec) (hb : c.code = cc) {a0 a1 : Nat} (hK : KS G a0 a1 s) {a i x : Int} {xs : List Int} (hd : decode cc pc = .ok (.iastore, 1)) (h0 : 0 ≤ a) (hc0 : h[a.toNat]? = some (20, xs)) (hi : 0 ≤ i) (hil : i.toNat < xs.length) (hN : Gd G p l e R s mm args below meth c Q nL n0 t0 as0 (pc + 1) ls st (h.set a.toNat (20, xs.set i.toNat x))) : Gd G p l e R s mm args below meth c Q nL n0 t0 as0 pc ls ((0, x) :: (0, i) :: (120, a) :: st) h := by
  intro as H locs cells slots lsA hE hR hS hL hO hc hs
  have h2 := hR.at2 hc0 (by omega)
  have he : (wd G as h)[a.toNat - 2]? = some (as.getD a.toNat 0, .inl (gC G 20, xs.length, .inl (fun j => Int32.ofInt (xs.getD j 0)))) := wd_get (G := G) (as := as) h2 hc0
  have hiI := ok0 (oks_hd (oks_tl hO))
  rw [List.map_cons, List.map_cons, List.map_cons, cvR G as (show 100 ≤ 120 by omega), cv0, cv0]
  refine va_iast hx hb hK.1 hR.2.2.2.2.2.1 hR.2.2.2.2.2.2 hS (a.toNat - 2) 0 he rfl (vin hiI hi hil) hd (fun H1 locs1 hP1 hD1 hS1 => ?_)
  refine g_put hN hc0 hil (by omega) hE hR hL (oks_tl (oks_tl (oks_tl hO))) hc hs (⟨fun _ => ok0 (oks_hd hO), fun q => absurd q (show ¬ _ by simp [sty]), fun q => absurd q (show ¬ _ by simp [sty])⟩) H1 locs1 ?_ ?_ hS1
  · have hq : enc G as (20, xs.set i.toNat x) = .inl (gC G 20, xs.length, .inl (upd (fun j => Int32.ofInt (xs.getD j 0)) i.toNat (Int32.ofInt x))) := by
      show (Sum.inl (gC G 20, (xs.set i.toNat x).length, .inl (fun j => Int32.ofInt ((xs.set i.toNat x).getD j 0))) : va_E) = _
      rw [List.length_set, updE hil]
    rw [hq, ← clI hiI]; exact hP1
  · have hq : enc G as (20, xs.set i.toNat x) = .inl (gC G 20, xs.length, .inl (upd (fun j => Int32.ofInt (xs.getD j 0)) i.toNat (Int32.ofInt x))) := by
      show (Sum.inl (gC G 20, (xs.set i.toNat x).length, .inl (fun j => Int32.ofInt ((xs.set i.toNat x).getD j 0))) : va_E) = _
      rw [List.length_set, updE hil]
    rw [hq, ← clI hiI]; exact hD1
theorem g_zast (hx : p.tables.exec = Jvm.exec) (hb : c.code = cc) {a0 a1 : Nat} (hK : KS G a0 a1 s) {a i x : Int} {xs : List Int} (hd : decode cc pc = .ok (.bastore, 1)) (h0 : 0 ≤ a) (hc0 : h[a.toNat]? = some (21, xs)) (hi : 0 ≤ i) (hil : i.toNat < xs.length) (hv : x = 0 ∨ x = 1) (hN : Gd G p l e R s mm args below meth c Q nL n0 t0 as0 (pc + 1) ls st (h.set a.toNat (21, xs.set i.toNat x))) : Gd G p l e R s mm args below meth c Q nL n0 t0 as0 pc ls ((0, x) :: (0, i) :: (121, a) :: st) h := by
  intro as H locs cells slots lsA hE hR hS hL hO hc hs
  have h2 := hR.at2 hc0 (by omega)
  have he : (wd G as h)[a.toNat - 2]? = some (as.getD a.toNat 0, .inl (gC G 21, xs.length, .inl (fun j => Int32.ofInt (xs.getD j 0)))) := wd_get (G := G) (as := as) h2 hc0
  have hiI := ok0 (oks_hd (oks_tl hO))
  rw [List.map_cons, List.map_cons, List.map_cons, cvR G as (show 100 ≤ 121 by omega), cv0, cv0]
  refine va_zast hx hb hK.1 hR.2.2.2.2.2.1 hR.2.2.2.2.2.2 hS (a.toNat - 2) 1 he rfl (vin hiI hi hil) hd (fun H1 locs1 hP1 hD1 hS1 => ?_)
  refine g_put hN hc0 hil (by omega) hE hR hL (oks_tl (oks_tl (oks_tl hO))) hc hs (⟨fun _ => ok0 (oks_hd hO), fun q => absurd q (show ¬ _ by simp [sty]), fun q => absurd q (show ¬ _ by simp [sty])⟩) H1 locs1 ?_ ?_ hS1
  · have hq : enc G as (21, xs.set i.toNat x) = .inl (gC G 21, xs.length, .inl (upd (fun j => Int32.ofInt (xs.getD j 0)) i.toNat (vp_nar .boolean (Int32.ofInt x)))) := by
      show (Sum.inl (gC G 21, (xs.set i.toNat x).length, .inl (fun j => Int32.ofInt ((xs.set i.toNat x).getD j 0))) : va_E) = _
      rw [List.length_set, updE hil]
      rw [show vp_nar .boolean (Int32.ofInt x) = Int32.ofInt x by rcases hv with rfl | rfl <;> rfl]
    rw [hq, ← clI hiI]; exact hP1
  · have hq : enc G as (21, xs.set i.toNat x) = .inl (gC G 21, xs.length, .inl (upd (fun j => Int32.ofInt (xs.getD j 0)) i.toNat (vp_nar .boolean (Int32.ofInt x)))) := by
      show (Sum.inl (gC G 21, (xs.set i.toNat x).length, .inl (fun j => Int32.ofInt ((xs.set i.toNat x).getD j 0))) : va_E) = _
      rw [List.length_set, updE hil]
      rw [show vp_nar .boolean (Int32.ofInt x) = Int32.ofInt x by rcases hv with rfl | rfl <;> rfl]
    rw [hq, ← clI hiI]; exact hD1
theorem nar_c {x : Int} (hv : 0 ≤ x ∧ x < 65536) : vp_nar .char (Int32.ofInt x) = Int32.ofInt x := by
  obtain ⟨n, rfl⟩ : ∃ n : Nat, x = (n : Int) := ⟨x.toNat, by omega⟩
  have h := (pk_charN (q := n) (by omega)).1
  have hq : Int32.ofInt (n : Int) = nI n := rfl
  rw [hq]
  unfold vp_nar
  rw [h]
theorem g_cast (hx : p.tables.exec = Jvm.exec) (hb : c.code = cc) {a0 a1 : Nat} (hK : KS G a0 a1 s) {a i x : Int} {xs : List Int} (hd : decode cc pc = .ok (.castore, 1)) (h0 : 0 ≤ a) (hc0 : h[a.toNat]? = some (22, xs)) (hi : 0 ≤ i) (hil : i.toNat < xs.length) (hv : 0 ≤ x ∧ x < 65536) (hN : Gd G p l e R s mm args below meth c Q nL n0 t0 as0 (pc + 1) ls st (h.set a.toNat (22, xs.set i.toNat x))) : Gd G p l e R s mm args below meth c Q nL n0 t0 as0 pc ls ((0, x) :: (0, i) :: (122, a) :: st) h := by
  intro as H locs cells slots lsA hE hR hS hL hO hc hs
  have h2 := hR.at2 hc0 (by omega)
  have he : (wd G as h)[a.toNat - 2]? = some (as.getD a.toNat 0, .inl (gC G 22, xs.length, .inl (fun j => Int32.ofInt (xs.getD j 0)))) := wd_get (G := G) (as := as) h2 hc0
  have hiI := ok0 (oks_hd (oks_tl hO))
  rw [List.map_cons, List.map_cons, List.map_cons, cvR G as (show 100 ≤ 122 by omega), cv0, cv0]
  refine va_cast hx hb hK.1 hR.2.2.2.2.2.1 hR.2.2.2.2.2.2 hS (a.toNat - 2) 2 he rfl (vin hiI hi hil) hd (fun H1 locs1 hP1 hD1 hS1 => ?_)
  refine g_put hN hc0 hil (by omega) hE hR hL (oks_tl (oks_tl (oks_tl hO))) hc hs (⟨fun _ => ok0 (oks_hd hO), fun q => absurd q (show ¬ _ by simp [sty]), fun q => absurd q (show ¬ _ by simp [sty])⟩) H1 locs1 ?_ ?_ hS1
  · have hq : enc G as (22, xs.set i.toNat x) = .inl (gC G 22, xs.length, .inl (upd (fun j => Int32.ofInt (xs.getD j 0)) i.toNat (vp_nar .char (Int32.ofInt x)))) := by
      show (Sum.inl (gC G 22, (xs.set i.toNat x).length, .inl (fun j => Int32.ofInt ((xs.set i.toNat x).getD j 0))) : va_E) = _
      rw [List.length_set, updE hil]
      rw [nar_c hv]
    rw [hq, ← clI hiI]; exact hP1
  · have hq : enc G as (22, xs.set i.toNat x) = .inl (gC G 22, xs.length, .inl (upd (fun j => Int32.ofInt (xs.getD j 0)) i.toNat (vp_nar .char (Int32.ofInt x)))) := by
      show (Sum.inl (gC G 22, (xs.set i.toNat x).length, .inl (fun j => Int32.ofInt ((xs.set i.toNat x).getD j 0))) : va_E) = _
      rw [List.length_set, updE hil]
      rw [nar_c hv]
    rw [hq, ← clI hiI]; exact hD1
theorem g_last (hx : p.tables.exec = Jvm.exec) (hb : c.code = cc) {a0 a1 : Nat} (hK : KS G a0 a1 s) {a i x : Int} {xs : List Int} (hd : decode cc pc = .ok (.lastore, 1)) (h0 : 0 ≤ a) (hc0 : h[a.toNat]? = some (23, xs)) (hi : 0 ≤ i) (hil : i.toNat < xs.length) (hN : Gd G p l e R s mm args below meth c Q nL n0 t0 as0 (pc + 1) ls st (h.set a.toNat (23, xs.set i.toNat x))) : Gd G p l e R s mm args below meth c Q nL n0 t0 as0 pc ls ((2, x) :: (0, i) :: (123, a) :: st) h := by
  intro as H locs cells slots lsA hE hR hS hL hO hc hs
  have h2 := hR.at2 hc0 (by omega)
  have he : (wd G as h)[a.toNat - 2]? = some (as.getD a.toNat 0, .inl (gC G 23, xs.length, .inr (.inl (fun j => Int64.ofInt (xs.getD j 0))))) := wd_get (G := G) (as := as) h2 hc0
  have hiI := ok0 (oks_hd (oks_tl hO))
  rw [List.map_cons, List.map_cons, List.map_cons, cvR G as (show 100 ≤ 123 by omega), cv2, cv0]
  refine va_last hx hb hK.1 hR.2.2.2.2.2.1 hR.2.2.2.2.2.2 hS (a.toNat - 2) 3 he rfl (vin hiI hi hil) hd (fun H1 locs1 hP1 hD1 hS1 => ?_)
  refine g_put hN hc0 hil (by omega) hE hR hL (oks_tl (oks_tl (oks_tl hO))) hc hs (⟨fun q => absurd q (show ¬ _ by simp [sty]), fun _ => ok2 (oks_hd hO), fun q => absurd q (show ¬ _ by simp [sty])⟩) H1 locs1 ?_ ?_ hS1
  · have hq : enc G as (23, xs.set i.toNat x) = .inl (gC G 23, xs.length, .inr (.inl (vp_updL (fun j => Int64.ofInt (xs.getD j 0)) i.toNat (Int64.ofInt x)))) := by
      show (Sum.inl (gC G 23, (xs.set i.toNat x).length, .inr (.inl (fun j => Int64.ofInt ((xs.set i.toNat x).getD j 0)))) : va_E) = _
      rw [List.length_set, updL hil]
    rw [hq, ← clI hiI]; exact hP1
  · have hq : enc G as (23, xs.set i.toNat x) = .inl (gC G 23, xs.length, .inr (.inl (vp_updL (fun j => Int64.ofInt (xs.getD j 0)) i.toNat (Int64.ofInt x)))) := by
      show (Sum.inl (gC G 23, (xs.set i.toNat x).length, .inr (.inl (fun j => Int64.ofInt ((xs.set i.toNat x).getD j 0)))) : va_E) = _
      rw [List.length_set, updL hil]
    rw [hq, ← clI hiI]; exact hD1
theorem g_aast (hx : p.tables.exec = Jvm.exec) (hb : c.code = cc) {a0 a1 : Nat} (hK : KS G a0 a1 s) {t t0' : Nat} (ht : (t = 24 ∧ t0' = 4) ∨ (t = 25 ∧ t0' = 5)) {a i x : Int} {xs : List Int} (hd : decode cc pc = .ok (.aastore, 1)) (h0 : 0 ≤ a) (hc0 : h[a.toNat]? = some (t, xs)) (hi : 0 ≤ i) (hil : i.toNat < xs.length) (hN : Gd G p l e R s mm args below meth c Q nL n0 t0 as0 (pc + 1) ls st (h.set a.toNat (t, xs.set i.toNat x))) : Gd G p l e R s mm args below meth c Q nL n0 t0 as0 pc ls ((t + 76, x) :: (0, i) :: (100 + t, a) :: st) h := by
  intro as H locs cells slots lsA hE hR hS hL hO hc hs
  have h2 := hR.at2 hc0 (by omega)
  have henc : ∀ ys : List Int, enc G as (t, ys) = .inl (gC G t, ys.length, .inr (.inr (.inr (.inr (fun j => hro as (ys.getD j (-1))))))) := by
    intro ys
    unfold enc
    rw [if_neg (show ¬ t = 23 by omega), if_pos (show 24 ≤ t by omega)]
  have he := wd_get (G := G) (as := as) h2 hc0
  rw [henc] at he
  have hiI := ok0 (oks_hd (oks_tl hO))
  obtain ⟨hx0, hxt⟩ := okR (show 100 ≤ t + 76 by omega) (oks_hd hO)
  have hst : ∀ k, sty t k = t + 76 := by
    intro k
    unfold sty
    rcases ht with ⟨rfl, -⟩ | ⟨rfl, -⟩ <;> simp
  obtain ⟨vs, hvs⟩ := tg_at hxt
  have hv2 := hR.at2 hvs (by omega)
  have hve := wd_get (G := G) (as := as) hv2 hvs
  rw [enc_o (show t + 76 - 100 ≤ 7 by omega)] at hve
  rw [List.map_cons, List.map_cons, List.map_cons, cvR G as (show 100 ≤ 100 + t by omega), cvR G as (show 100 ≤ t + 76 by omega), cv0]
  have htt : (tyA G)[t0']? = some (gC G t, .object (cN (t + 76 - 100), cT (t + 76 - 100), cF (t + 76 - 100)).1) := by rcases ht with ⟨rfl, rfl⟩ | ⟨rfl, rfl⟩ <;> rfl
  refine va_astq hx hb hK.1 hR.2.2.2.2.2.1 hR.2.2.2.2.2.2 hS (a.toNat - 2) t0' (x.toNat - 2) (t + 76 - 100) he htt hve (clA_at (by omega)) (vin hiI hi hil) hd (fun H1 locs1 hP1 hD1 hS1 => ?_)
  rw [clI hiI, show as.getD x.toNat 0 = adr as x from rfl, ← updR hil hx0] at hP1 hD1
  refine g_put hN hc0 hil (by omega) hE hR hL (oks_tl (oks_tl (oks_tl hO))) hc hs ⟨fun q => absurd q (by rw [hst]; omega), fun q => absurd q (by rw [hst]; omega), fun _ _ => by rw [hst]; exact hxt⟩ H1 locs1 ?_ ?_ hS1
  · rw [henc, List.length_set]; exact hP1
  · rw [henc, List.length_set]; exact hD1
/-- behind a new cell -/
theorem g_mk {t : Nat} {xs : List Int} {st' : List AV} {pc' : Nat} {as : List Nat} {H : Heap} (hN : Gd G p l e R s mm args below meth c Q nL n0 t0 as0 pc' ls ((100 + t, Int.ofNat h.length) :: st') (h ++ [(t, xs)]))
    {locs : List Loc} {cells slots N : Nat} {lsA : Array Slot} (hE : ∃ ex, as = as0 ++ ex) (hR : RelP G as h H) (hL : LsR G as (tgs h) ls lsA nL) (hO : ∀ v ∈ st', okv (tgs h) v) (hc : cells + n0 = h.length) (hs : slots + t0 = tot h) (hNl : xs.length = N) (ho : okc (tgs h ++ [t]) (t, xs))
    (q : Nat) (H1 : Heap) (hP1 : va_P (gD G) clA (wd G as h ++ [(q, enc G (as ++ [q]) (t, xs))]) H1) (hD1 : va_D (gA G) (wd G as h ++ [(q, enc G (as ++ [q]) (t, xs))])) (hS1 : va_S (gA G) s.heap H1 locs) : W p l e R s mm args below meth c H1 locs (cells + 1) (slots + N) Q (F0 mm pc' lsA (.ref q :: st'.map (cvv G as))) := by
  have ht : tgs (h ++ [(t, xs)]) = tgs h ++ [t] := by simp [tgs]
  have hpr := hR.push (c := (t, xs)) ho hP1 hD1
  have hlen := hR.1
  have hov : okv (tgs h ++ [t]) (100 + t, Int.ofNat h.length) := by
    refine Or.inr (Or.inr (Or.inr ⟨show 100 ≤ 100 + t by omega, Int.natCast_nonneg _, ?_⟩))
    show (tgs h ++ [t])[h.length]? = some (100 + t - 100)
    rw [List.getElem?_append_right (by simp [tgs])]
    simp [tgs]
  have hk := hN (as ++ [q]) H1 locs (cells + 1) (slots + N) lsA (by obtain ⟨ex, rfl⟩ := hE; exact ⟨ex ++ [q], by rw [List.append_assoc]⟩) hpr hS1 (by rw [ht]; exact hL.ext [q] hlen [t]) (by rw [ht]; exact oks_cons hov (fun v hv => okv_ext [t] (hO v hv))) (by rw [List.length_append]; simp; omega) (by rw [tot_push]; show slots + N + t0 = tot h + xs.length; omega)
  have hm : st'.map (cvv G (as ++ [q])) = st'.map (cvv G as) := List.map_congr_left (fun v hv => cvv_ext [q] hlen (hO v hv))
  rw [List.map_cons, hm, cvR G _ (show 100 ≤ 100 + t by omega)] at hk
  have : adr (as ++ [q]) (Int.ofNat h.length) = q := by
    unfold adr
    rw [gdE (as ++ [q])]
    show ((as ++ [q])[h.length]?).getD 0 = q
    rw [List.getElem?_append_right (by omega)]
    simp [hlen]
  rw [this] at hk
  exact hk
theorem ini_vals (t k : Nat) : (am_ini t).getD k 0 = -1 ∨ (am_ini t).getD k 0 = 0 := by
  unfold am_ini
  rw [gdE, List.getElem?_map]
  cases hq : (am_ft t)[k]? with
  | none => exact Or.inr rfl
  | some g =>
    cases hb : Nat.ble 100 g with
    | true => exact Or.inl (by simp [hb])
    | false => exact Or.inr (by simp [hb])
theorem encF_ini (as : List Nat) (t : Nat) : encF as t (am_ini t) = encF [] t (am_ini t) := by
  unfold encF
  apply List.map_congr_left
  intro k hk
  have hk' : k < (am_ini t).length := List.mem_range.mp hk
  unfold hvx
  by_cases g : 100 ≤ sty t k
  · rw [if_pos g, if_pos g]
    have hz : (am_ini t).getD k 0 = -1 ∨ (am_ini t).getD k 0 = 0 := ini_vals t k
    rcases hz with z | z
    · rw [z]; rfl
    · exfalso
      unfold am_ini at z hk'
      rw [List.length_map] at hk'
      rw [gdE, List.getElem?_map, List.getElem?_eq_getElem hk'] at z
      have hg : (am_ft t)[k] = sty t k ∨ ¬ t ≤ 7 := by
        by_cases q : t ≤ 7
        · left; unfold sty; rw [if_pos q, gdE, List.getElem?_eq_getElem hk']; rfl
        · exact Or.inr q
      rcases hg with hg | hg
      · rw [hg] at z
        have : Nat.ble 100 (sty t k) = true := Nat.ble_eq_true_of_le g
        simp [this] at z
      · have : am_ft t = [] := by
          unfold am_ft
          split <;> first | rfl | omega
        rw [this] at hk'; simp at hk'
  · rw [if_neg g, if_neg g]
end STORE
end
section
/-! A step of the abstract machine is a step of the machine: objects and arrays are made, System.arraycopy, Math, Object's constructor. -/
section MAKE
variable {p : Program} {l : Launch} {e : Env} {R : Room} {s : State} {mm : MethodId} {args : Array Value} {below : List Frame} {meth : Method} {c : Code} {Q : State → Prop}
variable {G : AG} {nL n0 t0 pc : Nat} {as0 : List Nat} {ls st : List AV} {h : AH} {cc : ByteArray}
theorem ini_at {t j : Nat} (ht : t ≤ 7) (hj : j < cF t) : (am_ini t)[j]? = some (cond (Nat.ble 100 (sty t j)) (-1) 0) := by
  have hl : j < (am_ft t).length := by rw [(ftA ht).1]; exact hj
  unfold am_ini
  rw [List.getElem?_map, List.getElem?_eq_getElem hl]
  have : (am_ft t)[j] = sty t j := by unfold sty; rw [if_pos ht, gdE, List.getElem?_eq_getElem hl]; rfl
  rw [this]; rfl
theorem ini_len {t : Nat} (ht : t ≤ 7) : (am_ini t).length = cF t := by
  unfold am_ini; rw [List.length_map]; exact (ftA ht).1
theorem dflt {t : Nat} (ht : t ≤ 7) : ∀ j, j < cF t → defaultValue (cTy t j) = vp_V (encF [] t (am_ini t)) j := by
  intro j hj
  unfold vp_V
  rw [gdE, encF_get (ini_at ht hj)]
  have hf := (ftA ht).2 j hj
  have hs : (am_ft t).getD j 1 = sty t j := by unfold sty; rw [if_pos ht]
  rw [hs] at hf
  show _ = hvx [] (sty t j) (cond (Nat.ble 100 (sty t j)) (-1) 0)
  cases hty : cTy t j with
  | int => rw [hty] at hf; have : sty t j = 0 := Nat.eq_of_beq_eq_true hf; rw [this]; rfl
  | boolean => rw [hty] at hf; have : sty t j = 0 := Nat.eq_of_beq_eq_true hf; rw [this]; rfl
  | array q => rw [hty] at hf; have h1 : Nat.ble 100 (sty t j) = true := hf; unfold hvx; rw [if_pos (Nat.le_of_ble_eq_true h1), h1]; rfl
  | object q => rw [hty] at hf; have h1 : Nat.ble 100 (sty t j) = true := hf; unfold hvx; rw [if_pos (Nat.le_of_ble_eq_true h1), h1]; rfl
  | _ => rw [hty] at hf; cases hf
theorem okc_ini {tg : List Nat} {t : Nat} (ht : t ≤ 7) : okc tg (t, am_ini t) := by
  refine ⟨Or.inl ⟨ht, ini_len ht⟩, fun k x hx => ?_⟩
  have hk : k < cF t := by rw [← ini_len ht]; exact (List.getElem?_eq_some_iff.mp hx).1
  have hx : (am_ini t)[k]? = some x := hx
  rw [ini_at ht hk] at hx
  show okx tg (sty t k) x
  cases hb : Nat.ble 100 (sty t k) with
  | true =>
    rw [hb] at hx
    have hx : x = -1 := (Option.some.inj hx).symm
    subst hx
    exact ⟨fun _ => ⟨by omega, by omega⟩, fun _ => ⟨by omega, by omega⟩, fun _ q => absurd q (by omega)⟩
  | false =>
    rw [hb] at hx
    have hx : x = 0 := (Option.some.inj hx).symm
    subst hx
    exact ⟨fun _ => ⟨by omega, by omega⟩, fun _ => ⟨by omega, by omega⟩, fun q => by rw [Nat.ble_eq_true_of_le q] at hb; cases hb⟩
theorem gA_up {a0 a1 : Nat} (hK : KS G a0 a1 s) : ∀ q, s.heap.size ≤ q → gA G q := fun q hq => Nat.le_trans hK.2.2.2.2.2.2.2.2.2.2.2.1 hq
theorem g_new (hx : p.tables.exec = Jvm.exec) (hb : c.code = cc) {own : String} (hown : s.vm.findClass own = some mm.cls) (hts : ∀ w ∈ WSg, w.before args s = true) {a0 a1 : Nat} (hK : KS G a0 a1 s) {i t : Nat} (hd : decode cc pc = .ok (.new i, 3)) (ht : t ≤ 7) (hlk : (Cond.classLink own i (cN t)).before args s = true)
    (hrc : h.length + 1 ≤ n0 + R.cells) (hrs : tot h + (am_ini t).length ≤ t0 + R.slots) (hN : Gd G p l e R s mm args below meth c Q nL n0 t0 as0 (pc + 3) ls ((100 + t, Int.ofNat h.length) :: st) (h ++ [(t, am_ini t)])) : Gd G p l e R s mm args below meth c Q nL n0 t0 as0 pc ls st h := by
  intro as H locs cells slots lsA hE hR hS hL hO hc hs
  rw [ini_len ht] at hrs
  refine va_new (fs := encF [] t (am_ini t)) hx hb hts (wsIn ht) (cTy t) (tyOK ht) hown hlk (hts _ (instIn ht).1) (hts _ (instIn ht).2) hK.1 hR.2.2.2.2.2.1 hR.2.2.2.2.2.2 hS (gA_up hK) (clA_at ht) (dflt ht) (by omega) (by omega) hd (fun q H1 hP1 hD1 hS1 => ?_)
  have he : enc G (as ++ [q]) (t, am_ini t) = .inr (t, encF [] t (am_ini t)) := by rw [enc_o ht, encF_ini]
  rw [← he] at hP1 hD1
  exact g_mk hN hE hR hL hO hc hs (ini_len ht) (okc_ini ht) q H1 hP1 hD1 hS1
theorem g_newaI (hx : p.tables.exec = Jvm.exec) (hb : c.code = cc) (hts : ∀ w ∈ WSg, w.before args s = true) {a0 a1 : Nat} (hK : KS G a0 a1 s) {at' : ArrayType} {n : Int} (hd : decode cc pc = .ok (.newarray at', 2)) (hty : newarray.typeOf at' = .int) (hn : 0 ≤ n ∧ n ≤ 1000)
    (hrc : h.length + 1 ≤ n0 + R.cells) (hrs : tot h + n.toNat ≤ t0 + R.slots) (hN : Gd G p l e R s mm args below meth c Q nL n0 t0 as0 (pc + 2) ls ((120, Int.ofNat h.length) :: st) (h ++ [(20, List.replicate n.toNat 0)])) : Gd G p l e R s mm args below meth c Q nL n0 t0 as0 pc ls ((0, n) :: st) h := by
  intro as H locs cells slots lsA hE hR hS hL hO hc hs
  have hnI := ok0 (oks_hd hO)
  rw [List.map_cons, cv0]
  obtain ⟨N, hNe⟩ : ∃ N : Nat, N = n.toNat := ⟨_, rfl⟩
  rw [← hNe] at hN hrs
  refine va_newa (a0 := (N, .inl (fun _ => 0))) hx hb (by rw [hty]; exact hts _ wg_arI) hty hK.1 hR.2.2.2.2.2.1 hR.2.2.2.2.2.2 hS (gA_up hK) (fun cA => rfl) (by rw [ngI hnI]; omega) (by rw [clI hnI]; exact hNe.symm) (by show N * 4 ≤ 536870912; omega) (by omega) (by omega) hd (fun q cA H1 hK1 hP1 hD1 hS1 => ?_)
  have hcA : cA = gC G 20 := by
    have h1 : s.vm.findClass _ = some cA := (hK1.2 6 (cA, .int) rfl).2
    have h2 : s.vm.findClass _ = some (gC G 20) := (hK.1.2 0 (gC G 20, .int) rfl).2
    exact Option.some.inj (h1.symm.trans h2)
  subst hcA
  have he : enc G (as ++ [q]) (20, List.replicate N 0) = .inl (gC G 20, N, .inl (fun _ => 0)) := by
    show (Sum.inl (gC G 20, (List.replicate N (0 : Int)).length, .inl (fun j => Int32.ofInt ((List.replicate N (0 : Int)).getD j 0))) : va_E) = _
    have hf : (fun j => Int32.ofInt ((List.replicate N (0 : Int)).getD j 0)) = fun _ => 0 := by
      funext j
      rw [gdE, List.getElem?_replicate]
      by_cases hj : j < N
      · rw [if_pos hj]; rfl
      · rw [if_neg hj]; rfl
    rw [hf, List.length_replicate]
  rw [← he] at hP1 hD1
  refine g_mk hN hE hR hL (oks_tl hO) hc hs (List.length_replicate) ⟨Or.inr ⟨show 20 ≤ 20 by omega, show 20 ≤ 25 by omega⟩, fun k x hx => ?_⟩ q H1 hP1 hD1 hS1
  have hx : (List.replicate N (0 : Int))[k]? = some x := hx
  have hx0 : x = 0 := List.eq_of_mem_replicate (List.mem_of_getElem? hx)
  subst hx0
  exact ⟨fun _ => inI0, fun _ => inL0, fun q => absurd q (show ¬ _ by simp [sty])⟩
theorem g_newaZ (hx : p.tables.exec = Jvm.exec) (hb : c.code = cc) (hts : ∀ w ∈ WSg, w.before args s = true) {a0 a1 : Nat} (hK : KS G a0 a1 s) {at' : ArrayType} {n : Int} (hd : decode cc pc = .ok (.newarray at', 2)) (hty : newarray.typeOf at' = .boolean) (hn : 0 ≤ n ∧ n ≤ 1000)
    (hrc : h.length + 1 ≤ n0 + R.cells) (hrs : tot h + n.toNat ≤ t0 + R.slots) (hN : Gd G p l e R s mm args below meth c Q nL n0 t0 as0 (pc + 2) ls ((121, Int.ofNat h.length) :: st) (h ++ [(21, List.replicate n.toNat 0)])) : Gd G p l e R s mm args below meth c Q nL n0 t0 as0 pc ls ((0, n) :: st) h := by
  intro as H locs cells slots lsA hE hR hS hL hO hc hs
  have hnI := ok0 (oks_hd hO)
  rw [List.map_cons, cv0]
  obtain ⟨N, hNe⟩ : ∃ N : Nat, N = n.toNat := ⟨_, rfl⟩
  rw [← hNe] at hN hrs
  refine va_newa (a0 := (N, .inl (fun _ => 0))) hx hb (by rw [hty]; exact hts _ wg_arZ) hty hK.1 hR.2.2.2.2.2.1 hR.2.2.2.2.2.2 hS (gA_up hK) (fun cA => rfl) (by rw [ngI hnI]; omega) (by rw [clI hnI]; exact hNe.symm) (by show N * 1 ≤ 536870912; omega) (by omega) (by omega) hd (fun q cA H1 hK1 hP1 hD1 hS1 => ?_)
  have hcA : cA = gC G 21 := by
    have h1 : s.vm.findClass _ = some cA := (hK1.2 6 (cA, .boolean) rfl).2
    have h2 : s.vm.findClass _ = some (gC G 21) := (hK.1.2 1 (gC G 21, .boolean) rfl).2
    exact Option.some.inj (h1.symm.trans h2)
  subst hcA
  have he : enc G (as ++ [q]) (21, List.replicate N 0) = .inl (gC G 21, N, .inl (fun _ => 0)) := by
    show (Sum.inl (gC G 21, (List.replicate N (0 : Int)).length, .inl (fun j => Int32.ofInt ((List.replicate N (0 : Int)).getD j 0))) : va_E) = _
    have hf : (fun j => Int32.ofInt ((List.replicate N (0 : Int)).getD j 0)) = fun _ => 0 := by
      funext j
      rw [gdE, List.getElem?_replicate]
      by_cases hj : j < N
      · rw [if_pos hj]; rfl
      · rw [if_neg hj]; rfl
    rw [hf, List.length_replicate]
  rw [← he] at hP1 hD1
  refine g_mk hN hE hR hL (oks_tl hO) hc hs (List.length_replicate) ⟨Or.inr ⟨show 20 ≤ 21 by omega, show 21 ≤ 25 by omega⟩, fun k x hx => ?_⟩ q H1 hP1 hD1 hS1
  have hx : (List.replicate N (0 : Int))[k]? = some x := hx
  have hx0 : x = 0 := List.eq_of_mem_replicate (List.mem_of_getElem? hx)
  subst hx0
  exact ⟨fun _ => inI0, fun _ => inL0, fun q => absurd q (show ¬ _ by simp [sty])⟩
theorem g_newaC (hx : p.tables.exec = Jvm.exec) (hb : c.code = cc) (hts : ∀ w ∈ WSg, w.before args s = true) {a0 a1 : Nat} (hK : KS G a0 a1 s) {at' : ArrayType} {n : Int} (hd : decode cc pc = .ok (.newarray at', 2)) (hty : newarray.typeOf at' = .char) (hn : 0 ≤ n ∧ n ≤ 1000)
    (hrc : h.length + 1 ≤ n0 + R.cells) (hrs : tot h + n.toNat ≤ t0 + R.slots) (hN : Gd G p l e R s mm args below meth c Q nL n0 t0 as0 (pc + 2) ls ((122, Int.ofNat h.length) :: st) (h ++ [(22, List.replicate n.toNat 0)])) : Gd G p l e R s mm args below meth c Q nL n0 t0 as0 pc ls ((0, n) :: st) h := by
  intro as H locs cells slots lsA hE hR hS hL hO hc hs
  have hnI := ok0 (oks_hd hO)
  rw [List.map_cons, cv0]
  obtain ⟨N, hNe⟩ : ∃ N : Nat, N = n.toNat := ⟨_, rfl⟩
  rw [← hNe] at hN hrs
  refine va_newa (a0 := (N, .inl (fun _ => 0))) hx hb (by rw [hty]; exact hts _ wg_arC) hty hK.1 hR.2.2.2.2.2.1 hR.2.2.2.2.2.2 hS (gA_up hK) (fun cA => rfl) (by rw [ngI hnI]; omega) (by rw [clI hnI]; exact hNe.symm) (by show N * 2 ≤ 536870912; omega) (by omega) (by omega) hd (fun q cA H1 hK1 hP1 hD1 hS1 => ?_)
  have hcA : cA = gC G 22 := by
    have h1 : s.vm.findClass _ = some cA := (hK1.2 6 (cA, .char) rfl).2
    have h2 : s.vm.findClass _ = some (gC G 22) := (hK.1.2 2 (gC G 22, .char) rfl).2
    exact Option.some.inj (h1.symm.trans h2)
  subst hcA
  have he : enc G (as ++ [q]) (22, List.replicate N 0) = .inl (gC G 22, N, .inl (fun _ => 0)) := by
    show (Sum.inl (gC G 22, (List.replicate N (0 : Int)).length, .inl (fun j => Int32.ofInt ((List.replicate N (0 : Int)).getD j 0))) : va_E) = _
    have hf : (fun j => Int32.ofInt ((List.replicate N (0 : Int)).getD j 0)) = fun _ => 0 := by
      funext j
      rw [gdE, List.getElem?_replicate]
      by_cases hj : j < N
      · rw [if_pos hj]; rfl
      · rw [if_neg hj]; rfl
    rw [hf, List.length_replicate]
  rw [← he] at hP1 hD1
  refine g_mk hN hE hR hL (oks_tl hO) hc hs (List.length_replicate) ⟨Or.inr ⟨show 20 ≤ 22 by omega, show 22 ≤ 25 by omega⟩, fun k x hx => ?_⟩ q H1 hP1 hD1 hS1
  have hx : (List.replicate N (0 : Int))[k]? = some x := hx
  have hx0 : x = 0 := List.eq_of_mem_replicate (List.mem_of_getElem? hx)
  subst hx0
  exact ⟨fun _ => inI0, fun _ => inL0, fun q => absurd q (show ¬ _ by simp [sty])⟩
theorem g_newaL (hx : p.tables.exec = Jvm.exec) (hb : c.code = cc) (hts : ∀ w ∈ WSg, w.before args s = true) {a0 a1 : Nat} (hK : KS G a0 a1 s) {at' : ArrayType} {n : Int} (hd : decode cc pc = .ok (.newarray at', 2)) (hty : newarray.typeOf at' = .long) (hn : 0 ≤ n ∧ n ≤ 1000)
    (hrc : h.length + 1 ≤ n0 + R.cells) (hrs : tot h + n.toNat ≤ t0 + R.slots) (hN : Gd G p l e R s mm args below meth c Q nL n0 t0 as0 (pc + 2) ls ((123, Int.ofNat h.length) :: st) (h ++ [(23, List.replicate n.toNat 0)])) : Gd G p l e R s mm args below meth c Q nL n0 t0 as0 pc ls ((0, n) :: st) h := by
  intro as H locs cells slots lsA hE hR hS hL hO hc hs
  have hnI := ok0 (oks_hd hO)
  rw [List.map_cons, cv0]
  obtain ⟨N, hNe⟩ : ∃ N : Nat, N = n.toNat := ⟨_, rfl⟩
  rw [← hNe] at hN hrs
  refine va_newa (a0 := (N, .inr (.inl (fun _ => 0)))) hx hb (by rw [hty]; exact hts _ wg_arL) hty hK.1 hR.2.2.2.2.2.1 hR.2.2.2.2.2.2 hS (gA_up hK) (fun cA => rfl) (by rw [ngI hnI]; omega) (by rw [clI hnI]; exact hNe.symm) (by show N * 8 ≤ 536870912; omega) (by omega) (by omega) hd (fun q cA H1 hK1 hP1 hD1 hS1 => ?_)
  have hcA : cA = gC G 23 := by
    have h1 : s.vm.findClass _ = some cA := (hK1.2 6 (cA, .long) rfl).2
    have h2 : s.vm.findClass _ = some (gC G 23) := (hK.1.2 3 (gC G 23, .long) rfl).2
    exact Option.some.inj (h1.symm.trans h2)
  subst hcA
  have he : enc G (as ++ [q]) (23, List.replicate N 0) = .inl (gC G 23, N, .inr (.inl (fun _ => 0))) := by
    show (Sum.inl (gC G 23, (List.replicate N (0 : Int)).length, .inr (.inl (fun j => Int64.ofInt ((List.replicate N (0 : Int)).getD j 0)))) : va_E) = _
    have hf : (fun j => Int64.ofInt ((List.replicate N (0 : Int)).getD j 0)) = fun _ => 0 := by
      funext j
      rw [gdE, List.getElem?_replicate]
      by_cases hj : j < N
      · rw [if_pos hj]; rfl
      · rw [if_neg hj]; rfl
    rw [hf, List.length_replicate]
  rw [← he] at hP1 hD1
  refine g_mk hN hE hR hL (oks_tl hO) hc hs (List.length_replicate) ⟨Or.inr ⟨show 20 ≤ 23 by omega, show 23 ≤ 25 by omega⟩, fun k x hx => ?_⟩ q H1 hP1 hD1 hS1
  have hx : (List.replicate N (0 : Int))[k]? = some x := hx
  have hx0 : x = 0 := List.eq_of_mem_replicate (List.mem_of_getElem? hx)
  subst hx0
  exact ⟨fun _ => inI0, fun _ => inL0, fun q => absurd q (show ¬ _ by simp [sty])⟩
theorem g_anewB (hx : p.tables.exec = Jvm.exec) (hb : c.code = cc) {own : String} (hown : s.vm.findClass own = some mm.cls) {a0 a1 : Nat} (hK : KS G a0 a1 s) {i : Nat} {n : Int} (hd : decode cc pc = .ok (.anewarray i, 3)) (hlk : (Cond.classLink own i RX0).before args s = true) (hn : 0 ≤ n ∧ n ≤ 1000)
    (hrc : h.length + 1 ≤ n0 + R.cells) (hrs : tot h + n.toNat ≤ t0 + R.slots) (hN : Gd G p l e R s mm args below meth c Q nL n0 t0 as0 (pc + 3) ls ((124, Int.ofNat h.length) :: st) (h ++ [(24, List.replicate n.toNat (-1))])) : Gd G p l e R s mm args below meth c Q nL n0 t0 as0 pc ls ((0, n) :: st) h := by
  intro as H locs cells slots lsA hE hR hS hL hO hc hs
  have hnI := ok0 (oks_hd hO)
  rw [List.map_cons, cv0]
  obtain ⟨N, hNe⟩ : ∃ N : Nat, N = n.toNat := ⟨_, rfl⟩
  rw [← hNe] at hN hrs
  refine va_newq (N' := N) hx hb hown hlk hK.2.2.2.2.2.2.2.2.2.1 hK.1 hR.2.2.2.2.2.1 hR.2.2.2.2.2.2 hS (gA_up hK) (by rw [ngI hnI]; omega) (by rw [clI hnI]; exact hNe.symm) (by omega) (by omega) (by omega) hd (fun q cA H1 hK1 hP1 hD1 hS1 => ?_)
  have hcA : cA = gC G 24 := by
    obtain ⟨_, _, _, _, _, h1⟩ := (hK1.2 6 (cA, .object RX0) rfl).2
    obtain ⟨_, _, _, _, _, h2⟩ := (hK.1.2 4 (gC G 24, .object RX0) rfl).2
    exact Option.some.inj (h1.symm.trans h2)
  subst hcA
  have he : enc G (as ++ [q]) (24, List.replicate N (-1)) = .inl (gC G 24, N, .inr (.inr (.inr (.inr (fun _ => none))))) := by
    show (Sum.inl (gC G 24, (List.replicate N (-1 : Int)).length, .inr (.inr (.inr (.inr (fun j => hro (as ++ [q]) ((List.replicate N (-1 : Int)).getD j (-1))))))) : va_E) = _
    have hf : (fun j => hro (as ++ [q]) ((List.replicate N (-1 : Int)).getD j (-1))) = fun _ => none := by
      funext j
      rw [gdE, List.getElem?_replicate]
      by_cases hj : j < N
      · rw [if_pos hj]; rfl
      · rw [if_neg hj]; rfl
    rw [hf, List.length_replicate]
  rw [← he] at hP1 hD1
  refine g_mk hN hE hR hL (oks_tl hO) hc hs (List.length_replicate) ⟨Or.inr ⟨show 20 ≤ 24 by omega, show 24 ≤ 25 by omega⟩, fun k x hx => ?_⟩ q H1 hP1 hD1 hS1
  have hx : (List.replicate N (-1 : Int))[k]? = some x := hx
  have hx0 : x = -1 := List.eq_of_mem_replicate (List.mem_of_getElem? hx)
  subst hx0
  exact ⟨fun _ => ⟨by omega, by omega⟩, fun _ => ⟨by omega, by omega⟩, fun _ q => absurd q (by omega)⟩
theorem g_anewX (hx : p.tables.exec = Jvm.exec) (hb : c.code = cc) {own : String} (hown : s.vm.findClass own = some mm.cls) {a0 a1 : Nat} (hK : KS G a0 a1 s) {i : Nat} {n : Int} (hd : decode cc pc = .ok (.anewarray i, 3)) (hlk : (Cond.classLink own i RX1).before args s = true) (hn : 0 ≤ n ∧ n ≤ 1000)
    (hrc : h.length + 1 ≤ n0 + R.cells) (hrs : tot h + n.toNat ≤ t0 + R.slots) (hN : Gd G p l e R s mm args below meth c Q nL n0 t0 as0 (pc + 3) ls ((125, Int.ofNat h.length) :: st) (h ++ [(25, List.replicate n.toNat (-1))])) : Gd G p l e R s mm args below meth c Q nL n0 t0 as0 pc ls ((0, n) :: st) h := by
  intro as H locs cells slots lsA hE hR hS hL hO hc hs
  have hnI := ok0 (oks_hd hO)
  rw [List.map_cons, cv0]
  obtain ⟨N, hNe⟩ : ∃ N : Nat, N = n.toNat := ⟨_, rfl⟩
  rw [← hNe] at hN hrs
  refine va_newq (N' := N) hx hb hown hlk hK.2.2.2.2.2.2.2.2.2.2.1 hK.1 hR.2.2.2.2.2.1 hR.2.2.2.2.2.2 hS (gA_up hK) (by rw [ngI hnI]; omega) (by rw [clI hnI]; exact hNe.symm) (by omega) (by omega) (by omega) hd (fun q cA H1 hK1 hP1 hD1 hS1 => ?_)
  have hcA : cA = gC G 25 := by
    obtain ⟨_, _, _, _, _, h1⟩ := (hK1.2 6 (cA, .object RX1) rfl).2
    obtain ⟨_, _, _, _, _, h2⟩ := (hK.1.2 5 (gC G 25, .object RX1) rfl).2
    exact Option.some.inj (h1.symm.trans h2)
  subst hcA
  have he : enc G (as ++ [q]) (25, List.replicate N (-1)) = .inl (gC G 25, N, .inr (.inr (.inr (.inr (fun _ => none))))) := by
    show (Sum.inl (gC G 25, (List.replicate N (-1 : Int)).length, .inr (.inr (.inr (.inr (fun j => hro (as ++ [q]) ((List.replicate N (-1 : Int)).getD j (-1))))))) : va_E) = _
    have hf : (fun j => hro (as ++ [q]) ((List.replicate N (-1 : Int)).getD j (-1))) = fun _ => none := by
      funext j
      rw [gdE, List.getElem?_replicate]
      by_cases hj : j < N
      · rw [if_pos hj]; rfl
      · rw [if_neg hj]; rfl
    rw [hf, List.length_replicate]
  rw [← he] at hP1 hD1
  refine g_mk hN hE hR hL (oks_tl hO) hc hs (List.length_replicate) ⟨Or.inr ⟨show 20 ≤ 25 by omega, show 25 ≤ 25 by omega⟩, fun k x hx => ?_⟩ q H1 hP1 hD1 hS1
  have hx : (List.replicate N (-1 : Int))[k]? = some x := hx
  have hx0 : x = -1 := List.eq_of_mem_replicate (List.mem_of_getElem? hx)
  subst hx0
  exact ⟨fun _ => ⟨by omega, by omega⟩, fun _ => ⟨by omega, by omega⟩, fun _ q => absurd q (by omega)⟩
theorem catE {as : List Nat} : ∀ (st : List AV), ((st.map (cvv G as)).map (fun v => v.category)).sum = catL st := by
  intro st
  induction st with
  | nil => rfl
  | cons v st ih =>
    rw [List.map_cons, List.map_cons, List.sum_cons, ih, cvv_cat]
    show _ = cond (Nat.beq v.1 2) (2 + catL st) (1 + catL st)
    by_cases q : v.1 = 2
    · rw [if_pos q, q]; rfl
    · rw [if_neg q]
      have : Nat.beq v.1 2 = false := by
        cases hb : Nat.beq v.1 2 with
        | true => exact absurd (Nat.eq_of_beq_eq_true hb) q
        | false => rfl
      rw [this]; rfl
theorem cpyE {xs ys : List Int} {n : Int} (h1 : n.toNat ≤ xs.length) (h2 : n.toNat ≤ ys.length) : (a_cpy xs ys n).length = ys.length ∧ (fun j => Int32.ofInt ((a_cpy xs ys n).getD j 0)) = va_cpy (fun j => Int32.ofInt (xs.getD j 0)) (fun j => Int32.ofInt (ys.getD j 0)) 0 0 n.toNat := by
  unfold a_cpy
  have hl : (xs.take n.toNat).length = n.toNat := by rw [List.length_take]; omega
  refine ⟨by rw [List.length_append, List.length_drop, hl]; omega, ?_⟩
  funext j
  show Int32.ofInt _ = if 0 ≤ j ∧ j < 0 + n.toNat then Int32.ofInt (xs.getD (0 + (j - 0)) 0) else Int32.ofInt (ys.getD j 0)
  rw [gdE (xs.take n.toNat ++ ys.drop n.toNat), show 0 + (j - 0) = j by omega]
  by_cases hj : j < n.toNat
  · rw [if_pos ⟨Nat.zero_le _, by omega⟩, List.getElem?_append_left (by omega), List.getElem?_take, if_pos hj, ← gdE xs]
  · rw [if_neg (by omega), List.getElem?_append_right (by omega), hl, List.getElem?_drop, show n.toNat + (j - n.toNat) = j by omega, ← gdE ys]
theorem okc_cpy {tg : List Nat} {xs ys : List Int} {n : Int} (hx : okc tg (20, xs)) (hy : okc tg (20, ys)) : okc tg (20, a_cpy xs ys n) := by
  refine ⟨Or.inr ⟨by show 20 ≤ 20; omega, by show 20 ≤ 25; omega⟩, fun k x hk => ?_⟩
  have hm : x ∈ xs.take n.toNat ++ ys.drop n.toNat := List.mem_of_getElem? hk
  rcases List.mem_append.mp hm with q | q
  · obtain ⟨j, hj⟩ := List.getElem?_of_mem (List.mem_of_mem_take q)
    exact hx.2 j x hj
  · obtain ⟨j, hj⟩ := List.getElem?_of_mem (List.mem_of_mem_drop q)
    exact hy.2 j x hj
theorem g_cpy (hx : p.tables.exec = Jvm.exec) (hb : c.code = cc) (hml : c.maxLocals = nL) {own : String} (hown : s.vm.findClass own = some mm.cls) (hts : ∀ w ∈ WSg, w.before args s = true) {a0 a1 : Nat} (hK : KS G a0 a1 s) {i : Nat} {a b n : Int} {xs ys : List Int} (hd : decode cc pc = .ok (.invokestatic i, 3)) (hlk : (Cond.methodLink own i arr0).before args s = true)
    (hct : catL st ≤ 8) (hfr : 1 ≤ R.frames) (hlo : 60 ≤ R.locals) (ha0 : 0 ≤ a) (ha : h[a.toNat]? = some (20, xs)) (hb0 : 0 ≤ b) (hbb : h[b.toNat]? = some (20, ys)) (hn : 0 ≤ n) (h1 : n.toNat ≤ xs.length) (h2 : n.toNat ≤ ys.length)
    (hN : Gd G p l e R s mm args below meth c Q nL n0 t0 as0 (pc + 3) ls st (h.set b.toNat (20, a_cpy xs ys n))) : Gd G p l e R s mm args below meth c Q nL n0 t0 as0 pc ls ((0, n) :: (0, 0) :: (120, b) :: (0, 0) :: (120, a) :: st) h := by
  intro as H locs cells slots lsA hE hR hS hL hO hc hs
  have hnI := ok0 (oks_hd hO)
  have a2 := hR.at2 ha (by omega)
  have b2 := hR.at2 hbb (by omega)
  have hea : (wd G as h)[a.toNat - 2]? = some (as.getD a.toNat 0, .inl (gC G 20, xs.length, .inl (fun j => Int32.ofInt (xs.getD j 0)))) := wd_get (G := G) (as := as) a2 ha
  have heb : (wd G as h)[b.toNat - 2]? = some (as.getD b.toNat 0, .inl (gC G 20, ys.length, .inl (fun j => Int32.ofInt (ys.getD j 0)))) := wd_get (G := G) (as := as) b2 hbb
  have hoa := hR.2.2.2.2.1 _ _ a2 ha
  have hob := hR.2.2.2.2.1 _ _ b2 hbb
  rw [List.map_cons, List.map_cons, List.map_cons, List.map_cons, List.map_cons, cvR G as (show 100 ≤ 120 by omega), cvR G as (show 100 ≤ 120 by omega), cv0, cv0]
  have hz : (Int32.ofInt 0).toNatClampNeg = 0 := rfl
  refine va_copyi hx hb (hml.trans hL.2.2.1.symm) hown hlk (hts _ wg_cpN) (hts _ wg_cpS) (hts _ wg_cpI) hK.1 hR.2.2.2.2.2.1 hR.2.2.2.2.2.2 hS (a.toNat - 2) (b.toNat - 2) 0 0 hea heb rfl rfl rfl (by decide) (by decide) (by rw [ngI hnI]; omega) (by rw [clI hnI, hz]; omega) (by rw [clI hnI, hz]; omega) (fun j _ => rfl) hfr ?_ hd (fun H1 locs1 hP1 hD1 hS1 => ?_)
  · rw [catE]
    have : nativeFrameWords "java/lang/System" "arraycopy" 5 + 11 ≤ 52 := by decide +kernel
    omega
  · rw [clI hnI, hz, ← (cpyE h1 h2).2, ← (cpyE h1 h2).1] at hP1 hD1
    have hq : enc G as (20, a_cpy xs ys n) = .inl (gC G 20, (a_cpy xs ys n).length, .inl (fun j => Int32.ofInt ((a_cpy xs ys n).getD j 0))) := rfl
    rw [← hq] at hP1 hD1
    have htg := tgs_set (ys := a_cpy xs ys n) hbb
    exact hN as H1 locs1 cells slots lsA hE (hR.set b2 hbb (okc_cpy hoa hob) hP1 hD1) hS1 (by rw [htg]; exact hL) (by rw [htg]; exact oks_tl (oks_tl (oks_tl (oks_tl (oks_tl hO))))) (by rw [List.length_set]; exact hc) (by rw [tot_set hbb (cpyE h1 h2).1]; exact hs)
theorem g_max (hx : p.tables.exec = Jvm.exec) (hb : c.code = cc) (hml : c.maxLocals = nL) {own : String} (hown : s.vm.findClass own = some mm.cls) (hts : ∀ w ∈ WSg, w.before args s = true) {i : Nat} {x y : Int} (hd : decode cc pc = .ok (.invokestatic i, 3)) (hlk : (Cond.methodLink own i Lib.Math.max.name).before args s = true)
    (hct : catL st ≤ 8) (hfr : 1 ≤ R.frames) (hlo : 60 ≤ R.locals) (hrc : h.length ≤ n0 + R.cells) (hrs : tot h ≤ t0 + R.slots) (hN : Gd G p l e R s mm args below meth c Q nL n0 t0 as0 (pc + 3) ls ((0, a_max x y) :: st) h) : Gd G p l e R s mm args below meth c Q nL n0 t0 as0 pc ls ((0, y) :: (0, x) :: st) h := by
  intro as H locs cells slots lsA hE hR hS hL hO hc hs
  have hy := ok0 (oks_hd hO)
  have hx' := ok0 (oks_hd (oks_tl hO))
  have hkk := hN as H locs cells slots lsA hE hR hS hL (oks_cons (ok0I (oMax hx' hy).2) (oks_tl (oks_tl hO))) hc hs
  rw [List.map_cons, cv0, (oMax hx' hy).1] at hkk
  exact va_mmax hx hb (hml.trans hL.2.2.1.symm) hown hlk (hts _ wg_mxS) (hts _ wg_maI) (hts _ wg_mxC) hfr (by rw [catE]; omega) (by omega) (by omega) hd hkk
theorem g_min (hx : p.tables.exec = Jvm.exec) (hb : c.code = cc) (hml : c.maxLocals = nL) {own : String} (hown : s.vm.findClass own = some mm.cls) (hts : ∀ w ∈ WSg, w.before args s = true) {i : Nat} {x y : Int} (hd : decode cc pc = .ok (.invokestatic i, 3)) (hlk : (Cond.methodLink own i Lib.Math.min.name).before args s = true)
    (hct : catL st ≤ 8) (hfr : 1 ≤ R.frames) (hlo : 60 ≤ R.locals) (hrc : h.length ≤ n0 + R.cells) (hrs : tot h ≤ t0 + R.slots) (hN : Gd G p l e R s mm args below meth c Q nL n0 t0 as0 (pc + 3) ls ((0, a_min x y) :: st) h) : Gd G p l e R s mm args below meth c Q nL n0 t0 as0 pc ls ((0, y) :: (0, x) :: st) h := by
  intro as H locs cells slots lsA hE hR hS hL hO hc hs
  have hy := ok0 (oks_hd hO)
  have hx' := ok0 (oks_hd (oks_tl hO))
  have hkk := hN as H locs cells slots lsA hE hR hS hL (oks_cons (ok0I (oMin hx' hy).2) (oks_tl (oks_tl hO))) hc hs
  rw [List.map_cons, cv0, (oMin hx' hy).1] at hkk
  exact va_mmin hx hb (hml.trans hL.2.2.1.symm) hown hlk (hts _ wg_mnS) (hts _ wg_maI) (hts _ wg_mnC) hfr (by rw [catE]; omega) (by omega) (by omega) hd hkk
theorem g_obj (hx : p.tables.exec = Jvm.exec) (hb : c.code = cc) (hml : c.maxLocals = nL) {own : String} (hown : s.vm.findClass own = some mm.cls) (hts : ∀ w ∈ WSg, w.before args s = true) {i t : Nat} {x : Int} (ht : 100 ≤ t) (hd : decode cc pc = .ok (.invokespecial i, 3)) (hlk : (Cond.methodLink own i Lib.objectInit).before args s = true)
    (hct : catL st ≤ 8) (hfr : 1 ≤ R.frames) (hlo : 60 ≤ R.locals) (hN : Gd G p l e R s mm args below meth c Q nL n0 t0 as0 (pc + 3) ls st h) : Gd G p l e R s mm args below meth c Q nL n0 t0 as0 pc ls ((t, x) :: st) h := by
  intro as H locs cells slots lsA hE hR hS hL hO hc hs
  have hkk := hN as H locs cells slots lsA hE hR hS hL (oks_tl hO) hc hs
  rw [List.map_cons, cvR G as ht]
  refine W.objInit hx hb hown hlk (hts _ wg_obM) (hts _ wg_obC) (g := F0 mm pc lsA (.ref (adr as x) :: st.map (cvv G as))) rfl (hL.2.2.1.trans hml.symm) rfl hd hfr ?_ hkk
  have hr := lv_room (m := mm) (pc := pc) (ls := lsA) (rest := .ref (adr as x) :: st.map (cvv G as)) (st := st.map (cvv G as)) (by rw [catE]; exact hct)
  omega
end MAKE
end
section
/-! The words on the JDK's String methods, and their decode rows: printed by program. -/
set_option maxRecDepth 100000 in
theorem wj_len_code : Cond.code yJ0_length_8abf5 cJ0_length_8abf5 1 (some .int) ∈ WSg := mem_g (i := 319) rfl rfl
set_option maxRecDepth 100000 in
theorem wj_len_inst : Cond.instanceMethod yJ0_length_8abf5 ∈ WSg := mem_g (i := 317) rfl rfl
set_option maxRecDepth 100000 in
theorem wj_len_sel : Cond.selects RJ0 yJ0_length_8abf5 yJ0_length_8abf5 ∈ WSg := mem_g (i := 318) rfl rfl
set_option maxRecDepth 100000 in
theorem wj_cha_code : Cond.code yJ0_charAt_5068e cJ0_charAt_5068e 2 (some .char) ∈ WSg := mem_g (i := 329) rfl rfl
set_option maxRecDepth 100000 in
theorem wj_cha_inst : Cond.instanceMethod yJ0_charAt_5068e ∈ WSg := mem_g (i := 327) rfl rfl
set_option maxRecDepth 100000 in
theorem wj_cha_sel : Cond.selects RJ0 yJ0_charAt_5068e yJ0_charAt_5068e ∈ WSg := mem_g (i := 328) rfl rfl
set_option maxRecDepth 100000 in
theorem wj_cod_code : Cond.code yJ0_coder_7d493 cJ0_coder_7d493 1 (some .byte) ∈ WSg := mem_g (i := 323) rfl rfl
set_option maxRecDepth 100000 in
theorem wj_cod_inst : Cond.instanceMethod yJ0_coder_7d493 ∈ WSg := mem_g (i := 321) rfl rfl
set_option maxRecDepth 100000 in
theorem wj_cod_sel : Cond.selects RJ0 yJ0_coder_7d493 yJ0_coder_7d493 ∈ WSg := mem_g (i := 322) rfl rfl
set_option maxRecDepth 100000 in
theorem wj_isl_code : Cond.code yJ0_isLatin1_aae02 cJ0_isLatin1_aae02 1 (some .boolean) ∈ WSg := mem_g (i := 333) rfl rfl
set_option maxRecDepth 100000 in
theorem wj_isl_inst : Cond.instanceMethod yJ0_isLatin1_aae02 ∈ WSg := mem_g (i := 331) rfl rfl
set_option maxRecDepth 100000 in
theorem wj_isl_sel : Cond.selects RJ0 yJ0_isLatin1_aae02 yJ0_isLatin1_aae02 ∈ WSg := mem_g (i := 332) rfl rfl
set_option maxRecDepth 100000 in
theorem wj_chk_code : Cond.code yJ0_checkIndex_df160 cJ0_checkIndex_df160 2 none ∈ WSg := mem_g (i := 339) rfl rfl
set_option maxRecDepth 100000 in
theorem wj_chk_st : Cond.static yJ0_checkIndex_df160 ∈ WSg := mem_g (i := 338) rfl rfl
set_option maxRecDepth 100000 in
theorem wj_lat_code : Cond.code yJ1_charAt_3b067 cJ1_charAt_3b067 2 (some .char) ∈ WSg := mem_g (i := 336) rfl rfl
set_option maxRecDepth 100000 in
theorem wj_lat_st : Cond.static yJ1_charAt_3b067 ∈ WSg := mem_g (i := 335) rfl rfl
set_option maxRecDepth 100000 in
theorem wj_pre_code : Cond.code yJ3_checkIndex_8e157 cJ3_checkIndex_8e157 3 (some .int) ∈ WSg := mem_g (i := 344) rfl rfl
set_option maxRecDepth 100000 in
theorem wj_pre_st : Cond.static yJ3_checkIndex_8e157 ∈ WSg := mem_g (i := 343) rfl rfl
set_option maxRecDepth 100000 in
theorem wj_ini_RJ0 : Cond.initialized RJ0 ∈ WSg := mem_g (i := 69) rfl rfl
set_option maxRecDepth 100000 in
theorem wj_ini_RJ1 : Cond.initialized RJ1 ∈ WSg := mem_g (i := 70) rfl rfl
set_option maxRecDepth 100000 in
theorem wj_ini_RJ3 : Cond.initialized RJ3 ∈ WSg := mem_g (i := 71) rfl rfl
set_option maxRecDepth 100000 in
theorem wj_lk_cod : Cond.methodLink RJ0 335 yJ0_coder_7d493 ∈ WSg := mem_g (i := 320) rfl rfl
set_option maxRecDepth 100000 in
theorem wj_lk_isl : Cond.methodLink RJ0 492 yJ0_isLatin1_aae02 ∈ WSg := mem_g (i := 330) rfl rfl
set_option maxRecDepth 100000 in
theorem wj_lk_lat : Cond.methodLink RJ0 495 yJ1_charAt_3b067 ∈ WSg := mem_g (i := 334) rfl rfl
set_option maxRecDepth 100000 in
theorem wj_lk_chk : Cond.methodLink RJ1 9 yJ0_checkIndex_df160 ∈ WSg := mem_g (i := 337) rfl rfl
set_option maxRecDepth 100000 in
theorem wj_lk_pre : Cond.methodLink RJ0 1059 yJ3_checkIndex_8e157 ∈ WSg := mem_g (i := 342) rfl rfl
set_option maxRecDepth 100000 in
theorem wj_f_cs : Cond.fieldLink RJ0 38 "java/lang/String" "COMPACT_STRINGS" "Z" ∈ WSg := mem_g (i := 324) rfl rfl
set_option maxRecDepth 100000 in
theorem wj_f_co : Cond.fieldLink RJ0 15 "java/lang/String" "coder" "B" ∈ WSg := mem_g (i := 1244) rfl rfl
set_option maxRecDepth 100000 in
theorem wj_f_va : Cond.fieldLink RJ0 9 "java/lang/String" "value" "[B" ∈ WSg := mem_g (i := 1243) rfl rfl
set_option maxRecDepth 100000 in
theorem wj_f_fo : Cond.fieldLink RJ0 1053 "jdk/internal/util/Preconditions" "SIOOBE_FORMATTER" "Ljava/util/function/BiFunction;" ∈ WSg := mem_g (i := 340) rfl rfl
theorem dJ0_length_8abf5_0 : decode cJ0_length_8abf5 0 = .ok (.aload_n 0, 1) := by decide +kernel
theorem dJ0_length_8abf5_1 : decode cJ0_length_8abf5 1 = .ok (.getfield 9, 3) := by decide +kernel
theorem dJ0_length_8abf5_4 : decode cJ0_length_8abf5 4 = .ok (.arraylength, 1) := by decide +kernel
theorem dJ0_length_8abf5_5 : decode cJ0_length_8abf5 5 = .ok (.aload_n 0, 1) := by decide +kernel
theorem dJ0_length_8abf5_6 : decode cJ0_length_8abf5 6 = .ok (.invokevirtual 335, 3) := by decide +kernel
theorem dJ0_length_8abf5_9 : decode cJ0_length_8abf5 9 = .ok (.ishr, 1) := by decide +kernel
theorem dJ0_length_8abf5_10 : decode cJ0_length_8abf5 10 = .ok (.ireturn, 1) := by decide +kernel
theorem dJ0_charAt_5068e_0 : decode cJ0_charAt_5068e 0 = .ok (.aload_n 0, 1) := by decide +kernel
theorem dJ0_charAt_5068e_1 : decode cJ0_charAt_5068e 1 = .ok (.invokevirtual 492, 3) := by decide +kernel
theorem dJ0_charAt_5068e_4 : decode cJ0_charAt_5068e 4 = .ok (.ifCond .eq 12, 3) := by decide +kernel
theorem dJ0_charAt_5068e_7 : decode cJ0_charAt_5068e 7 = .ok (.aload_n 0, 1) := by decide +kernel
theorem dJ0_charAt_5068e_8 : decode cJ0_charAt_5068e 8 = .ok (.getfield 9, 3) := by decide +kernel
theorem dJ0_charAt_5068e_11 : decode cJ0_charAt_5068e 11 = .ok (.iload_n 1, 1) := by decide +kernel
theorem dJ0_charAt_5068e_12 : decode cJ0_charAt_5068e 12 = .ok (.invokestatic 495, 3) := by decide +kernel
theorem dJ0_charAt_5068e_15 : decode cJ0_charAt_5068e 15 = .ok (.ireturn, 1) := by decide +kernel
theorem dJ0_charAt_5068e_16 : decode cJ0_charAt_5068e 16 = .ok (.aload_n 0, 1) := by decide +kernel
theorem dJ0_charAt_5068e_17 : decode cJ0_charAt_5068e 17 = .ok (.getfield 9, 3) := by decide +kernel
theorem dJ0_charAt_5068e_20 : decode cJ0_charAt_5068e 20 = .ok (.iload_n 1, 1) := by decide +kernel
theorem dJ0_charAt_5068e_21 : decode cJ0_charAt_5068e 21 = .ok (.invokestatic 498, 3) := by decide +kernel
theorem dJ0_charAt_5068e_24 : decode cJ0_charAt_5068e 24 = .ok (.ireturn, 1) := by decide +kernel
theorem dJ0_coder_7d493_0 : decode cJ0_coder_7d493 0 = .ok (.getstatic 38, 3) := by decide +kernel
theorem dJ0_coder_7d493_3 : decode cJ0_coder_7d493 3 = .ok (.ifCond .eq 10, 3) := by decide +kernel
theorem dJ0_coder_7d493_6 : decode cJ0_coder_7d493 6 = .ok (.aload_n 0, 1) := by decide +kernel
theorem dJ0_coder_7d493_7 : decode cJ0_coder_7d493 7 = .ok (.getfield 15, 3) := by decide +kernel
theorem dJ0_coder_7d493_10 : decode cJ0_coder_7d493 10 = .ok (.goto 4, 3) := by decide +kernel
theorem dJ0_coder_7d493_13 : decode cJ0_coder_7d493 13 = .ok (.iconst 1, 1) := by decide +kernel
theorem dJ0_coder_7d493_14 : decode cJ0_coder_7d493 14 = .ok (.ireturn, 1) := by decide +kernel
theorem dJ0_isLatin1_aae02_0 : decode cJ0_isLatin1_aae02 0 = .ok (.getstatic 38, 3) := by decide +kernel
theorem dJ0_isLatin1_aae02_3 : decode cJ0_isLatin1_aae02 3 = .ok (.ifCond .eq 14, 3) := by decide +kernel
theorem dJ0_isLatin1_aae02_6 : decode cJ0_isLatin1_aae02 6 = .ok (.aload_n 0, 1) := by decide +kernel
theorem dJ0_isLatin1_aae02_7 : decode cJ0_isLatin1_aae02 7 = .ok (.getfield 15, 3) := by decide +kernel
theorem dJ0_isLatin1_aae02_10 : decode cJ0_isLatin1_aae02 10 = .ok (.ifCond .ne 7, 3) := by decide +kernel
theorem dJ0_isLatin1_aae02_13 : decode cJ0_isLatin1_aae02 13 = .ok (.iconst 1, 1) := by decide +kernel
theorem dJ0_isLatin1_aae02_14 : decode cJ0_isLatin1_aae02 14 = .ok (.goto 4, 3) := by decide +kernel
theorem dJ0_isLatin1_aae02_17 : decode cJ0_isLatin1_aae02 17 = .ok (.iconst 0, 1) := by decide +kernel
theorem dJ0_isLatin1_aae02_18 : decode cJ0_isLatin1_aae02 18 = .ok (.ireturn, 1) := by decide +kernel
theorem dJ0_checkIndex_df160_0 : decode cJ0_checkIndex_df160 0 = .ok (.iload_n 0, 1) := by decide +kernel
theorem dJ0_checkIndex_df160_1 : decode cJ0_checkIndex_df160 1 = .ok (.iload_n 1, 1) := by decide +kernel
theorem dJ0_checkIndex_df160_2 : decode cJ0_checkIndex_df160 2 = .ok (.getstatic 1053, 3) := by decide +kernel
theorem dJ0_checkIndex_df160_5 : decode cJ0_checkIndex_df160 5 = .ok (.invokestatic 1059, 3) := by decide +kernel
theorem dJ0_checkIndex_df160_8 : decode cJ0_checkIndex_df160 8 = .ok (.pop, 1) := by decide +kernel
theorem dJ0_checkIndex_df160_9 : decode cJ0_checkIndex_df160 9 = .ok (.return_, 1) := by decide +kernel
theorem dJ1_charAt_3b067_0 : decode cJ1_charAt_3b067 0 = .ok (.iload_n 1, 1) := by decide +kernel
theorem dJ1_charAt_3b067_1 : decode cJ1_charAt_3b067 1 = .ok (.aload_n 0, 1) := by decide +kernel
theorem dJ1_charAt_3b067_2 : decode cJ1_charAt_3b067 2 = .ok (.arraylength, 1) := by decide +kernel
theorem dJ1_charAt_3b067_3 : decode cJ1_charAt_3b067 3 = .ok (.invokestatic 9, 3) := by decide +kernel
theorem dJ1_charAt_3b067_6 : decode cJ1_charAt_3b067 6 = .ok (.aload_n 0, 1) := by decide +kernel
theorem dJ1_charAt_3b067_7 : decode cJ1_charAt_3b067 7 = .ok (.iload_n 1, 1) := by decide +kernel
theorem dJ1_charAt_3b067_8 : decode cJ1_charAt_3b067 8 = .ok (.baload, 1) := by decide +kernel
theorem dJ1_charAt_3b067_9 : decode cJ1_charAt_3b067 9 = .ok (.sipush 255, 3) := by decide +kernel
theorem dJ1_charAt_3b067_12 : decode cJ1_charAt_3b067 12 = .ok (.iand, 1) := by decide +kernel
theorem dJ1_charAt_3b067_13 : decode cJ1_charAt_3b067 13 = .ok (.i2c, 1) := by decide +kernel
theorem dJ1_charAt_3b067_14 : decode cJ1_charAt_3b067 14 = .ok (.ireturn, 1) := by decide +kernel
theorem dJ3_checkIndex_8e157_0 : decode cJ3_checkIndex_8e157 0 = .ok (.iload_n 0, 1) := by decide +kernel
theorem dJ3_checkIndex_8e157_1 : decode cJ3_checkIndex_8e157 1 = .ok (.ifCond .lt 8, 3) := by decide +kernel
theorem dJ3_checkIndex_8e157_4 : decode cJ3_checkIndex_8e157 4 = .ok (.iload_n 0, 1) := by decide +kernel
theorem dJ3_checkIndex_8e157_5 : decode cJ3_checkIndex_8e157 5 = .ok (.iload_n 1, 1) := by decide +kernel
theorem dJ3_checkIndex_8e157_6 : decode cJ3_checkIndex_8e157 6 = .ok (.if_icmp .lt 10, 3) := by decide +kernel
theorem dJ3_checkIndex_8e157_9 : decode cJ3_checkIndex_8e157 9 = .ok (.aload_n 2, 1) := by decide +kernel
theorem dJ3_checkIndex_8e157_10 : decode cJ3_checkIndex_8e157 10 = .ok (.iload_n 0, 1) := by decide +kernel
theorem dJ3_checkIndex_8e157_11 : decode cJ3_checkIndex_8e157 11 = .ok (.iload_n 1, 1) := by decide +kernel
theorem dJ3_checkIndex_8e157_12 : decode cJ3_checkIndex_8e157 12 = .ok (.invokestatic 95, 3) := by decide +kernel
theorem dJ3_checkIndex_8e157_15 : decode cJ3_checkIndex_8e157 15 = .ok (.athrow, 1) := by decide +kernel
theorem dJ3_checkIndex_8e157_16 : decode cJ3_checkIndex_8e157 16 = .ok (.iload_n 0, 1) := by decide +kernel
theorem dJ3_checkIndex_8e157_17 : decode cJ3_checkIndex_8e157 17 = .ok (.ireturn, 1) := by decide +kernel
end
section
/-! String.length and String.charAt of the class's String constants. -/
section STR
variable {l : Launch} {G : AG} {a0 a1 : Nat}
def PcJ (G : AG) (a0 a1 : Nat) (av : List Value) : Array Value → State → Prop := fun v U => v = av.toArray ∧ KS G a0 a1 U
theorem blindJ (av : List Value) : FrameBlind (PcJ G a0 a1 av) := fun a U g mk h => ⟨h.1, h.2.same rfl rfl⟩
theorem gI {w0 : Cond} {ws' : List Cond} (h : ∀ w ∈ ws', w ∈ WSg) : GoodIn (w0 :: WSg) ws' := fun w hw => ⟨List.mem_cons_of_mem _ (h w hw), good_of_word (List.mem_filter.mp (h w hw)).2⟩
theorem inc {w : Cond} (h : w ∈ WSg) : ∀ u ∈ w :: WSg, u ∈ WSg := fun u hu => (List.mem_cons.mp hu).elim (fun e => e ▸ h) id
theorem preJ {s : State} {H : Heap} {av : List Value} (hK : KS G a0 a1 s) (hH : H = s.heap) : ∀ U : State, U.heap = H → s.WarmedH U.vm → PcJ G a0 a1 av av.toArray U := fun U hU hW => ⟨rfl, hK.warm hW (by rw [hU, hH]; exact Nat.le_refl _) (fun q _ _ => by rw [hU, hH])⟩
set_option maxRecDepth 100000 in
theorem c_coder {i : Nat} (hi : i < 9) : Met l yJ0_coder_7d493 (Cond.code yJ0_coder_7d493 cJ0_coder_7d493 1 (some .byte) :: WSg) { frames := 0, cells := 0, slots := 0, locals := 0 } (PcJ G a0 a1 [.ref (gK G i)]) (QcRead 0) 0 0 (fun _ => False) := by
  refine Met.ofW (cc := cJ0_coder_7d493) (maxL := 1) (ret := (some .byte)) (by decide) rfl ?_
  intro p e s m args below meth c s₁ B hml hv
  obtain ⟨rfl, hK⟩ := hv
  have hx := B.exec
  have hb := B.bytes
  have hr := B.returns
  have hts := atoms_spec (ws := Cond.code yJ0_coder_7d493 cJ0_coder_7d493 1 (some .byte) :: WSg) B.pre
  have hw : ∀ w ∈ WSg, w.before _ s = true := fun w h => hts w (List.mem_cons_of_mem _ h)
  have hown : s.vm.findClass RJ0 = some m.cls := findClass_of_methodNamed B.named
  have hlocks := B.notSynchronized
  have hS : va_S (gA G) s.heap s.heap [] := va_S.rf
  have hl := lv_entry ([.ref (gK G i)]) (n := 1) (Nat.le_of_ble_eq_true rfl)
  rw [lg_entry_eq]
  generalize (lg_sl ([.ref (gK G i)]) ++ List.replicate (1 - (lg_sl ([.ref (gK G i)])).length) Slot.unset).toArray = ls at hl ⊢
  refine va_gets hx hb hK.2.2.2.2.1 hS hown (hw _ wj_f_cs) (fun z hz => hz) dJ0_coder_7d493_0 ?_
  refine lv_if_eq (tgt := 13) hx hb dJ0_coder_7d493_3 (by decide) (fun q => absurd q (by decide)) (fun _ => ?_)
  refine lv_aload_n hx hb dJ0_coder_7d493_6 rfl (lv_at hl 0 rfl) ?_
  refine vk_getf hx hb (hK.2.2.2.2.2.1.1 i hi).2.1 hS hown (hw _ wj_f_co) (fun z hz => hz) dJ0_coder_7d493_7 ?_
  refine lv_goto (tgt := 14) hx hb dJ0_coder_7d493_10 (by decide) ?_
  exact W.zret (ty := .byte) hx hb hr rfl (fun t ht _ => ⟨rfl, ht⟩) (fun q h => by cases h) dJ0_coder_7d493_14
set_option maxRecDepth 100000 in
theorem c_isl {i : Nat} (hi : i < 9) : Met l yJ0_isLatin1_aae02 (Cond.code yJ0_isLatin1_aae02 cJ0_isLatin1_aae02 1 (some .boolean) :: WSg) { frames := 0, cells := 0, slots := 0, locals := 0 } (PcJ G a0 a1 [.ref (gK G i)]) (QcRead 1) 0 0 (fun _ => False) := by
  refine Met.ofW (cc := cJ0_isLatin1_aae02) (maxL := 1) (ret := (some .boolean)) (by decide) rfl ?_
  intro p e s m args below meth c s₁ B hml hv
  obtain ⟨rfl, hK⟩ := hv
  have hx := B.exec
  have hb := B.bytes
  have hr := B.returns
  have hts := atoms_spec (ws := Cond.code yJ0_isLatin1_aae02 cJ0_isLatin1_aae02 1 (some .boolean) :: WSg) B.pre
  have hw : ∀ w ∈ WSg, w.before _ s = true := fun w h => hts w (List.mem_cons_of_mem _ h)
  have hown : s.vm.findClass RJ0 = some m.cls := findClass_of_methodNamed B.named
  have hlocks := B.notSynchronized
  have hS : va_S (gA G) s.heap s.heap [] := va_S.rf
  have hl := lv_entry ([.ref (gK G i)]) (n := 1) (Nat.le_of_ble_eq_true rfl)
  rw [lg_entry_eq]
  generalize (lg_sl ([.ref (gK G i)]) ++ List.replicate (1 - (lg_sl ([.ref (gK G i)])).length) Slot.unset).toArray = ls at hl ⊢
  refine va_gets hx hb hK.2.2.2.2.1 hS hown (hw _ wj_f_cs) (fun z hz => hz) dJ0_isLatin1_aae02_0 ?_
  refine lv_if_eq (tgt := 17) hx hb dJ0_isLatin1_aae02_3 (by decide) (fun q => absurd q (by decide)) (fun _ => ?_)
  refine lv_aload_n hx hb dJ0_isLatin1_aae02_6 rfl (lv_at hl 0 rfl) ?_
  refine vk_getf hx hb (hK.2.2.2.2.2.1.1 i hi).2.1 hS hown (hw _ wj_f_co) (fun z hz => hz) dJ0_isLatin1_aae02_7 ?_
  refine lv_if_ne (tgt := 17) hx hb dJ0_isLatin1_aae02_10 (by decide) (fun q => absurd q (by decide)) (fun _ => ?_)
  refine lv_iconst (v := 1) hx hb dJ0_isLatin1_aae02_13 (by decide) ?_
  refine lv_goto (tgt := 18) hx hb dJ0_isLatin1_aae02_14 (by decide) ?_
  exact W.zret (ty := .boolean) hx hb hr rfl (fun t ht _ => ⟨rfl, ht⟩) (fun q h => by cases h) dJ0_isLatin1_aae02_18
theorem sh0 : ∀ i, i < 9 → Int32.ofNat (lenS.getD i 0) >>> ((0 : Int32) &&& 31) = Int32.ofNat (lenS.getD i 0) := by decide +kernel
set_option maxRecDepth 100000 in
theorem c_len {i : Nat} (hi : i < 9) : Met l yJ0_length_8abf5 (Cond.code yJ0_length_8abf5 cJ0_length_8abf5 1 (some .int) :: WSg) { frames := 1, cells := 0, slots := 0, locals := 20 } (PcJ G a0 a1 [.ref (gK G i)]) (QcRead (Int32.ofNat (lenS.getD i 0))) 0 0 (fun _ => False) := by
  refine Met.ofW (cc := cJ0_length_8abf5) (maxL := 1) (ret := (some .int)) (by decide) rfl ?_
  intro p e s m args below meth c s₁ B hml hv
  obtain ⟨rfl, hK⟩ := hv
  have hx := B.exec
  have hb := B.bytes
  have hr := B.returns
  have hts := atoms_spec (ws := Cond.code yJ0_length_8abf5 cJ0_length_8abf5 1 (some .int) :: WSg) B.pre
  have hw : ∀ w ∈ WSg, w.before _ s = true := fun w h => hts w (List.mem_cons_of_mem _ h)
  have hown : s.vm.findClass RJ0 = some m.cls := findClass_of_methodNamed B.named
  have hlocks := B.notSynchronized
  have hS : va_S (gA G) s.heap s.heap [] := va_S.rf
  have hl := lv_entry ([.ref (gK G i)]) (n := 1) (Nat.le_of_ble_eq_true rfl)
  rw [lg_entry_eq]
  generalize (lg_sl ([.ref (gK G i)]) ++ List.replicate (1 - (lg_sl ([.ref (gK G i)])).length) Slot.unset).toArray = ls at hl ⊢
  refine lv_aload_n hx hb dJ0_length_8abf5_0 rfl (lv_at hl 0 rfl) ?_
  refine vk_getf hx hb (hK.2.2.2.2.2.1.1 i hi).2.2.1 hS hown (hw _ wj_f_va) (fun z hz => hz) dJ0_length_8abf5_1 ?_
  obtain ⟨cell, h1, h2, h3, h4, h5, h6, h7⟩ := (hK.2.2.2.2.2.1.1 i hi).2.2.2
  refine W.alen (n := Int32.ofNat (lenS.getD i 0)) hx hb h1 h2 h5 (g := F0 m 4 ls _) rfl rfl dJ0_length_8abf5_4 ?_
  refine lv_aload_n hx hb dJ0_length_8abf5_5 rfl (lv_at hl 0 rfl) ?_
  refine W.callR (W.runV (As := []) (rest := [.int (Int32.ofNat (lenS.getD i 0))]) ⟨hx, hb, hml, hown, hts⟩ (c_coder (a0 := a0) (a1 := a1) hi) ⟨callB_of 0 hts (gI (inc wj_cod_code)) rfl rfl rfl (hw _ wj_ini_RJ0) (hw _ wj_lk_cod) (by decide +kernel) ⟨Nat.le_of_ble_eq_true rfl, Nat.le_of_ble_eq_true rfl⟩, hw _ wj_cod_inst, hw _ wj_cod_sel⟩ ⟨blindJ _, vk_recv hK.2.2.2.2.2.1 hi hS, preJ hK rfl⟩ rfl rfl hl.1 rfl (lv_room (Nat.le_of_ble_eq_true rfl)) dJ0_length_8abf5_6 ⟨Nat.le_refl _, Nat.le_refl _⟩) ?_
  refine lv_ishr hx hb dJ0_length_8abf5_9 ?_
  rw [sh0 i hi]
  exact W.iret hx hb hr (fun t ht _ => ⟨rfl, ht⟩) (fun q h => by cases h) dJ0_length_8abf5_10
set_option maxRecDepth 100000 in
theorem c_pre {x n : Int32} {v : Value} (hv : v = .null ∨ ∃ a, v = .ref a) (h0 : ¬ x < 0) (hn : x < n) : Met l yJ3_checkIndex_8e157 (Cond.code yJ3_checkIndex_8e157 cJ3_checkIndex_8e157 3 (some .int) :: WSg) { frames := 0, cells := 0, slots := 0, locals := 0 } (PcJ G a0 a1 [.int x, .int n, v]) (QcRead x) 0 0 (fun _ => False) := by
  refine Met.ofW (cc := cJ3_checkIndex_8e157) (maxL := 3) (ret := (some .int)) (by decide) rfl ?_
  intro p e s m args below meth c s₁ B hml hv
  obtain ⟨rfl, hK⟩ := hv
  have hx := B.exec
  have hb := B.bytes
  have hr := B.returns
  have hts := atoms_spec (ws := Cond.code yJ3_checkIndex_8e157 cJ3_checkIndex_8e157 3 (some .int) :: WSg) B.pre
  have hw : ∀ w ∈ WSg, w.before _ s = true := fun w h => hts w (List.mem_cons_of_mem _ h)
  have hown : s.vm.findClass RJ3 = some m.cls := findClass_of_methodNamed B.named
  have hlocks := B.notSynchronized
  have hS : va_S (gA G) s.heap s.heap [] := va_S.rf
  have hl := lv_entry ([.int x, .int n, v]) (n := 3) (by rcases hv with rfl | ⟨a, rfl⟩ <;> exact Nat.le_of_ble_eq_true rfl)
  have hl : lv_has _ 3 [(0, .int x), (1, .int n)] := lv_sub hl [0, 1] rfl
  rw [lg_entry_eq]
  generalize (lg_sl ([.int x, .int n, v]) ++ List.replicate (3 - (lg_sl ([.int x, .int n, v])).length) Slot.unset).toArray = ls at hl ⊢
  refine lv_iload_n hx hb dJ3_checkIndex_8e157_0 rfl (lv_at hl 0 rfl) ?_
  refine lv_if_lt (tgt := 9) hx hb dJ3_checkIndex_8e157_1 (by decide) (fun q => absurd q h0) (fun _ => ?_)
  refine lv_iload_n hx hb dJ3_checkIndex_8e157_4 rfl (lv_at hl 0 rfl) ?_
  refine lv_iload_n hx hb dJ3_checkIndex_8e157_5 rfl (lv_at hl 1 rfl) ?_
  refine lv_icmp_lt (tgt := 16) hx hb dJ3_checkIndex_8e157_6 (by decide) (fun _ => ?_) (fun q => absurd hn q)
  refine lv_iload_n hx hb dJ3_checkIndex_8e157_16 rfl (lv_at hl 0 rfl) ?_
  exact W.iret hx hb hr (fun t ht _ => ⟨rfl, ht⟩) (fun q h => by cases h) dJ3_checkIndex_8e157_17
def QcV0 : Array Value → State → Outcome → State → Prop := fun _ st o t => o = .returned none ∧ t.heap = st.heap
theorem callV0 {p : Program} {l : Launch} {e : Env} {R : Room} {s : State} {m : MethodId} {args : Array Value} {below : List Frame} {meth : Method} {c : Code} {H : Heap} {locs : List Loc} {cells slots : Nat} {Q : State → Prop} {g : JFrame} {rest : List Value} {a : Array Value}
    (hr : CallRun p l e R s m args below meth c H locs cells slots 0 0 g rest (QcV0 a) (fun _ => False)) (kk : W p l e R s m args below meth c H locs cells slots Q { g with pc := g.pc + 3, stack := rest }) : W p l e R s m args below meth c H locs cells slots Q g := by
  intro T hT X
  obtain ⟨v, st₀, t, T', L, h0, X', hL, e1, ⟨hv, hh⟩, st⟩ := hr T hT X
  cases hv
  obtain ⟨t2, a1, b1⟩ := kk T' (by rw [e1, hh, h0]) (Stand.forget X' (fun q h => (hL q h).elim))
  exact ⟨t2, st t2 a1, b1⟩
set_option maxRecDepth 100000 in
theorem c_chk {x n : Int32} (h0 : ¬ x < 0) (hn : x < n) : Met l yJ0_checkIndex_df160 (Cond.code yJ0_checkIndex_df160 cJ0_checkIndex_df160 2 none :: WSg) { frames := 1, cells := 0, slots := 0, locals := 22 } (PcJ G a0 a1 [.int x, .int n]) QcV0 0 0 (fun _ => False) := by
  refine Met.ofW (cc := cJ0_checkIndex_df160) (maxL := 2) (ret := none) (by decide) rfl ?_
  intro p e s m args below meth c s₁ B hml hv
  obtain ⟨rfl, hK⟩ := hv
  have hx := B.exec
  have hb := B.bytes
  have hr := B.returns
  have hts := atoms_spec (ws := Cond.code yJ0_checkIndex_df160 cJ0_checkIndex_df160 2 none :: WSg) B.pre
  have hw : ∀ w ∈ WSg, w.before _ s = true := fun w h => hts w (List.mem_cons_of_mem _ h)
  have hown : s.vm.findClass RJ0 = some m.cls := findClass_of_methodNamed B.named
  have hlocks := B.notSynchronized
  have hS : va_S (gA G) s.heap s.heap [] := va_S.rf
  have hl := lv_entry ([.int x, .int n]) (n := 2) (Nat.le_of_ble_eq_true rfl)
  rw [lg_entry_eq]
  generalize (lg_sl ([.int x, .int n]) ++ List.replicate (2 - (lg_sl ([.int x, .int n])).length) Slot.unset).toArray = ls at hl ⊢
  refine lv_iload_n hx hb dJ0_checkIndex_df160_0 rfl (lv_at hl 0 rfl) ?_
  refine lv_iload_n hx hb dJ0_checkIndex_df160_1 rfl (lv_at hl 1 rfl) ?_
  obtain ⟨v, hv, hz⟩ : ∃ v, (v = Value.null ∨ ∃ a, v = Value.ref a) ∧ va_Z "jdk/internal/util/Preconditions" "SIOOBE_FORMATTER" "Ljava/util/function/BiFunction;" v (gA G) s s.heap := by
    rcases hK.2.2.2.2.2.2.2.2.2.2.2.2.2.2 with hz | ⟨tq, hz⟩
    · exact ⟨_, Or.inl rfl, hz⟩
    · exact ⟨_, Or.inr ⟨tq, rfl⟩, hz⟩
  refine va_gets hx hb hz hS hown (hw _ wj_f_fo) (fun z hz => hz) dJ0_checkIndex_df160_2 ?_
  refine W.callR (W.runS (As := [.int x, .int n, v]) (rest := []) ⟨hx, hb, hml, hown, hts⟩ (c_pre (G := G) (a0 := a0) (a1 := a1) hv h0 hn) ⟨callB_of 3 hts (gI (inc wj_pre_code)) rfl rfl rfl (hw _ wj_ini_RJ3) (hw _ wj_lk_pre) (by decide +kernel) ⟨Nat.le_of_ble_eq_true rfl, Nat.le_of_ble_eq_true rfl⟩, hw _ wj_pre_st⟩ ⟨blindJ _, preJ hK rfl⟩ rfl rfl hl.1 rfl (lv_room (Nat.le_of_ble_eq_true rfl)) dJ0_checkIndex_df160_5 ⟨Nat.le_refl _, Nat.le_refl _⟩) ?_
  refine lv_pop hx hb dJ0_checkIndex_df160_8 rfl ?_
  exact W.vret hx hb hr (fun t ht _ => ⟨rfl, ht⟩) (fun q h => by cases h) dJ0_checkIndex_df160_9
theorem len_lt : ∀ i, i < 9 → lenS.getD i 0 < 2 ^ 31 := by decide +kernel
theorem chE : ∀ i, i < 9 → ∀ k, k < lenS.getD i 0 → ((((bytS.getD i []).getD k 0) &&& (Int16.ofInt 255).toInt32).toUInt32 % 65536).toInt32 = Int32.ofInt ((am_str.getD i []).getD k 0) ∧ narrow .char (.int (Int32.ofInt ((am_str.getD i []).getD k 0))) = .int (Int32.ofInt ((am_str.getD i []).getD k 0)) := by decide +kernel
set_option maxRecDepth 100000 in
theorem c_lat {i k : Nat} (hi : i < 9) (hk : k < lenS.getD i 0) : Met l yJ1_charAt_3b067 (Cond.code yJ1_charAt_3b067 cJ1_charAt_3b067 2 (some .char) :: WSg) { frames := 2, cells := 0, slots := 0, locals := 43 } (PcJ G a0 a1 [.ref (gV G i), .int (nI k)]) (QcRead (Int32.ofInt ((am_str.getD i []).getD k 0))) 0 0 (fun _ => False) := by
  refine Met.ofW (cc := cJ1_charAt_3b067) (maxL := 2) (ret := (some .char)) (by decide) rfl ?_
  intro p e s m args below meth c s₁ B hml hv
  obtain ⟨rfl, hK⟩ := hv
  have hx := B.exec
  have hb := B.bytes
  have hr := B.returns
  have hts := atoms_spec (ws := Cond.code yJ1_charAt_3b067 cJ1_charAt_3b067 2 (some .char) :: WSg) B.pre
  have hw : ∀ w ∈ WSg, w.before _ s = true := fun w h => hts w (List.mem_cons_of_mem _ h)
  have hown : s.vm.findClass RJ1 = some m.cls := findClass_of_methodNamed B.named
  have hlocks := B.notSynchronized
  have hS : va_S (gA G) s.heap s.heap [] := va_S.rf
  have hl := lv_entry ([.ref (gV G i), .int (nI k)]) (n := 2) (Nat.le_of_ble_eq_true rfl)
  rw [lg_entry_eq]
  generalize (lg_sl ([.ref (gV G i), .int (nI k)]) ++ List.replicate (2 - (lg_sl ([.ref (gV G i), .int (nI k)])).length) Slot.unset).toArray = ls at hl ⊢
  have hL := len_lt i hi
  obtain ⟨cell, h1, h2, h3, h4, h5, h6, h7⟩ := (hK.2.2.2.2.2.1.1 i hi).2.2.2
  refine lv_iload_n hx hb dJ1_charAt_3b067_0 rfl (lv_at hl 1 rfl) ?_
  refine lv_aload_n hx hb dJ1_charAt_3b067_1 rfl (lv_at hl 0 rfl) ?_
  refine W.alen (n := Int32.ofNat (lenS.getD i 0)) hx hb h1 h2 h5 (g := F0 m 2 ls _) rfl rfl dJ1_charAt_3b067_2 ?_
  refine callV0 (W.runS (As := [.int (nI k), .int (Int32.ofNat (lenS.getD i 0))]) (rest := []) ⟨hx, hb, hml, hown, hts⟩ (c_chk (G := G) (a0 := a0) (a1 := a1) (nI_pos (by omega)) (nI_lt hk hL)) ⟨callB_of 2 hts (gI (inc wj_chk_code)) rfl rfl rfl (hw _ wj_ini_RJ0) (hw _ wj_lk_chk) (by decide +kernel) ⟨Nat.le_of_ble_eq_true rfl, Nat.le_of_ble_eq_true rfl⟩, hw _ wj_chk_st⟩ ⟨blindJ _, preJ hK rfl⟩ rfl rfl hl.1 rfl (lv_room (Nat.le_of_ble_eq_true rfl)) dJ1_charAt_3b067_3 ⟨Nat.le_refl _, Nat.le_refl _⟩) ?_
  refine lv_aload_n hx hb dJ1_charAt_3b067_6 rfl (lv_at hl 0 rfl) ?_
  refine lv_iload_n hx hb dJ1_charAt_3b067_7 rfl (lv_at hl 1 rfl) ?_
  refine W.bald (v := .int ((bytS.getD i []).getD k 0)) hx hb h1 h2 h3 ?_ ?_ (g := F0 m 8 ls _) rfl rfl dJ1_charAt_3b067_8 ?_
  · rw [nI_clamp (by omega)]
    intro q
    rcases q with q | q
    · exact nI_pos (by omega) q
    · omega
  · rw [nI_clamp (by omega)]; exact h6 k hk
  refine lv_sipush hx hb dJ1_charAt_3b067_9 rfl ?_
  refine lv_iand hx hb dJ1_charAt_3b067_12 ?_
  refine lv_i2c hx hb dJ1_charAt_3b067_13 (chE i hi k hk).1 ?_
  exact W.zret (ty := .char) hx hb hr (chE i hi k hk).2 (fun t ht _ => ⟨rfl, ht⟩) (fun q h => by cases h) dJ1_charAt_3b067_14
set_option maxRecDepth 100000 in
theorem c_cha {i k : Nat} (hi : i < 9) (hk : k < lenS.getD i 0) : Met l yJ0_charAt_5068e (Cond.code yJ0_charAt_5068e cJ0_charAt_5068e 2 (some .char) :: WSg) { frames := 3, cells := 0, slots := 0, locals := 64 } (PcJ G a0 a1 [.ref (gK G i), .int (nI k)]) (QcRead (Int32.ofInt ((am_str.getD i []).getD k 0))) 0 0 (fun _ => False) := by
  refine Met.ofW (cc := cJ0_charAt_5068e) (maxL := 2) (ret := (some .char)) (by decide) rfl ?_
  intro p e s m args below meth c s₁ B hml hv
  obtain ⟨rfl, hK⟩ := hv
  have hx := B.exec
  have hb := B.bytes
  have hr := B.returns
  have hts := atoms_spec (ws := Cond.code yJ0_charAt_5068e cJ0_charAt_5068e 2 (some .char) :: WSg) B.pre
  have hw : ∀ w ∈ WSg, w.before _ s = true := fun w h => hts w (List.mem_cons_of_mem _ h)
  have hown : s.vm.findClass RJ0 = some m.cls := findClass_of_methodNamed B.named
  have hlocks := B.notSynchronized
  have hS : va_S (gA G) s.heap s.heap [] := va_S.rf
  have hl := lv_entry ([.ref (gK G i), .int (nI k)]) (n := 2) (Nat.le_of_ble_eq_true rfl)
  rw [lg_entry_eq]
  generalize (lg_sl ([.ref (gK G i), .int (nI k)]) ++ List.replicate (2 - (lg_sl ([.ref (gK G i), .int (nI k)])).length) Slot.unset).toArray = ls at hl ⊢
  refine lv_aload_n hx hb dJ0_charAt_5068e_0 rfl (lv_at hl 0 rfl) ?_
  refine W.callR (W.runV (As := []) (rest := []) ⟨hx, hb, hml, hown, hts⟩ (c_isl (a0 := a0) (a1 := a1) hi) ⟨callB_of 0 hts (gI (inc wj_isl_code)) rfl rfl rfl (hw _ wj_ini_RJ0) (hw _ wj_lk_isl) (by decide +kernel) ⟨Nat.le_of_ble_eq_true rfl, Nat.le_of_ble_eq_true rfl⟩, hw _ wj_isl_inst, hw _ wj_isl_sel⟩ ⟨blindJ _, vk_recv hK.2.2.2.2.2.1 hi hS, preJ hK rfl⟩ rfl rfl hl.1 rfl (lv_room (Nat.le_of_ble_eq_true rfl)) dJ0_charAt_5068e_1 ⟨Nat.zero_le _, Nat.zero_le _⟩) ?_
  refine lv_if_eq (tgt := 16) hx hb dJ0_charAt_5068e_4 (show ((4 : Nat) : Int) + 12 = ((16 : Nat) : Int) by decide) (fun q => absurd q (by decide)) (fun _ => ?_)
  refine lv_aload_n hx hb dJ0_charAt_5068e_7 rfl (lv_at hl 0 rfl) ?_
  refine vk_getf hx hb (hK.2.2.2.2.2.1.1 i hi).2.2.1 hS hown (hw _ wj_f_va) (fun z hz => hz) dJ0_charAt_5068e_8 ?_
  refine lv_iload_n hx hb dJ0_charAt_5068e_11 rfl (lv_at hl 1 rfl) ?_
  refine W.callR (W.runS (As := [.ref (gV G i), .int (nI k)]) (rest := []) ⟨hx, hb, hml, hown, hts⟩ (c_lat (a0 := a0) (a1 := a1) hi hk) ⟨callB_of 2 hts (gI (inc wj_lat_code)) rfl rfl rfl (hw _ wj_ini_RJ1) (hw _ wj_lk_lat) (by decide +kernel) ⟨Nat.le_of_ble_eq_true rfl, Nat.le_of_ble_eq_true rfl⟩, hw _ wj_lat_st⟩ ⟨blindJ _, preJ hK rfl⟩ rfl rfl hl.1 rfl (lv_room (Nat.le_of_ble_eq_true rfl)) dJ0_charAt_5068e_12 ⟨Nat.zero_le _, Nat.zero_le _⟩) ?_
  exact W.zret (ty := .char) hx hb hr (chE i hi k hk).2 (fun t ht _ => ⟨rfl, ht⟩) (fun q h => by cases h) dJ0_charAt_5068e_15
end STR
section STRG
variable {p : Program} {l : Launch} {e : Env} {R : Room} {s : State} {mm : MethodId} {args : Array Value} {below : List Frame} {meth : Method} {c : Code} {Q : State → Prop}
variable {G : AG} {nL n0 t0 pc : Nat} {as0 : List Nat} {ls st : List AV} {h : AH} {cc : ByteArray}
theorem KS.at {a0 a1 : Nat} {H : Heap} {locs : List Loc} (hK : KS G a0 a1 s) (hS : va_S (gA G) s.heap H locs) (av : List Value) : ∀ U : State, U.heap = H → s.WarmedH U.vm → PcJ G a0 a1 av av.toArray U := fun U hU hW => ⟨rfl, hK.warm hW (by rw [hU]; exact hS.1) (fun q h1 h2 => by rw [hU]; exact hS.2.1 q h1 h2)⟩
theorem str_len : ∀ i, i < 9 → am_str[i]? = some (am_str.getD i []) ∧ (am_str.getD i []).length = lenS.getD i 0 := by decide +kernel
theorem g_strl (hx : p.tables.exec = Jvm.exec) (hb : c.code = cc) (hml : c.maxLocals = nL) {own : String} (hown : s.vm.findClass own = some mm.cls) {w0 : Cond} (hts : ∀ w ∈ w0 :: WSg, w.before args s = true) {a0 a1 : Nat} (hK : KS G a0 a1 s) {i : Nat} {k n : Int} (hd : decode cc pc = .ok (.invokevirtual i, 3)) (hlk : (Cond.methodLink own i yJ0_length_8abf5).before args s = true)
    (hct : catL st ≤ 8) (hfr : 8 ≤ R.frames) (hlo : 400 ≤ R.locals) (hrc : h.length ≤ n0 + R.cells) (hrs : tot h ≤ t0 + R.slots) (he : strl k = some n) (hN : Gd G p l e R s mm args below meth c Q nL n0 t0 as0 (pc + 3) ls ((0, n) :: st) h) : Gd G p l e R s mm args below meth c Q nL n0 t0 as0 pc ls ((3, k) :: st) h := by
  intro as H locs cells slots lsA hE hR hS hL hO hc hs
  have hk : 0 ≤ k ∧ k < 9 := by rcases oks_hd hO with ⟨a, -⟩ | ⟨a, -⟩ | ⟨-, a⟩ | ⟨a, -⟩ <;> first | (cases a; done) | exact a | exact absurd a (by show ¬ 100 ≤ 3; omega)
  have hi : k.toNat < 9 := by omega
  have hn : n = ((lenS.getD k.toNat 0 : Nat) : Int) := by
    unfold strl at he
    rw [(str_len _ hi).1] at he
    have he : (if 0 ≤ k then some (Int.ofNat (am_str.getD k.toNat []).length) else none) = some n := he
    rw [if_pos hk.1, (str_len _ hi).2] at he
    exact (Option.some.inj he).symm
  have hnI : inI n := by rw [hn]; have := len_lt _ hi; constructor <;> omega
  have hkk := hN as H locs cells slots lsA hE hR hS hL (oks_cons (ok0I hnI) (oks_tl hO)) hc hs
  rw [List.map_cons, cv0, hn] at hkk
  rw [List.map_cons, cv3]
  have hw : ∀ w ∈ WSg, w.before args s = true := fun w h => hts w (List.mem_cons_of_mem _ h)
  refine W.callR (W.runV (As := []) (rest := st.map (cvv G as)) ⟨hx, hb, hml, hown, hts⟩ (c_len (a0 := a0) (a1 := a1) hi) ⟨callB_of 0 hts (gI (inc wj_len_code)) rfl rfl rfl (hw _ wj_ini_RJ0) hlk (by decide +kernel) ⟨by show 1 + 1 ≤ R.frames; omega, by show 8 + (1 + 11) + 20 ≤ R.locals; omega⟩, hw _ wj_len_inst, hw _ wj_len_sel⟩ ⟨blindJ _, vk_recv hK.2.2.2.2.2.1 hi hS, hK.at hS _⟩ rfl rfl hL.2.2.1 rfl (lv_room (by rw [catE]; exact hct)) hd ⟨by omega, by omega⟩) hkk
theorem g_strc (hx : p.tables.exec = Jvm.exec) (hb : c.code = cc) (hml : c.maxLocals = nL) {own : String} (hown : s.vm.findClass own = some mm.cls) {w0 : Cond} (hts : ∀ w ∈ w0 :: WSg, w.before args s = true) {a0 a1 : Nat} (hK : KS G a0 a1 s) {i : Nat} {k j n : Int} (hd : decode cc pc = .ok (.invokevirtual i, 3)) (hlk : (Cond.methodLink own i yJ0_charAt_5068e).before args s = true)
    (hct : catL st ≤ 8) (hfr : 8 ≤ R.frames) (hlo : 400 ≤ R.locals) (hrc : h.length ≤ n0 + R.cells) (hrs : tot h ≤ t0 + R.slots) (he : strc k j = some n) (hN : Gd G p l e R s mm args below meth c Q nL n0 t0 as0 (pc + 3) ls ((0, n) :: st) h) : Gd G p l e R s mm args below meth c Q nL n0 t0 as0 pc ls ((0, j) :: (3, k) :: st) h := by
  intro as H locs cells slots lsA hE hR hS hL hO hc hs
  have hk : 0 ≤ k ∧ k < 9 := by rcases oks_hd (oks_tl hO) with ⟨a, -⟩ | ⟨a, -⟩ | ⟨-, a⟩ | ⟨a, -⟩ <;> first | (cases a; done) | exact a | exact absurd a (by show ¬ 100 ≤ 3; omega)
  have hi : k.toNat < 9 := by omega
  have hjI := ok0 (oks_hd hO)
  unfold strc at he
  rw [(str_len _ hi).1] at he
  have he : (if 0 ≤ k ∧ 0 ≤ j then (am_str.getD k.toNat [])[j.toNat]? else none) = some n := he
  by_cases hq : 0 ≤ k ∧ 0 ≤ j
  · rw [if_pos hq] at he
    have hjl : j.toNat < lenS.getD k.toNat 0 := by rw [← (str_len _ hi).2]; exact (List.getElem?_eq_some_iff.mp he).1
    have hn : n = (am_str.getD k.toNat []).getD j.toNat 0 := by rw [gdE, he]; rfl
    have hnI : inI n := by
      have h0 : ∀ i, i < 9 → ∀ x ∈ am_str.getD i [], 0 ≤ x ∧ x < 65536 := by decide +kernel
      have := h0 _ hi n (List.mem_of_getElem? he)
      constructor <;> omega
    have hkk := hN as H locs cells slots lsA hE hR hS hL (oks_cons (ok0I hnI) (oks_tl (oks_tl hO))) hc hs
    rw [List.map_cons, cv0, hn] at hkk
    have hj : Int32.ofInt j = nI j.toNat := by
      show _ = Int32.ofInt ((j.toNat : Nat) : Int)
      congr 1; omega
    rw [List.map_cons, List.map_cons, cv3, cv0, hj]
    have hw : ∀ w ∈ WSg, w.before args s = true := fun w h => hts w (List.mem_cons_of_mem _ h)
    refine W.callR (W.runV (As := [.int (nI j.toNat)]) (rest := st.map (cvv G as)) ⟨hx, hb, hml, hown, hts⟩ (c_cha (a0 := a0) (a1 := a1) hi hjl) ⟨callB_of 1 hts (gI (inc wj_cha_code)) rfl rfl rfl (hw _ wj_ini_RJ0) hlk (by decide +kernel) ⟨by show 3 + 1 ≤ R.frames; omega, by show 8 + (2 + 11) + 64 ≤ R.locals; omega⟩, hw _ wj_cha_inst, hw _ wj_cha_sel⟩ ⟨blindJ _, vk_recv hK.2.2.2.2.2.1 hi hS, hK.at hS _⟩ rfl rfl hL.2.2.1 rfl (lv_room (by rw [catE]; exact hct)) hd ⟨by omega, by omega⟩) hkk
  · rw [if_neg hq] at he; cases he
end STRG
end
section
theorem zz_one : 1 = 1 := rfl
end
