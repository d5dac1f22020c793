section
-- ===== PART A: goes FIRST, ahead of the names: the tables' words, and 'selects' of the private methods out of them =====
/-- a private method of a class that the tables say can be made, by its rows of tables_1 -/
def lw_okq (q : MethodName × Nat) : Prop := (q.1.cls ≠ "java/lang/invoke/MethodHandle" ∧ q.1.cls ≠ "java/lang/invoke/VarHandle") ∧ Cond.instantiable q.1.cls q.2 ∈ tables_1 ∧ Cond.privateMethod q.1 ∈ tables_1 ∧ Cond.instanceMethod q.1 ∈ tables_1
theorem lw_p0 : lw_okq (⟨"EqualCourt", "refused", "(I)I"⟩, 13) := ⟨⟨by decide +kernel, by decide +kernel⟩, List.mem_of_getElem? (i := 15) (by decide +kernel), List.mem_of_getElem? (i := 326) (by decide +kernel), List.mem_of_getElem? (i := 327) (by decide +kernel)⟩
theorem lw_p1 : lw_okq (⟨"EqualCourt", "madeTerm", "(IIIII)I"⟩, 13) := ⟨⟨by decide +kernel, by decide +kernel⟩, List.mem_of_getElem? (i := 15) (by decide +kernel), List.mem_of_getElem? (i := 330) (by decide +kernel), List.mem_of_getElem? (i := 331) (by decide +kernel)⟩
theorem lw_p2 : lw_okq (⟨"EqualCourt$Partition", "unite", "(II)V"⟩, 14) := ⟨⟨by decide +kernel, by decide +kernel⟩, List.mem_of_getElem? (i := 146) (by decide +kernel), List.mem_of_getElem? (i := 400) (by decide +kernel), List.mem_of_getElem? (i := 401) (by decide +kernel)⟩
theorem lw_p3 : lw_okq (⟨"EqualCourt$Partition", "uniteRows", "(II)V"⟩, 14) := ⟨⟨by decide +kernel, by decide +kernel⟩, List.mem_of_getElem? (i := 146) (by decide +kernel), List.mem_of_getElem? (i := 407) (by decide +kernel), List.mem_of_getElem? (i := 408) (by decide +kernel)⟩
theorem lw_p4 : lw_okq (⟨"EqualCourt$Partition", "review", "(I)V"⟩, 14) := ⟨⟨by decide +kernel, by decide +kernel⟩, List.mem_of_getElem? (i := 146) (by decide +kernel), List.mem_of_getElem? (i := 419) (by decide +kernel), List.mem_of_getElem? (i := 420) (by decide +kernel)⟩
theorem lw_p5 : lw_okq (⟨"EqualCourt$Partition", "takeOut", "(I)V"⟩, 14) := ⟨⟨by decide +kernel, by decide +kernel⟩, List.mem_of_getElem? (i := 146) (by decide +kernel), List.mem_of_getElem? (i := 423) (by decide +kernel), List.mem_of_getElem? (i := 424) (by decide +kernel)⟩
theorem lw_p6 : lw_okq (⟨"EqualCourt$Partition", "rootOfPart", "(II)I"⟩, 14) := ⟨⟨by decide +kernel, by decide +kernel⟩, List.mem_of_getElem? (i := 146) (by decide +kernel), List.mem_of_getElem? (i := 427) (by decide +kernel), List.mem_of_getElem? (i := 428) (by decide +kernel)⟩
theorem lw_p7 : lw_okq (⟨"EqualCourt$Partition", "isBuiltAlike", "(II)Z"⟩, 14) := ⟨⟨by decide +kernel, by decide +kernel⟩, List.mem_of_getElem? (i := 146) (by decide +kernel), List.mem_of_getElem? (i := 432) (by decide +kernel), List.mem_of_getElem? (i := 433) (by decide +kernel)⟩
theorem lw_p8 : lw_okq (⟨"EqualCourt", "done", "(I)I"⟩, 13) := ⟨⟨by decide +kernel, by decide +kernel⟩, List.mem_of_getElem? (i := 15) (by decide +kernel), List.mem_of_getElem? (i := 440) (by decide +kernel), List.mem_of_getElem? (i := 441) (by decide +kernel)⟩
theorem lw_p9 : lw_okq (⟨"EqualCourt$Court", "addToTrial", "(I)Z"⟩, 9) := ⟨⟨by decide +kernel, by decide +kernel⟩, List.mem_of_getElem? (i := 102) (by decide +kernel), List.mem_of_getElem? (i := 575) (by decide +kernel), List.mem_of_getElem? (i := 576) (by decide +kernel)⟩
theorem lw_p10 : lw_okq (⟨"EqualCourt$Court", "isReached", "(ZII)Z"⟩, 9) := ⟨⟨by decide +kernel, by decide +kernel⟩, List.mem_of_getElem? (i := 102) (by decide +kernel), List.mem_of_getElem? (i := 583) (by decide +kernel), List.mem_of_getElem? (i := 584) (by decide +kernel)⟩
theorem lw_p11 : lw_okq (⟨"EqualCourt$Court", "fillPool", "()I"⟩, 9) := ⟨⟨by decide +kernel, by decide +kernel⟩, List.mem_of_getElem? (i := 102) (by decide +kernel), List.mem_of_getElem? (i := 646) (by decide +kernel), List.mem_of_getElem? (i := 647) (by decide +kernel)⟩
theorem lw_p12 : lw_okq (⟨"EqualCourt$Court", "isOneByPicks", "(III)Z"⟩, 9) := ⟨⟨by decide +kernel, by decide +kernel⟩, List.mem_of_getElem? (i := 102) (by decide +kernel), List.mem_of_getElem? (i := 650) (by decide +kernel), List.mem_of_getElem? (i := 651) (by decide +kernel)⟩
theorem lw_p13 : lw_okq (⟨"EqualCourt$Court", "pickNext", "(II)Z"⟩, 9) := ⟨⟨by decide +kernel, by decide +kernel⟩, List.mem_of_getElem? (i := 102) (by decide +kernel), List.mem_of_getElem? (i := 654) (by decide +kernel), List.mem_of_getElem? (i := 655) (by decide +kernel)⟩
theorem lw_p14 : lw_okq (⟨"EqualCourt", "freeInt", "(I)I"⟩, 13) := ⟨⟨by decide +kernel, by decide +kernel⟩, List.mem_of_getElem? (i := 15) (by decide +kernel), List.mem_of_getElem? (i := 699) (by decide +kernel), List.mem_of_getElem? (i := 700) (by decide +kernel)⟩
theorem lw_p15 : lw_okq (⟨"EqualCourt", "madeInstance", "(IIII)I"⟩, 13) := ⟨⟨by decide +kernel, by decide +kernel⟩, List.mem_of_getElem? (i := 15) (by decide +kernel), List.mem_of_getElem? (i := 729) (by decide +kernel), List.mem_of_getElem? (i := 730) (by decide +kernel)⟩
def lw_privs_1 : List (MethodName × Nat) := [(⟨"EqualCourt", "refused", "(I)I"⟩, 13), (⟨"EqualCourt", "madeTerm", "(IIIII)I"⟩, 13), (⟨"EqualCourt$Partition", "unite", "(II)V"⟩, 14), (⟨"EqualCourt$Partition", "uniteRows", "(II)V"⟩, 14), (⟨"EqualCourt$Partition", "review", "(I)V"⟩, 14), (⟨"EqualCourt$Partition", "takeOut", "(I)V"⟩, 14), (⟨"EqualCourt$Partition", "rootOfPart", "(II)I"⟩, 14), (⟨"EqualCourt$Partition", "isBuiltAlike", "(II)Z"⟩, 14), (⟨"EqualCourt", "done", "(I)I"⟩, 13), (⟨"EqualCourt$Court", "addToTrial", "(I)Z"⟩, 9), (⟨"EqualCourt$Court", "isReached", "(ZII)Z"⟩, 9), (⟨"EqualCourt$Court", "fillPool", "()I"⟩, 9), (⟨"EqualCourt$Court", "isOneByPicks", "(III)Z"⟩, 9), (⟨"EqualCourt$Court", "pickNext", "(II)Z"⟩, 9), (⟨"EqualCourt", "freeInt", "(I)I"⟩, 13), (⟨"EqualCourt", "madeInstance", "(IIII)I"⟩, 13)]
theorem lw_r1 : ∀ q ∈ lw_privs_1, lw_okq q := List.forall_mem_cons.mpr ⟨lw_p0, List.forall_mem_cons.mpr ⟨lw_p1, List.forall_mem_cons.mpr ⟨lw_p2, List.forall_mem_cons.mpr ⟨lw_p3, List.forall_mem_cons.mpr ⟨lw_p4, List.forall_mem_cons.mpr ⟨lw_p5, List.forall_mem_cons.mpr ⟨lw_p6, List.forall_mem_cons.mpr ⟨lw_p7, List.forall_mem_cons.mpr ⟨lw_p8, List.forall_mem_cons.mpr ⟨lw_p9, List.forall_mem_cons.mpr ⟨lw_p10, List.forall_mem_cons.mpr ⟨lw_p11, List.forall_mem_cons.mpr ⟨lw_p12, List.forall_mem_cons.mpr ⟨lw_p13, List.forall_mem_cons.mpr ⟨lw_p14, List.forall_mem_cons.mpr ⟨lw_p15, fun _ h => absurd h List.not_mem_nil⟩⟩⟩⟩⟩⟩⟩⟩⟩⟩⟩⟩⟩⟩⟩⟩
theorem lw_p16 : lw_okq (⟨"EqualCourt$Maker", "isKnown", "(I)Z"⟩, 6) := ⟨⟨by decide +kernel, by decide +kernel⟩, List.mem_of_getElem? (i := 224) (by decide +kernel), List.mem_of_getElem? (i := 739) (by decide +kernel), List.mem_of_getElem? (i := 740) (by decide +kernel)⟩
theorem lw_p17 : lw_okq (⟨"EqualCourt$Maker", "openPart", "(I)I"⟩, 6) := ⟨⟨by decide +kernel, by decide +kernel⟩, List.mem_of_getElem? (i := 224) (by decide +kernel), List.mem_of_getElem? (i := 748) (by decide +kernel), List.mem_of_getElem? (i := 749) (by decide +kernel)⟩
theorem lw_p18 : lw_okq (⟨"EqualCourt$Maker", "makeImage", "(I)Z"⟩, 6) := ⟨⟨by decide +kernel, by decide +kernel⟩, List.mem_of_getElem? (i := 224) (by decide +kernel), List.mem_of_getElem? (i := 754) (by decide +kernel), List.mem_of_getElem? (i := 755) (by decide +kernel)⟩
theorem lw_p19 : lw_okq (⟨"EqualCourt$Maker", "imageOf", "(I)I"⟩, 6) := ⟨⟨by decide +kernel, by decide +kernel⟩, List.mem_of_getElem? (i := 224) (by decide +kernel), List.mem_of_getElem? (i := 758) (by decide +kernel), List.mem_of_getElem? (i := 759) (by decide +kernel)⟩
theorem lw_p20 : lw_okq (⟨"EqualCourt", "gatherHeads", "()I"⟩, 13) := ⟨⟨by decide +kernel, by decide +kernel⟩, List.mem_of_getElem? (i := 15) (by decide +kernel), List.mem_of_getElem? (i := 773) (by decide +kernel), List.mem_of_getElem? (i := 774) (by decide +kernel)⟩
theorem lw_p21 : lw_okq (⟨"EqualCourt", "applyLaw", "(IIII)I"⟩, 13) := ⟨⟨by decide +kernel, by decide +kernel⟩, List.mem_of_getElem? (i := 15) (by decide +kernel), List.mem_of_getElem? (i := 779) (by decide +kernel), List.mem_of_getElem? (i := 780) (by decide +kernel)⟩
theorem lw_p22 : lw_okq (⟨"EqualCourt$Steps", "isSaid", "(III)Z"⟩, 8) := ⟨⟨by decide +kernel, by decide +kernel⟩, List.mem_of_getElem? (i := 249) (by decide +kernel), List.mem_of_getElem? (i := 811) (by decide +kernel), List.mem_of_getElem? (i := 812) (by decide +kernel)⟩
theorem lw_p23 : lw_okq (⟨"EqualCourt$Steps", "isChained", "(III)Z"⟩, 8) := ⟨⟨by decide +kernel, by decide +kernel⟩, List.mem_of_getElem? (i := 249) (by decide +kernel), List.mem_of_getElem? (i := 824) (by decide +kernel), List.mem_of_getElem? (i := 825) (by decide +kernel)⟩
theorem lw_p24 : lw_okq (⟨"EqualCourt$Steps", "isByParts", "(IIIZ)Z"⟩, 8) := ⟨⟨by decide +kernel, by decide +kernel⟩, List.mem_of_getElem? (i := 249) (by decide +kernel), List.mem_of_getElem? (i := 828) (by decide +kernel), List.mem_of_getElem? (i := 829) (by decide +kernel)⟩
theorem lw_p25 : lw_okq (⟨"EqualCourt$Steps", "isSameBefore", "(III)Z"⟩, 8) := ⟨⟨by decide +kernel, by decide +kernel⟩, List.mem_of_getElem? (i := 249) (by decide +kernel), List.mem_of_getElem? (i := 836) (by decide +kernel), List.mem_of_getElem? (i := 837) (by decide +kernel)⟩
theorem lw_p26 : lw_okq (⟨"EqualCourt$Steps", "isOfRows", "(III)Z"⟩, 8) := ⟨⟨by decide +kernel, by decide +kernel⟩, List.mem_of_getElem? (i := 249) (by decide +kernel), List.mem_of_getElem? (i := 840) (by decide +kernel), List.mem_of_getElem? (i := 841) (by decide +kernel)⟩
theorem lw_p27 : lw_okq (⟨"EqualCourtModel", "refuse", "(I)I"⟩, 42) := ⟨⟨by decide +kernel, by decide +kernel⟩, List.mem_of_getElem? (i := 849) (by decide +kernel), List.mem_of_getElem? (i := 986) (by decide +kernel), List.mem_of_getElem? (i := 987) (by decide +kernel)⟩
theorem lw_p28 : lw_okq (⟨"EqualCourtModel", "made", "(III)I"⟩, 42) := ⟨⟨by decide +kernel, by decide +kernel⟩, List.mem_of_getElem? (i := 849) (by decide +kernel), List.mem_of_getElem? (i := 990) (by decide +kernel), List.mem_of_getElem? (i := 991) (by decide +kernel)⟩
theorem lw_p29 : lw_okq (⟨"EqualCourtModel", "findTerm", "(III)I"⟩, 42) := ⟨⟨by decide +kernel, by decide +kernel⟩, List.mem_of_getElem? (i := 849) (by decide +kernel), List.mem_of_getElem? (i := 994) (by decide +kernel), List.mem_of_getElem? (i := 995) (by decide +kernel)⟩
theorem lw_p30 : lw_okq (⟨"EqualCourtModel", "answer", "(I)I"⟩, 42) := ⟨⟨by decide +kernel, by decide +kernel⟩, List.mem_of_getElem? (i := 849) (by decide +kernel), List.mem_of_getElem? (i := 998) (by decide +kernel), List.mem_of_getElem? (i := 999) (by decide +kernel)⟩
theorem lw_p31 : lw_okq (⟨"EqualCourtModel", "done", "(I)I"⟩, 42) := ⟨⟨by decide +kernel, by decide +kernel⟩, List.mem_of_getElem? (i := 849) (by decide +kernel), List.mem_of_getElem? (i := 1002) (by decide +kernel), List.mem_of_getElem? (i := 1003) (by decide +kernel)⟩
def lw_privs_2 : List (MethodName × Nat) := [(⟨"EqualCourt$Maker", "isKnown", "(I)Z"⟩, 6), (⟨"EqualCourt$Maker", "openPart", "(I)I"⟩, 6), (⟨"EqualCourt$Maker", "makeImage", "(I)Z"⟩, 6), (⟨"EqualCourt$Maker", "imageOf", "(I)I"⟩, 6), (⟨"EqualCourt", "gatherHeads", "()I"⟩, 13), (⟨"EqualCourt", "applyLaw", "(IIII)I"⟩, 13), (⟨"EqualCourt$Steps", "isSaid", "(III)Z"⟩, 8), (⟨"EqualCourt$Steps", "isChained", "(III)Z"⟩, 8), (⟨"EqualCourt$Steps", "isByParts", "(IIIZ)Z"⟩, 8), (⟨"EqualCourt$Steps", "isSameBefore", "(III)Z"⟩, 8), (⟨"EqualCourt$Steps", "isOfRows", "(III)Z"⟩, 8), (⟨"EqualCourtModel", "refuse", "(I)I"⟩, 42), (⟨"EqualCourtModel", "made", "(III)I"⟩, 42), (⟨"EqualCourtModel", "findTerm", "(III)I"⟩, 42), (⟨"EqualCourtModel", "answer", "(I)I"⟩, 42), (⟨"EqualCourtModel", "done", "(I)I"⟩, 42)]
theorem lw_r2 : ∀ q ∈ lw_privs_2, lw_okq q := List.forall_mem_cons.mpr ⟨lw_p16, List.forall_mem_cons.mpr ⟨lw_p17, List.forall_mem_cons.mpr ⟨lw_p18, List.forall_mem_cons.mpr ⟨lw_p19, List.forall_mem_cons.mpr ⟨lw_p20, List.forall_mem_cons.mpr ⟨lw_p21, List.forall_mem_cons.mpr ⟨lw_p22, List.forall_mem_cons.mpr ⟨lw_p23, List.forall_mem_cons.mpr ⟨lw_p24, List.forall_mem_cons.mpr ⟨lw_p25, List.forall_mem_cons.mpr ⟨lw_p26, List.forall_mem_cons.mpr ⟨lw_p27, List.forall_mem_cons.mpr ⟨lw_p28, List.forall_mem_cons.mpr ⟨lw_p29, List.forall_mem_cons.mpr ⟨lw_p30, List.forall_mem_cons.mpr ⟨lw_p31, fun _ h => absurd h List.not_mem_nil⟩⟩⟩⟩⟩⟩⟩⟩⟩⟩⟩⟩⟩⟩⟩⟩
theorem lw_p32 : lw_okq (⟨"EqualCourtModel", "isTerm", "(I)Z"⟩, 42) := ⟨⟨by decide +kernel, by decide +kernel⟩, List.mem_of_getElem? (i := 849) (by decide +kernel), List.mem_of_getElem? (i := 1014) (by decide +kernel), List.mem_of_getElem? (i := 1015) (by decide +kernel)⟩
theorem lw_p33 : lw_okq (⟨"EqualCourtModel", "taken", "()I"⟩, 42) := ⟨⟨by decide +kernel, by decide +kernel⟩, List.mem_of_getElem? (i := 849) (by decide +kernel), List.mem_of_getElem? (i := 1042) (by decide +kernel), List.mem_of_getElem? (i := 1043) (by decide +kernel)⟩
theorem lw_p34 : lw_okq (⟨"EqualCourtModel", "classes", "()I"⟩, 42) := ⟨⟨by decide +kernel, by decide +kernel⟩, List.mem_of_getElem? (i := 849) (by decide +kernel), List.mem_of_getElem? (i := 1046) (by decide +kernel), List.mem_of_getElem? (i := 1047) (by decide +kernel)⟩
theorem lw_p35 : lw_okq (⟨"EqualCourtModel", "court", "()V"⟩, 42) := ⟨⟨by decide +kernel, by decide +kernel⟩, List.mem_of_getElem? (i := 849) (by decide +kernel), List.mem_of_getElem? (i := 1050) (by decide +kernel), List.mem_of_getElem? (i := 1051) (by decide +kernel)⟩
theorem lw_p36 : lw_okq (⟨"EqualCourtModel", "takeCourt", "()V"⟩, 42) := ⟨⟨by decide +kernel, by decide +kernel⟩, List.mem_of_getElem? (i := 849) (by decide +kernel), List.mem_of_getElem? (i := 1054) (by decide +kernel), List.mem_of_getElem? (i := 1055) (by decide +kernel)⟩
theorem lw_p37 : lw_okq (⟨"EqualCourtModel", "findOnes", "()V"⟩, 42) := ⟨⟨by decide +kernel, by decide +kernel⟩, List.mem_of_getElem? (i := 849) (by decide +kernel), List.mem_of_getElem? (i := 1058) (by decide +kernel), List.mem_of_getElem? (i := 1059) (by decide +kernel)⟩
theorem lw_p38 : lw_okq (⟨"EqualCourtModel", "merge", "(II)V"⟩, 42) := ⟨⟨by decide +kernel, by decide +kernel⟩, List.mem_of_getElem? (i := 849) (by decide +kernel), List.mem_of_getElem? (i := 1062) (by decide +kernel), List.mem_of_getElem? (i := 1063) (by decide +kernel)⟩
theorem lw_p39 : lw_okq (⟨"EqualCourtModel", "looks", "()Z"⟩, 42) := ⟨⟨by decide +kernel, by decide +kernel⟩, List.mem_of_getElem? (i := 849) (by decide +kernel), List.mem_of_getElem? (i := 1066) (by decide +kernel), List.mem_of_getElem? (i := 1067) (by decide +kernel)⟩
theorem lw_p40 : lw_okq (⟨"EqualCourtModel", "isByParts", "(II)Z"⟩, 42) := ⟨⟨by decide +kernel, by decide +kernel⟩, List.mem_of_getElem? (i := 849) (by decide +kernel), List.mem_of_getElem? (i := 1070) (by decide +kernel), List.mem_of_getElem? (i := 1071) (by decide +kernel)⟩
theorem lw_p41 : lw_okq (⟨"EqualCourtModel", "isPart", "(IIII)Z"⟩, 42) := ⟨⟨by decide +kernel, by decide +kernel⟩, List.mem_of_getElem? (i := 849) (by decide +kernel), List.mem_of_getElem? (i := 1074) (by decide +kernel), List.mem_of_getElem? (i := 1075) (by decide +kernel)⟩
theorem lw_p42 : lw_okq (⟨"EqualCourtModel", "saidNow", "(IIZ)I"⟩, 42) := ⟨⟨by decide +kernel, by decide +kernel⟩, List.mem_of_getElem? (i := 849) (by decide +kernel), List.mem_of_getElem? (i := 1082) (by decide +kernel), List.mem_of_getElem? (i := 1083) (by decide +kernel)⟩
theorem lw_p43 : lw_okq (⟨"EqualCourtModel", "wouldClash", "(IIZ)Z"⟩, 42) := ⟨⟨by decide +kernel, by decide +kernel⟩, List.mem_of_getElem? (i := 849) (by decide +kernel), List.mem_of_getElem? (i := 1086) (by decide +kernel), List.mem_of_getElem? (i := 1087) (by decide +kernel)⟩
theorem lw_p44 : lw_okq (⟨"EqualCourtModel", "add", "(IIZ)V"⟩, 42) := ⟨⟨by decide +kernel, by decide +kernel⟩, List.mem_of_getElem? (i := 849) (by decide +kernel), List.mem_of_getElem? (i := 1090) (by decide +kernel), List.mem_of_getElem? (i := 1091) (by decide +kernel)⟩
theorem lw_p45 : lw_okq (⟨"EqualCourtModel", "clashes", "()Z"⟩, 42) := ⟨⟨by decide +kernel, by decide +kernel⟩, List.mem_of_getElem? (i := 849) (by decide +kernel), List.mem_of_getElem? (i := 1094) (by decide +kernel), List.mem_of_getElem? (i := 1095) (by decide +kernel)⟩
theorem lw_p46 : lw_okq (⟨"EqualCourtModel", "thin", "(II[I)I"⟩, 42) := ⟨⟨by decide +kernel, by decide +kernel⟩, List.mem_of_getElem? (i := 849) (by decide +kernel), List.mem_of_getElem? (i := 1098) (by decide +kernel), List.mem_of_getElem? (i := 1099) (by decide +kernel)⟩
theorem lw_p47 : lw_okq (⟨"EqualCourtModel", "does", "(II)Z"⟩, 42) := ⟨⟨by decide +kernel, by decide +kernel⟩, List.mem_of_getElem? (i := 849) (by decide +kernel), List.mem_of_getElem? (i := 1102) (by decide +kernel), List.mem_of_getElem? (i := 1103) (by decide +kernel)⟩
def lw_privs_3 : List (MethodName × Nat) := [(⟨"EqualCourtModel", "isTerm", "(I)Z"⟩, 42), (⟨"EqualCourtModel", "taken", "()I"⟩, 42), (⟨"EqualCourtModel", "classes", "()I"⟩, 42), (⟨"EqualCourtModel", "court", "()V"⟩, 42), (⟨"EqualCourtModel", "takeCourt", "()V"⟩, 42), (⟨"EqualCourtModel", "findOnes", "()V"⟩, 42), (⟨"EqualCourtModel", "merge", "(II)V"⟩, 42), (⟨"EqualCourtModel", "looks", "()Z"⟩, 42), (⟨"EqualCourtModel", "isByParts", "(II)Z"⟩, 42), (⟨"EqualCourtModel", "isPart", "(IIII)Z"⟩, 42), (⟨"EqualCourtModel", "saidNow", "(IIZ)I"⟩, 42), (⟨"EqualCourtModel", "wouldClash", "(IIZ)Z"⟩, 42), (⟨"EqualCourtModel", "add", "(IIZ)V"⟩, 42), (⟨"EqualCourtModel", "clashes", "()Z"⟩, 42), (⟨"EqualCourtModel", "thin", "(II[I)I"⟩, 42), (⟨"EqualCourtModel", "does", "(II)Z"⟩, 42)]
theorem lw_r3 : ∀ q ∈ lw_privs_3, lw_okq q := List.forall_mem_cons.mpr ⟨lw_p32, List.forall_mem_cons.mpr ⟨lw_p33, List.forall_mem_cons.mpr ⟨lw_p34, List.forall_mem_cons.mpr ⟨lw_p35, List.forall_mem_cons.mpr ⟨lw_p36, List.forall_mem_cons.mpr ⟨lw_p37, List.forall_mem_cons.mpr ⟨lw_p38, List.forall_mem_cons.mpr ⟨lw_p39, List.forall_mem_cons.mpr ⟨lw_p40, List.forall_mem_cons.mpr ⟨lw_p41, List.forall_mem_cons.mpr ⟨lw_p42, List.forall_mem_cons.mpr ⟨lw_p43, List.forall_mem_cons.mpr ⟨lw_p44, List.forall_mem_cons.mpr ⟨lw_p45, List.forall_mem_cons.mpr ⟨lw_p46, List.forall_mem_cons.mpr ⟨lw_p47, fun _ h => absurd h List.not_mem_nil⟩⟩⟩⟩⟩⟩⟩⟩⟩⟩⟩⟩⟩⟩⟩⟩
theorem lw_p48 : lw_okq (⟨"EqualCourtModel", "take", "(IIZ)I"⟩, 42) := ⟨⟨by decide +kernel, by decide +kernel⟩, List.mem_of_getElem? (i := 849) (by decide +kernel), List.mem_of_getElem? (i := 1106) (by decide +kernel), List.mem_of_getElem? (i := 1107) (by decide +kernel)⟩
theorem lw_p49 : lw_okq (⟨"EqualCourtModel", "areOne", "(II)Z"⟩, 42) := ⟨⟨by decide +kernel, by decide +kernel⟩, List.mem_of_getElem? (i := 849) (by decide +kernel), List.mem_of_getElem? (i := 1130) (by decide +kernel), List.mem_of_getElem? (i := 1131) (by decide +kernel)⟩
theorem lw_p50 : lw_okq (⟨"EqualCourtModel", "isEnough", "(III)Z"⟩, 42) := ⟨⟨by decide +kernel, by decide +kernel⟩, List.mem_of_getElem? (i := 849) (by decide +kernel), List.mem_of_getElem? (i := 1143) (by decide +kernel), List.mem_of_getElem? (i := 1144) (by decide +kernel)⟩
theorem lw_p51 : lw_okq (⟨"EqualCourtModel", "nextSet", "(II)Z"⟩, 42) := ⟨⟨by decide +kernel, by decide +kernel⟩, List.mem_of_getElem? (i := 849) (by decide +kernel), List.mem_of_getElem? (i := 1147) (by decide +kernel), List.mem_of_getElem? (i := 1148) (by decide +kernel)⟩
theorem lw_p52 : lw_okq (⟨"EqualCourtModel", "usesOne", "(II)Z"⟩, 42) := ⟨⟨by decide +kernel, by decide +kernel⟩, List.mem_of_getElem? (i := 849) (by decide +kernel), List.mem_of_getElem? (i := 1167) (by decide +kernel), List.mem_of_getElem? (i := 1168) (by decide +kernel)⟩
theorem lw_p53 : lw_okq (⟨"EqualCourtModel", "numberOf", "(I)I"⟩, 42) := ⟨⟨by decide +kernel, by decide +kernel⟩, List.mem_of_getElem? (i := 849) (by decide +kernel), List.mem_of_getElem? (i := 1176) (by decide +kernel), List.mem_of_getElem? (i := 1177) (by decide +kernel)⟩
theorem lw_p54 : lw_okq (⟨"EqualCourtModel", "isNumber", "(I)Z"⟩, 42) := ⟨⟨by decide +kernel, by decide +kernel⟩, List.mem_of_getElem? (i := 849) (by decide +kernel), List.mem_of_getElem? (i := 1180) (by decide +kernel), List.mem_of_getElem? (i := 1181) (by decide +kernel)⟩
theorem lw_p55 : lw_okq (⟨"EqualCourtModel", "instanceOf", "(I)I"⟩, 42) := ⟨⟨by decide +kernel, by decide +kernel⟩, List.mem_of_getElem? (i := 849) (by decide +kernel), List.mem_of_getElem? (i := 1200) (by decide +kernel), List.mem_of_getElem? (i := 1201) (by decide +kernel)⟩
theorem lw_p56 : lw_okq (⟨"EqualCourtModel", "rebuilt", "(I)I"⟩, 42) := ⟨⟨by decide +kernel, by decide +kernel⟩, List.mem_of_getElem? (i := 849) (by decide +kernel), List.mem_of_getElem? (i := 1204) (by decide +kernel), List.mem_of_getElem? (i := 1205) (by decide +kernel)⟩
theorem lw_p57 : lw_okq (⟨"EqualCourtModel", "isHole", "(I)Z"⟩, 42) := ⟨⟨by decide +kernel, by decide +kernel⟩, List.mem_of_getElem? (i := 849) (by decide +kernel), List.mem_of_getElem? (i := 1208) (by decide +kernel), List.mem_of_getElem? (i := 1209) (by decide +kernel)⟩
theorem lw_p58 : lw_okq (⟨"EqualCourtModel", "findHeads", "()V"⟩, 42) := ⟨⟨by decide +kernel, by decide +kernel⟩, List.mem_of_getElem? (i := 849) (by decide +kernel), List.mem_of_getElem? (i := 1216) (by decide +kernel), List.mem_of_getElem? (i := 1217) (by decide +kernel)⟩
theorem lw_p59 : lw_okq (⟨"EqualCourtModel", "lookForHoles", "(I)V"⟩, 42) := ⟨⟨by decide +kernel, by decide +kernel⟩, List.mem_of_getElem? (i := 849) (by decide +kernel), List.mem_of_getElem? (i := 1220) (by decide +kernel), List.mem_of_getElem? (i := 1221) (by decide +kernel)⟩
theorem lw_p60 : lw_okq (⟨"EqualCourtModel", "followAll", "(II)I"⟩, 42) := ⟨⟨by decide +kernel, by decide +kernel⟩, List.mem_of_getElem? (i := 849) (by decide +kernel), List.mem_of_getElem? (i := 1224) (by decide +kernel), List.mem_of_getElem? (i := 1225) (by decide +kernel)⟩
theorem lw_p61 : lw_okq (⟨"EqualCourtModel", "goOn", "(II)I"⟩, 42) := ⟨⟨by decide +kernel, by decide +kernel⟩, List.mem_of_getElem? (i := 849) (by decide +kernel), List.mem_of_getElem? (i := 1228) (by decide +kernel), List.mem_of_getElem? (i := 1229) (by decide +kernel)⟩
theorem lw_p62 : lw_okq (⟨"EqualCourtModel", "isRight", "(I)Z"⟩, 42) := ⟨⟨by decide +kernel, by decide +kernel⟩, List.mem_of_getElem? (i := 849) (by decide +kernel), List.mem_of_getElem? (i := 1248) (by decide +kernel), List.mem_of_getElem? (i := 1249) (by decide +kernel)⟩
theorem lw_p63 : lw_okq (⟨"EqualCourtModel", "isStep", "(II)Z"⟩, 42) := ⟨⟨by decide +kernel, by decide +kernel⟩, List.mem_of_getElem? (i := 849) (by decide +kernel), List.mem_of_getElem? (i := 1252) (by decide +kernel), List.mem_of_getElem? (i := 1253) (by decide +kernel)⟩
def lw_privs_4 : List (MethodName × Nat) := [(⟨"EqualCourtModel", "take", "(IIZ)I"⟩, 42), (⟨"EqualCourtModel", "areOne", "(II)Z"⟩, 42), (⟨"EqualCourtModel", "isEnough", "(III)Z"⟩, 42), (⟨"EqualCourtModel", "nextSet", "(II)Z"⟩, 42), (⟨"EqualCourtModel", "usesOne", "(II)Z"⟩, 42), (⟨"EqualCourtModel", "numberOf", "(I)I"⟩, 42), (⟨"EqualCourtModel", "isNumber", "(I)Z"⟩, 42), (⟨"EqualCourtModel", "instanceOf", "(I)I"⟩, 42), (⟨"EqualCourtModel", "rebuilt", "(I)I"⟩, 42), (⟨"EqualCourtModel", "isHole", "(I)Z"⟩, 42), (⟨"EqualCourtModel", "findHeads", "()V"⟩, 42), (⟨"EqualCourtModel", "lookForHoles", "(I)V"⟩, 42), (⟨"EqualCourtModel", "followAll", "(II)I"⟩, 42), (⟨"EqualCourtModel", "goOn", "(II)I"⟩, 42), (⟨"EqualCourtModel", "isRight", "(I)Z"⟩, 42), (⟨"EqualCourtModel", "isStep", "(II)Z"⟩, 42)]
theorem lw_r4 : ∀ q ∈ lw_privs_4, lw_okq q := List.forall_mem_cons.mpr ⟨lw_p48, List.forall_mem_cons.mpr ⟨lw_p49, List.forall_mem_cons.mpr ⟨lw_p50, List.forall_mem_cons.mpr ⟨lw_p51, List.forall_mem_cons.mpr ⟨lw_p52, List.forall_mem_cons.mpr ⟨lw_p53, List.forall_mem_cons.mpr ⟨lw_p54, List.forall_mem_cons.mpr ⟨lw_p55, List.forall_mem_cons.mpr ⟨lw_p56, List.forall_mem_cons.mpr ⟨lw_p57, List.forall_mem_cons.mpr ⟨lw_p58, List.forall_mem_cons.mpr ⟨lw_p59, List.forall_mem_cons.mpr ⟨lw_p60, List.forall_mem_cons.mpr ⟨lw_p61, List.forall_mem_cons.mpr ⟨lw_p62, List.forall_mem_cons.mpr ⟨lw_p63, fun _ h => absurd h List.not_mem_nil⟩⟩⟩⟩⟩⟩⟩⟩⟩⟩⟩⟩⟩⟩⟩⟩
theorem lw_p64 : lw_okq (⟨"EqualCourtModel", "isRightByParts", "(I)Z"⟩, 42) := ⟨⟨by decide +kernel, by decide +kernel⟩, List.mem_of_getElem? (i := 849) (by decide +kernel), List.mem_of_getElem? (i := 1256) (by decide +kernel), List.mem_of_getElem? (i := 1257) (by decide +kernel)⟩
theorem lw_p65 : lw_okq (⟨"EqualCourtModel", "isKnown", "(III)Z"⟩, 42) := ⟨⟨by decide +kernel, by decide +kernel⟩, List.mem_of_getElem? (i := 849) (by decide +kernel), List.mem_of_getElem? (i := 1260) (by decide +kernel), List.mem_of_getElem? (i := 1261) (by decide +kernel)⟩
theorem lw_p66 : lw_okq (⟨"EqualCourtModel", "isOfRows", "(IIII)Z"⟩, 42) := ⟨⟨by decide +kernel, by decide +kernel⟩, List.mem_of_getElem? (i := 849) (by decide +kernel), List.mem_of_getElem? (i := 1264) (by decide +kernel), List.mem_of_getElem? (i := 1265) (by decide +kernel)⟩
def lw_privs_5 : List (MethodName × Nat) := [(⟨"EqualCourtModel", "isRightByParts", "(I)Z"⟩, 42), (⟨"EqualCourtModel", "isKnown", "(III)Z"⟩, 42), (⟨"EqualCourtModel", "isOfRows", "(IIII)Z"⟩, 42)]
theorem lw_r5 : ∀ q ∈ lw_privs_5, lw_okq q := List.forall_mem_cons.mpr ⟨lw_p64, List.forall_mem_cons.mpr ⟨lw_p65, List.forall_mem_cons.mpr ⟨lw_p66, fun _ h => absurd h List.not_mem_nil⟩⟩⟩
def lw_privs : List (MethodName × Nat) := lw_privs_1 ++ (lw_privs_2 ++ (lw_privs_3 ++ (lw_privs_4 ++ (lw_privs_5))))
def lw_tbl : List Cond := k2_sels lw_privs ++ tables_1
theorem lw_privs_ok : ∀ q ∈ lw_privs, lw_okq q := by
  show ∀ q ∈ lw_privs_1 ++ (lw_privs_2 ++ (lw_privs_3 ++ (lw_privs_4 ++ (lw_privs_5)))), lw_okq q
  exact List.forall_mem_append.mpr ⟨lw_r1, List.forall_mem_append.mpr ⟨lw_r2, List.forall_mem_append.mpr ⟨lw_r3, List.forall_mem_append.mpr ⟨lw_r4, lw_r5⟩⟩⟩⟩
end
section
def TX0 : u_T := fun k => match k with
  | 0 => ("EqualCourt$Agenda", "lefts", "[I", true)
  | 1 => ("EqualCourt$Agenda", "rights", "[I", true)
  | 2 => ("EqualCourt$Agenda", "changed", "[I", true)
  | 3 => ("EqualCourt$Agenda", "waits", "[Z", true)
  | 4 => ("EqualCourt$Agenda", "pairCount", "I", false)
  | _ => ("EqualCourt$Agenda", "changedCount", "I", false)
def tyX0 : Nat → FieldType := fun k => match k with
  | 0 => .array .int
  | 1 => .array .int
  | 2 => .array .int
  | 3 => .array .boolean
  | 4 => .int
  | _ => .int
theorem nmX0 : ∀ a, a < 6 → ∀ b, b < 6 → a ≠ b → (TX0 a).2.1 ≠ (TX0 b).2.1 := by decide +kernel
theorem tyX0_ok : ∀ k, k < 6 → parseFieldDescriptor (TX0 k).2.2.1 = some (tyX0 k) := by decide +kernel
def TX1 : u_T := fun k => match k with
  | 0 => ("EqualCourt$Core", "items", "[I", true)
  | _ => ("EqualCourt$Core", "count", "I", false)
def tyX1 : Nat → FieldType := fun k => match k with
  | 0 => .array .int
  | _ => .int
theorem nmX1 : ∀ a, a < 2 → ∀ b, b < 2 → a ≠ b → (TX1 a).2.1 ≠ (TX1 b).2.1 := by decide +kernel
theorem tyX1_ok : ∀ k, k < 2 → parseFieldDescriptor (TX1 k).2.2.1 = some (tyX1 k) := by decide +kernel
def TX2 : u_T := fun k => match k with
  | 0 => ("EqualCourt$Court", "terms", "LEqualCourt$Terms;", true)
  | 1 => ("EqualCourt$Court", "sayings", "LEqualCourt$Sayings;", true)
  | 2 => ("EqualCourt$Court", "bare", "LEqualCourt$Partition;", true)
  | 3 => ("EqualCourt$Court", "standing", "LEqualCourt$Partition;", false)
  | 4 => ("EqualCourt$Court", "trial", "LEqualCourt$Partition;", false)
  | 5 => ("EqualCourt$Court", "unlikes", "LEqualCourt$Core;", true)
  | 6 => ("EqualCourt$Court", "pool", "[I", true)
  | 7 => ("EqualCourt$Court", "helps", "[Z", true)
  | _ => ("EqualCourt$Court", "picks", "[I", true)
def tyX2 : Nat → FieldType := fun k => match k with
  | 0 => .object "EqualCourt$Terms"
  | 1 => .object "EqualCourt$Sayings"
  | 2 => .object "EqualCourt$Partition"
  | 3 => .object "EqualCourt$Partition"
  | 4 => .object "EqualCourt$Partition"
  | 5 => .object "EqualCourt$Core"
  | 6 => .array .int
  | 7 => .array .boolean
  | _ => .array .int
theorem nmX2 : ∀ a, a < 9 → ∀ b, b < 9 → a ≠ b → (TX2 a).2.1 ≠ (TX2 b).2.1 := by decide +kernel
theorem tyX2_ok : ∀ k, k < 9 → parseFieldDescriptor (TX2 k).2.2.1 = some (tyX2 k) := by decide +kernel
def TX3 : u_T := fun k => match k with
  | 0 => ("EqualCourt$Maker", "terms", "LEqualCourt$Terms;", true)
  | 1 => ("EqualCourt$Maker", "images", "[I", true)
  | 2 => ("EqualCourt$Maker", "turnOfImage", "[I", true)
  | 3 => ("EqualCourt$Maker", "path", "[I", true)
  | 4 => ("EqualCourt$Maker", "fillings", "[I", true)
  | _ => ("EqualCourt$Maker", "turn", "I", false)
def tyX3 : Nat → FieldType := fun k => match k with
  | 0 => .object "EqualCourt$Terms"
  | 1 => .array .int
  | 2 => .array .int
  | 3 => .array .int
  | 4 => .array .int
  | _ => .int
theorem nmX3 : ∀ a, a < 6 → ∀ b, b < 6 → a ≠ b → (TX3 a).2.1 ≠ (TX3 b).2.1 := by decide +kernel
theorem tyX3_ok : ∀ k, k < 6 → parseFieldDescriptor (TX3 k).2.2.1 = some (tyX3 k) := by decide +kernel
def TX4 : u_T := fun k => match k with
  | 0 => ("EqualCourt$Partition", "terms", "LEqualCourt$Terms;", true)
  | 1 => ("EqualCourt$Partition", "agenda", "LEqualCourt$Agenda;", true)
  | 2 => ("EqualCourt$Partition", "root", "[I", true)
  | 3 => ("EqualCourt$Partition", "next", "[I", true)
  | 4 => ("EqualCourt$Partition", "size", "[I", true)
  | 5 => ("EqualCourt$Partition", "least", "[I", true)
  | 6 => ("EqualCourt$Partition", "number", "[I", true)
  | 7 => ("EqualCourt$Partition", "aRow", "[I", true)
  | 8 => ("EqualCourt$Partition", "buckets", "[I", true)
  | 9 => ("EqualCourt$Partition", "chain", "[I", true)
  | 10 => ("EqualCourt$Partition", "slot", "[I", true)
  | 11 => ("EqualCourt$Partition", "known", "I", false)
  | 12 => ("EqualCourt$Partition", "classes", "I", false)
  | _ => ("EqualCourt$Partition", "torn", "Z", false)
def tyX4 : Nat → FieldType := fun k => match k with
  | 0 => .object "EqualCourt$Terms"
  | 1 => .object "EqualCourt$Agenda"
  | 2 => .array .int
  | 3 => .array .int
  | 4 => .array .int
  | 5 => .array .int
  | 6 => .array .int
  | 7 => .array .int
  | 8 => .array .int
  | 9 => .array .int
  | 10 => .array .int
  | 11 => .int
  | 12 => .int
  | _ => .boolean
theorem nmX4 : ∀ a, a < 14 → ∀ b, b < 14 → a ≠ b → (TX4 a).2.1 ≠ (TX4 b).2.1 := by decide +kernel
theorem tyX4_ok : ∀ k, k < 14 → parseFieldDescriptor (TX4 k).2.2.1 = some (tyX4 k) := by decide +kernel
def TX5 : u_T := fun k => match k with
  | 0 => ("EqualCourt$Sayings", "same", "[Z", true)
  | 1 => ("EqualCourt$Sayings", "lefts", "[I", true)
  | 2 => ("EqualCourt$Sayings", "rights", "[I", true)
  | 3 => ("EqualCourt$Sayings", "taken", "[I", true)
  | 4 => ("EqualCourt$Sayings", "remembered", "[I", true)
  | 5 => ("EqualCourt$Sayings", "count", "I", false)
  | 6 => ("EqualCourt$Sayings", "takenCount", "I", false)
  | _ => ("EqualCourt$Sayings", "levels", "I", false)
def tyX5 : Nat → FieldType := fun k => match k with
  | 0 => .array .boolean
  | 1 => .array .int
  | 2 => .array .int
  | 3 => .array .int
  | 4 => .array .int
  | 5 => .int
  | 6 => .int
  | _ => .int
theorem nmX5 : ∀ a, a < 8 → ∀ b, b < 8 → a ≠ b → (TX5 a).2.1 ≠ (TX5 b).2.1 := by decide +kernel
theorem tyX5_ok : ∀ k, k < 8 → parseFieldDescriptor (TX5 k).2.2.1 = some (tyX5 k) := by decide +kernel
def TX6 : u_T := fun k => match k with
  | 0 => ("EqualCourt$Steps", "terms", "LEqualCourt$Terms;", true)
  | 1 => ("EqualCourt$Steps", "sayings", "LEqualCourt$Sayings;", true)
  | 2 => ("EqualCourt$Steps", "reasons", "[I", true)
  | 3 => ("EqualCourt$Steps", "lefts", "[I", true)
  | 4 => ("EqualCourt$Steps", "rights", "[I", true)
  | 5 => ("EqualCourt$Steps", "is", "[I", true)
  | 6 => ("EqualCourt$Steps", "js", "[I", true)
  | _ => ("EqualCourt$Steps", "count", "I", false)
def tyX6 : Nat → FieldType := fun k => match k with
  | 0 => .object "EqualCourt$Terms"
  | 1 => .object "EqualCourt$Sayings"
  | 2 => .array .int
  | 3 => .array .int
  | 4 => .array .int
  | 5 => .array .int
  | 6 => .array .int
  | _ => .int
theorem nmX6 : ∀ a, a < 8 → ∀ b, b < 8 → a ≠ b → (TX6 a).2.1 ≠ (TX6 b).2.1 := by decide +kernel
theorem tyX6_ok : ∀ k, k < 8 → parseFieldDescriptor (TX6 k).2.2.1 = some (tyX6 k) := by decide +kernel
def TX7 : u_T := fun k => match k with
  | 0 => ("EqualCourt$Terms", "kinds", "[I", true)
  | 1 => ("EqualCourt$Terms", "shown", "[I", true)
  | 2 => ("EqualCourt$Terms", "sizes", "[I", true)
  | 3 => ("EqualCourt$Terms", "parts", "[I", true)
  | 4 => ("EqualCourt$Terms", "holes", "[I", true)
  | 5 => ("EqualCourt$Terms", "buckets", "[I", true)
  | 6 => ("EqualCourt$Terms", "chain", "[I", true)
  | 7 => ("EqualCourt$Terms", "firstPlace", "[I", true)
  | 8 => ("EqualCourt$Terms", "nextPlace", "[I", true)
  | _ => ("EqualCourt$Terms", "count", "I", false)
def tyX7 : Nat → FieldType := fun k => match k with
  | 0 => .array .int
  | 1 => .array .int
  | 2 => .array .int
  | 3 => .array .int
  | 4 => .array .int
  | 5 => .array .int
  | 6 => .array .int
  | 7 => .array .int
  | 8 => .array .int
  | _ => .int
theorem nmX7 : ∀ a, a < 10 → ∀ b, b < 10 → a ≠ b → (TX7 a).2.1 ≠ (TX7 b).2.1 := by decide +kernel
theorem tyX7_ok : ∀ k, k < 10 → parseFieldDescriptor (TX7 k).2.2.1 = some (tyX7 k) := by decide +kernel
def TX8 : u_T := fun k => match k with
  | 0 => ("EqualCourt", "terms", "LEqualCourt$Terms;", true)
  | 1 => ("EqualCourt", "sayings", "LEqualCourt$Sayings;", true)
  | 2 => ("EqualCourt", "court", "LEqualCourt$Court;", true)
  | 3 => ("EqualCourt", "maker", "LEqualCourt$Maker;", true)
  | 4 => ("EqualCourt", "steps", "LEqualCourt$Steps;", true)
  | 5 => ("EqualCourt", "clashCore", "LEqualCourt$Core;", true)
  | 6 => ("EqualCourt", "causes", "LEqualCourt$Core;", true)
  | 7 => ("EqualCourt", "lawLefts", "[I", true)
  | 8 => ("EqualCourt", "lawRights", "[I", true)
  | 9 => ("EqualCourt", "goneOver", "[I", true)
  | 10 => ("EqualCourt", "lawCount", "I", false)
  | 11 => ("EqualCourt", "endedBy", "I", false)
  | _ => ("EqualCourt", "finding", "I", false)
def tyX8 : Nat → FieldType := fun k => match k with
  | 0 => .object "EqualCourt$Terms"
  | 1 => .object "EqualCourt$Sayings"
  | 2 => .object "EqualCourt$Court"
  | 3 => .object "EqualCourt$Maker"
  | 4 => .object "EqualCourt$Steps"
  | 5 => .object "EqualCourt$Core"
  | 6 => .object "EqualCourt$Core"
  | 7 => .array .int
  | 8 => .array .int
  | 9 => .array .int
  | 10 => .int
  | 11 => .int
  | _ => .int
theorem nmX8 : ∀ a, a < 13 → ∀ b, b < 13 → a ≠ b → (TX8 a).2.1 ≠ (TX8 b).2.1 := by decide +kernel
theorem tyX8_ok : ∀ k, k < 13 → parseFieldDescriptor (TX8 k).2.2.1 = some (tyX8 k) := by decide +kernel
def TX9 : u_T := fun k => match k with
  | 0 => ("EqualCourtModel", "kindOf", "[I", true)
  | 1 => ("EqualCourtModel", "shown", "[I", true)
  | 2 => ("EqualCourtModel", "partMany", "[I", true)
  | 3 => ("EqualCourtModel", "partOf", "[I", true)
  | 4 => ("EqualCourtModel", "terms", "I", false)
  | 5 => ("EqualCourtModel", "sayA", "[I", true)
  | 6 => ("EqualCourtModel", "sayB", "[I", true)
  | 7 => ("EqualCourtModel", "isSame", "[Z", true)
  | 8 => ("EqualCourtModel", "isTaken", "[Z", true)
  | 9 => ("EqualCourtModel", "sayings", "I", false)
  | 10 => ("EqualCourtModel", "remembered", "[Z", true)
  | 11 => ("EqualCourtModel", "levels", "I", false)
  | 12 => ("EqualCourtModel", "lawA", "[I", true)
  | 13 => ("EqualCourtModel", "lawB", "[I", true)
  | 14 => ("EqualCourtModel", "laws", "I", false)
  | 15 => ("EqualCourtModel", "reasonOf", "[I", true)
  | 16 => ("EqualCourtModel", "stepA", "[I", true)
  | 17 => ("EqualCourtModel", "stepB", "[I", true)
  | 18 => ("EqualCourtModel", "stepI", "[I", true)
  | 19 => ("EqualCourtModel", "stepJ", "[I", true)
  | 20 => ("EqualCourtModel", "steps", "I", false)
  | 21 => ("EqualCourtModel", "clashRow", "[I", true)
  | 22 => ("EqualCourtModel", "clashMany", "I", false)
  | 23 => ("EqualCourtModel", "whyRow", "[I", true)
  | 24 => ("EqualCourtModel", "whyMany", "I", false)
  | 25 => ("EqualCourtModel", "endedBy", "I", false)
  | 26 => ("EqualCourtModel", "finding", "I", false)
  | 27 => ("EqualCourtModel", "asked", "[I", true)
  | 28 => ("EqualCourtModel", "one", "[I", true)
  | 29 => ("EqualCourtModel", "isIn", "[Z", true)
  | 30 => ("EqualCourtModel", "isFresh", "Z", false)
  | 31 => ("EqualCourtModel", "court", "[I", true)
  | 32 => ("EqualCourtModel", "chosen", "[I", true)
  | 33 => ("EqualCourtModel", "hole", "[I", true)
  | 34 => ("EqualCourtModel", "becomes", "[I", true)
  | 35 => ("EqualCourtModel", "pile", "[I", true)
  | 36 => ("EqualCourtModel", "nextPart", "[I", true)
  | 37 => ("EqualCourtModel", "stands", "[Z", true)
  | 38 => ("EqualCourtModel", "isSeen", "[Z", true)
  | 39 => ("EqualCourtModel", "heads", "[I", true)
  | 40 => ("EqualCourtModel", "headMany", "I", false)
  | _ => ("EqualCourtModel", "came", "I", false)
def tyX9 : Nat → FieldType := fun k => match k with
  | 0 => .array .int
  | 1 => .array .int
  | 2 => .array .int
  | 3 => .array .int
  | 4 => .int
  | 5 => .array .int
  | 6 => .array .int
  | 7 => .array .boolean
  | 8 => .array .boolean
  | 9 => .int
  | 10 => .array .boolean
  | 11 => .int
  | 12 => .array .int
  | 13 => .array .int
  | 14 => .int
  | 15 => .array .int
  | 16 => .array .int
  | 17 => .array .int
  | 18 => .array .int
  | 19 => .array .int
  | 20 => .int
  | 21 => .array .int
  | 22 => .int
  | 23 => .array .int
  | 24 => .int
  | 25 => .int
  | 26 => .int
  | 27 => .array .int
  | 28 => .array .int
  | 29 => .array .boolean
  | 30 => .boolean
  | 31 => .array .int
  | 32 => .array .int
  | 33 => .array .int
  | 34 => .array .int
  | 35 => .array .int
  | 36 => .array .int
  | 37 => .array .boolean
  | 38 => .array .boolean
  | 39 => .array .int
  | 40 => .int
  | _ => .int
theorem nmX9 : ∀ a, a < 42 → ∀ b, b < 42 → a ≠ b → (TX9 a).2.1 ≠ (TX9 b).2.1 := by decide +kernel
theorem tyX9_ok : ∀ k, k < 42 → parseFieldDescriptor (TX9 k).2.2.1 = some (tyX9 k) := by decide +kernel
abbrev vwCl : List vw_C := [("EqualCourt$Agenda", TX0, 6), ("EqualCourt$Core", TX1, 2), ("EqualCourt$Court", TX2, 9), ("EqualCourt$Maker", TX3, 6), ("EqualCourt$Partition", TX4, 14), ("EqualCourt$Sayings", TX5, 8), ("EqualCourt$Steps", TX6, 8), ("EqualCourt$Terms", TX7, 10), ("EqualCourt", TX8, 13), ("EqualCourtModel", TX9, 42)]
abbrev cX0_init : ByteArray := prog_2_method_1_code
def yX0_init : MethodName := ⟨"EqualCourt$Agenda", "<init>", "()V"⟩
abbrev cX0_putPair : ByteArray := prog_2_method_2_code
def yX0_putPair : MethodName := ⟨"EqualCourt$Agenda", "putPair", "(II)V"⟩
abbrev cX0_hasPair : ByteArray := prog_2_method_3_code
def yX0_hasPair : MethodName := ⟨"EqualCourt$Agenda", "hasPair", "()Z"⟩
abbrev cX0_lastLeft : ByteArray := prog_2_method_4_code
def yX0_lastLeft : MethodName := ⟨"EqualCourt$Agenda", "lastLeft", "()I"⟩
abbrev cX0_lastRight : ByteArray := prog_2_method_5_code
def yX0_lastRight : MethodName := ⟨"EqualCourt$Agenda", "lastRight", "()I"⟩
abbrev cX0_removePair : ByteArray := prog_2_method_6_code
def yX0_removePair : MethodName := ⟨"EqualCourt$Agenda", "removePair", "()V"⟩
abbrev cX0_putChanged : ByteArray := prog_2_method_7_code
def yX0_putChanged : MethodName := ⟨"EqualCourt$Agenda", "putChanged", "(I)V"⟩
abbrev cX0_hasChanged : ByteArray := prog_2_method_8_code
def yX0_hasChanged : MethodName := ⟨"EqualCourt$Agenda", "hasChanged", "()Z"⟩
abbrev cX0_takeChanged : ByteArray := prog_2_method_9_code
def yX0_takeChanged : MethodName := ⟨"EqualCourt$Agenda", "takeChanged", "()I"⟩
abbrev cX0_clear : ByteArray := prog_2_method_10_code
def yX0_clear : MethodName := ⟨"EqualCourt$Agenda", "clear", "()V"⟩
abbrev cX1_init : ByteArray := prog_3_method_1_code
def yX1_init : MethodName := ⟨"EqualCourt$Core", "<init>", "()V"⟩
abbrev cX1_count : ByteArray := prog_3_method_2_code
def yX1_count : MethodName := ⟨"EqualCourt$Core", "count", "()I"⟩
abbrev cX1_at : ByteArray := prog_3_method_3_code
def yX1_at : MethodName := ⟨"EqualCourt$Core", "at", "(I)I"⟩
abbrev cX1_add : ByteArray := prog_3_method_4_code
def yX1_add : MethodName := ⟨"EqualCourt$Core", "add", "(I)V"⟩
abbrev cX1_clear : ByteArray := prog_3_method_5_code
def yX1_clear : MethodName := ⟨"EqualCourt$Core", "clear", "()V"⟩
abbrev cX2_init : ByteArray := prog_4_method_1_code
def yX2_init : MethodName := ⟨"EqualCourt$Court", "<init>", "(LEqualCourt$Terms;LEqualCourt$Sayings;)V"⟩
abbrev cX2_standing : ByteArray := prog_4_method_2_code
def yX2_standing : MethodName := ⟨"EqualCourt$Court", "standing", "()LEqualCourt$Partition;"⟩
abbrev cX2_admitFrom : ByteArray := prog_4_method_3_code
def yX2_admitFrom : MethodName := ⟨"EqualCourt$Court", "admitFrom", "(I)V"⟩
abbrev cX2_judgeAnew : ByteArray := prog_4_method_4_code
def yX2_judgeAnew : MethodName := ⟨"EqualCourt$Court", "judgeAnew", "()V"⟩
abbrev cX2_wouldClash : ByteArray := prog_4_method_5_code
def yX2_wouldClash : MethodName := ⟨"EqualCourt$Court", "wouldClash", "(II)Z"⟩
abbrev cX2_acceptTrial : ByteArray := prog_4_method_6_code
def yX2_acceptTrial : MethodName := ⟨"EqualCourt$Court", "acceptTrial", "()V"⟩
abbrev cX2_thin : ByteArray := prog_4_method_7_code
def yX2_thin : MethodName := ⟨"EqualCourt$Court", "thin", "(ZIILEqualCourt$Core;)V"⟩
abbrev cX2_addToTrial : ByteArray := prog_4_method_8_code
def yX2_addToTrial : MethodName := ⟨"EqualCourt$Court", "addToTrial", "(I)Z"⟩
abbrev cX2_isReached : ByteArray := prog_4_method_9_code
def yX2_isReached : MethodName := ⟨"EqualCourt$Court", "isReached", "(ZII)Z"⟩
abbrev cX2_findFewest : ByteArray := prog_4_method_10_code
def yX2_findFewest : MethodName := ⟨"EqualCourt$Court", "findFewest", "(IIILEqualCourt$Core;)Z"⟩
abbrev cX2_fillPool : ByteArray := prog_4_method_11_code
def yX2_fillPool : MethodName := ⟨"EqualCourt$Court", "fillPool", "()I"⟩
abbrev cX2_isOneByPicks : ByteArray := prog_4_method_12_code
def yX2_isOneByPicks : MethodName := ⟨"EqualCourt$Court", "isOneByPicks", "(III)Z"⟩
abbrev cX2_pickNext : ByteArray := prog_4_method_13_code
def yX2_pickNext : MethodName := ⟨"EqualCourt$Court", "pickNext", "(II)Z"⟩
abbrev cX3_init : ByteArray := prog_5_method_1_code
def yX3_init : MethodName := ⟨"EqualCourt$Maker", "<init>", "(LEqualCourt$Terms;)V"⟩
abbrev cX3_makeInstance : ByteArray := prog_5_method_2_code
def yX3_makeInstance : MethodName := ⟨"EqualCourt$Maker", "makeInstance", "(IIII)I"⟩
abbrev cX3_isKnown : ByteArray := prog_5_method_3_code
def yX3_isKnown : MethodName := ⟨"EqualCourt$Maker", "isKnown", "(I)Z"⟩
abbrev cX3_imageOf : ByteArray := prog_5_method_4_code
def yX3_imageOf : MethodName := ⟨"EqualCourt$Maker", "imageOf", "(I)I"⟩
abbrev cX3_openPart : ByteArray := prog_5_method_5_code
def yX3_openPart : MethodName := ⟨"EqualCourt$Maker", "openPart", "(I)I"⟩
abbrev cX3_makeImage : ByteArray := prog_5_method_6_code
def yX3_makeImage : MethodName := ⟨"EqualCourt$Maker", "makeImage", "(I)Z"⟩
abbrev cX4_init : ByteArray := prog_6_method_1_code
def yX4_init : MethodName := ⟨"EqualCourt$Partition", "<init>", "(LEqualCourt$Terms;LEqualCourt$Agenda;)V"⟩
abbrev cX4_classes : ByteArray := prog_6_method_2_code
def yX4_classes : MethodName := ⟨"EqualCourt$Partition", "classes", "()I"⟩
abbrev cX4_isTorn : ByteArray := prog_6_method_3_code
def yX4_isTorn : MethodName := ⟨"EqualCourt$Partition", "isTorn", "()Z"⟩
abbrev cX4_isOne : ByteArray := prog_6_method_4_code
def yX4_isOne : MethodName := ⟨"EqualCourt$Partition", "isOne", "(II)Z"⟩
abbrev cX4_headOf : ByteArray := prog_6_method_5_code
def yX4_headOf : MethodName := ⟨"EqualCourt$Partition", "headOf", "(I)I"⟩
abbrev cX4_numberOf : ByteArray := prog_6_method_6_code
def yX4_numberOf : MethodName := ⟨"EqualCourt$Partition", "numberOf", "(I)I"⟩
abbrev cX4_unnumberedBelow : ByteArray := prog_6_method_7_code
def yX4_unnumberedBelow : MethodName := ⟨"EqualCourt$Partition", "unnumberedBelow", "(I)I"⟩
abbrev cX4_hasPartLike : ByteArray := prog_6_method_8_code
def yX4_hasPartLike : MethodName := ⟨"EqualCourt$Partition", "hasPartLike", "(II)Z"⟩
abbrev cX4_copyFrom : ByteArray := prog_6_method_9_code
def yX4_copyFrom : MethodName := ⟨"EqualCourt$Partition", "copyFrom", "(LEqualCourt$Partition;)V"⟩
abbrev cX4_admit : ByteArray := prog_6_method_10_code
def yX4_admit : MethodName := ⟨"EqualCourt$Partition", "admit", "(I)V"⟩
abbrev cX4_join : ByteArray := prog_6_method_11_code
def yX4_join : MethodName := ⟨"EqualCourt$Partition", "join", "(II)V"⟩
abbrev cX4_unite : ByteArray := prog_6_method_12_code
def yX4_unite : MethodName := ⟨"EqualCourt$Partition", "unite", "(II)V"⟩
abbrev cX4_uniteRows : ByteArray := prog_6_method_13_code
def yX4_uniteRows : MethodName := ⟨"EqualCourt$Partition", "uniteRows", "(II)V"⟩
abbrev cX4_review : ByteArray := prog_6_method_14_code
def yX4_review : MethodName := ⟨"EqualCourt$Partition", "review", "(I)V"⟩
abbrev cX4_rootOfPart : ByteArray := prog_6_method_15_code
def yX4_rootOfPart : MethodName := ⟨"EqualCourt$Partition", "rootOfPart", "(II)I"⟩
abbrev cX4_isBuiltAlike : ByteArray := prog_6_method_16_code
def yX4_isBuiltAlike : MethodName := ⟨"EqualCourt$Partition", "isBuiltAlike", "(II)Z"⟩
abbrev cX4_takeOut : ByteArray := prog_6_method_17_code
def yX4_takeOut : MethodName := ⟨"EqualCourt$Partition", "takeOut", "(I)V"⟩
abbrev cX5_init : ByteArray := prog_7_method_1_code
def yX5_init : MethodName := ⟨"EqualCourt$Sayings", "<init>", "()V"⟩
abbrev cX5_count : ByteArray := prog_7_method_2_code
def yX5_count : MethodName := ⟨"EqualCourt$Sayings", "count", "()I"⟩
abbrev cX5_takenCount : ByteArray := prog_7_method_3_code
def yX5_takenCount : MethodName := ⟨"EqualCourt$Sayings", "takenCount", "()I"⟩
abbrev cX5_levels : ByteArray := prog_7_method_4_code
def yX5_levels : MethodName := ⟨"EqualCourt$Sayings", "levels", "()I"⟩
abbrev cX5_has : ByteArray := prog_7_method_5_code
def yX5_has : MethodName := ⟨"EqualCourt$Sayings", "has", "(I)Z"⟩
abbrev cX5_isFull : ByteArray := prog_7_method_6_code
def yX5_isFull : MethodName := ⟨"EqualCourt$Sayings", "isFull", "()Z"⟩
abbrev cX5_isSame : ByteArray := prog_7_method_7_code
def yX5_isSame : MethodName := ⟨"EqualCourt$Sayings", "isSame", "(I)Z"⟩
abbrev cX5_left : ByteArray := prog_7_method_8_code
def yX5_left : MethodName := ⟨"EqualCourt$Sayings", "left", "(I)I"⟩
abbrev cX5_right : ByteArray := prog_7_method_9_code
def yX5_right : MethodName := ⟨"EqualCourt$Sayings", "right", "(I)I"⟩
abbrev cX5_isTaken : ByteArray := prog_7_method_10_code
def yX5_isTaken : MethodName := ⟨"EqualCourt$Sayings", "isTaken", "(I)Z"⟩
abbrev cX5_add : ByteArray := prog_7_method_11_code
def yX5_add : MethodName := ⟨"EqualCourt$Sayings", "add", "(ZII)I"⟩
abbrev cX5_remove : ByteArray := prog_7_method_12_code
def yX5_remove : MethodName := ⟨"EqualCourt$Sayings", "remove", "(I)V"⟩
abbrev cX5_beginLevel : ByteArray := prog_7_method_13_code
def yX5_beginLevel : MethodName := ⟨"EqualCourt$Sayings", "beginLevel", "()I"⟩
abbrev cX5_endLevel : ByteArray := prog_7_method_14_code
def yX5_endLevel : MethodName := ⟨"EqualCourt$Sayings", "endLevel", "()V"⟩
abbrev cX6_init : ByteArray := prog_8_method_1_code
def yX6_init : MethodName := ⟨"EqualCourt$Steps", "<init>", "(LEqualCourt$Terms;LEqualCourt$Sayings;)V"⟩
abbrev cX6_count : ByteArray := prog_8_method_2_code
def yX6_count : MethodName := ⟨"EqualCourt$Steps", "count", "()I"⟩
abbrev cX6_add : ByteArray := prog_8_method_3_code
def yX6_add : MethodName := ⟨"EqualCourt$Steps", "add", "(IIIII)I"⟩
abbrev cX6_forget : ByteArray := prog_8_method_4_code
def yX6_forget : MethodName := ⟨"EqualCourt$Steps", "forget", "()V"⟩
abbrev cX6_says : ByteArray := prog_8_method_5_code
def yX6_says : MethodName := ⟨"EqualCourt$Steps", "says", "(III)Z"⟩
abbrev cX6_isRight : ByteArray := prog_8_method_6_code
def yX6_isRight : MethodName := ⟨"EqualCourt$Steps", "isRight", "(I)Z"⟩
abbrev cX6_isSaid : ByteArray := prog_8_method_7_code
def yX6_isSaid : MethodName := ⟨"EqualCourt$Steps", "isSaid", "(III)Z"⟩
abbrev cX6_isChained : ByteArray := prog_8_method_8_code
def yX6_isChained : MethodName := ⟨"EqualCourt$Steps", "isChained", "(III)Z"⟩
abbrev cX6_isByParts : ByteArray := prog_8_method_9_code
def yX6_isByParts : MethodName := ⟨"EqualCourt$Steps", "isByParts", "(IIIZ)Z"⟩
abbrev cX6_isSameBefore : ByteArray := prog_8_method_10_code
def yX6_isSameBefore : MethodName := ⟨"EqualCourt$Steps", "isSameBefore", "(III)Z"⟩
abbrev cX6_isOfRows : ByteArray := prog_8_method_11_code
def yX6_isOfRows : MethodName := ⟨"EqualCourt$Steps", "isOfRows", "(III)Z"⟩
abbrev cX7_init : ByteArray := prog_9_method_1_code
def yX7_init : MethodName := ⟨"EqualCourt$Terms", "<init>", "()V"⟩
abbrev cX7_count : ByteArray := prog_9_method_2_code
def yX7_count : MethodName := ⟨"EqualCourt$Terms", "count", "()I"⟩
abbrev cX7_has : ByteArray := prog_9_method_3_code
def yX7_has : MethodName := ⟨"EqualCourt$Terms", "has", "(I)Z"⟩
abbrev cX7_kindOf : ByteArray := prog_9_method_4_code
def yX7_kindOf : MethodName := ⟨"EqualCourt$Terms", "kindOf", "(I)I"⟩
abbrev cX7_shownBy : ByteArray := prog_9_method_5_code
def yX7_shownBy : MethodName := ⟨"EqualCourt$Terms", "shownBy", "(I)I"⟩
abbrev cX7_sizeOf : ByteArray := prog_9_method_6_code
def yX7_sizeOf : MethodName := ⟨"EqualCourt$Terms", "sizeOf", "(I)I"⟩
abbrev cX7_partOf : ByteArray := prog_9_method_7_code
def yX7_partOf : MethodName := ⟨"EqualCourt$Terms", "partOf", "(II)I"⟩
abbrev cX7_holesOf : ByteArray := prog_9_method_8_code
def yX7_holesOf : MethodName := ⟨"EqualCourt$Terms", "holesOf", "(I)I"⟩
abbrev cX7_isHole : ByteArray := prog_9_method_9_code
def yX7_isHole : MethodName := ⟨"EqualCourt$Terms", "isHole", "(I)Z"⟩
abbrev cX7_find : ByteArray := prog_9_method_10_code
def yX7_find : MethodName := ⟨"EqualCourt$Terms", "find", "(IIIII)I"⟩
abbrev cX7_findOrMake : ByteArray := prog_9_method_11_code
def yX7_findOrMake : MethodName := ⟨"EqualCourt$Terms", "findOrMake", "(IIIII)I"⟩
abbrev cX7_unmakeFrom : ByteArray := prog_9_method_12_code
def yX7_unmakeFrom : MethodName := ⟨"EqualCourt$Terms", "unmakeFrom", "(I)V"⟩
abbrev cX8_init : ByteArray := prog_1_method_1_code
def yX8_init : MethodName := ⟨"EqualCourt", "<init>", "()V"⟩
abbrev cX8_name : ByteArray := prog_1_method_2_code
def yX8_name : MethodName := ⟨"EqualCourt", "name", "(I)I"⟩
abbrev cX8_number : ByteArray := prog_1_method_3_code
def yX8_number : MethodName := ⟨"EqualCourt", "number", "(I)I"⟩
abbrev cX8_built : ByteArray := prog_1_method_4_code
def yX8_built : MethodName := ⟨"EqualCourt", "built", "(IIIII)I"⟩
abbrev cX8_row : ByteArray := prog_1_method_5_code
def yX8_row : MethodName := ⟨"EqualCourt", "row", "(II)I"⟩
abbrev cX8_even : ByteArray := prog_1_method_6_code
def yX8_even : MethodName := ⟨"EqualCourt", "even", "(III)I"⟩
abbrev cX8_kind : ByteArray := prog_1_method_7_code
def yX8_kind : MethodName := ⟨"EqualCourt", "kind", "(I)I"⟩
abbrev cX8_part : ByteArray := prog_1_method_8_code
def yX8_part : MethodName := ⟨"EqualCourt", "part", "(II)I"⟩
abbrev cX8_shows : ByteArray := prog_1_method_9_code
def yX8_shows : MethodName := ⟨"EqualCourt", "shows", "(I)I"⟩
abbrev cX8_many : ByteArray := prog_1_method_10_code
def yX8_many : MethodName := ⟨"EqualCourt", "many", "(I)I"⟩
abbrev cX8_say : ByteArray := prog_1_method_11_code
def yX8_say : MethodName := ⟨"EqualCourt", "say", "(II)I"⟩
abbrev cX8_unlike : ByteArray := prog_1_method_12_code
def yX8_unlike : MethodName := ⟨"EqualCourt", "unlike", "(II)I"⟩
abbrev cX8_drop : ByteArray := prog_1_method_13_code
def yX8_drop : MethodName := ⟨"EqualCourt", "drop", "(I)I"⟩
abbrev cX8_said : ByteArray := prog_1_method_14_code
def yX8_said : MethodName := ⟨"EqualCourt", "said", "(II)I"⟩
abbrev cX8_clashed : ByteArray := prog_1_method_15_code
def yX8_clashed : MethodName := ⟨"EqualCourt", "clashed", "(I)I"⟩
abbrev cX8_judge : ByteArray := prog_1_method_16_code
def yX8_judge : MethodName := ⟨"EqualCourt", "judge", "(II)I"⟩
abbrev cX8_why : ByteArray := prog_1_method_17_code
def yX8_why : MethodName := ⟨"EqualCourt", "why", "(II)I"⟩
abbrev cX8_least : ByteArray := prog_1_method_18_code
def yX8_least : MethodName := ⟨"EqualCourt", "least", "(III)I"⟩
abbrev cX8_because : ByteArray := prog_1_method_19_code
def yX8_because : MethodName := ⟨"EqualCourt", "because", "(I)I"⟩
abbrev cX8_head : ByteArray := prog_1_method_20_code
def yX8_head : MethodName := ⟨"EqualCourt", "head", "(I)I"⟩
abbrev cX8_member : ByteArray := prog_1_method_21_code
def yX8_member : MethodName := ⟨"EqualCourt", "member", "(II)I"⟩
abbrev cX8_uses : ByteArray := prog_1_method_22_code
def yX8_uses : MethodName := ⟨"EqualCourt", "uses", "(II)I"⟩
abbrev cX8_world : ByteArray := prog_1_method_23_code
def yX8_world : MethodName := ⟨"EqualCourt", "world", "(I)J"⟩
abbrev cX8_push : ByteArray := prog_1_method_24_code
def yX8_push : MethodName := ⟨"EqualCourt", "push", "()I"⟩
abbrev cX8_pop : ByteArray := prog_1_method_25_code
def yX8_pop : MethodName := ⟨"EqualCourt", "pop", "()I"⟩
abbrev cX8_law : ByteArray := prog_1_method_26_code
def yX8_law : MethodName := ⟨"EqualCourt", "law", "(II)I"⟩
abbrev cX8_instance : ByteArray := prog_1_method_27_code
def yX8_instance : MethodName := ⟨"EqualCourt", "instance", "(IIII)I"⟩
abbrev cX8_follow : ByteArray := prog_1_method_28_code
def yX8_follow : MethodName := ⟨"EqualCourt", "follow", "(II)I"⟩
abbrev cX8_ended : ByteArray := prog_1_method_29_code
def yX8_ended : MethodName := ⟨"EqualCourt", "ended", "()I"⟩
abbrev cX8_claim : ByteArray := prog_1_method_30_code
def yX8_claim : MethodName := ⟨"EqualCourt", "claim", "(IIIII)I"⟩
abbrev cX8_unclaim : ByteArray := prog_1_method_31_code
def yX8_unclaim : MethodName := ⟨"EqualCourt", "unclaim", "()I"⟩
abbrev cX8_check : ByteArray := prog_1_method_32_code
def yX8_check : MethodName := ⟨"EqualCourt", "check", "(II)I"⟩
abbrev cX8_status : ByteArray := prog_1_method_33_code
def yX8_status : MethodName := ⟨"EqualCourt", "status", "()I"⟩
abbrev cX8_refused : ByteArray := prog_1_method_34_code
def yX8_refused : MethodName := ⟨"EqualCourt", "refused", "(I)I"⟩
abbrev cX8_done : ByteArray := prog_1_method_35_code
def yX8_done : MethodName := ⟨"EqualCourt", "done", "(I)I"⟩
abbrev cX8_madeTerm : ByteArray := prog_1_method_36_code
def yX8_madeTerm : MethodName := ⟨"EqualCourt", "madeTerm", "(IIIII)I"⟩
abbrev cX8_madeInstance : ByteArray := prog_1_method_37_code
def yX8_madeInstance : MethodName := ⟨"EqualCourt", "madeInstance", "(IIII)I"⟩
abbrev cX8_freeInt : ByteArray := prog_1_method_38_code
def yX8_freeInt : MethodName := ⟨"EqualCourt", "freeInt", "(I)I"⟩
abbrev cX8_gatherHeads : ByteArray := prog_1_method_39_code
def yX8_gatherHeads : MethodName := ⟨"EqualCourt", "gatherHeads", "()I"⟩
abbrev cX8_applyLaw : ByteArray := prog_1_method_40_code
def yX8_applyLaw : MethodName := ⟨"EqualCourt", "applyLaw", "(IIII)I"⟩
abbrev cX8_slotFor : ByteArray := prog_1_method_41_code
def yX8_slotFor : MethodName := ⟨"EqualCourt", "slotFor", "(IIIII)I"⟩
abbrev cX9_init : ByteArray := prog_11_method_1_code
def yX9_init : MethodName := ⟨"EqualCourtModel", "<init>", "()V"⟩
abbrev cX9_refuse : ByteArray := prog_11_method_2_code
def yX9_refuse : MethodName := ⟨"EqualCourtModel", "refuse", "(I)I"⟩
abbrev cX9_done : ByteArray := prog_11_method_3_code
def yX9_done : MethodName := ⟨"EqualCourtModel", "done", "(I)I"⟩
abbrev cX9_isTerm : ByteArray := prog_11_method_4_code
def yX9_isTerm : MethodName := ⟨"EqualCourtModel", "isTerm", "(I)Z"⟩
abbrev cX9_findTerm : ByteArray := prog_11_method_5_code
def yX9_findTerm : MethodName := ⟨"EqualCourtModel", "findTerm", "(III)I"⟩
abbrev cX9_made : ByteArray := prog_11_method_6_code
def yX9_made : MethodName := ⟨"EqualCourtModel", "made", "(III)I"⟩
abbrev cX9_answer : ByteArray := prog_11_method_7_code
def yX9_answer : MethodName := ⟨"EqualCourtModel", "answer", "(I)I"⟩
abbrev cX9_name : ByteArray := prog_11_method_8_code
def yX9_name : MethodName := ⟨"EqualCourtModel", "name", "(I)I"⟩
abbrev cX9_number : ByteArray := prog_11_method_9_code
def yX9_number : MethodName := ⟨"EqualCourtModel", "number", "(I)I"⟩
abbrev cX9_built : ByteArray := prog_11_method_10_code
def yX9_built : MethodName := ⟨"EqualCourtModel", "built", "(IIIII)I"⟩
abbrev cX9_row : ByteArray := prog_11_method_11_code
def yX9_row : MethodName := ⟨"EqualCourtModel", "row", "(II)I"⟩
abbrev cX9_even : ByteArray := prog_11_method_12_code
def yX9_even : MethodName := ⟨"EqualCourtModel", "even", "(III)I"⟩
abbrev cX9_kind : ByteArray := prog_11_method_13_code
def yX9_kind : MethodName := ⟨"EqualCourtModel", "kind", "(I)I"⟩
abbrev cX9_part : ByteArray := prog_11_method_14_code
def yX9_part : MethodName := ⟨"EqualCourtModel", "part", "(II)I"⟩
abbrev cX9_shows : ByteArray := prog_11_method_15_code
def yX9_shows : MethodName := ⟨"EqualCourtModel", "shows", "(I)I"⟩
abbrev cX9_merge : ByteArray := prog_11_method_16_code
def yX9_merge : MethodName := ⟨"EqualCourtModel", "merge", "(II)V"⟩
abbrev cX9_isPart : ByteArray := prog_11_method_17_code
def yX9_isPart : MethodName := ⟨"EqualCourtModel", "isPart", "(IIII)Z"⟩
abbrev cX9_isByParts : ByteArray := prog_11_method_18_code
def yX9_isByParts : MethodName := ⟨"EqualCourtModel", "isByParts", "(II)Z"⟩
abbrev cX9_looks : ByteArray := prog_11_method_19_code
def yX9_looks : MethodName := ⟨"EqualCourtModel", "looks", "()Z"⟩
abbrev cX9_findOnes : ByteArray := prog_11_method_20_code
def yX9_findOnes : MethodName := ⟨"EqualCourtModel", "findOnes", "()V"⟩
abbrev cX9_clashes : ByteArray := prog_11_method_21_code
def yX9_clashes : MethodName := ⟨"EqualCourtModel", "clashes", "()Z"⟩
abbrev cX9_takeCourt : ByteArray := prog_11_method_22_code
def yX9_takeCourt : MethodName := ⟨"EqualCourtModel", "takeCourt", "()V"⟩
abbrev cX9_court : ByteArray := prog_11_method_23_code
def yX9_court : MethodName := ⟨"EqualCourtModel", "court", "()V"⟩
abbrev cX9_areOne : ByteArray := prog_11_method_24_code
def yX9_areOne : MethodName := ⟨"EqualCourtModel", "areOne", "(II)Z"⟩
abbrev cX9_add : ByteArray := prog_11_method_25_code
def yX9_add : MethodName := ⟨"EqualCourtModel", "add", "(IIZ)V"⟩
abbrev cX9_does : ByteArray := prog_11_method_26_code
def yX9_does : MethodName := ⟨"EqualCourtModel", "does", "(II)Z"⟩
abbrev cX9_thin : ByteArray := prog_11_method_27_code
def yX9_thin : MethodName := ⟨"EqualCourtModel", "thin", "(II[I)I"⟩
abbrev cX9_taken : ByteArray := prog_11_method_28_code
def yX9_taken : MethodName := ⟨"EqualCourtModel", "taken", "()I"⟩
abbrev cX9_classes : ByteArray := prog_11_method_29_code
def yX9_classes : MethodName := ⟨"EqualCourtModel", "classes", "()I"⟩
abbrev cX9_many : ByteArray := prog_11_method_30_code
def yX9_many : MethodName := ⟨"EqualCourtModel", "many", "(I)I"⟩
abbrev cX9_wouldClash : ByteArray := prog_11_method_31_code
def yX9_wouldClash : MethodName := ⟨"EqualCourtModel", "wouldClash", "(IIZ)Z"⟩
abbrev cX9_take : ByteArray := prog_11_method_32_code
def yX9_take : MethodName := ⟨"EqualCourtModel", "take", "(IIZ)I"⟩
abbrev cX9_saidNow : ByteArray := prog_11_method_33_code
def yX9_saidNow : MethodName := ⟨"EqualCourtModel", "saidNow", "(IIZ)I"⟩
abbrev cX9_say : ByteArray := prog_11_method_34_code
def yX9_say : MethodName := ⟨"EqualCourtModel", "say", "(II)I"⟩
abbrev cX9_unlike : ByteArray := prog_11_method_35_code
def yX9_unlike : MethodName := ⟨"EqualCourtModel", "unlike", "(II)I"⟩
abbrev cX9_drop : ByteArray := prog_11_method_36_code
def yX9_drop : MethodName := ⟨"EqualCourtModel", "drop", "(I)I"⟩
abbrev cX9_said : ByteArray := prog_11_method_37_code
def yX9_said : MethodName := ⟨"EqualCourtModel", "said", "(II)I"⟩
abbrev cX9_clashed : ByteArray := prog_11_method_38_code
def yX9_clashed : MethodName := ⟨"EqualCourtModel", "clashed", "(I)I"⟩
abbrev cX9_judge : ByteArray := prog_11_method_39_code
def yX9_judge : MethodName := ⟨"EqualCourtModel", "judge", "(II)I"⟩
abbrev cX9_why : ByteArray := prog_11_method_40_code
def yX9_why : MethodName := ⟨"EqualCourtModel", "why", "(II)I"⟩
abbrev cX9_nextSet : ByteArray := prog_11_method_41_code
def yX9_nextSet : MethodName := ⟨"EqualCourtModel", "nextSet", "(II)Z"⟩
abbrev cX9_isEnough : ByteArray := prog_11_method_42_code
def yX9_isEnough : MethodName := ⟨"EqualCourtModel", "isEnough", "(III)Z"⟩
abbrev cX9_least : ByteArray := prog_11_method_43_code
def yX9_least : MethodName := ⟨"EqualCourtModel", "least", "(III)I"⟩
abbrev cX9_because : ByteArray := prog_11_method_44_code
def yX9_because : MethodName := ⟨"EqualCourtModel", "because", "(I)I"⟩
abbrev cX9_head : ByteArray := prog_11_method_45_code
def yX9_head : MethodName := ⟨"EqualCourtModel", "head", "(I)I"⟩
abbrev cX9_member : ByteArray := prog_11_method_46_code
def yX9_member : MethodName := ⟨"EqualCourtModel", "member", "(II)I"⟩
abbrev cX9_usesOne : ByteArray := prog_11_method_47_code
def yX9_usesOne : MethodName := ⟨"EqualCourtModel", "usesOne", "(II)Z"⟩
abbrev cX9_uses : ByteArray := prog_11_method_48_code
def yX9_uses : MethodName := ⟨"EqualCourtModel", "uses", "(II)I"⟩
abbrev cX9_isNumber : ByteArray := prog_11_method_49_code
def yX9_isNumber : MethodName := ⟨"EqualCourtModel", "isNumber", "(I)Z"⟩
abbrev cX9_numberOf : ByteArray := prog_11_method_50_code
def yX9_numberOf : MethodName := ⟨"EqualCourtModel", "numberOf", "(I)I"⟩
abbrev cX9_world : ByteArray := prog_11_method_51_code
def yX9_world : MethodName := ⟨"EqualCourtModel", "world", "(I)J"⟩
abbrev cX9_push : ByteArray := prog_11_method_52_code
def yX9_push : MethodName := ⟨"EqualCourtModel", "push", "()I"⟩
abbrev cX9_pop : ByteArray := prog_11_method_53_code
def yX9_pop : MethodName := ⟨"EqualCourtModel", "pop", "()I"⟩
abbrev cX9_law : ByteArray := prog_11_method_54_code
def yX9_law : MethodName := ⟨"EqualCourtModel", "law", "(II)I"⟩
abbrev cX9_isHole : ByteArray := prog_11_method_55_code
def yX9_isHole : MethodName := ⟨"EqualCourtModel", "isHole", "(I)Z"⟩
abbrev cX9_rebuilt : ByteArray := prog_11_method_56_code
def yX9_rebuilt : MethodName := ⟨"EqualCourtModel", "rebuilt", "(I)I"⟩
abbrev cX9_instanceOf : ByteArray := prog_11_method_57_code
def yX9_instanceOf : MethodName := ⟨"EqualCourtModel", "instanceOf", "(I)I"⟩
abbrev cX9_instance : ByteArray := prog_11_method_58_code
def yX9_instance : MethodName := ⟨"EqualCourtModel", "instance", "(IIII)I"⟩
abbrev cX9_lookForHoles : ByteArray := prog_11_method_59_code
def yX9_lookForHoles : MethodName := ⟨"EqualCourtModel", "lookForHoles", "(I)V"⟩
abbrev cX9_findHeads : ByteArray := prog_11_method_60_code
def yX9_findHeads : MethodName := ⟨"EqualCourtModel", "findHeads", "()V"⟩
abbrev cX9_goOn : ByteArray := prog_11_method_61_code
def yX9_goOn : MethodName := ⟨"EqualCourtModel", "goOn", "(II)I"⟩
abbrev cX9_followAll : ByteArray := prog_11_method_62_code
def yX9_followAll : MethodName := ⟨"EqualCourtModel", "followAll", "(II)I"⟩
abbrev cX9_follow : ByteArray := prog_11_method_63_code
def yX9_follow : MethodName := ⟨"EqualCourtModel", "follow", "(II)I"⟩
abbrev cX9_ended : ByteArray := prog_11_method_64_code
def yX9_ended : MethodName := ⟨"EqualCourtModel", "ended", "()I"⟩
abbrev cX9_claim : ByteArray := prog_11_method_65_code
def yX9_claim : MethodName := ⟨"EqualCourtModel", "claim", "(IIIII)I"⟩
abbrev cX9_unclaim : ByteArray := prog_11_method_66_code
def yX9_unclaim : MethodName := ⟨"EqualCourtModel", "unclaim", "()I"⟩
abbrev cX9_isStep : ByteArray := prog_11_method_67_code
def yX9_isStep : MethodName := ⟨"EqualCourtModel", "isStep", "(II)Z"⟩
abbrev cX9_isKnown : ByteArray := prog_11_method_68_code
def yX9_isKnown : MethodName := ⟨"EqualCourtModel", "isKnown", "(III)Z"⟩
abbrev cX9_isRightByParts : ByteArray := prog_11_method_69_code
def yX9_isRightByParts : MethodName := ⟨"EqualCourtModel", "isRightByParts", "(I)Z"⟩
abbrev cX9_isRight : ByteArray := prog_11_method_70_code
def yX9_isRight : MethodName := ⟨"EqualCourtModel", "isRight", "(I)Z"⟩
abbrev cX9_isOfRows : ByteArray := prog_11_method_71_code
def yX9_isOfRows : MethodName := ⟨"EqualCourtModel", "isOfRows", "(IIII)Z"⟩
abbrev cX9_check : ByteArray := prog_11_method_72_code
def yX9_check : MethodName := ⟨"EqualCourtModel", "check", "(II)I"⟩
abbrev cX9_status : ByteArray := prog_11_method_73_code
def yX9_status : MethodName := ⟨"EqualCourtModel", "status", "()I"⟩
abbrev cJ9_min_7cf53 : ByteArray := prog_12_method_69_code
def yJ9_min_7cf53 : MethodName := ⟨"java/lang/Math", "min", "(II)I"⟩
abbrev cJ7_fill_53178 : ByteArray := prog_14_method_103_code
def yJ7_fill_53178 : MethodName := ⟨"java/util/Arrays", "fill", "([II)V"⟩
abbrev cL_law : ByteArray := code
def yL_law : MethodName := ⟨"EqualCourtLaw", "law", "([I)Z"⟩
def TW : List Cond := lw_tbl.filter goodWord
theorem TW_of {w : Cond} (h : w ∈ lw_tbl) (hg : goodWord w = true) : w ∈ TW := List.mem_filter.mpr ⟨h, hg⟩
theorem TW_good : ∀ w ∈ TW, goodWord w = true := fun w h => (List.mem_filter.mp h).2
theorem TW_all (ws : List Cond) (h : ws.all (fun w => decide (w ∈ lw_tbl) && goodWord w) = true) : ∀ w ∈ ws, w ∈ TW := fun w hw => by
  have h1 := List.all_eq_true.mp h w hw
  simp only [Bool.and_eq_true, decide_eq_true_eq] at h1
  exact TW_of h1.1 h1.2
set_option maxRecDepth 20000 in
theorem inX0 : ∀ w ∈ u_ws "EqualCourt$Agenda" TX0 6, w ∈ TW := TW_all _ (by decide +kernel)
set_option maxRecDepth 20000 in
theorem inX1 : ∀ w ∈ u_ws "EqualCourt$Core" TX1 2, w ∈ TW := TW_all _ (by decide +kernel)
set_option maxRecDepth 20000 in
theorem inX2 : ∀ w ∈ u_ws "EqualCourt$Court" TX2 9, w ∈ TW := TW_all _ (by decide +kernel)
set_option maxRecDepth 20000 in
theorem inX3 : ∀ w ∈ u_ws "EqualCourt$Maker" TX3 6, w ∈ TW := TW_all _ (by decide +kernel)
set_option maxRecDepth 20000 in
theorem inX4 : ∀ w ∈ u_ws "EqualCourt$Partition" TX4 14, w ∈ TW := TW_all _ (by decide +kernel)
set_option maxRecDepth 20000 in
theorem inX5 : ∀ w ∈ u_ws "EqualCourt$Sayings" TX5 8, w ∈ TW := TW_all _ (by decide +kernel)
set_option maxRecDepth 20000 in
theorem inX6 : ∀ w ∈ u_ws "EqualCourt$Steps" TX6 8, w ∈ TW := TW_all _ (by decide +kernel)
set_option maxRecDepth 20000 in
theorem inX7 : ∀ w ∈ u_ws "EqualCourt$Terms" TX7 10, w ∈ TW := TW_all _ (by decide +kernel)
set_option maxRecDepth 20000 in
theorem inX8 : ∀ w ∈ u_ws "EqualCourt" TX8 13, w ∈ TW := TW_all _ (by decide +kernel)
set_option maxRecDepth 20000 in
theorem inX9 : ∀ w ∈ u_ws "EqualCourtModel" TX9 42, w ∈ TW := TW_all _ (by decide +kernel)
end
section
/-! function worlds: n cells at addresses ad, cell k holds cf k (σ k) -/
abbrev fS : Type := Nat → Nat → Int32
def rd (σ : fS) (k : Nat) (i : Int32) : Int32 := σ k i.toNatClampNeg
def wrr (σ : fS) (k : Nat) (row : Nat → Int32) : fS := fun j => if j = k then row else σ j
def wr (σ : fS) (k : Nat) (i : Int32) (v : Int32) : fS := wrr σ k (upd (σ k) i.toNatClampNeg v)
def wf (σ : fS) (k f : Nat) (v : Int32) : fS := wrr σ k (upd (σ k) f v)
def inb (i : Int32) (n : Nat) : Bool := decide (¬ (i < 0 ∨ n ≤ i.toNatClampNeg))
theorem inb_vp {i : Int32} {n : Nat} (h : inb i n = true) : vp_in i n := by
  have h2 : ¬ (i < 0 ∨ n ≤ i.toNatClampNeg) := of_decide_eq_true h
  exact h2
def isb (v : Int32) : Bool := decide (v = 0 ∨ v = 1)
def zb (v : Int32) : Int32 := vp_nar .boolean v
theorem isb_nar {v : Int32} (h : isb v = true) : narrow .boolean (.int v) = .int v := by
  rcases of_decide_eq_true h with rfl | rfl <;> decide +kernel
theorem isb_fit {v : Int32} (h : isb v = true) : fits .boolean (.int v) = true := by
  rcases of_decide_eq_true h with rfl | rfl <;> decide +kernel
def bnd {α β : Type} (e : α) (k : α → β) : β := k e
theorem bnd_at {α β : Type} {e : α} {k : α → β} {r : β} {x : α} (h : bnd e k = r) (hx : x = e) : k x = r := by subst hx; exact h
def gd {α : Type} (c : Bool) (x : Option α) : Option α := match c with
  | true => x
  | false => none
theorem gd_at {α : Type} {c : Bool} {x : Option α} {r : α} (h : gd c x = some r) : c = true ∧ x = some r := by
  cases c with
  | true => exact ⟨rfl, h⟩
  | false => exact absurd h (by simp [gd])
def bp {α β : Type} (x : Option α) (k : α → Option β) : Option β := match x with
  | none => none
  | some a => k a
theorem bp_at {α β : Type} {x : Option α} {k : α → Option β} {r : β} (h : bp x k = some r) : ∃ a, x = some a ∧ k a = some r := by
  cases x with
  | none => exact absurd h (by simp [bp])
  | some a => exact ⟨a, rfl, h⟩
def bd {α β : Type} (x : Option (α × fS)) (k : α → fS → Option β) : Option β := match x with
  | none => none
  | some (a, σ) => k a σ
theorem bd_at {α β : Type} {x : Option (α × fS)} {k : α → fS → Option β} {r : β} (h : bd x k = some r) : ∃ a σ, x = some (a, σ) ∧ k a σ = some r := by
  cases x with
  | none => exact absurd h (by simp [bd])
  | some q => exact ⟨q.1, q.2, rfl, h⟩
theorem if_t {α : Type} {c : Prop} [Decidable c] {a b r : α} (h : (if c then a else b) = r) (hc : c) : a = r := by rw [if_pos hc] at h; exact h
theorem if_f {α : Type} {c : Prop} [Decidable c] {a b r : α} (h : (if c then a else b) = r) (hc : ¬ c) : b = r := by rw [if_neg hc] at h; exact h
def fw (n : Nat) (ad : Nat → Nat) (cf : Nat → (Nat → Int32) → va_E) (σ : fS) : va_W := (List.range n).map fun k => (ad k, cf k (σ k))
theorem fw_at {n : Nat} {ad : Nat → Nat} {cf : Nat → (Nat → Int32) → va_E} {σ : fS} {k : Nat} (h : k < n) : (fw n ad cf σ)[k]? = some (ad k, cf k (σ k)) := by
  unfold fw
  rw [List.getElem?_map, List.getElem?_range h]
  rfl
theorem fw_inv {n : Nat} {ad : Nat → Nat} {cf : Nat → (Nat → Int32) → va_E} {σ : fS} {k : Nat} {q : Nat × va_E} (h : (fw n ad cf σ)[k]? = some q) : k < n ∧ q = (ad k, cf k (σ k)) := by
  have hk : k < n := by
    have := (List.getElem?_eq_some_iff.mp h).1
    simpa [fw] using this
  rw [fw_at hk] at h
  exact ⟨hk, (Option.some.inj h).symm⟩
theorem fw_set {n : Nat} {ad : Nat → Nat} {cf : Nat → (Nat → Int32) → va_E} {σ : fS} {k : Nat} {row : Nat → Int32} {e : va_E} (h : k < n) (he : cf k row = e) : (fw n ad cf σ).set k (ad k, e) = fw n ad cf (wrr σ k row) := by
  subst he
  apply List.ext_getElem?
  intro i
  by_cases hi : i < n
  · rw [fw_at hi]
    by_cases e : i = k
    · subst e
      rw [List.getElem?_set_self (by simp [fw]; exact hi)]
      simp [wrr]
    · rw [List.getElem?_set_ne (Ne.symm e), fw_at hi]
      simp [wrr, e]
  · have h1 : (fw n ad cf (wrr σ k row))[i]? = none := List.getElem?_eq_none (by simp [fw]; omega)
    have h2 : ((fw n ad cf σ).set k (ad k, cf k row))[i]? = none := List.getElem?_eq_none (by simp [fw]; omega)
    rw [h1, h2]
def fJ (n : Nat) (ad : Nat → Nat) : Prop := ∀ i j, i < n → j < n → ad i = ad j → i = j
def fA (n : Nat) (ad : Nat → Nat) (sz : Nat) : Nat → Prop := fun q => (∃ k, k < n ∧ q = ad k) ∨ sz ≤ q
theorem fw_D {n : Nat} {ad : Nat → Nat} {cf : Nat → (Nat → Int32) → va_E} {σ : fS} {sz : Nat} (hj : fJ n ad) : va_D (fA n ad sz) (fw n ad cf σ) := by
  refine ⟨fun i j x y hi hj' hxy => ?_, fun k q hk => ?_⟩
  · obtain ⟨h1, rfl⟩ := fw_inv hi
    obtain ⟨h2, rfl⟩ := fw_inv hj'
    exact hj i j h1 h2 hxy
  · obtain ⟨h1, rfl⟩ := fw_inv hk
    exact Or.inl ⟨k, h1, rfl⟩
def nwL : List Cond := [.fieldLinkNest "EqualCourt$Partition" 159 "EqualCourt$Terms" "kinds" "[I" "EqualCourt", .fieldLinkNest "EqualCourt$Partition" 162 "EqualCourt$Terms" "shown" "[I" "EqualCourt", .fieldLinkNest "EqualCourt$Partition" 172 "EqualCourt$Terms" "sizes" "[I" "EqualCourt", .fieldLinkNest "EqualCourt$Partition" 150 "EqualCourt$Terms" "parts" "[I" "EqualCourt", .fieldLinkNest "EqualCourt$Partition" 139 "EqualCourt$Terms" "firstPlace" "[I" "EqualCourt", .fieldLinkNest "EqualCourt$Partition" 142 "EqualCourt$Terms" "nextPlace" "[I" "EqualCourt", .methodLinkNest "EqualCourt" 18 ⟨"EqualCourt$Sayings", "<init>", "()V"⟩ "EqualCourt", .methodLinkNest "EqualCourt$Court" 11 ⟨"EqualCourt$Core", "<init>", "()V"⟩ "EqualCourt", .methodLinkNest "EqualCourt$Court" 39 ⟨"EqualCourt$Agenda", "<init>", "()V"⟩ "EqualCourt", .methodLinkNest "EqualCourt" 50 ⟨"EqualCourt$Core", "<init>", "()V"⟩ "EqualCourt", .methodLinkNest "EqualCourt$Terms" 49 ⟨"EqualCourt", "slotFor", "(IIIII)I"⟩ "EqualCourt", .methodLinkNest "EqualCourt$Partition" 165 ⟨"EqualCourt", "slotFor", "(IIIII)I"⟩ "EqualCourt"]
def fN (U : State) : Prop := ∀ w ∈ nwL, va_Nw w U
theorem fN_tab : ∀ w ∈ nwL, w.onTables = true := by decide +kernel
theorem fN.same {u U : State} (h : u.vm = U.vm) (hN : fN u) : fN U := fun w hw => va_Nw.same (fN_tab w hw) h (hN w hw)
theorem fN.warm {s U : State} (hW : s.WarmedH U.vm) (hN : fN s) : fN U := by
  intro w hw
  have h := hN w hw
  simp only [nwL, List.mem_cons, List.not_mem_nil, or_false] at hw
  rcases hw with rfl | rfl | rfl | rfl | rfl | rfl | rfl | rfl | rfl | rfl | rfl | rfl
  all_goals first | exact va_Nw.warmF hW h | exact va_Nw.warmM hW h
def fB (D : va_G) (n : Nat) (ad : Nat → Nat) (cf : Nat → (Nat → Int32) → va_E) (cy cz : ClassId) (σ : fS) (sz : Nat) (U : State) : Prop :=
  U.heap.size = sz ∧ va_P D vwCl (fw n ad cf σ) U.heap ∧ va_K D vwCl [(cy, .int), (cz, .boolean)] U ∧ fJ n ad ∧ fN U
/-- what a method knows all along -/
def fC (D : va_G) (n : Nat) (ad : Nat → Nat) (cy cz : ClassId) (p : Program) (s : State) (m : MethodId) (args : Array Value) (c : Code) (cc : ByteArray) (nL : Nat) (own : String) : Prop :=
  p.tables.exec = Jvm.exec ∧ c.code = cc ∧ c.maxLocals = nL ∧ s.vm.findClass own = some m.cls ∧ (∀ w ∈ TW, w.before args s = true) ∧ va_K D vwCl [(cy, .int), (cz, .boolean)] s ∧ fJ n ad ∧ fN s
/-- where a method is: the world now, and what it has changed -/
def fI (D : va_G) (n : Nat) (ad : Nat → Nat) (cf : Nat → (Nat → Int32) → va_E) (σ : fS) (s : State) (H : Heap) (locs : List Loc) : Prop :=
  va_P D vwCl (fw n ad cf σ) H ∧ va_S (fA n ad s.heap.size) s.heap H locs
abbrev fCd (y : MethodName) (cc : ByteArray) (nL : Nat) (ret : Option FieldType) : List Cond := .code y cc nL ret :: TW
def fMi (D : va_G) (n : Nat) (ad : Nat → Nat) (cf : Nat → (Nat → Int32) → va_E) (cy cz : ClassId) (l : Launch) (y : MethodName) (cc : ByteArray) (nL : Nat) (ret : Option FieldType) (rm : Room) (av : List Value) (σ : fS) (r : Int32) (τ : fS) : Prop :=
  ∀ sz, Met l y (fCd y cc nL ret) rm (va_Pc av (fB D n ad cf cy cz σ sz)) (va_Qi (fun r1 (_ : Unit) => r1 = r) (fun _ t => va_P D vwCl (fw n ad cf τ) t.heap) (fA n ad sz)) 0 0 (fA n ad sz)
def fMl (D : va_G) (n : Nat) (ad : Nat → Nat) (cf : Nat → (Nat → Int32) → va_E) (cy cz : ClassId) (l : Launch) (y : MethodName) (cc : ByteArray) (nL : Nat) (ret : Option FieldType) (rm : Room) (av : List Value) (σ : fS) (r : Int64) (τ : fS) : Prop :=
  ∀ sz, Met l y (fCd y cc nL ret) rm (va_Pc av (fB D n ad cf cy cz σ sz)) (va_Ql (fun r1 (_ : Unit) => r1 = r) (fun _ t => va_P D vwCl (fw n ad cf τ) t.heap) (fA n ad sz)) 0 0 (fA n ad sz)
def fMv (D : va_G) (n : Nat) (ad : Nat → Nat) (cf : Nat → (Nat → Int32) → va_E) (cy cz : ClassId) (l : Launch) (y : MethodName) (cc : ByteArray) (nL : Nat) (ret : Option FieldType) (rm : Room) (av : List Value) (σ : fS) (τ : fS) : Prop :=
  ∀ sz, Met l y (fCd y cc nL ret) rm (va_Pc av (fB D n ad cf cy cz σ sz)) (va_Qv (fun (_ : Unit) => True) (fun _ t => va_P D vwCl (fw n ad cf τ) t.heap) (fA n ad sz)) 0 0 (fA n ad sz)
def fMr (D : va_G) (n : Nat) (ad : Nat → Nat) (cf : Nat → (Nat → Int32) → va_E) (cy cz : ClassId) (l : Launch) (y : MethodName) (cc : ByteArray) (nL : Nat) (ret : Option FieldType) (rm : Room) (av : List Value) (σ : fS) (k : Nat) (τ : fS) : Prop :=
  ∀ sz, Met l y (fCd y cc nL ret) rm (va_Pc av (fB D n ad cf cy cz σ sz)) (va_Qr (fun (_ : Unit) => True) (fun _ a t => a = ad k ∧ va_P D vwCl (fw n ad cf τ) t.heap) (fA n ad sz)) 0 0 (fA n ad sz)
/-- cell k is an int array of L places; a boolean one; an object -/
def fAi (n : Nat) (cf : Nat → (Nat → Int32) → va_E) (cy : ClassId) (k L : Nat) : Prop := k < n ∧ ∀ row, cf k row = .inl (cy, L, .inl row)
def fOb (n : Nat) (cf : Nat → (Nat → Int32) → va_E) (k ci : Nat) (fs : (Nat → Int32) → List Value) : Prop := k < n ∧ ∀ row, cf k row = .inr (ci, fs row)
section FROW
variable {D : va_G} {n : Nat} {ad : Nat → Nat} {cf : Nat → (Nat → Int32) → va_E} {cy cz : ClassId} {cc : ByteArray} {nL : Nat} {own : String} {σ τ : fS}
variable {p : Program} {l : Launch} {e : Env} {R : Room} {s : State} {m : MethodId} {args : Array Value} {below : List Frame} {meth : Method} {c : Code} {H : Heap} {locs : List Loc} {Q : State → Prop} {pc : Nat} {ls : Array Slot} {rest : List Value}
theorem r_iald (hC : fC D n ad cy cz p s m args c cc nL own) (hI : fI D n ad cf σ s H locs) {k L : Nat} (ha : fAi n cf cy k L) {i : Int32} (hin : inb i L = true) (hdg : decode cc pc = .ok (.iaload, 1))
    (kk : W p l e R s m args below meth c H locs 0 0 Q (F0 m (pc + 1) ls (.int (rd σ k i) :: rest))) : W p l e R s m args below meth c H locs 0 0 Q (F0 m pc ls (.int i :: .ref (ad k) :: rest)) :=
  va_iald hC.1 hC.2.1 hC.2.2.2.2.2.1 hI.1 k 0 (by rw [fw_at ha.1, ha.2]) rfl (inb_vp hin) hdg kk
theorem r_zald (hC : fC D n ad cy cz p s m args c cc nL own) (hI : fI D n ad cf σ s H locs) {k L : Nat} (ha : fAi n cf cz k L) {i : Int32} (hin : inb i L = true) (hdg : decode cc pc = .ok (.baload, 1))
    (kk : W p l e R s m args below meth c H locs 0 0 Q (F0 m (pc + 1) ls (.int (rd σ k i) :: rest))) : W p l e R s m args below meth c H locs 0 0 Q (F0 m pc ls (.int i :: .ref (ad k) :: rest)) :=
  va_zald hC.1 hC.2.1 hC.2.2.2.2.2.1 hI.1 k 1 (by rw [fw_at ha.1, ha.2]) rfl (inb_vp hin) hdg kk
theorem r_iast (hC : fC D n ad cy cz p s m args c cc nL own) (hI : fI D n ad cf σ s H locs) {k L : Nat} (ha : fAi n cf cy k L) {i x : Int32} (hin : inb i L = true) (hdg : decode cc pc = .ok (.iastore, 1))
    (kk : ∀ (σ1 : fS) (H1 : Heap) (locs1 : List Loc), σ1 = wr σ k i x → fI D n ad cf σ1 s H1 locs1 → W p l e R s m args below meth c H1 locs1 0 0 Q (F0 m (pc + 1) ls rest)) : W p l e R s m args below meth c H locs 0 0 Q (F0 m pc ls (.int x :: .int i :: .ref (ad k) :: rest)) :=
  va_iast hC.1 hC.2.1 hC.2.2.2.2.2.1 hI.1 (fw_D hC.2.2.2.2.2.2.1) hI.2 k 0 (by rw [fw_at ha.1, ha.2]) rfl (inb_vp hin) hdg fun H1 locs1 hP1 _ hS1 => kk _ H1 locs1 rfl ⟨by
    rw [fw_set ha.1 (ha.2 _)] at hP1; exact hP1, hS1⟩
theorem r_zast (hC : fC D n ad cy cz p s m args c cc nL own) (hI : fI D n ad cf σ s H locs) {k L : Nat} (ha : fAi n cf cz k L) {i x : Int32} (hin : inb i L = true) (hdg : decode cc pc = .ok (.bastore, 1))
    (kk : ∀ (σ1 : fS) (H1 : Heap) (locs1 : List Loc), σ1 = wr σ k i (zb x) → fI D n ad cf σ1 s H1 locs1 → W p l e R s m args below meth c H1 locs1 0 0 Q (F0 m (pc + 1) ls rest)) : W p l e R s m args below meth c H locs 0 0 Q (F0 m pc ls (.int x :: .int i :: .ref (ad k) :: rest)) :=
  va_zast hC.1 hC.2.1 hC.2.2.2.2.2.1 hI.1 (fw_D hC.2.2.2.2.2.2.1) hI.2 k 1 (by rw [fw_at ha.1, ha.2]) rfl (inb_vp hin) hdg fun H1 locs1 hP1 _ hS1 => kk _ H1 locs1 rfl ⟨by
    rw [fw_set ha.1 (ha.2 _)] at hP1; exact hP1, hS1⟩
theorem r_get (hC : fC D n ad cy cz p s m args c cc nL own) (hI : fI D n ad cf σ s H locs) {k ci : Nat} {fs : (Nat → Int32) → List Value} (ho : fOb n cf k ci fs) {C : String} {T : u_T} {N : Nat} (hc : vwCl[ci]? = some (C, T, N)) (hin : ∀ w ∈ u_ws C T N, w ∈ TW) (f : Nat) (hf : f < N) (h1 : (T f).1 = C) {index : Nat} (hlink : Cond.fieldLink own index C (T f).2.1 (T f).2.2.1 ∈ TW) {v : Value} (hv : (fs (σ k))[f]? = some v) (hdg : decode cc pc = .ok (.getfield index, 3))
    (kk : W p l e R s m args below meth c H locs 0 0 Q (F0 m (pc + 3) ls (v :: rest))) : W p l e R s m args below meth c H locs 0 0 Q (F0 m pc ls (.ref (ad k) :: rest)) :=
  va_get (own := own) (ref := C) hC.1 hC.2.1 hC.2.2.2.2.1 hin hC.2.2.2.1 hC.2.2.2.2.2.1 hI.1 k (by rw [fw_at ho.1, ho.2]) hc f hf (hC.2.2.2.2.1 _ hlink) (fun x hx => by rw [← h1]; exact hx) hv hdg kk
theorem r_getN (hC : fC D n ad cy cz p s m args c cc nL own) (hI : fI D n ad cf σ s H locs) {k ci : Nat} {fs : (Nat → Int32) → List Value} (ho : fOb n cf k ci fs) {C : String} {T : u_T} {N : Nat} (hc : vwCl[ci]? = some (C, T, N)) (hin : ∀ w ∈ u_ws C T N, w ∈ TW) (f : Nat) (hf : f < N) (h1 : (T f).1 = C) {index : Nat} {host : String} (hlink : Cond.fieldLinkNest own index C (T f).2.1 (T f).2.2.1 host ∈ nwL) {v : Value} (hv : (fs (σ k))[f]? = some v) (hdg : decode cc pc = .ok (.getfield index, 3))
    (kk : W p l e R s m args below meth c H locs 0 0 Q (F0 m (pc + 3) ls (v :: rest))) : W p l e R s m args below meth c H locs 0 0 Q (F0 m pc ls (.ref (ad k) :: rest)) :=
  va_getN (own := own) (ref := C) (host := host) hC.1 hC.2.1 hC.2.2.2.2.1 hin hC.2.2.2.1 hC.2.2.2.2.2.1 hI.1 k (by rw [fw_at ho.1, ho.2]) hc f hf (va_Nw.use rfl (hC.2.2.2.2.2.2.2 _ hlink)) (fun x hx => by rw [← h1]; exact hx) hv hdg kk
theorem r_put (hC : fC D n ad cy cz p s m args c cc nL own) (hI : fI D n ad cf σ s H locs) {k ci : Nat} {fs : (Nat → Int32) → List Value} (ho : fOb n cf k ci fs) {C : String} {T : u_T} {N : Nat} (hc : vwCl[ci]? = some (C, T, N)) (hin : ∀ w ∈ u_ws C T N, w ∈ TW) (ty0 : Nat → FieldType) (hty : ∀ k, k < N → parseFieldDescriptor (T k).2.2.1 = some (ty0 k)) (hnm : ∀ a, a < N → ∀ b, b < N → a ≠ b → (T a).2.1 ≠ (T b).2.1) (f : Nat) (hf : f < N) (h1 : (T f).1 = C) (hfin : (T f).2.2.2 = false) {index : Nat} (hlink : Cond.fieldLink own index C (T f).2.1 (T f).2.2.1 ∈ TW) {v : Value} {x : Int32} (hn : narrow (ty0 f) v = v) (hfit : fits (ty0 f) v = true) (hl : f < (fs (σ k)).length) (hset : (fs (σ k)).set f v = fs (upd (σ k) f x)) (hdg : decode cc pc = .ok (.putfield index, 3))
    (kk : ∀ (σ1 : fS) (H1 : Heap) (locs1 : List Loc), σ1 = wf σ k f x → fI D n ad cf σ1 s H1 locs1 → W p l e R s m args below meth c H1 locs1 0 0 Q (F0 m (pc + 3) ls rest)) : W p l e R s m args below meth c H locs 0 0 Q (F0 m pc ls (v :: .ref (ad k) :: rest)) :=
  va_put (own := own) (ref := C) hC.1 hC.2.1 hC.2.2.2.2.1 hin ty0 hty hnm hC.2.2.2.1 hC.2.2.2.2.2.1 hI.1 (fw_D hC.2.2.2.2.2.2.1) hI.2 k (by rw [fw_at ho.1, ho.2]) hc f hf (hC.2.2.2.2.1 _ hlink) (fun x hx => by rw [← h1]; exact hx) hfin (hty f hf) hn hfit hl hdg fun H1 locs1 hP1 _ hS1 => kk _ H1 locs1 rfl ⟨by
    rw [hset, fw_set ho.1 (ho.2 _)] at hP1; exact hP1, hS1⟩
/-- what the tables say of a method that is called -/
def fY (y : MethodName) (C : String) (cc : ByteArray) (nL : Nat) (ret : Option FieldType) (np : Nat) : Prop :=
  Cond.instanceMethod y ∈ TW ∧ Cond.selects C y y ∈ TW ∧ Cond.initialized C ∈ TW ∧ Cond.code y cc nL ret ∈ TW ∧ (y.cls = C ∧ y.cls ≠ "java/lang/invoke/MethodHandle" ∧ y.cls ≠ "java/lang/invoke/VarHandle" ∧ (parseMethodDescriptor y.desc).map (fun d => d.parameters.length) = some np)
theorem fG {y : MethodName} {cc : ByteArray} {nL : Nat} {ret : Option FieldType} (h : Cond.code y cc nL ret ∈ TW) : GoodIn TW (fCd y cc nL ret) := by
  intro w hw
  rcases List.mem_cons.mp hw with rfl | hw
  · exact ⟨h, good_of_word (TW_good _ h)⟩
  · exact ⟨hw, good_of_word (TW_good _ hw)⟩
theorem fB_blind {av : List Value} {sz : Nat} : FrameBlind (va_Pc av (fB D n ad cf cy cz σ sz)) := by
  intro a U g mk q
  obtain ⟨q0, q1, qP, qK, qJ, qN⟩ := q
  exact ⟨q0, q1, qP, va_K.moved (u := U) (U := U.calling g mk a) (Vm.Alike.refl U.vm) qK, qJ, fN.same (u := U) rfl qN⟩
theorem fB_pre {av : List Value} (hC : fC D n ad cy cz p s m args c cc nL own) (hI : fI D n ad cf σ s H locs) : ∀ U : State, U.heap = H → s.WarmedH U.vm → va_Pc av (fB D n ad cf cy cz σ H.size) av.toArray U := fun U hU hW =>
  ⟨rfl, by rw [hU], by rw [hU]; exact hI.1, va_K.moved hW.alike hC.2.2.2.2.2.1, hC.2.2.2.2.2.2.1, fN.warm hW hC.2.2.2.2.2.2.2⟩
theorem fA_sub (hI : fI D n ad cf σ s H locs) : ∀ q, fA n ad H.size q → fA n ad s.heap.size q := fun q h => by
  rcases h with h | h
  · exact Or.inl h
  · exact Or.inr (Nat.le_trans hI.2.1 h)
variable {y : MethodName} {cb : ByteArray} {nB : Nat} {ret : Option FieldType} {rm : Room} {As st : List Value} {r : Int32} {rl : Int64} {kr : Nat}
theorem r_calli (hC : fC D n ad cy cz p s m args c cc nL own) (hI : fI D n ad cf σ s H locs) {k ci : Nat} {fs : (Nat → Int32) → List Value} (ho : fOb n cf k ci fs) {C : String} {T : u_T} {N : Nat} (hc : vwCl[ci]? = some (C, T, N)) {np : Nat} (hy : fY y C cb nB ret np) {index : Nat} (hlink : Cond.methodLink own index y ∈ TW) (hM : fMi D n ad cf cy cz l y cb nB ret rm (.ref (ad k) :: As) σ r τ) (hR : rm.frames + 1 ≤ R.frames ∧ 8 + (nB + 11) + rm.locals ≤ R.locals) (hrc : rm.cells = 0 ∧ rm.slots = 0) (hn : As.length = np) (hls : ls.size = nL) (hst : st = As.reverse ++ .ref (ad k) :: rest) (hroom : (rest.map fun v => v.category).sum ≤ 8) (hdg : decode cc pc = .ok (.invokevirtual index, 3))
    (kk : ∀ (H1 : Heap) (locs1 : List Loc), fI D n ad cf τ s H1 locs1 → W p l e R s m args below meth c H1 locs1 0 0 Q (F0 m (pc + 3) ls (.int r :: rest))) : W p l e R s m args below meth c H locs 0 0 Q (F0 m pc ls st) := by
  have hp := fB_pre (av := .ref (ad k) :: As) hC hI
  obtain ⟨hx, hb, hml, hown, hts, hK, hJ, hN⟩ := id hC
  have hGv : GoodIn TW (wsV own index C y (fCd y cb nB ret)) := by
    intro w hw
    rcases List.mem_append.mp hw with hw | hw
    · simp only [List.mem_cons, List.not_mem_nil, or_false] at hw
      rcases hw with rfl | rfl | rfl | rfl
      · exact ⟨hlink, good_of_word (TW_good _ hlink)⟩
      · exact ⟨hy.1, good_of_word (TW_good _ hy.1)⟩
      · exact ⟨hy.2.1, good_of_word (TW_good _ hy.2.1)⟩
      · exact ⟨hy.2.2.1, good_of_word (TW_good _ hy.2.2.1)⟩
    · exact fG hy.2.2.2.1 w hw
  refine va_calli (va_runV (As := As) (rest := rest) ⟨hx, hb, hml, hown, hts⟩ (hM H.size) (cwV np hts hGv rfl hrc.1 hrc.2 hy.2.2.2.2 hR) ⟨fB_blind, va_recv hK hI.1 (q0 := k) hc (by rw [fw_at ho.1, ho.2]), hp⟩ rfl hn hls hst (lv_room hroom) hdg ⟨Nat.zero_le _, Nat.zero_le _⟩) hI.2 (fun q _ h => fA_sub hI q h) (fA_sub hI) (fun r1 u t H1 locs1 ht hvm hw hB hz1 hk1 hS => ?_)
  subst hw
  exact kk H1 locs1 ⟨by rw [← ht]; exact hB, hS⟩
theorem r_callv (hC : fC D n ad cy cz p s m args c cc nL own) (hI : fI D n ad cf σ s H locs) {k ci : Nat} {fs : (Nat → Int32) → List Value} (ho : fOb n cf k ci fs) {C : String} {T : u_T} {N : Nat} (hc : vwCl[ci]? = some (C, T, N)) {np : Nat} (hy : fY y C cb nB ret np) {index : Nat} (hlink : Cond.methodLink own index y ∈ TW) (hM : fMv D n ad cf cy cz l y cb nB ret rm (.ref (ad k) :: As) σ τ) (hR : rm.frames + 1 ≤ R.frames ∧ 8 + (nB + 11) + rm.locals ≤ R.locals) (hrc : rm.cells = 0 ∧ rm.slots = 0) (hn : As.length = np) (hls : ls.size = nL) (hst : st = As.reverse ++ .ref (ad k) :: rest) (hroom : (rest.map fun v => v.category).sum ≤ 8) (hdg : decode cc pc = .ok (.invokevirtual index, 3))
    (kk : ∀ (H1 : Heap) (locs1 : List Loc), fI D n ad cf τ s H1 locs1 → W p l e R s m args below meth c H1 locs1 0 0 Q (F0 m (pc + 3) ls rest)) : W p l e R s m args below meth c H locs 0 0 Q (F0 m pc ls st) := by
  have hp := fB_pre (av := .ref (ad k) :: As) hC hI
  obtain ⟨hx, hb, hml, hown, hts, hK, hJ, hN⟩ := id hC
  have hGv : GoodIn TW (wsV own index C y (fCd y cb nB ret)) := by
    intro w hw
    rcases List.mem_append.mp hw with hw | hw
    · simp only [List.mem_cons, List.not_mem_nil, or_false] at hw
      rcases hw with rfl | rfl | rfl | rfl
      · exact ⟨hlink, good_of_word (TW_good _ hlink)⟩
      · exact ⟨hy.1, good_of_word (TW_good _ hy.1)⟩
      · exact ⟨hy.2.1, good_of_word (TW_good _ hy.2.1)⟩
      · exact ⟨hy.2.2.1, good_of_word (TW_good _ hy.2.2.1)⟩
    · exact fG hy.2.2.2.1 w hw
  refine va_callv (va_runV (As := As) (rest := rest) ⟨hx, hb, hml, hown, hts⟩ (hM H.size) (cwV np hts hGv rfl hrc.1 hrc.2 hy.2.2.2.2 hR) ⟨fB_blind, va_recv hK hI.1 (q0 := k) hc (by rw [fw_at ho.1, ho.2]), hp⟩ rfl hn hls hst (lv_room hroom) hdg ⟨Nat.zero_le _, Nat.zero_le _⟩) hI.2 (fun q _ h => fA_sub hI q h) (fA_sub hI) (fun u t H1 locs1 ht hvm hw hB hz1 hk1 hS => ?_)
  exact kk H1 locs1 ⟨by rw [← ht]; exact hB, hS⟩
theorem r_calll (hC : fC D n ad cy cz p s m args c cc nL own) (hI : fI D n ad cf σ s H locs) {k ci : Nat} {fs : (Nat → Int32) → List Value} (ho : fOb n cf k ci fs) {C : String} {T : u_T} {N : Nat} (hc : vwCl[ci]? = some (C, T, N)) {np : Nat} (hy : fY y C cb nB ret np) {index : Nat} (hlink : Cond.methodLink own index y ∈ TW) (hM : fMl D n ad cf cy cz l y cb nB ret rm (.ref (ad k) :: As) σ rl τ) (hR : rm.frames + 1 ≤ R.frames ∧ 8 + (nB + 11) + rm.locals ≤ R.locals) (hrc : rm.cells = 0 ∧ rm.slots = 0) (hn : As.length = np) (hls : ls.size = nL) (hst : st = As.reverse ++ .ref (ad k) :: rest) (hroom : (rest.map fun v => v.category).sum ≤ 8) (hdg : decode cc pc = .ok (.invokevirtual index, 3))
    (kk : ∀ (H1 : Heap) (locs1 : List Loc), fI D n ad cf τ s H1 locs1 → W p l e R s m args below meth c H1 locs1 0 0 Q (F0 m (pc + 3) ls (.long rl :: rest))) : W p l e R s m args below meth c H locs 0 0 Q (F0 m pc ls st) := by
  have hp := fB_pre (av := .ref (ad k) :: As) hC hI
  obtain ⟨hx, hb, hml, hown, hts, hK, hJ, hN⟩ := id hC
  have hGv : GoodIn TW (wsV own index C y (fCd y cb nB ret)) := by
    intro w hw
    rcases List.mem_append.mp hw with hw | hw
    · simp only [List.mem_cons, List.not_mem_nil, or_false] at hw
      rcases hw with rfl | rfl | rfl | rfl
      · exact ⟨hlink, good_of_word (TW_good _ hlink)⟩
      · exact ⟨hy.1, good_of_word (TW_good _ hy.1)⟩
      · exact ⟨hy.2.1, good_of_word (TW_good _ hy.2.1)⟩
      · exact ⟨hy.2.2.1, good_of_word (TW_good _ hy.2.2.1)⟩
    · exact fG hy.2.2.2.1 w hw
  refine va_calll (va_runV (As := As) (rest := rest) ⟨hx, hb, hml, hown, hts⟩ (hM H.size) (cwV np hts hGv rfl hrc.1 hrc.2 hy.2.2.2.2 hR) ⟨fB_blind, va_recv hK hI.1 (q0 := k) hc (by rw [fw_at ho.1, ho.2]), hp⟩ rfl hn hls hst (lv_room hroom) hdg ⟨Nat.zero_le _, Nat.zero_le _⟩) hI.2 (fun q _ h => fA_sub hI q h) (fA_sub hI) (fun r1 u t H1 locs1 ht hvm hw hB hz1 hk1 hS => ?_)
  subst hw
  exact kk H1 locs1 ⟨by rw [← ht]; exact hB, hS⟩
theorem r_callr (hC : fC D n ad cy cz p s m args c cc nL own) (hI : fI D n ad cf σ s H locs) {k ci : Nat} {fs : (Nat → Int32) → List Value} (ho : fOb n cf k ci fs) {C : String} {T : u_T} {N : Nat} (hc : vwCl[ci]? = some (C, T, N)) {np : Nat} (hy : fY y C cb nB ret np) {index : Nat} (hlink : Cond.methodLink own index y ∈ TW) (hM : fMr D n ad cf cy cz l y cb nB ret rm (.ref (ad k) :: As) σ kr τ) (hR : rm.frames + 1 ≤ R.frames ∧ 8 + (nB + 11) + rm.locals ≤ R.locals) (hrc : rm.cells = 0 ∧ rm.slots = 0) (hn : As.length = np) (hls : ls.size = nL) (hst : st = As.reverse ++ .ref (ad k) :: rest) (hroom : (rest.map fun v => v.category).sum ≤ 8) (hdg : decode cc pc = .ok (.invokevirtual index, 3))
    (kk : ∀ (H1 : Heap) (locs1 : List Loc), fI D n ad cf τ s H1 locs1 → W p l e R s m args below meth c H1 locs1 0 0 Q (F0 m (pc + 3) ls (.ref (ad kr) :: rest))) : W p l e R s m args below meth c H locs 0 0 Q (F0 m pc ls st) := by
  have hp := fB_pre (av := .ref (ad k) :: As) hC hI
  obtain ⟨hx, hb, hml, hown, hts, hK, hJ, hN⟩ := id hC
  have hGv : GoodIn TW (wsV own index C y (fCd y cb nB ret)) := by
    intro w hw
    rcases List.mem_append.mp hw with hw | hw
    · simp only [List.mem_cons, List.not_mem_nil, or_false] at hw
      rcases hw with rfl | rfl | rfl | rfl
      · exact ⟨hlink, good_of_word (TW_good _ hlink)⟩
      · exact ⟨hy.1, good_of_word (TW_good _ hy.1)⟩
      · exact ⟨hy.2.1, good_of_word (TW_good _ hy.2.1)⟩
      · exact ⟨hy.2.2.1, good_of_word (TW_good _ hy.2.2.1)⟩
    · exact fG hy.2.2.2.1 w hw
  refine va_callr (va_runV (As := As) (rest := rest) ⟨hx, hb, hml, hown, hts⟩ (hM H.size) (cwV np hts hGv rfl hrc.1 hrc.2 hy.2.2.2.2 hR) ⟨fB_blind, va_recv hK hI.1 (q0 := k) hc (by rw [fw_at ho.1, ho.2]), hp⟩ rfl hn hls hst (lv_room hroom) hdg ⟨Nat.zero_le _, Nat.zero_le _⟩) hI.2 (fun q _ h => fA_sub hI q h) (fA_sub hI) (fun u ra t H1 locs1 ht hvm hw hB hz1 hk1 hS => ?_)
  obtain ⟨rfl, hB⟩ := hB
  exact kk H1 locs1 ⟨by rw [← ht]; exact hB, hS⟩
/-- a static method of a nest mate, that keeps the world -/
theorem r_callsn (hC : fC D n ad cy cz p s m args c cc nL own) (hI : fI D n ad cf σ s H locs) {np : Nat} {host : String} (hcode : Cond.code y cb nB ret ∈ TW) (hini : Cond.initialized y.cls ∈ TW) (hstat : Cond.static y ∈ TW) (hd : y.cls ≠ "java/lang/invoke/MethodHandle" ∧ y.cls ≠ "java/lang/invoke/VarHandle" ∧ (parseMethodDescriptor y.desc).map (fun d => d.parameters.length) = some np) {index : Nat} (hlink : Cond.methodLinkNest own index y host ∈ nwL) (hM : fMi D n ad cf cy cz l y cb nB ret rm As σ r τ) (hR : rm.frames + 1 ≤ R.frames ∧ 8 + (nB + 11) + rm.locals ≤ R.locals) (hrc : rm.cells = 0 ∧ rm.slots = 0) (hn : As.length = np) (hls : ls.size = nL) (hst : st = As.reverse ++ rest) (hroom : (rest.map fun v => v.category).sum ≤ 8) (hdg : decode cc pc = .ok (.invokestatic index, 3))
    (kk : ∀ (H1 : Heap) (locs1 : List Loc), fI D n ad cf τ s H1 locs1 → W p l e R s m args below meth c H1 locs1 0 0 Q (F0 m (pc + 3) ls (.int r :: rest))) : W p l e R s m args below meth c H locs 0 0 Q (F0 m pc ls st) := by
  have hp := fB_pre (av := As) hC hI
  obtain ⟨hx, hb, hml, hown, hts, hK, hJ, hN⟩ := id hC
  refine va_calli (va_runSN (As := As) (rest := rest) ⟨hx, hb, hml, hown, hts⟩ (hM H.size) ⟨va_cnB np hts (fG hcode) rfl hrc.1 hrc.2 (hN _ hlink) (hts _ hini) hd hR, hts _ hstat, trivial⟩ ⟨fB_blind, hp⟩ rfl hn hls hst (lv_room hroom) hdg ⟨Nat.zero_le _, Nat.zero_le _⟩) hI.2 (fun q _ h => fA_sub hI q h) (fA_sub hI) (fun r1 u t H1 locs1 ht hvm hw hB hz1 hk1 hS => ?_)
  subst hw
  exact kk H1 locs1 ⟨by rw [← ht]; exact hB, hS⟩
theorem r_min (hC : fC D n ad cy cz p s m args c cc nL own) (hls : ls.size = nL) {index : Nat} (hlink : Cond.methodLink own index Lib.Math.min.name ∈ TW) (hstat : Cond.static Lib.Math.min.name ∈ TW) (hini : Cond.initialized "java/lang/Math" ∈ TW) (hcode : Cond.code Lib.Math.min.name Lib.Math.min.code 2 (some .int) ∈ TW) (hframes : 1 ≤ R.frames) (hlocals : (rest.map fun v => v.category).sum + 13 ≤ R.locals) {x y : Int32} (hdg : decode cc pc = .ok (.invokestatic index, 3))
    (kk : W p l e R s m args below meth c H locs 0 0 Q (F0 m (pc + 3) ls (.int (if y < x then y else x) :: rest))) : W p l e R s m args below meth c H locs 0 0 Q (F0 m pc ls (.int y :: .int x :: rest)) :=
  va_mmin hC.1 hC.2.1 (hC.2.2.1.trans hls.symm) hC.2.2.2.1 (hC.2.2.2.2.1 _ hlink) (hC.2.2.2.2.1 _ hstat) (hC.2.2.2.2.1 _ hini) (hC.2.2.2.2.1 _ hcode) hframes hlocals (Nat.zero_le _) (Nat.zero_le _) hdg kk
def cpb (sp dp n : Int32) (n0 n1 : Nat) : Bool := decide (¬ sp < 0 ∧ ¬ dp < 0 ∧ ¬ n < 0 ∧ sp.toNatClampNeg + n.toNatClampNeg ≤ n0 ∧ dp.toNatClampNeg + n.toNatClampNeg ≤ n1)
def cpy (σ : fS) (k0 : Nat) (sp : Int32) (k1 : Nat) (dp n : Int32) : fS := wrr σ k1 (va_cpy (σ k0) (σ k1) sp.toNatClampNeg dp.toNatClampNeg n.toNatClampNeg)
theorem r_copyi (hC : fC D n ad cy cz p s m args c cc nL own) (hI : fI D n ad cf σ s H locs) (hls : ls.size = nL) {index : Nat} (hlink : Cond.methodLink own index arraycopyName ∈ TW) (hnat : Cond.native arraycopyName ∈ TW) (hstat : Cond.static arraycopyName ∈ TW) (hini : Cond.initialized "java/lang/System" ∈ TW) {k0 k1 n0 n1 : Nat} (ha0 : fAi n cf cy k0 n0) (ha1 : fAi n cf cy k1 n1) {sp dp cn : Int32} (hc : cpb sp dp cn n0 n1 = true) (hframes : 1 ≤ R.frames) (hlocals : (rest.map fun v => v.category).sum + (nativeFrameWords "java/lang/System" "arraycopy" 5 + 11) ≤ R.locals) (hdg : decode cc pc = .ok (.invokestatic index, 3))
    (kk : ∀ (σ1 : fS) (H1 : Heap) (locs1 : List Loc), σ1 = cpy σ k0 sp k1 dp cn → fI D n ad cf σ1 s H1 locs1 → W p l e R s m args below meth c H1 locs1 0 0 Q (F0 m (pc + 3) ls rest)) : W p l e R s m args below meth c H locs 0 0 Q (F0 m pc ls (.int cn :: .int dp :: .ref (ad k1) :: .int sp :: .ref (ad k0) :: rest)) := by
  obtain ⟨h1, h2, h3, h4, h5⟩ := of_decide_eq_true hc
  exact va_copyi hC.1 hC.2.1 (hC.2.2.1.trans hls.symm) hC.2.2.2.1 (hC.2.2.2.2.1 _ hlink) (hC.2.2.2.2.1 _ hnat) (hC.2.2.2.2.1 _ hstat) (hC.2.2.2.2.1 _ hini) hC.2.2.2.2.2.1 hI.1 (fw_D hC.2.2.2.2.2.2.1) hI.2 k0 k1 0 0 (by rw [fw_at ha0.1, ha0.2]) (by rw [fw_at ha1.1, ha1.2]) rfl rfl rfl h1 h2 h3 h4 h5 (fun i _ => rfl) hframes hlocals hdg fun H1 locs1 hP1 _ hS1 => kk _ H1 locs1 rfl ⟨by
    rw [fw_set ha1.1 (ha1.2 _)] at hP1; exact hP1, hS1⟩
/-- a method's body: from its first instruction to its return -/
theorem f_bodyi {av : List Value} {rm : Room} (hy : plainName y.cls = true) (hlen : (lg_sl av).length ≤ nL) (body : ∀ (p : Program) (e : Env) (s : State) (m : MethodId) (args : Array Value) (below : List Frame) (meth : Method) (c : Code) (Q : State → Prop), fC D n ad cy cz p s m args c cc nL y.cls → (∀ {pc : Nat} {ls : Array Slot} {H : Heap} {locs : List Loc} {v : Int32} {z : fS}, some (v, z) = some (r, τ) → decode cc pc = .ok (.ireturn, 1) → fI D n ad cf z s H locs → W p l e rm s m args below meth c H locs 0 0 Q (F0 m pc ls [.int v])) → ∀ ls : Array Slot, lv_has ls nL (lv_args 0 av) → fI D n ad cf σ s s.heap [] → W p l e rm s m args below meth c s.heap [] 0 0 Q (F0 m 0 ls [])) : fMi D n ad cf cy cz l y cc nL (some .int) rm av σ r τ := by
  intro sz
  refine Met.ofW (cc := cc) (maxL := nL) (ret := some .int) hy rfl ?_
  intro p e s m args below meth c s₁ B hml hv
  obtain ⟨rfl, hsz, hP, hK, hj, hN⟩ := hv
  have hts := atoms_spec (ws := fCd y cc nL (some .int)) B.pre
  subst hsz
  have hl := lv_entry av (n := nL) hlen
  rw [lg_entry_eq]
  refine body p e s m _ below meth c _ ⟨B.exec, B.bytes, hml, findClass_of_methodNamed B.named, fun w hw => hts w (List.mem_cons_of_mem _ hw), hK, hj, hN⟩ (fun {pc} {ls} {H} {locs} {v} {z} hvz hd hI => ?_) _ hl ⟨hP, va_S.rf⟩
  cases hvz
  exact W.iret B.exec B.bytes B.returns (fun t ht hW => ⟨⟨r, (), rfl, rfl, by subst ht; exact hI.1⟩, hI.2.F ht⟩) hI.2.2.2 hd (hlocks := B.notSynchronized)
theorem f_bodyz {av : List Value} {rm : Room} (hy : plainName y.cls = true) (hlen : (lg_sl av).length ≤ nL) (body : ∀ (p : Program) (e : Env) (s : State) (m : MethodId) (args : Array Value) (below : List Frame) (meth : Method) (c : Code) (Q : State → Prop), fC D n ad cy cz p s m args c cc nL y.cls → (∀ {pc : Nat} {ls : Array Slot} {H : Heap} {locs : List Loc} {v : Int32} {z : fS}, some (v, z) = some (r, τ) → isb v = true → decode cc pc = .ok (.ireturn, 1) → fI D n ad cf z s H locs → W p l e rm s m args below meth c H locs 0 0 Q (F0 m pc ls [.int v])) → ∀ ls : Array Slot, lv_has ls nL (lv_args 0 av) → fI D n ad cf σ s s.heap [] → W p l e rm s m args below meth c s.heap [] 0 0 Q (F0 m 0 ls [])) : fMi D n ad cf cy cz l y cc nL (some .boolean) rm av σ r τ := by
  intro sz
  refine Met.ofW (cc := cc) (maxL := nL) (ret := some .boolean) hy rfl ?_
  intro p e s m args below meth c s₁ B hml hv
  obtain ⟨rfl, hsz, hP, hK, hj, hN⟩ := hv
  have hts := atoms_spec (ws := fCd y cc nL (some .boolean)) B.pre
  subst hsz
  have hl := lv_entry av (n := nL) hlen
  rw [lg_entry_eq]
  refine body p e s m _ below meth c _ ⟨B.exec, B.bytes, hml, findClass_of_methodNamed B.named, fun w hw => hts w (List.mem_cons_of_mem _ hw), hK, hj, hN⟩ (fun {pc} {ls} {H} {locs} {v} {z} hvz hb01 hd hI => ?_) _ hl ⟨hP, va_S.rf⟩
  cases hvz
  exact W.zret B.exec B.bytes B.returns (isb_nar hb01) (fun t ht hW => ⟨⟨r, (), rfl, rfl, by subst ht; exact hI.1⟩, hI.2.F ht⟩) hI.2.2.2 hd (hlocks := B.notSynchronized)
theorem f_bodyv {av : List Value} {rm : Room} (hy : plainName y.cls = true) (hlen : (lg_sl av).length ≤ nL) (body : ∀ (p : Program) (e : Env) (s : State) (m : MethodId) (args : Array Value) (below : List Frame) (meth : Method) (c : Code) (Q : State → Prop), fC D n ad cy cz p s m args c cc nL y.cls → (∀ {pc : Nat} {ls : Array Slot} {H : Heap} {locs : List Loc} {z : fS}, some z = some τ → decode cc pc = .ok (.return_, 1) → fI D n ad cf z s H locs → W p l e rm s m args below meth c H locs 0 0 Q (F0 m pc ls [])) → ∀ ls : Array Slot, lv_has ls nL (lv_args 0 av) → fI D n ad cf σ s s.heap [] → W p l e rm s m args below meth c s.heap [] 0 0 Q (F0 m 0 ls [])) : fMv D n ad cf cy cz l y cc nL none rm av σ τ := by
  intro sz
  refine Met.ofW (cc := cc) (maxL := nL) (ret := none) hy rfl ?_
  intro p e s m args below meth c s₁ B hml hv
  obtain ⟨rfl, hsz, hP, hK, hj, hN⟩ := hv
  have hts := atoms_spec (ws := fCd y cc nL (none)) B.pre
  subst hsz
  have hl := lv_entry av (n := nL) hlen
  rw [lg_entry_eq]
  refine body p e s m _ below meth c _ ⟨B.exec, B.bytes, hml, findClass_of_methodNamed B.named, fun w hw => hts w (List.mem_cons_of_mem _ hw), hK, hj, hN⟩ (fun {pc} {ls} {H} {locs} {z} hvz hd hI => ?_) _ hl ⟨hP, va_S.rf⟩
  cases hvz
  exact W.vret B.exec B.bytes B.returns (fun t ht hW => ⟨⟨(), rfl, trivial, by subst ht; exact hI.1⟩, hI.2.F ht⟩) hI.2.2.2 hd (hlocks := B.notSynchronized)
theorem f_bodyl {av : List Value} {rm : Room} (hy : plainName y.cls = true) (hlen : (lg_sl av).length ≤ nL) (body : ∀ (p : Program) (e : Env) (s : State) (m : MethodId) (args : Array Value) (below : List Frame) (meth : Method) (c : Code) (Q : State → Prop), fC D n ad cy cz p s m args c cc nL y.cls → (∀ {pc : Nat} {ls : Array Slot} {H : Heap} {locs : List Loc} {v : Int64} {z : fS}, some (v, z) = some (rl, τ) → decode cc pc = .ok (.lreturn, 1) → fI D n ad cf z s H locs → W p l e rm s m args below meth c H locs 0 0 Q (F0 m pc ls [.long v])) → ∀ ls : Array Slot, lv_has ls nL (lv_args 0 av) → fI D n ad cf σ s s.heap [] → W p l e rm s m args below meth c s.heap [] 0 0 Q (F0 m 0 ls [])) : fMl D n ad cf cy cz l y cc nL (some .long) rm av σ rl τ := by
  intro sz
  refine Met.ofW (cc := cc) (maxL := nL) (ret := some .long) hy rfl ?_
  intro p e s m args below meth c s₁ B hml hv
  obtain ⟨rfl, hsz, hP, hK, hj, hN⟩ := hv
  have hts := atoms_spec (ws := fCd y cc nL (some .long)) B.pre
  subst hsz
  have hl := lv_entry av (n := nL) hlen
  rw [lg_entry_eq]
  refine body p e s m _ below meth c _ ⟨B.exec, B.bytes, hml, findClass_of_methodNamed B.named, fun w hw => hts w (List.mem_cons_of_mem _ hw), hK, hj, hN⟩ (fun {pc} {ls} {H} {locs} {v} {z} hvz hd hI => ?_) _ hl ⟨hP, va_S.rf⟩
  cases hvz
  exact W.lret B.exec B.bytes B.returns (fun t ht hW => ⟨⟨rl, (), rfl, rfl, by subst ht; exact hI.1⟩, hI.2.F ht⟩) hI.2.2.2 hd (hlocks := B.notSynchronized)
theorem f_bodyr {C : String} {av : List Value} {rm : Room} (hy : plainName y.cls = true) (hlen : (lg_sl av).length ≤ nL) (body : ∀ (p : Program) (e : Env) (s : State) (m : MethodId) (args : Array Value) (below : List Frame) (meth : Method) (c : Code) (Q : State → Prop), fC D n ad cy cz p s m args c cc nL y.cls → (∀ {pc : Nat} {ls : Array Slot} {H : Heap} {locs : List Loc} {v : Nat} {z : fS}, some (v, z) = some (kr, τ) → decode cc pc = .ok (.areturn, 1) → fI D n ad cf z s H locs → W p l e rm s m args below meth c H locs 0 0 Q (F0 m pc ls [.ref (ad v)])) → ∀ ls : Array Slot, lv_has ls nL (lv_args 0 av) → fI D n ad cf σ s s.heap [] → W p l e rm s m args below meth c s.heap [] 0 0 Q (F0 m 0 ls [])) : fMr D n ad cf cy cz l y cc nL (some (.object C)) rm av σ kr τ := by
  intro sz
  refine Met.ofW (cc := cc) (maxL := nL) (ret := some (.object C)) hy rfl ?_
  intro p e s m args below meth c s₁ B hml hv
  obtain ⟨rfl, hsz, hP, hK, hj, hN⟩ := hv
  have hts := atoms_spec (ws := fCd y cc nL (some (.object C))) B.pre
  subst hsz
  have hl := lv_entry av (n := nL) hlen
  rw [lg_entry_eq]
  refine body p e s m _ below meth c _ ⟨B.exec, B.bytes, hml, findClass_of_methodNamed B.named, fun w hw => hts w (List.mem_cons_of_mem _ hw), hK, hj, hN⟩ (fun {pc} {ls} {H} {locs} {v} {z} hvz hd hI => ?_) _ hl ⟨hP, va_S.rf⟩
  cases hvz
  exact W.aret B.exec B.bytes B.returns (Or.inl ⟨C, rfl⟩) (Or.inr ⟨_, rfl⟩) (fun t ht hW => ⟨⟨(), ad kr, rfl, trivial, rfl, by subst ht; exact hI.1⟩, hI.2.F ht⟩) hI.2.2.2 hd (hlocks := B.notSynchronized)
end FROW
theorem ret_p {α : Type} {v r : α} (z : fS) (h : some v = some r) : some (v, z) = some (r, z) := by cases h; rfl
def FU : Nat := 2000000
theorem none_no {α : Type} {P : Prop} {r : α} (h : none = some r) : P := by cases h
end
section
def pcell (v : Int32) : Nat := if v = 0 then 38 else 48
def isP (k : Nat) : Prop := k = 28 ∨ k = 38 ∨ k = 48
def isK (k : Nat) : Prop := k = 18 ∨ k = 69 ∨ k = 71
theorem isP_28 : isP 28 := Or.inl rfl
theorem isK_18 : isK 18 := Or.inl rfl
theorem isK_69 : isK 69 := Or.inr (Or.inl rfl)
theorem isK_71 : isK 71 := Or.inr (Or.inr rfl)
theorem isP_pcell (v : Int32) : isP (pcell v) := by unfold pcell; split; exact Or.inr (Or.inl rfl); exact Or.inr (Or.inr rfl)
def cfXL (ad : Nat → Nat) (cy cz : ClassId) (row : Nat → Int32) : List va_E := [
  .inr (8, [.ref (ad 1), .ref (ad 11), .ref (ad 17), .ref (ad 58), .ref (ad 63), .ref (ad 69), .ref (ad 71), .ref (ad 73), .ref (ad 74), .ref (ad 75), .int (row 10), .int (row 11), .int (row 12)]),
  .inr (7, [.ref (ad 2), .ref (ad 3), .ref (ad 4), .ref (ad 5), .ref (ad 6), .ref (ad 7), .ref (ad 8), .ref (ad 9), .ref (ad 10), .int (row 9)]),
  .inl (cy, 120, .inl row),
  .inl (cy, 120, .inl row),
  .inl (cy, 120, .inl row),
  .inl (cy, 360, .inl row),
  .inl (cy, 120, .inl row),
  .inl (cy, 128, .inl row),
  .inl (cy, 120, .inl row),
  .inl (cy, 120, .inl row),
  .inl (cy, 360, .inl row),
  .inr (5, [.ref (ad 12), .ref (ad 13), .ref (ad 14), .ref (ad 15), .ref (ad 16), .int (row 5), .int (row 6), .int (row 7)]),
  .inl (cz, 100, .inl row),
  .inl (cy, 100, .inl row),
  .inl (cy, 100, .inl row),
  .inl (cy, 100, .inl row),
  .inl (cy, 1000, .inl row),
  .inr (2, [.ref (ad 1), .ref (ad 11), .ref (ad 28), .ref (ad (pcell (row 3))), .ref (ad (pcell (row 4))), .ref (ad 18), .ref (ad 20), .ref (ad 21), .ref (ad 22)]),
  .inr (1, [.ref (ad 19), .int (row 1)]),
  .inl (cy, 100, .inl row),
  .inl (cy, 100, .inl row),
  .inl (cz, 100, .inl row),
  .inl (cy, 100, .inl row),
  .inr (0, [.ref (ad 24), .ref (ad 25), .ref (ad 26), .ref (ad 27), .int (row 4), .int (row 5)]),
  .inl (cy, 242, .inl row),
  .inl (cy, 242, .inl row),
  .inl (cy, 120, .inl row),
  .inl (cz, 120, .inl row),
  .inr (4, [.ref (ad 1), .ref (ad 23), .ref (ad 29), .ref (ad 30), .ref (ad 31), .ref (ad 32), .ref (ad 33), .ref (ad 34), .ref (ad 35), .ref (ad 36), .ref (ad 37), .int (row 11), .int (row 12), .int (row 13)]),
  .inl (cy, 120, .inl row),
  .inl (cy, 120, .inl row),
  .inl (cy, 120, .inl row),
  .inl (cy, 120, .inl row),
  .inl (cy, 120, .inl row),
  .inl (cy, 120, .inl row),
  .inl (cy, 128, .inl row),
  .inl (cy, 120, .inl row),
  .inl (cy, 120, .inl row),
  .inr (4, [.ref (ad 1), .ref (ad 23), .ref (ad 39), .ref (ad 40), .ref (ad 41), .ref (ad 42), .ref (ad 43), .ref (ad 44), .ref (ad 45), .ref (ad 46), .ref (ad 47), .int (row 11), .int (row 12), .int (row 13)]),
  .inl (cy, 120, .inl row),
  .inl (cy, 120, .inl row),
  .inl (cy, 120, .inl row),
  .inl (cy, 120, .inl row),
  .inl (cy, 120, .inl row),
  .inl (cy, 120, .inl row),
  .inl (cy, 128, .inl row),
  .inl (cy, 120, .inl row),
  .inl (cy, 120, .inl row),
  .inr (4, [.ref (ad 1), .ref (ad 23), .ref (ad 49), .ref (ad 50), .ref (ad 51), .ref (ad 52), .ref (ad 53), .ref (ad 54), .ref (ad 55), .ref (ad 56), .ref (ad 57), .int (row 11), .int (row 12), .int (row 13)]),
  .inl (cy, 120, .inl row),
  .inl (cy, 120, .inl row),
  .inl (cy, 120, .inl row),
  .inl (cy, 120, .inl row),
  .inl (cy, 120, .inl row),
  .inl (cy, 120, .inl row),
  .inl (cy, 128, .inl row),
  .inl (cy, 120, .inl row),
  .inl (cy, 120, .inl row),
  .inr (3, [.ref (ad 1), .ref (ad 59), .ref (ad 60), .ref (ad 61), .ref (ad 62), .int (row 5)]),
  .inl (cy, 120, .inl row),
  .inl (cy, 120, .inl row),
  .inl (cy, 120, .inl row),
  .inl (cy, 3, .inl row),
  .inr (6, [.ref (ad 1), .ref (ad 11), .ref (ad 64), .ref (ad 65), .ref (ad 66), .ref (ad 67), .ref (ad 68), .int (row 7)]),
  .inl (cy, 100, .inl row),
  .inl (cy, 100, .inl row),
  .inl (cy, 100, .inl row),
  .inl (cy, 100, .inl row),
  .inl (cy, 100, .inl row),
  .inr (1, [.ref (ad 70), .int (row 1)]),
  .inl (cy, 100, .inl row),
  .inr (1, [.ref (ad 72), .int (row 1)]),
  .inl (cy, 100, .inl row),
  .inl (cy, 10, .inl row),
  .inl (cy, 10, .inl row),
  .inl (cy, 120, .inl row)]
def cfX (ad : Nat → Nat) (cy cz : ClassId) (k : Nat) (row : Nat → Int32) : va_E := (cfXL ad cy cz row).getD k (.inl (cy, 0, .inl row))
theorem oX_0 {ad : Nat → Nat} {cy cz : ClassId} : fOb 76 (cfX ad cy cz) 0 8 (fun row => [.ref (ad 1), .ref (ad 11), .ref (ad 17), .ref (ad 58), .ref (ad 63), .ref (ad 69), .ref (ad 71), .ref (ad 73), .ref (ad 74), .ref (ad 75), .int (row 10), .int (row 11), .int (row 12)]) := ⟨by decide, fun _ => rfl⟩
theorem oX_1 {ad : Nat → Nat} {cy cz : ClassId} : fOb 76 (cfX ad cy cz) 1 7 (fun row => [.ref (ad 2), .ref (ad 3), .ref (ad 4), .ref (ad 5), .ref (ad 6), .ref (ad 7), .ref (ad 8), .ref (ad 9), .ref (ad 10), .int (row 9)]) := ⟨by decide, fun _ => rfl⟩
theorem aX_2 {ad : Nat → Nat} {cy cz : ClassId} : fAi 76 (cfX ad cy cz) cy 2 120 := ⟨by decide, fun _ => rfl⟩
theorem aX_3 {ad : Nat → Nat} {cy cz : ClassId} : fAi 76 (cfX ad cy cz) cy 3 120 := ⟨by decide, fun _ => rfl⟩
theorem aX_4 {ad : Nat → Nat} {cy cz : ClassId} : fAi 76 (cfX ad cy cz) cy 4 120 := ⟨by decide, fun _ => rfl⟩
theorem aX_5 {ad : Nat → Nat} {cy cz : ClassId} : fAi 76 (cfX ad cy cz) cy 5 360 := ⟨by decide, fun _ => rfl⟩
theorem aX_6 {ad : Nat → Nat} {cy cz : ClassId} : fAi 76 (cfX ad cy cz) cy 6 120 := ⟨by decide, fun _ => rfl⟩
theorem aX_7 {ad : Nat → Nat} {cy cz : ClassId} : fAi 76 (cfX ad cy cz) cy 7 128 := ⟨by decide, fun _ => rfl⟩
theorem aX_8 {ad : Nat → Nat} {cy cz : ClassId} : fAi 76 (cfX ad cy cz) cy 8 120 := ⟨by decide, fun _ => rfl⟩
theorem aX_9 {ad : Nat → Nat} {cy cz : ClassId} : fAi 76 (cfX ad cy cz) cy 9 120 := ⟨by decide, fun _ => rfl⟩
theorem aX_10 {ad : Nat → Nat} {cy cz : ClassId} : fAi 76 (cfX ad cy cz) cy 10 360 := ⟨by decide, fun _ => rfl⟩
theorem oX_11 {ad : Nat → Nat} {cy cz : ClassId} : fOb 76 (cfX ad cy cz) 11 5 (fun row => [.ref (ad 12), .ref (ad 13), .ref (ad 14), .ref (ad 15), .ref (ad 16), .int (row 5), .int (row 6), .int (row 7)]) := ⟨by decide, fun _ => rfl⟩
theorem aX_12 {ad : Nat → Nat} {cy cz : ClassId} : fAi 76 (cfX ad cy cz) cz 12 100 := ⟨by decide, fun _ => rfl⟩
theorem aX_13 {ad : Nat → Nat} {cy cz : ClassId} : fAi 76 (cfX ad cy cz) cy 13 100 := ⟨by decide, fun _ => rfl⟩
theorem aX_14 {ad : Nat → Nat} {cy cz : ClassId} : fAi 76 (cfX ad cy cz) cy 14 100 := ⟨by decide, fun _ => rfl⟩
theorem aX_15 {ad : Nat → Nat} {cy cz : ClassId} : fAi 76 (cfX ad cy cz) cy 15 100 := ⟨by decide, fun _ => rfl⟩
theorem aX_16 {ad : Nat → Nat} {cy cz : ClassId} : fAi 76 (cfX ad cy cz) cy 16 1000 := ⟨by decide, fun _ => rfl⟩
theorem oX_17 {ad : Nat → Nat} {cy cz : ClassId} : fOb 76 (cfX ad cy cz) 17 2 (fun row => [.ref (ad 1), .ref (ad 11), .ref (ad 28), .ref (ad (pcell (row 3))), .ref (ad (pcell (row 4))), .ref (ad 18), .ref (ad 20), .ref (ad 21), .ref (ad 22)]) := ⟨by decide, fun _ => rfl⟩
theorem oX_18 {ad : Nat → Nat} {cy cz : ClassId} : fOb 76 (cfX ad cy cz) 18 1 (fun row => [.ref (ad 19), .int (row 1)]) := ⟨by decide, fun _ => rfl⟩
theorem aX_19 {ad : Nat → Nat} {cy cz : ClassId} : fAi 76 (cfX ad cy cz) cy 19 100 := ⟨by decide, fun _ => rfl⟩
theorem aX_20 {ad : Nat → Nat} {cy cz : ClassId} : fAi 76 (cfX ad cy cz) cy 20 100 := ⟨by decide, fun _ => rfl⟩
theorem aX_21 {ad : Nat → Nat} {cy cz : ClassId} : fAi 76 (cfX ad cy cz) cz 21 100 := ⟨by decide, fun _ => rfl⟩
theorem aX_22 {ad : Nat → Nat} {cy cz : ClassId} : fAi 76 (cfX ad cy cz) cy 22 100 := ⟨by decide, fun _ => rfl⟩
theorem oX_23 {ad : Nat → Nat} {cy cz : ClassId} : fOb 76 (cfX ad cy cz) 23 0 (fun row => [.ref (ad 24), .ref (ad 25), .ref (ad 26), .ref (ad 27), .int (row 4), .int (row 5)]) := ⟨by decide, fun _ => rfl⟩
theorem aX_24 {ad : Nat → Nat} {cy cz : ClassId} : fAi 76 (cfX ad cy cz) cy 24 242 := ⟨by decide, fun _ => rfl⟩
theorem aX_25 {ad : Nat → Nat} {cy cz : ClassId} : fAi 76 (cfX ad cy cz) cy 25 242 := ⟨by decide, fun _ => rfl⟩
theorem aX_26 {ad : Nat → Nat} {cy cz : ClassId} : fAi 76 (cfX ad cy cz) cy 26 120 := ⟨by decide, fun _ => rfl⟩
theorem aX_27 {ad : Nat → Nat} {cy cz : ClassId} : fAi 76 (cfX ad cy cz) cz 27 120 := ⟨by decide, fun _ => rfl⟩
theorem oX_28 {ad : Nat → Nat} {cy cz : ClassId} : fOb 76 (cfX ad cy cz) 28 4 (fun row => [.ref (ad 1), .ref (ad 23), .ref (ad 29), .ref (ad 30), .ref (ad 31), .ref (ad 32), .ref (ad 33), .ref (ad 34), .ref (ad 35), .ref (ad 36), .ref (ad 37), .int (row 11), .int (row 12), .int (row 13)]) := ⟨by decide, fun _ => rfl⟩
theorem aX_29 {ad : Nat → Nat} {cy cz : ClassId} : fAi 76 (cfX ad cy cz) cy 29 120 := ⟨by decide, fun _ => rfl⟩
theorem aX_30 {ad : Nat → Nat} {cy cz : ClassId} : fAi 76 (cfX ad cy cz) cy 30 120 := ⟨by decide, fun _ => rfl⟩
theorem aX_31 {ad : Nat → Nat} {cy cz : ClassId} : fAi 76 (cfX ad cy cz) cy 31 120 := ⟨by decide, fun _ => rfl⟩
theorem aX_32 {ad : Nat → Nat} {cy cz : ClassId} : fAi 76 (cfX ad cy cz) cy 32 120 := ⟨by decide, fun _ => rfl⟩
theorem aX_33 {ad : Nat → Nat} {cy cz : ClassId} : fAi 76 (cfX ad cy cz) cy 33 120 := ⟨by decide, fun _ => rfl⟩
theorem aX_34 {ad : Nat → Nat} {cy cz : ClassId} : fAi 76 (cfX ad cy cz) cy 34 120 := ⟨by decide, fun _ => rfl⟩
theorem aX_35 {ad : Nat → Nat} {cy cz : ClassId} : fAi 76 (cfX ad cy cz) cy 35 128 := ⟨by decide, fun _ => rfl⟩
theorem aX_36 {ad : Nat → Nat} {cy cz : ClassId} : fAi 76 (cfX ad cy cz) cy 36 120 := ⟨by decide, fun _ => rfl⟩
theorem aX_37 {ad : Nat → Nat} {cy cz : ClassId} : fAi 76 (cfX ad cy cz) cy 37 120 := ⟨by decide, fun _ => rfl⟩
theorem oX_38 {ad : Nat → Nat} {cy cz : ClassId} : fOb 76 (cfX ad cy cz) 38 4 (fun row => [.ref (ad 1), .ref (ad 23), .ref (ad 39), .ref (ad 40), .ref (ad 41), .ref (ad 42), .ref (ad 43), .ref (ad 44), .ref (ad 45), .ref (ad 46), .ref (ad 47), .int (row 11), .int (row 12), .int (row 13)]) := ⟨by decide, fun _ => rfl⟩
theorem aX_39 {ad : Nat → Nat} {cy cz : ClassId} : fAi 76 (cfX ad cy cz) cy 39 120 := ⟨by decide, fun _ => rfl⟩
theorem aX_40 {ad : Nat → Nat} {cy cz : ClassId} : fAi 76 (cfX ad cy cz) cy 40 120 := ⟨by decide, fun _ => rfl⟩
theorem aX_41 {ad : Nat → Nat} {cy cz : ClassId} : fAi 76 (cfX ad cy cz) cy 41 120 := ⟨by decide, fun _ => rfl⟩
theorem aX_42 {ad : Nat → Nat} {cy cz : ClassId} : fAi 76 (cfX ad cy cz) cy 42 120 := ⟨by decide, fun _ => rfl⟩
theorem aX_43 {ad : Nat → Nat} {cy cz : ClassId} : fAi 76 (cfX ad cy cz) cy 43 120 := ⟨by decide, fun _ => rfl⟩
theorem aX_44 {ad : Nat → Nat} {cy cz : ClassId} : fAi 76 (cfX ad cy cz) cy 44 120 := ⟨by decide, fun _ => rfl⟩
theorem aX_45 {ad : Nat → Nat} {cy cz : ClassId} : fAi 76 (cfX ad cy cz) cy 45 128 := ⟨by decide, fun _ => rfl⟩
theorem aX_46 {ad : Nat → Nat} {cy cz : ClassId} : fAi 76 (cfX ad cy cz) cy 46 120 := ⟨by decide, fun _ => rfl⟩
theorem aX_47 {ad : Nat → Nat} {cy cz : ClassId} : fAi 76 (cfX ad cy cz) cy 47 120 := ⟨by decide, fun _ => rfl⟩
theorem oX_48 {ad : Nat → Nat} {cy cz : ClassId} : fOb 76 (cfX ad cy cz) 48 4 (fun row => [.ref (ad 1), .ref (ad 23), .ref (ad 49), .ref (ad 50), .ref (ad 51), .ref (ad 52), .ref (ad 53), .ref (ad 54), .ref (ad 55), .ref (ad 56), .ref (ad 57), .int (row 11), .int (row 12), .int (row 13)]) := ⟨by decide, fun _ => rfl⟩
theorem aX_49 {ad : Nat → Nat} {cy cz : ClassId} : fAi 76 (cfX ad cy cz) cy 49 120 := ⟨by decide, fun _ => rfl⟩
theorem aX_50 {ad : Nat → Nat} {cy cz : ClassId} : fAi 76 (cfX ad cy cz) cy 50 120 := ⟨by decide, fun _ => rfl⟩
theorem aX_51 {ad : Nat → Nat} {cy cz : ClassId} : fAi 76 (cfX ad cy cz) cy 51 120 := ⟨by decide, fun _ => rfl⟩
theorem aX_52 {ad : Nat → Nat} {cy cz : ClassId} : fAi 76 (cfX ad cy cz) cy 52 120 := ⟨by decide, fun _ => rfl⟩
theorem aX_53 {ad : Nat → Nat} {cy cz : ClassId} : fAi 76 (cfX ad cy cz) cy 53 120 := ⟨by decide, fun _ => rfl⟩
theorem aX_54 {ad : Nat → Nat} {cy cz : ClassId} : fAi 76 (cfX ad cy cz) cy 54 120 := ⟨by decide, fun _ => rfl⟩
theorem aX_55 {ad : Nat → Nat} {cy cz : ClassId} : fAi 76 (cfX ad cy cz) cy 55 128 := ⟨by decide, fun _ => rfl⟩
theorem aX_56 {ad : Nat → Nat} {cy cz : ClassId} : fAi 76 (cfX ad cy cz) cy 56 120 := ⟨by decide, fun _ => rfl⟩
theorem aX_57 {ad : Nat → Nat} {cy cz : ClassId} : fAi 76 (cfX ad cy cz) cy 57 120 := ⟨by decide, fun _ => rfl⟩
theorem oX_58 {ad : Nat → Nat} {cy cz : ClassId} : fOb 76 (cfX ad cy cz) 58 3 (fun row => [.ref (ad 1), .ref (ad 59), .ref (ad 60), .ref (ad 61), .ref (ad 62), .int (row 5)]) := ⟨by decide, fun _ => rfl⟩
theorem aX_59 {ad : Nat → Nat} {cy cz : ClassId} : fAi 76 (cfX ad cy cz) cy 59 120 := ⟨by decide, fun _ => rfl⟩
theorem aX_60 {ad : Nat → Nat} {cy cz : ClassId} : fAi 76 (cfX ad cy cz) cy 60 120 := ⟨by decide, fun _ => rfl⟩
theorem aX_61 {ad : Nat → Nat} {cy cz : ClassId} : fAi 76 (cfX ad cy cz) cy 61 120 := ⟨by decide, fun _ => rfl⟩
theorem aX_62 {ad : Nat → Nat} {cy cz : ClassId} : fAi 76 (cfX ad cy cz) cy 62 3 := ⟨by decide, fun _ => rfl⟩
theorem oX_63 {ad : Nat → Nat} {cy cz : ClassId} : fOb 76 (cfX ad cy cz) 63 6 (fun row => [.ref (ad 1), .ref (ad 11), .ref (ad 64), .ref (ad 65), .ref (ad 66), .ref (ad 67), .ref (ad 68), .int (row 7)]) := ⟨by decide, fun _ => rfl⟩
theorem aX_64 {ad : Nat → Nat} {cy cz : ClassId} : fAi 76 (cfX ad cy cz) cy 64 100 := ⟨by decide, fun _ => rfl⟩
theorem aX_65 {ad : Nat → Nat} {cy cz : ClassId} : fAi 76 (cfX ad cy cz) cy 65 100 := ⟨by decide, fun _ => rfl⟩
theorem aX_66 {ad : Nat → Nat} {cy cz : ClassId} : fAi 76 (cfX ad cy cz) cy 66 100 := ⟨by decide, fun _ => rfl⟩
theorem aX_67 {ad : Nat → Nat} {cy cz : ClassId} : fAi 76 (cfX ad cy cz) cy 67 100 := ⟨by decide, fun _ => rfl⟩
theorem aX_68 {ad : Nat → Nat} {cy cz : ClassId} : fAi 76 (cfX ad cy cz) cy 68 100 := ⟨by decide, fun _ => rfl⟩
theorem oX_69 {ad : Nat → Nat} {cy cz : ClassId} : fOb 76 (cfX ad cy cz) 69 1 (fun row => [.ref (ad 70), .int (row 1)]) := ⟨by decide, fun _ => rfl⟩
theorem aX_70 {ad : Nat → Nat} {cy cz : ClassId} : fAi 76 (cfX ad cy cz) cy 70 100 := ⟨by decide, fun _ => rfl⟩
theorem oX_71 {ad : Nat → Nat} {cy cz : ClassId} : fOb 76 (cfX ad cy cz) 71 1 (fun row => [.ref (ad 72), .int (row 1)]) := ⟨by decide, fun _ => rfl⟩
theorem aX_72 {ad : Nat → Nat} {cy cz : ClassId} : fAi 76 (cfX ad cy cz) cy 72 100 := ⟨by decide, fun _ => rfl⟩
theorem aX_73 {ad : Nat → Nat} {cy cz : ClassId} : fAi 76 (cfX ad cy cz) cy 73 10 := ⟨by decide, fun _ => rfl⟩
theorem aX_74 {ad : Nat → Nat} {cy cz : ClassId} : fAi 76 (cfX ad cy cz) cy 74 10 := ⟨by decide, fun _ => rfl⟩
theorem aX_75 {ad : Nat → Nat} {cy cz : ClassId} : fAi 76 (cfX ad cy cz) cy 75 120 := ⟨by decide, fun _ => rfl⟩
def cfML (ad : Nat → Nat) (cy cz : ClassId) (row : Nat → Int32) : List va_E := [
  .inr (9, [.ref (ad 1), .ref (ad 2), .ref (ad 3), .ref (ad 4), .int (row 4), .ref (ad 5), .ref (ad 6), .ref (ad 7), .ref (ad 8), .int (row 9), .ref (ad 9), .int (row 11), .ref (ad 10), .ref (ad 11), .int (row 14), .ref (ad 12), .ref (ad 13), .ref (ad 14), .ref (ad 15), .ref (ad 16), .int (row 20), .ref (ad 17), .int (row 22), .ref (ad 18), .int (row 24), .int (row 25), .int (row 26), .ref (ad 19), .ref (ad 20), .ref (ad 21), .int (row 30), .ref (ad 22), .ref (ad 23), .ref (ad 24), .ref (ad 25), .ref (ad 26), .ref (ad 27), .ref (ad 28), .ref (ad 29), .ref (ad 30), .int (row 40), .int (row 41)]),
  .inl (cy, 120, .inl row),
  .inl (cy, 120, .inl row),
  .inl (cy, 120, .inl row),
  .inl (cy, 360, .inl row),
  .inl (cy, 101, .inl row),
  .inl (cy, 101, .inl row),
  .inl (cz, 101, .inl row),
  .inl (cz, 101, .inl row),
  .inl (cz, 1000, .inl row),
  .inl (cy, 10, .inl row),
  .inl (cy, 10, .inl row),
  .inl (cy, 100, .inl row),
  .inl (cy, 100, .inl row),
  .inl (cy, 100, .inl row),
  .inl (cy, 100, .inl row),
  .inl (cy, 100, .inl row),
  .inl (cy, 100, .inl row),
  .inl (cy, 100, .inl row),
  .inl (cy, 3, .inl row),
  .inl (cy, 120, .inl row),
  .inl (cz, 101, .inl row),
  .inl (cy, 100, .inl row),
  .inl (cy, 100, .inl row),
  .inl (cy, 3, .inl row),
  .inl (cy, 120, .inl row),
  .inl (cy, 121, .inl row),
  .inl (cy, 121, .inl row),
  .inl (cz, 3, .inl row),
  .inl (cz, 120, .inl row),
  .inl (cy, 120, .inl row)]
def cfM (ad : Nat → Nat) (cy cz : ClassId) (k : Nat) (row : Nat → Int32) : va_E := (cfML ad cy cz row).getD k (.inl (cy, 0, .inl row))
theorem oM_0 {ad : Nat → Nat} {cy cz : ClassId} : fOb 31 (cfM ad cy cz) 0 9 (fun row => [.ref (ad 1), .ref (ad 2), .ref (ad 3), .ref (ad 4), .int (row 4), .ref (ad 5), .ref (ad 6), .ref (ad 7), .ref (ad 8), .int (row 9), .ref (ad 9), .int (row 11), .ref (ad 10), .ref (ad 11), .int (row 14), .ref (ad 12), .ref (ad 13), .ref (ad 14), .ref (ad 15), .ref (ad 16), .int (row 20), .ref (ad 17), .int (row 22), .ref (ad 18), .int (row 24), .int (row 25), .int (row 26), .ref (ad 19), .ref (ad 20), .ref (ad 21), .int (row 30), .ref (ad 22), .ref (ad 23), .ref (ad 24), .ref (ad 25), .ref (ad 26), .ref (ad 27), .ref (ad 28), .ref (ad 29), .ref (ad 30), .int (row 40), .int (row 41)]) := ⟨by decide, fun _ => rfl⟩
theorem aM_1 {ad : Nat → Nat} {cy cz : ClassId} : fAi 31 (cfM ad cy cz) cy 1 120 := ⟨by decide, fun _ => rfl⟩
theorem aM_2 {ad : Nat → Nat} {cy cz : ClassId} : fAi 31 (cfM ad cy cz) cy 2 120 := ⟨by decide, fun _ => rfl⟩
theorem aM_3 {ad : Nat → Nat} {cy cz : ClassId} : fAi 31 (cfM ad cy cz) cy 3 120 := ⟨by decide, fun _ => rfl⟩
theorem aM_4 {ad : Nat → Nat} {cy cz : ClassId} : fAi 31 (cfM ad cy cz) cy 4 360 := ⟨by decide, fun _ => rfl⟩
theorem aM_5 {ad : Nat → Nat} {cy cz : ClassId} : fAi 31 (cfM ad cy cz) cy 5 101 := ⟨by decide, fun _ => rfl⟩
theorem aM_6 {ad : Nat → Nat} {cy cz : ClassId} : fAi 31 (cfM ad cy cz) cy 6 101 := ⟨by decide, fun _ => rfl⟩
theorem aM_7 {ad : Nat → Nat} {cy cz : ClassId} : fAi 31 (cfM ad cy cz) cz 7 101 := ⟨by decide, fun _ => rfl⟩
theorem aM_8 {ad : Nat → Nat} {cy cz : ClassId} : fAi 31 (cfM ad cy cz) cz 8 101 := ⟨by decide, fun _ => rfl⟩
theorem aM_9 {ad : Nat → Nat} {cy cz : ClassId} : fAi 31 (cfM ad cy cz) cz 9 1000 := ⟨by decide, fun _ => rfl⟩
theorem aM_10 {ad : Nat → Nat} {cy cz : ClassId} : fAi 31 (cfM ad cy cz) cy 10 10 := ⟨by decide, fun _ => rfl⟩
theorem aM_11 {ad : Nat → Nat} {cy cz : ClassId} : fAi 31 (cfM ad cy cz) cy 11 10 := ⟨by decide, fun _ => rfl⟩
theorem aM_12 {ad : Nat → Nat} {cy cz : ClassId} : fAi 31 (cfM ad cy cz) cy 12 100 := ⟨by decide, fun _ => rfl⟩
theorem aM_13 {ad : Nat → Nat} {cy cz : ClassId} : fAi 31 (cfM ad cy cz) cy 13 100 := ⟨by decide, fun _ => rfl⟩
theorem aM_14 {ad : Nat → Nat} {cy cz : ClassId} : fAi 31 (cfM ad cy cz) cy 14 100 := ⟨by decide, fun _ => rfl⟩
theorem aM_15 {ad : Nat → Nat} {cy cz : ClassId} : fAi 31 (cfM ad cy cz) cy 15 100 := ⟨by decide, fun _ => rfl⟩
theorem aM_16 {ad : Nat → Nat} {cy cz : ClassId} : fAi 31 (cfM ad cy cz) cy 16 100 := ⟨by decide, fun _ => rfl⟩
theorem aM_17 {ad : Nat → Nat} {cy cz : ClassId} : fAi 31 (cfM ad cy cz) cy 17 100 := ⟨by decide, fun _ => rfl⟩
theorem aM_18 {ad : Nat → Nat} {cy cz : ClassId} : fAi 31 (cfM ad cy cz) cy 18 100 := ⟨by decide, fun _ => rfl⟩
theorem aM_19 {ad : Nat → Nat} {cy cz : ClassId} : fAi 31 (cfM ad cy cz) cy 19 3 := ⟨by decide, fun _ => rfl⟩
theorem aM_20 {ad : Nat → Nat} {cy cz : ClassId} : fAi 31 (cfM ad cy cz) cy 20 120 := ⟨by decide, fun _ => rfl⟩
theorem aM_21 {ad : Nat → Nat} {cy cz : ClassId} : fAi 31 (cfM ad cy cz) cz 21 101 := ⟨by decide, fun _ => rfl⟩
theorem aM_22 {ad : Nat → Nat} {cy cz : ClassId} : fAi 31 (cfM ad cy cz) cy 22 100 := ⟨by decide, fun _ => rfl⟩
theorem aM_23 {ad : Nat → Nat} {cy cz : ClassId} : fAi 31 (cfM ad cy cz) cy 23 100 := ⟨by decide, fun _ => rfl⟩
theorem aM_24 {ad : Nat → Nat} {cy cz : ClassId} : fAi 31 (cfM ad cy cz) cy 24 3 := ⟨by decide, fun _ => rfl⟩
theorem aM_25 {ad : Nat → Nat} {cy cz : ClassId} : fAi 31 (cfM ad cy cz) cy 25 120 := ⟨by decide, fun _ => rfl⟩
theorem aM_26 {ad : Nat → Nat} {cy cz : ClassId} : fAi 31 (cfM ad cy cz) cy 26 121 := ⟨by decide, fun _ => rfl⟩
theorem aM_27 {ad : Nat → Nat} {cy cz : ClassId} : fAi 31 (cfM ad cy cz) cy 27 121 := ⟨by decide, fun _ => rfl⟩
theorem aM_28 {ad : Nat → Nat} {cy cz : ClassId} : fAi 31 (cfM ad cy cz) cz 28 3 := ⟨by decide, fun _ => rfl⟩
theorem aM_29 {ad : Nat → Nat} {cy cz : ClassId} : fAi 31 (cfM ad cy cz) cz 29 120 := ⟨by decide, fun _ => rfl⟩
theorem aM_30 {ad : Nat → Nat} {cy cz : ClassId} : fAi 31 (cfM ad cy cz) cy 30 120 := ⟨by decide, fun _ => rfl⟩
theorem oP {ad : Nat → Nat} {cy cz : ClassId} {k : Nat} (h : isP k) : fOb 76 (cfX ad cy cz) k 4 (fun row => [.ref (ad 1), .ref (ad 23), .ref (ad (k + 1)), .ref (ad (k + 2)), .ref (ad (k + 3)), .ref (ad (k + 4)), .ref (ad (k + 5)), .ref (ad (k + 6)), .ref (ad (k + 7)), .ref (ad (k + 8)), .ref (ad (k + 9)), .int (row 11), .int (row 12), .int (row 13)]) := by
  rcases h with rfl | rfl | rfl
  · exact oX_28
  · exact oX_38
  · exact oX_48
theorem aP_1 {ad : Nat → Nat} {cy cz : ClassId} {k : Nat} (h : isP k) : fAi 76 (cfX ad cy cz) cy (k + 1) 120 := by
  rcases h with rfl | rfl | rfl
  · exact aX_29
  · exact aX_39
  · exact aX_49
theorem aP_2 {ad : Nat → Nat} {cy cz : ClassId} {k : Nat} (h : isP k) : fAi 76 (cfX ad cy cz) cy (k + 2) 120 := by
  rcases h with rfl | rfl | rfl
  · exact aX_30
  · exact aX_40
  · exact aX_50
theorem aP_3 {ad : Nat → Nat} {cy cz : ClassId} {k : Nat} (h : isP k) : fAi 76 (cfX ad cy cz) cy (k + 3) 120 := by
  rcases h with rfl | rfl | rfl
  · exact aX_31
  · exact aX_41
  · exact aX_51
theorem aP_4 {ad : Nat → Nat} {cy cz : ClassId} {k : Nat} (h : isP k) : fAi 76 (cfX ad cy cz) cy (k + 4) 120 := by
  rcases h with rfl | rfl | rfl
  · exact aX_32
  · exact aX_42
  · exact aX_52
theorem aP_5 {ad : Nat → Nat} {cy cz : ClassId} {k : Nat} (h : isP k) : fAi 76 (cfX ad cy cz) cy (k + 5) 120 := by
  rcases h with rfl | rfl | rfl
  · exact aX_33
  · exact aX_43
  · exact aX_53
theorem aP_6 {ad : Nat → Nat} {cy cz : ClassId} {k : Nat} (h : isP k) : fAi 76 (cfX ad cy cz) cy (k + 6) 120 := by
  rcases h with rfl | rfl | rfl
  · exact aX_34
  · exact aX_44
  · exact aX_54
theorem aP_7 {ad : Nat → Nat} {cy cz : ClassId} {k : Nat} (h : isP k) : fAi 76 (cfX ad cy cz) cy (k + 7) 128 := by
  rcases h with rfl | rfl | rfl
  · exact aX_35
  · exact aX_45
  · exact aX_55
theorem aP_8 {ad : Nat → Nat} {cy cz : ClassId} {k : Nat} (h : isP k) : fAi 76 (cfX ad cy cz) cy (k + 8) 120 := by
  rcases h with rfl | rfl | rfl
  · exact aX_36
  · exact aX_46
  · exact aX_56
theorem aP_9 {ad : Nat → Nat} {cy cz : ClassId} {k : Nat} (h : isP k) : fAi 76 (cfX ad cy cz) cy (k + 9) 120 := by
  rcases h with rfl | rfl | rfl
  · exact aX_37
  · exact aX_47
  · exact aX_57
theorem oK {ad : Nat → Nat} {cy cz : ClassId} {k : Nat} (h : isK k) : fOb 76 (cfX ad cy cz) k 1 (fun row => [.ref (ad (k + 1)), .int (row 1)]) := by
  rcases h with rfl | rfl | rfl
  · exact oX_18
  · exact oX_69
  · exact oX_71
theorem aK_1 {ad : Nat → Nat} {cy cz : ClassId} {k : Nat} (h : isK k) : fAi 76 (cfX ad cy cz) cy (k + 1) 100 := by
  rcases h with rfl | rfl | rfl
  · exact aX_19
  · exact aX_70
  · exact aX_72
section FGET
variable {D : va_G} {ad : Nat → Nat} {cy cz : ClassId} {cc : ByteArray} {nL : Nat} {own : String} {σ τ : fS}
variable {p : Program} {l : Launch} {e : Env} {R : Room} {s : State} {m : MethodId} {args : Array Value} {below : List Frame} {meth : Method} {c : Code} {H : Heap} {locs : List Loc} {Q : State → Prop} {pc : Nat} {ls : Array Slot} {rest : List Value}
theorem gX0_lefts (hC : fC D 76 ad cy cz p s m args c cc nL own) (hI : fI D 76 ad (cfX ad cy cz) σ s H locs) {index : Nat} (hlink : Cond.fieldLink own index "EqualCourt$Agenda" "lefts" "[I" ∈ TW) (hdg : decode cc pc = .ok (.getfield index, 3)) (kk : W p l e R s m args below meth c H locs 0 0 Q (F0 m (pc + 3) ls (.ref (ad 24) :: rest))) : W p l e R s m args below meth c H locs 0 0 Q (F0 m pc ls (.ref (ad 23) :: rest)) := r_get hC hI oX_23 (C := "EqualCourt$Agenda") rfl inX0 0 (by decide) rfl hlink rfl hdg kk
theorem gX0_rights (hC : fC D 76 ad cy cz p s m args c cc nL own) (hI : fI D 76 ad (cfX ad cy cz) σ s H locs) {index : Nat} (hlink : Cond.fieldLink own index "EqualCourt$Agenda" "rights" "[I" ∈ TW) (hdg : decode cc pc = .ok (.getfield index, 3)) (kk : W p l e R s m args below meth c H locs 0 0 Q (F0 m (pc + 3) ls (.ref (ad 25) :: rest))) : W p l e R s m args below meth c H locs 0 0 Q (F0 m pc ls (.ref (ad 23) :: rest)) := r_get hC hI oX_23 (C := "EqualCourt$Agenda") rfl inX0 1 (by decide) rfl hlink rfl hdg kk
theorem gX0_changed (hC : fC D 76 ad cy cz p s m args c cc nL own) (hI : fI D 76 ad (cfX ad cy cz) σ s H locs) {index : Nat} (hlink : Cond.fieldLink own index "EqualCourt$Agenda" "changed" "[I" ∈ TW) (hdg : decode cc pc = .ok (.getfield index, 3)) (kk : W p l e R s m args below meth c H locs 0 0 Q (F0 m (pc + 3) ls (.ref (ad 26) :: rest))) : W p l e R s m args below meth c H locs 0 0 Q (F0 m pc ls (.ref (ad 23) :: rest)) := r_get hC hI oX_23 (C := "EqualCourt$Agenda") rfl inX0 2 (by decide) rfl hlink rfl hdg kk
theorem gX0_waits (hC : fC D 76 ad cy cz p s m args c cc nL own) (hI : fI D 76 ad (cfX ad cy cz) σ s H locs) {index : Nat} (hlink : Cond.fieldLink own index "EqualCourt$Agenda" "waits" "[Z" ∈ TW) (hdg : decode cc pc = .ok (.getfield index, 3)) (kk : W p l e R s m args below meth c H locs 0 0 Q (F0 m (pc + 3) ls (.ref (ad 27) :: rest))) : W p l e R s m args below meth c H locs 0 0 Q (F0 m pc ls (.ref (ad 23) :: rest)) := r_get hC hI oX_23 (C := "EqualCourt$Agenda") rfl inX0 3 (by decide) rfl hlink rfl hdg kk
theorem gX0_pairCount (hC : fC D 76 ad cy cz p s m args c cc nL own) (hI : fI D 76 ad (cfX ad cy cz) σ s H locs) {index : Nat} (hlink : Cond.fieldLink own index "EqualCourt$Agenda" "pairCount" "I" ∈ TW) (hdg : decode cc pc = .ok (.getfield index, 3)) (kk : W p l e R s m args below meth c H locs 0 0 Q (F0 m (pc + 3) ls (.int (σ 23 4) :: rest))) : W p l e R s m args below meth c H locs 0 0 Q (F0 m pc ls (.ref (ad 23) :: rest)) := r_get hC hI oX_23 (C := "EqualCourt$Agenda") rfl inX0 4 (by decide) rfl hlink rfl hdg kk
theorem pX0_pairCount (hC : fC D 76 ad cy cz p s m args c cc nL own) (hI : fI D 76 ad (cfX ad cy cz) σ s H locs) {index : Nat} (hlink : Cond.fieldLink own index "EqualCourt$Agenda" "pairCount" "I" ∈ TW) {x : Int32} (hdg : decode cc pc = .ok (.putfield index, 3)) (kk : ∀ (σ1 : fS) (H1 : Heap) (locs1 : List Loc), σ1 = wf σ 23 4 x → fI D 76 ad (cfX ad cy cz) σ1 s H1 locs1 → W p l e R s m args below meth c H1 locs1 0 0 Q (F0 m (pc + 3) ls rest)) : W p l e R s m args below meth c H locs 0 0 Q (F0 m pc ls (.int x :: .ref (ad 23) :: rest)) := r_put hC hI oX_23 (C := "EqualCourt$Agenda") rfl inX0 tyX0 tyX0_ok nmX0 4 (by decide) rfl rfl hlink rfl rfl (Nat.le_of_ble_eq_true rfl) rfl hdg kk
theorem gX0_changedCount (hC : fC D 76 ad cy cz p s m args c cc nL own) (hI : fI D 76 ad (cfX ad cy cz) σ s H locs) {index : Nat} (hlink : Cond.fieldLink own index "EqualCourt$Agenda" "changedCount" "I" ∈ TW) (hdg : decode cc pc = .ok (.getfield index, 3)) (kk : W p l e R s m args below meth c H locs 0 0 Q (F0 m (pc + 3) ls (.int (σ 23 5) :: rest))) : W p l e R s m args below meth c H locs 0 0 Q (F0 m pc ls (.ref (ad 23) :: rest)) := r_get hC hI oX_23 (C := "EqualCourt$Agenda") rfl inX0 5 (by decide) rfl hlink rfl hdg kk
theorem pX0_changedCount (hC : fC D 76 ad cy cz p s m args c cc nL own) (hI : fI D 76 ad (cfX ad cy cz) σ s H locs) {index : Nat} (hlink : Cond.fieldLink own index "EqualCourt$Agenda" "changedCount" "I" ∈ TW) {x : Int32} (hdg : decode cc pc = .ok (.putfield index, 3)) (kk : ∀ (σ1 : fS) (H1 : Heap) (locs1 : List Loc), σ1 = wf σ 23 5 x → fI D 76 ad (cfX ad cy cz) σ1 s H1 locs1 → W p l e R s m args below meth c H1 locs1 0 0 Q (F0 m (pc + 3) ls rest)) : W p l e R s m args below meth c H locs 0 0 Q (F0 m pc ls (.int x :: .ref (ad 23) :: rest)) := r_put hC hI oX_23 (C := "EqualCourt$Agenda") rfl inX0 tyX0 tyX0_ok nmX0 5 (by decide) rfl rfl hlink rfl rfl (Nat.le_of_ble_eq_true rfl) rfl hdg kk
theorem gX1_items {k : Nat} (hk : isK k) (hC : fC D 76 ad cy cz p s m args c cc nL own) (hI : fI D 76 ad (cfX ad cy cz) σ s H locs) {index : Nat} (hlink : Cond.fieldLink own index "EqualCourt$Core" "items" "[I" ∈ TW) (hdg : decode cc pc = .ok (.getfield index, 3)) (kk : W p l e R s m args below meth c H locs 0 0 Q (F0 m (pc + 3) ls (.ref (ad (k + 1)) :: rest))) : W p l e R s m args below meth c H locs 0 0 Q (F0 m pc ls (.ref (ad k) :: rest)) := r_get hC hI (oK hk) (C := "EqualCourt$Core") rfl inX1 0 (by decide) rfl hlink rfl hdg kk
theorem gX1_count {k : Nat} (hk : isK k) (hC : fC D 76 ad cy cz p s m args c cc nL own) (hI : fI D 76 ad (cfX ad cy cz) σ s H locs) {index : Nat} (hlink : Cond.fieldLink own index "EqualCourt$Core" "count" "I" ∈ TW) (hdg : decode cc pc = .ok (.getfield index, 3)) (kk : W p l e R s m args below meth c H locs 0 0 Q (F0 m (pc + 3) ls (.int (σ k 1) :: rest))) : W p l e R s m args below meth c H locs 0 0 Q (F0 m pc ls (.ref (ad k) :: rest)) := r_get hC hI (oK hk) (C := "EqualCourt$Core") rfl inX1 1 (by decide) rfl hlink rfl hdg kk
theorem pX1_count {k : Nat} (hk : isK k) (hC : fC D 76 ad cy cz p s m args c cc nL own) (hI : fI D 76 ad (cfX ad cy cz) σ s H locs) {index : Nat} (hlink : Cond.fieldLink own index "EqualCourt$Core" "count" "I" ∈ TW) {x : Int32} (hdg : decode cc pc = .ok (.putfield index, 3)) (kk : ∀ (σ1 : fS) (H1 : Heap) (locs1 : List Loc), σ1 = wf σ k 1 x → fI D 76 ad (cfX ad cy cz) σ1 s H1 locs1 → W p l e R s m args below meth c H1 locs1 0 0 Q (F0 m (pc + 3) ls rest)) : W p l e R s m args below meth c H locs 0 0 Q (F0 m pc ls (.int x :: .ref (ad k) :: rest)) := r_put hC hI (oK hk) (C := "EqualCourt$Core") rfl inX1 tyX1 tyX1_ok nmX1 1 (by decide) rfl rfl hlink rfl rfl (Nat.le_of_ble_eq_true rfl) rfl hdg kk
theorem gX2_terms (hC : fC D 76 ad cy cz p s m args c cc nL own) (hI : fI D 76 ad (cfX ad cy cz) σ s H locs) {index : Nat} (hlink : Cond.fieldLink own index "EqualCourt$Court" "terms" "LEqualCourt$Terms;" ∈ TW) (hdg : decode cc pc = .ok (.getfield index, 3)) (kk : W p l e R s m args below meth c H locs 0 0 Q (F0 m (pc + 3) ls (.ref (ad 1) :: rest))) : W p l e R s m args below meth c H locs 0 0 Q (F0 m pc ls (.ref (ad 17) :: rest)) := r_get hC hI oX_17 (C := "EqualCourt$Court") rfl inX2 0 (by decide) rfl hlink rfl hdg kk
theorem gX2_sayings (hC : fC D 76 ad cy cz p s m args c cc nL own) (hI : fI D 76 ad (cfX ad cy cz) σ s H locs) {index : Nat} (hlink : Cond.fieldLink own index "EqualCourt$Court" "sayings" "LEqualCourt$Sayings;" ∈ TW) (hdg : decode cc pc = .ok (.getfield index, 3)) (kk : W p l e R s m args below meth c H locs 0 0 Q (F0 m (pc + 3) ls (.ref (ad 11) :: rest))) : W p l e R s m args below meth c H locs 0 0 Q (F0 m pc ls (.ref (ad 17) :: rest)) := r_get hC hI oX_17 (C := "EqualCourt$Court") rfl inX2 1 (by decide) rfl hlink rfl hdg kk
theorem gX2_bare (hC : fC D 76 ad cy cz p s m args c cc nL own) (hI : fI D 76 ad (cfX ad cy cz) σ s H locs) {index : Nat} (hlink : Cond.fieldLink own index "EqualCourt$Court" "bare" "LEqualCourt$Partition;" ∈ TW) (hdg : decode cc pc = .ok (.getfield index, 3)) (kk : W p l e R s m args below meth c H locs 0 0 Q (F0 m (pc + 3) ls (.ref (ad 28) :: rest))) : W p l e R s m args below meth c H locs 0 0 Q (F0 m pc ls (.ref (ad 17) :: rest)) := r_get hC hI oX_17 (C := "EqualCourt$Court") rfl inX2 2 (by decide) rfl hlink rfl hdg kk
theorem gX2_standing (hC : fC D 76 ad cy cz p s m args c cc nL own) (hI : fI D 76 ad (cfX ad cy cz) σ s H locs) {index : Nat} (hlink : Cond.fieldLink own index "EqualCourt$Court" "standing" "LEqualCourt$Partition;" ∈ TW) (hdg : decode cc pc = .ok (.getfield index, 3)) (kk : W p l e R s m args below meth c H locs 0 0 Q (F0 m (pc + 3) ls (.ref (ad (pcell (σ 17 3))) :: rest))) : W p l e R s m args below meth c H locs 0 0 Q (F0 m pc ls (.ref (ad 17) :: rest)) := r_get hC hI oX_17 (C := "EqualCourt$Court") rfl inX2 3 (by decide) rfl hlink rfl hdg kk
theorem pX2_standing (hC : fC D 76 ad cy cz p s m args c cc nL own) (hI : fI D 76 ad (cfX ad cy cz) σ s H locs) {index : Nat} (hlink : Cond.fieldLink own index "EqualCourt$Court" "standing" "LEqualCourt$Partition;" ∈ TW) {x : Int32} (hdg : decode cc pc = .ok (.putfield index, 3)) (kk : ∀ (σ1 : fS) (H1 : Heap) (locs1 : List Loc), σ1 = wf σ 17 3 x → fI D 76 ad (cfX ad cy cz) σ1 s H1 locs1 → W p l e R s m args below meth c H1 locs1 0 0 Q (F0 m (pc + 3) ls rest)) : W p l e R s m args below meth c H locs 0 0 Q (F0 m pc ls (.ref (ad (pcell x)) :: .ref (ad 17) :: rest)) := r_put hC hI oX_17 (C := "EqualCourt$Court") rfl inX2 tyX2 tyX2_ok nmX2 3 (by decide) rfl rfl hlink rfl rfl (Nat.le_of_ble_eq_true rfl) rfl hdg kk
theorem gX2_trial (hC : fC D 76 ad cy cz p s m args c cc nL own) (hI : fI D 76 ad (cfX ad cy cz) σ s H locs) {index : Nat} (hlink : Cond.fieldLink own index "EqualCourt$Court" "trial" "LEqualCourt$Partition;" ∈ TW) (hdg : decode cc pc = .ok (.getfield index, 3)) (kk : W p l e R s m args below meth c H locs 0 0 Q (F0 m (pc + 3) ls (.ref (ad (pcell (σ 17 4))) :: rest))) : W p l e R s m args below meth c H locs 0 0 Q (F0 m pc ls (.ref (ad 17) :: rest)) := r_get hC hI oX_17 (C := "EqualCourt$Court") rfl inX2 4 (by decide) rfl hlink rfl hdg kk
theorem pX2_trial (hC : fC D 76 ad cy cz p s m args c cc nL own) (hI : fI D 76 ad (cfX ad cy cz) σ s H locs) {index : Nat} (hlink : Cond.fieldLink own index "EqualCourt$Court" "trial" "LEqualCourt$Partition;" ∈ TW) {x : Int32} (hdg : decode cc pc = .ok (.putfield index, 3)) (kk : ∀ (σ1 : fS) (H1 : Heap) (locs1 : List Loc), σ1 = wf σ 17 4 x → fI D 76 ad (cfX ad cy cz) σ1 s H1 locs1 → W p l e R s m args below meth c H1 locs1 0 0 Q (F0 m (pc + 3) ls rest)) : W p l e R s m args below meth c H locs 0 0 Q (F0 m pc ls (.ref (ad (pcell x)) :: .ref (ad 17) :: rest)) := r_put hC hI oX_17 (C := "EqualCourt$Court") rfl inX2 tyX2 tyX2_ok nmX2 4 (by decide) rfl rfl hlink rfl rfl (Nat.le_of_ble_eq_true rfl) rfl hdg kk
theorem gX2_unlikes (hC : fC D 76 ad cy cz p s m args c cc nL own) (hI : fI D 76 ad (cfX ad cy cz) σ s H locs) {index : Nat} (hlink : Cond.fieldLink own index "EqualCourt$Court" "unlikes" "LEqualCourt$Core;" ∈ TW) (hdg : decode cc pc = .ok (.getfield index, 3)) (kk : W p l e R s m args below meth c H locs 0 0 Q (F0 m (pc + 3) ls (.ref (ad 18) :: rest))) : W p l e R s m args below meth c H locs 0 0 Q (F0 m pc ls (.ref (ad 17) :: rest)) := r_get hC hI oX_17 (C := "EqualCourt$Court") rfl inX2 5 (by decide) rfl hlink rfl hdg kk
theorem gX2_pool (hC : fC D 76 ad cy cz p s m args c cc nL own) (hI : fI D 76 ad (cfX ad cy cz) σ s H locs) {index : Nat} (hlink : Cond.fieldLink own index "EqualCourt$Court" "pool" "[I" ∈ TW) (hdg : decode cc pc = .ok (.getfield index, 3)) (kk : W p l e R s m args below meth c H locs 0 0 Q (F0 m (pc + 3) ls (.ref (ad 20) :: rest))) : W p l e R s m args below meth c H locs 0 0 Q (F0 m pc ls (.ref (ad 17) :: rest)) := r_get hC hI oX_17 (C := "EqualCourt$Court") rfl inX2 6 (by decide) rfl hlink rfl hdg kk
theorem gX2_helps (hC : fC D 76 ad cy cz p s m args c cc nL own) (hI : fI D 76 ad (cfX ad cy cz) σ s H locs) {index : Nat} (hlink : Cond.fieldLink own index "EqualCourt$Court" "helps" "[Z" ∈ TW) (hdg : decode cc pc = .ok (.getfield index, 3)) (kk : W p l e R s m args below meth c H locs 0 0 Q (F0 m (pc + 3) ls (.ref (ad 21) :: rest))) : W p l e R s m args below meth c H locs 0 0 Q (F0 m pc ls (.ref (ad 17) :: rest)) := r_get hC hI oX_17 (C := "EqualCourt$Court") rfl inX2 7 (by decide) rfl hlink rfl hdg kk
theorem gX2_picks (hC : fC D 76 ad cy cz p s m args c cc nL own) (hI : fI D 76 ad (cfX ad cy cz) σ s H locs) {index : Nat} (hlink : Cond.fieldLink own index "EqualCourt$Court" "picks" "[I" ∈ TW) (hdg : decode cc pc = .ok (.getfield index, 3)) (kk : W p l e R s m args below meth c H locs 0 0 Q (F0 m (pc + 3) ls (.ref (ad 22) :: rest))) : W p l e R s m args below meth c H locs 0 0 Q (F0 m pc ls (.ref (ad 17) :: rest)) := r_get hC hI oX_17 (C := "EqualCourt$Court") rfl inX2 8 (by decide) rfl hlink rfl hdg kk
theorem gX3_terms (hC : fC D 76 ad cy cz p s m args c cc nL own) (hI : fI D 76 ad (cfX ad cy cz) σ s H locs) {index : Nat} (hlink : Cond.fieldLink own index "EqualCourt$Maker" "terms" "LEqualCourt$Terms;" ∈ TW) (hdg : decode cc pc = .ok (.getfield index, 3)) (kk : W p l e R s m args below meth c H locs 0 0 Q (F0 m (pc + 3) ls (.ref (ad 1) :: rest))) : W p l e R s m args below meth c H locs 0 0 Q (F0 m pc ls (.ref (ad 58) :: rest)) := r_get hC hI oX_58 (C := "EqualCourt$Maker") rfl inX3 0 (by decide) rfl hlink rfl hdg kk
theorem gX3_images (hC : fC D 76 ad cy cz p s m args c cc nL own) (hI : fI D 76 ad (cfX ad cy cz) σ s H locs) {index : Nat} (hlink : Cond.fieldLink own index "EqualCourt$Maker" "images" "[I" ∈ TW) (hdg : decode cc pc = .ok (.getfield index, 3)) (kk : W p l e R s m args below meth c H locs 0 0 Q (F0 m (pc + 3) ls (.ref (ad 59) :: rest))) : W p l e R s m args below meth c H locs 0 0 Q (F0 m pc ls (.ref (ad 58) :: rest)) := r_get hC hI oX_58 (C := "EqualCourt$Maker") rfl inX3 1 (by decide) rfl hlink rfl hdg kk
theorem gX3_turnOfImage (hC : fC D 76 ad cy cz p s m args c cc nL own) (hI : fI D 76 ad (cfX ad cy cz) σ s H locs) {index : Nat} (hlink : Cond.fieldLink own index "EqualCourt$Maker" "turnOfImage" "[I" ∈ TW) (hdg : decode cc pc = .ok (.getfield index, 3)) (kk : W p l e R s m args below meth c H locs 0 0 Q (F0 m (pc + 3) ls (.ref (ad 60) :: rest))) : W p l e R s m args below meth c H locs 0 0 Q (F0 m pc ls (.ref (ad 58) :: rest)) := r_get hC hI oX_58 (C := "EqualCourt$Maker") rfl inX3 2 (by decide) rfl hlink rfl hdg kk
theorem gX3_path (hC : fC D 76 ad cy cz p s m args c cc nL own) (hI : fI D 76 ad (cfX ad cy cz) σ s H locs) {index : Nat} (hlink : Cond.fieldLink own index "EqualCourt$Maker" "path" "[I" ∈ TW) (hdg : decode cc pc = .ok (.getfield index, 3)) (kk : W p l e R s m args below meth c H locs 0 0 Q (F0 m (pc + 3) ls (.ref (ad 61) :: rest))) : W p l e R s m args below meth c H locs 0 0 Q (F0 m pc ls (.ref (ad 58) :: rest)) := r_get hC hI oX_58 (C := "EqualCourt$Maker") rfl inX3 3 (by decide) rfl hlink rfl hdg kk
theorem gX3_fillings (hC : fC D 76 ad cy cz p s m args c cc nL own) (hI : fI D 76 ad (cfX ad cy cz) σ s H locs) {index : Nat} (hlink : Cond.fieldLink own index "EqualCourt$Maker" "fillings" "[I" ∈ TW) (hdg : decode cc pc = .ok (.getfield index, 3)) (kk : W p l e R s m args below meth c H locs 0 0 Q (F0 m (pc + 3) ls (.ref (ad 62) :: rest))) : W p l e R s m args below meth c H locs 0 0 Q (F0 m pc ls (.ref (ad 58) :: rest)) := r_get hC hI oX_58 (C := "EqualCourt$Maker") rfl inX3 4 (by decide) rfl hlink rfl hdg kk
theorem gX3_turn (hC : fC D 76 ad cy cz p s m args c cc nL own) (hI : fI D 76 ad (cfX ad cy cz) σ s H locs) {index : Nat} (hlink : Cond.fieldLink own index "EqualCourt$Maker" "turn" "I" ∈ TW) (hdg : decode cc pc = .ok (.getfield index, 3)) (kk : W p l e R s m args below meth c H locs 0 0 Q (F0 m (pc + 3) ls (.int (σ 58 5) :: rest))) : W p l e R s m args below meth c H locs 0 0 Q (F0 m pc ls (.ref (ad 58) :: rest)) := r_get hC hI oX_58 (C := "EqualCourt$Maker") rfl inX3 5 (by decide) rfl hlink rfl hdg kk
theorem pX3_turn (hC : fC D 76 ad cy cz p s m args c cc nL own) (hI : fI D 76 ad (cfX ad cy cz) σ s H locs) {index : Nat} (hlink : Cond.fieldLink own index "EqualCourt$Maker" "turn" "I" ∈ TW) {x : Int32} (hdg : decode cc pc = .ok (.putfield index, 3)) (kk : ∀ (σ1 : fS) (H1 : Heap) (locs1 : List Loc), σ1 = wf σ 58 5 x → fI D 76 ad (cfX ad cy cz) σ1 s H1 locs1 → W p l e R s m args below meth c H1 locs1 0 0 Q (F0 m (pc + 3) ls rest)) : W p l e R s m args below meth c H locs 0 0 Q (F0 m pc ls (.int x :: .ref (ad 58) :: rest)) := r_put hC hI oX_58 (C := "EqualCourt$Maker") rfl inX3 tyX3 tyX3_ok nmX3 5 (by decide) rfl rfl hlink rfl rfl (Nat.le_of_ble_eq_true rfl) rfl hdg kk
theorem gX4_terms {k : Nat} (hk : isP k) (hC : fC D 76 ad cy cz p s m args c cc nL own) (hI : fI D 76 ad (cfX ad cy cz) σ s H locs) {index : Nat} (hlink : Cond.fieldLink own index "EqualCourt$Partition" "terms" "LEqualCourt$Terms;" ∈ TW) (hdg : decode cc pc = .ok (.getfield index, 3)) (kk : W p l e R s m args below meth c H locs 0 0 Q (F0 m (pc + 3) ls (.ref (ad 1) :: rest))) : W p l e R s m args below meth c H locs 0 0 Q (F0 m pc ls (.ref (ad k) :: rest)) := r_get hC hI (oP hk) (C := "EqualCourt$Partition") rfl inX4 0 (by decide) rfl hlink rfl hdg kk
theorem gX4_agenda {k : Nat} (hk : isP k) (hC : fC D 76 ad cy cz p s m args c cc nL own) (hI : fI D 76 ad (cfX ad cy cz) σ s H locs) {index : Nat} (hlink : Cond.fieldLink own index "EqualCourt$Partition" "agenda" "LEqualCourt$Agenda;" ∈ TW) (hdg : decode cc pc = .ok (.getfield index, 3)) (kk : W p l e R s m args below meth c H locs 0 0 Q (F0 m (pc + 3) ls (.ref (ad 23) :: rest))) : W p l e R s m args below meth c H locs 0 0 Q (F0 m pc ls (.ref (ad k) :: rest)) := r_get hC hI (oP hk) (C := "EqualCourt$Partition") rfl inX4 1 (by decide) rfl hlink rfl hdg kk
theorem gX4_root {k : Nat} (hk : isP k) (hC : fC D 76 ad cy cz p s m args c cc nL own) (hI : fI D 76 ad (cfX ad cy cz) σ s H locs) {index : Nat} (hlink : Cond.fieldLink own index "EqualCourt$Partition" "root" "[I" ∈ TW) (hdg : decode cc pc = .ok (.getfield index, 3)) (kk : W p l e R s m args below meth c H locs 0 0 Q (F0 m (pc + 3) ls (.ref (ad (k + 1)) :: rest))) : W p l e R s m args below meth c H locs 0 0 Q (F0 m pc ls (.ref (ad k) :: rest)) := r_get hC hI (oP hk) (C := "EqualCourt$Partition") rfl inX4 2 (by decide) rfl hlink rfl hdg kk
theorem gX4_next {k : Nat} (hk : isP k) (hC : fC D 76 ad cy cz p s m args c cc nL own) (hI : fI D 76 ad (cfX ad cy cz) σ s H locs) {index : Nat} (hlink : Cond.fieldLink own index "EqualCourt$Partition" "next" "[I" ∈ TW) (hdg : decode cc pc = .ok (.getfield index, 3)) (kk : W p l e R s m args below meth c H locs 0 0 Q (F0 m (pc + 3) ls (.ref (ad (k + 2)) :: rest))) : W p l e R s m args below meth c H locs 0 0 Q (F0 m pc ls (.ref (ad k) :: rest)) := r_get hC hI (oP hk) (C := "EqualCourt$Partition") rfl inX4 3 (by decide) rfl hlink rfl hdg kk
theorem gX4_size {k : Nat} (hk : isP k) (hC : fC D 76 ad cy cz p s m args c cc nL own) (hI : fI D 76 ad (cfX ad cy cz) σ s H locs) {index : Nat} (hlink : Cond.fieldLink own index "EqualCourt$Partition" "size" "[I" ∈ TW) (hdg : decode cc pc = .ok (.getfield index, 3)) (kk : W p l e R s m args below meth c H locs 0 0 Q (F0 m (pc + 3) ls (.ref (ad (k + 3)) :: rest))) : W p l e R s m args below meth c H locs 0 0 Q (F0 m pc ls (.ref (ad k) :: rest)) := r_get hC hI (oP hk) (C := "EqualCourt$Partition") rfl inX4 4 (by decide) rfl hlink rfl hdg kk
theorem gX4_least {k : Nat} (hk : isP k) (hC : fC D 76 ad cy cz p s m args c cc nL own) (hI : fI D 76 ad (cfX ad cy cz) σ s H locs) {index : Nat} (hlink : Cond.fieldLink own index "EqualCourt$Partition" "least" "[I" ∈ TW) (hdg : decode cc pc = .ok (.getfield index, 3)) (kk : W p l e R s m args below meth c H locs 0 0 Q (F0 m (pc + 3) ls (.ref (ad (k + 4)) :: rest))) : W p l e R s m args below meth c H locs 0 0 Q (F0 m pc ls (.ref (ad k) :: rest)) := r_get hC hI (oP hk) (C := "EqualCourt$Partition") rfl inX4 5 (by decide) rfl hlink rfl hdg kk
theorem gX4_number {k : Nat} (hk : isP k) (hC : fC D 76 ad cy cz p s m args c cc nL own) (hI : fI D 76 ad (cfX ad cy cz) σ s H locs) {index : Nat} (hlink : Cond.fieldLink own index "EqualCourt$Partition" "number" "[I" ∈ TW) (hdg : decode cc pc = .ok (.getfield index, 3)) (kk : W p l e R s m args below meth c H locs 0 0 Q (F0 m (pc + 3) ls (.ref (ad (k + 5)) :: rest))) : W p l e R s m args below meth c H locs 0 0 Q (F0 m pc ls (.ref (ad k) :: rest)) := r_get hC hI (oP hk) (C := "EqualCourt$Partition") rfl inX4 6 (by decide) rfl hlink rfl hdg kk
theorem gX4_aRow {k : Nat} (hk : isP k) (hC : fC D 76 ad cy cz p s m args c cc nL own) (hI : fI D 76 ad (cfX ad cy cz) σ s H locs) {index : Nat} (hlink : Cond.fieldLink own index "EqualCourt$Partition" "aRow" "[I" ∈ TW) (hdg : decode cc pc = .ok (.getfield index, 3)) (kk : W p l e R s m args below meth c H locs 0 0 Q (F0 m (pc + 3) ls (.ref (ad (k + 6)) :: rest))) : W p l e R s m args below meth c H locs 0 0 Q (F0 m pc ls (.ref (ad k) :: rest)) := r_get hC hI (oP hk) (C := "EqualCourt$Partition") rfl inX4 7 (by decide) rfl hlink rfl hdg kk
theorem gX4_buckets {k : Nat} (hk : isP k) (hC : fC D 76 ad cy cz p s m args c cc nL own) (hI : fI D 76 ad (cfX ad cy cz) σ s H locs) {index : Nat} (hlink : Cond.fieldLink own index "EqualCourt$Partition" "buckets" "[I" ∈ TW) (hdg : decode cc pc = .ok (.getfield index, 3)) (kk : W p l e R s m args below meth c H locs 0 0 Q (F0 m (pc + 3) ls (.ref (ad (k + 7)) :: rest))) : W p l e R s m args below meth c H locs 0 0 Q (F0 m pc ls (.ref (ad k) :: rest)) := r_get hC hI (oP hk) (C := "EqualCourt$Partition") rfl inX4 8 (by decide) rfl hlink rfl hdg kk
theorem gX4_chain {k : Nat} (hk : isP k) (hC : fC D 76 ad cy cz p s m args c cc nL own) (hI : fI D 76 ad (cfX ad cy cz) σ s H locs) {index : Nat} (hlink : Cond.fieldLink own index "EqualCourt$Partition" "chain" "[I" ∈ TW) (hdg : decode cc pc = .ok (.getfield index, 3)) (kk : W p l e R s m args below meth c H locs 0 0 Q (F0 m (pc + 3) ls (.ref (ad (k + 8)) :: rest))) : W p l e R s m args below meth c H locs 0 0 Q (F0 m pc ls (.ref (ad k) :: rest)) := r_get hC hI (oP hk) (C := "EqualCourt$Partition") rfl inX4 9 (by decide) rfl hlink rfl hdg kk
theorem gX4_slot {k : Nat} (hk : isP k) (hC : fC D 76 ad cy cz p s m args c cc nL own) (hI : fI D 76 ad (cfX ad cy cz) σ s H locs) {index : Nat} (hlink : Cond.fieldLink own index "EqualCourt$Partition" "slot" "[I" ∈ TW) (hdg : decode cc pc = .ok (.getfield index, 3)) (kk : W p l e R s m args below meth c H locs 0 0 Q (F0 m (pc + 3) ls (.ref (ad (k + 9)) :: rest))) : W p l e R s m args below meth c H locs 0 0 Q (F0 m pc ls (.ref (ad k) :: rest)) := r_get hC hI (oP hk) (C := "EqualCourt$Partition") rfl inX4 10 (by decide) rfl hlink rfl hdg kk
theorem gX4_known {k : Nat} (hk : isP k) (hC : fC D 76 ad cy cz p s m args c cc nL own) (hI : fI D 76 ad (cfX ad cy cz) σ s H locs) {index : Nat} (hlink : Cond.fieldLink own index "EqualCourt$Partition" "known" "I" ∈ TW) (hdg : decode cc pc = .ok (.getfield index, 3)) (kk : W p l e R s m args below meth c H locs 0 0 Q (F0 m (pc + 3) ls (.int (σ k 11) :: rest))) : W p l e R s m args below meth c H locs 0 0 Q (F0 m pc ls (.ref (ad k) :: rest)) := r_get hC hI (oP hk) (C := "EqualCourt$Partition") rfl inX4 11 (by decide) rfl hlink rfl hdg kk
theorem pX4_known {k : Nat} (hk : isP k) (hC : fC D 76 ad cy cz p s m args c cc nL own) (hI : fI D 76 ad (cfX ad cy cz) σ s H locs) {index : Nat} (hlink : Cond.fieldLink own index "EqualCourt$Partition" "known" "I" ∈ TW) {x : Int32} (hdg : decode cc pc = .ok (.putfield index, 3)) (kk : ∀ (σ1 : fS) (H1 : Heap) (locs1 : List Loc), σ1 = wf σ k 11 x → fI D 76 ad (cfX ad cy cz) σ1 s H1 locs1 → W p l e R s m args below meth c H1 locs1 0 0 Q (F0 m (pc + 3) ls rest)) : W p l e R s m args below meth c H locs 0 0 Q (F0 m pc ls (.int x :: .ref (ad k) :: rest)) := r_put hC hI (oP hk) (C := "EqualCourt$Partition") rfl inX4 tyX4 tyX4_ok nmX4 11 (by decide) rfl rfl hlink rfl rfl (Nat.le_of_ble_eq_true rfl) rfl hdg kk
theorem gX4_classes {k : Nat} (hk : isP k) (hC : fC D 76 ad cy cz p s m args c cc nL own) (hI : fI D 76 ad (cfX ad cy cz) σ s H locs) {index : Nat} (hlink : Cond.fieldLink own index "EqualCourt$Partition" "classes" "I" ∈ TW) (hdg : decode cc pc = .ok (.getfield index, 3)) (kk : W p l e R s m args below meth c H locs 0 0 Q (F0 m (pc + 3) ls (.int (σ k 12) :: rest))) : W p l e R s m args below meth c H locs 0 0 Q (F0 m pc ls (.ref (ad k) :: rest)) := r_get hC hI (oP hk) (C := "EqualCourt$Partition") rfl inX4 12 (by decide) rfl hlink rfl hdg kk
theorem pX4_classes {k : Nat} (hk : isP k) (hC : fC D 76 ad cy cz p s m args c cc nL own) (hI : fI D 76 ad (cfX ad cy cz) σ s H locs) {index : Nat} (hlink : Cond.fieldLink own index "EqualCourt$Partition" "classes" "I" ∈ TW) {x : Int32} (hdg : decode cc pc = .ok (.putfield index, 3)) (kk : ∀ (σ1 : fS) (H1 : Heap) (locs1 : List Loc), σ1 = wf σ k 12 x → fI D 76 ad (cfX ad cy cz) σ1 s H1 locs1 → W p l e R s m args below meth c H1 locs1 0 0 Q (F0 m (pc + 3) ls rest)) : W p l e R s m args below meth c H locs 0 0 Q (F0 m pc ls (.int x :: .ref (ad k) :: rest)) := r_put hC hI (oP hk) (C := "EqualCourt$Partition") rfl inX4 tyX4 tyX4_ok nmX4 12 (by decide) rfl rfl hlink rfl rfl (Nat.le_of_ble_eq_true rfl) rfl hdg kk
theorem gX4_torn {k : Nat} (hk : isP k) (hC : fC D 76 ad cy cz p s m args c cc nL own) (hI : fI D 76 ad (cfX ad cy cz) σ s H locs) {index : Nat} (hlink : Cond.fieldLink own index "EqualCourt$Partition" "torn" "Z" ∈ TW) (hdg : decode cc pc = .ok (.getfield index, 3)) (kk : W p l e R s m args below meth c H locs 0 0 Q (F0 m (pc + 3) ls (.int (σ k 13) :: rest))) : W p l e R s m args below meth c H locs 0 0 Q (F0 m pc ls (.ref (ad k) :: rest)) := r_get hC hI (oP hk) (C := "EqualCourt$Partition") rfl inX4 13 (by decide) rfl hlink rfl hdg kk
theorem pX4_torn {k : Nat} (hk : isP k) (hC : fC D 76 ad cy cz p s m args c cc nL own) (hI : fI D 76 ad (cfX ad cy cz) σ s H locs) {index : Nat} (hlink : Cond.fieldLink own index "EqualCourt$Partition" "torn" "Z" ∈ TW) {x : Int32} (hx01 : isb x = true) (hdg : decode cc pc = .ok (.putfield index, 3)) (kk : ∀ (σ1 : fS) (H1 : Heap) (locs1 : List Loc), σ1 = wf σ k 13 x → fI D 76 ad (cfX ad cy cz) σ1 s H1 locs1 → W p l e R s m args below meth c H1 locs1 0 0 Q (F0 m (pc + 3) ls rest)) : W p l e R s m args below meth c H locs 0 0 Q (F0 m pc ls (.int x :: .ref (ad k) :: rest)) := r_put hC hI (oP hk) (C := "EqualCourt$Partition") rfl inX4 tyX4 tyX4_ok nmX4 13 (by decide) rfl rfl hlink (isb_nar hx01) (isb_fit hx01) (Nat.le_of_ble_eq_true rfl) rfl hdg kk
theorem gX5_same (hC : fC D 76 ad cy cz p s m args c cc nL own) (hI : fI D 76 ad (cfX ad cy cz) σ s H locs) {index : Nat} (hlink : Cond.fieldLink own index "EqualCourt$Sayings" "same" "[Z" ∈ TW) (hdg : decode cc pc = .ok (.getfield index, 3)) (kk : W p l e R s m args below meth c H locs 0 0 Q (F0 m (pc + 3) ls (.ref (ad 12) :: rest))) : W p l e R s m args below meth c H locs 0 0 Q (F0 m pc ls (.ref (ad 11) :: rest)) := r_get hC hI oX_11 (C := "EqualCourt$Sayings") rfl inX5 0 (by decide) rfl hlink rfl hdg kk
theorem gX5_lefts (hC : fC D 76 ad cy cz p s m args c cc nL own) (hI : fI D 76 ad (cfX ad cy cz) σ s H locs) {index : Nat} (hlink : Cond.fieldLink own index "EqualCourt$Sayings" "lefts" "[I" ∈ TW) (hdg : decode cc pc = .ok (.getfield index, 3)) (kk : W p l e R s m args below meth c H locs 0 0 Q (F0 m (pc + 3) ls (.ref (ad 13) :: rest))) : W p l e R s m args below meth c H locs 0 0 Q (F0 m pc ls (.ref (ad 11) :: rest)) := r_get hC hI oX_11 (C := "EqualCourt$Sayings") rfl inX5 1 (by decide) rfl hlink rfl hdg kk
theorem gX5_rights (hC : fC D 76 ad cy cz p s m args c cc nL own) (hI : fI D 76 ad (cfX ad cy cz) σ s H locs) {index : Nat} (hlink : Cond.fieldLink own index "EqualCourt$Sayings" "rights" "[I" ∈ TW) (hdg : decode cc pc = .ok (.getfield index, 3)) (kk : W p l e R s m args below meth c H locs 0 0 Q (F0 m (pc + 3) ls (.ref (ad 14) :: rest))) : W p l e R s m args below meth c H locs 0 0 Q (F0 m pc ls (.ref (ad 11) :: rest)) := r_get hC hI oX_11 (C := "EqualCourt$Sayings") rfl inX5 2 (by decide) rfl hlink rfl hdg kk
theorem gX5_taken (hC : fC D 76 ad cy cz p s m args c cc nL own) (hI : fI D 76 ad (cfX ad cy cz) σ s H locs) {index : Nat} (hlink : Cond.fieldLink own index "EqualCourt$Sayings" "taken" "[I" ∈ TW) (hdg : decode cc pc = .ok (.getfield index, 3)) (kk : W p l e R s m args below meth c H locs 0 0 Q (F0 m (pc + 3) ls (.ref (ad 15) :: rest))) : W p l e R s m args below meth c H locs 0 0 Q (F0 m pc ls (.ref (ad 11) :: rest)) := r_get hC hI oX_11 (C := "EqualCourt$Sayings") rfl inX5 3 (by decide) rfl hlink rfl hdg kk
theorem gX5_remembered (hC : fC D 76 ad cy cz p s m args c cc nL own) (hI : fI D 76 ad (cfX ad cy cz) σ s H locs) {index : Nat} (hlink : Cond.fieldLink own index "EqualCourt$Sayings" "remembered" "[I" ∈ TW) (hdg : decode cc pc = .ok (.getfield index, 3)) (kk : W p l e R s m args below meth c H locs 0 0 Q (F0 m (pc + 3) ls (.ref (ad 16) :: rest))) : W p l e R s m args below meth c H locs 0 0 Q (F0 m pc ls (.ref (ad 11) :: rest)) := r_get hC hI oX_11 (C := "EqualCourt$Sayings") rfl inX5 4 (by decide) rfl hlink rfl hdg kk
theorem gX5_count (hC : fC D 76 ad cy cz p s m args c cc nL own) (hI : fI D 76 ad (cfX ad cy cz) σ s H locs) {index : Nat} (hlink : Cond.fieldLink own index "EqualCourt$Sayings" "count" "I" ∈ TW) (hdg : decode cc pc = .ok (.getfield index, 3)) (kk : W p l e R s m args below meth c H locs 0 0 Q (F0 m (pc + 3) ls (.int (σ 11 5) :: rest))) : W p l e R s m args below meth c H locs 0 0 Q (F0 m pc ls (.ref (ad 11) :: rest)) := r_get hC hI oX_11 (C := "EqualCourt$Sayings") rfl inX5 5 (by decide) rfl hlink rfl hdg kk
theorem pX5_count (hC : fC D 76 ad cy cz p s m args c cc nL own) (hI : fI D 76 ad (cfX ad cy cz) σ s H locs) {index : Nat} (hlink : Cond.fieldLink own index "EqualCourt$Sayings" "count" "I" ∈ TW) {x : Int32} (hdg : decode cc pc = .ok (.putfield index, 3)) (kk : ∀ (σ1 : fS) (H1 : Heap) (locs1 : List Loc), σ1 = wf σ 11 5 x → fI D 76 ad (cfX ad cy cz) σ1 s H1 locs1 → W p l e R s m args below meth c H1 locs1 0 0 Q (F0 m (pc + 3) ls rest)) : W p l e R s m args below meth c H locs 0 0 Q (F0 m pc ls (.int x :: .ref (ad 11) :: rest)) := r_put hC hI oX_11 (C := "EqualCourt$Sayings") rfl inX5 tyX5 tyX5_ok nmX5 5 (by decide) rfl rfl hlink rfl rfl (Nat.le_of_ble_eq_true rfl) rfl hdg kk
theorem gX5_takenCount (hC : fC D 76 ad cy cz p s m args c cc nL own) (hI : fI D 76 ad (cfX ad cy cz) σ s H locs) {index : Nat} (hlink : Cond.fieldLink own index "EqualCourt$Sayings" "takenCount" "I" ∈ TW) (hdg : decode cc pc = .ok (.getfield index, 3)) (kk : W p l e R s m args below meth c H locs 0 0 Q (F0 m (pc + 3) ls (.int (σ 11 6) :: rest))) : W p l e R s m args below meth c H locs 0 0 Q (F0 m pc ls (.ref (ad 11) :: rest)) := r_get hC hI oX_11 (C := "EqualCourt$Sayings") rfl inX5 6 (by decide) rfl hlink rfl hdg kk
theorem pX5_takenCount (hC : fC D 76 ad cy cz p s m args c cc nL own) (hI : fI D 76 ad (cfX ad cy cz) σ s H locs) {index : Nat} (hlink : Cond.fieldLink own index "EqualCourt$Sayings" "takenCount" "I" ∈ TW) {x : Int32} (hdg : decode cc pc = .ok (.putfield index, 3)) (kk : ∀ (σ1 : fS) (H1 : Heap) (locs1 : List Loc), σ1 = wf σ 11 6 x → fI D 76 ad (cfX ad cy cz) σ1 s H1 locs1 → W p l e R s m args below meth c H1 locs1 0 0 Q (F0 m (pc + 3) ls rest)) : W p l e R s m args below meth c H locs 0 0 Q (F0 m pc ls (.int x :: .ref (ad 11) :: rest)) := r_put hC hI oX_11 (C := "EqualCourt$Sayings") rfl inX5 tyX5 tyX5_ok nmX5 6 (by decide) rfl rfl hlink rfl rfl (Nat.le_of_ble_eq_true rfl) rfl hdg kk
theorem gX5_levels (hC : fC D 76 ad cy cz p s m args c cc nL own) (hI : fI D 76 ad (cfX ad cy cz) σ s H locs) {index : Nat} (hlink : Cond.fieldLink own index "EqualCourt$Sayings" "levels" "I" ∈ TW) (hdg : decode cc pc = .ok (.getfield index, 3)) (kk : W p l e R s m args below meth c H locs 0 0 Q (F0 m (pc + 3) ls (.int (σ 11 7) :: rest))) : W p l e R s m args below meth c H locs 0 0 Q (F0 m pc ls (.ref (ad 11) :: rest)) := r_get hC hI oX_11 (C := "EqualCourt$Sayings") rfl inX5 7 (by decide) rfl hlink rfl hdg kk
theorem pX5_levels (hC : fC D 76 ad cy cz p s m args c cc nL own) (hI : fI D 76 ad (cfX ad cy cz) σ s H locs) {index : Nat} (hlink : Cond.fieldLink own index "EqualCourt$Sayings" "levels" "I" ∈ TW) {x : Int32} (hdg : decode cc pc = .ok (.putfield index, 3)) (kk : ∀ (σ1 : fS) (H1 : Heap) (locs1 : List Loc), σ1 = wf σ 11 7 x → fI D 76 ad (cfX ad cy cz) σ1 s H1 locs1 → W p l e R s m args below meth c H1 locs1 0 0 Q (F0 m (pc + 3) ls rest)) : W p l e R s m args below meth c H locs 0 0 Q (F0 m pc ls (.int x :: .ref (ad 11) :: rest)) := r_put hC hI oX_11 (C := "EqualCourt$Sayings") rfl inX5 tyX5 tyX5_ok nmX5 7 (by decide) rfl rfl hlink rfl rfl (Nat.le_of_ble_eq_true rfl) rfl hdg kk
theorem gX6_terms (hC : fC D 76 ad cy cz p s m args c cc nL own) (hI : fI D 76 ad (cfX ad cy cz) σ s H locs) {index : Nat} (hlink : Cond.fieldLink own index "EqualCourt$Steps" "terms" "LEqualCourt$Terms;" ∈ TW) (hdg : decode cc pc = .ok (.getfield index, 3)) (kk : W p l e R s m args below meth c H locs 0 0 Q (F0 m (pc + 3) ls (.ref (ad 1) :: rest))) : W p l e R s m args below meth c H locs 0 0 Q (F0 m pc ls (.ref (ad 63) :: rest)) := r_get hC hI oX_63 (C := "EqualCourt$Steps") rfl inX6 0 (by decide) rfl hlink rfl hdg kk
theorem gX6_sayings (hC : fC D 76 ad cy cz p s m args c cc nL own) (hI : fI D 76 ad (cfX ad cy cz) σ s H locs) {index : Nat} (hlink : Cond.fieldLink own index "EqualCourt$Steps" "sayings" "LEqualCourt$Sayings;" ∈ TW) (hdg : decode cc pc = .ok (.getfield index, 3)) (kk : W p l e R s m args below meth c H locs 0 0 Q (F0 m (pc + 3) ls (.ref (ad 11) :: rest))) : W p l e R s m args below meth c H locs 0 0 Q (F0 m pc ls (.ref (ad 63) :: rest)) := r_get hC hI oX_63 (C := "EqualCourt$Steps") rfl inX6 1 (by decide) rfl hlink rfl hdg kk
theorem gX6_reasons (hC : fC D 76 ad cy cz p s m args c cc nL own) (hI : fI D 76 ad (cfX ad cy cz) σ s H locs) {index : Nat} (hlink : Cond.fieldLink own index "EqualCourt$Steps" "reasons" "[I" ∈ TW) (hdg : decode cc pc = .ok (.getfield index, 3)) (kk : W p l e R s m args below meth c H locs 0 0 Q (F0 m (pc + 3) ls (.ref (ad 64) :: rest))) : W p l e R s m args below meth c H locs 0 0 Q (F0 m pc ls (.ref (ad 63) :: rest)) := r_get hC hI oX_63 (C := "EqualCourt$Steps") rfl inX6 2 (by decide) rfl hlink rfl hdg kk
theorem gX6_lefts (hC : fC D 76 ad cy cz p s m args c cc nL own) (hI : fI D 76 ad (cfX ad cy cz) σ s H locs) {index : Nat} (hlink : Cond.fieldLink own index "EqualCourt$Steps" "lefts" "[I" ∈ TW) (hdg : decode cc pc = .ok (.getfield index, 3)) (kk : W p l e R s m args below meth c H locs 0 0 Q (F0 m (pc + 3) ls (.ref (ad 65) :: rest))) : W p l e R s m args below meth c H locs 0 0 Q (F0 m pc ls (.ref (ad 63) :: rest)) := r_get hC hI oX_63 (C := "EqualCourt$Steps") rfl inX6 3 (by decide) rfl hlink rfl hdg kk
theorem gX6_rights (hC : fC D 76 ad cy cz p s m args c cc nL own) (hI : fI D 76 ad (cfX ad cy cz) σ s H locs) {index : Nat} (hlink : Cond.fieldLink own index "EqualCourt$Steps" "rights" "[I" ∈ TW) (hdg : decode cc pc = .ok (.getfield index, 3)) (kk : W p l e R s m args below meth c H locs 0 0 Q (F0 m (pc + 3) ls (.ref (ad 66) :: rest))) : W p l e R s m args below meth c H locs 0 0 Q (F0 m pc ls (.ref (ad 63) :: rest)) := r_get hC hI oX_63 (C := "EqualCourt$Steps") rfl inX6 4 (by decide) rfl hlink rfl hdg kk
theorem gX6_is (hC : fC D 76 ad cy cz p s m args c cc nL own) (hI : fI D 76 ad (cfX ad cy cz) σ s H locs) {index : Nat} (hlink : Cond.fieldLink own index "EqualCourt$Steps" "is" "[I" ∈ TW) (hdg : decode cc pc = .ok (.getfield index, 3)) (kk : W p l e R s m args below meth c H locs 0 0 Q (F0 m (pc + 3) ls (.ref (ad 67) :: rest))) : W p l e R s m args below meth c H locs 0 0 Q (F0 m pc ls (.ref (ad 63) :: rest)) := r_get hC hI oX_63 (C := "EqualCourt$Steps") rfl inX6 5 (by decide) rfl hlink rfl hdg kk
theorem gX6_js (hC : fC D 76 ad cy cz p s m args c cc nL own) (hI : fI D 76 ad (cfX ad cy cz) σ s H locs) {index : Nat} (hlink : Cond.fieldLink own index "EqualCourt$Steps" "js" "[I" ∈ TW) (hdg : decode cc pc = .ok (.getfield index, 3)) (kk : W p l e R s m args below meth c H locs 0 0 Q (F0 m (pc + 3) ls (.ref (ad 68) :: rest))) : W p l e R s m args below meth c H locs 0 0 Q (F0 m pc ls (.ref (ad 63) :: rest)) := r_get hC hI oX_63 (C := "EqualCourt$Steps") rfl inX6 6 (by decide) rfl hlink rfl hdg kk
theorem gX6_count (hC : fC D 76 ad cy cz p s m args c cc nL own) (hI : fI D 76 ad (cfX ad cy cz) σ s H locs) {index : Nat} (hlink : Cond.fieldLink own index "EqualCourt$Steps" "count" "I" ∈ TW) (hdg : decode cc pc = .ok (.getfield index, 3)) (kk : W p l e R s m args below meth c H locs 0 0 Q (F0 m (pc + 3) ls (.int (σ 63 7) :: rest))) : W p l e R s m args below meth c H locs 0 0 Q (F0 m pc ls (.ref (ad 63) :: rest)) := r_get hC hI oX_63 (C := "EqualCourt$Steps") rfl inX6 7 (by decide) rfl hlink rfl hdg kk
theorem pX6_count (hC : fC D 76 ad cy cz p s m args c cc nL own) (hI : fI D 76 ad (cfX ad cy cz) σ s H locs) {index : Nat} (hlink : Cond.fieldLink own index "EqualCourt$Steps" "count" "I" ∈ TW) {x : Int32} (hdg : decode cc pc = .ok (.putfield index, 3)) (kk : ∀ (σ1 : fS) (H1 : Heap) (locs1 : List Loc), σ1 = wf σ 63 7 x → fI D 76 ad (cfX ad cy cz) σ1 s H1 locs1 → W p l e R s m args below meth c H1 locs1 0 0 Q (F0 m (pc + 3) ls rest)) : W p l e R s m args below meth c H locs 0 0 Q (F0 m pc ls (.int x :: .ref (ad 63) :: rest)) := r_put hC hI oX_63 (C := "EqualCourt$Steps") rfl inX6 tyX6 tyX6_ok nmX6 7 (by decide) rfl rfl hlink rfl rfl (Nat.le_of_ble_eq_true rfl) rfl hdg kk
theorem gX7_kinds (hC : fC D 76 ad cy cz p s m args c cc nL own) (hI : fI D 76 ad (cfX ad cy cz) σ s H locs) {index : Nat} (hlink : Cond.fieldLink own index "EqualCourt$Terms" "kinds" "[I" ∈ TW) (hdg : decode cc pc = .ok (.getfield index, 3)) (kk : W p l e R s m args below meth c H locs 0 0 Q (F0 m (pc + 3) ls (.ref (ad 2) :: rest))) : W p l e R s m args below meth c H locs 0 0 Q (F0 m pc ls (.ref (ad 1) :: rest)) := r_get hC hI oX_1 (C := "EqualCourt$Terms") rfl inX7 0 (by decide) rfl hlink rfl hdg kk
theorem gX7_kinds_N (hC : fC D 76 ad cy cz p s m args c cc nL own) (hI : fI D 76 ad (cfX ad cy cz) σ s H locs) {index : Nat} (hlink : Cond.fieldLinkNest own index "EqualCourt$Terms" "kinds" "[I" "EqualCourt" ∈ nwL) (hdg : decode cc pc = .ok (.getfield index, 3)) (kk : W p l e R s m args below meth c H locs 0 0 Q (F0 m (pc + 3) ls (.ref (ad 2) :: rest))) : W p l e R s m args below meth c H locs 0 0 Q (F0 m pc ls (.ref (ad 1) :: rest)) := r_getN hC hI oX_1 (C := "EqualCourt$Terms") rfl inX7 0 (by decide) rfl hlink rfl hdg kk
theorem gX7_shown (hC : fC D 76 ad cy cz p s m args c cc nL own) (hI : fI D 76 ad (cfX ad cy cz) σ s H locs) {index : Nat} (hlink : Cond.fieldLink own index "EqualCourt$Terms" "shown" "[I" ∈ TW) (hdg : decode cc pc = .ok (.getfield index, 3)) (kk : W p l e R s m args below meth c H locs 0 0 Q (F0 m (pc + 3) ls (.ref (ad 3) :: rest))) : W p l e R s m args below meth c H locs 0 0 Q (F0 m pc ls (.ref (ad 1) :: rest)) := r_get hC hI oX_1 (C := "EqualCourt$Terms") rfl inX7 1 (by decide) rfl hlink rfl hdg kk
theorem gX7_shown_N (hC : fC D 76 ad cy cz p s m args c cc nL own) (hI : fI D 76 ad (cfX ad cy cz) σ s H locs) {index : Nat} (hlink : Cond.fieldLinkNest own index "EqualCourt$Terms" "shown" "[I" "EqualCourt" ∈ nwL) (hdg : decode cc pc = .ok (.getfield index, 3)) (kk : W p l e R s m args below meth c H locs 0 0 Q (F0 m (pc + 3) ls (.ref (ad 3) :: rest))) : W p l e R s m args below meth c H locs 0 0 Q (F0 m pc ls (.ref (ad 1) :: rest)) := r_getN hC hI oX_1 (C := "EqualCourt$Terms") rfl inX7 1 (by decide) rfl hlink rfl hdg kk
theorem gX7_sizes (hC : fC D 76 ad cy cz p s m args c cc nL own) (hI : fI D 76 ad (cfX ad cy cz) σ s H locs) {index : Nat} (hlink : Cond.fieldLink own index "EqualCourt$Terms" "sizes" "[I" ∈ TW) (hdg : decode cc pc = .ok (.getfield index, 3)) (kk : W p l e R s m args below meth c H locs 0 0 Q (F0 m (pc + 3) ls (.ref (ad 4) :: rest))) : W p l e R s m args below meth c H locs 0 0 Q (F0 m pc ls (.ref (ad 1) :: rest)) := r_get hC hI oX_1 (C := "EqualCourt$Terms") rfl inX7 2 (by decide) rfl hlink rfl hdg kk
theorem gX7_sizes_N (hC : fC D 76 ad cy cz p s m args c cc nL own) (hI : fI D 76 ad (cfX ad cy cz) σ s H locs) {index : Nat} (hlink : Cond.fieldLinkNest own index "EqualCourt$Terms" "sizes" "[I" "EqualCourt" ∈ nwL) (hdg : decode cc pc = .ok (.getfield index, 3)) (kk : W p l e R s m args below meth c H locs 0 0 Q (F0 m (pc + 3) ls (.ref (ad 4) :: rest))) : W p l e R s m args below meth c H locs 0 0 Q (F0 m pc ls (.ref (ad 1) :: rest)) := r_getN hC hI oX_1 (C := "EqualCourt$Terms") rfl inX7 2 (by decide) rfl hlink rfl hdg kk
theorem gX7_parts (hC : fC D 76 ad cy cz p s m args c cc nL own) (hI : fI D 76 ad (cfX ad cy cz) σ s H locs) {index : Nat} (hlink : Cond.fieldLink own index "EqualCourt$Terms" "parts" "[I" ∈ TW) (hdg : decode cc pc = .ok (.getfield index, 3)) (kk : W p l e R s m args below meth c H locs 0 0 Q (F0 m (pc + 3) ls (.ref (ad 5) :: rest))) : W p l e R s m args below meth c H locs 0 0 Q (F0 m pc ls (.ref (ad 1) :: rest)) := r_get hC hI oX_1 (C := "EqualCourt$Terms") rfl inX7 3 (by decide) rfl hlink rfl hdg kk
theorem gX7_parts_N (hC : fC D 76 ad cy cz p s m args c cc nL own) (hI : fI D 76 ad (cfX ad cy cz) σ s H locs) {index : Nat} (hlink : Cond.fieldLinkNest own index "EqualCourt$Terms" "parts" "[I" "EqualCourt" ∈ nwL) (hdg : decode cc pc = .ok (.getfield index, 3)) (kk : W p l e R s m args below meth c H locs 0 0 Q (F0 m (pc + 3) ls (.ref (ad 5) :: rest))) : W p l e R s m args below meth c H locs 0 0 Q (F0 m pc ls (.ref (ad 1) :: rest)) := r_getN hC hI oX_1 (C := "EqualCourt$Terms") rfl inX7 3 (by decide) rfl hlink rfl hdg kk
theorem gX7_holes (hC : fC D 76 ad cy cz p s m args c cc nL own) (hI : fI D 76 ad (cfX ad cy cz) σ s H locs) {index : Nat} (hlink : Cond.fieldLink own index "EqualCourt$Terms" "holes" "[I" ∈ TW) (hdg : decode cc pc = .ok (.getfield index, 3)) (kk : W p l e R s m args below meth c H locs 0 0 Q (F0 m (pc + 3) ls (.ref (ad 6) :: rest))) : W p l e R s m args below meth c H locs 0 0 Q (F0 m pc ls (.ref (ad 1) :: rest)) := r_get hC hI oX_1 (C := "EqualCourt$Terms") rfl inX7 4 (by decide) rfl hlink rfl hdg kk
theorem gX7_buckets (hC : fC D 76 ad cy cz p s m args c cc nL own) (hI : fI D 76 ad (cfX ad cy cz) σ s H locs) {index : Nat} (hlink : Cond.fieldLink own index "EqualCourt$Terms" "buckets" "[I" ∈ TW) (hdg : decode cc pc = .ok (.getfield index, 3)) (kk : W p l e R s m args below meth c H locs 0 0 Q (F0 m (pc + 3) ls (.ref (ad 7) :: rest))) : W p l e R s m args below meth c H locs 0 0 Q (F0 m pc ls (.ref (ad 1) :: rest)) := r_get hC hI oX_1 (C := "EqualCourt$Terms") rfl inX7 5 (by decide) rfl hlink rfl hdg kk
theorem gX7_chain (hC : fC D 76 ad cy cz p s m args c cc nL own) (hI : fI D 76 ad (cfX ad cy cz) σ s H locs) {index : Nat} (hlink : Cond.fieldLink own index "EqualCourt$Terms" "chain" "[I" ∈ TW) (hdg : decode cc pc = .ok (.getfield index, 3)) (kk : W p l e R s m args below meth c H locs 0 0 Q (F0 m (pc + 3) ls (.ref (ad 8) :: rest))) : W p l e R s m args below meth c H locs 0 0 Q (F0 m pc ls (.ref (ad 1) :: rest)) := r_get hC hI oX_1 (C := "EqualCourt$Terms") rfl inX7 6 (by decide) rfl hlink rfl hdg kk
theorem gX7_firstPlace (hC : fC D 76 ad cy cz p s m args c cc nL own) (hI : fI D 76 ad (cfX ad cy cz) σ s H locs) {index : Nat} (hlink : Cond.fieldLink own index "EqualCourt$Terms" "firstPlace" "[I" ∈ TW) (hdg : decode cc pc = .ok (.getfield index, 3)) (kk : W p l e R s m args below meth c H locs 0 0 Q (F0 m (pc + 3) ls (.ref (ad 9) :: rest))) : W p l e R s m args below meth c H locs 0 0 Q (F0 m pc ls (.ref (ad 1) :: rest)) := r_get hC hI oX_1 (C := "EqualCourt$Terms") rfl inX7 7 (by decide) rfl hlink rfl hdg kk
theorem gX7_firstPlace_N (hC : fC D 76 ad cy cz p s m args c cc nL own) (hI : fI D 76 ad (cfX ad cy cz) σ s H locs) {index : Nat} (hlink : Cond.fieldLinkNest own index "EqualCourt$Terms" "firstPlace" "[I" "EqualCourt" ∈ nwL) (hdg : decode cc pc = .ok (.getfield index, 3)) (kk : W p l e R s m args below meth c H locs 0 0 Q (F0 m (pc + 3) ls (.ref (ad 9) :: rest))) : W p l e R s m args below meth c H locs 0 0 Q (F0 m pc ls (.ref (ad 1) :: rest)) := r_getN hC hI oX_1 (C := "EqualCourt$Terms") rfl inX7 7 (by decide) rfl hlink rfl hdg kk
theorem gX7_nextPlace (hC : fC D 76 ad cy cz p s m args c cc nL own) (hI : fI D 76 ad (cfX ad cy cz) σ s H locs) {index : Nat} (hlink : Cond.fieldLink own index "EqualCourt$Terms" "nextPlace" "[I" ∈ TW) (hdg : decode cc pc = .ok (.getfield index, 3)) (kk : W p l e R s m args below meth c H locs 0 0 Q (F0 m (pc + 3) ls (.ref (ad 10) :: rest))) : W p l e R s m args below meth c H locs 0 0 Q (F0 m pc ls (.ref (ad 1) :: rest)) := r_get hC hI oX_1 (C := "EqualCourt$Terms") rfl inX7 8 (by decide) rfl hlink rfl hdg kk
theorem gX7_nextPlace_N (hC : fC D 76 ad cy cz p s m args c cc nL own) (hI : fI D 76 ad (cfX ad cy cz) σ s H locs) {index : Nat} (hlink : Cond.fieldLinkNest own index "EqualCourt$Terms" "nextPlace" "[I" "EqualCourt" ∈ nwL) (hdg : decode cc pc = .ok (.getfield index, 3)) (kk : W p l e R s m args below meth c H locs 0 0 Q (F0 m (pc + 3) ls (.ref (ad 10) :: rest))) : W p l e R s m args below meth c H locs 0 0 Q (F0 m pc ls (.ref (ad 1) :: rest)) := r_getN hC hI oX_1 (C := "EqualCourt$Terms") rfl inX7 8 (by decide) rfl hlink rfl hdg kk
theorem gX7_count (hC : fC D 76 ad cy cz p s m args c cc nL own) (hI : fI D 76 ad (cfX ad cy cz) σ s H locs) {index : Nat} (hlink : Cond.fieldLink own index "EqualCourt$Terms" "count" "I" ∈ TW) (hdg : decode cc pc = .ok (.getfield index, 3)) (kk : W p l e R s m args below meth c H locs 0 0 Q (F0 m (pc + 3) ls (.int (σ 1 9) :: rest))) : W p l e R s m args below meth c H locs 0 0 Q (F0 m pc ls (.ref (ad 1) :: rest)) := r_get hC hI oX_1 (C := "EqualCourt$Terms") rfl inX7 9 (by decide) rfl hlink rfl hdg kk
theorem pX7_count (hC : fC D 76 ad cy cz p s m args c cc nL own) (hI : fI D 76 ad (cfX ad cy cz) σ s H locs) {index : Nat} (hlink : Cond.fieldLink own index "EqualCourt$Terms" "count" "I" ∈ TW) {x : Int32} (hdg : decode cc pc = .ok (.putfield index, 3)) (kk : ∀ (σ1 : fS) (H1 : Heap) (locs1 : List Loc), σ1 = wf σ 1 9 x → fI D 76 ad (cfX ad cy cz) σ1 s H1 locs1 → W p l e R s m args below meth c H1 locs1 0 0 Q (F0 m (pc + 3) ls rest)) : W p l e R s m args below meth c H locs 0 0 Q (F0 m pc ls (.int x :: .ref (ad 1) :: rest)) := r_put hC hI oX_1 (C := "EqualCourt$Terms") rfl inX7 tyX7 tyX7_ok nmX7 9 (by decide) rfl rfl hlink rfl rfl (Nat.le_of_ble_eq_true rfl) rfl hdg kk
theorem gX8_terms (hC : fC D 76 ad cy cz p s m args c cc nL own) (hI : fI D 76 ad (cfX ad cy cz) σ s H locs) {index : Nat} (hlink : Cond.fieldLink own index "EqualCourt" "terms" "LEqualCourt$Terms;" ∈ TW) (hdg : decode cc pc = .ok (.getfield index, 3)) (kk : W p l e R s m args below meth c H locs 0 0 Q (F0 m (pc + 3) ls (.ref (ad 1) :: rest))) : W p l e R s m args below meth c H locs 0 0 Q (F0 m pc ls (.ref (ad 0) :: rest)) := r_get hC hI oX_0 (C := "EqualCourt") rfl inX8 0 (by decide) rfl hlink rfl hdg kk
theorem gX8_sayings (hC : fC D 76 ad cy cz p s m args c cc nL own) (hI : fI D 76 ad (cfX ad cy cz) σ s H locs) {index : Nat} (hlink : Cond.fieldLink own index "EqualCourt" "sayings" "LEqualCourt$Sayings;" ∈ TW) (hdg : decode cc pc = .ok (.getfield index, 3)) (kk : W p l e R s m args below meth c H locs 0 0 Q (F0 m (pc + 3) ls (.ref (ad 11) :: rest))) : W p l e R s m args below meth c H locs 0 0 Q (F0 m pc ls (.ref (ad 0) :: rest)) := r_get hC hI oX_0 (C := "EqualCourt") rfl inX8 1 (by decide) rfl hlink rfl hdg kk
theorem gX8_court (hC : fC D 76 ad cy cz p s m args c cc nL own) (hI : fI D 76 ad (cfX ad cy cz) σ s H locs) {index : Nat} (hlink : Cond.fieldLink own index "EqualCourt" "court" "LEqualCourt$Court;" ∈ TW) (hdg : decode cc pc = .ok (.getfield index, 3)) (kk : W p l e R s m args below meth c H locs 0 0 Q (F0 m (pc + 3) ls (.ref (ad 17) :: rest))) : W p l e R s m args below meth c H locs 0 0 Q (F0 m pc ls (.ref (ad 0) :: rest)) := r_get hC hI oX_0 (C := "EqualCourt") rfl inX8 2 (by decide) rfl hlink rfl hdg kk
theorem gX8_maker (hC : fC D 76 ad cy cz p s m args c cc nL own) (hI : fI D 76 ad (cfX ad cy cz) σ s H locs) {index : Nat} (hlink : Cond.fieldLink own index "EqualCourt" "maker" "LEqualCourt$Maker;" ∈ TW) (hdg : decode cc pc = .ok (.getfield index, 3)) (kk : W p l e R s m args below meth c H locs 0 0 Q (F0 m (pc + 3) ls (.ref (ad 58) :: rest))) : W p l e R s m args below meth c H locs 0 0 Q (F0 m pc ls (.ref (ad 0) :: rest)) := r_get hC hI oX_0 (C := "EqualCourt") rfl inX8 3 (by decide) rfl hlink rfl hdg kk
theorem gX8_steps (hC : fC D 76 ad cy cz p s m args c cc nL own) (hI : fI D 76 ad (cfX ad cy cz) σ s H locs) {index : Nat} (hlink : Cond.fieldLink own index "EqualCourt" "steps" "LEqualCourt$Steps;" ∈ TW) (hdg : decode cc pc = .ok (.getfield index, 3)) (kk : W p l e R s m args below meth c H locs 0 0 Q (F0 m (pc + 3) ls (.ref (ad 63) :: rest))) : W p l e R s m args below meth c H locs 0 0 Q (F0 m pc ls (.ref (ad 0) :: rest)) := r_get hC hI oX_0 (C := "EqualCourt") rfl inX8 4 (by decide) rfl hlink rfl hdg kk
theorem gX8_clashCore (hC : fC D 76 ad cy cz p s m args c cc nL own) (hI : fI D 76 ad (cfX ad cy cz) σ s H locs) {index : Nat} (hlink : Cond.fieldLink own index "EqualCourt" "clashCore" "LEqualCourt$Core;" ∈ TW) (hdg : decode cc pc = .ok (.getfield index, 3)) (kk : W p l e R s m args below meth c H locs 0 0 Q (F0 m (pc + 3) ls (.ref (ad 69) :: rest))) : W p l e R s m args below meth c H locs 0 0 Q (F0 m pc ls (.ref (ad 0) :: rest)) := r_get hC hI oX_0 (C := "EqualCourt") rfl inX8 5 (by decide) rfl hlink rfl hdg kk
theorem gX8_causes (hC : fC D 76 ad cy cz p s m args c cc nL own) (hI : fI D 76 ad (cfX ad cy cz) σ s H locs) {index : Nat} (hlink : Cond.fieldLink own index "EqualCourt" "causes" "LEqualCourt$Core;" ∈ TW) (hdg : decode cc pc = .ok (.getfield index, 3)) (kk : W p l e R s m args below meth c H locs 0 0 Q (F0 m (pc + 3) ls (.ref (ad 71) :: rest))) : W p l e R s m args below meth c H locs 0 0 Q (F0 m pc ls (.ref (ad 0) :: rest)) := r_get hC hI oX_0 (C := "EqualCourt") rfl inX8 6 (by decide) rfl hlink rfl hdg kk
theorem gX8_lawLefts (hC : fC D 76 ad cy cz p s m args c cc nL own) (hI : fI D 76 ad (cfX ad cy cz) σ s H locs) {index : Nat} (hlink : Cond.fieldLink own index "EqualCourt" "lawLefts" "[I" ∈ TW) (hdg : decode cc pc = .ok (.getfield index, 3)) (kk : W p l e R s m args below meth c H locs 0 0 Q (F0 m (pc + 3) ls (.ref (ad 73) :: rest))) : W p l e R s m args below meth c H locs 0 0 Q (F0 m pc ls (.ref (ad 0) :: rest)) := r_get hC hI oX_0 (C := "EqualCourt") rfl inX8 7 (by decide) rfl hlink rfl hdg kk
theorem gX8_lawRights (hC : fC D 76 ad cy cz p s m args c cc nL own) (hI : fI D 76 ad (cfX ad cy cz) σ s H locs) {index : Nat} (hlink : Cond.fieldLink own index "EqualCourt" "lawRights" "[I" ∈ TW) (hdg : decode cc pc = .ok (.getfield index, 3)) (kk : W p l e R s m args below meth c H locs 0 0 Q (F0 m (pc + 3) ls (.ref (ad 74) :: rest))) : W p l e R s m args below meth c H locs 0 0 Q (F0 m pc ls (.ref (ad 0) :: rest)) := r_get hC hI oX_0 (C := "EqualCourt") rfl inX8 8 (by decide) rfl hlink rfl hdg kk
theorem gX8_goneOver (hC : fC D 76 ad cy cz p s m args c cc nL own) (hI : fI D 76 ad (cfX ad cy cz) σ s H locs) {index : Nat} (hlink : Cond.fieldLink own index "EqualCourt" "goneOver" "[I" ∈ TW) (hdg : decode cc pc = .ok (.getfield index, 3)) (kk : W p l e R s m args below meth c H locs 0 0 Q (F0 m (pc + 3) ls (.ref (ad 75) :: rest))) : W p l e R s m args below meth c H locs 0 0 Q (F0 m pc ls (.ref (ad 0) :: rest)) := r_get hC hI oX_0 (C := "EqualCourt") rfl inX8 9 (by decide) rfl hlink rfl hdg kk
theorem gX8_lawCount (hC : fC D 76 ad cy cz p s m args c cc nL own) (hI : fI D 76 ad (cfX ad cy cz) σ s H locs) {index : Nat} (hlink : Cond.fieldLink own index "EqualCourt" "lawCount" "I" ∈ TW) (hdg : decode cc pc = .ok (.getfield index, 3)) (kk : W p l e R s m args below meth c H locs 0 0 Q (F0 m (pc + 3) ls (.int (σ 0 10) :: rest))) : W p l e R s m args below meth c H locs 0 0 Q (F0 m pc ls (.ref (ad 0) :: rest)) := r_get hC hI oX_0 (C := "EqualCourt") rfl inX8 10 (by decide) rfl hlink rfl hdg kk
theorem pX8_lawCount (hC : fC D 76 ad cy cz p s m args c cc nL own) (hI : fI D 76 ad (cfX ad cy cz) σ s H locs) {index : Nat} (hlink : Cond.fieldLink own index "EqualCourt" "lawCount" "I" ∈ TW) {x : Int32} (hdg : decode cc pc = .ok (.putfield index, 3)) (kk : ∀ (σ1 : fS) (H1 : Heap) (locs1 : List Loc), σ1 = wf σ 0 10 x → fI D 76 ad (cfX ad cy cz) σ1 s H1 locs1 → W p l e R s m args below meth c H1 locs1 0 0 Q (F0 m (pc + 3) ls rest)) : W p l e R s m args below meth c H locs 0 0 Q (F0 m pc ls (.int x :: .ref (ad 0) :: rest)) := r_put hC hI oX_0 (C := "EqualCourt") rfl inX8 tyX8 tyX8_ok nmX8 10 (by decide) rfl rfl hlink rfl rfl (Nat.le_of_ble_eq_true rfl) rfl hdg kk
theorem gX8_endedBy (hC : fC D 76 ad cy cz p s m args c cc nL own) (hI : fI D 76 ad (cfX ad cy cz) σ s H locs) {index : Nat} (hlink : Cond.fieldLink own index "EqualCourt" "endedBy" "I" ∈ TW) (hdg : decode cc pc = .ok (.getfield index, 3)) (kk : W p l e R s m args below meth c H locs 0 0 Q (F0 m (pc + 3) ls (.int (σ 0 11) :: rest))) : W p l e R s m args below meth c H locs 0 0 Q (F0 m pc ls (.ref (ad 0) :: rest)) := r_get hC hI oX_0 (C := "EqualCourt") rfl inX8 11 (by decide) rfl hlink rfl hdg kk
theorem pX8_endedBy (hC : fC D 76 ad cy cz p s m args c cc nL own) (hI : fI D 76 ad (cfX ad cy cz) σ s H locs) {index : Nat} (hlink : Cond.fieldLink own index "EqualCourt" "endedBy" "I" ∈ TW) {x : Int32} (hdg : decode cc pc = .ok (.putfield index, 3)) (kk : ∀ (σ1 : fS) (H1 : Heap) (locs1 : List Loc), σ1 = wf σ 0 11 x → fI D 76 ad (cfX ad cy cz) σ1 s H1 locs1 → W p l e R s m args below meth c H1 locs1 0 0 Q (F0 m (pc + 3) ls rest)) : W p l e R s m args below meth c H locs 0 0 Q (F0 m pc ls (.int x :: .ref (ad 0) :: rest)) := r_put hC hI oX_0 (C := "EqualCourt") rfl inX8 tyX8 tyX8_ok nmX8 11 (by decide) rfl rfl hlink rfl rfl (Nat.le_of_ble_eq_true rfl) rfl hdg kk
theorem gX8_finding (hC : fC D 76 ad cy cz p s m args c cc nL own) (hI : fI D 76 ad (cfX ad cy cz) σ s H locs) {index : Nat} (hlink : Cond.fieldLink own index "EqualCourt" "finding" "I" ∈ TW) (hdg : decode cc pc = .ok (.getfield index, 3)) (kk : W p l e R s m args below meth c H locs 0 0 Q (F0 m (pc + 3) ls (.int (σ 0 12) :: rest))) : W p l e R s m args below meth c H locs 0 0 Q (F0 m pc ls (.ref (ad 0) :: rest)) := r_get hC hI oX_0 (C := "EqualCourt") rfl inX8 12 (by decide) rfl hlink rfl hdg kk
theorem pX8_finding (hC : fC D 76 ad cy cz p s m args c cc nL own) (hI : fI D 76 ad (cfX ad cy cz) σ s H locs) {index : Nat} (hlink : Cond.fieldLink own index "EqualCourt" "finding" "I" ∈ TW) {x : Int32} (hdg : decode cc pc = .ok (.putfield index, 3)) (kk : ∀ (σ1 : fS) (H1 : Heap) (locs1 : List Loc), σ1 = wf σ 0 12 x → fI D 76 ad (cfX ad cy cz) σ1 s H1 locs1 → W p l e R s m args below meth c H1 locs1 0 0 Q (F0 m (pc + 3) ls rest)) : W p l e R s m args below meth c H locs 0 0 Q (F0 m pc ls (.int x :: .ref (ad 0) :: rest)) := r_put hC hI oX_0 (C := "EqualCourt") rfl inX8 tyX8 tyX8_ok nmX8 12 (by decide) rfl rfl hlink rfl rfl (Nat.le_of_ble_eq_true rfl) rfl hdg kk
theorem gX9_kindOf (hC : fC D 31 ad cy cz p s m args c cc nL own) (hI : fI D 31 ad (cfM ad cy cz) σ s H locs) {index : Nat} (hlink : Cond.fieldLink own index "EqualCourtModel" "kindOf" "[I" ∈ TW) (hdg : decode cc pc = .ok (.getfield index, 3)) (kk : W p l e R s m args below meth c H locs 0 0 Q (F0 m (pc + 3) ls (.ref (ad 1) :: rest))) : W p l e R s m args below meth c H locs 0 0 Q (F0 m pc ls (.ref (ad 0) :: rest)) := r_get hC hI oM_0 (C := "EqualCourtModel") rfl inX9 0 (by decide) rfl hlink rfl hdg kk
theorem gX9_shown (hC : fC D 31 ad cy cz p s m args c cc nL own) (hI : fI D 31 ad (cfM ad cy cz) σ s H locs) {index : Nat} (hlink : Cond.fieldLink own index "EqualCourtModel" "shown" "[I" ∈ TW) (hdg : decode cc pc = .ok (.getfield index, 3)) (kk : W p l e R s m args below meth c H locs 0 0 Q (F0 m (pc + 3) ls (.ref (ad 2) :: rest))) : W p l e R s m args below meth c H locs 0 0 Q (F0 m pc ls (.ref (ad 0) :: rest)) := r_get hC hI oM_0 (C := "EqualCourtModel") rfl inX9 1 (by decide) rfl hlink rfl hdg kk
theorem gX9_partMany (hC : fC D 31 ad cy cz p s m args c cc nL own) (hI : fI D 31 ad (cfM ad cy cz) σ s H locs) {index : Nat} (hlink : Cond.fieldLink own index "EqualCourtModel" "partMany" "[I" ∈ TW) (hdg : decode cc pc = .ok (.getfield index, 3)) (kk : W p l e R s m args below meth c H locs 0 0 Q (F0 m (pc + 3) ls (.ref (ad 3) :: rest))) : W p l e R s m args below meth c H locs 0 0 Q (F0 m pc ls (.ref (ad 0) :: rest)) := r_get hC hI oM_0 (C := "EqualCourtModel") rfl inX9 2 (by decide) rfl hlink rfl hdg kk
theorem gX9_partOf (hC : fC D 31 ad cy cz p s m args c cc nL own) (hI : fI D 31 ad (cfM ad cy cz) σ s H locs) {index : Nat} (hlink : Cond.fieldLink own index "EqualCourtModel" "partOf" "[I" ∈ TW) (hdg : decode cc pc = .ok (.getfield index, 3)) (kk : W p l e R s m args below meth c H locs 0 0 Q (F0 m (pc + 3) ls (.ref (ad 4) :: rest))) : W p l e R s m args below meth c H locs 0 0 Q (F0 m pc ls (.ref (ad 0) :: rest)) := r_get hC hI oM_0 (C := "EqualCourtModel") rfl inX9 3 (by decide) rfl hlink rfl hdg kk
theorem gX9_terms (hC : fC D 31 ad cy cz p s m args c cc nL own) (hI : fI D 31 ad (cfM ad cy cz) σ s H locs) {index : Nat} (hlink : Cond.fieldLink own index "EqualCourtModel" "terms" "I" ∈ TW) (hdg : decode cc pc = .ok (.getfield index, 3)) (kk : W p l e R s m args below meth c H locs 0 0 Q (F0 m (pc + 3) ls (.int (σ 0 4) :: rest))) : W p l e R s m args below meth c H locs 0 0 Q (F0 m pc ls (.ref (ad 0) :: rest)) := r_get hC hI oM_0 (C := "EqualCourtModel") rfl inX9 4 (by decide) rfl hlink rfl hdg kk
theorem pX9_terms (hC : fC D 31 ad cy cz p s m args c cc nL own) (hI : fI D 31 ad (cfM ad cy cz) σ s H locs) {index : Nat} (hlink : Cond.fieldLink own index "EqualCourtModel" "terms" "I" ∈ TW) {x : Int32} (hdg : decode cc pc = .ok (.putfield index, 3)) (kk : ∀ (σ1 : fS) (H1 : Heap) (locs1 : List Loc), σ1 = wf σ 0 4 x → fI D 31 ad (cfM ad cy cz) σ1 s H1 locs1 → W p l e R s m args below meth c H1 locs1 0 0 Q (F0 m (pc + 3) ls rest)) : W p l e R s m args below meth c H locs 0 0 Q (F0 m pc ls (.int x :: .ref (ad 0) :: rest)) := r_put hC hI oM_0 (C := "EqualCourtModel") rfl inX9 tyX9 tyX9_ok nmX9 4 (by decide) rfl rfl hlink rfl rfl (Nat.le_of_ble_eq_true rfl) rfl hdg kk
theorem gX9_sayA (hC : fC D 31 ad cy cz p s m args c cc nL own) (hI : fI D 31 ad (cfM ad cy cz) σ s H locs) {index : Nat} (hlink : Cond.fieldLink own index "EqualCourtModel" "sayA" "[I" ∈ TW) (hdg : decode cc pc = .ok (.getfield index, 3)) (kk : W p l e R s m args below meth c H locs 0 0 Q (F0 m (pc + 3) ls (.ref (ad 5) :: rest))) : W p l e R s m args below meth c H locs 0 0 Q (F0 m pc ls (.ref (ad 0) :: rest)) := r_get hC hI oM_0 (C := "EqualCourtModel") rfl inX9 5 (by decide) rfl hlink rfl hdg kk
theorem gX9_sayB (hC : fC D 31 ad cy cz p s m args c cc nL own) (hI : fI D 31 ad (cfM ad cy cz) σ s H locs) {index : Nat} (hlink : Cond.fieldLink own index "EqualCourtModel" "sayB" "[I" ∈ TW) (hdg : decode cc pc = .ok (.getfield index, 3)) (kk : W p l e R s m args below meth c H locs 0 0 Q (F0 m (pc + 3) ls (.ref (ad 6) :: rest))) : W p l e R s m args below meth c H locs 0 0 Q (F0 m pc ls (.ref (ad 0) :: rest)) := r_get hC hI oM_0 (C := "EqualCourtModel") rfl inX9 6 (by decide) rfl hlink rfl hdg kk
theorem gX9_isSame (hC : fC D 31 ad cy cz p s m args c cc nL own) (hI : fI D 31 ad (cfM ad cy cz) σ s H locs) {index : Nat} (hlink : Cond.fieldLink own index "EqualCourtModel" "isSame" "[Z" ∈ TW) (hdg : decode cc pc = .ok (.getfield index, 3)) (kk : W p l e R s m args below meth c H locs 0 0 Q (F0 m (pc + 3) ls (.ref (ad 7) :: rest))) : W p l e R s m args below meth c H locs 0 0 Q (F0 m pc ls (.ref (ad 0) :: rest)) := r_get hC hI oM_0 (C := "EqualCourtModel") rfl inX9 7 (by decide) rfl hlink rfl hdg kk
theorem gX9_isTaken (hC : fC D 31 ad cy cz p s m args c cc nL own) (hI : fI D 31 ad (cfM ad cy cz) σ s H locs) {index : Nat} (hlink : Cond.fieldLink own index "EqualCourtModel" "isTaken" "[Z" ∈ TW) (hdg : decode cc pc = .ok (.getfield index, 3)) (kk : W p l e R s m args below meth c H locs 0 0 Q (F0 m (pc + 3) ls (.ref (ad 8) :: rest))) : W p l e R s m args below meth c H locs 0 0 Q (F0 m pc ls (.ref (ad 0) :: rest)) := r_get hC hI oM_0 (C := "EqualCourtModel") rfl inX9 8 (by decide) rfl hlink rfl hdg kk
theorem gX9_sayings (hC : fC D 31 ad cy cz p s m args c cc nL own) (hI : fI D 31 ad (cfM ad cy cz) σ s H locs) {index : Nat} (hlink : Cond.fieldLink own index "EqualCourtModel" "sayings" "I" ∈ TW) (hdg : decode cc pc = .ok (.getfield index, 3)) (kk : W p l e R s m args below meth c H locs 0 0 Q (F0 m (pc + 3) ls (.int (σ 0 9) :: rest))) : W p l e R s m args below meth c H locs 0 0 Q (F0 m pc ls (.ref (ad 0) :: rest)) := r_get hC hI oM_0 (C := "EqualCourtModel") rfl inX9 9 (by decide) rfl hlink rfl hdg kk
theorem pX9_sayings (hC : fC D 31 ad cy cz p s m args c cc nL own) (hI : fI D 31 ad (cfM ad cy cz) σ s H locs) {index : Nat} (hlink : Cond.fieldLink own index "EqualCourtModel" "sayings" "I" ∈ TW) {x : Int32} (hdg : decode cc pc = .ok (.putfield index, 3)) (kk : ∀ (σ1 : fS) (H1 : Heap) (locs1 : List Loc), σ1 = wf σ 0 9 x → fI D 31 ad (cfM ad cy cz) σ1 s H1 locs1 → W p l e R s m args below meth c H1 locs1 0 0 Q (F0 m (pc + 3) ls rest)) : W p l e R s m args below meth c H locs 0 0 Q (F0 m pc ls (.int x :: .ref (ad 0) :: rest)) := r_put hC hI oM_0 (C := "EqualCourtModel") rfl inX9 tyX9 tyX9_ok nmX9 9 (by decide) rfl rfl hlink rfl rfl (Nat.le_of_ble_eq_true rfl) rfl hdg kk
theorem gX9_remembered (hC : fC D 31 ad cy cz p s m args c cc nL own) (hI : fI D 31 ad (cfM ad cy cz) σ s H locs) {index : Nat} (hlink : Cond.fieldLink own index "EqualCourtModel" "remembered" "[Z" ∈ TW) (hdg : decode cc pc = .ok (.getfield index, 3)) (kk : W p l e R s m args below meth c H locs 0 0 Q (F0 m (pc + 3) ls (.ref (ad 9) :: rest))) : W p l e R s m args below meth c H locs 0 0 Q (F0 m pc ls (.ref (ad 0) :: rest)) := r_get hC hI oM_0 (C := "EqualCourtModel") rfl inX9 10 (by decide) rfl hlink rfl hdg kk
theorem gX9_levels (hC : fC D 31 ad cy cz p s m args c cc nL own) (hI : fI D 31 ad (cfM ad cy cz) σ s H locs) {index : Nat} (hlink : Cond.fieldLink own index "EqualCourtModel" "levels" "I" ∈ TW) (hdg : decode cc pc = .ok (.getfield index, 3)) (kk : W p l e R s m args below meth c H locs 0 0 Q (F0 m (pc + 3) ls (.int (σ 0 11) :: rest))) : W p l e R s m args below meth c H locs 0 0 Q (F0 m pc ls (.ref (ad 0) :: rest)) := r_get hC hI oM_0 (C := "EqualCourtModel") rfl inX9 11 (by decide) rfl hlink rfl hdg kk
theorem pX9_levels (hC : fC D 31 ad cy cz p s m args c cc nL own) (hI : fI D 31 ad (cfM ad cy cz) σ s H locs) {index : Nat} (hlink : Cond.fieldLink own index "EqualCourtModel" "levels" "I" ∈ TW) {x : Int32} (hdg : decode cc pc = .ok (.putfield index, 3)) (kk : ∀ (σ1 : fS) (H1 : Heap) (locs1 : List Loc), σ1 = wf σ 0 11 x → fI D 31 ad (cfM ad cy cz) σ1 s H1 locs1 → W p l e R s m args below meth c H1 locs1 0 0 Q (F0 m (pc + 3) ls rest)) : W p l e R s m args below meth c H locs 0 0 Q (F0 m pc ls (.int x :: .ref (ad 0) :: rest)) := r_put hC hI oM_0 (C := "EqualCourtModel") rfl inX9 tyX9 tyX9_ok nmX9 11 (by decide) rfl rfl hlink rfl rfl (Nat.le_of_ble_eq_true rfl) rfl hdg kk
theorem gX9_lawA (hC : fC D 31 ad cy cz p s m args c cc nL own) (hI : fI D 31 ad (cfM ad cy cz) σ s H locs) {index : Nat} (hlink : Cond.fieldLink own index "EqualCourtModel" "lawA" "[I" ∈ TW) (hdg : decode cc pc = .ok (.getfield index, 3)) (kk : W p l e R s m args below meth c H locs 0 0 Q (F0 m (pc + 3) ls (.ref (ad 10) :: rest))) : W p l e R s m args below meth c H locs 0 0 Q (F0 m pc ls (.ref (ad 0) :: rest)) := r_get hC hI oM_0 (C := "EqualCourtModel") rfl inX9 12 (by decide) rfl hlink rfl hdg kk
theorem gX9_lawB (hC : fC D 31 ad cy cz p s m args c cc nL own) (hI : fI D 31 ad (cfM ad cy cz) σ s H locs) {index : Nat} (hlink : Cond.fieldLink own index "EqualCourtModel" "lawB" "[I" ∈ TW) (hdg : decode cc pc = .ok (.getfield index, 3)) (kk : W p l e R s m args below meth c H locs 0 0 Q (F0 m (pc + 3) ls (.ref (ad 11) :: rest))) : W p l e R s m args below meth c H locs 0 0 Q (F0 m pc ls (.ref (ad 0) :: rest)) := r_get hC hI oM_0 (C := "EqualCourtModel") rfl inX9 13 (by decide) rfl hlink rfl hdg kk
theorem gX9_laws (hC : fC D 31 ad cy cz p s m args c cc nL own) (hI : fI D 31 ad (cfM ad cy cz) σ s H locs) {index : Nat} (hlink : Cond.fieldLink own index "EqualCourtModel" "laws" "I" ∈ TW) (hdg : decode cc pc = .ok (.getfield index, 3)) (kk : W p l e R s m args below meth c H locs 0 0 Q (F0 m (pc + 3) ls (.int (σ 0 14) :: rest))) : W p l e R s m args below meth c H locs 0 0 Q (F0 m pc ls (.ref (ad 0) :: rest)) := r_get hC hI oM_0 (C := "EqualCourtModel") rfl inX9 14 (by decide) rfl hlink rfl hdg kk
theorem pX9_laws (hC : fC D 31 ad cy cz p s m args c cc nL own) (hI : fI D 31 ad (cfM ad cy cz) σ s H locs) {index : Nat} (hlink : Cond.fieldLink own index "EqualCourtModel" "laws" "I" ∈ TW) {x : Int32} (hdg : decode cc pc = .ok (.putfield index, 3)) (kk : ∀ (σ1 : fS) (H1 : Heap) (locs1 : List Loc), σ1 = wf σ 0 14 x → fI D 31 ad (cfM ad cy cz) σ1 s H1 locs1 → W p l e R s m args below meth c H1 locs1 0 0 Q (F0 m (pc + 3) ls rest)) : W p l e R s m args below meth c H locs 0 0 Q (F0 m pc ls (.int x :: .ref (ad 0) :: rest)) := r_put hC hI oM_0 (C := "EqualCourtModel") rfl inX9 tyX9 tyX9_ok nmX9 14 (by decide) rfl rfl hlink rfl rfl (Nat.le_of_ble_eq_true rfl) rfl hdg kk
theorem gX9_reasonOf (hC : fC D 31 ad cy cz p s m args c cc nL own) (hI : fI D 31 ad (cfM ad cy cz) σ s H locs) {index : Nat} (hlink : Cond.fieldLink own index "EqualCourtModel" "reasonOf" "[I" ∈ TW) (hdg : decode cc pc = .ok (.getfield index, 3)) (kk : W p l e R s m args below meth c H locs 0 0 Q (F0 m (pc + 3) ls (.ref (ad 12) :: rest))) : W p l e R s m args below meth c H locs 0 0 Q (F0 m pc ls (.ref (ad 0) :: rest)) := r_get hC hI oM_0 (C := "EqualCourtModel") rfl inX9 15 (by decide) rfl hlink rfl hdg kk
theorem gX9_stepA (hC : fC D 31 ad cy cz p s m args c cc nL own) (hI : fI D 31 ad (cfM ad cy cz) σ s H locs) {index : Nat} (hlink : Cond.fieldLink own index "EqualCourtModel" "stepA" "[I" ∈ TW) (hdg : decode cc pc = .ok (.getfield index, 3)) (kk : W p l e R s m args below meth c H locs 0 0 Q (F0 m (pc + 3) ls (.ref (ad 13) :: rest))) : W p l e R s m args below meth c H locs 0 0 Q (F0 m pc ls (.ref (ad 0) :: rest)) := r_get hC hI oM_0 (C := "EqualCourtModel") rfl inX9 16 (by decide) rfl hlink rfl hdg kk
theorem gX9_stepB (hC : fC D 31 ad cy cz p s m args c cc nL own) (hI : fI D 31 ad (cfM ad cy cz) σ s H locs) {index : Nat} (hlink : Cond.fieldLink own index "EqualCourtModel" "stepB" "[I" ∈ TW) (hdg : decode cc pc = .ok (.getfield index, 3)) (kk : W p l e R s m args below meth c H locs 0 0 Q (F0 m (pc + 3) ls (.ref (ad 14) :: rest))) : W p l e R s m args below meth c H locs 0 0 Q (F0 m pc ls (.ref (ad 0) :: rest)) := r_get hC hI oM_0 (C := "EqualCourtModel") rfl inX9 17 (by decide) rfl hlink rfl hdg kk
theorem gX9_stepI (hC : fC D 31 ad cy cz p s m args c cc nL own) (hI : fI D 31 ad (cfM ad cy cz) σ s H locs) {index : Nat} (hlink : Cond.fieldLink own index "EqualCourtModel" "stepI" "[I" ∈ TW) (hdg : decode cc pc = .ok (.getfield index, 3)) (kk : W p l e R s m args below meth c H locs 0 0 Q (F0 m (pc + 3) ls (.ref (ad 15) :: rest))) : W p l e R s m args below meth c H locs 0 0 Q (F0 m pc ls (.ref (ad 0) :: rest)) := r_get hC hI oM_0 (C := "EqualCourtModel") rfl inX9 18 (by decide) rfl hlink rfl hdg kk
theorem gX9_stepJ (hC : fC D 31 ad cy cz p s m args c cc nL own) (hI : fI D 31 ad (cfM ad cy cz) σ s H locs) {index : Nat} (hlink : Cond.fieldLink own index "EqualCourtModel" "stepJ" "[I" ∈ TW) (hdg : decode cc pc = .ok (.getfield index, 3)) (kk : W p l e R s m args below meth c H locs 0 0 Q (F0 m (pc + 3) ls (.ref (ad 16) :: rest))) : W p l e R s m args below meth c H locs 0 0 Q (F0 m pc ls (.ref (ad 0) :: rest)) := r_get hC hI oM_0 (C := "EqualCourtModel") rfl inX9 19 (by decide) rfl hlink rfl hdg kk
theorem gX9_steps (hC : fC D 31 ad cy cz p s m args c cc nL own) (hI : fI D 31 ad (cfM ad cy cz) σ s H locs) {index : Nat} (hlink : Cond.fieldLink own index "EqualCourtModel" "steps" "I" ∈ TW) (hdg : decode cc pc = .ok (.getfield index, 3)) (kk : W p l e R s m args below meth c H locs 0 0 Q (F0 m (pc + 3) ls (.int (σ 0 20) :: rest))) : W p l e R s m args below meth c H locs 0 0 Q (F0 m pc ls (.ref (ad 0) :: rest)) := r_get hC hI oM_0 (C := "EqualCourtModel") rfl inX9 20 (by decide) rfl hlink rfl hdg kk
theorem pX9_steps (hC : fC D 31 ad cy cz p s m args c cc nL own) (hI : fI D 31 ad (cfM ad cy cz) σ s H locs) {index : Nat} (hlink : Cond.fieldLink own index "EqualCourtModel" "steps" "I" ∈ TW) {x : Int32} (hdg : decode cc pc = .ok (.putfield index, 3)) (kk : ∀ (σ1 : fS) (H1 : Heap) (locs1 : List Loc), σ1 = wf σ 0 20 x → fI D 31 ad (cfM ad cy cz) σ1 s H1 locs1 → W p l e R s m args below meth c H1 locs1 0 0 Q (F0 m (pc + 3) ls rest)) : W p l e R s m args below meth c H locs 0 0 Q (F0 m pc ls (.int x :: .ref (ad 0) :: rest)) := r_put hC hI oM_0 (C := "EqualCourtModel") rfl inX9 tyX9 tyX9_ok nmX9 20 (by decide) rfl rfl hlink rfl rfl (Nat.le_of_ble_eq_true rfl) rfl hdg kk
theorem gX9_clashRow (hC : fC D 31 ad cy cz p s m args c cc nL own) (hI : fI D 31 ad (cfM ad cy cz) σ s H locs) {index : Nat} (hlink : Cond.fieldLink own index "EqualCourtModel" "clashRow" "[I" ∈ TW) (hdg : decode cc pc = .ok (.getfield index, 3)) (kk : W p l e R s m args below meth c H locs 0 0 Q (F0 m (pc + 3) ls (.ref (ad 17) :: rest))) : W p l e R s m args below meth c H locs 0 0 Q (F0 m pc ls (.ref (ad 0) :: rest)) := r_get hC hI oM_0 (C := "EqualCourtModel") rfl inX9 21 (by decide) rfl hlink rfl hdg kk
theorem gX9_clashMany (hC : fC D 31 ad cy cz p s m args c cc nL own) (hI : fI D 31 ad (cfM ad cy cz) σ s H locs) {index : Nat} (hlink : Cond.fieldLink own index "EqualCourtModel" "clashMany" "I" ∈ TW) (hdg : decode cc pc = .ok (.getfield index, 3)) (kk : W p l e R s m args below meth c H locs 0 0 Q (F0 m (pc + 3) ls (.int (σ 0 22) :: rest))) : W p l e R s m args below meth c H locs 0 0 Q (F0 m pc ls (.ref (ad 0) :: rest)) := r_get hC hI oM_0 (C := "EqualCourtModel") rfl inX9 22 (by decide) rfl hlink rfl hdg kk
theorem pX9_clashMany (hC : fC D 31 ad cy cz p s m args c cc nL own) (hI : fI D 31 ad (cfM ad cy cz) σ s H locs) {index : Nat} (hlink : Cond.fieldLink own index "EqualCourtModel" "clashMany" "I" ∈ TW) {x : Int32} (hdg : decode cc pc = .ok (.putfield index, 3)) (kk : ∀ (σ1 : fS) (H1 : Heap) (locs1 : List Loc), σ1 = wf σ 0 22 x → fI D 31 ad (cfM ad cy cz) σ1 s H1 locs1 → W p l e R s m args below meth c H1 locs1 0 0 Q (F0 m (pc + 3) ls rest)) : W p l e R s m args below meth c H locs 0 0 Q (F0 m pc ls (.int x :: .ref (ad 0) :: rest)) := r_put hC hI oM_0 (C := "EqualCourtModel") rfl inX9 tyX9 tyX9_ok nmX9 22 (by decide) rfl rfl hlink rfl rfl (Nat.le_of_ble_eq_true rfl) rfl hdg kk
theorem gX9_whyRow (hC : fC D 31 ad cy cz p s m args c cc nL own) (hI : fI D 31 ad (cfM ad cy cz) σ s H locs) {index : Nat} (hlink : Cond.fieldLink own index "EqualCourtModel" "whyRow" "[I" ∈ TW) (hdg : decode cc pc = .ok (.getfield index, 3)) (kk : W p l e R s m args below meth c H locs 0 0 Q (F0 m (pc + 3) ls (.ref (ad 18) :: rest))) : W p l e R s m args below meth c H locs 0 0 Q (F0 m pc ls (.ref (ad 0) :: rest)) := r_get hC hI oM_0 (C := "EqualCourtModel") rfl inX9 23 (by decide) rfl hlink rfl hdg kk
theorem gX9_whyMany (hC : fC D 31 ad cy cz p s m args c cc nL own) (hI : fI D 31 ad (cfM ad cy cz) σ s H locs) {index : Nat} (hlink : Cond.fieldLink own index "EqualCourtModel" "whyMany" "I" ∈ TW) (hdg : decode cc pc = .ok (.getfield index, 3)) (kk : W p l e R s m args below meth c H locs 0 0 Q (F0 m (pc + 3) ls (.int (σ 0 24) :: rest))) : W p l e R s m args below meth c H locs 0 0 Q (F0 m pc ls (.ref (ad 0) :: rest)) := r_get hC hI oM_0 (C := "EqualCourtModel") rfl inX9 24 (by decide) rfl hlink rfl hdg kk
theorem pX9_whyMany (hC : fC D 31 ad cy cz p s m args c cc nL own) (hI : fI D 31 ad (cfM ad cy cz) σ s H locs) {index : Nat} (hlink : Cond.fieldLink own index "EqualCourtModel" "whyMany" "I" ∈ TW) {x : Int32} (hdg : decode cc pc = .ok (.putfield index, 3)) (kk : ∀ (σ1 : fS) (H1 : Heap) (locs1 : List Loc), σ1 = wf σ 0 24 x → fI D 31 ad (cfM ad cy cz) σ1 s H1 locs1 → W p l e R s m args below meth c H1 locs1 0 0 Q (F0 m (pc + 3) ls rest)) : W p l e R s m args below meth c H locs 0 0 Q (F0 m pc ls (.int x :: .ref (ad 0) :: rest)) := r_put hC hI oM_0 (C := "EqualCourtModel") rfl inX9 tyX9 tyX9_ok nmX9 24 (by decide) rfl rfl hlink rfl rfl (Nat.le_of_ble_eq_true rfl) rfl hdg kk
theorem gX9_endedBy (hC : fC D 31 ad cy cz p s m args c cc nL own) (hI : fI D 31 ad (cfM ad cy cz) σ s H locs) {index : Nat} (hlink : Cond.fieldLink own index "EqualCourtModel" "endedBy" "I" ∈ TW) (hdg : decode cc pc = .ok (.getfield index, 3)) (kk : W p l e R s m args below meth c H locs 0 0 Q (F0 m (pc + 3) ls (.int (σ 0 25) :: rest))) : W p l e R s m args below meth c H locs 0 0 Q (F0 m pc ls (.ref (ad 0) :: rest)) := r_get hC hI oM_0 (C := "EqualCourtModel") rfl inX9 25 (by decide) rfl hlink rfl hdg kk
theorem pX9_endedBy (hC : fC D 31 ad cy cz p s m args c cc nL own) (hI : fI D 31 ad (cfM ad cy cz) σ s H locs) {index : Nat} (hlink : Cond.fieldLink own index "EqualCourtModel" "endedBy" "I" ∈ TW) {x : Int32} (hdg : decode cc pc = .ok (.putfield index, 3)) (kk : ∀ (σ1 : fS) (H1 : Heap) (locs1 : List Loc), σ1 = wf σ 0 25 x → fI D 31 ad (cfM ad cy cz) σ1 s H1 locs1 → W p l e R s m args below meth c H1 locs1 0 0 Q (F0 m (pc + 3) ls rest)) : W p l e R s m args below meth c H locs 0 0 Q (F0 m pc ls (.int x :: .ref (ad 0) :: rest)) := r_put hC hI oM_0 (C := "EqualCourtModel") rfl inX9 tyX9 tyX9_ok nmX9 25 (by decide) rfl rfl hlink rfl rfl (Nat.le_of_ble_eq_true rfl) rfl hdg kk
theorem gX9_finding (hC : fC D 31 ad cy cz p s m args c cc nL own) (hI : fI D 31 ad (cfM ad cy cz) σ s H locs) {index : Nat} (hlink : Cond.fieldLink own index "EqualCourtModel" "finding" "I" ∈ TW) (hdg : decode cc pc = .ok (.getfield index, 3)) (kk : W p l e R s m args below meth c H locs 0 0 Q (F0 m (pc + 3) ls (.int (σ 0 26) :: rest))) : W p l e R s m args below meth c H locs 0 0 Q (F0 m pc ls (.ref (ad 0) :: rest)) := r_get hC hI oM_0 (C := "EqualCourtModel") rfl inX9 26 (by decide) rfl hlink rfl hdg kk
theorem pX9_finding (hC : fC D 31 ad cy cz p s m args c cc nL own) (hI : fI D 31 ad (cfM ad cy cz) σ s H locs) {index : Nat} (hlink : Cond.fieldLink own index "EqualCourtModel" "finding" "I" ∈ TW) {x : Int32} (hdg : decode cc pc = .ok (.putfield index, 3)) (kk : ∀ (σ1 : fS) (H1 : Heap) (locs1 : List Loc), σ1 = wf σ 0 26 x → fI D 31 ad (cfM ad cy cz) σ1 s H1 locs1 → W p l e R s m args below meth c H1 locs1 0 0 Q (F0 m (pc + 3) ls rest)) : W p l e R s m args below meth c H locs 0 0 Q (F0 m pc ls (.int x :: .ref (ad 0) :: rest)) := r_put hC hI oM_0 (C := "EqualCourtModel") rfl inX9 tyX9 tyX9_ok nmX9 26 (by decide) rfl rfl hlink rfl rfl (Nat.le_of_ble_eq_true rfl) rfl hdg kk
theorem gX9_asked (hC : fC D 31 ad cy cz p s m args c cc nL own) (hI : fI D 31 ad (cfM ad cy cz) σ s H locs) {index : Nat} (hlink : Cond.fieldLink own index "EqualCourtModel" "asked" "[I" ∈ TW) (hdg : decode cc pc = .ok (.getfield index, 3)) (kk : W p l e R s m args below meth c H locs 0 0 Q (F0 m (pc + 3) ls (.ref (ad 19) :: rest))) : W p l e R s m args below meth c H locs 0 0 Q (F0 m pc ls (.ref (ad 0) :: rest)) := r_get hC hI oM_0 (C := "EqualCourtModel") rfl inX9 27 (by decide) rfl hlink rfl hdg kk
theorem gX9_one (hC : fC D 31 ad cy cz p s m args c cc nL own) (hI : fI D 31 ad (cfM ad cy cz) σ s H locs) {index : Nat} (hlink : Cond.fieldLink own index "EqualCourtModel" "one" "[I" ∈ TW) (hdg : decode cc pc = .ok (.getfield index, 3)) (kk : W p l e R s m args below meth c H locs 0 0 Q (F0 m (pc + 3) ls (.ref (ad 20) :: rest))) : W p l e R s m args below meth c H locs 0 0 Q (F0 m pc ls (.ref (ad 0) :: rest)) := r_get hC hI oM_0 (C := "EqualCourtModel") rfl inX9 28 (by decide) rfl hlink rfl hdg kk
theorem gX9_isIn (hC : fC D 31 ad cy cz p s m args c cc nL own) (hI : fI D 31 ad (cfM ad cy cz) σ s H locs) {index : Nat} (hlink : Cond.fieldLink own index "EqualCourtModel" "isIn" "[Z" ∈ TW) (hdg : decode cc pc = .ok (.getfield index, 3)) (kk : W p l e R s m args below meth c H locs 0 0 Q (F0 m (pc + 3) ls (.ref (ad 21) :: rest))) : W p l e R s m args below meth c H locs 0 0 Q (F0 m pc ls (.ref (ad 0) :: rest)) := r_get hC hI oM_0 (C := "EqualCourtModel") rfl inX9 29 (by decide) rfl hlink rfl hdg kk
theorem gX9_isFresh (hC : fC D 31 ad cy cz p s m args c cc nL own) (hI : fI D 31 ad (cfM ad cy cz) σ s H locs) {index : Nat} (hlink : Cond.fieldLink own index "EqualCourtModel" "isFresh" "Z" ∈ TW) (hdg : decode cc pc = .ok (.getfield index, 3)) (kk : W p l e R s m args below meth c H locs 0 0 Q (F0 m (pc + 3) ls (.int (σ 0 30) :: rest))) : W p l e R s m args below meth c H locs 0 0 Q (F0 m pc ls (.ref (ad 0) :: rest)) := r_get hC hI oM_0 (C := "EqualCourtModel") rfl inX9 30 (by decide) rfl hlink rfl hdg kk
theorem pX9_isFresh (hC : fC D 31 ad cy cz p s m args c cc nL own) (hI : fI D 31 ad (cfM ad cy cz) σ s H locs) {index : Nat} (hlink : Cond.fieldLink own index "EqualCourtModel" "isFresh" "Z" ∈ TW) {x : Int32} (hx01 : isb x = true) (hdg : decode cc pc = .ok (.putfield index, 3)) (kk : ∀ (σ1 : fS) (H1 : Heap) (locs1 : List Loc), σ1 = wf σ 0 30 x → fI D 31 ad (cfM ad cy cz) σ1 s H1 locs1 → W p l e R s m args below meth c H1 locs1 0 0 Q (F0 m (pc + 3) ls rest)) : W p l e R s m args below meth c H locs 0 0 Q (F0 m pc ls (.int x :: .ref (ad 0) :: rest)) := r_put hC hI oM_0 (C := "EqualCourtModel") rfl inX9 tyX9 tyX9_ok nmX9 30 (by decide) rfl rfl hlink (isb_nar hx01) (isb_fit hx01) (Nat.le_of_ble_eq_true rfl) rfl hdg kk
theorem gX9_court (hC : fC D 31 ad cy cz p s m args c cc nL own) (hI : fI D 31 ad (cfM ad cy cz) σ s H locs) {index : Nat} (hlink : Cond.fieldLink own index "EqualCourtModel" "court" "[I" ∈ TW) (hdg : decode cc pc = .ok (.getfield index, 3)) (kk : W p l e R s m args below meth c H locs 0 0 Q (F0 m (pc + 3) ls (.ref (ad 22) :: rest))) : W p l e R s m args below meth c H locs 0 0 Q (F0 m pc ls (.ref (ad 0) :: rest)) := r_get hC hI oM_0 (C := "EqualCourtModel") rfl inX9 31 (by decide) rfl hlink rfl hdg kk
theorem gX9_chosen (hC : fC D 31 ad cy cz p s m args c cc nL own) (hI : fI D 31 ad (cfM ad cy cz) σ s H locs) {index : Nat} (hlink : Cond.fieldLink own index "EqualCourtModel" "chosen" "[I" ∈ TW) (hdg : decode cc pc = .ok (.getfield index, 3)) (kk : W p l e R s m args below meth c H locs 0 0 Q (F0 m (pc + 3) ls (.ref (ad 23) :: rest))) : W p l e R s m args below meth c H locs 0 0 Q (F0 m pc ls (.ref (ad 0) :: rest)) := r_get hC hI oM_0 (C := "EqualCourtModel") rfl inX9 32 (by decide) rfl hlink rfl hdg kk
theorem gX9_hole (hC : fC D 31 ad cy cz p s m args c cc nL own) (hI : fI D 31 ad (cfM ad cy cz) σ s H locs) {index : Nat} (hlink : Cond.fieldLink own index "EqualCourtModel" "hole" "[I" ∈ TW) (hdg : decode cc pc = .ok (.getfield index, 3)) (kk : W p l e R s m args below meth c H locs 0 0 Q (F0 m (pc + 3) ls (.ref (ad 24) :: rest))) : W p l e R s m args below meth c H locs 0 0 Q (F0 m pc ls (.ref (ad 0) :: rest)) := r_get hC hI oM_0 (C := "EqualCourtModel") rfl inX9 33 (by decide) rfl hlink rfl hdg kk
theorem gX9_becomes (hC : fC D 31 ad cy cz p s m args c cc nL own) (hI : fI D 31 ad (cfM ad cy cz) σ s H locs) {index : Nat} (hlink : Cond.fieldLink own index "EqualCourtModel" "becomes" "[I" ∈ TW) (hdg : decode cc pc = .ok (.getfield index, 3)) (kk : W p l e R s m args below meth c H locs 0 0 Q (F0 m (pc + 3) ls (.ref (ad 25) :: rest))) : W p l e R s m args below meth c H locs 0 0 Q (F0 m pc ls (.ref (ad 0) :: rest)) := r_get hC hI oM_0 (C := "EqualCourtModel") rfl inX9 34 (by decide) rfl hlink rfl hdg kk
theorem gX9_pile (hC : fC D 31 ad cy cz p s m args c cc nL own) (hI : fI D 31 ad (cfM ad cy cz) σ s H locs) {index : Nat} (hlink : Cond.fieldLink own index "EqualCourtModel" "pile" "[I" ∈ TW) (hdg : decode cc pc = .ok (.getfield index, 3)) (kk : W p l e R s m args below meth c H locs 0 0 Q (F0 m (pc + 3) ls (.ref (ad 26) :: rest))) : W p l e R s m args below meth c H locs 0 0 Q (F0 m pc ls (.ref (ad 0) :: rest)) := r_get hC hI oM_0 (C := "EqualCourtModel") rfl inX9 35 (by decide) rfl hlink rfl hdg kk
theorem gX9_nextPart (hC : fC D 31 ad cy cz p s m args c cc nL own) (hI : fI D 31 ad (cfM ad cy cz) σ s H locs) {index : Nat} (hlink : Cond.fieldLink own index "EqualCourtModel" "nextPart" "[I" ∈ TW) (hdg : decode cc pc = .ok (.getfield index, 3)) (kk : W p l e R s m args below meth c H locs 0 0 Q (F0 m (pc + 3) ls (.ref (ad 27) :: rest))) : W p l e R s m args below meth c H locs 0 0 Q (F0 m pc ls (.ref (ad 0) :: rest)) := r_get hC hI oM_0 (C := "EqualCourtModel") rfl inX9 36 (by decide) rfl hlink rfl hdg kk
theorem gX9_stands (hC : fC D 31 ad cy cz p s m args c cc nL own) (hI : fI D 31 ad (cfM ad cy cz) σ s H locs) {index : Nat} (hlink : Cond.fieldLink own index "EqualCourtModel" "stands" "[Z" ∈ TW) (hdg : decode cc pc = .ok (.getfield index, 3)) (kk : W p l e R s m args below meth c H locs 0 0 Q (F0 m (pc + 3) ls (.ref (ad 28) :: rest))) : W p l e R s m args below meth c H locs 0 0 Q (F0 m pc ls (.ref (ad 0) :: rest)) := r_get hC hI oM_0 (C := "EqualCourtModel") rfl inX9 37 (by decide) rfl hlink rfl hdg kk
theorem gX9_isSeen (hC : fC D 31 ad cy cz p s m args c cc nL own) (hI : fI D 31 ad (cfM ad cy cz) σ s H locs) {index : Nat} (hlink : Cond.fieldLink own index "EqualCourtModel" "isSeen" "[Z" ∈ TW) (hdg : decode cc pc = .ok (.getfield index, 3)) (kk : W p l e R s m args below meth c H locs 0 0 Q (F0 m (pc + 3) ls (.ref (ad 29) :: rest))) : W p l e R s m args below meth c H locs 0 0 Q (F0 m pc ls (.ref (ad 0) :: rest)) := r_get hC hI oM_0 (C := "EqualCourtModel") rfl inX9 38 (by decide) rfl hlink rfl hdg kk
theorem gX9_heads (hC : fC D 31 ad cy cz p s m args c cc nL own) (hI : fI D 31 ad (cfM ad cy cz) σ s H locs) {index : Nat} (hlink : Cond.fieldLink own index "EqualCourtModel" "heads" "[I" ∈ TW) (hdg : decode cc pc = .ok (.getfield index, 3)) (kk : W p l e R s m args below meth c H locs 0 0 Q (F0 m (pc + 3) ls (.ref (ad 30) :: rest))) : W p l e R s m args below meth c H locs 0 0 Q (F0 m pc ls (.ref (ad 0) :: rest)) := r_get hC hI oM_0 (C := "EqualCourtModel") rfl inX9 39 (by decide) rfl hlink rfl hdg kk
theorem gX9_headMany (hC : fC D 31 ad cy cz p s m args c cc nL own) (hI : fI D 31 ad (cfM ad cy cz) σ s H locs) {index : Nat} (hlink : Cond.fieldLink own index "EqualCourtModel" "headMany" "I" ∈ TW) (hdg : decode cc pc = .ok (.getfield index, 3)) (kk : W p l e R s m args below meth c H locs 0 0 Q (F0 m (pc + 3) ls (.int (σ 0 40) :: rest))) : W p l e R s m args below meth c H locs 0 0 Q (F0 m pc ls (.ref (ad 0) :: rest)) := r_get hC hI oM_0 (C := "EqualCourtModel") rfl inX9 40 (by decide) rfl hlink rfl hdg kk
theorem pX9_headMany (hC : fC D 31 ad cy cz p s m args c cc nL own) (hI : fI D 31 ad (cfM ad cy cz) σ s H locs) {index : Nat} (hlink : Cond.fieldLink own index "EqualCourtModel" "headMany" "I" ∈ TW) {x : Int32} (hdg : decode cc pc = .ok (.putfield index, 3)) (kk : ∀ (σ1 : fS) (H1 : Heap) (locs1 : List Loc), σ1 = wf σ 0 40 x → fI D 31 ad (cfM ad cy cz) σ1 s H1 locs1 → W p l e R s m args below meth c H1 locs1 0 0 Q (F0 m (pc + 3) ls rest)) : W p l e R s m args below meth c H locs 0 0 Q (F0 m pc ls (.int x :: .ref (ad 0) :: rest)) := r_put hC hI oM_0 (C := "EqualCourtModel") rfl inX9 tyX9 tyX9_ok nmX9 40 (by decide) rfl rfl hlink rfl rfl (Nat.le_of_ble_eq_true rfl) rfl hdg kk
theorem gX9_came (hC : fC D 31 ad cy cz p s m args c cc nL own) (hI : fI D 31 ad (cfM ad cy cz) σ s H locs) {index : Nat} (hlink : Cond.fieldLink own index "EqualCourtModel" "came" "I" ∈ TW) (hdg : decode cc pc = .ok (.getfield index, 3)) (kk : W p l e R s m args below meth c H locs 0 0 Q (F0 m (pc + 3) ls (.int (σ 0 41) :: rest))) : W p l e R s m args below meth c H locs 0 0 Q (F0 m pc ls (.ref (ad 0) :: rest)) := r_get hC hI oM_0 (C := "EqualCourtModel") rfl inX9 41 (by decide) rfl hlink rfl hdg kk
theorem pX9_came (hC : fC D 31 ad cy cz p s m args c cc nL own) (hI : fI D 31 ad (cfM ad cy cz) σ s H locs) {index : Nat} (hlink : Cond.fieldLink own index "EqualCourtModel" "came" "I" ∈ TW) {x : Int32} (hdg : decode cc pc = .ok (.putfield index, 3)) (kk : ∀ (σ1 : fS) (H1 : Heap) (locs1 : List Loc), σ1 = wf σ 0 41 x → fI D 31 ad (cfM ad cy cz) σ1 s H1 locs1 → W p l e R s m args below meth c H1 locs1 0 0 Q (F0 m (pc + 3) ls rest)) : W p l e R s m args below meth c H locs 0 0 Q (F0 m pc ls (.int x :: .ref (ad 0) :: rest)) := r_put hC hI oM_0 (C := "EqualCourtModel") rfl inX9 tyX9 tyX9_ok nmX9 41 (by decide) rfl rfl hlink rfl rfl (Nat.le_of_ble_eq_true rfl) rfl hdg kk
end FGET
end
section
theorem tm_1 {w : Cond} (h : w ∈ tables_1_1) (hg : goodWord w = true) : w ∈ TW := TW_of (List.mem_append_right _ (List.mem_append_left _ h)) hg
theorem tm_2 {w : Cond} (h : w ∈ tables_1_2) (hg : goodWord w = true) : w ∈ TW := TW_of (List.mem_append_right _ (List.mem_append_right _ (List.mem_append_left _ h))) hg
theorem tm_3 {w : Cond} (h : w ∈ tables_1_3) (hg : goodWord w = true) : w ∈ TW := TW_of (List.mem_append_right _ (List.mem_append_right _ (List.mem_append_right _ (List.mem_append_left _ h)))) hg
theorem tm_4 {w : Cond} (h : w ∈ tables_1_4) (hg : goodWord w = true) : w ∈ TW := TW_of (List.mem_append_right _ (List.mem_append_right _ (List.mem_append_right _ (List.mem_append_right _ (List.mem_append_left _ h))))) hg
theorem tm_5 {w : Cond} (h : w ∈ tables_1_5) (hg : goodWord w = true) : w ∈ TW := TW_of (List.mem_append_right _ (List.mem_append_right _ (List.mem_append_right _ (List.mem_append_right _ (List.mem_append_right _ (List.mem_append_left _ h)))))) hg
theorem tm_6 {w : Cond} (h : w ∈ tables_1_6) (hg : goodWord w = true) : w ∈ TW := TW_of (List.mem_append_right _ (List.mem_append_right _ (List.mem_append_right _ (List.mem_append_right _ (List.mem_append_right _ (List.mem_append_right _ (h))))))) hg
theorem tp_0 : Cond.selects "EqualCourt" yX8_refused yX8_refused ∈ TW := TW_of (List.mem_of_getElem? (i := 0) rfl) rfl
theorem tp_1 : Cond.selects "EqualCourt" yX8_madeTerm yX8_madeTerm ∈ TW := TW_of (List.mem_of_getElem? (i := 1) rfl) rfl
theorem tp_2 : Cond.selects "EqualCourt$Partition" yX4_unite yX4_unite ∈ TW := TW_of (List.mem_of_getElem? (i := 2) rfl) rfl
theorem tp_3 : Cond.selects "EqualCourt$Partition" yX4_uniteRows yX4_uniteRows ∈ TW := TW_of (List.mem_of_getElem? (i := 3) rfl) rfl
theorem tp_4 : Cond.selects "EqualCourt$Partition" yX4_review yX4_review ∈ TW := TW_of (List.mem_of_getElem? (i := 4) rfl) rfl
theorem tp_5 : Cond.selects "EqualCourt$Partition" yX4_takeOut yX4_takeOut ∈ TW := TW_of (List.mem_of_getElem? (i := 5) rfl) rfl
theorem tp_6 : Cond.selects "EqualCourt$Partition" yX4_rootOfPart yX4_rootOfPart ∈ TW := TW_of (List.mem_of_getElem? (i := 6) rfl) rfl
theorem tp_7 : Cond.selects "EqualCourt$Partition" yX4_isBuiltAlike yX4_isBuiltAlike ∈ TW := TW_of (List.mem_of_getElem? (i := 7) rfl) rfl
theorem tp_8 : Cond.selects "EqualCourt" yX8_done yX8_done ∈ TW := TW_of (List.mem_of_getElem? (i := 8) rfl) rfl
theorem tp_9 : Cond.selects "EqualCourt$Court" yX2_addToTrial yX2_addToTrial ∈ TW := TW_of (List.mem_of_getElem? (i := 9) rfl) rfl
theorem tp_10 : Cond.selects "EqualCourt$Court" yX2_isReached yX2_isReached ∈ TW := TW_of (List.mem_of_getElem? (i := 10) rfl) rfl
theorem tp_11 : Cond.selects "EqualCourt$Court" yX2_fillPool yX2_fillPool ∈ TW := TW_of (List.mem_of_getElem? (i := 11) rfl) rfl
theorem tp_12 : Cond.selects "EqualCourt$Court" yX2_isOneByPicks yX2_isOneByPicks ∈ TW := TW_of (List.mem_of_getElem? (i := 12) rfl) rfl
theorem tp_13 : Cond.selects "EqualCourt$Court" yX2_pickNext yX2_pickNext ∈ TW := TW_of (List.mem_of_getElem? (i := 13) rfl) rfl
theorem tp_14 : Cond.selects "EqualCourt" yX8_freeInt yX8_freeInt ∈ TW := TW_of (List.mem_of_getElem? (i := 14) rfl) rfl
theorem tp_15 : Cond.selects "EqualCourt" yX8_madeInstance yX8_madeInstance ∈ TW := TW_of (List.mem_of_getElem? (i := 15) rfl) rfl
theorem tp_16 : Cond.selects "EqualCourt$Maker" yX3_isKnown yX3_isKnown ∈ TW := TW_of (List.mem_of_getElem? (i := 16) rfl) rfl
theorem tp_17 : Cond.selects "EqualCourt$Maker" yX3_openPart yX3_openPart ∈ TW := TW_of (List.mem_of_getElem? (i := 17) rfl) rfl
theorem tp_18 : Cond.selects "EqualCourt$Maker" yX3_makeImage yX3_makeImage ∈ TW := TW_of (List.mem_of_getElem? (i := 18) rfl) rfl
theorem tp_19 : Cond.selects "EqualCourt$Maker" yX3_imageOf yX3_imageOf ∈ TW := TW_of (List.mem_of_getElem? (i := 19) rfl) rfl
theorem tp_20 : Cond.selects "EqualCourt" yX8_gatherHeads yX8_gatherHeads ∈ TW := TW_of (List.mem_of_getElem? (i := 20) rfl) rfl
theorem tp_21 : Cond.selects "EqualCourt" yX8_applyLaw yX8_applyLaw ∈ TW := TW_of (List.mem_of_getElem? (i := 21) rfl) rfl
theorem tp_22 : Cond.selects "EqualCourt$Steps" yX6_isSaid yX6_isSaid ∈ TW := TW_of (List.mem_of_getElem? (i := 22) rfl) rfl
theorem tp_23 : Cond.selects "EqualCourt$Steps" yX6_isChained yX6_isChained ∈ TW := TW_of (List.mem_of_getElem? (i := 23) rfl) rfl
theorem tp_24 : Cond.selects "EqualCourt$Steps" yX6_isByParts yX6_isByParts ∈ TW := TW_of (List.mem_of_getElem? (i := 24) rfl) rfl
theorem tp_25 : Cond.selects "EqualCourt$Steps" yX6_isSameBefore yX6_isSameBefore ∈ TW := TW_of (List.mem_of_getElem? (i := 25) rfl) rfl
theorem tp_26 : Cond.selects "EqualCourt$Steps" yX6_isOfRows yX6_isOfRows ∈ TW := TW_of (List.mem_of_getElem? (i := 26) rfl) rfl
theorem tp_27 : Cond.selects "EqualCourtModel" yX9_refuse yX9_refuse ∈ TW := TW_of (List.mem_of_getElem? (i := 27) rfl) rfl
theorem tp_28 : Cond.selects "EqualCourtModel" yX9_made yX9_made ∈ TW := TW_of (List.mem_of_getElem? (i := 28) rfl) rfl
theorem tp_29 : Cond.selects "EqualCourtModel" yX9_findTerm yX9_findTerm ∈ TW := TW_of (List.mem_of_getElem? (i := 29) rfl) rfl
theorem tp_30 : Cond.selects "EqualCourtModel" yX9_answer yX9_answer ∈ TW := TW_of (List.mem_of_getElem? (i := 30) rfl) rfl
theorem tp_31 : Cond.selects "EqualCourtModel" yX9_done yX9_done ∈ TW := TW_of (List.mem_of_getElem? (i := 31) rfl) rfl
theorem tp_32 : Cond.selects "EqualCourtModel" yX9_isTerm yX9_isTerm ∈ TW := TW_of (List.mem_of_getElem? (i := 32) rfl) rfl
theorem tp_33 : Cond.selects "EqualCourtModel" yX9_taken yX9_taken ∈ TW := TW_of (List.mem_of_getElem? (i := 33) rfl) rfl
theorem tp_34 : Cond.selects "EqualCourtModel" yX9_classes yX9_classes ∈ TW := TW_of (List.mem_of_getElem? (i := 34) rfl) rfl
theorem tp_35 : Cond.selects "EqualCourtModel" yX9_court yX9_court ∈ TW := TW_of (List.mem_of_getElem? (i := 35) rfl) rfl
theorem tp_36 : Cond.selects "EqualCourtModel" yX9_takeCourt yX9_takeCourt ∈ TW := TW_of (List.mem_of_getElem? (i := 36) rfl) rfl
theorem tp_37 : Cond.selects "EqualCourtModel" yX9_findOnes yX9_findOnes ∈ TW := TW_of (List.mem_of_getElem? (i := 37) rfl) rfl
theorem tp_38 : Cond.selects "EqualCourtModel" yX9_merge yX9_merge ∈ TW := TW_of (List.mem_of_getElem? (i := 38) rfl) rfl
theorem tp_39 : Cond.selects "EqualCourtModel" yX9_looks yX9_looks ∈ TW := TW_of (List.mem_of_getElem? (i := 39) rfl) rfl
theorem tp_40 : Cond.selects "EqualCourtModel" yX9_isByParts yX9_isByParts ∈ TW := TW_of (List.mem_of_getElem? (i := 40) rfl) rfl
theorem tp_41 : Cond.selects "EqualCourtModel" yX9_isPart yX9_isPart ∈ TW := TW_of (List.mem_of_getElem? (i := 41) rfl) rfl
theorem tp_42 : Cond.selects "EqualCourtModel" yX9_saidNow yX9_saidNow ∈ TW := TW_of (List.mem_of_getElem? (i := 42) rfl) rfl
theorem tp_43 : Cond.selects "EqualCourtModel" yX9_wouldClash yX9_wouldClash ∈ TW := TW_of (List.mem_of_getElem? (i := 43) rfl) rfl
theorem tp_44 : Cond.selects "EqualCourtModel" yX9_add yX9_add ∈ TW := TW_of (List.mem_of_getElem? (i := 44) rfl) rfl
theorem tp_45 : Cond.selects "EqualCourtModel" yX9_clashes yX9_clashes ∈ TW := TW_of (List.mem_of_getElem? (i := 45) rfl) rfl
theorem tp_46 : Cond.selects "EqualCourtModel" yX9_thin yX9_thin ∈ TW := TW_of (List.mem_of_getElem? (i := 46) rfl) rfl
theorem tp_47 : Cond.selects "EqualCourtModel" yX9_does yX9_does ∈ TW := TW_of (List.mem_of_getElem? (i := 47) rfl) rfl
theorem tp_48 : Cond.selects "EqualCourtModel" yX9_take yX9_take ∈ TW := TW_of (List.mem_of_getElem? (i := 48) rfl) rfl
theorem tp_49 : Cond.selects "EqualCourtModel" yX9_areOne yX9_areOne ∈ TW := TW_of (List.mem_of_getElem? (i := 49) rfl) rfl
theorem tp_50 : Cond.selects "EqualCourtModel" yX9_isEnough yX9_isEnough ∈ TW := TW_of (List.mem_of_getElem? (i := 50) rfl) rfl
theorem tp_51 : Cond.selects "EqualCourtModel" yX9_nextSet yX9_nextSet ∈ TW := TW_of (List.mem_of_getElem? (i := 51) rfl) rfl
theorem tp_52 : Cond.selects "EqualCourtModel" yX9_usesOne yX9_usesOne ∈ TW := TW_of (List.mem_of_getElem? (i := 52) rfl) rfl
theorem tp_53 : Cond.selects "EqualCourtModel" yX9_numberOf yX9_numberOf ∈ TW := TW_of (List.mem_of_getElem? (i := 53) rfl) rfl
theorem tp_54 : Cond.selects "EqualCourtModel" yX9_isNumber yX9_isNumber ∈ TW := TW_of (List.mem_of_getElem? (i := 54) rfl) rfl
theorem tp_55 : Cond.selects "EqualCourtModel" yX9_instanceOf yX9_instanceOf ∈ TW := TW_of (List.mem_of_getElem? (i := 55) rfl) rfl
theorem tp_56 : Cond.selects "EqualCourtModel" yX9_rebuilt yX9_rebuilt ∈ TW := TW_of (List.mem_of_getElem? (i := 56) rfl) rfl
theorem tp_57 : Cond.selects "EqualCourtModel" yX9_isHole yX9_isHole ∈ TW := TW_of (List.mem_of_getElem? (i := 57) rfl) rfl
theorem tp_58 : Cond.selects "EqualCourtModel" yX9_findHeads yX9_findHeads ∈ TW := TW_of (List.mem_of_getElem? (i := 58) rfl) rfl
theorem tp_59 : Cond.selects "EqualCourtModel" yX9_lookForHoles yX9_lookForHoles ∈ TW := TW_of (List.mem_of_getElem? (i := 59) rfl) rfl
theorem tp_60 : Cond.selects "EqualCourtModel" yX9_followAll yX9_followAll ∈ TW := TW_of (List.mem_of_getElem? (i := 60) rfl) rfl
theorem tp_61 : Cond.selects "EqualCourtModel" yX9_goOn yX9_goOn ∈ TW := TW_of (List.mem_of_getElem? (i := 61) rfl) rfl
theorem tp_62 : Cond.selects "EqualCourtModel" yX9_isRight yX9_isRight ∈ TW := TW_of (List.mem_of_getElem? (i := 62) rfl) rfl
theorem tp_63 : Cond.selects "EqualCourtModel" yX9_isStep yX9_isStep ∈ TW := TW_of (List.mem_of_getElem? (i := 63) rfl) rfl
theorem tp_64 : Cond.selects "EqualCourtModel" yX9_isRightByParts yX9_isRightByParts ∈ TW := TW_of (List.mem_of_getElem? (i := 64) rfl) rfl
theorem tp_65 : Cond.selects "EqualCourtModel" yX9_isKnown yX9_isKnown ∈ TW := TW_of (List.mem_of_getElem? (i := 65) rfl) rfl
theorem tp_66 : Cond.selects "EqualCourtModel" yX9_isOfRows yX9_isOfRows ∈ TW := TW_of (List.mem_of_getElem? (i := 66) rfl) rfl
theorem tw_0 : Cond.initialized "EqualCourtLaw" ∈ TW := tm_1 (List.mem_of_getElem? (i := 0) rfl) rfl
theorem tw_1 : Cond.initialized "EqualCourt" ∈ TW := tm_1 (List.mem_of_getElem? (i := 1) rfl) rfl
theorem tw_2 : Cond.initialized "EqualCourt$Terms" ∈ TW := tm_1 (List.mem_of_getElem? (i := 2) rfl) rfl
theorem tw_3 : Cond.initialized "java/util/Arrays" ∈ TW := tm_1 (List.mem_of_getElem? (i := 3) rfl) rfl
theorem tw_4 : Cond.initialized "EqualCourt$Sayings" ∈ TW := tm_1 (List.mem_of_getElem? (i := 4) rfl) rfl
theorem tw_5 : Cond.initialized "EqualCourt$Court" ∈ TW := tm_1 (List.mem_of_getElem? (i := 5) rfl) rfl
theorem tw_6 : Cond.initialized "EqualCourt$Core" ∈ TW := tm_1 (List.mem_of_getElem? (i := 6) rfl) rfl
theorem tw_7 : Cond.initialized "EqualCourt$Agenda" ∈ TW := tm_1 (List.mem_of_getElem? (i := 7) rfl) rfl
theorem tw_8 : Cond.initialized "EqualCourt$Partition" ∈ TW := tm_1 (List.mem_of_getElem? (i := 8) rfl) rfl
theorem tw_9 : Cond.initialized "EqualCourt$Maker" ∈ TW := tm_1 (List.mem_of_getElem? (i := 9) rfl) rfl
theorem tw_10 : Cond.initialized "EqualCourt$Steps" ∈ TW := tm_1 (List.mem_of_getElem? (i := 10) rfl) rfl
theorem tw_11 : Cond.initialized "EqualCourtModel" ∈ TW := tm_1 (List.mem_of_getElem? (i := 11) rfl) rfl
theorem tw_12 : Cond.initialized "java/lang/Math" ∈ TW := tm_1 (List.mem_of_getElem? (i := 12) rfl) rfl
theorem tw_13 : Cond.initialized "java/lang/System" ∈ TW := tm_1 (List.mem_of_getElem? (i := 13) rfl) rfl
theorem tw_14 : Cond.classLink "EqualCourtLaw" 7 "EqualCourt" ∈ TW := tm_1 (List.mem_of_getElem? (i := 14) rfl) rfl
theorem tw_15 : Cond.instantiable "EqualCourt" 13 ∈ TW := tm_1 (List.mem_of_getElem? (i := 15) rfl) rfl
theorem tw_16 : Cond.methodLink "EqualCourtLaw" 9 yX8_init ∈ TW := tm_1 (List.mem_of_getElem? (i := 16) rfl) rfl
theorem tw_17 : Cond.instanceMethod yX8_init ∈ TW := tm_1 (List.mem_of_getElem? (i := 17) rfl) rfl
theorem tw_18 : Cond.code yX8_init prog_1_method_1_code 1 (Option.none : Option Jvm.ClassFile.FieldType) ∈ TW := tm_1 (List.mem_of_getElem? (i := 18) rfl) rfl
theorem tw_19 : Cond.methodLink "EqualCourt" 1 ({ cls := "java/lang/Object", name := "<init>", desc := "()V" } : Jvm.MethodName) ∈ TW := tm_1 (List.mem_of_getElem? (i := 19) rfl) rfl
theorem tw_20 : Cond.instanceMethod ({ cls := "java/lang/Object", name := "<init>", desc := "()V" } : Jvm.MethodName) ∈ TW := tm_1 (List.mem_of_getElem? (i := 20) rfl) rfl
theorem tw_21 : Cond.code ({ cls := "java/lang/Object", name := "<init>", desc := "()V" } : Jvm.MethodName) object_method_1_code 1 (Option.none : Option Jvm.ClassFile.FieldType) ∈ TW := tm_1 (List.mem_of_getElem? (i := 21) rfl) rfl
theorem tw_22 : Cond.classLink "EqualCourt" 7 "EqualCourt$Terms" ∈ TW := tm_1 (List.mem_of_getElem? (i := 22) rfl) rfl
theorem tw_23 : Cond.instantiable "EqualCourt$Terms" 10 ∈ TW := tm_1 (List.mem_of_getElem? (i := 23) rfl) rfl
theorem tw_24 : Cond.methodLink "EqualCourt" 9 yX7_init ∈ TW := tm_1 (List.mem_of_getElem? (i := 24) rfl) rfl
theorem tw_25 : Cond.instanceMethod yX7_init ∈ TW := tm_1 (List.mem_of_getElem? (i := 25) rfl) rfl
theorem tw_26 : Cond.code yX7_init prog_9_method_1_code 1 (Option.none : Option Jvm.ClassFile.FieldType) ∈ TW := tm_1 (List.mem_of_getElem? (i := 26) rfl) rfl
theorem tw_27 : Cond.methodLink "EqualCourt$Terms" 3 ({ cls := "java/lang/Object", name := "<init>", desc := "()V" } : Jvm.MethodName) ∈ TW := tm_1 (List.mem_of_getElem? (i := 27) rfl) rfl
theorem tw_28 : Cond.methodLink "EqualCourt$Terms" 39 yJ7_fill_53178 ∈ TW := tm_1 (List.mem_of_getElem? (i := 28) rfl) rfl
theorem tw_29 : Cond.static yJ7_fill_53178 ∈ TW := tm_1 (List.mem_of_getElem? (i := 29) rfl) rfl
theorem tw_30 : Cond.code yJ7_fill_53178 prog_14_method_103_code 4 (Option.none : Option Jvm.ClassFile.FieldType) ∈ TW := tm_1 (List.mem_of_getElem? (i := 30) rfl) rfl
theorem tw_31 : Cond.fieldLink "EqualCourt$Terms" 9 "EqualCourt$Terms" "kinds" "[I" ∈ TW := tm_1 (List.mem_of_getElem? (i := 31) rfl) rfl
theorem tw_33 : Cond.fieldLink "EqualCourt$Terms" 15 "EqualCourt$Terms" "shown" "[I" ∈ TW := tm_1 (List.mem_of_getElem? (i := 33) rfl) rfl
theorem tw_35 : Cond.fieldLink "EqualCourt$Terms" 18 "EqualCourt$Terms" "sizes" "[I" ∈ TW := tm_1 (List.mem_of_getElem? (i := 35) rfl) rfl
theorem tw_37 : Cond.fieldLink "EqualCourt$Terms" 21 "EqualCourt$Terms" "parts" "[I" ∈ TW := tm_1 (List.mem_of_getElem? (i := 37) rfl) rfl
theorem tw_39 : Cond.fieldLink "EqualCourt$Terms" 24 "EqualCourt$Terms" "holes" "[I" ∈ TW := tm_1 (List.mem_of_getElem? (i := 39) rfl) rfl
theorem tw_40 : Cond.fieldLink "EqualCourt$Terms" 27 "EqualCourt$Terms" "buckets" "[I" ∈ TW := tm_1 (List.mem_of_getElem? (i := 40) rfl) rfl
theorem tw_41 : Cond.fieldLink "EqualCourt$Terms" 30 "EqualCourt$Terms" "chain" "[I" ∈ TW := tm_1 (List.mem_of_getElem? (i := 41) rfl) rfl
theorem tw_42 : Cond.fieldLink "EqualCourt$Terms" 33 "EqualCourt$Terms" "firstPlace" "[I" ∈ TW := tm_1 (List.mem_of_getElem? (i := 42) rfl) rfl
theorem tw_44 : Cond.fieldLink "EqualCourt$Terms" 36 "EqualCourt$Terms" "nextPlace" "[I" ∈ TW := tm_1 (List.mem_of_getElem? (i := 44) rfl) rfl
theorem tw_46 : Cond.fieldLink "EqualCourt$Terms" 45 "EqualCourt$Terms" "count" "I" ∈ TW := tm_1 (List.mem_of_getElem? (i := 46) rfl) rfl
theorem tw_68 : Cond.arrayClass Jvm.ClassFile.FieldType.int ∈ TW := tm_1 (List.mem_of_getElem? (i := 68) rfl) rfl
theorem tw_69 : Cond.classLink "EqualCourt" 16 "EqualCourt$Sayings" ∈ TW := tm_1 (List.mem_of_getElem? (i := 69) rfl) rfl
theorem tw_70 : Cond.instantiable "EqualCourt$Sayings" 8 ∈ TW := tm_1 (List.mem_of_getElem? (i := 70) rfl) rfl
theorem tw_72 : Cond.instanceMethod yX5_init ∈ TW := tm_1 (List.mem_of_getElem? (i := 72) rfl) rfl
theorem tw_73 : Cond.code yX5_init prog_7_method_1_code 1 (Option.none : Option Jvm.ClassFile.FieldType) ∈ TW := tm_1 (List.mem_of_getElem? (i := 73) rfl) rfl
theorem tw_74 : Cond.methodLink "EqualCourt$Sayings" 3 ({ cls := "java/lang/Object", name := "<init>", desc := "()V" } : Jvm.MethodName) ∈ TW := tm_1 (List.mem_of_getElem? (i := 74) rfl) rfl
theorem tw_75 : Cond.fieldLink "EqualCourt$Sayings" 9 "EqualCourt$Sayings" "same" "[Z" ∈ TW := tm_1 (List.mem_of_getElem? (i := 75) rfl) rfl
theorem tw_76 : Cond.fieldLink "EqualCourt$Sayings" 15 "EqualCourt$Sayings" "lefts" "[I" ∈ TW := tm_1 (List.mem_of_getElem? (i := 76) rfl) rfl
theorem tw_77 : Cond.fieldLink "EqualCourt$Sayings" 19 "EqualCourt$Sayings" "rights" "[I" ∈ TW := tm_1 (List.mem_of_getElem? (i := 77) rfl) rfl
theorem tw_78 : Cond.fieldLink "EqualCourt$Sayings" 22 "EqualCourt$Sayings" "taken" "[I" ∈ TW := tm_1 (List.mem_of_getElem? (i := 78) rfl) rfl
theorem tw_79 : Cond.fieldLink "EqualCourt$Sayings" 25 "EqualCourt$Sayings" "remembered" "[I" ∈ TW := tm_1 (List.mem_of_getElem? (i := 79) rfl) rfl
theorem tw_80 : Cond.fieldLink "EqualCourt$Sayings" 28 "EqualCourt$Sayings" "count" "I" ∈ TW := tm_1 (List.mem_of_getElem? (i := 80) rfl) rfl
theorem tw_81 : Cond.fieldLink "EqualCourt$Sayings" 32 "EqualCourt$Sayings" "takenCount" "I" ∈ TW := tm_1 (List.mem_of_getElem? (i := 81) rfl) rfl
theorem tw_82 : Cond.fieldLink "EqualCourt$Sayings" 35 "EqualCourt$Sayings" "levels" "I" ∈ TW := tm_1 (List.mem_of_getElem? (i := 82) rfl) rfl
theorem tw_100 : Cond.arrayClass Jvm.ClassFile.FieldType.boolean ∈ TW := tm_1 (List.mem_of_getElem? (i := 100) rfl) rfl
theorem tw_101 : Cond.classLink "EqualCourt" 23 "EqualCourt$Court" ∈ TW := tm_1 (List.mem_of_getElem? (i := 101) rfl) rfl
theorem tw_102 : Cond.instantiable "EqualCourt$Court" 9 ∈ TW := tm_1 (List.mem_of_getElem? (i := 102) rfl) rfl
theorem tw_103 : Cond.methodLink "EqualCourt" 25 yX2_init ∈ TW := tm_1 (List.mem_of_getElem? (i := 103) rfl) rfl
theorem tw_104 : Cond.instanceMethod yX2_init ∈ TW := tm_1 (List.mem_of_getElem? (i := 104) rfl) rfl
theorem tw_105 : Cond.code yX2_init prog_4_method_1_code 4 (Option.none : Option Jvm.ClassFile.FieldType) ∈ TW := tm_1 (List.mem_of_getElem? (i := 105) rfl) rfl
theorem tw_106 : Cond.methodLink "EqualCourt$Court" 3 ({ cls := "java/lang/Object", name := "<init>", desc := "()V" } : Jvm.MethodName) ∈ TW := tm_1 (List.mem_of_getElem? (i := 106) rfl) rfl
theorem tw_107 : Cond.classLink "EqualCourt$Court" 9 "EqualCourt$Core" ∈ TW := tm_1 (List.mem_of_getElem? (i := 107) rfl) rfl
theorem tw_108 : Cond.instantiable "EqualCourt$Core" 2 ∈ TW := tm_1 (List.mem_of_getElem? (i := 108) rfl) rfl
theorem tw_110 : Cond.instanceMethod yX1_init ∈ TW := tm_1 (List.mem_of_getElem? (i := 110) rfl) rfl
theorem tw_111 : Cond.code yX1_init prog_3_method_1_code 1 (Option.none : Option Jvm.ClassFile.FieldType) ∈ TW := tm_1 (List.mem_of_getElem? (i := 111) rfl) rfl
theorem tw_112 : Cond.methodLink "EqualCourt$Core" 3 ({ cls := "java/lang/Object", name := "<init>", desc := "()V" } : Jvm.MethodName) ∈ TW := tm_1 (List.mem_of_getElem? (i := 112) rfl) rfl
theorem tw_113 : Cond.fieldLink "EqualCourt$Core" 9 "EqualCourt$Core" "items" "[I" ∈ TW := tm_1 (List.mem_of_getElem? (i := 113) rfl) rfl
theorem tw_114 : Cond.fieldLink "EqualCourt$Core" 15 "EqualCourt$Core" "count" "I" ∈ TW := tm_1 (List.mem_of_getElem? (i := 114) rfl) rfl
theorem tw_120 : Cond.classLink "EqualCourt$Court" 37 "EqualCourt$Agenda" ∈ TW := tm_1 (List.mem_of_getElem? (i := 120) rfl) rfl
theorem tw_121 : Cond.instantiable "EqualCourt$Agenda" 6 ∈ TW := tm_1 (List.mem_of_getElem? (i := 121) rfl) rfl
theorem tw_123 : Cond.instanceMethod yX0_init ∈ TW := tm_1 (List.mem_of_getElem? (i := 123) rfl) rfl
theorem tw_124 : Cond.code yX0_init prog_2_method_1_code 1 (Option.none : Option Jvm.ClassFile.FieldType) ∈ TW := tm_1 (List.mem_of_getElem? (i := 124) rfl) rfl
theorem tw_125 : Cond.methodLink "EqualCourt$Agenda" 3 ({ cls := "java/lang/Object", name := "<init>", desc := "()V" } : Jvm.MethodName) ∈ TW := tm_1 (List.mem_of_getElem? (i := 125) rfl) rfl
theorem tw_126 : Cond.fieldLink "EqualCourt$Agenda" 11 "EqualCourt$Agenda" "lefts" "[I" ∈ TW := tm_1 (List.mem_of_getElem? (i := 126) rfl) rfl
theorem tw_127 : Cond.fieldLink "EqualCourt$Agenda" 15 "EqualCourt$Agenda" "rights" "[I" ∈ TW := tm_1 (List.mem_of_getElem? (i := 127) rfl) rfl
theorem tw_128 : Cond.fieldLink "EqualCourt$Agenda" 18 "EqualCourt$Agenda" "changed" "[I" ∈ TW := tm_1 (List.mem_of_getElem? (i := 128) rfl) rfl
theorem tw_129 : Cond.fieldLink "EqualCourt$Agenda" 21 "EqualCourt$Agenda" "waits" "[Z" ∈ TW := tm_1 (List.mem_of_getElem? (i := 129) rfl) rfl
theorem tw_130 : Cond.fieldLink "EqualCourt$Agenda" 25 "EqualCourt$Agenda" "pairCount" "I" ∈ TW := tm_1 (List.mem_of_getElem? (i := 130) rfl) rfl
theorem tw_131 : Cond.fieldLink "EqualCourt$Agenda" 29 "EqualCourt$Agenda" "changedCount" "I" ∈ TW := tm_1 (List.mem_of_getElem? (i := 131) rfl) rfl
theorem tw_145 : Cond.classLink "EqualCourt$Court" 40 "EqualCourt$Partition" ∈ TW := tm_1 (List.mem_of_getElem? (i := 145) rfl) rfl
theorem tw_146 : Cond.instantiable "EqualCourt$Partition" 14 ∈ TW := tm_1 (List.mem_of_getElem? (i := 146) rfl) rfl
theorem tw_147 : Cond.methodLink "EqualCourt$Court" 42 yX4_init ∈ TW := tm_1 (List.mem_of_getElem? (i := 147) rfl) rfl
theorem tw_148 : Cond.instanceMethod yX4_init ∈ TW := tm_1 (List.mem_of_getElem? (i := 148) rfl) rfl
theorem tw_149 : Cond.code yX4_init prog_6_method_1_code 3 (Option.none : Option Jvm.ClassFile.FieldType) ∈ TW := tm_1 (List.mem_of_getElem? (i := 149) rfl) rfl
theorem tw_150 : Cond.methodLink "EqualCourt$Partition" 3 ({ cls := "java/lang/Object", name := "<init>", desc := "()V" } : Jvm.MethodName) ∈ TW := tm_1 (List.mem_of_getElem? (i := 150) rfl) rfl
theorem tw_151 : Cond.methodLink "EqualCourt$Partition" 47 yJ7_fill_53178 ∈ TW := tm_1 (List.mem_of_getElem? (i := 151) rfl) rfl
theorem tw_152 : Cond.fieldLink "EqualCourt$Partition" 39 "EqualCourt$Partition" "terms" "LEqualCourt$Terms;" ∈ TW := tm_1 (List.mem_of_getElem? (i := 152) rfl) rfl
theorem tw_153 : Cond.fieldLink "EqualCourt$Partition" 43 "EqualCourt$Partition" "agenda" "LEqualCourt$Agenda;" ∈ TW := tm_1 (List.mem_of_getElem? (i := 153) rfl) rfl
theorem tw_154 : Cond.fieldLink "EqualCourt$Partition" 9 "EqualCourt$Partition" "root" "[I" ∈ TW := tm_1 (List.mem_of_getElem? (i := 154) rfl) rfl
theorem tw_155 : Cond.fieldLink "EqualCourt$Partition" 15 "EqualCourt$Partition" "next" "[I" ∈ TW := tm_1 (List.mem_of_getElem? (i := 155) rfl) rfl
theorem tw_156 : Cond.fieldLink "EqualCourt$Partition" 18 "EqualCourt$Partition" "size" "[I" ∈ TW := tm_1 (List.mem_of_getElem? (i := 156) rfl) rfl
theorem tw_157 : Cond.fieldLink "EqualCourt$Partition" 21 "EqualCourt$Partition" "least" "[I" ∈ TW := tm_1 (List.mem_of_getElem? (i := 157) rfl) rfl
theorem tw_158 : Cond.fieldLink "EqualCourt$Partition" 24 "EqualCourt$Partition" "number" "[I" ∈ TW := tm_1 (List.mem_of_getElem? (i := 158) rfl) rfl
theorem tw_159 : Cond.fieldLink "EqualCourt$Partition" 27 "EqualCourt$Partition" "aRow" "[I" ∈ TW := tm_1 (List.mem_of_getElem? (i := 159) rfl) rfl
theorem tw_160 : Cond.fieldLink "EqualCourt$Partition" 30 "EqualCourt$Partition" "buckets" "[I" ∈ TW := tm_1 (List.mem_of_getElem? (i := 160) rfl) rfl
theorem tw_161 : Cond.fieldLink "EqualCourt$Partition" 33 "EqualCourt$Partition" "chain" "[I" ∈ TW := tm_1 (List.mem_of_getElem? (i := 161) rfl) rfl
theorem tw_162 : Cond.fieldLink "EqualCourt$Partition" 36 "EqualCourt$Partition" "slot" "[I" ∈ TW := tm_1 (List.mem_of_getElem? (i := 162) rfl) rfl
theorem tw_163 : Cond.fieldLink "EqualCourt$Partition" 81 "EqualCourt$Partition" "known" "I" ∈ TW := tm_1 (List.mem_of_getElem? (i := 163) rfl) rfl
theorem tw_164 : Cond.fieldLink "EqualCourt$Partition" 53 "EqualCourt$Partition" "classes" "I" ∈ TW := tm_1 (List.mem_of_getElem? (i := 164) rfl) rfl
theorem tw_165 : Cond.fieldLink "EqualCourt$Partition" 57 "EqualCourt$Partition" "torn" "Z" ∈ TW := tm_1 (List.mem_of_getElem? (i := 165) rfl) rfl
theorem tw_195 : Cond.fieldLink "EqualCourt$Court" 29 "EqualCourt$Court" "terms" "LEqualCourt$Terms;" ∈ TW := tm_1 (List.mem_of_getElem? (i := 195) rfl) rfl
theorem tw_196 : Cond.fieldLink "EqualCourt$Court" 33 "EqualCourt$Court" "sayings" "LEqualCourt$Sayings;" ∈ TW := tm_1 (List.mem_of_getElem? (i := 196) rfl) rfl
theorem tw_197 : Cond.fieldLink "EqualCourt$Court" 45 "EqualCourt$Court" "bare" "LEqualCourt$Partition;" ∈ TW := tm_1 (List.mem_of_getElem? (i := 197) rfl) rfl
theorem tw_198 : Cond.fieldLink "EqualCourt$Court" 49 "EqualCourt$Court" "standing" "LEqualCourt$Partition;" ∈ TW := tm_1 (List.mem_of_getElem? (i := 198) rfl) rfl
theorem tw_199 : Cond.fieldLink "EqualCourt$Court" 52 "EqualCourt$Court" "trial" "LEqualCourt$Partition;" ∈ TW := tm_1 (List.mem_of_getElem? (i := 199) rfl) rfl
theorem tw_200 : Cond.fieldLink "EqualCourt$Court" 12 "EqualCourt$Court" "unlikes" "LEqualCourt$Core;" ∈ TW := tm_1 (List.mem_of_getElem? (i := 200) rfl) rfl
theorem tw_201 : Cond.fieldLink "EqualCourt$Court" 18 "EqualCourt$Court" "pool" "[I" ∈ TW := tm_1 (List.mem_of_getElem? (i := 201) rfl) rfl
theorem tw_202 : Cond.fieldLink "EqualCourt$Court" 22 "EqualCourt$Court" "helps" "[Z" ∈ TW := tm_1 (List.mem_of_getElem? (i := 202) rfl) rfl
theorem tw_203 : Cond.fieldLink "EqualCourt$Court" 26 "EqualCourt$Court" "picks" "[I" ∈ TW := tm_1 (List.mem_of_getElem? (i := 203) rfl) rfl
theorem tw_223 : Cond.classLink "EqualCourt" 32 "EqualCourt$Maker" ∈ TW := tm_1 (List.mem_of_getElem? (i := 223) rfl) rfl
theorem tw_224 : Cond.instantiable "EqualCourt$Maker" 6 ∈ TW := tm_1 (List.mem_of_getElem? (i := 224) rfl) rfl
theorem tw_225 : Cond.methodLink "EqualCourt" 34 yX3_init ∈ TW := tm_1 (List.mem_of_getElem? (i := 225) rfl) rfl
theorem tw_226 : Cond.instanceMethod yX3_init ∈ TW := tm_1 (List.mem_of_getElem? (i := 226) rfl) rfl
theorem tw_227 : Cond.code yX3_init prog_5_method_1_code 2 (Option.none : Option Jvm.ClassFile.FieldType) ∈ TW := tm_1 (List.mem_of_getElem? (i := 227) rfl) rfl
theorem tw_228 : Cond.methodLink "EqualCourt$Maker" 3 ({ cls := "java/lang/Object", name := "<init>", desc := "()V" } : Jvm.MethodName) ∈ TW := tm_1 (List.mem_of_getElem? (i := 228) rfl) rfl
theorem tw_229 : Cond.fieldLink "EqualCourt$Maker" 24 "EqualCourt$Maker" "terms" "LEqualCourt$Terms;" ∈ TW := tm_1 (List.mem_of_getElem? (i := 229) rfl) rfl
theorem tw_230 : Cond.fieldLink "EqualCourt$Maker" 9 "EqualCourt$Maker" "images" "[I" ∈ TW := tm_1 (List.mem_of_getElem? (i := 230) rfl) rfl
theorem tw_231 : Cond.fieldLink "EqualCourt$Maker" 15 "EqualCourt$Maker" "turnOfImage" "[I" ∈ TW := tm_1 (List.mem_of_getElem? (i := 231) rfl) rfl
theorem tw_232 : Cond.fieldLink "EqualCourt$Maker" 18 "EqualCourt$Maker" "path" "[I" ∈ TW := tm_1 (List.mem_of_getElem? (i := 232) rfl) rfl
theorem tw_233 : Cond.fieldLink "EqualCourt$Maker" 21 "EqualCourt$Maker" "fillings" "[I" ∈ TW := tm_1 (List.mem_of_getElem? (i := 233) rfl) rfl
theorem tw_234 : Cond.fieldLink "EqualCourt$Maker" 34 "EqualCourt$Maker" "turn" "I" ∈ TW := tm_1 (List.mem_of_getElem? (i := 234) rfl) rfl
theorem tw_248 : Cond.classLink "EqualCourt" 41 "EqualCourt$Steps" ∈ TW := tm_2 (List.mem_of_getElem? (i := 8) rfl) rfl
theorem tw_249 : Cond.instantiable "EqualCourt$Steps" 8 ∈ TW := tm_2 (List.mem_of_getElem? (i := 9) rfl) rfl
theorem tw_250 : Cond.methodLink "EqualCourt" 43 yX6_init ∈ TW := tm_2 (List.mem_of_getElem? (i := 10) rfl) rfl
theorem tw_251 : Cond.instanceMethod yX6_init ∈ TW := tm_2 (List.mem_of_getElem? (i := 11) rfl) rfl
theorem tw_252 : Cond.code yX6_init prog_8_method_1_code 3 (Option.none : Option Jvm.ClassFile.FieldType) ∈ TW := tm_2 (List.mem_of_getElem? (i := 12) rfl) rfl
theorem tw_253 : Cond.methodLink "EqualCourt$Steps" 3 ({ cls := "java/lang/Object", name := "<init>", desc := "()V" } : Jvm.MethodName) ∈ TW := tm_2 (List.mem_of_getElem? (i := 13) rfl) rfl
theorem tw_254 : Cond.fieldLink "EqualCourt$Steps" 27 "EqualCourt$Steps" "terms" "LEqualCourt$Terms;" ∈ TW := tm_2 (List.mem_of_getElem? (i := 14) rfl) rfl
theorem tw_255 : Cond.fieldLink "EqualCourt$Steps" 31 "EqualCourt$Steps" "sayings" "LEqualCourt$Sayings;" ∈ TW := tm_2 (List.mem_of_getElem? (i := 15) rfl) rfl
theorem tw_256 : Cond.fieldLink "EqualCourt$Steps" 9 "EqualCourt$Steps" "reasons" "[I" ∈ TW := tm_2 (List.mem_of_getElem? (i := 16) rfl) rfl
theorem tw_257 : Cond.fieldLink "EqualCourt$Steps" 15 "EqualCourt$Steps" "lefts" "[I" ∈ TW := tm_2 (List.mem_of_getElem? (i := 17) rfl) rfl
theorem tw_258 : Cond.fieldLink "EqualCourt$Steps" 18 "EqualCourt$Steps" "rights" "[I" ∈ TW := tm_2 (List.mem_of_getElem? (i := 18) rfl) rfl
theorem tw_259 : Cond.fieldLink "EqualCourt$Steps" 21 "EqualCourt$Steps" "is" "[I" ∈ TW := tm_2 (List.mem_of_getElem? (i := 19) rfl) rfl
theorem tw_260 : Cond.fieldLink "EqualCourt$Steps" 24 "EqualCourt$Steps" "js" "[I" ∈ TW := tm_2 (List.mem_of_getElem? (i := 20) rfl) rfl
theorem tw_261 : Cond.fieldLink "EqualCourt$Steps" 35 "EqualCourt$Steps" "count" "I" ∈ TW := tm_2 (List.mem_of_getElem? (i := 21) rfl) rfl
theorem tw_279 : Cond.classLink "EqualCourt" 48 "EqualCourt$Core" ∈ TW := tm_2 (List.mem_of_getElem? (i := 39) rfl) rfl
theorem tw_281 : Cond.fieldLink "EqualCourt" 10 "EqualCourt" "terms" "LEqualCourt$Terms;" ∈ TW := tm_2 (List.mem_of_getElem? (i := 41) rfl) rfl
theorem tw_282 : Cond.fieldLink "EqualCourt" 19 "EqualCourt" "sayings" "LEqualCourt$Sayings;" ∈ TW := tm_2 (List.mem_of_getElem? (i := 42) rfl) rfl
theorem tw_283 : Cond.fieldLink "EqualCourt" 28 "EqualCourt" "court" "LEqualCourt$Court;" ∈ TW := tm_2 (List.mem_of_getElem? (i := 43) rfl) rfl
theorem tw_284 : Cond.fieldLink "EqualCourt" 37 "EqualCourt" "maker" "LEqualCourt$Maker;" ∈ TW := tm_2 (List.mem_of_getElem? (i := 44) rfl) rfl
theorem tw_285 : Cond.fieldLink "EqualCourt" 44 "EqualCourt" "steps" "LEqualCourt$Steps;" ∈ TW := tm_2 (List.mem_of_getElem? (i := 45) rfl) rfl
theorem tw_286 : Cond.fieldLink "EqualCourt" 51 "EqualCourt" "clashCore" "LEqualCourt$Core;" ∈ TW := tm_2 (List.mem_of_getElem? (i := 46) rfl) rfl
theorem tw_287 : Cond.fieldLink "EqualCourt" 55 "EqualCourt" "causes" "LEqualCourt$Core;" ∈ TW := tm_2 (List.mem_of_getElem? (i := 47) rfl) rfl
theorem tw_288 : Cond.fieldLink "EqualCourt" 58 "EqualCourt" "lawLefts" "[I" ∈ TW := tm_2 (List.mem_of_getElem? (i := 48) rfl) rfl
theorem tw_289 : Cond.fieldLink "EqualCourt" 62 "EqualCourt" "lawRights" "[I" ∈ TW := tm_2 (List.mem_of_getElem? (i := 49) rfl) rfl
theorem tw_290 : Cond.fieldLink "EqualCourt" 65 "EqualCourt" "goneOver" "[I" ∈ TW := tm_2 (List.mem_of_getElem? (i := 50) rfl) rfl
theorem tw_291 : Cond.fieldLink "EqualCourt" 68 "EqualCourt" "lawCount" "I" ∈ TW := tm_2 (List.mem_of_getElem? (i := 51) rfl) rfl
theorem tw_292 : Cond.fieldLink "EqualCourt" 72 "EqualCourt" "endedBy" "I" ∈ TW := tm_2 (List.mem_of_getElem? (i := 52) rfl) rfl
theorem tw_293 : Cond.fieldLink "EqualCourt" 75 "EqualCourt" "finding" "I" ∈ TW := tm_2 (List.mem_of_getElem? (i := 53) rfl) rfl
theorem tw_321 : Cond.methodLink "EqualCourtLaw" 13 yX8_name ∈ TW := tm_2 (List.mem_of_getElem? (i := 81) rfl) rfl
theorem tw_322 : Cond.instanceMethod yX8_name ∈ TW := tm_2 (List.mem_of_getElem? (i := 82) rfl) rfl
theorem tw_323 : Cond.selects "EqualCourt" yX8_name yX8_name ∈ TW := tm_2 (List.mem_of_getElem? (i := 83) rfl) rfl
theorem tw_324 : Cond.code yX8_name prog_1_method_2_code 2 (Option.some Jvm.ClassFile.FieldType.int) ∈ TW := tm_2 (List.mem_of_getElem? (i := 84) rfl) rfl
theorem tw_325 : Cond.methodLink "EqualCourt" 78 yX8_refused ∈ TW := tm_2 (List.mem_of_getElem? (i := 85) rfl) rfl
theorem tw_327 : Cond.instanceMethod yX8_refused ∈ TW := tm_2 (List.mem_of_getElem? (i := 87) rfl) rfl
theorem tw_328 : Cond.code yX8_refused prog_1_method_34_code 2 (Option.some Jvm.ClassFile.FieldType.int) ∈ TW := tm_2 (List.mem_of_getElem? (i := 88) rfl) rfl
theorem tw_329 : Cond.methodLink "EqualCourt" 82 yX8_madeTerm ∈ TW := tm_2 (List.mem_of_getElem? (i := 89) rfl) rfl
theorem tw_331 : Cond.instanceMethod yX8_madeTerm ∈ TW := tm_2 (List.mem_of_getElem? (i := 91) rfl) rfl
theorem tw_332 : Cond.code yX8_madeTerm prog_1_method_36_code 8 (Option.some Jvm.ClassFile.FieldType.int) ∈ TW := tm_2 (List.mem_of_getElem? (i := 92) rfl) rfl
theorem tw_333 : Cond.methodLink "EqualCourt" 106 yX7_count ∈ TW := tm_2 (List.mem_of_getElem? (i := 93) rfl) rfl
theorem tw_334 : Cond.instanceMethod yX7_count ∈ TW := tm_2 (List.mem_of_getElem? (i := 94) rfl) rfl
theorem tw_335 : Cond.selects "EqualCourt$Terms" yX7_count yX7_count ∈ TW := tm_2 (List.mem_of_getElem? (i := 95) rfl) rfl
theorem tw_336 : Cond.code yX7_count prog_9_method_2_code 1 (Option.some Jvm.ClassFile.FieldType.int) ∈ TW := tm_2 (List.mem_of_getElem? (i := 96) rfl) rfl
theorem tw_337 : Cond.methodLink "EqualCourt" 225 yX7_findOrMake ∈ TW := tm_2 (List.mem_of_getElem? (i := 97) rfl) rfl
theorem tw_338 : Cond.instanceMethod yX7_findOrMake ∈ TW := tm_2 (List.mem_of_getElem? (i := 98) rfl) rfl
theorem tw_339 : Cond.selects "EqualCourt$Terms" yX7_findOrMake yX7_findOrMake ∈ TW := tm_2 (List.mem_of_getElem? (i := 99) rfl) rfl
theorem tw_340 : Cond.code yX7_findOrMake prog_9_method_11_code 10 (Option.some Jvm.ClassFile.FieldType.int) ∈ TW := tm_2 (List.mem_of_getElem? (i := 100) rfl) rfl
theorem tw_341 : Cond.methodLink "EqualCourt$Terms" 53 yX7_find ∈ TW := tm_2 (List.mem_of_getElem? (i := 101) rfl) rfl
theorem tw_342 : Cond.instanceMethod yX7_find ∈ TW := tm_2 (List.mem_of_getElem? (i := 102) rfl) rfl
theorem tw_343 : Cond.selects "EqualCourt$Terms" yX7_find yX7_find ∈ TW := tm_2 (List.mem_of_getElem? (i := 103) rfl) rfl
theorem tw_344 : Cond.code yX7_find prog_9_method_10_code 9 (Option.some Jvm.ClassFile.FieldType.int) ∈ TW := tm_2 (List.mem_of_getElem? (i := 104) rfl) rfl
theorem tw_346 : Cond.static yX8_slotFor ∈ TW := tm_2 (List.mem_of_getElem? (i := 106) rfl) rfl
theorem tw_347 : Cond.code yX8_slotFor prog_1_method_41_code 6 (Option.some Jvm.ClassFile.FieldType.int) ∈ TW := tm_2 (List.mem_of_getElem? (i := 107) rfl) rfl
theorem tw_348 : Cond.constant "EqualCourt" 240 (-1640531535 : Int32) ∈ TW := tm_2 (List.mem_of_getElem? (i := 108) rfl) rfl
theorem tw_349 : Cond.methodLink "EqualCourt$Terms" 56 yX7_isHole ∈ TW := tm_2 (List.mem_of_getElem? (i := 109) rfl) rfl
theorem tw_350 : Cond.instanceMethod yX7_isHole ∈ TW := tm_2 (List.mem_of_getElem? (i := 110) rfl) rfl
theorem tw_351 : Cond.selects "EqualCourt$Terms" yX7_isHole yX7_isHole ∈ TW := tm_2 (List.mem_of_getElem? (i := 111) rfl) rfl
theorem tw_352 : Cond.code yX7_isHole prog_9_method_9_code 2 (Option.some Jvm.ClassFile.FieldType.boolean) ∈ TW := tm_2 (List.mem_of_getElem? (i := 112) rfl) rfl
theorem tw_353 : Cond.methodLink "EqualCourt" 228 yX2_admitFrom ∈ TW := tm_2 (List.mem_of_getElem? (i := 113) rfl) rfl
theorem tw_354 : Cond.instanceMethod yX2_admitFrom ∈ TW := tm_2 (List.mem_of_getElem? (i := 114) rfl) rfl
theorem tw_355 : Cond.selects "EqualCourt$Court" yX2_admitFrom yX2_admitFrom ∈ TW := tm_2 (List.mem_of_getElem? (i := 115) rfl) rfl
theorem tw_356 : Cond.code yX2_admitFrom prog_4_method_3_code 3 (Option.none : Option Jvm.ClassFile.FieldType) ∈ TW := tm_2 (List.mem_of_getElem? (i := 116) rfl) rfl
theorem tw_357 : Cond.methodLink "EqualCourt$Court" 55 yX7_count ∈ TW := tm_2 (List.mem_of_getElem? (i := 117) rfl) rfl
theorem tw_358 : Cond.methodLink "EqualCourt$Court" 61 yX4_admit ∈ TW := tm_2 (List.mem_of_getElem? (i := 118) rfl) rfl
theorem tw_359 : Cond.instanceMethod yX4_admit ∈ TW := tm_2 (List.mem_of_getElem? (i := 119) rfl) rfl
theorem tw_360 : Cond.selects "EqualCourt$Partition" yX4_admit yX4_admit ∈ TW := tm_2 (List.mem_of_getElem? (i := 120) rfl) rfl
theorem tw_361 : Cond.code yX4_admit prog_6_method_10_code 2 (Option.none : Option Jvm.ClassFile.FieldType) ∈ TW := tm_2 (List.mem_of_getElem? (i := 121) rfl) rfl
theorem tw_362 : Cond.methodLink "EqualCourt$Partition" 90 yX7_kindOf ∈ TW := tm_2 (List.mem_of_getElem? (i := 122) rfl) rfl
theorem tw_363 : Cond.instanceMethod yX7_kindOf ∈ TW := tm_2 (List.mem_of_getElem? (i := 123) rfl) rfl
theorem tw_364 : Cond.selects "EqualCourt$Terms" yX7_kindOf yX7_kindOf ∈ TW := tm_2 (List.mem_of_getElem? (i := 124) rfl) rfl
theorem tw_365 : Cond.code yX7_kindOf prog_9_method_4_code 2 (Option.some Jvm.ClassFile.FieldType.int) ∈ TW := tm_2 (List.mem_of_getElem? (i := 125) rfl) rfl
theorem tw_366 : Cond.methodLink "EqualCourt$Partition" 68 yX7_sizeOf ∈ TW := tm_2 (List.mem_of_getElem? (i := 126) rfl) rfl
theorem tw_367 : Cond.instanceMethod yX7_sizeOf ∈ TW := tm_2 (List.mem_of_getElem? (i := 127) rfl) rfl
theorem tw_368 : Cond.selects "EqualCourt$Terms" yX7_sizeOf yX7_sizeOf ∈ TW := tm_2 (List.mem_of_getElem? (i := 128) rfl) rfl
theorem tw_369 : Cond.code yX7_sizeOf prog_9_method_6_code 2 (Option.some Jvm.ClassFile.FieldType.int) ∈ TW := tm_2 (List.mem_of_getElem? (i := 129) rfl) rfl
theorem tw_370 : Cond.methodLink "EqualCourt$Partition" 93 yX0_putChanged ∈ TW := tm_2 (List.mem_of_getElem? (i := 130) rfl) rfl
theorem tw_371 : Cond.instanceMethod yX0_putChanged ∈ TW := tm_2 (List.mem_of_getElem? (i := 131) rfl) rfl
theorem tw_372 : Cond.selects "EqualCourt$Agenda" yX0_putChanged yX0_putChanged ∈ TW := tm_2 (List.mem_of_getElem? (i := 132) rfl) rfl
theorem tw_373 : Cond.code yX0_putChanged prog_2_method_7_code 2 (Option.none : Option Jvm.ClassFile.FieldType) ∈ TW := tm_2 (List.mem_of_getElem? (i := 133) rfl) rfl
theorem tw_374 : Cond.methodLink "EqualCourt$Partition" 99 yX4_join ∈ TW := tm_2 (List.mem_of_getElem? (i := 134) rfl) rfl
theorem tw_375 : Cond.instanceMethod yX4_join ∈ TW := tm_2 (List.mem_of_getElem? (i := 135) rfl) rfl
theorem tw_376 : Cond.selects "EqualCourt$Partition" yX4_join yX4_join ∈ TW := tm_2 (List.mem_of_getElem? (i := 136) rfl) rfl
theorem tw_377 : Cond.code yX4_join prog_6_method_11_code 7 (Option.none : Option Jvm.ClassFile.FieldType) ∈ TW := tm_2 (List.mem_of_getElem? (i := 137) rfl) rfl
theorem tw_378 : Cond.methodLink "EqualCourt$Partition" 103 yX0_putPair ∈ TW := tm_2 (List.mem_of_getElem? (i := 138) rfl) rfl
theorem tw_379 : Cond.instanceMethod yX0_putPair ∈ TW := tm_2 (List.mem_of_getElem? (i := 139) rfl) rfl
theorem tw_380 : Cond.selects "EqualCourt$Agenda" yX0_putPair yX0_putPair ∈ TW := tm_2 (List.mem_of_getElem? (i := 140) rfl) rfl
theorem tw_381 : Cond.code yX0_putPair prog_2_method_2_code 3 (Option.none : Option Jvm.ClassFile.FieldType) ∈ TW := tm_2 (List.mem_of_getElem? (i := 141) rfl) rfl
theorem tw_382 : Cond.constant "EqualCourt$Partition" 106 (1000000 : Int32) ∈ TW := tm_2 (List.mem_of_getElem? (i := 142) rfl) rfl
theorem tw_383 : Cond.methodLink "EqualCourt$Partition" 107 yX0_hasPair ∈ TW := tm_2 (List.mem_of_getElem? (i := 143) rfl) rfl
theorem tw_384 : Cond.instanceMethod yX0_hasPair ∈ TW := tm_2 (List.mem_of_getElem? (i := 144) rfl) rfl
theorem tw_385 : Cond.selects "EqualCourt$Agenda" yX0_hasPair yX0_hasPair ∈ TW := tm_2 (List.mem_of_getElem? (i := 145) rfl) rfl
theorem tw_386 : Cond.code yX0_hasPair prog_2_method_3_code 1 (Option.some Jvm.ClassFile.FieldType.boolean) ∈ TW := tm_2 (List.mem_of_getElem? (i := 146) rfl) rfl
theorem tw_387 : Cond.methodLink "EqualCourt$Partition" 111 yX0_lastLeft ∈ TW := tm_2 (List.mem_of_getElem? (i := 147) rfl) rfl
theorem tw_388 : Cond.instanceMethod yX0_lastLeft ∈ TW := tm_2 (List.mem_of_getElem? (i := 148) rfl) rfl
theorem tw_389 : Cond.selects "EqualCourt$Agenda" yX0_lastLeft yX0_lastLeft ∈ TW := tm_2 (List.mem_of_getElem? (i := 149) rfl) rfl
theorem tw_390 : Cond.code yX0_lastLeft prog_2_method_4_code 1 (Option.some Jvm.ClassFile.FieldType.int) ∈ TW := tm_2 (List.mem_of_getElem? (i := 150) rfl) rfl
theorem tw_391 : Cond.methodLink "EqualCourt$Partition" 115 yX0_lastRight ∈ TW := tm_2 (List.mem_of_getElem? (i := 151) rfl) rfl
theorem tw_392 : Cond.instanceMethod yX0_lastRight ∈ TW := tm_2 (List.mem_of_getElem? (i := 152) rfl) rfl
theorem tw_393 : Cond.selects "EqualCourt$Agenda" yX0_lastRight yX0_lastRight ∈ TW := tm_2 (List.mem_of_getElem? (i := 153) rfl) rfl
theorem tw_394 : Cond.code yX0_lastRight prog_2_method_5_code 1 (Option.some Jvm.ClassFile.FieldType.int) ∈ TW := tm_2 (List.mem_of_getElem? (i := 154) rfl) rfl
theorem tw_395 : Cond.methodLink "EqualCourt$Partition" 118 yX0_removePair ∈ TW := tm_2 (List.mem_of_getElem? (i := 155) rfl) rfl
theorem tw_396 : Cond.instanceMethod yX0_removePair ∈ TW := tm_2 (List.mem_of_getElem? (i := 156) rfl) rfl
theorem tw_397 : Cond.selects "EqualCourt$Agenda" yX0_removePair yX0_removePair ∈ TW := tm_2 (List.mem_of_getElem? (i := 157) rfl) rfl
theorem tw_398 : Cond.code yX0_removePair prog_2_method_6_code 1 (Option.none : Option Jvm.ClassFile.FieldType) ∈ TW := tm_2 (List.mem_of_getElem? (i := 158) rfl) rfl
theorem tw_399 : Cond.methodLink "EqualCourt$Partition" 121 yX4_unite ∈ TW := tm_2 (List.mem_of_getElem? (i := 159) rfl) rfl
theorem tw_401 : Cond.instanceMethod yX4_unite ∈ TW := tm_2 (List.mem_of_getElem? (i := 161) rfl) rfl
theorem tw_402 : Cond.code yX4_unite prog_6_method_12_code 7 (Option.none : Option Jvm.ClassFile.FieldType) ∈ TW := tm_2 (List.mem_of_getElem? (i := 162) rfl) rfl
theorem tw_403 : Cond.methodLink "EqualCourt$Partition" 145 yJ9_min_7cf53 ∈ TW := tm_2 (List.mem_of_getElem? (i := 163) rfl) rfl
theorem tw_404 : Cond.static yJ9_min_7cf53 ∈ TW := tm_2 (List.mem_of_getElem? (i := 164) rfl) rfl
theorem tw_405 : Cond.code yJ9_min_7cf53 prog_12_method_69_code 2 (Option.some Jvm.ClassFile.FieldType.int) ∈ TW := tm_2 (List.mem_of_getElem? (i := 165) rfl) rfl
theorem tw_406 : Cond.methodLink "EqualCourt$Partition" 124 yX4_uniteRows ∈ TW := tm_2 (List.mem_of_getElem? (i := 166) rfl) rfl
theorem tw_408 : Cond.instanceMethod yX4_uniteRows ∈ TW := tm_2 (List.mem_of_getElem? (i := 168) rfl) rfl
theorem tw_409 : Cond.code yX4_uniteRows prog_6_method_13_code 5 (Option.none : Option Jvm.ClassFile.FieldType) ∈ TW := tm_2 (List.mem_of_getElem? (i := 169) rfl) rfl
theorem tw_410 : Cond.methodLink "EqualCourt$Partition" 127 yX0_hasChanged ∈ TW := tm_2 (List.mem_of_getElem? (i := 170) rfl) rfl
theorem tw_411 : Cond.instanceMethod yX0_hasChanged ∈ TW := tm_2 (List.mem_of_getElem? (i := 171) rfl) rfl
theorem tw_412 : Cond.selects "EqualCourt$Agenda" yX0_hasChanged yX0_hasChanged ∈ TW := tm_2 (List.mem_of_getElem? (i := 172) rfl) rfl
theorem tw_413 : Cond.code yX0_hasChanged prog_2_method_8_code 1 (Option.some Jvm.ClassFile.FieldType.boolean) ∈ TW := tm_2 (List.mem_of_getElem? (i := 173) rfl) rfl
theorem tw_414 : Cond.methodLink "EqualCourt$Partition" 130 yX0_takeChanged ∈ TW := tm_2 (List.mem_of_getElem? (i := 174) rfl) rfl
theorem tw_415 : Cond.instanceMethod yX0_takeChanged ∈ TW := tm_2 (List.mem_of_getElem? (i := 175) rfl) rfl
theorem tw_416 : Cond.selects "EqualCourt$Agenda" yX0_takeChanged yX0_takeChanged ∈ TW := tm_2 (List.mem_of_getElem? (i := 176) rfl) rfl
theorem tw_417 : Cond.code yX0_takeChanged prog_2_method_9_code 2 (Option.some Jvm.ClassFile.FieldType.int) ∈ TW := tm_2 (List.mem_of_getElem? (i := 177) rfl) rfl
theorem tw_418 : Cond.methodLink "EqualCourt$Partition" 133 yX4_review ∈ TW := tm_2 (List.mem_of_getElem? (i := 178) rfl) rfl
theorem tw_420 : Cond.instanceMethod yX4_review ∈ TW := tm_2 (List.mem_of_getElem? (i := 180) rfl) rfl
theorem tw_421 : Cond.code yX4_review prog_6_method_14_code 8 (Option.none : Option Jvm.ClassFile.FieldType) ∈ TW := tm_2 (List.mem_of_getElem? (i := 181) rfl) rfl
theorem tw_422 : Cond.methodLink "EqualCourt$Partition" 153 yX4_takeOut ∈ TW := tm_2 (List.mem_of_getElem? (i := 182) rfl) rfl
theorem tw_424 : Cond.instanceMethod yX4_takeOut ∈ TW := tm_2 (List.mem_of_getElem? (i := 184) rfl) rfl
theorem tw_425 : Cond.code yX4_takeOut prog_6_method_17_code 5 (Option.none : Option Jvm.ClassFile.FieldType) ∈ TW := tm_2 (List.mem_of_getElem? (i := 185) rfl) rfl
theorem tw_426 : Cond.methodLink "EqualCourt$Partition" 156 yX4_rootOfPart ∈ TW := tm_2 (List.mem_of_getElem? (i := 186) rfl) rfl
theorem tw_428 : Cond.instanceMethod yX4_rootOfPart ∈ TW := tm_2 (List.mem_of_getElem? (i := 188) rfl) rfl
theorem tw_429 : Cond.code yX4_rootOfPart prog_6_method_15_code 3 (Option.some Jvm.ClassFile.FieldType.int) ∈ TW := tm_2 (List.mem_of_getElem? (i := 189) rfl) rfl
theorem tw_431 : Cond.methodLink "EqualCourt$Partition" 169 yX4_isBuiltAlike ∈ TW := tm_2 (List.mem_of_getElem? (i := 191) rfl) rfl
theorem tw_433 : Cond.instanceMethod yX4_isBuiltAlike ∈ TW := tm_2 (List.mem_of_getElem? (i := 193) rfl) rfl
theorem tw_434 : Cond.code yX4_isBuiltAlike prog_6_method_16_code 8 (Option.some Jvm.ClassFile.FieldType.boolean) ∈ TW := tm_2 (List.mem_of_getElem? (i := 194) rfl) rfl
theorem tw_435 : Cond.methodLink "EqualCourt$Partition" 136 yX0_clear ∈ TW := tm_2 (List.mem_of_getElem? (i := 195) rfl) rfl
theorem tw_436 : Cond.instanceMethod yX0_clear ∈ TW := tm_2 (List.mem_of_getElem? (i := 196) rfl) rfl
theorem tw_437 : Cond.selects "EqualCourt$Agenda" yX0_clear yX0_clear ∈ TW := tm_2 (List.mem_of_getElem? (i := 197) rfl) rfl
theorem tw_438 : Cond.code yX0_clear prog_2_method_10_code 2 (Option.none : Option Jvm.ClassFile.FieldType) ∈ TW := tm_2 (List.mem_of_getElem? (i := 198) rfl) rfl
theorem tw_439 : Cond.methodLink "EqualCourt" 100 yX8_done ∈ TW := tm_2 (List.mem_of_getElem? (i := 199) rfl) rfl
theorem tw_441 : Cond.instanceMethod yX8_done ∈ TW := tm_2 (List.mem_of_getElem? (i := 201) rfl) rfl
theorem tw_442 : Cond.code yX8_done prog_1_method_35_code 2 (Option.some Jvm.ClassFile.FieldType.int) ∈ TW := tm_2 (List.mem_of_getElem? (i := 202) rfl) rfl
theorem tw_443 : Cond.methodLink "EqualCourtLaw" 18 yX8_number ∈ TW := tm_2 (List.mem_of_getElem? (i := 203) rfl) rfl
theorem tw_444 : Cond.instanceMethod yX8_number ∈ TW := tm_2 (List.mem_of_getElem? (i := 204) rfl) rfl
theorem tw_445 : Cond.selects "EqualCourt" yX8_number yX8_number ∈ TW := tm_2 (List.mem_of_getElem? (i := 205) rfl) rfl
theorem tw_446 : Cond.code yX8_number prog_1_method_3_code 2 (Option.some Jvm.ClassFile.FieldType.int) ∈ TW := tm_2 (List.mem_of_getElem? (i := 206) rfl) rfl
theorem tw_447 : Cond.methodLink "EqualCourtLaw" 22 yX8_built ∈ TW := tm_2 (List.mem_of_getElem? (i := 207) rfl) rfl
theorem tw_448 : Cond.instanceMethod yX8_built ∈ TW := tm_2 (List.mem_of_getElem? (i := 208) rfl) rfl
theorem tw_449 : Cond.selects "EqualCourt" yX8_built yX8_built ∈ TW := tm_2 (List.mem_of_getElem? (i := 209) rfl) rfl
theorem tw_450 : Cond.code yX8_built prog_1_method_4_code 6 (Option.some Jvm.ClassFile.FieldType.int) ∈ TW := tm_2 (List.mem_of_getElem? (i := 210) rfl) rfl
theorem tw_451 : Cond.methodLink "EqualCourt" 86 yX7_has ∈ TW := tm_2 (List.mem_of_getElem? (i := 211) rfl) rfl
theorem tw_452 : Cond.instanceMethod yX7_has ∈ TW := tm_2 (List.mem_of_getElem? (i := 212) rfl) rfl
theorem tw_453 : Cond.selects "EqualCourt$Terms" yX7_has yX7_has ∈ TW := tm_2 (List.mem_of_getElem? (i := 213) rfl) rfl
theorem tw_454 : Cond.code yX7_has prog_9_method_3_code 2 (Option.some Jvm.ClassFile.FieldType.boolean) ∈ TW := tm_2 (List.mem_of_getElem? (i := 214) rfl) rfl
theorem tw_455 : Cond.methodLink "EqualCourtLaw" 27 yX8_row ∈ TW := tm_2 (List.mem_of_getElem? (i := 215) rfl) rfl
theorem tw_456 : Cond.instanceMethod yX8_row ∈ TW := tm_2 (List.mem_of_getElem? (i := 216) rfl) rfl
theorem tw_457 : Cond.selects "EqualCourt" yX8_row yX8_row ∈ TW := tm_2 (List.mem_of_getElem? (i := 217) rfl) rfl
theorem tw_458 : Cond.code yX8_row prog_1_method_5_code 3 (Option.some Jvm.ClassFile.FieldType.int) ∈ TW := tm_2 (List.mem_of_getElem? (i := 218) rfl) rfl
theorem tw_459 : Cond.methodLink "EqualCourtLaw" 32 yX8_even ∈ TW := tm_2 (List.mem_of_getElem? (i := 219) rfl) rfl
theorem tw_460 : Cond.instanceMethod yX8_even ∈ TW := tm_2 (List.mem_of_getElem? (i := 220) rfl) rfl
theorem tw_461 : Cond.selects "EqualCourt" yX8_even yX8_even ∈ TW := tm_2 (List.mem_of_getElem? (i := 221) rfl) rfl
theorem tw_462 : Cond.code yX8_even prog_1_method_6_code 4 (Option.some Jvm.ClassFile.FieldType.int) ∈ TW := tm_2 (List.mem_of_getElem? (i := 222) rfl) rfl
theorem tw_463 : Cond.methodLink "EqualCourtLaw" 37 yX8_kind ∈ TW := tm_2 (List.mem_of_getElem? (i := 223) rfl) rfl
theorem tw_464 : Cond.instanceMethod yX8_kind ∈ TW := tm_2 (List.mem_of_getElem? (i := 224) rfl) rfl
theorem tw_465 : Cond.selects "EqualCourt" yX8_kind yX8_kind ∈ TW := tm_2 (List.mem_of_getElem? (i := 225) rfl) rfl
theorem tw_466 : Cond.code yX8_kind prog_1_method_7_code 2 (Option.some Jvm.ClassFile.FieldType.int) ∈ TW := tm_2 (List.mem_of_getElem? (i := 226) rfl) rfl
theorem tw_467 : Cond.methodLink "EqualCourt" 90 yX7_kindOf ∈ TW := tm_2 (List.mem_of_getElem? (i := 227) rfl) rfl
theorem tw_468 : Cond.methodLink "EqualCourtLaw" 41 yX8_part ∈ TW := tm_2 (List.mem_of_getElem? (i := 228) rfl) rfl
theorem tw_469 : Cond.instanceMethod yX8_part ∈ TW := tm_2 (List.mem_of_getElem? (i := 229) rfl) rfl
theorem tw_470 : Cond.selects "EqualCourt" yX8_part yX8_part ∈ TW := tm_2 (List.mem_of_getElem? (i := 230) rfl) rfl
theorem tw_471 : Cond.code yX8_part prog_1_method_8_code 3 (Option.some Jvm.ClassFile.FieldType.int) ∈ TW := tm_2 (List.mem_of_getElem? (i := 231) rfl) rfl
theorem tw_472 : Cond.methodLink "EqualCourt" 93 yX7_sizeOf ∈ TW := tm_2 (List.mem_of_getElem? (i := 232) rfl) rfl
theorem tw_473 : Cond.methodLink "EqualCourt" 96 yX7_partOf ∈ TW := tm_2 (List.mem_of_getElem? (i := 233) rfl) rfl
theorem tw_474 : Cond.instanceMethod yX7_partOf ∈ TW := tm_2 (List.mem_of_getElem? (i := 234) rfl) rfl
theorem tw_475 : Cond.selects "EqualCourt$Terms" yX7_partOf yX7_partOf ∈ TW := tm_2 (List.mem_of_getElem? (i := 235) rfl) rfl
theorem tw_476 : Cond.code yX7_partOf prog_9_method_7_code 3 (Option.some Jvm.ClassFile.FieldType.int) ∈ TW := tm_2 (List.mem_of_getElem? (i := 236) rfl) rfl
theorem tw_477 : Cond.methodLink "EqualCourtLaw" 45 yX8_shows ∈ TW := tm_2 (List.mem_of_getElem? (i := 237) rfl) rfl
theorem tw_478 : Cond.instanceMethod yX8_shows ∈ TW := tm_2 (List.mem_of_getElem? (i := 238) rfl) rfl
theorem tw_479 : Cond.selects "EqualCourt" yX8_shows yX8_shows ∈ TW := tm_2 (List.mem_of_getElem? (i := 239) rfl) rfl
theorem tw_480 : Cond.code yX8_shows prog_1_method_9_code 2 (Option.some Jvm.ClassFile.FieldType.int) ∈ TW := tm_3 (List.mem_of_getElem? (i := 0) rfl) rfl
theorem tw_481 : Cond.methodLink "EqualCourt" 103 yX7_shownBy ∈ TW := tm_3 (List.mem_of_getElem? (i := 1) rfl) rfl
theorem tw_482 : Cond.instanceMethod yX7_shownBy ∈ TW := tm_3 (List.mem_of_getElem? (i := 2) rfl) rfl
theorem tw_483 : Cond.selects "EqualCourt$Terms" yX7_shownBy yX7_shownBy ∈ TW := tm_3 (List.mem_of_getElem? (i := 3) rfl) rfl
theorem tw_484 : Cond.code yX7_shownBy prog_9_method_5_code 2 (Option.some Jvm.ClassFile.FieldType.int) ∈ TW := tm_3 (List.mem_of_getElem? (i := 4) rfl) rfl
theorem tw_485 : Cond.methodLink "EqualCourtLaw" 49 yX8_many ∈ TW := tm_3 (List.mem_of_getElem? (i := 5) rfl) rfl
theorem tw_486 : Cond.instanceMethod yX8_many ∈ TW := tm_3 (List.mem_of_getElem? (i := 6) rfl) rfl
theorem tw_487 : Cond.selects "EqualCourt" yX8_many yX8_many ∈ TW := tm_3 (List.mem_of_getElem? (i := 7) rfl) rfl
theorem tw_488 : Cond.code yX8_many prog_1_method_10_code 2 (Option.some Jvm.ClassFile.FieldType.int) ∈ TW := tm_3 (List.mem_of_getElem? (i := 8) rfl) rfl
theorem tw_489 : Cond.methodLink "EqualCourt" 110 yX5_count ∈ TW := tm_3 (List.mem_of_getElem? (i := 9) rfl) rfl
theorem tw_490 : Cond.instanceMethod yX5_count ∈ TW := tm_3 (List.mem_of_getElem? (i := 10) rfl) rfl
theorem tw_491 : Cond.selects "EqualCourt$Sayings" yX5_count yX5_count ∈ TW := tm_3 (List.mem_of_getElem? (i := 11) rfl) rfl
theorem tw_492 : Cond.code yX5_count prog_7_method_2_code 1 (Option.some Jvm.ClassFile.FieldType.int) ∈ TW := tm_3 (List.mem_of_getElem? (i := 12) rfl) rfl
theorem tw_493 : Cond.methodLink "EqualCourt" 111 yX5_takenCount ∈ TW := tm_3 (List.mem_of_getElem? (i := 13) rfl) rfl
theorem tw_494 : Cond.instanceMethod yX5_takenCount ∈ TW := tm_3 (List.mem_of_getElem? (i := 14) rfl) rfl
theorem tw_495 : Cond.selects "EqualCourt$Sayings" yX5_takenCount yX5_takenCount ∈ TW := tm_3 (List.mem_of_getElem? (i := 15) rfl) rfl
theorem tw_496 : Cond.code yX5_takenCount prog_7_method_3_code 1 (Option.some Jvm.ClassFile.FieldType.int) ∈ TW := tm_3 (List.mem_of_getElem? (i := 16) rfl) rfl
theorem tw_497 : Cond.methodLink "EqualCourt" 114 yX6_count ∈ TW := tm_3 (List.mem_of_getElem? (i := 17) rfl) rfl
theorem tw_498 : Cond.instanceMethod yX6_count ∈ TW := tm_3 (List.mem_of_getElem? (i := 18) rfl) rfl
theorem tw_499 : Cond.selects "EqualCourt$Steps" yX6_count yX6_count ∈ TW := tm_3 (List.mem_of_getElem? (i := 19) rfl) rfl
theorem tw_500 : Cond.code yX6_count prog_8_method_2_code 1 (Option.some Jvm.ClassFile.FieldType.int) ∈ TW := tm_3 (List.mem_of_getElem? (i := 20) rfl) rfl
theorem tw_501 : Cond.methodLink "EqualCourt" 115 yX5_levels ∈ TW := tm_3 (List.mem_of_getElem? (i := 21) rfl) rfl
theorem tw_502 : Cond.instanceMethod yX5_levels ∈ TW := tm_3 (List.mem_of_getElem? (i := 22) rfl) rfl
theorem tw_503 : Cond.selects "EqualCourt$Sayings" yX5_levels yX5_levels ∈ TW := tm_3 (List.mem_of_getElem? (i := 23) rfl) rfl
theorem tw_504 : Cond.code yX5_levels prog_7_method_4_code 1 (Option.some Jvm.ClassFile.FieldType.int) ∈ TW := tm_3 (List.mem_of_getElem? (i := 24) rfl) rfl
theorem tw_505 : Cond.methodLink "EqualCourt" 118 yX2_standing ∈ TW := tm_3 (List.mem_of_getElem? (i := 25) rfl) rfl
theorem tw_506 : Cond.instanceMethod yX2_standing ∈ TW := tm_3 (List.mem_of_getElem? (i := 26) rfl) rfl
theorem tw_507 : Cond.selects "EqualCourt$Court" yX2_standing yX2_standing ∈ TW := tm_3 (List.mem_of_getElem? (i := 27) rfl) rfl
theorem tw_508 : Cond.code yX2_standing prog_4_method_2_code 1 (Option.some (Jvm.ClassFile.FieldType.object "EqualCourt$Partition")) ∈ TW := tm_3 (List.mem_of_getElem? (i := 28) rfl) rfl
theorem tw_509 : Cond.methodLink "EqualCourt" 122 yX4_classes ∈ TW := tm_3 (List.mem_of_getElem? (i := 29) rfl) rfl
theorem tw_510 : Cond.instanceMethod yX4_classes ∈ TW := tm_3 (List.mem_of_getElem? (i := 30) rfl) rfl
theorem tw_511 : Cond.selects "EqualCourt$Partition" yX4_classes yX4_classes ∈ TW := tm_3 (List.mem_of_getElem? (i := 31) rfl) rfl
theorem tw_512 : Cond.code yX4_classes prog_6_method_2_code 1 (Option.some Jvm.ClassFile.FieldType.int) ∈ TW := tm_3 (List.mem_of_getElem? (i := 32) rfl) rfl
theorem tw_513 : Cond.methodLink "EqualCourtLaw" 53 yX8_say ∈ TW := tm_3 (List.mem_of_getElem? (i := 33) rfl) rfl
theorem tw_514 : Cond.instanceMethod yX8_say ∈ TW := tm_3 (List.mem_of_getElem? (i := 34) rfl) rfl
theorem tw_515 : Cond.selects "EqualCourt" yX8_say yX8_say ∈ TW := tm_3 (List.mem_of_getElem? (i := 35) rfl) rfl
theorem tw_516 : Cond.code yX8_say prog_1_method_11_code 3 (Option.some Jvm.ClassFile.FieldType.int) ∈ TW := tm_3 (List.mem_of_getElem? (i := 36) rfl) rfl
theorem tw_517 : Cond.methodLink "EqualCourt" 127 yX5_isFull ∈ TW := tm_3 (List.mem_of_getElem? (i := 37) rfl) rfl
theorem tw_518 : Cond.instanceMethod yX5_isFull ∈ TW := tm_3 (List.mem_of_getElem? (i := 38) rfl) rfl
theorem tw_519 : Cond.selects "EqualCourt$Sayings" yX5_isFull yX5_isFull ∈ TW := tm_3 (List.mem_of_getElem? (i := 39) rfl) rfl
theorem tw_520 : Cond.code yX5_isFull prog_7_method_6_code 1 (Option.some Jvm.ClassFile.FieldType.boolean) ∈ TW := tm_3 (List.mem_of_getElem? (i := 40) rfl) rfl
theorem tw_521 : Cond.methodLink "EqualCourt" 131 yX2_wouldClash ∈ TW := tm_3 (List.mem_of_getElem? (i := 41) rfl) rfl
theorem tw_522 : Cond.instanceMethod yX2_wouldClash ∈ TW := tm_3 (List.mem_of_getElem? (i := 42) rfl) rfl
theorem tw_523 : Cond.selects "EqualCourt$Court" yX2_wouldClash yX2_wouldClash ∈ TW := tm_3 (List.mem_of_getElem? (i := 43) rfl) rfl
theorem tw_524 : Cond.code yX2_wouldClash prog_4_method_5_code 4 (Option.some Jvm.ClassFile.FieldType.boolean) ∈ TW := tm_3 (List.mem_of_getElem? (i := 44) rfl) rfl
theorem tw_525 : Cond.methodLink "EqualCourt$Court" 65 yX4_copyFrom ∈ TW := tm_3 (List.mem_of_getElem? (i := 45) rfl) rfl
theorem tw_526 : Cond.instanceMethod yX4_copyFrom ∈ TW := tm_3 (List.mem_of_getElem? (i := 46) rfl) rfl
theorem tw_527 : Cond.selects "EqualCourt$Partition" yX4_copyFrom yX4_copyFrom ∈ TW := tm_3 (List.mem_of_getElem? (i := 47) rfl) rfl
theorem tw_528 : Cond.code yX4_copyFrom prog_6_method_9_code 2 (Option.none : Option Jvm.ClassFile.FieldType) ∈ TW := tm_3 (List.mem_of_getElem? (i := 48) rfl) rfl
theorem tw_529 : Cond.methodLink "EqualCourt$Partition" 84 ({ cls := "java/lang/System", name := "arraycopy", desc := "(Ljava/lang/Object;ILjava/lang/Object;II)V" } : Jvm.MethodName) ∈ TW := tm_3 (List.mem_of_getElem? (i := 49) rfl) rfl
theorem tw_530 : Cond.static ({ cls := "java/lang/System", name := "arraycopy", desc := "(Ljava/lang/Object;ILjava/lang/Object;II)V" } : Jvm.MethodName) ∈ TW := tm_3 (List.mem_of_getElem? (i := 50) rfl) rfl
theorem tw_531 : Cond.native ({ cls := "java/lang/System", name := "arraycopy", desc := "(Ljava/lang/Object;ILjava/lang/Object;II)V" } : Jvm.MethodName) ∈ TW := tm_3 (List.mem_of_getElem? (i := 51) rfl) rfl
theorem tw_532 : Cond.methodLink "EqualCourt$Court" 86 yX4_join ∈ TW := tm_3 (List.mem_of_getElem? (i := 52) rfl) rfl
theorem tw_533 : Cond.methodLink "EqualCourt$Court" 90 yX4_isTorn ∈ TW := tm_3 (List.mem_of_getElem? (i := 53) rfl) rfl
theorem tw_534 : Cond.instanceMethod yX4_isTorn ∈ TW := tm_3 (List.mem_of_getElem? (i := 54) rfl) rfl
theorem tw_535 : Cond.selects "EqualCourt$Partition" yX4_isTorn yX4_isTorn ∈ TW := tm_3 (List.mem_of_getElem? (i := 55) rfl) rfl
theorem tw_536 : Cond.code yX4_isTorn prog_6_method_3_code 1 (Option.some Jvm.ClassFile.FieldType.boolean) ∈ TW := tm_3 (List.mem_of_getElem? (i := 56) rfl) rfl
theorem tw_537 : Cond.methodLink "EqualCourt$Court" 69 yX5_count ∈ TW := tm_3 (List.mem_of_getElem? (i := 57) rfl) rfl
theorem tw_538 : Cond.methodLink "EqualCourt$Court" 72 yX5_isTaken ∈ TW := tm_3 (List.mem_of_getElem? (i := 58) rfl) rfl
theorem tw_539 : Cond.instanceMethod yX5_isTaken ∈ TW := tm_3 (List.mem_of_getElem? (i := 59) rfl) rfl
theorem tw_540 : Cond.selects "EqualCourt$Sayings" yX5_isTaken yX5_isTaken ∈ TW := tm_3 (List.mem_of_getElem? (i := 60) rfl) rfl
theorem tw_541 : Cond.code yX5_isTaken prog_7_method_10_code 2 (Option.some Jvm.ClassFile.FieldType.boolean) ∈ TW := tm_3 (List.mem_of_getElem? (i := 61) rfl) rfl
theorem tw_542 : Cond.methodLink "EqualCourt$Court" 76 yX5_isSame ∈ TW := tm_3 (List.mem_of_getElem? (i := 62) rfl) rfl
theorem tw_543 : Cond.instanceMethod yX5_isSame ∈ TW := tm_3 (List.mem_of_getElem? (i := 63) rfl) rfl
theorem tw_544 : Cond.selects "EqualCourt$Sayings" yX5_isSame yX5_isSame ∈ TW := tm_3 (List.mem_of_getElem? (i := 64) rfl) rfl
theorem tw_545 : Cond.code yX5_isSame prog_7_method_7_code 2 (Option.some Jvm.ClassFile.FieldType.boolean) ∈ TW := tm_3 (List.mem_of_getElem? (i := 65) rfl) rfl
theorem tw_546 : Cond.methodLink "EqualCourt$Court" 79 yX5_left ∈ TW := tm_3 (List.mem_of_getElem? (i := 66) rfl) rfl
theorem tw_547 : Cond.instanceMethod yX5_left ∈ TW := tm_3 (List.mem_of_getElem? (i := 67) rfl) rfl
theorem tw_548 : Cond.selects "EqualCourt$Sayings" yX5_left yX5_left ∈ TW := tm_3 (List.mem_of_getElem? (i := 68) rfl) rfl
theorem tw_549 : Cond.code yX5_left prog_7_method_8_code 2 (Option.some Jvm.ClassFile.FieldType.int) ∈ TW := tm_3 (List.mem_of_getElem? (i := 69) rfl) rfl
theorem tw_550 : Cond.methodLink "EqualCourt$Court" 83 yX5_right ∈ TW := tm_3 (List.mem_of_getElem? (i := 70) rfl) rfl
theorem tw_551 : Cond.instanceMethod yX5_right ∈ TW := tm_3 (List.mem_of_getElem? (i := 71) rfl) rfl
theorem tw_552 : Cond.selects "EqualCourt$Sayings" yX5_right yX5_right ∈ TW := tm_3 (List.mem_of_getElem? (i := 72) rfl) rfl
theorem tw_553 : Cond.code yX5_right prog_7_method_9_code 2 (Option.some Jvm.ClassFile.FieldType.int) ∈ TW := tm_3 (List.mem_of_getElem? (i := 73) rfl) rfl
theorem tw_554 : Cond.methodLink "EqualCourt$Court" 94 yX4_isOne ∈ TW := tm_3 (List.mem_of_getElem? (i := 74) rfl) rfl
theorem tw_555 : Cond.instanceMethod yX4_isOne ∈ TW := tm_3 (List.mem_of_getElem? (i := 75) rfl) rfl
theorem tw_556 : Cond.selects "EqualCourt$Partition" yX4_isOne yX4_isOne ∈ TW := tm_3 (List.mem_of_getElem? (i := 76) rfl) rfl
theorem tw_557 : Cond.code yX4_isOne prog_6_method_4_code 3 (Option.some Jvm.ClassFile.FieldType.boolean) ∈ TW := tm_3 (List.mem_of_getElem? (i := 77) rfl) rfl
theorem tw_558 : Cond.methodLink "EqualCourt" 135 yX2_thin ∈ TW := tm_3 (List.mem_of_getElem? (i := 78) rfl) rfl
theorem tw_559 : Cond.instanceMethod yX2_thin ∈ TW := tm_3 (List.mem_of_getElem? (i := 79) rfl) rfl
theorem tw_560 : Cond.selects "EqualCourt$Court" yX2_thin yX2_thin ∈ TW := tm_3 (List.mem_of_getElem? (i := 80) rfl) rfl
theorem tw_561 : Cond.code yX2_thin prog_4_method_7_code 8 (Option.none : Option Jvm.ClassFile.FieldType) ∈ TW := tm_3 (List.mem_of_getElem? (i := 81) rfl) rfl
theorem tw_562 : Cond.methodLink "EqualCourt$Court" 98 yX1_clear ∈ TW := tm_3 (List.mem_of_getElem? (i := 82) rfl) rfl
theorem tw_563 : Cond.instanceMethod yX1_clear ∈ TW := tm_3 (List.mem_of_getElem? (i := 83) rfl) rfl
theorem tw_564 : Cond.selects "EqualCourt$Core" yX1_clear yX1_clear ∈ TW := tm_3 (List.mem_of_getElem? (i := 84) rfl) rfl
theorem tw_565 : Cond.code yX1_clear prog_3_method_5_code 1 (Option.none : Option Jvm.ClassFile.FieldType) ∈ TW := tm_3 (List.mem_of_getElem? (i := 85) rfl) rfl
theorem tw_566 : Cond.methodLink "EqualCourt$Court" 101 yX1_count ∈ TW := tm_3 (List.mem_of_getElem? (i := 86) rfl) rfl
theorem tw_567 : Cond.instanceMethod yX1_count ∈ TW := tm_3 (List.mem_of_getElem? (i := 87) rfl) rfl
theorem tw_568 : Cond.selects "EqualCourt$Core" yX1_count yX1_count ∈ TW := tm_3 (List.mem_of_getElem? (i := 88) rfl) rfl
theorem tw_569 : Cond.code yX1_count prog_3_method_2_code 1 (Option.some Jvm.ClassFile.FieldType.int) ∈ TW := tm_3 (List.mem_of_getElem? (i := 89) rfl) rfl
theorem tw_570 : Cond.methodLink "EqualCourt$Court" 102 yX1_at ∈ TW := tm_3 (List.mem_of_getElem? (i := 90) rfl) rfl
theorem tw_571 : Cond.instanceMethod yX1_at ∈ TW := tm_3 (List.mem_of_getElem? (i := 91) rfl) rfl
theorem tw_572 : Cond.selects "EqualCourt$Core" yX1_at yX1_at ∈ TW := tm_3 (List.mem_of_getElem? (i := 92) rfl) rfl
theorem tw_573 : Cond.code yX1_at prog_3_method_3_code 2 (Option.some Jvm.ClassFile.FieldType.int) ∈ TW := tm_3 (List.mem_of_getElem? (i := 93) rfl) rfl
theorem tw_574 : Cond.methodLink "EqualCourt$Court" 105 yX2_addToTrial ∈ TW := tm_3 (List.mem_of_getElem? (i := 94) rfl) rfl
theorem tw_576 : Cond.instanceMethod yX2_addToTrial ∈ TW := tm_3 (List.mem_of_getElem? (i := 96) rfl) rfl
theorem tw_577 : Cond.code yX2_addToTrial prog_4_method_8_code 2 (Option.some Jvm.ClassFile.FieldType.boolean) ∈ TW := tm_3 (List.mem_of_getElem? (i := 97) rfl) rfl
theorem tw_578 : Cond.methodLink "EqualCourt$Court" 112 yX1_add ∈ TW := tm_3 (List.mem_of_getElem? (i := 98) rfl) rfl
theorem tw_579 : Cond.instanceMethod yX1_add ∈ TW := tm_3 (List.mem_of_getElem? (i := 99) rfl) rfl
theorem tw_580 : Cond.selects "EqualCourt$Core" yX1_add yX1_add ∈ TW := tm_3 (List.mem_of_getElem? (i := 100) rfl) rfl
theorem tw_581 : Cond.code yX1_add prog_3_method_4_code 2 (Option.none : Option Jvm.ClassFile.FieldType) ∈ TW := tm_3 (List.mem_of_getElem? (i := 101) rfl) rfl
theorem tw_582 : Cond.methodLink "EqualCourt$Court" 108 yX2_isReached ∈ TW := tm_3 (List.mem_of_getElem? (i := 102) rfl) rfl
theorem tw_584 : Cond.instanceMethod yX2_isReached ∈ TW := tm_3 (List.mem_of_getElem? (i := 104) rfl) rfl
theorem tw_585 : Cond.code yX2_isReached prog_4_method_9_code 6 (Option.some Jvm.ClassFile.FieldType.boolean) ∈ TW := tm_3 (List.mem_of_getElem? (i := 105) rfl) rfl
theorem tw_586 : Cond.methodLink "EqualCourt" 139 yX2_acceptTrial ∈ TW := tm_3 (List.mem_of_getElem? (i := 106) rfl) rfl
theorem tw_587 : Cond.instanceMethod yX2_acceptTrial ∈ TW := tm_3 (List.mem_of_getElem? (i := 107) rfl) rfl
theorem tw_588 : Cond.selects "EqualCourt$Court" yX2_acceptTrial yX2_acceptTrial ∈ TW := tm_3 (List.mem_of_getElem? (i := 108) rfl) rfl
theorem tw_589 : Cond.code yX2_acceptTrial prog_4_method_6_code 2 (Option.none : Option Jvm.ClassFile.FieldType) ∈ TW := tm_3 (List.mem_of_getElem? (i := 109) rfl) rfl
theorem tw_590 : Cond.methodLink "EqualCourt" 142 yX5_add ∈ TW := tm_3 (List.mem_of_getElem? (i := 110) rfl) rfl
theorem tw_591 : Cond.instanceMethod yX5_add ∈ TW := tm_3 (List.mem_of_getElem? (i := 111) rfl) rfl
theorem tw_592 : Cond.selects "EqualCourt$Sayings" yX5_add yX5_add ∈ TW := tm_3 (List.mem_of_getElem? (i := 112) rfl) rfl
theorem tw_593 : Cond.code yX5_add prog_7_method_11_code 4 (Option.some Jvm.ClassFile.FieldType.int) ∈ TW := tm_3 (List.mem_of_getElem? (i := 113) rfl) rfl
theorem tw_594 : Cond.methodLink "EqualCourtLaw" 57 yX8_unlike ∈ TW := tm_3 (List.mem_of_getElem? (i := 114) rfl) rfl
theorem tw_595 : Cond.instanceMethod yX8_unlike ∈ TW := tm_3 (List.mem_of_getElem? (i := 115) rfl) rfl
theorem tw_596 : Cond.selects "EqualCourt" yX8_unlike yX8_unlike ∈ TW := tm_3 (List.mem_of_getElem? (i := 116) rfl) rfl
theorem tw_597 : Cond.code yX8_unlike prog_1_method_12_code 3 (Option.some Jvm.ClassFile.FieldType.int) ∈ TW := tm_3 (List.mem_of_getElem? (i := 117) rfl) rfl
theorem tw_598 : Cond.methodLink "EqualCourt" 146 yX4_isOne ∈ TW := tm_3 (List.mem_of_getElem? (i := 118) rfl) rfl
theorem tw_599 : Cond.methodLink "EqualCourtLaw" 61 yX8_drop ∈ TW := tm_3 (List.mem_of_getElem? (i := 119) rfl) rfl
theorem tw_600 : Cond.instanceMethod yX8_drop ∈ TW := tm_3 (List.mem_of_getElem? (i := 120) rfl) rfl
theorem tw_601 : Cond.selects "EqualCourt" yX8_drop yX8_drop ∈ TW := tm_3 (List.mem_of_getElem? (i := 121) rfl) rfl
theorem tw_602 : Cond.code yX8_drop prog_1_method_13_code 2 (Option.some Jvm.ClassFile.FieldType.int) ∈ TW := tm_3 (List.mem_of_getElem? (i := 122) rfl) rfl
theorem tw_603 : Cond.methodLink "EqualCourt" 149 yX5_has ∈ TW := tm_3 (List.mem_of_getElem? (i := 123) rfl) rfl
theorem tw_604 : Cond.instanceMethod yX5_has ∈ TW := tm_3 (List.mem_of_getElem? (i := 124) rfl) rfl
theorem tw_605 : Cond.selects "EqualCourt$Sayings" yX5_has yX5_has ∈ TW := tm_3 (List.mem_of_getElem? (i := 125) rfl) rfl
theorem tw_606 : Cond.code yX5_has prog_7_method_5_code 2 (Option.some Jvm.ClassFile.FieldType.boolean) ∈ TW := tm_3 (List.mem_of_getElem? (i := 126) rfl) rfl
theorem tw_607 : Cond.methodLink "EqualCourt" 150 yX5_isTaken ∈ TW := tm_3 (List.mem_of_getElem? (i := 127) rfl) rfl
theorem tw_608 : Cond.methodLink "EqualCourt" 153 yX5_remove ∈ TW := tm_3 (List.mem_of_getElem? (i := 128) rfl) rfl
theorem tw_609 : Cond.instanceMethod yX5_remove ∈ TW := tm_3 (List.mem_of_getElem? (i := 129) rfl) rfl
theorem tw_610 : Cond.selects "EqualCourt$Sayings" yX5_remove yX5_remove ∈ TW := tm_3 (List.mem_of_getElem? (i := 130) rfl) rfl
theorem tw_611 : Cond.code yX5_remove prog_7_method_12_code 2 (Option.none : Option Jvm.ClassFile.FieldType) ∈ TW := tm_3 (List.mem_of_getElem? (i := 131) rfl) rfl
theorem tw_612 : Cond.methodLink "EqualCourt" 157 yX5_isSame ∈ TW := tm_3 (List.mem_of_getElem? (i := 132) rfl) rfl
theorem tw_613 : Cond.methodLink "EqualCourt" 160 yX2_judgeAnew ∈ TW := tm_3 (List.mem_of_getElem? (i := 133) rfl) rfl
theorem tw_614 : Cond.instanceMethod yX2_judgeAnew ∈ TW := tm_3 (List.mem_of_getElem? (i := 134) rfl) rfl
theorem tw_615 : Cond.selects "EqualCourt$Court" yX2_judgeAnew yX2_judgeAnew ∈ TW := tm_3 (List.mem_of_getElem? (i := 135) rfl) rfl
theorem tw_616 : Cond.code yX2_judgeAnew prog_4_method_4_code 2 (Option.none : Option Jvm.ClassFile.FieldType) ∈ TW := tm_3 (List.mem_of_getElem? (i := 136) rfl) rfl
theorem tw_617 : Cond.methodLink "EqualCourtLaw" 65 yX8_said ∈ TW := tm_3 (List.mem_of_getElem? (i := 137) rfl) rfl
theorem tw_618 : Cond.instanceMethod yX8_said ∈ TW := tm_3 (List.mem_of_getElem? (i := 138) rfl) rfl
theorem tw_619 : Cond.selects "EqualCourt" yX8_said yX8_said ∈ TW := tm_3 (List.mem_of_getElem? (i := 139) rfl) rfl
theorem tw_620 : Cond.code yX8_said prog_1_method_14_code 3 (Option.some Jvm.ClassFile.FieldType.int) ∈ TW := tm_3 (List.mem_of_getElem? (i := 140) rfl) rfl
theorem tw_621 : Cond.methodLink "EqualCourt" 163 yX5_left ∈ TW := tm_3 (List.mem_of_getElem? (i := 141) rfl) rfl
theorem tw_622 : Cond.methodLink "EqualCourt" 166 yX5_right ∈ TW := tm_3 (List.mem_of_getElem? (i := 142) rfl) rfl
theorem tw_623 : Cond.methodLink "EqualCourtLaw" 69 yX8_clashed ∈ TW := tm_3 (List.mem_of_getElem? (i := 143) rfl) rfl
theorem tw_624 : Cond.instanceMethod yX8_clashed ∈ TW := tm_3 (List.mem_of_getElem? (i := 144) rfl) rfl
theorem tw_625 : Cond.selects "EqualCourt" yX8_clashed yX8_clashed ∈ TW := tm_3 (List.mem_of_getElem? (i := 145) rfl) rfl
theorem tw_626 : Cond.code yX8_clashed prog_1_method_15_code 2 (Option.some Jvm.ClassFile.FieldType.int) ∈ TW := tm_3 (List.mem_of_getElem? (i := 146) rfl) rfl
theorem tw_627 : Cond.methodLink "EqualCourt" 169 yX1_at ∈ TW := tm_3 (List.mem_of_getElem? (i := 147) rfl) rfl
theorem tw_628 : Cond.methodLink "EqualCourtLaw" 73 yX8_judge ∈ TW := tm_3 (List.mem_of_getElem? (i := 148) rfl) rfl
theorem tw_629 : Cond.instanceMethod yX8_judge ∈ TW := tm_3 (List.mem_of_getElem? (i := 149) rfl) rfl
theorem tw_630 : Cond.selects "EqualCourt" yX8_judge yX8_judge ∈ TW := tm_3 (List.mem_of_getElem? (i := 150) rfl) rfl
theorem tw_631 : Cond.code yX8_judge prog_1_method_16_code 3 (Option.some Jvm.ClassFile.FieldType.int) ∈ TW := tm_3 (List.mem_of_getElem? (i := 151) rfl) rfl
theorem tw_632 : Cond.methodLink "EqualCourtLaw" 77 yX8_why ∈ TW := tm_3 (List.mem_of_getElem? (i := 152) rfl) rfl
theorem tw_633 : Cond.instanceMethod yX8_why ∈ TW := tm_3 (List.mem_of_getElem? (i := 153) rfl) rfl
theorem tw_634 : Cond.selects "EqualCourt" yX8_why yX8_why ∈ TW := tm_3 (List.mem_of_getElem? (i := 154) rfl) rfl
theorem tw_635 : Cond.code yX8_why prog_1_method_17_code 4 (Option.some Jvm.ClassFile.FieldType.int) ∈ TW := tm_3 (List.mem_of_getElem? (i := 155) rfl) rfl
theorem tw_636 : Cond.methodLink "EqualCourt" 172 yX1_count ∈ TW := tm_3 (List.mem_of_getElem? (i := 156) rfl) rfl
theorem tw_637 : Cond.methodLink "EqualCourtLaw" 81 yX8_least ∈ TW := tm_3 (List.mem_of_getElem? (i := 157) rfl) rfl
theorem tw_638 : Cond.instanceMethod yX8_least ∈ TW := tm_3 (List.mem_of_getElem? (i := 158) rfl) rfl
theorem tw_639 : Cond.selects "EqualCourt" yX8_least yX8_least ∈ TW := tm_3 (List.mem_of_getElem? (i := 159) rfl) rfl
theorem tw_640 : Cond.code yX8_least prog_1_method_18_code 4 (Option.some Jvm.ClassFile.FieldType.int) ∈ TW := tm_3 (List.mem_of_getElem? (i := 160) rfl) rfl
theorem tw_641 : Cond.methodLink "EqualCourt" 173 yX2_findFewest ∈ TW := tm_3 (List.mem_of_getElem? (i := 161) rfl) rfl
theorem tw_642 : Cond.instanceMethod yX2_findFewest ∈ TW := tm_3 (List.mem_of_getElem? (i := 162) rfl) rfl
theorem tw_643 : Cond.selects "EqualCourt$Court" yX2_findFewest yX2_findFewest ∈ TW := tm_3 (List.mem_of_getElem? (i := 163) rfl) rfl
theorem tw_644 : Cond.code yX2_findFewest prog_4_method_10_code 10 (Option.some Jvm.ClassFile.FieldType.boolean) ∈ TW := tm_3 (List.mem_of_getElem? (i := 164) rfl) rfl
theorem tw_645 : Cond.methodLink "EqualCourt$Court" 115 yX2_fillPool ∈ TW := tm_3 (List.mem_of_getElem? (i := 165) rfl) rfl
theorem tw_647 : Cond.instanceMethod yX2_fillPool ∈ TW := tm_3 (List.mem_of_getElem? (i := 167) rfl) rfl
theorem tw_648 : Cond.code yX2_fillPool prog_4_method_11_code 3 (Option.some Jvm.ClassFile.FieldType.int) ∈ TW := tm_3 (List.mem_of_getElem? (i := 168) rfl) rfl
theorem tw_649 : Cond.methodLink "EqualCourt$Court" 118 yX2_isOneByPicks ∈ TW := tm_3 (List.mem_of_getElem? (i := 169) rfl) rfl
theorem tw_651 : Cond.instanceMethod yX2_isOneByPicks ∈ TW := tm_3 (List.mem_of_getElem? (i := 171) rfl) rfl
theorem tw_652 : Cond.code yX2_isOneByPicks prog_4_method_12_code 6 (Option.some Jvm.ClassFile.FieldType.boolean) ∈ TW := tm_3 (List.mem_of_getElem? (i := 172) rfl) rfl
theorem tw_653 : Cond.methodLink "EqualCourt$Court" 122 yX2_pickNext ∈ TW := tm_3 (List.mem_of_getElem? (i := 173) rfl) rfl
theorem tw_655 : Cond.instanceMethod yX2_pickNext ∈ TW := tm_3 (List.mem_of_getElem? (i := 175) rfl) rfl
theorem tw_656 : Cond.code yX2_pickNext prog_4_method_13_code 5 (Option.some Jvm.ClassFile.FieldType.boolean) ∈ TW := tm_3 (List.mem_of_getElem? (i := 176) rfl) rfl
theorem tw_657 : Cond.methodLink "EqualCourtLaw" 85 yX8_because ∈ TW := tm_3 (List.mem_of_getElem? (i := 177) rfl) rfl
theorem tw_658 : Cond.instanceMethod yX8_because ∈ TW := tm_3 (List.mem_of_getElem? (i := 178) rfl) rfl
theorem tw_659 : Cond.selects "EqualCourt" yX8_because yX8_because ∈ TW := tm_3 (List.mem_of_getElem? (i := 179) rfl) rfl
theorem tw_660 : Cond.code yX8_because prog_1_method_19_code 2 (Option.some Jvm.ClassFile.FieldType.int) ∈ TW := tm_3 (List.mem_of_getElem? (i := 180) rfl) rfl
theorem tw_661 : Cond.methodLink "EqualCourtLaw" 89 yX8_head ∈ TW := tm_3 (List.mem_of_getElem? (i := 181) rfl) rfl
theorem tw_662 : Cond.instanceMethod yX8_head ∈ TW := tm_3 (List.mem_of_getElem? (i := 182) rfl) rfl
theorem tw_663 : Cond.selects "EqualCourt" yX8_head yX8_head ∈ TW := tm_3 (List.mem_of_getElem? (i := 183) rfl) rfl
theorem tw_664 : Cond.code yX8_head prog_1_method_20_code 2 (Option.some Jvm.ClassFile.FieldType.int) ∈ TW := tm_3 (List.mem_of_getElem? (i := 184) rfl) rfl
theorem tw_665 : Cond.methodLink "EqualCourt" 177 yX4_headOf ∈ TW := tm_3 (List.mem_of_getElem? (i := 185) rfl) rfl
theorem tw_666 : Cond.instanceMethod yX4_headOf ∈ TW := tm_3 (List.mem_of_getElem? (i := 186) rfl) rfl
theorem tw_667 : Cond.selects "EqualCourt$Partition" yX4_headOf yX4_headOf ∈ TW := tm_3 (List.mem_of_getElem? (i := 187) rfl) rfl
theorem tw_668 : Cond.code yX4_headOf prog_6_method_5_code 2 (Option.some Jvm.ClassFile.FieldType.int) ∈ TW := tm_3 (List.mem_of_getElem? (i := 188) rfl) rfl
theorem tw_669 : Cond.methodLink "EqualCourtLaw" 93 yX8_member ∈ TW := tm_3 (List.mem_of_getElem? (i := 189) rfl) rfl
theorem tw_670 : Cond.instanceMethod yX8_member ∈ TW := tm_3 (List.mem_of_getElem? (i := 190) rfl) rfl
theorem tw_671 : Cond.selects "EqualCourt" yX8_member yX8_member ∈ TW := tm_3 (List.mem_of_getElem? (i := 191) rfl) rfl
theorem tw_672 : Cond.code yX8_member prog_1_method_21_code 5 (Option.some Jvm.ClassFile.FieldType.int) ∈ TW := tm_3 (List.mem_of_getElem? (i := 192) rfl) rfl
theorem tw_673 : Cond.methodLink "EqualCourtLaw" 97 yX8_uses ∈ TW := tm_3 (List.mem_of_getElem? (i := 193) rfl) rfl
theorem tw_674 : Cond.instanceMethod yX8_uses ∈ TW := tm_3 (List.mem_of_getElem? (i := 194) rfl) rfl
theorem tw_675 : Cond.selects "EqualCourt" yX8_uses yX8_uses ∈ TW := tm_3 (List.mem_of_getElem? (i := 195) rfl) rfl
theorem tw_676 : Cond.code yX8_uses prog_1_method_22_code 5 (Option.some Jvm.ClassFile.FieldType.int) ∈ TW := tm_3 (List.mem_of_getElem? (i := 196) rfl) rfl
theorem tw_677 : Cond.methodLink "EqualCourt" 180 yX4_hasPartLike ∈ TW := tm_3 (List.mem_of_getElem? (i := 197) rfl) rfl
theorem tw_678 : Cond.instanceMethod yX4_hasPartLike ∈ TW := tm_3 (List.mem_of_getElem? (i := 198) rfl) rfl
theorem tw_679 : Cond.selects "EqualCourt$Partition" yX4_hasPartLike yX4_hasPartLike ∈ TW := tm_3 (List.mem_of_getElem? (i := 199) rfl) rfl
theorem tw_680 : Cond.code yX4_hasPartLike prog_6_method_8_code 4 (Option.some Jvm.ClassFile.FieldType.boolean) ∈ TW := tm_3 (List.mem_of_getElem? (i := 200) rfl) rfl
theorem tw_681 : Cond.methodLink "EqualCourt$Partition" 73 yX7_partOf ∈ TW := tm_3 (List.mem_of_getElem? (i := 201) rfl) rfl
theorem tw_682 : Cond.methodLink "EqualCourt$Partition" 77 yX4_isOne ∈ TW := tm_3 (List.mem_of_getElem? (i := 202) rfl) rfl
theorem tw_683 : Cond.methodLink "EqualCourtLaw" 101 yX8_world ∈ TW := tm_3 (List.mem_of_getElem? (i := 203) rfl) rfl
theorem tw_684 : Cond.instanceMethod yX8_world ∈ TW := tm_3 (List.mem_of_getElem? (i := 204) rfl) rfl
theorem tw_685 : Cond.selects "EqualCourt" yX8_world yX8_world ∈ TW := tm_3 (List.mem_of_getElem? (i := 205) rfl) rfl
theorem tw_686 : Cond.code yX8_world prog_1_method_23_code 4 (Option.some Jvm.ClassFile.FieldType.long) ∈ TW := tm_3 (List.mem_of_getElem? (i := 206) rfl) rfl
theorem tw_687 : Cond.constantLong "EqualCourt" 183 (1099511627776 : Int64) ∈ TW := tm_3 (List.mem_of_getElem? (i := 207) rfl) rfl
theorem tw_688 : Cond.methodLink "EqualCourt" 185 yX4_numberOf ∈ TW := tm_3 (List.mem_of_getElem? (i := 208) rfl) rfl
theorem tw_689 : Cond.instanceMethod yX4_numberOf ∈ TW := tm_3 (List.mem_of_getElem? (i := 209) rfl) rfl
theorem tw_690 : Cond.selects "EqualCourt$Partition" yX4_numberOf yX4_numberOf ∈ TW := tm_3 (List.mem_of_getElem? (i := 210) rfl) rfl
theorem tw_691 : Cond.code yX4_numberOf prog_6_method_6_code 2 (Option.some Jvm.ClassFile.FieldType.int) ∈ TW := tm_3 (List.mem_of_getElem? (i := 211) rfl) rfl
theorem tw_692 : Cond.methodLink "EqualCourt" 188 yX4_unnumberedBelow ∈ TW := tm_3 (List.mem_of_getElem? (i := 212) rfl) rfl
theorem tw_693 : Cond.instanceMethod yX4_unnumberedBelow ∈ TW := tm_3 (List.mem_of_getElem? (i := 213) rfl) rfl
theorem tw_694 : Cond.selects "EqualCourt$Partition" yX4_unnumberedBelow yX4_unnumberedBelow ∈ TW := tm_3 (List.mem_of_getElem? (i := 214) rfl) rfl
theorem tw_695 : Cond.code yX4_unnumberedBelow prog_6_method_7_code 4 (Option.some Jvm.ClassFile.FieldType.int) ∈ TW := tm_3 (List.mem_of_getElem? (i := 215) rfl) rfl
theorem tw_696 : Cond.methodLink "EqualCourt$Partition" 61 yX4_headOf ∈ TW := tm_3 (List.mem_of_getElem? (i := 216) rfl) rfl
theorem tw_697 : Cond.methodLink "EqualCourt$Partition" 65 yX4_numberOf ∈ TW := tm_3 (List.mem_of_getElem? (i := 217) rfl) rfl
theorem tw_698 : Cond.methodLink "EqualCourt" 191 yX8_freeInt ∈ TW := tm_3 (List.mem_of_getElem? (i := 218) rfl) rfl
theorem tw_700 : Cond.instanceMethod yX8_freeInt ∈ TW := tm_3 (List.mem_of_getElem? (i := 220) rfl) rfl
theorem tw_701 : Cond.code yX8_freeInt prog_1_method_38_code 4 (Option.some Jvm.ClassFile.FieldType.int) ∈ TW := tm_3 (List.mem_of_getElem? (i := 221) rfl) rfl
theorem tw_702 : Cond.methodLink "EqualCourt" 234 yX7_find ∈ TW := tm_3 (List.mem_of_getElem? (i := 222) rfl) rfl
theorem tw_703 : Cond.methodLink "EqualCourtLaw" 106 yX8_push ∈ TW := tm_3 (List.mem_of_getElem? (i := 223) rfl) rfl
theorem tw_704 : Cond.instanceMethod yX8_push ∈ TW := tm_3 (List.mem_of_getElem? (i := 224) rfl) rfl
theorem tw_705 : Cond.selects "EqualCourt" yX8_push yX8_push ∈ TW := tm_3 (List.mem_of_getElem? (i := 225) rfl) rfl
theorem tw_706 : Cond.code yX8_push prog_1_method_24_code 1 (Option.some Jvm.ClassFile.FieldType.int) ∈ TW := tm_3 (List.mem_of_getElem? (i := 226) rfl) rfl
theorem tw_707 : Cond.methodLink "EqualCourt" 194 yX5_beginLevel ∈ TW := tm_3 (List.mem_of_getElem? (i := 227) rfl) rfl
theorem tw_708 : Cond.instanceMethod yX5_beginLevel ∈ TW := tm_3 (List.mem_of_getElem? (i := 228) rfl) rfl
theorem tw_709 : Cond.selects "EqualCourt$Sayings" yX5_beginLevel yX5_beginLevel ∈ TW := tm_3 (List.mem_of_getElem? (i := 229) rfl) rfl
theorem tw_710 : Cond.code yX5_beginLevel prog_7_method_13_code 1 (Option.some Jvm.ClassFile.FieldType.int) ∈ TW := tm_3 (List.mem_of_getElem? (i := 230) rfl) rfl
theorem tw_711 : Cond.methodLink "EqualCourt$Sayings" 38 ({ cls := "java/lang/System", name := "arraycopy", desc := "(Ljava/lang/Object;ILjava/lang/Object;II)V" } : Jvm.MethodName) ∈ TW := tm_3 (List.mem_of_getElem? (i := 231) rfl) rfl
theorem tw_712 : Cond.methodLink "EqualCourtLaw" 111 yX8_pop ∈ TW := tm_3 (List.mem_of_getElem? (i := 232) rfl) rfl
theorem tw_713 : Cond.instanceMethod yX8_pop ∈ TW := tm_3 (List.mem_of_getElem? (i := 233) rfl) rfl
theorem tw_714 : Cond.selects "EqualCourt" yX8_pop yX8_pop ∈ TW := tm_3 (List.mem_of_getElem? (i := 234) rfl) rfl
theorem tw_715 : Cond.code yX8_pop prog_1_method_25_code 1 (Option.some Jvm.ClassFile.FieldType.int) ∈ TW := tm_3 (List.mem_of_getElem? (i := 235) rfl) rfl
theorem tw_716 : Cond.methodLink "EqualCourt" 197 yX5_endLevel ∈ TW := tm_3 (List.mem_of_getElem? (i := 236) rfl) rfl
theorem tw_717 : Cond.instanceMethod yX5_endLevel ∈ TW := tm_3 (List.mem_of_getElem? (i := 237) rfl) rfl
theorem tw_718 : Cond.selects "EqualCourt$Sayings" yX5_endLevel yX5_endLevel ∈ TW := tm_3 (List.mem_of_getElem? (i := 238) rfl) rfl
theorem tw_719 : Cond.code yX5_endLevel prog_7_method_14_code 2 (Option.none : Option Jvm.ClassFile.FieldType) ∈ TW := tm_3 (List.mem_of_getElem? (i := 239) rfl) rfl
theorem tw_720 : Cond.methodLink "EqualCourtLaw" 115 yX8_law ∈ TW := tm_4 (List.mem_of_getElem? (i := 0) rfl) rfl
theorem tw_721 : Cond.instanceMethod yX8_law ∈ TW := tm_4 (List.mem_of_getElem? (i := 1) rfl) rfl
theorem tw_722 : Cond.selects "EqualCourt" yX8_law yX8_law ∈ TW := tm_4 (List.mem_of_getElem? (i := 2) rfl) rfl
theorem tw_723 : Cond.code yX8_law prog_1_method_26_code 3 (Option.some Jvm.ClassFile.FieldType.int) ∈ TW := tm_4 (List.mem_of_getElem? (i := 3) rfl) rfl
theorem tw_724 : Cond.methodLink "EqualCourtLaw" 119 yX8_instance ∈ TW := tm_4 (List.mem_of_getElem? (i := 4) rfl) rfl
theorem tw_725 : Cond.instanceMethod yX8_instance ∈ TW := tm_4 (List.mem_of_getElem? (i := 5) rfl) rfl
theorem tw_726 : Cond.selects "EqualCourt" yX8_instance yX8_instance ∈ TW := tm_4 (List.mem_of_getElem? (i := 6) rfl) rfl
theorem tw_727 : Cond.code yX8_instance prog_1_method_27_code 6 (Option.some Jvm.ClassFile.FieldType.int) ∈ TW := tm_4 (List.mem_of_getElem? (i := 7) rfl) rfl
theorem tw_728 : Cond.methodLink "EqualCourt" 200 yX8_madeInstance ∈ TW := tm_4 (List.mem_of_getElem? (i := 8) rfl) rfl
theorem tw_730 : Cond.instanceMethod yX8_madeInstance ∈ TW := tm_4 (List.mem_of_getElem? (i := 10) rfl) rfl
theorem tw_731 : Cond.code yX8_madeInstance prog_1_method_37_code 7 (Option.some Jvm.ClassFile.FieldType.int) ∈ TW := tm_4 (List.mem_of_getElem? (i := 11) rfl) rfl
theorem tw_732 : Cond.methodLink "EqualCourt" 231 yX3_makeInstance ∈ TW := tm_4 (List.mem_of_getElem? (i := 12) rfl) rfl
theorem tw_733 : Cond.instanceMethod yX3_makeInstance ∈ TW := tm_4 (List.mem_of_getElem? (i := 13) rfl) rfl
theorem tw_734 : Cond.selects "EqualCourt$Maker" yX3_makeInstance yX3_makeInstance ∈ TW := tm_4 (List.mem_of_getElem? (i := 14) rfl) rfl
theorem tw_735 : Cond.code yX3_makeInstance prog_5_method_2_code 10 (Option.some Jvm.ClassFile.FieldType.int) ∈ TW := tm_4 (List.mem_of_getElem? (i := 15) rfl) rfl
theorem tw_736 : Cond.methodLink "EqualCourt$Maker" 28 yX7_count ∈ TW := tm_4 (List.mem_of_getElem? (i := 16) rfl) rfl
theorem tw_737 : Cond.constant "EqualCourt$Maker" 38 (1000000 : Int32) ∈ TW := tm_4 (List.mem_of_getElem? (i := 17) rfl) rfl
theorem tw_738 : Cond.methodLink "EqualCourt$Maker" 39 yX3_isKnown ∈ TW := tm_4 (List.mem_of_getElem? (i := 18) rfl) rfl
theorem tw_740 : Cond.instanceMethod yX3_isKnown ∈ TW := tm_4 (List.mem_of_getElem? (i := 20) rfl) rfl
theorem tw_741 : Cond.code yX3_isKnown prog_5_method_3_code 2 (Option.some Jvm.ClassFile.FieldType.boolean) ∈ TW := tm_4 (List.mem_of_getElem? (i := 21) rfl) rfl
theorem tw_742 : Cond.methodLink "EqualCourt$Maker" 57 yX7_holesOf ∈ TW := tm_4 (List.mem_of_getElem? (i := 22) rfl) rfl
theorem tw_743 : Cond.instanceMethod yX7_holesOf ∈ TW := tm_4 (List.mem_of_getElem? (i := 23) rfl) rfl
theorem tw_744 : Cond.selects "EqualCourt$Terms" yX7_holesOf yX7_holesOf ∈ TW := tm_4 (List.mem_of_getElem? (i := 24) rfl) rfl
theorem tw_745 : Cond.code yX7_holesOf prog_9_method_8_code 2 (Option.some Jvm.ClassFile.FieldType.int) ∈ TW := tm_4 (List.mem_of_getElem? (i := 25) rfl) rfl
theorem tw_746 : Cond.methodLink "EqualCourt$Maker" 60 yX7_isHole ∈ TW := tm_4 (List.mem_of_getElem? (i := 26) rfl) rfl
theorem tw_747 : Cond.methodLink "EqualCourt$Maker" 43 yX3_openPart ∈ TW := tm_4 (List.mem_of_getElem? (i := 27) rfl) rfl
theorem tw_749 : Cond.instanceMethod yX3_openPart ∈ TW := tm_4 (List.mem_of_getElem? (i := 29) rfl) rfl
theorem tw_750 : Cond.code yX3_openPart prog_5_method_5_code 3 (Option.some Jvm.ClassFile.FieldType.int) ∈ TW := tm_4 (List.mem_of_getElem? (i := 30) rfl) rfl
theorem tw_751 : Cond.methodLink "EqualCourt$Maker" 66 yX7_sizeOf ∈ TW := tm_4 (List.mem_of_getElem? (i := 31) rfl) rfl
theorem tw_752 : Cond.methodLink "EqualCourt$Maker" 69 yX7_partOf ∈ TW := tm_4 (List.mem_of_getElem? (i := 32) rfl) rfl
theorem tw_753 : Cond.methodLink "EqualCourt$Maker" 47 yX3_makeImage ∈ TW := tm_4 (List.mem_of_getElem? (i := 33) rfl) rfl
theorem tw_755 : Cond.instanceMethod yX3_makeImage ∈ TW := tm_4 (List.mem_of_getElem? (i := 35) rfl) rfl
theorem tw_756 : Cond.code yX3_makeImage prog_5_method_6_code 6 (Option.some Jvm.ClassFile.FieldType.boolean) ∈ TW := tm_4 (List.mem_of_getElem? (i := 36) rfl) rfl
theorem tw_757 : Cond.methodLink "EqualCourt$Maker" 54 yX3_imageOf ∈ TW := tm_4 (List.mem_of_getElem? (i := 37) rfl) rfl
theorem tw_759 : Cond.instanceMethod yX3_imageOf ∈ TW := tm_4 (List.mem_of_getElem? (i := 39) rfl) rfl
theorem tw_760 : Cond.code yX3_imageOf prog_5_method_4_code 2 (Option.some Jvm.ClassFile.FieldType.int) ∈ TW := tm_4 (List.mem_of_getElem? (i := 40) rfl) rfl
theorem tw_761 : Cond.methodLink "EqualCourt$Maker" 63 yX7_shownBy ∈ TW := tm_4 (List.mem_of_getElem? (i := 41) rfl) rfl
theorem tw_762 : Cond.methodLink "EqualCourt$Maker" 73 yX7_kindOf ∈ TW := tm_4 (List.mem_of_getElem? (i := 42) rfl) rfl
theorem tw_763 : Cond.methodLink "EqualCourt$Maker" 76 yX7_findOrMake ∈ TW := tm_4 (List.mem_of_getElem? (i := 43) rfl) rfl
theorem tw_764 : Cond.methodLink "EqualCourt$Maker" 50 yX7_unmakeFrom ∈ TW := tm_4 (List.mem_of_getElem? (i := 44) rfl) rfl
theorem tw_765 : Cond.instanceMethod yX7_unmakeFrom ∈ TW := tm_4 (List.mem_of_getElem? (i := 45) rfl) rfl
theorem tw_766 : Cond.selects "EqualCourt$Terms" yX7_unmakeFrom yX7_unmakeFrom ∈ TW := tm_4 (List.mem_of_getElem? (i := 46) rfl) rfl
theorem tw_767 : Cond.code yX7_unmakeFrom prog_9_method_12_code 5 (Option.none : Option Jvm.ClassFile.FieldType) ∈ TW := tm_4 (List.mem_of_getElem? (i := 47) rfl) rfl
theorem tw_768 : Cond.methodLink "EqualCourtLaw" 124 yX8_follow ∈ TW := tm_4 (List.mem_of_getElem? (i := 48) rfl) rfl
theorem tw_769 : Cond.instanceMethod yX8_follow ∈ TW := tm_4 (List.mem_of_getElem? (i := 49) rfl) rfl
theorem tw_770 : Cond.selects "EqualCourt" yX8_follow yX8_follow ∈ TW := tm_4 (List.mem_of_getElem? (i := 50) rfl) rfl
theorem tw_771 : Cond.code yX8_follow prog_1_method_28_code 13 (Option.some Jvm.ClassFile.FieldType.int) ∈ TW := tm_4 (List.mem_of_getElem? (i := 51) rfl) rfl
theorem tw_772 : Cond.methodLink "EqualCourt" 204 yX8_gatherHeads ∈ TW := tm_4 (List.mem_of_getElem? (i := 52) rfl) rfl
theorem tw_774 : Cond.instanceMethod yX8_gatherHeads ∈ TW := tm_4 (List.mem_of_getElem? (i := 54) rfl) rfl
theorem tw_775 : Cond.code yX8_gatherHeads prog_1_method_39_code 3 (Option.some Jvm.ClassFile.FieldType.int) ∈ TW := tm_4 (List.mem_of_getElem? (i := 55) rfl) rfl
theorem tw_776 : Cond.methodLink "EqualCourt" 237 yX7_isHole ∈ TW := tm_4 (List.mem_of_getElem? (i := 56) rfl) rfl
theorem tw_777 : Cond.methodLink "EqualCourt" 207 yX7_holesOf ∈ TW := tm_4 (List.mem_of_getElem? (i := 57) rfl) rfl
theorem tw_778 : Cond.methodLink "EqualCourt" 210 yX8_applyLaw ∈ TW := tm_4 (List.mem_of_getElem? (i := 58) rfl) rfl
theorem tw_780 : Cond.instanceMethod yX8_applyLaw ∈ TW := tm_4 (List.mem_of_getElem? (i := 60) rfl) rfl
theorem tw_781 : Cond.code yX8_applyLaw prog_1_method_40_code 7 (Option.some Jvm.ClassFile.FieldType.int) ∈ TW := tm_4 (List.mem_of_getElem? (i := 61) rfl) rfl
theorem tw_782 : Cond.methodLink "EqualCourtLaw" 128 yX8_ended ∈ TW := tm_4 (List.mem_of_getElem? (i := 62) rfl) rfl
theorem tw_783 : Cond.instanceMethod yX8_ended ∈ TW := tm_4 (List.mem_of_getElem? (i := 63) rfl) rfl
theorem tw_784 : Cond.selects "EqualCourt" yX8_ended yX8_ended ∈ TW := tm_4 (List.mem_of_getElem? (i := 64) rfl) rfl
theorem tw_785 : Cond.code yX8_ended prog_1_method_29_code 1 (Option.some Jvm.ClassFile.FieldType.int) ∈ TW := tm_4 (List.mem_of_getElem? (i := 65) rfl) rfl
theorem tw_786 : Cond.methodLink "EqualCourtLaw" 132 yX8_claim ∈ TW := tm_4 (List.mem_of_getElem? (i := 66) rfl) rfl
theorem tw_787 : Cond.instanceMethod yX8_claim ∈ TW := tm_4 (List.mem_of_getElem? (i := 67) rfl) rfl
theorem tw_788 : Cond.selects "EqualCourt" yX8_claim yX8_claim ∈ TW := tm_4 (List.mem_of_getElem? (i := 68) rfl) rfl
theorem tw_789 : Cond.code yX8_claim prog_1_method_30_code 6 (Option.some Jvm.ClassFile.FieldType.int) ∈ TW := tm_4 (List.mem_of_getElem? (i := 69) rfl) rfl
theorem tw_790 : Cond.methodLink "EqualCourt" 213 yX6_add ∈ TW := tm_4 (List.mem_of_getElem? (i := 70) rfl) rfl
theorem tw_791 : Cond.instanceMethod yX6_add ∈ TW := tm_4 (List.mem_of_getElem? (i := 71) rfl) rfl
theorem tw_792 : Cond.selects "EqualCourt$Steps" yX6_add yX6_add ∈ TW := tm_4 (List.mem_of_getElem? (i := 72) rfl) rfl
theorem tw_793 : Cond.code yX6_add prog_8_method_3_code 6 (Option.some Jvm.ClassFile.FieldType.int) ∈ TW := tm_4 (List.mem_of_getElem? (i := 73) rfl) rfl
theorem tw_794 : Cond.methodLink "EqualCourtLaw" 136 yX8_unclaim ∈ TW := tm_4 (List.mem_of_getElem? (i := 74) rfl) rfl
theorem tw_795 : Cond.instanceMethod yX8_unclaim ∈ TW := tm_4 (List.mem_of_getElem? (i := 75) rfl) rfl
theorem tw_796 : Cond.selects "EqualCourt" yX8_unclaim yX8_unclaim ∈ TW := tm_4 (List.mem_of_getElem? (i := 76) rfl) rfl
theorem tw_797 : Cond.code yX8_unclaim prog_1_method_31_code 2 (Option.some Jvm.ClassFile.FieldType.int) ∈ TW := tm_4 (List.mem_of_getElem? (i := 77) rfl) rfl
theorem tw_798 : Cond.methodLink "EqualCourt" 215 yX6_forget ∈ TW := tm_4 (List.mem_of_getElem? (i := 78) rfl) rfl
theorem tw_799 : Cond.instanceMethod yX6_forget ∈ TW := tm_4 (List.mem_of_getElem? (i := 79) rfl) rfl
theorem tw_800 : Cond.selects "EqualCourt$Steps" yX6_forget yX6_forget ∈ TW := tm_4 (List.mem_of_getElem? (i := 80) rfl) rfl
theorem tw_801 : Cond.code yX6_forget prog_8_method_4_code 1 (Option.none : Option Jvm.ClassFile.FieldType) ∈ TW := tm_4 (List.mem_of_getElem? (i := 81) rfl) rfl
theorem tw_802 : Cond.methodLink "EqualCourtLaw" 140 yX8_check ∈ TW := tm_4 (List.mem_of_getElem? (i := 82) rfl) rfl
theorem tw_803 : Cond.instanceMethod yX8_check ∈ TW := tm_4 (List.mem_of_getElem? (i := 83) rfl) rfl
theorem tw_804 : Cond.selects "EqualCourt" yX8_check yX8_check ∈ TW := tm_4 (List.mem_of_getElem? (i := 84) rfl) rfl
theorem tw_805 : Cond.code yX8_check prog_1_method_32_code 4 (Option.some Jvm.ClassFile.FieldType.int) ∈ TW := tm_4 (List.mem_of_getElem? (i := 85) rfl) rfl
theorem tw_806 : Cond.methodLink "EqualCourt" 218 yX6_isRight ∈ TW := tm_4 (List.mem_of_getElem? (i := 86) rfl) rfl
theorem tw_807 : Cond.instanceMethod yX6_isRight ∈ TW := tm_4 (List.mem_of_getElem? (i := 87) rfl) rfl
theorem tw_808 : Cond.selects "EqualCourt$Steps" yX6_isRight yX6_isRight ∈ TW := tm_4 (List.mem_of_getElem? (i := 88) rfl) rfl
theorem tw_809 : Cond.code yX6_isRight prog_8_method_6_code 5 (Option.some Jvm.ClassFile.FieldType.boolean) ∈ TW := tm_4 (List.mem_of_getElem? (i := 89) rfl) rfl
theorem tw_810 : Cond.methodLink "EqualCourt$Steps" 39 yX6_isSaid ∈ TW := tm_4 (List.mem_of_getElem? (i := 90) rfl) rfl
theorem tw_812 : Cond.instanceMethod yX6_isSaid ∈ TW := tm_4 (List.mem_of_getElem? (i := 92) rfl) rfl
theorem tw_813 : Cond.code yX6_isSaid prog_8_method_7_code 6 (Option.some Jvm.ClassFile.FieldType.boolean) ∈ TW := tm_4 (List.mem_of_getElem? (i := 93) rfl) rfl
theorem tw_814 : Cond.methodLink "EqualCourt$Steps" 56 yX5_has ∈ TW := tm_4 (List.mem_of_getElem? (i := 94) rfl) rfl
theorem tw_815 : Cond.methodLink "EqualCourt$Steps" 62 yX5_isTaken ∈ TW := tm_4 (List.mem_of_getElem? (i := 95) rfl) rfl
theorem tw_816 : Cond.methodLink "EqualCourt$Steps" 65 yX5_isSame ∈ TW := tm_4 (List.mem_of_getElem? (i := 96) rfl) rfl
theorem tw_817 : Cond.methodLink "EqualCourt$Steps" 68 yX5_left ∈ TW := tm_4 (List.mem_of_getElem? (i := 97) rfl) rfl
theorem tw_818 : Cond.methodLink "EqualCourt$Steps" 72 yX5_right ∈ TW := tm_4 (List.mem_of_getElem? (i := 98) rfl) rfl
theorem tw_819 : Cond.methodLink "EqualCourt$Steps" 43 yX6_says ∈ TW := tm_4 (List.mem_of_getElem? (i := 99) rfl) rfl
theorem tw_820 : Cond.instanceMethod yX6_says ∈ TW := tm_4 (List.mem_of_getElem? (i := 100) rfl) rfl
theorem tw_821 : Cond.selects "EqualCourt$Steps" yX6_says yX6_says ∈ TW := tm_4 (List.mem_of_getElem? (i := 101) rfl) rfl
theorem tw_822 : Cond.code yX6_says prog_8_method_5_code 4 (Option.some Jvm.ClassFile.FieldType.boolean) ∈ TW := tm_4 (List.mem_of_getElem? (i := 102) rfl) rfl
theorem tw_823 : Cond.methodLink "EqualCourt$Steps" 46 yX6_isChained ∈ TW := tm_4 (List.mem_of_getElem? (i := 103) rfl) rfl
theorem tw_825 : Cond.instanceMethod yX6_isChained ∈ TW := tm_4 (List.mem_of_getElem? (i := 105) rfl) rfl
theorem tw_826 : Cond.code yX6_isChained prog_8_method_8_code 4 (Option.some Jvm.ClassFile.FieldType.boolean) ∈ TW := tm_4 (List.mem_of_getElem? (i := 106) rfl) rfl
theorem tw_827 : Cond.methodLink "EqualCourt$Steps" 49 yX6_isByParts ∈ TW := tm_4 (List.mem_of_getElem? (i := 107) rfl) rfl
theorem tw_829 : Cond.instanceMethod yX6_isByParts ∈ TW := tm_4 (List.mem_of_getElem? (i := 109) rfl) rfl
theorem tw_830 : Cond.code yX6_isByParts prog_8_method_9_code 10 (Option.some Jvm.ClassFile.FieldType.boolean) ∈ TW := tm_4 (List.mem_of_getElem? (i := 110) rfl) rfl
theorem tw_831 : Cond.methodLink "EqualCourt$Steps" 75 yX7_kindOf ∈ TW := tm_4 (List.mem_of_getElem? (i := 111) rfl) rfl
theorem tw_832 : Cond.methodLink "EqualCourt$Steps" 80 yX7_sizeOf ∈ TW := tm_4 (List.mem_of_getElem? (i := 112) rfl) rfl
theorem tw_833 : Cond.methodLink "EqualCourt$Steps" 83 yX7_shownBy ∈ TW := tm_4 (List.mem_of_getElem? (i := 113) rfl) rfl
theorem tw_834 : Cond.methodLink "EqualCourt$Steps" 86 yX7_partOf ∈ TW := tm_4 (List.mem_of_getElem? (i := 114) rfl) rfl
theorem tw_835 : Cond.methodLink "EqualCourt$Steps" 90 yX6_isSameBefore ∈ TW := tm_4 (List.mem_of_getElem? (i := 115) rfl) rfl
theorem tw_837 : Cond.instanceMethod yX6_isSameBefore ∈ TW := tm_4 (List.mem_of_getElem? (i := 117) rfl) rfl
theorem tw_838 : Cond.code yX6_isSameBefore prog_8_method_10_code 5 (Option.some Jvm.ClassFile.FieldType.boolean) ∈ TW := tm_4 (List.mem_of_getElem? (i := 118) rfl) rfl
theorem tw_839 : Cond.methodLink "EqualCourt$Steps" 53 yX6_isOfRows ∈ TW := tm_4 (List.mem_of_getElem? (i := 119) rfl) rfl
theorem tw_841 : Cond.instanceMethod yX6_isOfRows ∈ TW := tm_4 (List.mem_of_getElem? (i := 121) rfl) rfl
theorem tw_842 : Cond.code yX6_isOfRows prog_8_method_11_code 4 (Option.some Jvm.ClassFile.FieldType.boolean) ∈ TW := tm_4 (List.mem_of_getElem? (i := 122) rfl) rfl
theorem tw_843 : Cond.methodLink "EqualCourt" 221 yX6_says ∈ TW := tm_4 (List.mem_of_getElem? (i := 123) rfl) rfl
theorem tw_844 : Cond.methodLink "EqualCourtLaw" 144 yX8_status ∈ TW := tm_4 (List.mem_of_getElem? (i := 124) rfl) rfl
theorem tw_845 : Cond.instanceMethod yX8_status ∈ TW := tm_4 (List.mem_of_getElem? (i := 125) rfl) rfl
theorem tw_846 : Cond.selects "EqualCourt" yX8_status yX8_status ∈ TW := tm_4 (List.mem_of_getElem? (i := 126) rfl) rfl
theorem tw_847 : Cond.code yX8_status prog_1_method_33_code 1 (Option.some Jvm.ClassFile.FieldType.int) ∈ TW := tm_4 (List.mem_of_getElem? (i := 127) rfl) rfl
theorem tw_848 : Cond.classLink "EqualCourtLaw" 10 "EqualCourtModel" ∈ TW := tm_4 (List.mem_of_getElem? (i := 128) rfl) rfl
theorem tw_849 : Cond.instantiable "EqualCourtModel" 42 ∈ TW := tm_4 (List.mem_of_getElem? (i := 129) rfl) rfl
theorem tw_850 : Cond.methodLink "EqualCourtLaw" 12 yX9_init ∈ TW := tm_4 (List.mem_of_getElem? (i := 130) rfl) rfl
theorem tw_851 : Cond.instanceMethod yX9_init ∈ TW := tm_4 (List.mem_of_getElem? (i := 131) rfl) rfl
theorem tw_852 : Cond.code yX9_init prog_11_method_1_code 1 (Option.none : Option Jvm.ClassFile.FieldType) ∈ TW := tm_4 (List.mem_of_getElem? (i := 132) rfl) rfl
theorem tw_853 : Cond.methodLink "EqualCourtModel" 1 ({ cls := "java/lang/Object", name := "<init>", desc := "()V" } : Jvm.MethodName) ∈ TW := tm_4 (List.mem_of_getElem? (i := 133) rfl) rfl
theorem tw_854 : Cond.fieldLink "EqualCourtModel" 7 "EqualCourtModel" "kindOf" "[I" ∈ TW := tm_4 (List.mem_of_getElem? (i := 134) rfl) rfl
theorem tw_855 : Cond.fieldLink "EqualCourtModel" 13 "EqualCourtModel" "shown" "[I" ∈ TW := tm_4 (List.mem_of_getElem? (i := 135) rfl) rfl
theorem tw_856 : Cond.fieldLink "EqualCourtModel" 16 "EqualCourtModel" "partMany" "[I" ∈ TW := tm_4 (List.mem_of_getElem? (i := 136) rfl) rfl
theorem tw_857 : Cond.fieldLink "EqualCourtModel" 19 "EqualCourtModel" "partOf" "[I" ∈ TW := tm_4 (List.mem_of_getElem? (i := 137) rfl) rfl
theorem tw_858 : Cond.fieldLink "EqualCourtModel" 108 "EqualCourtModel" "terms" "I" ∈ TW := tm_4 (List.mem_of_getElem? (i := 138) rfl) rfl
theorem tw_859 : Cond.fieldLink "EqualCourtModel" 22 "EqualCourtModel" "sayA" "[I" ∈ TW := tm_4 (List.mem_of_getElem? (i := 139) rfl) rfl
theorem tw_860 : Cond.fieldLink "EqualCourtModel" 25 "EqualCourtModel" "sayB" "[I" ∈ TW := tm_4 (List.mem_of_getElem? (i := 140) rfl) rfl
theorem tw_861 : Cond.fieldLink "EqualCourtModel" 28 "EqualCourtModel" "isSame" "[Z" ∈ TW := tm_4 (List.mem_of_getElem? (i := 141) rfl) rfl
theorem tw_862 : Cond.fieldLink "EqualCourtModel" 32 "EqualCourtModel" "isTaken" "[Z" ∈ TW := tm_4 (List.mem_of_getElem? (i := 142) rfl) rfl
theorem tw_863 : Cond.fieldLink "EqualCourtModel" 155 "EqualCourtModel" "sayings" "I" ∈ TW := tm_4 (List.mem_of_getElem? (i := 143) rfl) rfl
theorem tw_864 : Cond.fieldLink "EqualCourtModel" 35 "EqualCourtModel" "remembered" "[Z" ∈ TW := tm_4 (List.mem_of_getElem? (i := 144) rfl) rfl
theorem tw_865 : Cond.fieldLink "EqualCourtModel" 179 "EqualCourtModel" "levels" "I" ∈ TW := tm_4 (List.mem_of_getElem? (i := 145) rfl) rfl
theorem tw_866 : Cond.fieldLink "EqualCourtModel" 38 "EqualCourtModel" "lawA" "[I" ∈ TW := tm_4 (List.mem_of_getElem? (i := 146) rfl) rfl
theorem tw_867 : Cond.fieldLink "EqualCourtModel" 41 "EqualCourtModel" "lawB" "[I" ∈ TW := tm_4 (List.mem_of_getElem? (i := 147) rfl) rfl
theorem tw_868 : Cond.fieldLink "EqualCourtModel" 173 "EqualCourtModel" "laws" "I" ∈ TW := tm_4 (List.mem_of_getElem? (i := 148) rfl) rfl
theorem tw_869 : Cond.fieldLink "EqualCourtModel" 44 "EqualCourtModel" "reasonOf" "[I" ∈ TW := tm_4 (List.mem_of_getElem? (i := 149) rfl) rfl
theorem tw_870 : Cond.fieldLink "EqualCourtModel" 47 "EqualCourtModel" "stepA" "[I" ∈ TW := tm_4 (List.mem_of_getElem? (i := 150) rfl) rfl
theorem tw_871 : Cond.fieldLink "EqualCourtModel" 50 "EqualCourtModel" "stepB" "[I" ∈ TW := tm_4 (List.mem_of_getElem? (i := 151) rfl) rfl
theorem tw_872 : Cond.fieldLink "EqualCourtModel" 53 "EqualCourtModel" "stepI" "[I" ∈ TW := tm_4 (List.mem_of_getElem? (i := 152) rfl) rfl
theorem tw_873 : Cond.fieldLink "EqualCourtModel" 56 "EqualCourtModel" "stepJ" "[I" ∈ TW := tm_4 (List.mem_of_getElem? (i := 153) rfl) rfl
theorem tw_874 : Cond.fieldLink "EqualCourtModel" 176 "EqualCourtModel" "steps" "I" ∈ TW := tm_4 (List.mem_of_getElem? (i := 154) rfl) rfl
theorem tw_875 : Cond.fieldLink "EqualCourtModel" 59 "EqualCourtModel" "clashRow" "[I" ∈ TW := tm_4 (List.mem_of_getElem? (i := 155) rfl) rfl
theorem tw_876 : Cond.fieldLink "EqualCourtModel" 193 "EqualCourtModel" "clashMany" "I" ∈ TW := tm_4 (List.mem_of_getElem? (i := 156) rfl) rfl
theorem tw_877 : Cond.fieldLink "EqualCourtModel" 62 "EqualCourtModel" "whyRow" "[I" ∈ TW := tm_4 (List.mem_of_getElem? (i := 157) rfl) rfl
theorem tw_878 : Cond.fieldLink "EqualCourtModel" 214 "EqualCourtModel" "whyMany" "I" ∈ TW := tm_4 (List.mem_of_getElem? (i := 158) rfl) rfl
theorem tw_879 : Cond.fieldLink "EqualCourtModel" 65 "EqualCourtModel" "endedBy" "I" ∈ TW := tm_4 (List.mem_of_getElem? (i := 159) rfl) rfl
theorem tw_880 : Cond.fieldLink "EqualCourtModel" 105 "EqualCourtModel" "finding" "I" ∈ TW := tm_4 (List.mem_of_getElem? (i := 160) rfl) rfl
theorem tw_881 : Cond.fieldLink "EqualCourtModel" 69 "EqualCourtModel" "asked" "[I" ∈ TW := tm_4 (List.mem_of_getElem? (i := 161) rfl) rfl
theorem tw_882 : Cond.fieldLink "EqualCourtModel" 72 "EqualCourtModel" "one" "[I" ∈ TW := tm_4 (List.mem_of_getElem? (i := 162) rfl) rfl
theorem tw_883 : Cond.fieldLink "EqualCourtModel" 75 "EqualCourtModel" "isIn" "[Z" ∈ TW := tm_4 (List.mem_of_getElem? (i := 163) rfl) rfl
theorem tw_884 : Cond.fieldLink "EqualCourtModel" 115 "EqualCourtModel" "isFresh" "Z" ∈ TW := tm_4 (List.mem_of_getElem? (i := 164) rfl) rfl
theorem tw_885 : Cond.fieldLink "EqualCourtModel" 78 "EqualCourtModel" "court" "[I" ∈ TW := tm_4 (List.mem_of_getElem? (i := 165) rfl) rfl
theorem tw_886 : Cond.fieldLink "EqualCourtModel" 81 "EqualCourtModel" "chosen" "[I" ∈ TW := tm_4 (List.mem_of_getElem? (i := 166) rfl) rfl
theorem tw_887 : Cond.fieldLink "EqualCourtModel" 84 "EqualCourtModel" "hole" "[I" ∈ TW := tm_4 (List.mem_of_getElem? (i := 167) rfl) rfl
theorem tw_888 : Cond.fieldLink "EqualCourtModel" 87 "EqualCourtModel" "becomes" "[I" ∈ TW := tm_4 (List.mem_of_getElem? (i := 168) rfl) rfl
theorem tw_889 : Cond.fieldLink "EqualCourtModel" 90 "EqualCourtModel" "pile" "[I" ∈ TW := tm_4 (List.mem_of_getElem? (i := 169) rfl) rfl
theorem tw_890 : Cond.fieldLink "EqualCourtModel" 93 "EqualCourtModel" "nextPart" "[I" ∈ TW := tm_4 (List.mem_of_getElem? (i := 170) rfl) rfl
theorem tw_891 : Cond.fieldLink "EqualCourtModel" 96 "EqualCourtModel" "stands" "[Z" ∈ TW := tm_4 (List.mem_of_getElem? (i := 171) rfl) rfl
theorem tw_892 : Cond.fieldLink "EqualCourtModel" 99 "EqualCourtModel" "isSeen" "[Z" ∈ TW := tm_4 (List.mem_of_getElem? (i := 172) rfl) rfl
theorem tw_893 : Cond.fieldLink "EqualCourtModel" 102 "EqualCourtModel" "heads" "[I" ∈ TW := tm_4 (List.mem_of_getElem? (i := 173) rfl) rfl
theorem tw_894 : Cond.fieldLink "EqualCourtModel" 244 "EqualCourtModel" "headMany" "I" ∈ TW := tm_4 (List.mem_of_getElem? (i := 174) rfl) rfl
theorem tw_895 : Cond.fieldLink "EqualCourtModel" 247 "EqualCourtModel" "came" "I" ∈ TW := tm_4 (List.mem_of_getElem? (i := 175) rfl) rfl
theorem tw_981 : Cond.methodLink "EqualCourtLaw" 17 yX9_name ∈ TW := tm_5 (List.mem_of_getElem? (i := 21) rfl) rfl
theorem tw_982 : Cond.instanceMethod yX9_name ∈ TW := tm_5 (List.mem_of_getElem? (i := 22) rfl) rfl
theorem tw_983 : Cond.selects "EqualCourtModel" yX9_name yX9_name ∈ TW := tm_5 (List.mem_of_getElem? (i := 23) rfl) rfl
theorem tw_984 : Cond.code yX9_name prog_11_method_8_code 2 (Option.some Jvm.ClassFile.FieldType.int) ∈ TW := tm_5 (List.mem_of_getElem? (i := 24) rfl) rfl
theorem tw_985 : Cond.methodLink "EqualCourtModel" 119 yX9_refuse ∈ TW := tm_5 (List.mem_of_getElem? (i := 25) rfl) rfl
theorem tw_987 : Cond.instanceMethod yX9_refuse ∈ TW := tm_5 (List.mem_of_getElem? (i := 27) rfl) rfl
theorem tw_988 : Cond.code yX9_refuse prog_11_method_2_code 2 (Option.some Jvm.ClassFile.FieldType.int) ∈ TW := tm_5 (List.mem_of_getElem? (i := 28) rfl) rfl
theorem tw_989 : Cond.methodLink "EqualCourtModel" 126 yX9_made ∈ TW := tm_5 (List.mem_of_getElem? (i := 29) rfl) rfl
theorem tw_991 : Cond.instanceMethod yX9_made ∈ TW := tm_5 (List.mem_of_getElem? (i := 31) rfl) rfl
theorem tw_992 : Cond.code yX9_made prog_11_method_6_code 6 (Option.some Jvm.ClassFile.FieldType.int) ∈ TW := tm_5 (List.mem_of_getElem? (i := 32) rfl) rfl
theorem tw_993 : Cond.methodLink "EqualCourtModel" 111 yX9_findTerm ∈ TW := tm_5 (List.mem_of_getElem? (i := 33) rfl) rfl
theorem tw_995 : Cond.instanceMethod yX9_findTerm ∈ TW := tm_5 (List.mem_of_getElem? (i := 35) rfl) rfl
theorem tw_996 : Cond.code yX9_findTerm prog_11_method_5_code 8 (Option.some Jvm.ClassFile.FieldType.int) ∈ TW := tm_5 (List.mem_of_getElem? (i := 36) rfl) rfl
theorem tw_997 : Cond.methodLink "EqualCourtModel" 129 yX9_answer ∈ TW := tm_5 (List.mem_of_getElem? (i := 37) rfl) rfl
theorem tw_999 : Cond.instanceMethod yX9_answer ∈ TW := tm_5 (List.mem_of_getElem? (i := 39) rfl) rfl
theorem tw_1000 : Cond.code yX9_answer prog_11_method_7_code 2 (Option.some Jvm.ClassFile.FieldType.int) ∈ TW := tm_5 (List.mem_of_getElem? (i := 40) rfl) rfl
theorem tw_1001 : Cond.methodLink "EqualCourtModel" 123 yX9_done ∈ TW := tm_5 (List.mem_of_getElem? (i := 41) rfl) rfl
theorem tw_1003 : Cond.instanceMethod yX9_done ∈ TW := tm_5 (List.mem_of_getElem? (i := 43) rfl) rfl
theorem tw_1004 : Cond.code yX9_done prog_11_method_3_code 2 (Option.some Jvm.ClassFile.FieldType.int) ∈ TW := tm_5 (List.mem_of_getElem? (i := 44) rfl) rfl
theorem tw_1005 : Cond.methodLink "EqualCourtLaw" 21 yX9_number ∈ TW := tm_5 (List.mem_of_getElem? (i := 45) rfl) rfl
theorem tw_1006 : Cond.instanceMethod yX9_number ∈ TW := tm_5 (List.mem_of_getElem? (i := 46) rfl) rfl
theorem tw_1007 : Cond.selects "EqualCourtModel" yX9_number yX9_number ∈ TW := tm_5 (List.mem_of_getElem? (i := 47) rfl) rfl
theorem tw_1008 : Cond.code yX9_number prog_11_method_9_code 2 (Option.some Jvm.ClassFile.FieldType.int) ∈ TW := tm_5 (List.mem_of_getElem? (i := 48) rfl) rfl
theorem tw_1009 : Cond.methodLink "EqualCourtLaw" 26 yX9_built ∈ TW := tm_5 (List.mem_of_getElem? (i := 49) rfl) rfl
theorem tw_1010 : Cond.instanceMethod yX9_built ∈ TW := tm_5 (List.mem_of_getElem? (i := 50) rfl) rfl
theorem tw_1011 : Cond.selects "EqualCourtModel" yX9_built yX9_built ∈ TW := tm_5 (List.mem_of_getElem? (i := 51) rfl) rfl
theorem tw_1012 : Cond.code yX9_built prog_11_method_10_code 6 (Option.some Jvm.ClassFile.FieldType.int) ∈ TW := tm_5 (List.mem_of_getElem? (i := 52) rfl) rfl
theorem tw_1013 : Cond.methodLink "EqualCourtModel" 132 yX9_isTerm ∈ TW := tm_5 (List.mem_of_getElem? (i := 53) rfl) rfl
theorem tw_1015 : Cond.instanceMethod yX9_isTerm ∈ TW := tm_5 (List.mem_of_getElem? (i := 55) rfl) rfl
theorem tw_1016 : Cond.code yX9_isTerm prog_11_method_4_code 2 (Option.some Jvm.ClassFile.FieldType.boolean) ∈ TW := tm_5 (List.mem_of_getElem? (i := 56) rfl) rfl
theorem tw_1017 : Cond.methodLink "EqualCourtLaw" 31 yX9_row ∈ TW := tm_5 (List.mem_of_getElem? (i := 57) rfl) rfl
theorem tw_1018 : Cond.instanceMethod yX9_row ∈ TW := tm_5 (List.mem_of_getElem? (i := 58) rfl) rfl
theorem tw_1019 : Cond.selects "EqualCourtModel" yX9_row yX9_row ∈ TW := tm_5 (List.mem_of_getElem? (i := 59) rfl) rfl
theorem tw_1020 : Cond.code yX9_row prog_11_method_11_code 3 (Option.some Jvm.ClassFile.FieldType.int) ∈ TW := tm_5 (List.mem_of_getElem? (i := 60) rfl) rfl
theorem tw_1021 : Cond.methodLink "EqualCourtLaw" 36 yX9_even ∈ TW := tm_5 (List.mem_of_getElem? (i := 61) rfl) rfl
theorem tw_1022 : Cond.instanceMethod yX9_even ∈ TW := tm_5 (List.mem_of_getElem? (i := 62) rfl) rfl
theorem tw_1023 : Cond.selects "EqualCourtModel" yX9_even yX9_even ∈ TW := tm_5 (List.mem_of_getElem? (i := 63) rfl) rfl
theorem tw_1024 : Cond.code yX9_even prog_11_method_12_code 4 (Option.some Jvm.ClassFile.FieldType.int) ∈ TW := tm_5 (List.mem_of_getElem? (i := 64) rfl) rfl
theorem tw_1025 : Cond.methodLink "EqualCourtLaw" 40 yX9_kind ∈ TW := tm_5 (List.mem_of_getElem? (i := 65) rfl) rfl
theorem tw_1026 : Cond.instanceMethod yX9_kind ∈ TW := tm_5 (List.mem_of_getElem? (i := 66) rfl) rfl
theorem tw_1027 : Cond.selects "EqualCourtModel" yX9_kind yX9_kind ∈ TW := tm_5 (List.mem_of_getElem? (i := 67) rfl) rfl
theorem tw_1028 : Cond.code yX9_kind prog_11_method_13_code 2 (Option.some Jvm.ClassFile.FieldType.int) ∈ TW := tm_5 (List.mem_of_getElem? (i := 68) rfl) rfl
theorem tw_1029 : Cond.methodLink "EqualCourtLaw" 44 yX9_part ∈ TW := tm_5 (List.mem_of_getElem? (i := 69) rfl) rfl
theorem tw_1030 : Cond.instanceMethod yX9_part ∈ TW := tm_5 (List.mem_of_getElem? (i := 70) rfl) rfl
theorem tw_1031 : Cond.selects "EqualCourtModel" yX9_part yX9_part ∈ TW := tm_5 (List.mem_of_getElem? (i := 71) rfl) rfl
theorem tw_1032 : Cond.code yX9_part prog_11_method_14_code 3 (Option.some Jvm.ClassFile.FieldType.int) ∈ TW := tm_5 (List.mem_of_getElem? (i := 72) rfl) rfl
theorem tw_1033 : Cond.methodLink "EqualCourtLaw" 48 yX9_shows ∈ TW := tm_5 (List.mem_of_getElem? (i := 73) rfl) rfl
theorem tw_1034 : Cond.instanceMethod yX9_shows ∈ TW := tm_5 (List.mem_of_getElem? (i := 74) rfl) rfl
theorem tw_1035 : Cond.selects "EqualCourtModel" yX9_shows yX9_shows ∈ TW := tm_5 (List.mem_of_getElem? (i := 75) rfl) rfl
theorem tw_1036 : Cond.code yX9_shows prog_11_method_15_code 2 (Option.some Jvm.ClassFile.FieldType.int) ∈ TW := tm_5 (List.mem_of_getElem? (i := 76) rfl) rfl
theorem tw_1037 : Cond.methodLink "EqualCourtLaw" 52 yX9_many ∈ TW := tm_5 (List.mem_of_getElem? (i := 77) rfl) rfl
theorem tw_1038 : Cond.instanceMethod yX9_many ∈ TW := tm_5 (List.mem_of_getElem? (i := 78) rfl) rfl
theorem tw_1039 : Cond.selects "EqualCourtModel" yX9_many yX9_many ∈ TW := tm_5 (List.mem_of_getElem? (i := 79) rfl) rfl
theorem tw_1040 : Cond.code yX9_many prog_11_method_30_code 2 (Option.some Jvm.ClassFile.FieldType.int) ∈ TW := tm_5 (List.mem_of_getElem? (i := 80) rfl) rfl
theorem tw_1041 : Cond.methodLink "EqualCourtModel" 169 yX9_taken ∈ TW := tm_5 (List.mem_of_getElem? (i := 81) rfl) rfl
theorem tw_1043 : Cond.instanceMethod yX9_taken ∈ TW := tm_5 (List.mem_of_getElem? (i := 83) rfl) rfl
theorem tw_1044 : Cond.code yX9_taken prog_11_method_28_code 3 (Option.some Jvm.ClassFile.FieldType.int) ∈ TW := tm_5 (List.mem_of_getElem? (i := 84) rfl) rfl
theorem tw_1045 : Cond.methodLink "EqualCourtModel" 182 yX9_classes ∈ TW := tm_5 (List.mem_of_getElem? (i := 85) rfl) rfl
theorem tw_1047 : Cond.instanceMethod yX9_classes ∈ TW := tm_5 (List.mem_of_getElem? (i := 87) rfl) rfl
theorem tw_1048 : Cond.code yX9_classes prog_11_method_29_code 3 (Option.some Jvm.ClassFile.FieldType.int) ∈ TW := tm_5 (List.mem_of_getElem? (i := 88) rfl) rfl
theorem tw_1049 : Cond.methodLink "EqualCourtModel" 161 yX9_court ∈ TW := tm_5 (List.mem_of_getElem? (i := 89) rfl) rfl
theorem tw_1051 : Cond.instanceMethod yX9_court ∈ TW := tm_5 (List.mem_of_getElem? (i := 91) rfl) rfl
theorem tw_1052 : Cond.code yX9_court prog_11_method_23_code 1 (Option.none : Option Jvm.ClassFile.FieldType) ∈ TW := tm_5 (List.mem_of_getElem? (i := 92) rfl) rfl
theorem tw_1053 : Cond.methodLink "EqualCourtModel" 158 yX9_takeCourt ∈ TW := tm_5 (List.mem_of_getElem? (i := 93) rfl) rfl
theorem tw_1055 : Cond.instanceMethod yX9_takeCourt ∈ TW := tm_5 (List.mem_of_getElem? (i := 95) rfl) rfl
theorem tw_1056 : Cond.code yX9_takeCourt prog_11_method_22_code 2 (Option.none : Option Jvm.ClassFile.FieldType) ∈ TW := tm_5 (List.mem_of_getElem? (i := 96) rfl) rfl
theorem tw_1057 : Cond.methodLink "EqualCourtModel" 152 yX9_findOnes ∈ TW := tm_5 (List.mem_of_getElem? (i := 97) rfl) rfl
theorem tw_1059 : Cond.instanceMethod yX9_findOnes ∈ TW := tm_5 (List.mem_of_getElem? (i := 99) rfl) rfl
theorem tw_1060 : Cond.code yX9_findOnes prog_11_method_20_code 3 (Option.none : Option Jvm.ClassFile.FieldType) ∈ TW := tm_5 (List.mem_of_getElem? (i := 100) rfl) rfl
theorem tw_1061 : Cond.methodLink "EqualCourtModel" 144 yX9_merge ∈ TW := tm_5 (List.mem_of_getElem? (i := 101) rfl) rfl
theorem tw_1063 : Cond.instanceMethod yX9_merge ∈ TW := tm_5 (List.mem_of_getElem? (i := 103) rfl) rfl
theorem tw_1064 : Cond.code yX9_merge prog_11_method_16_code 6 (Option.none : Option Jvm.ClassFile.FieldType) ∈ TW := tm_5 (List.mem_of_getElem? (i := 104) rfl) rfl
theorem tw_1065 : Cond.methodLink "EqualCourtModel" 148 yX9_looks ∈ TW := tm_5 (List.mem_of_getElem? (i := 105) rfl) rfl
theorem tw_1067 : Cond.instanceMethod yX9_looks ∈ TW := tm_5 (List.mem_of_getElem? (i := 107) rfl) rfl
theorem tw_1068 : Cond.code yX9_looks prog_11_method_19_code 5 (Option.some Jvm.ClassFile.FieldType.boolean) ∈ TW := tm_5 (List.mem_of_getElem? (i := 108) rfl) rfl
theorem tw_1069 : Cond.methodLink "EqualCourtModel" 140 yX9_isByParts ∈ TW := tm_5 (List.mem_of_getElem? (i := 109) rfl) rfl
theorem tw_1071 : Cond.instanceMethod yX9_isByParts ∈ TW := tm_5 (List.mem_of_getElem? (i := 111) rfl) rfl
theorem tw_1072 : Cond.code yX9_isByParts prog_11_method_18_code 5 (Option.some Jvm.ClassFile.FieldType.boolean) ∈ TW := tm_5 (List.mem_of_getElem? (i := 112) rfl) rfl
theorem tw_1073 : Cond.methodLink "EqualCourtModel" 136 yX9_isPart ∈ TW := tm_5 (List.mem_of_getElem? (i := 113) rfl) rfl
theorem tw_1075 : Cond.instanceMethod yX9_isPart ∈ TW := tm_5 (List.mem_of_getElem? (i := 115) rfl) rfl
theorem tw_1076 : Cond.code yX9_isPart prog_11_method_17_code 5 (Option.some Jvm.ClassFile.FieldType.boolean) ∈ TW := tm_5 (List.mem_of_getElem? (i := 116) rfl) rfl
theorem tw_1077 : Cond.methodLink "EqualCourtLaw" 56 yX9_say ∈ TW := tm_5 (List.mem_of_getElem? (i := 117) rfl) rfl
theorem tw_1078 : Cond.instanceMethod yX9_say ∈ TW := tm_5 (List.mem_of_getElem? (i := 118) rfl) rfl
theorem tw_1079 : Cond.selects "EqualCourtModel" yX9_say yX9_say ∈ TW := tm_5 (List.mem_of_getElem? (i := 119) rfl) rfl
theorem tw_1080 : Cond.code yX9_say prog_11_method_34_code 3 (Option.some Jvm.ClassFile.FieldType.int) ∈ TW := tm_5 (List.mem_of_getElem? (i := 120) rfl) rfl
theorem tw_1081 : Cond.methodLink "EqualCourtModel" 204 yX9_saidNow ∈ TW := tm_5 (List.mem_of_getElem? (i := 121) rfl) rfl
theorem tw_1083 : Cond.instanceMethod yX9_saidNow ∈ TW := tm_5 (List.mem_of_getElem? (i := 123) rfl) rfl
theorem tw_1084 : Cond.code yX9_saidNow prog_11_method_33_code 4 (Option.some Jvm.ClassFile.FieldType.int) ∈ TW := tm_5 (List.mem_of_getElem? (i := 124) rfl) rfl
theorem tw_1085 : Cond.methodLink "EqualCourtModel" 196 yX9_wouldClash ∈ TW := tm_5 (List.mem_of_getElem? (i := 125) rfl) rfl
theorem tw_1087 : Cond.instanceMethod yX9_wouldClash ∈ TW := tm_5 (List.mem_of_getElem? (i := 127) rfl) rfl
theorem tw_1088 : Cond.code yX9_wouldClash prog_11_method_31_code 4 (Option.some Jvm.ClassFile.FieldType.boolean) ∈ TW := tm_5 (List.mem_of_getElem? (i := 128) rfl) rfl
theorem tw_1089 : Cond.methodLink "EqualCourtModel" 185 yX9_add ∈ TW := tm_5 (List.mem_of_getElem? (i := 129) rfl) rfl
theorem tw_1091 : Cond.instanceMethod yX9_add ∈ TW := tm_5 (List.mem_of_getElem? (i := 131) rfl) rfl
theorem tw_1092 : Cond.code yX9_add prog_11_method_25_code 4 (Option.none : Option Jvm.ClassFile.FieldType) ∈ TW := tm_5 (List.mem_of_getElem? (i := 132) rfl) rfl
theorem tw_1093 : Cond.methodLink "EqualCourtModel" 163 yX9_clashes ∈ TW := tm_5 (List.mem_of_getElem? (i := 133) rfl) rfl
theorem tw_1095 : Cond.instanceMethod yX9_clashes ∈ TW := tm_5 (List.mem_of_getElem? (i := 135) rfl) rfl
theorem tw_1096 : Cond.code yX9_clashes prog_11_method_21_code 4 (Option.some Jvm.ClassFile.FieldType.boolean) ∈ TW := tm_5 (List.mem_of_getElem? (i := 136) rfl) rfl
theorem tw_1097 : Cond.methodLink "EqualCourtModel" 189 yX9_thin ∈ TW := tm_5 (List.mem_of_getElem? (i := 137) rfl) rfl
theorem tw_1099 : Cond.instanceMethod yX9_thin ∈ TW := tm_5 (List.mem_of_getElem? (i := 139) rfl) rfl
theorem tw_1100 : Cond.code yX9_thin prog_11_method_27_code 6 (Option.some Jvm.ClassFile.FieldType.int) ∈ TW := tm_5 (List.mem_of_getElem? (i := 140) rfl) rfl
theorem tw_1101 : Cond.methodLink "EqualCourtModel" 166 yX9_does ∈ TW := tm_5 (List.mem_of_getElem? (i := 141) rfl) rfl
theorem tw_1103 : Cond.instanceMethod yX9_does ∈ TW := tm_5 (List.mem_of_getElem? (i := 143) rfl) rfl
theorem tw_1104 : Cond.code yX9_does prog_11_method_26_code 3 (Option.some Jvm.ClassFile.FieldType.boolean) ∈ TW := tm_5 (List.mem_of_getElem? (i := 144) rfl) rfl
theorem tw_1105 : Cond.methodLink "EqualCourtModel" 200 yX9_take ∈ TW := tm_5 (List.mem_of_getElem? (i := 145) rfl) rfl
theorem tw_1107 : Cond.instanceMethod yX9_take ∈ TW := tm_5 (List.mem_of_getElem? (i := 147) rfl) rfl
theorem tw_1108 : Cond.code yX9_take prog_11_method_32_code 4 (Option.some Jvm.ClassFile.FieldType.int) ∈ TW := tm_5 (List.mem_of_getElem? (i := 148) rfl) rfl
theorem tw_1109 : Cond.methodLink "EqualCourtLaw" 60 yX9_unlike ∈ TW := tm_5 (List.mem_of_getElem? (i := 149) rfl) rfl
theorem tw_1110 : Cond.instanceMethod yX9_unlike ∈ TW := tm_5 (List.mem_of_getElem? (i := 150) rfl) rfl
theorem tw_1111 : Cond.selects "EqualCourtModel" yX9_unlike yX9_unlike ∈ TW := tm_5 (List.mem_of_getElem? (i := 151) rfl) rfl
theorem tw_1112 : Cond.code yX9_unlike prog_11_method_35_code 3 (Option.some Jvm.ClassFile.FieldType.int) ∈ TW := tm_5 (List.mem_of_getElem? (i := 152) rfl) rfl
theorem tw_1113 : Cond.methodLink "EqualCourtLaw" 64 yX9_drop ∈ TW := tm_5 (List.mem_of_getElem? (i := 153) rfl) rfl
theorem tw_1114 : Cond.instanceMethod yX9_drop ∈ TW := tm_5 (List.mem_of_getElem? (i := 154) rfl) rfl
theorem tw_1115 : Cond.selects "EqualCourtModel" yX9_drop yX9_drop ∈ TW := tm_5 (List.mem_of_getElem? (i := 155) rfl) rfl
theorem tw_1116 : Cond.code yX9_drop prog_11_method_36_code 2 (Option.some Jvm.ClassFile.FieldType.int) ∈ TW := tm_5 (List.mem_of_getElem? (i := 156) rfl) rfl
theorem tw_1117 : Cond.methodLink "EqualCourtLaw" 68 yX9_said ∈ TW := tm_5 (List.mem_of_getElem? (i := 157) rfl) rfl
theorem tw_1118 : Cond.instanceMethod yX9_said ∈ TW := tm_5 (List.mem_of_getElem? (i := 158) rfl) rfl
theorem tw_1119 : Cond.selects "EqualCourtModel" yX9_said yX9_said ∈ TW := tm_5 (List.mem_of_getElem? (i := 159) rfl) rfl
theorem tw_1120 : Cond.code yX9_said prog_11_method_37_code 3 (Option.some Jvm.ClassFile.FieldType.int) ∈ TW := tm_5 (List.mem_of_getElem? (i := 160) rfl) rfl
theorem tw_1121 : Cond.methodLink "EqualCourtLaw" 72 yX9_clashed ∈ TW := tm_5 (List.mem_of_getElem? (i := 161) rfl) rfl
theorem tw_1122 : Cond.instanceMethod yX9_clashed ∈ TW := tm_5 (List.mem_of_getElem? (i := 162) rfl) rfl
theorem tw_1123 : Cond.selects "EqualCourtModel" yX9_clashed yX9_clashed ∈ TW := tm_5 (List.mem_of_getElem? (i := 163) rfl) rfl
theorem tw_1124 : Cond.code yX9_clashed prog_11_method_38_code 2 (Option.some Jvm.ClassFile.FieldType.int) ∈ TW := tm_5 (List.mem_of_getElem? (i := 164) rfl) rfl
theorem tw_1125 : Cond.methodLink "EqualCourtLaw" 76 yX9_judge ∈ TW := tm_5 (List.mem_of_getElem? (i := 165) rfl) rfl
theorem tw_1126 : Cond.instanceMethod yX9_judge ∈ TW := tm_5 (List.mem_of_getElem? (i := 166) rfl) rfl
theorem tw_1127 : Cond.selects "EqualCourtModel" yX9_judge yX9_judge ∈ TW := tm_5 (List.mem_of_getElem? (i := 167) rfl) rfl
theorem tw_1128 : Cond.code yX9_judge prog_11_method_39_code 3 (Option.some Jvm.ClassFile.FieldType.int) ∈ TW := tm_5 (List.mem_of_getElem? (i := 168) rfl) rfl
theorem tw_1129 : Cond.methodLink "EqualCourtModel" 207 yX9_areOne ∈ TW := tm_5 (List.mem_of_getElem? (i := 169) rfl) rfl
theorem tw_1131 : Cond.instanceMethod yX9_areOne ∈ TW := tm_5 (List.mem_of_getElem? (i := 171) rfl) rfl
theorem tw_1132 : Cond.code yX9_areOne prog_11_method_24_code 3 (Option.some Jvm.ClassFile.FieldType.boolean) ∈ TW := tm_5 (List.mem_of_getElem? (i := 172) rfl) rfl
theorem tw_1133 : Cond.methodLink "EqualCourtLaw" 80 yX9_why ∈ TW := tm_5 (List.mem_of_getElem? (i := 173) rfl) rfl
theorem tw_1134 : Cond.instanceMethod yX9_why ∈ TW := tm_5 (List.mem_of_getElem? (i := 174) rfl) rfl
theorem tw_1135 : Cond.selects "EqualCourtModel" yX9_why yX9_why ∈ TW := tm_5 (List.mem_of_getElem? (i := 175) rfl) rfl
theorem tw_1136 : Cond.code yX9_why prog_11_method_40_code 4 (Option.some Jvm.ClassFile.FieldType.int) ∈ TW := tm_5 (List.mem_of_getElem? (i := 176) rfl) rfl
theorem tw_1137 : Cond.methodLink "EqualCourtModel" 210 yX9_judge ∈ TW := tm_5 (List.mem_of_getElem? (i := 177) rfl) rfl
theorem tw_1138 : Cond.methodLink "EqualCourtLaw" 84 yX9_least ∈ TW := tm_5 (List.mem_of_getElem? (i := 178) rfl) rfl
theorem tw_1139 : Cond.instanceMethod yX9_least ∈ TW := tm_5 (List.mem_of_getElem? (i := 179) rfl) rfl
theorem tw_1140 : Cond.selects "EqualCourtModel" yX9_least yX9_least ∈ TW := tm_5 (List.mem_of_getElem? (i := 180) rfl) rfl
theorem tw_1141 : Cond.code yX9_least prog_11_method_43_code 9 (Option.some Jvm.ClassFile.FieldType.int) ∈ TW := tm_5 (List.mem_of_getElem? (i := 181) rfl) rfl
theorem tw_1142 : Cond.methodLink "EqualCourtModel" 217 yX9_isEnough ∈ TW := tm_5 (List.mem_of_getElem? (i := 182) rfl) rfl
theorem tw_1144 : Cond.instanceMethod yX9_isEnough ∈ TW := tm_5 (List.mem_of_getElem? (i := 184) rfl) rfl
theorem tw_1145 : Cond.code yX9_isEnough prog_11_method_42_code 5 (Option.some Jvm.ClassFile.FieldType.boolean) ∈ TW := tm_5 (List.mem_of_getElem? (i := 185) rfl) rfl
theorem tw_1146 : Cond.methodLink "EqualCourtModel" 221 yX9_nextSet ∈ TW := tm_5 (List.mem_of_getElem? (i := 186) rfl) rfl
theorem tw_1148 : Cond.instanceMethod yX9_nextSet ∈ TW := tm_5 (List.mem_of_getElem? (i := 188) rfl) rfl
theorem tw_1149 : Cond.code yX9_nextSet prog_11_method_41_code 5 (Option.some Jvm.ClassFile.FieldType.boolean) ∈ TW := tm_5 (List.mem_of_getElem? (i := 189) rfl) rfl
theorem tw_1150 : Cond.methodLink "EqualCourtLaw" 88 yX9_because ∈ TW := tm_5 (List.mem_of_getElem? (i := 190) rfl) rfl
theorem tw_1151 : Cond.instanceMethod yX9_because ∈ TW := tm_5 (List.mem_of_getElem? (i := 191) rfl) rfl
theorem tw_1152 : Cond.selects "EqualCourtModel" yX9_because yX9_because ∈ TW := tm_5 (List.mem_of_getElem? (i := 192) rfl) rfl
theorem tw_1153 : Cond.code yX9_because prog_11_method_44_code 2 (Option.some Jvm.ClassFile.FieldType.int) ∈ TW := tm_5 (List.mem_of_getElem? (i := 193) rfl) rfl
theorem tw_1154 : Cond.methodLink "EqualCourtLaw" 92 yX9_head ∈ TW := tm_5 (List.mem_of_getElem? (i := 194) rfl) rfl
theorem tw_1155 : Cond.instanceMethod yX9_head ∈ TW := tm_5 (List.mem_of_getElem? (i := 195) rfl) rfl
theorem tw_1156 : Cond.selects "EqualCourtModel" yX9_head yX9_head ∈ TW := tm_5 (List.mem_of_getElem? (i := 196) rfl) rfl
theorem tw_1157 : Cond.code yX9_head prog_11_method_45_code 2 (Option.some Jvm.ClassFile.FieldType.int) ∈ TW := tm_5 (List.mem_of_getElem? (i := 197) rfl) rfl
theorem tw_1158 : Cond.methodLink "EqualCourtLaw" 96 yX9_member ∈ TW := tm_5 (List.mem_of_getElem? (i := 198) rfl) rfl
theorem tw_1159 : Cond.instanceMethod yX9_member ∈ TW := tm_5 (List.mem_of_getElem? (i := 199) rfl) rfl
theorem tw_1160 : Cond.selects "EqualCourtModel" yX9_member yX9_member ∈ TW := tm_5 (List.mem_of_getElem? (i := 200) rfl) rfl
theorem tw_1161 : Cond.code yX9_member prog_11_method_46_code 5 (Option.some Jvm.ClassFile.FieldType.int) ∈ TW := tm_5 (List.mem_of_getElem? (i := 201) rfl) rfl
theorem tw_1162 : Cond.methodLink "EqualCourtLaw" 100 yX9_uses ∈ TW := tm_5 (List.mem_of_getElem? (i := 202) rfl) rfl
theorem tw_1163 : Cond.instanceMethod yX9_uses ∈ TW := tm_5 (List.mem_of_getElem? (i := 203) rfl) rfl
theorem tw_1164 : Cond.selects "EqualCourtModel" yX9_uses yX9_uses ∈ TW := tm_5 (List.mem_of_getElem? (i := 204) rfl) rfl
theorem tw_1165 : Cond.code yX9_uses prog_11_method_48_code 5 (Option.some Jvm.ClassFile.FieldType.int) ∈ TW := tm_5 (List.mem_of_getElem? (i := 205) rfl) rfl
theorem tw_1166 : Cond.methodLink "EqualCourtModel" 224 yX9_usesOne ∈ TW := tm_5 (List.mem_of_getElem? (i := 206) rfl) rfl
theorem tw_1168 : Cond.instanceMethod yX9_usesOne ∈ TW := tm_5 (List.mem_of_getElem? (i := 208) rfl) rfl
theorem tw_1169 : Cond.code yX9_usesOne prog_11_method_47_code 5 (Option.some Jvm.ClassFile.FieldType.boolean) ∈ TW := tm_5 (List.mem_of_getElem? (i := 209) rfl) rfl
theorem tw_1170 : Cond.methodLink "EqualCourtLaw" 105 yX9_world ∈ TW := tm_5 (List.mem_of_getElem? (i := 210) rfl) rfl
theorem tw_1171 : Cond.instanceMethod yX9_world ∈ TW := tm_5 (List.mem_of_getElem? (i := 211) rfl) rfl
theorem tw_1172 : Cond.selects "EqualCourtModel" yX9_world yX9_world ∈ TW := tm_5 (List.mem_of_getElem? (i := 212) rfl) rfl
theorem tw_1173 : Cond.code yX9_world prog_11_method_51_code 5 (Option.some Jvm.ClassFile.FieldType.long) ∈ TW := tm_5 (List.mem_of_getElem? (i := 213) rfl) rfl
theorem tw_1174 : Cond.constantLong "EqualCourtModel" 227 (1099511627776 : Int64) ∈ TW := tm_5 (List.mem_of_getElem? (i := 214) rfl) rfl
theorem tw_1175 : Cond.methodLink "EqualCourtModel" 229 yX9_numberOf ∈ TW := tm_5 (List.mem_of_getElem? (i := 215) rfl) rfl
theorem tw_1177 : Cond.instanceMethod yX9_numberOf ∈ TW := tm_5 (List.mem_of_getElem? (i := 217) rfl) rfl
theorem tw_1178 : Cond.code yX9_numberOf prog_11_method_50_code 4 (Option.some Jvm.ClassFile.FieldType.int) ∈ TW := tm_5 (List.mem_of_getElem? (i := 218) rfl) rfl
theorem tw_1179 : Cond.methodLink "EqualCourtModel" 232 yX9_isNumber ∈ TW := tm_5 (List.mem_of_getElem? (i := 219) rfl) rfl
theorem tw_1181 : Cond.instanceMethod yX9_isNumber ∈ TW := tm_5 (List.mem_of_getElem? (i := 221) rfl) rfl
theorem tw_1182 : Cond.code yX9_isNumber prog_11_method_49_code 4 (Option.some Jvm.ClassFile.FieldType.boolean) ∈ TW := tm_5 (List.mem_of_getElem? (i := 222) rfl) rfl
theorem tw_1183 : Cond.methodLink "EqualCourtLaw" 110 yX9_push ∈ TW := tm_5 (List.mem_of_getElem? (i := 223) rfl) rfl
theorem tw_1184 : Cond.instanceMethod yX9_push ∈ TW := tm_5 (List.mem_of_getElem? (i := 224) rfl) rfl
theorem tw_1185 : Cond.selects "EqualCourtModel" yX9_push yX9_push ∈ TW := tm_5 (List.mem_of_getElem? (i := 225) rfl) rfl
theorem tw_1186 : Cond.code yX9_push prog_11_method_52_code 2 (Option.some Jvm.ClassFile.FieldType.int) ∈ TW := tm_5 (List.mem_of_getElem? (i := 226) rfl) rfl
theorem tw_1187 : Cond.methodLink "EqualCourtLaw" 114 yX9_pop ∈ TW := tm_5 (List.mem_of_getElem? (i := 227) rfl) rfl
theorem tw_1188 : Cond.instanceMethod yX9_pop ∈ TW := tm_5 (List.mem_of_getElem? (i := 228) rfl) rfl
theorem tw_1189 : Cond.selects "EqualCourtModel" yX9_pop yX9_pop ∈ TW := tm_5 (List.mem_of_getElem? (i := 229) rfl) rfl
theorem tw_1190 : Cond.code yX9_pop prog_11_method_53_code 2 (Option.some Jvm.ClassFile.FieldType.int) ∈ TW := tm_5 (List.mem_of_getElem? (i := 230) rfl) rfl
theorem tw_1191 : Cond.methodLink "EqualCourtLaw" 118 yX9_law ∈ TW := tm_5 (List.mem_of_getElem? (i := 231) rfl) rfl
theorem tw_1192 : Cond.instanceMethod yX9_law ∈ TW := tm_5 (List.mem_of_getElem? (i := 232) rfl) rfl
theorem tw_1193 : Cond.selects "EqualCourtModel" yX9_law yX9_law ∈ TW := tm_5 (List.mem_of_getElem? (i := 233) rfl) rfl
theorem tw_1194 : Cond.code yX9_law prog_11_method_54_code 3 (Option.some Jvm.ClassFile.FieldType.int) ∈ TW := tm_5 (List.mem_of_getElem? (i := 234) rfl) rfl
theorem tw_1195 : Cond.methodLink "EqualCourtLaw" 123 yX9_instance ∈ TW := tm_5 (List.mem_of_getElem? (i := 235) rfl) rfl
theorem tw_1196 : Cond.instanceMethod yX9_instance ∈ TW := tm_5 (List.mem_of_getElem? (i := 236) rfl) rfl
theorem tw_1197 : Cond.selects "EqualCourtModel" yX9_instance yX9_instance ∈ TW := tm_5 (List.mem_of_getElem? (i := 237) rfl) rfl
theorem tw_1198 : Cond.code yX9_instance prog_11_method_58_code 5 (Option.some Jvm.ClassFile.FieldType.int) ∈ TW := tm_5 (List.mem_of_getElem? (i := 238) rfl) rfl
theorem tw_1199 : Cond.methodLink "EqualCourtModel" 241 yX9_instanceOf ∈ TW := tm_5 (List.mem_of_getElem? (i := 239) rfl) rfl
theorem tw_1201 : Cond.instanceMethod yX9_instanceOf ∈ TW := tm_6 (List.mem_of_getElem? (i := 1) rfl) rfl
theorem tw_1202 : Cond.code yX9_instanceOf prog_11_method_57_code 6 (Option.some Jvm.ClassFile.FieldType.int) ∈ TW := tm_6 (List.mem_of_getElem? (i := 2) rfl) rfl
theorem tw_1203 : Cond.methodLink "EqualCourtModel" 238 yX9_rebuilt ∈ TW := tm_6 (List.mem_of_getElem? (i := 3) rfl) rfl
theorem tw_1205 : Cond.instanceMethod yX9_rebuilt ∈ TW := tm_6 (List.mem_of_getElem? (i := 5) rfl) rfl
theorem tw_1206 : Cond.code yX9_rebuilt prog_11_method_56_code 4 (Option.some Jvm.ClassFile.FieldType.int) ∈ TW := tm_6 (List.mem_of_getElem? (i := 6) rfl) rfl
theorem tw_1207 : Cond.methodLink "EqualCourtModel" 235 yX9_isHole ∈ TW := tm_6 (List.mem_of_getElem? (i := 7) rfl) rfl
theorem tw_1209 : Cond.instanceMethod yX9_isHole ∈ TW := tm_6 (List.mem_of_getElem? (i := 9) rfl) rfl
theorem tw_1210 : Cond.code yX9_isHole prog_11_method_55_code 2 (Option.some Jvm.ClassFile.FieldType.boolean) ∈ TW := tm_6 (List.mem_of_getElem? (i := 10) rfl) rfl
theorem tw_1211 : Cond.methodLink "EqualCourtLaw" 127 yX9_follow ∈ TW := tm_6 (List.mem_of_getElem? (i := 11) rfl) rfl
theorem tw_1212 : Cond.instanceMethod yX9_follow ∈ TW := tm_6 (List.mem_of_getElem? (i := 12) rfl) rfl
theorem tw_1213 : Cond.selects "EqualCourtModel" yX9_follow yX9_follow ∈ TW := tm_6 (List.mem_of_getElem? (i := 13) rfl) rfl
theorem tw_1214 : Cond.code yX9_follow prog_11_method_63_code 4 (Option.some Jvm.ClassFile.FieldType.int) ∈ TW := tm_6 (List.mem_of_getElem? (i := 14) rfl) rfl
theorem tw_1215 : Cond.methodLink "EqualCourtModel" 253 yX9_findHeads ∈ TW := tm_6 (List.mem_of_getElem? (i := 15) rfl) rfl
theorem tw_1217 : Cond.instanceMethod yX9_findHeads ∈ TW := tm_6 (List.mem_of_getElem? (i := 17) rfl) rfl
theorem tw_1218 : Cond.code yX9_findHeads prog_11_method_60_code 2 (Option.none : Option Jvm.ClassFile.FieldType) ∈ TW := tm_6 (List.mem_of_getElem? (i := 18) rfl) rfl
theorem tw_1219 : Cond.methodLink "EqualCourtModel" 256 yX9_lookForHoles ∈ TW := tm_6 (List.mem_of_getElem? (i := 19) rfl) rfl
theorem tw_1221 : Cond.instanceMethod yX9_lookForHoles ∈ TW := tm_6 (List.mem_of_getElem? (i := 21) rfl) rfl
theorem tw_1222 : Cond.code yX9_lookForHoles prog_11_method_59_code 4 (Option.none : Option Jvm.ClassFile.FieldType) ∈ TW := tm_6 (List.mem_of_getElem? (i := 22) rfl) rfl
theorem tw_1223 : Cond.methodLink "EqualCourtModel" 260 yX9_followAll ∈ TW := tm_6 (List.mem_of_getElem? (i := 23) rfl) rfl
theorem tw_1225 : Cond.instanceMethod yX9_followAll ∈ TW := tm_6 (List.mem_of_getElem? (i := 25) rfl) rfl
theorem tw_1226 : Cond.code yX9_followAll prog_11_method_62_code 10 (Option.some Jvm.ClassFile.FieldType.int) ∈ TW := tm_6 (List.mem_of_getElem? (i := 26) rfl) rfl
theorem tw_1227 : Cond.methodLink "EqualCourtModel" 250 yX9_goOn ∈ TW := tm_6 (List.mem_of_getElem? (i := 27) rfl) rfl
theorem tw_1229 : Cond.instanceMethod yX9_goOn ∈ TW := tm_6 (List.mem_of_getElem? (i := 29) rfl) rfl
theorem tw_1230 : Cond.code yX9_goOn prog_11_method_61_code 6 (Option.some Jvm.ClassFile.FieldType.int) ∈ TW := tm_6 (List.mem_of_getElem? (i := 30) rfl) rfl
theorem tw_1231 : Cond.methodLink "EqualCourtLaw" 131 yX9_ended ∈ TW := tm_6 (List.mem_of_getElem? (i := 31) rfl) rfl
theorem tw_1232 : Cond.instanceMethod yX9_ended ∈ TW := tm_6 (List.mem_of_getElem? (i := 32) rfl) rfl
theorem tw_1233 : Cond.selects "EqualCourtModel" yX9_ended yX9_ended ∈ TW := tm_6 (List.mem_of_getElem? (i := 33) rfl) rfl
theorem tw_1234 : Cond.code yX9_ended prog_11_method_64_code 1 (Option.some Jvm.ClassFile.FieldType.int) ∈ TW := tm_6 (List.mem_of_getElem? (i := 34) rfl) rfl
theorem tw_1235 : Cond.methodLink "EqualCourtLaw" 135 yX9_claim ∈ TW := tm_6 (List.mem_of_getElem? (i := 35) rfl) rfl
theorem tw_1236 : Cond.instanceMethod yX9_claim ∈ TW := tm_6 (List.mem_of_getElem? (i := 36) rfl) rfl
theorem tw_1237 : Cond.selects "EqualCourtModel" yX9_claim yX9_claim ∈ TW := tm_6 (List.mem_of_getElem? (i := 37) rfl) rfl
theorem tw_1238 : Cond.code yX9_claim prog_11_method_65_code 6 (Option.some Jvm.ClassFile.FieldType.int) ∈ TW := tm_6 (List.mem_of_getElem? (i := 38) rfl) rfl
theorem tw_1239 : Cond.methodLink "EqualCourtLaw" 139 yX9_unclaim ∈ TW := tm_6 (List.mem_of_getElem? (i := 39) rfl) rfl
theorem tw_1240 : Cond.instanceMethod yX9_unclaim ∈ TW := tm_6 (List.mem_of_getElem? (i := 40) rfl) rfl
theorem tw_1241 : Cond.selects "EqualCourtModel" yX9_unclaim yX9_unclaim ∈ TW := tm_6 (List.mem_of_getElem? (i := 41) rfl) rfl
theorem tw_1242 : Cond.code yX9_unclaim prog_11_method_66_code 2 (Option.some Jvm.ClassFile.FieldType.int) ∈ TW := tm_6 (List.mem_of_getElem? (i := 42) rfl) rfl
theorem tw_1243 : Cond.methodLink "EqualCourtLaw" 143 yX9_check ∈ TW := tm_6 (List.mem_of_getElem? (i := 43) rfl) rfl
theorem tw_1244 : Cond.instanceMethod yX9_check ∈ TW := tm_6 (List.mem_of_getElem? (i := 44) rfl) rfl
theorem tw_1245 : Cond.selects "EqualCourtModel" yX9_check yX9_check ∈ TW := tm_6 (List.mem_of_getElem? (i := 45) rfl) rfl
theorem tw_1246 : Cond.code yX9_check prog_11_method_72_code 4 (Option.some Jvm.ClassFile.FieldType.int) ∈ TW := tm_6 (List.mem_of_getElem? (i := 46) rfl) rfl
theorem tw_1247 : Cond.methodLink "EqualCourtModel" 275 yX9_isRight ∈ TW := tm_6 (List.mem_of_getElem? (i := 47) rfl) rfl
theorem tw_1249 : Cond.instanceMethod yX9_isRight ∈ TW := tm_6 (List.mem_of_getElem? (i := 49) rfl) rfl
theorem tw_1250 : Cond.code yX9_isRight prog_11_method_70_code 6 (Option.some Jvm.ClassFile.FieldType.boolean) ∈ TW := tm_6 (List.mem_of_getElem? (i := 50) rfl) rfl
theorem tw_1251 : Cond.methodLink "EqualCourtModel" 266 yX9_isStep ∈ TW := tm_6 (List.mem_of_getElem? (i := 51) rfl) rfl
theorem tw_1253 : Cond.instanceMethod yX9_isStep ∈ TW := tm_6 (List.mem_of_getElem? (i := 53) rfl) rfl
theorem tw_1254 : Cond.code yX9_isStep prog_11_method_67_code 3 (Option.some Jvm.ClassFile.FieldType.boolean) ∈ TW := tm_6 (List.mem_of_getElem? (i := 54) rfl) rfl
theorem tw_1255 : Cond.methodLink "EqualCourtModel" 269 yX9_isRightByParts ∈ TW := tm_6 (List.mem_of_getElem? (i := 55) rfl) rfl
theorem tw_1257 : Cond.instanceMethod yX9_isRightByParts ∈ TW := tm_6 (List.mem_of_getElem? (i := 57) rfl) rfl
theorem tw_1258 : Cond.code yX9_isRightByParts prog_11_method_69_code 7 (Option.some Jvm.ClassFile.FieldType.boolean) ∈ TW := tm_6 (List.mem_of_getElem? (i := 58) rfl) rfl
theorem tw_1259 : Cond.methodLink "EqualCourtModel" 263 yX9_isKnown ∈ TW := tm_6 (List.mem_of_getElem? (i := 59) rfl) rfl
theorem tw_1261 : Cond.instanceMethod yX9_isKnown ∈ TW := tm_6 (List.mem_of_getElem? (i := 61) rfl) rfl
theorem tw_1262 : Cond.code yX9_isKnown prog_11_method_68_code 6 (Option.some Jvm.ClassFile.FieldType.boolean) ∈ TW := tm_6 (List.mem_of_getElem? (i := 62) rfl) rfl
theorem tw_1263 : Cond.methodLink "EqualCourtModel" 272 yX9_isOfRows ∈ TW := tm_6 (List.mem_of_getElem? (i := 63) rfl) rfl
theorem tw_1265 : Cond.instanceMethod yX9_isOfRows ∈ TW := tm_6 (List.mem_of_getElem? (i := 65) rfl) rfl
theorem tw_1266 : Cond.code yX9_isOfRows prog_11_method_71_code 7 (Option.some Jvm.ClassFile.FieldType.boolean) ∈ TW := tm_6 (List.mem_of_getElem? (i := 66) rfl) rfl
theorem tw_1267 : Cond.methodLink "EqualCourtLaw" 147 yX9_status ∈ TW := tm_6 (List.mem_of_getElem? (i := 67) rfl) rfl
theorem tw_1268 : Cond.instanceMethod yX9_status ∈ TW := tm_6 (List.mem_of_getElem? (i := 68) rfl) rfl
theorem tw_1269 : Cond.selects "EqualCourtModel" yX9_status yX9_status ∈ TW := tm_6 (List.mem_of_getElem? (i := 69) rfl) rfl
theorem tw_1270 : Cond.code yX9_status prog_11_method_73_code 1 (Option.some Jvm.ClassFile.FieldType.int) ∈ TW := tm_6 (List.mem_of_getElem? (i := 70) rfl) rfl
end
section
theorem dX7_count_0 : decode cX7_count 0 = .ok (.aload_n 0, 1) := by decide +kernel
theorem dX7_count_1 : decode cX7_count 1 = .ok (.getfield 45, 3) := by decide +kernel
theorem dX7_count_4 : decode cX7_count 4 = .ok (.ireturn, 1) := by decide +kernel
abbrev rmX7_count : Room := { frames := 0, cells := 0, slots := 0, locals := 0 }
def fX7_count (z : fS) : Option Int32 :=
  some (z 1 9)
theorem ywX7_count : fY yX7_count "EqualCourt$Terms" cX7_count 1 (some .int) 0 := ⟨tw_334, tw_335, tw_2, tw_336, by decide +kernel⟩
set_option maxHeartbeats 4000000 in
set_option maxRecDepth 100000 in
theorem cX7_count_ok {D : va_G} {ad : Nat → Nat} {cy cz : ClassId} {l : Launch} {z : fS}  {r : Int32} (h : fX7_count z = some r) : fMi D 76 ad (cfX ad cy cz) cy cz l yX7_count cX7_count 1 (some .int) rmX7_count [.ref (ad 1)] z r z := by
  refine f_bodyi (by decide) (Nat.le_of_ble_eq_true rfl) (fun p e s m args below meth c Q hC hret ls hl hI => ?_)
  have hx := hC.1
  have hb := hC.2.1
  have hl : lv_has ls 1 [(0, .ref (ad 1))] := hl
  unfold fX7_count at h
  refine lv_aload_n hx hb dX7_count_0 rfl (lv_at hl 0 rfl) ?_
  refine gX7_count hC hI tw_46 dX7_count_1 ?_
  exact hret (ret_p _ h) dX7_count_4 hI
theorem dX7_has_0 : decode cX7_has 0 = .ok (.iload_n 1, 1) := by decide +kernel
theorem dX7_has_1 : decode cX7_has 1 = .ok (.ifCond .lt 15, 3) := by decide +kernel
theorem dX7_has_4 : decode cX7_has 4 = .ok (.iload_n 1, 1) := by decide +kernel
theorem dX7_has_5 : decode cX7_has 5 = .ok (.aload_n 0, 1) := by decide +kernel
theorem dX7_has_6 : decode cX7_has 6 = .ok (.getfield 45, 3) := by decide +kernel
theorem dX7_has_9 : decode cX7_has 9 = .ok (.if_icmp .ge 7, 3) := by decide +kernel
theorem dX7_has_12 : decode cX7_has 12 = .ok (.iconst 1, 1) := by decide +kernel
theorem dX7_has_13 : decode cX7_has 13 = .ok (.goto 4, 3) := by decide +kernel
theorem dX7_has_16 : decode cX7_has 16 = .ok (.iconst 0, 1) := by decide +kernel
theorem dX7_has_17 : decode cX7_has 17 = .ok (.ireturn, 1) := by decide +kernel
abbrev rmX7_has : Room := { frames := 0, cells := 0, slots := 0, locals := 0 }
def fX7_has (z : fS) (v1 : Int32) : Option Int32 :=
  if v1 < 0 then
    some (0 : Int32)
  else
    if (z 1 9) ≤ v1 then
      some (0 : Int32)
    else
      some (1 : Int32)
theorem ywX7_has : fY yX7_has "EqualCourt$Terms" cX7_has 2 (some .boolean) 1 := ⟨tw_452, tw_453, tw_2, tw_454, by decide +kernel⟩
set_option maxHeartbeats 4000000 in
set_option maxRecDepth 100000 in
theorem cX7_has_ok {D : va_G} {ad : Nat → Nat} {cy cz : ClassId} {l : Launch} {z : fS} {v1 : Int32} {r : Int32} (h : fX7_has z v1 = some r) : fMi D 76 ad (cfX ad cy cz) cy cz l yX7_has cX7_has 2 (some .boolean) rmX7_has [.ref (ad 1), .int v1] z r z := by
  refine f_bodyz (by decide) (Nat.le_of_ble_eq_true rfl) (fun p e s m args below meth c Q hC hret ls hl hI => ?_)
  have hx := hC.1
  have hb := hC.2.1
  have hl : lv_has ls 2 [(0, .ref (ad 1)), (1, .int v1)] := hl
  unfold fX7_has at h
  refine lv_iload_n hx hb dX7_has_0 rfl (lv_at hl 1 rfl) ?_
  refine lv_if_lt (tgt := 16) hx hb dX7_has_1 (by decide) (fun c1 => ?_) (fun c1 => ?_)
  · replace h := if_t h c1
    refine lv_iconst (v := 0) hx hb dX7_has_16 (by decide) ?_
    exact hret (ret_p _ h) (by decide) dX7_has_17 hI
  · replace h := if_f h c1
    refine lv_iload_n hx hb dX7_has_4 rfl (lv_at hl 1 rfl) ?_
    refine lv_aload_n hx hb dX7_has_5 rfl (lv_at hl 0 rfl) ?_
    refine gX7_count hC hI tw_46 dX7_has_6 ?_
    refine lv_icmp_ge (tgt := 16) hx hb dX7_has_9 (by decide) (fun c9 => ?_) (fun c9 => ?_)
    · replace h := if_t h c9
      refine lv_iconst (v := 0) hx hb dX7_has_16 (by decide) ?_
      exact hret (ret_p _ h) (by decide) dX7_has_17 hI
    · replace h := if_f h c9
      refine lv_iconst (v := 1) hx hb dX7_has_12 (by decide) ?_
      refine lv_goto (tgt := 17) hx hb dX7_has_13 (by decide) ?_
      exact hret (ret_p _ h) (by decide) dX7_has_17 hI
theorem dX7_kindOf_0 : decode cX7_kindOf 0 = .ok (.aload_n 0, 1) := by decide +kernel
theorem dX7_kindOf_1 : decode cX7_kindOf 1 = .ok (.getfield 9, 3) := by decide +kernel
theorem dX7_kindOf_4 : decode cX7_kindOf 4 = .ok (.iload_n 1, 1) := by decide +kernel
theorem dX7_kindOf_5 : decode cX7_kindOf 5 = .ok (.iaload, 1) := by decide +kernel
theorem dX7_kindOf_6 : decode cX7_kindOf 6 = .ok (.ireturn, 1) := by decide +kernel
abbrev rmX7_kindOf : Room := { frames := 0, cells := 0, slots := 0, locals := 0 }
def fX7_kindOf (z : fS) (v1 : Int32) : Option Int32 :=
  gd (inb v1 120) <|
  some (rd z 2 v1)
theorem ywX7_kindOf : fY yX7_kindOf "EqualCourt$Terms" cX7_kindOf 2 (some .int) 1 := ⟨tw_363, tw_364, tw_2, tw_365, by decide +kernel⟩
set_option maxHeartbeats 4000000 in
set_option maxRecDepth 100000 in
theorem cX7_kindOf_ok {D : va_G} {ad : Nat → Nat} {cy cz : ClassId} {l : Launch} {z : fS} {v1 : Int32} {r : Int32} (h : fX7_kindOf z v1 = some r) : fMi D 76 ad (cfX ad cy cz) cy cz l yX7_kindOf cX7_kindOf 2 (some .int) rmX7_kindOf [.ref (ad 1), .int v1] z r z := by
  refine f_bodyi (by decide) (Nat.le_of_ble_eq_true rfl) (fun p e s m args below meth c Q hC hret ls hl hI => ?_)
  have hx := hC.1
  have hb := hC.2.1
  have hl : lv_has ls 2 [(0, .ref (ad 1)), (1, .int v1)] := hl
  unfold fX7_kindOf at h
  refine lv_aload_n hx hb dX7_kindOf_0 rfl (lv_at hl 0 rfl) ?_
  refine gX7_kinds hC hI tw_31 dX7_kindOf_1 ?_
  refine lv_iload_n hx hb dX7_kindOf_4 rfl (lv_at hl 1 rfl) ?_
  have g5 := (gd_at h).1
  replace h := (gd_at h).2
  refine r_iald hC hI aX_2 g5 dX7_kindOf_5 ?_
  exact hret (ret_p _ h) dX7_kindOf_6 hI
theorem dX7_shownBy_0 : decode cX7_shownBy 0 = .ok (.aload_n 0, 1) := by decide +kernel
theorem dX7_shownBy_1 : decode cX7_shownBy 1 = .ok (.getfield 15, 3) := by decide +kernel
theorem dX7_shownBy_4 : decode cX7_shownBy 4 = .ok (.iload_n 1, 1) := by decide +kernel
theorem dX7_shownBy_5 : decode cX7_shownBy 5 = .ok (.iaload, 1) := by decide +kernel
theorem dX7_shownBy_6 : decode cX7_shownBy 6 = .ok (.ireturn, 1) := by decide +kernel
abbrev rmX7_shownBy : Room := { frames := 0, cells := 0, slots := 0, locals := 0 }
def fX7_shownBy (z : fS) (v1 : Int32) : Option Int32 :=
  gd (inb v1 120) <|
  some (rd z 3 v1)
theorem ywX7_shownBy : fY yX7_shownBy "EqualCourt$Terms" cX7_shownBy 2 (some .int) 1 := ⟨tw_482, tw_483, tw_2, tw_484, by decide +kernel⟩
set_option maxHeartbeats 4000000 in
set_option maxRecDepth 100000 in
theorem cX7_shownBy_ok {D : va_G} {ad : Nat → Nat} {cy cz : ClassId} {l : Launch} {z : fS} {v1 : Int32} {r : Int32} (h : fX7_shownBy z v1 = some r) : fMi D 76 ad (cfX ad cy cz) cy cz l yX7_shownBy cX7_shownBy 2 (some .int) rmX7_shownBy [.ref (ad 1), .int v1] z r z := by
  refine f_bodyi (by decide) (Nat.le_of_ble_eq_true rfl) (fun p e s m args below meth c Q hC hret ls hl hI => ?_)
  have hx := hC.1
  have hb := hC.2.1
  have hl : lv_has ls 2 [(0, .ref (ad 1)), (1, .int v1)] := hl
  unfold fX7_shownBy at h
  refine lv_aload_n hx hb dX7_shownBy_0 rfl (lv_at hl 0 rfl) ?_
  refine gX7_shown hC hI tw_33 dX7_shownBy_1 ?_
  refine lv_iload_n hx hb dX7_shownBy_4 rfl (lv_at hl 1 rfl) ?_
  have g5 := (gd_at h).1
  replace h := (gd_at h).2
  refine r_iald hC hI aX_3 g5 dX7_shownBy_5 ?_
  exact hret (ret_p _ h) dX7_shownBy_6 hI
theorem dX7_sizeOf_0 : decode cX7_sizeOf 0 = .ok (.aload_n 0, 1) := by decide +kernel
theorem dX7_sizeOf_1 : decode cX7_sizeOf 1 = .ok (.getfield 18, 3) := by decide +kernel
theorem dX7_sizeOf_4 : decode cX7_sizeOf 4 = .ok (.iload_n 1, 1) := by decide +kernel
theorem dX7_sizeOf_5 : decode cX7_sizeOf 5 = .ok (.iaload, 1) := by decide +kernel
theorem dX7_sizeOf_6 : decode cX7_sizeOf 6 = .ok (.ireturn, 1) := by decide +kernel
abbrev rmX7_sizeOf : Room := { frames := 0, cells := 0, slots := 0, locals := 0 }
def fX7_sizeOf (z : fS) (v1 : Int32) : Option Int32 :=
  gd (inb v1 120) <|
  some (rd z 4 v1)
theorem ywX7_sizeOf : fY yX7_sizeOf "EqualCourt$Terms" cX7_sizeOf 2 (some .int) 1 := ⟨tw_367, tw_368, tw_2, tw_369, by decide +kernel⟩
set_option maxHeartbeats 4000000 in
set_option maxRecDepth 100000 in
theorem cX7_sizeOf_ok {D : va_G} {ad : Nat → Nat} {cy cz : ClassId} {l : Launch} {z : fS} {v1 : Int32} {r : Int32} (h : fX7_sizeOf z v1 = some r) : fMi D 76 ad (cfX ad cy cz) cy cz l yX7_sizeOf cX7_sizeOf 2 (some .int) rmX7_sizeOf [.ref (ad 1), .int v1] z r z := by
  refine f_bodyi (by decide) (Nat.le_of_ble_eq_true rfl) (fun p e s m args below meth c Q hC hret ls hl hI => ?_)
  have hx := hC.1
  have hb := hC.2.1
  have hl : lv_has ls 2 [(0, .ref (ad 1)), (1, .int v1)] := hl
  unfold fX7_sizeOf at h
  refine lv_aload_n hx hb dX7_sizeOf_0 rfl (lv_at hl 0 rfl) ?_
  refine gX7_sizes hC hI tw_35 dX7_sizeOf_1 ?_
  refine lv_iload_n hx hb dX7_sizeOf_4 rfl (lv_at hl 1 rfl) ?_
  have g5 := (gd_at h).1
  replace h := (gd_at h).2
  refine r_iald hC hI aX_4 g5 dX7_sizeOf_5 ?_
  exact hret (ret_p _ h) dX7_sizeOf_6 hI
theorem dX7_partOf_0 : decode cX7_partOf 0 = .ok (.aload_n 0, 1) := by decide +kernel
theorem dX7_partOf_1 : decode cX7_partOf 1 = .ok (.getfield 21, 3) := by decide +kernel
theorem dX7_partOf_4 : decode cX7_partOf 4 = .ok (.iconst 3, 1) := by decide +kernel
theorem dX7_partOf_5 : decode cX7_partOf 5 = .ok (.iload_n 1, 1) := by decide +kernel
theorem dX7_partOf_6 : decode cX7_partOf 6 = .ok (.imul, 1) := by decide +kernel
theorem dX7_partOf_7 : decode cX7_partOf 7 = .ok (.iload_n 2, 1) := by decide +kernel
theorem dX7_partOf_8 : decode cX7_partOf 8 = .ok (.iadd, 1) := by decide +kernel
theorem dX7_partOf_9 : decode cX7_partOf 9 = .ok (.iaload, 1) := by decide +kernel
theorem dX7_partOf_10 : decode cX7_partOf 10 = .ok (.ireturn, 1) := by decide +kernel
abbrev rmX7_partOf : Room := { frames := 0, cells := 0, slots := 0, locals := 0 }
def fX7_partOf (z : fS) (v1 : Int32) (v2 : Int32) : Option Int32 :=
  gd (inb (((3 : Int32) * v1) + v2) 360) <|
  some (rd z 5 (((3 : Int32) * v1) + v2))
theorem ywX7_partOf : fY yX7_partOf "EqualCourt$Terms" cX7_partOf 3 (some .int) 2 := ⟨tw_474, tw_475, tw_2, tw_476, by decide +kernel⟩
set_option maxHeartbeats 4000000 in
set_option maxRecDepth 100000 in
theorem cX7_partOf_ok {D : va_G} {ad : Nat → Nat} {cy cz : ClassId} {l : Launch} {z : fS} {v1 : Int32} {v2 : Int32} {r : Int32} (h : fX7_partOf z v1 v2 = some r) : fMi D 76 ad (cfX ad cy cz) cy cz l yX7_partOf cX7_partOf 3 (some .int) rmX7_partOf [.ref (ad 1), .int v1, .int v2] z r z := by
  refine f_bodyi (by decide) (Nat.le_of_ble_eq_true rfl) (fun p e s m args below meth c Q hC hret ls hl hI => ?_)
  have hx := hC.1
  have hb := hC.2.1
  have hl : lv_has ls 3 [(0, .ref (ad 1)), (1, .int v1), (2, .int v2)] := hl
  unfold fX7_partOf at h
  refine lv_aload_n hx hb dX7_partOf_0 rfl (lv_at hl 0 rfl) ?_
  refine gX7_parts hC hI tw_37 dX7_partOf_1 ?_
  refine lv_iconst (v := 3) hx hb dX7_partOf_4 (by decide) ?_
  refine lv_iload_n hx hb dX7_partOf_5 rfl (lv_at hl 1 rfl) ?_
  refine lv_imul hx hb dX7_partOf_6 ?_
  refine lv_iload_n hx hb dX7_partOf_7 rfl (lv_at hl 2 rfl) ?_
  refine lv_iadd hx hb dX7_partOf_8 ?_
  have g9 := (gd_at h).1
  replace h := (gd_at h).2
  refine r_iald hC hI aX_5 g9 dX7_partOf_9 ?_
  exact hret (ret_p _ h) dX7_partOf_10 hI
theorem dX7_holesOf_0 : decode cX7_holesOf 0 = .ok (.aload_n 0, 1) := by decide +kernel
theorem dX7_holesOf_1 : decode cX7_holesOf 1 = .ok (.getfield 24, 3) := by decide +kernel
theorem dX7_holesOf_4 : decode cX7_holesOf 4 = .ok (.iload_n 1, 1) := by decide +kernel
theorem dX7_holesOf_5 : decode cX7_holesOf 5 = .ok (.iaload, 1) := by decide +kernel
theorem dX7_holesOf_6 : decode cX7_holesOf 6 = .ok (.ireturn, 1) := by decide +kernel
abbrev rmX7_holesOf : Room := { frames := 0, cells := 0, slots := 0, locals := 0 }
def fX7_holesOf (z : fS) (v1 : Int32) : Option Int32 :=
  gd (inb v1 120) <|
  some (rd z 6 v1)
theorem ywX7_holesOf : fY yX7_holesOf "EqualCourt$Terms" cX7_holesOf 2 (some .int) 1 := ⟨tw_743, tw_744, tw_2, tw_745, by decide +kernel⟩
set_option maxHeartbeats 4000000 in
set_option maxRecDepth 100000 in
theorem cX7_holesOf_ok {D : va_G} {ad : Nat → Nat} {cy cz : ClassId} {l : Launch} {z : fS} {v1 : Int32} {r : Int32} (h : fX7_holesOf z v1 = some r) : fMi D 76 ad (cfX ad cy cz) cy cz l yX7_holesOf cX7_holesOf 2 (some .int) rmX7_holesOf [.ref (ad 1), .int v1] z r z := by
  refine f_bodyi (by decide) (Nat.le_of_ble_eq_true rfl) (fun p e s m args below meth c Q hC hret ls hl hI => ?_)
  have hx := hC.1
  have hb := hC.2.1
  have hl : lv_has ls 2 [(0, .ref (ad 1)), (1, .int v1)] := hl
  unfold fX7_holesOf at h
  refine lv_aload_n hx hb dX7_holesOf_0 rfl (lv_at hl 0 rfl) ?_
  refine gX7_holes hC hI tw_39 dX7_holesOf_1 ?_
  refine lv_iload_n hx hb dX7_holesOf_4 rfl (lv_at hl 1 rfl) ?_
  have g5 := (gd_at h).1
  replace h := (gd_at h).2
  refine r_iald hC hI aX_6 g5 dX7_holesOf_5 ?_
  exact hret (ret_p _ h) dX7_holesOf_6 hI
theorem dX7_isHole_0 : decode cX7_isHole 0 = .ok (.aload_n 0, 1) := by decide +kernel
theorem dX7_isHole_1 : decode cX7_isHole 1 = .ok (.getfield 9, 3) := by decide +kernel
theorem dX7_isHole_4 : decode cX7_isHole 4 = .ok (.iload_n 1, 1) := by decide +kernel
theorem dX7_isHole_5 : decode cX7_isHole 5 = .ok (.iaload, 1) := by decide +kernel
theorem dX7_isHole_6 : decode cX7_isHole 6 = .ok (.ifCond .ne 29, 3) := by decide +kernel
theorem dX7_isHole_9 : decode cX7_isHole 9 = .ok (.aload_n 0, 1) := by decide +kernel
theorem dX7_isHole_10 : decode cX7_isHole 10 = .ok (.getfield 15, 3) := by decide +kernel
theorem dX7_isHole_13 : decode cX7_isHole 13 = .ok (.iload_n 1, 1) := by decide +kernel
theorem dX7_isHole_14 : decode cX7_isHole 14 = .ok (.iaload, 1) := by decide +kernel
theorem dX7_isHole_15 : decode cX7_isHole 15 = .ok (.bipush 90, 2) := by decide +kernel
theorem dX7_isHole_17 : decode cX7_isHole 17 = .ok (.if_icmp .lt 18, 3) := by decide +kernel
theorem dX7_isHole_20 : decode cX7_isHole 20 = .ok (.aload_n 0, 1) := by decide +kernel
theorem dX7_isHole_21 : decode cX7_isHole 21 = .ok (.getfield 15, 3) := by decide +kernel
theorem dX7_isHole_24 : decode cX7_isHole 24 = .ok (.iload_n 1, 1) := by decide +kernel
theorem dX7_isHole_25 : decode cX7_isHole 25 = .ok (.iaload, 1) := by decide +kernel
theorem dX7_isHole_26 : decode cX7_isHole 26 = .ok (.bipush 93, 2) := by decide +kernel
theorem dX7_isHole_28 : decode cX7_isHole 28 = .ok (.if_icmp .ge 7, 3) := by decide +kernel
theorem dX7_isHole_31 : decode cX7_isHole 31 = .ok (.iconst 1, 1) := by decide +kernel
theorem dX7_isHole_32 : decode cX7_isHole 32 = .ok (.goto 4, 3) := by decide +kernel
theorem dX7_isHole_35 : decode cX7_isHole 35 = .ok (.iconst 0, 1) := by decide +kernel
theorem dX7_isHole_36 : decode cX7_isHole 36 = .ok (.ireturn, 1) := by decide +kernel
abbrev rmX7_isHole : Room := { frames := 0, cells := 0, slots := 0, locals := 0 }
def fX7_isHole (z : fS) (v1 : Int32) : Option Int32 :=
  gd (inb v1 120) <|
  if (rd z 2 v1) = 0 then
    gd (inb v1 120) <|
    if (rd z 3 v1) < (90 : Int32) then
      some (0 : Int32)
    else
      gd (inb v1 120) <|
      if (93 : Int32) ≤ (rd z 3 v1) then
        some (0 : Int32)
      else
        some (1 : Int32)
  else
    some (0 : Int32)
theorem ywX7_isHole : fY yX7_isHole "EqualCourt$Terms" cX7_isHole 2 (some .boolean) 1 := ⟨tw_350, tw_351, tw_2, tw_352, by decide +kernel⟩
set_option maxHeartbeats 4000000 in
set_option maxRecDepth 100000 in
theorem cX7_isHole_ok {D : va_G} {ad : Nat → Nat} {cy cz : ClassId} {l : Launch} {z : fS} {v1 : Int32} {r : Int32} (h : fX7_isHole z v1 = some r) : fMi D 76 ad (cfX ad cy cz) cy cz l yX7_isHole cX7_isHole 2 (some .boolean) rmX7_isHole [.ref (ad 1), .int v1] z r z := by
  refine f_bodyz (by decide) (Nat.le_of_ble_eq_true rfl) (fun p e s m args below meth c Q hC hret ls hl hI => ?_)
  have hx := hC.1
  have hb := hC.2.1
  have hl : lv_has ls 2 [(0, .ref (ad 1)), (1, .int v1)] := hl
  unfold fX7_isHole at h
  refine lv_aload_n hx hb dX7_isHole_0 rfl (lv_at hl 0 rfl) ?_
  refine gX7_kinds hC hI tw_31 dX7_isHole_1 ?_
  refine lv_iload_n hx hb dX7_isHole_4 rfl (lv_at hl 1 rfl) ?_
  have g5 := (gd_at h).1
  replace h := (gd_at h).2
  refine r_iald hC hI aX_2 g5 dX7_isHole_5 ?_
  refine lv_if_ne (tgt := 35) hx hb dX7_isHole_6 (by decide) (fun c6 => ?_) (fun c6 => ?_)
  · replace h := if_f h c6
    refine lv_iconst (v := 0) hx hb dX7_isHole_35 (by decide) ?_
    exact hret (ret_p _ h) (by decide) dX7_isHole_36 hI
  · replace h := if_t h c6
    refine lv_aload_n hx hb dX7_isHole_9 rfl (lv_at hl 0 rfl) ?_
    refine gX7_shown hC hI tw_33 dX7_isHole_10 ?_
    refine lv_iload_n hx hb dX7_isHole_13 rfl (lv_at hl 1 rfl) ?_
    have g14 := (gd_at h).1
    replace h := (gd_at h).2
    refine r_iald hC hI aX_3 g14 dX7_isHole_14 ?_
    refine lv_bipush (v := 90) hx hb dX7_isHole_15 (by decide) ?_
    refine lv_icmp_lt (tgt := 35) hx hb dX7_isHole_17 (by decide) (fun c17 => ?_) (fun c17 => ?_)
    · replace h := if_t h c17
      refine lv_iconst (v := 0) hx hb dX7_isHole_35 (by decide) ?_
      exact hret (ret_p _ h) (by decide) dX7_isHole_36 hI
    · replace h := if_f h c17
      refine lv_aload_n hx hb dX7_isHole_20 rfl (lv_at hl 0 rfl) ?_
      refine gX7_shown hC hI tw_33 dX7_isHole_21 ?_
      refine lv_iload_n hx hb dX7_isHole_24 rfl (lv_at hl 1 rfl) ?_
      have g25 := (gd_at h).1
      replace h := (gd_at h).2
      refine r_iald hC hI aX_3 g25 dX7_isHole_25 ?_
      refine lv_bipush (v := 93) hx hb dX7_isHole_26 (by decide) ?_
      refine lv_icmp_ge (tgt := 35) hx hb dX7_isHole_28 (by decide) (fun c28 => ?_) (fun c28 => ?_)
      · replace h := if_t h c28
        refine lv_iconst (v := 0) hx hb dX7_isHole_35 (by decide) ?_
        exact hret (ret_p _ h) (by decide) dX7_isHole_36 hI
      · replace h := if_f h c28
        refine lv_iconst (v := 1) hx hb dX7_isHole_31 (by decide) ?_
        refine lv_goto (tgt := 36) hx hb dX7_isHole_32 (by decide) ?_
        exact hret (ret_p _ h) (by decide) dX7_isHole_36 hI
theorem dX8_slotFor_0 : decode cX8_slotFor 0 = .ok (.iload_n 0, 1) := by decide +kernel
theorem dX8_slotFor_1 : decode cX8_slotFor 1 = .ok (.bipush 31, 2) := by decide +kernel
theorem dX8_slotFor_3 : decode cX8_slotFor 3 = .ok (.imul, 1) := by decide +kernel
theorem dX8_slotFor_4 : decode cX8_slotFor 4 = .ok (.iload_n 1, 1) := by decide +kernel
theorem dX8_slotFor_5 : decode cX8_slotFor 5 = .ok (.iadd, 1) := by decide +kernel
theorem dX8_slotFor_6 : decode cX8_slotFor 6 = .ok (.bipush 127, 2) := by decide +kernel
theorem dX8_slotFor_8 : decode cX8_slotFor 8 = .ok (.imul, 1) := by decide +kernel
theorem dX8_slotFor_9 : decode cX8_slotFor 9 = .ok (.iload_n 2, 1) := by decide +kernel
theorem dX8_slotFor_10 : decode cX8_slotFor 10 = .ok (.iadd, 1) := by decide +kernel
theorem dX8_slotFor_11 : decode cX8_slotFor 11 = .ok (.bipush 127, 2) := by decide +kernel
theorem dX8_slotFor_13 : decode cX8_slotFor 13 = .ok (.imul, 1) := by decide +kernel
theorem dX8_slotFor_14 : decode cX8_slotFor 14 = .ok (.iload_n 3, 1) := by decide +kernel
theorem dX8_slotFor_15 : decode cX8_slotFor 15 = .ok (.iadd, 1) := by decide +kernel
theorem dX8_slotFor_16 : decode cX8_slotFor 16 = .ok (.bipush 127, 2) := by decide +kernel
theorem dX8_slotFor_18 : decode cX8_slotFor 18 = .ok (.imul, 1) := by decide +kernel
theorem dX8_slotFor_19 : decode cX8_slotFor 19 = .ok (.iload 4, 2) := by decide +kernel
theorem dX8_slotFor_21 : decode cX8_slotFor 21 = .ok (.iadd, 1) := by decide +kernel
theorem dX8_slotFor_22 : decode cX8_slotFor 22 = .ok (.istore 5, 2) := by decide +kernel
theorem dX8_slotFor_24 : decode cX8_slotFor 24 = .ok (.iload 5, 2) := by decide +kernel
theorem dX8_slotFor_26 : decode cX8_slotFor 26 = .ok (.ldc 240, 2) := by decide +kernel
theorem dX8_slotFor_28 : decode cX8_slotFor 28 = .ok (.imul, 1) := by decide +kernel
theorem dX8_slotFor_29 : decode cX8_slotFor 29 = .ok (.bipush 25, 2) := by decide +kernel
theorem dX8_slotFor_31 : decode cX8_slotFor 31 = .ok (.iushr, 1) := by decide +kernel
theorem dX8_slotFor_32 : decode cX8_slotFor 32 = .ok (.ireturn, 1) := by decide +kernel
abbrev rmX8_slotFor : Room := { frames := 0, cells := 0, slots := 0, locals := 0 }
def fX8_slotFor (z : fS) (v0 : Int32) (v1 : Int32) (v2 : Int32) (v3 : Int32) (v4 : Int32) : Option Int32 :=
  bnd ((((((((v0 * (31 : Int32)) + v1) * (127 : Int32)) + v2) * (127 : Int32)) + v3) * (127 : Int32)) + v4) fun x22 =>
  some (((x22 * (-1640531535 : Int32)).toUInt32 >>> ((25 : Int32).toUInt32 &&& Int32.toUInt32 31)).toInt32)
set_option maxHeartbeats 4000000 in
set_option maxRecDepth 100000 in
theorem cX8_slotFor_ok {D : va_G} {ad : Nat → Nat} {cy cz : ClassId} {l : Launch} {z : fS} {v0 : Int32} {v1 : Int32} {v2 : Int32} {v3 : Int32} {v4 : Int32} {r : Int32} (h : fX8_slotFor z v0 v1 v2 v3 v4 = some r) : fMi D 76 ad (cfX ad cy cz) cy cz l yX8_slotFor cX8_slotFor 6 (some .int) rmX8_slotFor [.int v0, .int v1, .int v2, .int v3, .int v4] z r z := by
  refine f_bodyi (by decide) (Nat.le_of_ble_eq_true rfl) (fun p e s m args below meth c Q hC hret ls hl hI => ?_)
  have hx := hC.1
  have hb := hC.2.1
  have hl : lv_has ls 6 [(0, .int v0), (1, .int v1), (2, .int v2), (3, .int v3), (4, .int v4)] := hl
  unfold fX8_slotFor at h
  refine lv_iload_n hx hb dX8_slotFor_0 rfl (lv_at hl 0 rfl) ?_
  refine lv_bipush (v := 31) hx hb dX8_slotFor_1 (by decide) ?_
  refine lv_imul hx hb dX8_slotFor_3 ?_
  refine lv_iload_n hx hb dX8_slotFor_4 rfl (lv_at hl 1 rfl) ?_
  refine lv_iadd hx hb dX8_slotFor_5 ?_
  refine lv_bipush (v := 127) hx hb dX8_slotFor_6 (by decide) ?_
  refine lv_imul hx hb dX8_slotFor_8 ?_
  refine lv_iload_n hx hb dX8_slotFor_9 rfl (lv_at hl 2 rfl) ?_
  refine lv_iadd hx hb dX8_slotFor_10 ?_
  refine lv_bipush (v := 127) hx hb dX8_slotFor_11 (by decide) ?_
  refine lv_imul hx hb dX8_slotFor_13 ?_
  refine lv_iload_n hx hb dX8_slotFor_14 rfl (lv_at hl 3 rfl) ?_
  refine lv_iadd hx hb dX8_slotFor_15 ?_
  refine lv_bipush (v := 127) hx hb dX8_slotFor_16 (by decide) ?_
  refine lv_imul hx hb dX8_slotFor_18 ?_
  refine lv_iload hx hb dX8_slotFor_19 (lv_at hl 4 rfl) ?_
  refine lv_iadd hx hb dX8_slotFor_21 ?_
  refine lv_topi (fun x22 e22 => ?_)
  replace h := bnd_at h e22
  refine lv_istore (lv' := [(5, .int x22), (0, .int v0), (1, .int v1), (2, .int v2), (3, .int v3), (4, .int v4)]) hx hb dX8_slotFor_22 hl (by decide) rfl (fun ls hl => ?_)
  refine lv_iload hx hb dX8_slotFor_24 (lv_at hl 0 rfl) ?_
  refine lv_ldc (v := -1640531535) hx hb hC.2.2.2.1 (hC.2.2.2.2.1 _ tw_348) dX8_slotFor_26 ?_
  refine lv_imul hx hb dX8_slotFor_28 ?_
  refine lv_bipush (v := 25) hx hb dX8_slotFor_29 (by decide) ?_
  refine lv_iushr hx hb dX8_slotFor_31 rfl ?_
  exact hret (ret_p _ h) dX8_slotFor_32 hI
theorem dX7_find_0 : decode cX7_find 0 = .ok (.aload_n 0, 1) := by decide +kernel
theorem dX7_find_1 : decode cX7_find 1 = .ok (.getfield 27, 3) := by decide +kernel
theorem dX7_find_4 : decode cX7_find 4 = .ok (.iload_n 1, 1) := by decide +kernel
theorem dX7_find_5 : decode cX7_find 5 = .ok (.iload_n 2, 1) := by decide +kernel
theorem dX7_find_6 : decode cX7_find 6 = .ok (.iload_n 3, 1) := by decide +kernel
theorem dX7_find_7 : decode cX7_find 7 = .ok (.iload 4, 2) := by decide +kernel
theorem dX7_find_9 : decode cX7_find 9 = .ok (.iload 5, 2) := by decide +kernel
theorem dX7_find_11 : decode cX7_find 11 = .ok (.invokestatic 49, 3) := by decide +kernel
theorem dX7_find_14 : decode cX7_find 14 = .ok (.iaload, 1) := by decide +kernel
theorem dX7_find_15 : decode cX7_find 15 = .ok (.istore 6, 2) := by decide +kernel
theorem dX7_find_17 : decode cX7_find 17 = .ok (.iconst 0, 1) := by decide +kernel
theorem dX7_find_18 : decode cX7_find 18 = .ok (.istore 7, 2) := by decide +kernel
theorem dX7_find_20 : decode cX7_find 20 = .ok (.iload 7, 2) := by decide +kernel
theorem dX7_find_22 : decode cX7_find 22 = .ok (.bipush 120, 2) := by decide +kernel
theorem dX7_find_24 : decode cX7_find 24 = .ok (.if_icmp .ge 94, 3) := by decide +kernel
theorem dX7_find_27 : decode cX7_find 27 = .ok (.iload 6, 2) := by decide +kernel
theorem dX7_find_29 : decode cX7_find 29 = .ok (.iconst (-1), 1) := by decide +kernel
theorem dX7_find_30 : decode cX7_find 30 = .ok (.if_icmp .eq 88, 3) := by decide +kernel
theorem dX7_find_33 : decode cX7_find 33 = .ok (.iconst 3, 1) := by decide +kernel
theorem dX7_find_34 : decode cX7_find 34 = .ok (.iload 6, 2) := by decide +kernel
theorem dX7_find_36 : decode cX7_find 36 = .ok (.imul, 1) := by decide +kernel
theorem dX7_find_37 : decode cX7_find 37 = .ok (.istore 8, 2) := by decide +kernel
theorem dX7_find_39 : decode cX7_find 39 = .ok (.aload_n 0, 1) := by decide +kernel
theorem dX7_find_40 : decode cX7_find 40 = .ok (.getfield 9, 3) := by decide +kernel
theorem dX7_find_43 : decode cX7_find 43 = .ok (.iload 6, 2) := by decide +kernel
theorem dX7_find_45 : decode cX7_find 45 = .ok (.iaload, 1) := by decide +kernel
theorem dX7_find_46 : decode cX7_find 46 = .ok (.iload_n 1, 1) := by decide +kernel
theorem dX7_find_47 : decode cX7_find 47 = .ok (.if_icmp .ne 56, 3) := by decide +kernel
theorem dX7_find_50 : decode cX7_find 50 = .ok (.aload_n 0, 1) := by decide +kernel
theorem dX7_find_51 : decode cX7_find 51 = .ok (.getfield 15, 3) := by decide +kernel
theorem dX7_find_54 : decode cX7_find 54 = .ok (.iload 6, 2) := by decide +kernel
theorem dX7_find_56 : decode cX7_find 56 = .ok (.iaload, 1) := by decide +kernel
theorem dX7_find_57 : decode cX7_find 57 = .ok (.iload_n 2, 1) := by decide +kernel
theorem dX7_find_58 : decode cX7_find 58 = .ok (.if_icmp .ne 45, 3) := by decide +kernel
theorem dX7_find_61 : decode cX7_find 61 = .ok (.aload_n 0, 1) := by decide +kernel
theorem dX7_find_62 : decode cX7_find 62 = .ok (.getfield 21, 3) := by decide +kernel
theorem dX7_find_65 : decode cX7_find 65 = .ok (.iload 8, 2) := by decide +kernel
theorem dX7_find_67 : decode cX7_find 67 = .ok (.iaload, 1) := by decide +kernel
theorem dX7_find_68 : decode cX7_find 68 = .ok (.iload_n 3, 1) := by decide +kernel
theorem dX7_find_69 : decode cX7_find 69 = .ok (.if_icmp .ne 34, 3) := by decide +kernel
theorem dX7_find_72 : decode cX7_find 72 = .ok (.aload_n 0, 1) := by decide +kernel
theorem dX7_find_73 : decode cX7_find 73 = .ok (.getfield 21, 3) := by decide +kernel
theorem dX7_find_76 : decode cX7_find 76 = .ok (.iload 8, 2) := by decide +kernel
theorem dX7_find_78 : decode cX7_find 78 = .ok (.iconst 1, 1) := by decide +kernel
theorem dX7_find_79 : decode cX7_find 79 = .ok (.iadd, 1) := by decide +kernel
theorem dX7_find_80 : decode cX7_find 80 = .ok (.iaload, 1) := by decide +kernel
theorem dX7_find_81 : decode cX7_find 81 = .ok (.iload 4, 2) := by decide +kernel
theorem dX7_find_83 : decode cX7_find 83 = .ok (.if_icmp .ne 20, 3) := by decide +kernel
theorem dX7_find_86 : decode cX7_find 86 = .ok (.aload_n 0, 1) := by decide +kernel
theorem dX7_find_87 : decode cX7_find 87 = .ok (.getfield 21, 3) := by decide +kernel
theorem dX7_find_90 : decode cX7_find 90 = .ok (.iload 8, 2) := by decide +kernel
theorem dX7_find_92 : decode cX7_find 92 = .ok (.iconst 2, 1) := by decide +kernel
theorem dX7_find_93 : decode cX7_find 93 = .ok (.iadd, 1) := by decide +kernel
theorem dX7_find_94 : decode cX7_find 94 = .ok (.iaload, 1) := by decide +kernel
theorem dX7_find_95 : decode cX7_find 95 = .ok (.iload 5, 2) := by decide +kernel
theorem dX7_find_97 : decode cX7_find 97 = .ok (.if_icmp .ne 6, 3) := by decide +kernel
theorem dX7_find_100 : decode cX7_find 100 = .ok (.iload 6, 2) := by decide +kernel
theorem dX7_find_102 : decode cX7_find 102 = .ok (.ireturn, 1) := by decide +kernel
theorem dX7_find_103 : decode cX7_find 103 = .ok (.aload_n 0, 1) := by decide +kernel
theorem dX7_find_104 : decode cX7_find 104 = .ok (.getfield 30, 3) := by decide +kernel
theorem dX7_find_107 : decode cX7_find 107 = .ok (.iload 6, 2) := by decide +kernel
theorem dX7_find_109 : decode cX7_find 109 = .ok (.iaload, 1) := by decide +kernel
theorem dX7_find_110 : decode cX7_find 110 = .ok (.istore 6, 2) := by decide +kernel
theorem dX7_find_112 : decode cX7_find 112 = .ok (.iinc 7 1, 3) := by decide +kernel
theorem dX7_find_115 : decode cX7_find 115 = .ok (.goto (-95), 3) := by decide +kernel
theorem dX7_find_118 : decode cX7_find 118 = .ok (.iconst (-1), 1) := by decide +kernel
theorem dX7_find_119 : decode cX7_find 119 = .ok (.ireturn, 1) := by decide +kernel
abbrev rmX7_find : Room := { frames := 1, cells := 0, slots := 0, locals := 25 }
def lX7_find_20   (z : fS) (v1 : Int32) (v2 : Int32) (v3 : Int32) (v4 : Int32) (v5 : Int32) : Nat → Int32 → Int32 → Option Int32
  | 0, _, _ => none
  | N + 1, v6, v7 =>
    if (120 : Int32) ≤ v7 then
      some (-1 : Int32)
    else
      if v6 = (-1 : Int32) then
        some (-1 : Int32)
      else
        bnd ((3 : Int32) * v6) fun x37 =>
        gd (inb v6 120) <|
        if (rd z 2 v6) = v1 then
          gd (inb v6 120) <|
          if (rd z 3 v6) = v2 then
            gd (inb x37 360) <|
            if (rd z 5 x37) = v3 then
              gd (inb (x37 + (1 : Int32)) 360) <|
              if (rd z 5 (x37 + (1 : Int32))) = v4 then
                gd (inb (x37 + (2 : Int32)) 360) <|
                if (rd z 5 (x37 + (2 : Int32))) = v5 then
                  some v6
                else
                  gd (inb v6 120) <|
                  bnd (rd z 8 v6) fun x110 =>
                  bnd (v7 + (1 : Int32)) fun x112 =>
                  (lX7_find_20   z v1 v2 v3 v4 v5 N) x110 x112
              else
                gd (inb v6 120) <|
                bnd (rd z 8 v6) fun x110 =>
                bnd (v7 + (1 : Int32)) fun x112 =>
                (lX7_find_20   z v1 v2 v3 v4 v5 N) x110 x112
            else
              gd (inb v6 120) <|
              bnd (rd z 8 v6) fun x110 =>
              bnd (v7 + (1 : Int32)) fun x112 =>
              (lX7_find_20   z v1 v2 v3 v4 v5 N) x110 x112
          else
            gd (inb v6 120) <|
            bnd (rd z 8 v6) fun x110 =>
            bnd (v7 + (1 : Int32)) fun x112 =>
            (lX7_find_20   z v1 v2 v3 v4 v5 N) x110 x112
        else
          gd (inb v6 120) <|
          bnd (rd z 8 v6) fun x110 =>
          bnd (v7 + (1 : Int32)) fun x112 =>
          (lX7_find_20   z v1 v2 v3 v4 v5 N) x110 x112
def fX7_find (z : fS) (v1 : Int32) (v2 : Int32) (v3 : Int32) (v4 : Int32) (v5 : Int32) : Option Int32 :=
  bp (fX8_slotFor z v1 v2 v3 v4 v5) fun r11 =>
  gd (inb r11 128) <|
  bnd (rd z 7 r11) fun x15 =>
  lX7_find_20   z v1 v2 v3 v4 v5 FU x15 (0 : Int32)
theorem ywX7_find : fY yX7_find "EqualCourt$Terms" cX7_find 9 (some .int) 5 := ⟨tw_342, tw_343, tw_2, tw_344, by decide +kernel⟩
set_option maxHeartbeats 4000000 in
set_option maxRecDepth 100000 in
theorem cX7_find_ok {D : va_G} {ad : Nat → Nat} {cy cz : ClassId} {l : Launch} {z : fS} {v1 : Int32} {v2 : Int32} {v3 : Int32} {v4 : Int32} {v5 : Int32} {r : Int32} (h : fX7_find z v1 v2 v3 v4 v5 = some r) : fMi D 76 ad (cfX ad cy cz) cy cz l yX7_find cX7_find 9 (some .int) rmX7_find [.ref (ad 1), .int v1, .int v2, .int v3, .int v4, .int v5] z r z := by
  refine f_bodyi (by decide) (Nat.le_of_ble_eq_true rfl) (fun p e s m args below meth c Q hC hret ls hl hI => ?_)
  have hx := hC.1
  have hb := hC.2.1
  have hl : lv_has ls 9 [(0, .ref (ad 1)), (1, .int v1), (2, .int v2), (3, .int v3), (4, .int v4), (5, .int v5)] := hl
  unfold fX7_find at h
  refine lv_aload_n hx hb dX7_find_0 rfl (lv_at hl 0 rfl) ?_
  refine gX7_buckets hC hI tw_40 dX7_find_1 ?_
  refine lv_iload_n hx hb dX7_find_4 rfl (lv_at hl 1 rfl) ?_
  refine lv_iload_n hx hb dX7_find_5 rfl (lv_at hl 2 rfl) ?_
  refine lv_iload_n hx hb dX7_find_6 rfl (lv_at hl 3 rfl) ?_
  refine lv_iload hx hb dX7_find_7 (lv_at hl 4 rfl) ?_
  refine lv_iload hx hb dX7_find_9 (lv_at hl 5 rfl) ?_
  replace h := bp_at h
  obtain ⟨r11, e11, h⟩ := h
  refine r_callsn (rest := [.ref (ad 7)]) hC hI tw_347 tw_1 tw_346 (by decide +kernel) (host := "EqualCourt") (index := 49) (np := 5) (by decide) (cX8_slotFor_ok  e11) ⟨Nat.le_of_ble_eq_true rfl, Nat.le_of_ble_eq_true rfl⟩ ⟨rfl, rfl⟩ rfl hl.1 rfl (Nat.le_of_ble_eq_true rfl) dX7_find_11 (fun H locs hI => ?_)
  have g14 := (gd_at h).1
  replace h := (gd_at h).2
  refine r_iald hC hI aX_7 g14 dX7_find_14 ?_
  refine lv_topi (fun x15 e15 => ?_)
  replace h := bnd_at h e15
  refine lv_istore (lv' := [(6, .int x15), (0, .ref (ad 1)), (1, .int v1), (2, .int v2), (3, .int v3), (4, .int v4), (5, .int v5)]) hx hb dX7_find_15 hl (by decide) rfl (fun ls hl => ?_)
  refine lv_iconst (v := 0) hx hb dX7_find_17 (by decide) ?_
  refine lv_istore (lv' := [(7, .int (0 : Int32)), (6, .int x15), (0, .ref (ad 1)), (1, .int v1), (2, .int v2), (3, .int v3), (4, .int v4), (5, .int v5)]) hx hb dX7_find_18 hl (by decide) rfl (fun ls hl => ?_)
  have w20 : ∀ (N20 : Nat) (v1 : Int32) (v2 : Int32) (v3 : Int32) (v4 : Int32) (v5 : Int32) (v6 : Int32) (v7 : Int32) (H : Heap) (locs : List Loc) (ls : Array Slot), fI D 76 ad (cfX ad cy cz) z s H locs → lv_has ls 9 [(0, .ref (ad 1)), (1, .int v1), (2, .int v2), (3, .int v3), (4, .int v4), (5, .int v5), (6, .int v6), (7, .int v7)] → lX7_find_20   z v1 v2 v3 v4 v5 N20 v6 v7 = some r → W p l e rmX7_find s m args below meth c H locs 0 0 Q (F0 m 20 ls []) := by
    intro N20
    induction N20 with
    | zero =>
      intro v1 v2 v3 v4 v5 v6 v7 H locs ls hI hl h
      exact none_no h
    | succ N20 ih20 =>
      intro v1 v2 v3 v4 v5 v6 v7 H locs ls hI hl h
      rw [lX7_find_20.eq_2] at h
      refine lv_iload hx hb dX7_find_20 (lv_at hl 7 rfl) ?_
      refine lv_bipush (v := 120) hx hb dX7_find_22 (by decide) ?_
      refine lv_icmp_ge (tgt := 118) hx hb dX7_find_24 (by decide) (fun c24 => ?_) (fun c24 => ?_)
      · replace h := if_t h c24
        refine lv_iconst (v := -1) hx hb dX7_find_118 (by decide) ?_
        exact hret (ret_p _ h) dX7_find_119 hI
      · replace h := if_f h c24
        refine lv_iload hx hb dX7_find_27 (lv_at hl 6 rfl) ?_
        refine lv_iconst (v := -1) hx hb dX7_find_29 (by decide) ?_
        refine lv_icmp_eq (tgt := 118) hx hb dX7_find_30 (by decide) (fun c30 => ?_) (fun c30 => ?_)
        · replace h := if_t h c30
          refine lv_iconst (v := -1) hx hb dX7_find_118 (by decide) ?_
          exact hret (ret_p _ h) dX7_find_119 hI
        · replace h := if_f h c30
          refine lv_iconst (v := 3) hx hb dX7_find_33 (by decide) ?_
          refine lv_iload hx hb dX7_find_34 (lv_at hl 6 rfl) ?_
          refine lv_imul hx hb dX7_find_36 ?_
          refine lv_topi (fun x37 e37 => ?_)
          replace h := bnd_at h e37
          refine lv_istore (lv' := [(8, .int x37), (0, .ref (ad 1)), (1, .int v1), (2, .int v2), (3, .int v3), (4, .int v4), (5, .int v5), (6, .int v6), (7, .int v7)]) hx hb dX7_find_37 hl (by decide) rfl (fun ls hl => ?_)
          refine lv_aload_n hx hb dX7_find_39 rfl (lv_at hl 1 rfl) ?_
          refine gX7_kinds hC hI tw_31 dX7_find_40 ?_
          refine lv_iload hx hb dX7_find_43 (lv_at hl 7 rfl) ?_
          have g45 := (gd_at h).1
          replace h := (gd_at h).2
          refine r_iald hC hI aX_2 g45 dX7_find_45 ?_
          refine lv_iload_n hx hb dX7_find_46 rfl (lv_at hl 2 rfl) ?_
          refine lv_icmp_ne (tgt := 103) hx hb dX7_find_47 (by decide) (fun c47 => ?_) (fun c47 => ?_)
          · replace h := if_f h c47
            refine lv_aload_n hx hb dX7_find_103 rfl (lv_at hl 1 rfl) ?_
            refine gX7_chain hC hI tw_41 dX7_find_104 ?_
            refine lv_iload hx hb dX7_find_107 (lv_at hl 7 rfl) ?_
            have g109 := (gd_at h).1
            replace h := (gd_at h).2
            refine r_iald hC hI aX_8 g109 dX7_find_109 ?_
            refine lv_topi (fun x110 e110 => ?_)
            replace h := bnd_at h e110
            refine lv_istore (lv' := [(6, .int x110), (8, .int x37), (0, .ref (ad 1)), (1, .int v1), (2, .int v2), (3, .int v3), (4, .int v4), (5, .int v5), (7, .int v7)]) hx hb dX7_find_110 hl (by decide) rfl (fun ls hl => ?_)
            obtain ⟨x112, e112⟩ : ∃ y : Int32, y = (v7 + (1 : Int32)) := ⟨_, rfl⟩
            replace h := bnd_at h e112
            refine lv_iinc (v := x112) (lv' := [(7, .int x112), (6, .int x110), (8, .int x37), (0, .ref (ad 1)), (1, .int v1), (2, .int v2), (3, .int v3), (4, .int v4), (5, .int v5)]) hx hb dX7_find_112 hl (k := 8) rfl (by rw [e112]; rfl) (by decide) rfl (fun ls hl => ?_)
            refine lv_goto (tgt := 20) hx hb dX7_find_115 (by decide) ?_
            exact ih20 v1 v2 v3 v4 v5 x110 x112 _ _ _ hI (lv_sub hl [3, 4, 5, 6, 7, 8, 1, 0] rfl) h
          · replace h := if_t h c47
            refine lv_aload_n hx hb dX7_find_50 rfl (lv_at hl 1 rfl) ?_
            refine gX7_shown hC hI tw_33 dX7_find_51 ?_
            refine lv_iload hx hb dX7_find_54 (lv_at hl 7 rfl) ?_
            have g56 := (gd_at h).1
            replace h := (gd_at h).2
            refine r_iald hC hI aX_3 g56 dX7_find_56 ?_
            refine lv_iload_n hx hb dX7_find_57 rfl (lv_at hl 3 rfl) ?_
            refine lv_icmp_ne (tgt := 103) hx hb dX7_find_58 (by decide) (fun c58 => ?_) (fun c58 => ?_)
            · replace h := if_f h c58
              refine lv_aload_n hx hb dX7_find_103 rfl (lv_at hl 1 rfl) ?_
              refine gX7_chain hC hI tw_41 dX7_find_104 ?_
              refine lv_iload hx hb dX7_find_107 (lv_at hl 7 rfl) ?_
              have g109 := (gd_at h).1
              replace h := (gd_at h).2
              refine r_iald hC hI aX_8 g109 dX7_find_109 ?_
              refine lv_topi (fun x110 e110 => ?_)
              replace h := bnd_at h e110
              refine lv_istore (lv' := [(6, .int x110), (8, .int x37), (0, .ref (ad 1)), (1, .int v1), (2, .int v2), (3, .int v3), (4, .int v4), (5, .int v5), (7, .int v7)]) hx hb dX7_find_110 hl (by decide) rfl (fun ls hl => ?_)
              obtain ⟨x112, e112⟩ : ∃ y : Int32, y = (v7 + (1 : Int32)) := ⟨_, rfl⟩
              replace h := bnd_at h e112
              refine lv_iinc (v := x112) (lv' := [(7, .int x112), (6, .int x110), (8, .int x37), (0, .ref (ad 1)), (1, .int v1), (2, .int v2), (3, .int v3), (4, .int v4), (5, .int v5)]) hx hb dX7_find_112 hl (k := 8) rfl (by rw [e112]; rfl) (by decide) rfl (fun ls hl => ?_)
              refine lv_goto (tgt := 20) hx hb dX7_find_115 (by decide) ?_
              exact ih20 v1 v2 v3 v4 v5 x110 x112 _ _ _ hI (lv_sub hl [3, 4, 5, 6, 7, 8, 1, 0] rfl) h
            · replace h := if_t h c58
              refine lv_aload_n hx hb dX7_find_61 rfl (lv_at hl 1 rfl) ?_
              refine gX7_parts hC hI tw_37 dX7_find_62 ?_
              refine lv_iload hx hb dX7_find_65 (lv_at hl 0 rfl) ?_
              have g67 := (gd_at h).1
              replace h := (gd_at h).2
              refine r_iald hC hI aX_5 g67 dX7_find_67 ?_
              refine lv_iload_n hx hb dX7_find_68 rfl (lv_at hl 4 rfl) ?_
              refine lv_icmp_ne (tgt := 103) hx hb dX7_find_69 (by decide) (fun c69 => ?_) (fun c69 => ?_)
              · replace h := if_f h c69
                refine lv_aload_n hx hb dX7_find_103 rfl (lv_at hl 1 rfl) ?_
                refine gX7_chain hC hI tw_41 dX7_find_104 ?_
                refine lv_iload hx hb dX7_find_107 (lv_at hl 7 rfl) ?_
                have g109 := (gd_at h).1
                replace h := (gd_at h).2
                refine r_iald hC hI aX_8 g109 dX7_find_109 ?_
                refine lv_topi (fun x110 e110 => ?_)
                replace h := bnd_at h e110
                refine lv_istore (lv' := [(6, .int x110), (8, .int x37), (0, .ref (ad 1)), (1, .int v1), (2, .int v2), (3, .int v3), (4, .int v4), (5, .int v5), (7, .int v7)]) hx hb dX7_find_110 hl (by decide) rfl (fun ls hl => ?_)
                obtain ⟨x112, e112⟩ : ∃ y : Int32, y = (v7 + (1 : Int32)) := ⟨_, rfl⟩
                replace h := bnd_at h e112
                refine lv_iinc (v := x112) (lv' := [(7, .int x112), (6, .int x110), (8, .int x37), (0, .ref (ad 1)), (1, .int v1), (2, .int v2), (3, .int v3), (4, .int v4), (5, .int v5)]) hx hb dX7_find_112 hl (k := 8) rfl (by rw [e112]; rfl) (by decide) rfl (fun ls hl => ?_)
                refine lv_goto (tgt := 20) hx hb dX7_find_115 (by decide) ?_
                exact ih20 v1 v2 v3 v4 v5 x110 x112 _ _ _ hI (lv_sub hl [3, 4, 5, 6, 7, 8, 1, 0] rfl) h
              · replace h := if_t h c69
                refine lv_aload_n hx hb dX7_find_72 rfl (lv_at hl 1 rfl) ?_
                refine gX7_parts hC hI tw_37 dX7_find_73 ?_
                refine lv_iload hx hb dX7_find_76 (lv_at hl 0 rfl) ?_
                refine lv_iconst (v := 1) hx hb dX7_find_78 (by decide) ?_
                refine lv_iadd hx hb dX7_find_79 ?_
                have g80 := (gd_at h).1
                replace h := (gd_at h).2
                refine r_iald hC hI aX_5 g80 dX7_find_80 ?_
                refine lv_iload hx hb dX7_find_81 (lv_at hl 5 rfl) ?_
                refine lv_icmp_ne (tgt := 103) hx hb dX7_find_83 (by decide) (fun c83 => ?_) (fun c83 => ?_)
                · replace h := if_f h c83
                  refine lv_aload_n hx hb dX7_find_103 rfl (lv_at hl 1 rfl) ?_
                  refine gX7_chain hC hI tw_41 dX7_find_104 ?_
                  refine lv_iload hx hb dX7_find_107 (lv_at hl 7 rfl) ?_
                  have g109 := (gd_at h).1
                  replace h := (gd_at h).2
                  refine r_iald hC hI aX_8 g109 dX7_find_109 ?_
                  refine lv_topi (fun x110 e110 => ?_)
                  replace h := bnd_at h e110
                  refine lv_istore (lv' := [(6, .int x110), (8, .int x37), (0, .ref (ad 1)), (1, .int v1), (2, .int v2), (3, .int v3), (4, .int v4), (5, .int v5), (7, .int v7)]) hx hb dX7_find_110 hl (by decide) rfl (fun ls hl => ?_)
                  obtain ⟨x112, e112⟩ : ∃ y : Int32, y = (v7 + (1 : Int32)) := ⟨_, rfl⟩
                  replace h := bnd_at h e112
                  refine lv_iinc (v := x112) (lv' := [(7, .int x112), (6, .int x110), (8, .int x37), (0, .ref (ad 1)), (1, .int v1), (2, .int v2), (3, .int v3), (4, .int v4), (5, .int v5)]) hx hb dX7_find_112 hl (k := 8) rfl (by rw [e112]; rfl) (by decide) rfl (fun ls hl => ?_)
                  refine lv_goto (tgt := 20) hx hb dX7_find_115 (by decide) ?_
                  exact ih20 v1 v2 v3 v4 v5 x110 x112 _ _ _ hI (lv_sub hl [3, 4, 5, 6, 7, 8, 1, 0] rfl) h
                · replace h := if_t h c83
                  refine lv_aload_n hx hb dX7_find_86 rfl (lv_at hl 1 rfl) ?_
                  refine gX7_parts hC hI tw_37 dX7_find_87 ?_
                  refine lv_iload hx hb dX7_find_90 (lv_at hl 0 rfl) ?_
                  refine lv_iconst (v := 2) hx hb dX7_find_92 (by decide) ?_
                  refine lv_iadd hx hb dX7_find_93 ?_
                  have g94 := (gd_at h).1
                  replace h := (gd_at h).2
                  refine r_iald hC hI aX_5 g94 dX7_find_94 ?_
                  refine lv_iload hx hb dX7_find_95 (lv_at hl 6 rfl) ?_
                  refine lv_icmp_ne (tgt := 103) hx hb dX7_find_97 (by decide) (fun c97 => ?_) (fun c97 => ?_)
                  · replace h := if_f h c97
                    refine lv_aload_n hx hb dX7_find_103 rfl (lv_at hl 1 rfl) ?_
                    refine gX7_chain hC hI tw_41 dX7_find_104 ?_
                    refine lv_iload hx hb dX7_find_107 (lv_at hl 7 rfl) ?_
                    have g109 := (gd_at h).1
                    replace h := (gd_at h).2
                    refine r_iald hC hI aX_8 g109 dX7_find_109 ?_
                    refine lv_topi (fun x110 e110 => ?_)
                    replace h := bnd_at h e110
                    refine lv_istore (lv' := [(6, .int x110), (8, .int x37), (0, .ref (ad 1)), (1, .int v1), (2, .int v2), (3, .int v3), (4, .int v4), (5, .int v5), (7, .int v7)]) hx hb dX7_find_110 hl (by decide) rfl (fun ls hl => ?_)
                    obtain ⟨x112, e112⟩ : ∃ y : Int32, y = (v7 + (1 : Int32)) := ⟨_, rfl⟩
                    replace h := bnd_at h e112
                    refine lv_iinc (v := x112) (lv' := [(7, .int x112), (6, .int x110), (8, .int x37), (0, .ref (ad 1)), (1, .int v1), (2, .int v2), (3, .int v3), (4, .int v4), (5, .int v5)]) hx hb dX7_find_112 hl (k := 8) rfl (by rw [e112]; rfl) (by decide) rfl (fun ls hl => ?_)
                    refine lv_goto (tgt := 20) hx hb dX7_find_115 (by decide) ?_
                    exact ih20 v1 v2 v3 v4 v5 x110 x112 _ _ _ hI (lv_sub hl [3, 4, 5, 6, 7, 8, 1, 0] rfl) h
                  · replace h := if_t h c97
                    refine lv_iload hx hb dX7_find_100 (lv_at hl 7 rfl) ?_
                    exact hret (ret_p _ h) dX7_find_102 hI
  exact w20 FU v1 v2 v3 v4 v5 x15 (0 : Int32) _ _ _ hI (lv_sub hl [2, 3, 4, 5, 6, 7, 1, 0] rfl) h
theorem dX7_findOrMake_0 : decode cX7_findOrMake 0 = .ok (.aload_n 0, 1) := by decide +kernel
theorem dX7_findOrMake_1 : decode cX7_findOrMake 1 = .ok (.iload_n 1, 1) := by decide +kernel
theorem dX7_findOrMake_2 : decode cX7_findOrMake 2 = .ok (.iload_n 2, 1) := by decide +kernel
theorem dX7_findOrMake_3 : decode cX7_findOrMake 3 = .ok (.iload_n 3, 1) := by decide +kernel
theorem dX7_findOrMake_4 : decode cX7_findOrMake 4 = .ok (.iload 4, 2) := by decide +kernel
theorem dX7_findOrMake_6 : decode cX7_findOrMake 6 = .ok (.iload 5, 2) := by decide +kernel
theorem dX7_findOrMake_8 : decode cX7_findOrMake 8 = .ok (.invokevirtual 53, 3) := by decide +kernel
theorem dX7_findOrMake_11 : decode cX7_findOrMake 11 = .ok (.istore 6, 2) := by decide +kernel
theorem dX7_findOrMake_13 : decode cX7_findOrMake 13 = .ok (.iload 6, 2) := by decide +kernel
theorem dX7_findOrMake_15 : decode cX7_findOrMake 15 = .ok (.iconst (-1), 1) := by decide +kernel
theorem dX7_findOrMake_16 : decode cX7_findOrMake 16 = .ok (.if_icmp .ne 12, 3) := by decide +kernel
theorem dX7_findOrMake_19 : decode cX7_findOrMake 19 = .ok (.aload_n 0, 1) := by decide +kernel
theorem dX7_findOrMake_20 : decode cX7_findOrMake 20 = .ok (.getfield 45, 3) := by decide +kernel
theorem dX7_findOrMake_23 : decode cX7_findOrMake 23 = .ok (.bipush 120, 2) := by decide +kernel
theorem dX7_findOrMake_25 : decode cX7_findOrMake 25 = .ok (.if_icmp .lt 6, 3) := by decide +kernel
theorem dX7_findOrMake_28 : decode cX7_findOrMake 28 = .ok (.iload 6, 2) := by decide +kernel
theorem dX7_findOrMake_30 : decode cX7_findOrMake 30 = .ok (.ireturn, 1) := by decide +kernel
theorem dX7_findOrMake_31 : decode cX7_findOrMake 31 = .ok (.aload_n 0, 1) := by decide +kernel
theorem dX7_findOrMake_32 : decode cX7_findOrMake 32 = .ok (.getfield 45, 3) := by decide +kernel
theorem dX7_findOrMake_35 : decode cX7_findOrMake 35 = .ok (.istore 7, 2) := by decide +kernel
theorem dX7_findOrMake_37 : decode cX7_findOrMake 37 = .ok (.aload_n 0, 1) := by decide +kernel
theorem dX7_findOrMake_38 : decode cX7_findOrMake 38 = .ok (.dup, 1) := by decide +kernel
theorem dX7_findOrMake_39 : decode cX7_findOrMake 39 = .ok (.getfield 45, 3) := by decide +kernel
theorem dX7_findOrMake_42 : decode cX7_findOrMake 42 = .ok (.iconst 1, 1) := by decide +kernel
theorem dX7_findOrMake_43 : decode cX7_findOrMake 43 = .ok (.iadd, 1) := by decide +kernel
theorem dX7_findOrMake_44 : decode cX7_findOrMake 44 = .ok (.putfield 45, 3) := by decide +kernel
theorem dX7_findOrMake_47 : decode cX7_findOrMake 47 = .ok (.aload_n 0, 1) := by decide +kernel
theorem dX7_findOrMake_48 : decode cX7_findOrMake 48 = .ok (.getfield 9, 3) := by decide +kernel
theorem dX7_findOrMake_51 : decode cX7_findOrMake 51 = .ok (.iload 7, 2) := by decide +kernel
theorem dX7_findOrMake_53 : decode cX7_findOrMake 53 = .ok (.iload_n 1, 1) := by decide +kernel
theorem dX7_findOrMake_54 : decode cX7_findOrMake 54 = .ok (.iastore, 1) := by decide +kernel
theorem dX7_findOrMake_55 : decode cX7_findOrMake 55 = .ok (.aload_n 0, 1) := by decide +kernel
theorem dX7_findOrMake_56 : decode cX7_findOrMake 56 = .ok (.getfield 15, 3) := by decide +kernel
theorem dX7_findOrMake_59 : decode cX7_findOrMake 59 = .ok (.iload 7, 2) := by decide +kernel
theorem dX7_findOrMake_61 : decode cX7_findOrMake 61 = .ok (.iload_n 2, 1) := by decide +kernel
theorem dX7_findOrMake_62 : decode cX7_findOrMake 62 = .ok (.iastore, 1) := by decide +kernel
theorem dX7_findOrMake_63 : decode cX7_findOrMake 63 = .ok (.aload_n 0, 1) := by decide +kernel
theorem dX7_findOrMake_64 : decode cX7_findOrMake 64 = .ok (.getfield 18, 3) := by decide +kernel
theorem dX7_findOrMake_67 : decode cX7_findOrMake 67 = .ok (.iload 7, 2) := by decide +kernel
theorem dX7_findOrMake_69 : decode cX7_findOrMake 69 = .ok (.iload_n 3, 1) := by decide +kernel
theorem dX7_findOrMake_70 : decode cX7_findOrMake 70 = .ok (.iconst (-1), 1) := by decide +kernel
theorem dX7_findOrMake_71 : decode cX7_findOrMake 71 = .ok (.if_icmp .ne 7, 3) := by decide +kernel
theorem dX7_findOrMake_74 : decode cX7_findOrMake 74 = .ok (.iconst 0, 1) := by decide +kernel
theorem dX7_findOrMake_75 : decode cX7_findOrMake 75 = .ok (.goto 24, 3) := by decide +kernel
theorem dX7_findOrMake_78 : decode cX7_findOrMake 78 = .ok (.iload 4, 2) := by decide +kernel
theorem dX7_findOrMake_80 : decode cX7_findOrMake 80 = .ok (.iconst (-1), 1) := by decide +kernel
theorem dX7_findOrMake_81 : decode cX7_findOrMake 81 = .ok (.if_icmp .ne 7, 3) := by decide +kernel
theorem dX7_findOrMake_84 : decode cX7_findOrMake 84 = .ok (.iconst 1, 1) := by decide +kernel
theorem dX7_findOrMake_85 : decode cX7_findOrMake 85 = .ok (.goto 14, 3) := by decide +kernel
theorem dX7_findOrMake_88 : decode cX7_findOrMake 88 = .ok (.iload 5, 2) := by decide +kernel
theorem dX7_findOrMake_90 : decode cX7_findOrMake 90 = .ok (.iconst (-1), 1) := by decide +kernel
theorem dX7_findOrMake_91 : decode cX7_findOrMake 91 = .ok (.if_icmp .ne 7, 3) := by decide +kernel
theorem dX7_findOrMake_94 : decode cX7_findOrMake 94 = .ok (.iconst 2, 1) := by decide +kernel
theorem dX7_findOrMake_95 : decode cX7_findOrMake 95 = .ok (.goto 4, 3) := by decide +kernel
theorem dX7_findOrMake_98 : decode cX7_findOrMake 98 = .ok (.iconst 3, 1) := by decide +kernel
theorem dX7_findOrMake_99 : decode cX7_findOrMake 99 = .ok (.iastore, 1) := by decide +kernel
theorem dX7_findOrMake_100 : decode cX7_findOrMake 100 = .ok (.aload_n 0, 1) := by decide +kernel
theorem dX7_findOrMake_101 : decode cX7_findOrMake 101 = .ok (.getfield 21, 3) := by decide +kernel
theorem dX7_findOrMake_104 : decode cX7_findOrMake 104 = .ok (.iconst 3, 1) := by decide +kernel
theorem dX7_findOrMake_105 : decode cX7_findOrMake 105 = .ok (.iload 7, 2) := by decide +kernel
theorem dX7_findOrMake_107 : decode cX7_findOrMake 107 = .ok (.imul, 1) := by decide +kernel
theorem dX7_findOrMake_108 : decode cX7_findOrMake 108 = .ok (.iload_n 3, 1) := by decide +kernel
theorem dX7_findOrMake_109 : decode cX7_findOrMake 109 = .ok (.iastore, 1) := by decide +kernel
theorem dX7_findOrMake_110 : decode cX7_findOrMake 110 = .ok (.aload_n 0, 1) := by decide +kernel
theorem dX7_findOrMake_111 : decode cX7_findOrMake 111 = .ok (.getfield 21, 3) := by decide +kernel
theorem dX7_findOrMake_114 : decode cX7_findOrMake 114 = .ok (.iconst 3, 1) := by decide +kernel
theorem dX7_findOrMake_115 : decode cX7_findOrMake 115 = .ok (.iload 7, 2) := by decide +kernel
theorem dX7_findOrMake_117 : decode cX7_findOrMake 117 = .ok (.imul, 1) := by decide +kernel
theorem dX7_findOrMake_118 : decode cX7_findOrMake 118 = .ok (.iconst 1, 1) := by decide +kernel
theorem dX7_findOrMake_119 : decode cX7_findOrMake 119 = .ok (.iadd, 1) := by decide +kernel
theorem dX7_findOrMake_120 : decode cX7_findOrMake 120 = .ok (.iload 4, 2) := by decide +kernel
theorem dX7_findOrMake_122 : decode cX7_findOrMake 122 = .ok (.iastore, 1) := by decide +kernel
theorem dX7_findOrMake_123 : decode cX7_findOrMake 123 = .ok (.aload_n 0, 1) := by decide +kernel
theorem dX7_findOrMake_124 : decode cX7_findOrMake 124 = .ok (.getfield 21, 3) := by decide +kernel
theorem dX7_findOrMake_127 : decode cX7_findOrMake 127 = .ok (.iconst 3, 1) := by decide +kernel
theorem dX7_findOrMake_128 : decode cX7_findOrMake 128 = .ok (.iload 7, 2) := by decide +kernel
theorem dX7_findOrMake_130 : decode cX7_findOrMake 130 = .ok (.imul, 1) := by decide +kernel
theorem dX7_findOrMake_131 : decode cX7_findOrMake 131 = .ok (.iconst 2, 1) := by decide +kernel
theorem dX7_findOrMake_132 : decode cX7_findOrMake 132 = .ok (.iadd, 1) := by decide +kernel
theorem dX7_findOrMake_133 : decode cX7_findOrMake 133 = .ok (.iload 5, 2) := by decide +kernel
theorem dX7_findOrMake_135 : decode cX7_findOrMake 135 = .ok (.iastore, 1) := by decide +kernel
theorem dX7_findOrMake_136 : decode cX7_findOrMake 136 = .ok (.aload_n 0, 1) := by decide +kernel
theorem dX7_findOrMake_137 : decode cX7_findOrMake 137 = .ok (.getfield 33, 3) := by decide +kernel
theorem dX7_findOrMake_140 : decode cX7_findOrMake 140 = .ok (.iload 7, 2) := by decide +kernel
theorem dX7_findOrMake_142 : decode cX7_findOrMake 142 = .ok (.iconst (-1), 1) := by decide +kernel
theorem dX7_findOrMake_143 : decode cX7_findOrMake 143 = .ok (.iastore, 1) := by decide +kernel
theorem dX7_findOrMake_144 : decode cX7_findOrMake 144 = .ok (.aload_n 0, 1) := by decide +kernel
theorem dX7_findOrMake_145 : decode cX7_findOrMake 145 = .ok (.getfield 24, 3) := by decide +kernel
theorem dX7_findOrMake_148 : decode cX7_findOrMake 148 = .ok (.iload 7, 2) := by decide +kernel
theorem dX7_findOrMake_150 : decode cX7_findOrMake 150 = .ok (.aload_n 0, 1) := by decide +kernel
theorem dX7_findOrMake_151 : decode cX7_findOrMake 151 = .ok (.iload 7, 2) := by decide +kernel
theorem dX7_findOrMake_153 : decode cX7_findOrMake 153 = .ok (.invokevirtual 56, 3) := by decide +kernel
theorem dX7_findOrMake_156 : decode cX7_findOrMake 156 = .ok (.ifCond .eq 12, 3) := by decide +kernel
theorem dX7_findOrMake_159 : decode cX7_findOrMake 159 = .ok (.iconst 1, 1) := by decide +kernel
theorem dX7_findOrMake_160 : decode cX7_findOrMake 160 = .ok (.iload_n 2, 1) := by decide +kernel
theorem dX7_findOrMake_161 : decode cX7_findOrMake 161 = .ok (.bipush 90, 2) := by decide +kernel
theorem dX7_findOrMake_163 : decode cX7_findOrMake 163 = .ok (.isub, 1) := by decide +kernel
theorem dX7_findOrMake_164 : decode cX7_findOrMake 164 = .ok (.ishl, 1) := by decide +kernel
theorem dX7_findOrMake_165 : decode cX7_findOrMake 165 = .ok (.goto 4, 3) := by decide +kernel
theorem dX7_findOrMake_168 : decode cX7_findOrMake 168 = .ok (.iconst 0, 1) := by decide +kernel
theorem dX7_findOrMake_169 : decode cX7_findOrMake 169 = .ok (.iastore, 1) := by decide +kernel
theorem dX7_findOrMake_170 : decode cX7_findOrMake 170 = .ok (.iconst 3, 1) := by decide +kernel
theorem dX7_findOrMake_171 : decode cX7_findOrMake 171 = .ok (.iload 7, 2) := by decide +kernel
theorem dX7_findOrMake_173 : decode cX7_findOrMake 173 = .ok (.imul, 1) := by decide +kernel
theorem dX7_findOrMake_174 : decode cX7_findOrMake 174 = .ok (.istore 8, 2) := by decide +kernel
theorem dX7_findOrMake_176 : decode cX7_findOrMake 176 = .ok (.iload 8, 2) := by decide +kernel
theorem dX7_findOrMake_178 : decode cX7_findOrMake 178 = .ok (.iconst 3, 1) := by decide +kernel
theorem dX7_findOrMake_179 : decode cX7_findOrMake 179 = .ok (.iload 7, 2) := by decide +kernel
theorem dX7_findOrMake_181 : decode cX7_findOrMake 181 = .ok (.imul, 1) := by decide +kernel
theorem dX7_findOrMake_182 : decode cX7_findOrMake 182 = .ok (.aload_n 0, 1) := by decide +kernel
theorem dX7_findOrMake_183 : decode cX7_findOrMake 183 = .ok (.getfield 18, 3) := by decide +kernel
theorem dX7_findOrMake_186 : decode cX7_findOrMake 186 = .ok (.iload 7, 2) := by decide +kernel
theorem dX7_findOrMake_188 : decode cX7_findOrMake 188 = .ok (.iaload, 1) := by decide +kernel
theorem dX7_findOrMake_189 : decode cX7_findOrMake 189 = .ok (.iadd, 1) := by decide +kernel
theorem dX7_findOrMake_190 : decode cX7_findOrMake 190 = .ok (.if_icmp .ge 58, 3) := by decide +kernel
theorem dX7_findOrMake_193 : decode cX7_findOrMake 193 = .ok (.aload_n 0, 1) := by decide +kernel
theorem dX7_findOrMake_194 : decode cX7_findOrMake 194 = .ok (.getfield 21, 3) := by decide +kernel
theorem dX7_findOrMake_197 : decode cX7_findOrMake 197 = .ok (.iload 8, 2) := by decide +kernel
theorem dX7_findOrMake_199 : decode cX7_findOrMake 199 = .ok (.iaload, 1) := by decide +kernel
theorem dX7_findOrMake_200 : decode cX7_findOrMake 200 = .ok (.istore 9, 2) := by decide +kernel
theorem dX7_findOrMake_202 : decode cX7_findOrMake 202 = .ok (.aload_n 0, 1) := by decide +kernel
theorem dX7_findOrMake_203 : decode cX7_findOrMake 203 = .ok (.getfield 24, 3) := by decide +kernel
theorem dX7_findOrMake_206 : decode cX7_findOrMake 206 = .ok (.iload 7, 2) := by decide +kernel
theorem dX7_findOrMake_208 : decode cX7_findOrMake 208 = .ok (.dup2, 1) := by decide +kernel
theorem dX7_findOrMake_209 : decode cX7_findOrMake 209 = .ok (.iaload, 1) := by decide +kernel
theorem dX7_findOrMake_210 : decode cX7_findOrMake 210 = .ok (.aload_n 0, 1) := by decide +kernel
theorem dX7_findOrMake_211 : decode cX7_findOrMake 211 = .ok (.getfield 24, 3) := by decide +kernel
theorem dX7_findOrMake_214 : decode cX7_findOrMake 214 = .ok (.iload 9, 2) := by decide +kernel
theorem dX7_findOrMake_216 : decode cX7_findOrMake 216 = .ok (.iaload, 1) := by decide +kernel
theorem dX7_findOrMake_217 : decode cX7_findOrMake 217 = .ok (.ior, 1) := by decide +kernel
theorem dX7_findOrMake_218 : decode cX7_findOrMake 218 = .ok (.iastore, 1) := by decide +kernel
theorem dX7_findOrMake_219 : decode cX7_findOrMake 219 = .ok (.aload_n 0, 1) := by decide +kernel
theorem dX7_findOrMake_220 : decode cX7_findOrMake 220 = .ok (.getfield 36, 3) := by decide +kernel
theorem dX7_findOrMake_223 : decode cX7_findOrMake 223 = .ok (.iload 8, 2) := by decide +kernel
theorem dX7_findOrMake_225 : decode cX7_findOrMake 225 = .ok (.aload_n 0, 1) := by decide +kernel
theorem dX7_findOrMake_226 : decode cX7_findOrMake 226 = .ok (.getfield 33, 3) := by decide +kernel
theorem dX7_findOrMake_229 : decode cX7_findOrMake 229 = .ok (.iload 9, 2) := by decide +kernel
theorem dX7_findOrMake_231 : decode cX7_findOrMake 231 = .ok (.iaload, 1) := by decide +kernel
theorem dX7_findOrMake_232 : decode cX7_findOrMake 232 = .ok (.iastore, 1) := by decide +kernel
theorem dX7_findOrMake_233 : decode cX7_findOrMake 233 = .ok (.aload_n 0, 1) := by decide +kernel
theorem dX7_findOrMake_234 : decode cX7_findOrMake 234 = .ok (.getfield 33, 3) := by decide +kernel
theorem dX7_findOrMake_237 : decode cX7_findOrMake 237 = .ok (.iload 9, 2) := by decide +kernel
theorem dX7_findOrMake_239 : decode cX7_findOrMake 239 = .ok (.iload 8, 2) := by decide +kernel
theorem dX7_findOrMake_241 : decode cX7_findOrMake 241 = .ok (.iastore, 1) := by decide +kernel
theorem dX7_findOrMake_242 : decode cX7_findOrMake 242 = .ok (.iinc 8 1, 3) := by decide +kernel
theorem dX7_findOrMake_245 : decode cX7_findOrMake 245 = .ok (.goto (-69), 3) := by decide +kernel
theorem dX7_findOrMake_248 : decode cX7_findOrMake 248 = .ok (.iload_n 1, 1) := by decide +kernel
theorem dX7_findOrMake_249 : decode cX7_findOrMake 249 = .ok (.iload_n 2, 1) := by decide +kernel
theorem dX7_findOrMake_250 : decode cX7_findOrMake 250 = .ok (.iload_n 3, 1) := by decide +kernel
theorem dX7_findOrMake_251 : decode cX7_findOrMake 251 = .ok (.iload 4, 2) := by decide +kernel
theorem dX7_findOrMake_253 : decode cX7_findOrMake 253 = .ok (.iload 5, 2) := by decide +kernel
theorem dX7_findOrMake_255 : decode cX7_findOrMake 255 = .ok (.invokestatic 49, 3) := by decide +kernel
theorem dX7_findOrMake_258 : decode cX7_findOrMake 258 = .ok (.istore 8, 2) := by decide +kernel
theorem dX7_findOrMake_260 : decode cX7_findOrMake 260 = .ok (.aload_n 0, 1) := by decide +kernel
theorem dX7_findOrMake_261 : decode cX7_findOrMake 261 = .ok (.getfield 30, 3) := by decide +kernel
theorem dX7_findOrMake_264 : decode cX7_findOrMake 264 = .ok (.iload 7, 2) := by decide +kernel
theorem dX7_findOrMake_266 : decode cX7_findOrMake 266 = .ok (.aload_n 0, 1) := by decide +kernel
theorem dX7_findOrMake_267 : decode cX7_findOrMake 267 = .ok (.getfield 27, 3) := by decide +kernel
theorem dX7_findOrMake_270 : decode cX7_findOrMake 270 = .ok (.iload 8, 2) := by decide +kernel
theorem dX7_findOrMake_272 : decode cX7_findOrMake 272 = .ok (.iaload, 1) := by decide +kernel
theorem dX7_findOrMake_273 : decode cX7_findOrMake 273 = .ok (.iastore, 1) := by decide +kernel
theorem dX7_findOrMake_274 : decode cX7_findOrMake 274 = .ok (.aload_n 0, 1) := by decide +kernel
theorem dX7_findOrMake_275 : decode cX7_findOrMake 275 = .ok (.getfield 27, 3) := by decide +kernel
theorem dX7_findOrMake_278 : decode cX7_findOrMake 278 = .ok (.iload 8, 2) := by decide +kernel
theorem dX7_findOrMake_280 : decode cX7_findOrMake 280 = .ok (.iload 7, 2) := by decide +kernel
theorem dX7_findOrMake_282 : decode cX7_findOrMake 282 = .ok (.iastore, 1) := by decide +kernel
theorem dX7_findOrMake_283 : decode cX7_findOrMake 283 = .ok (.iload 7, 2) := by decide +kernel
theorem dX7_findOrMake_285 : decode cX7_findOrMake 285 = .ok (.ireturn, 1) := by decide +kernel
abbrev rmX7_findOrMake : Room := { frames := 2, cells := 0, slots := 0, locals := 53 }
def jX7_findOrMake_248   (v1 : Int32) (v2 : Int32) (v3 : Int32) (v4 : Int32) (v5 : Int32) (v7 : Int32) (z : fS) : Option (Int32 × fS) :=
  bp (fX8_slotFor z v1 v2 v3 v4 v5) fun r255 =>
  gd (inb r255 128) <|
  gd (inb v7 120) <|
  bnd (wr z 8 v7 (rd z 7 r255)) fun z273 =>
  gd (inb r255 128) <|
  bnd (wr z273 7 r255 v7) fun z282 =>
  some (v7, z282)
def lX7_findOrMake_176  (k248 : fS → Option (Int32 × fS)) (v1 : Int32) (v2 : Int32) (v3 : Int32) (v4 : Int32) (v5 : Int32) (v7 : Int32) : Nat → Int32 → fS → Option (Int32 × fS)
  | 0, _, _ => none
  | N + 1, v8, z =>
    gd (inb v7 120) <|
    if (((3 : Int32) * v7) + (rd z 4 v7)) ≤ v8 then
      k248 z
    else
      gd (inb v8 360) <|
      bnd (rd z 5 v8) fun x200 =>
      gd (inb v7 120) <|
      gd (inb x200 120) <|
      gd (inb v7 120) <|
      bnd (wr z 6 v7 ((rd z 6 v7) ||| (rd z 6 x200))) fun z218 =>
      gd (inb x200 120) <|
      gd (inb v8 360) <|
      bnd (wr z218 10 v8 (rd z218 9 x200)) fun z232 =>
      gd (inb x200 120) <|
      bnd (wr z232 9 x200 v8) fun z241 =>
      bnd (v8 + (1 : Int32)) fun x242 =>
      (lX7_findOrMake_176  k248 v1 v2 v3 v4 v5 v7 N) x242 z241
def jX7_findOrMake_169   (v1 : Int32) (v2 : Int32) (v3 : Int32) (v4 : Int32) (v5 : Int32) (v7 : Int32) (y0 : Int32) (y1 : Int32) (z : fS) : Option (Int32 × fS) :=
  gd (inb y1 120) <|
  bnd (wr z 6 y1 y0) fun z169 =>
  bnd ((3 : Int32) * v7) fun x174 =>
  lX7_findOrMake_176  (jX7_findOrMake_248   v1 v2 v3 v4 v5 v7) v1 v2 v3 v4 v5 v7 FU x174 z169
def jX7_findOrMake_99   (v1 : Int32) (v2 : Int32) (v3 : Int32) (v4 : Int32) (v5 : Int32) (v7 : Int32) (y0 : Int32) (y1 : Int32) (z : fS) : Option (Int32 × fS) :=
  gd (inb y1 120) <|
  bnd (wr z 4 y1 y0) fun z99 =>
  gd (inb ((3 : Int32) * v7) 360) <|
  bnd (wr z99 5 ((3 : Int32) * v7) v3) fun z109 =>
  gd (inb (((3 : Int32) * v7) + (1 : Int32)) 360) <|
  bnd (wr z109 5 (((3 : Int32) * v7) + (1 : Int32)) v4) fun z122 =>
  gd (inb (((3 : Int32) * v7) + (2 : Int32)) 360) <|
  bnd (wr z122 5 (((3 : Int32) * v7) + (2 : Int32)) v5) fun z135 =>
  gd (inb v7 120) <|
  bnd (wr z135 9 v7 (-1 : Int32)) fun z143 =>
  bp (fX7_isHole z143 v7) fun r153 =>
  if r153 = 0 then
    jX7_findOrMake_169   v1 v2 v3 v4 v5 v7 (0 : Int32) v7 z143
  else
    jX7_findOrMake_169   v1 v2 v3 v4 v5 v7 ((1 : Int32) <<< ((v2 - (90 : Int32)) &&& 31)) v7 z143
def fX7_findOrMake (z : fS) (v1 : Int32) (v2 : Int32) (v3 : Int32) (v4 : Int32) (v5 : Int32) : Option (Int32 × fS) :=
  bp (fX7_find z v1 v2 v3 v4 v5) fun r8 =>
  if r8 = (-1 : Int32) then
    if (z 1 9) < (120 : Int32) then
      bnd (z 1 9) fun x35 =>
      bnd (wf z 1 9 ((z 1 9) + (1 : Int32))) fun z44 =>
      gd (inb x35 120) <|
      bnd (wr z44 2 x35 v1) fun z54 =>
      gd (inb x35 120) <|
      bnd (wr z54 3 x35 v2) fun z62 =>
      if v3 = (-1 : Int32) then
        jX7_findOrMake_99   v1 v2 v3 v4 v5 x35 (0 : Int32) x35 z62
      else
        if v4 = (-1 : Int32) then
          jX7_findOrMake_99   v1 v2 v3 v4 v5 x35 (1 : Int32) x35 z62
        else
          if v5 = (-1 : Int32) then
            jX7_findOrMake_99   v1 v2 v3 v4 v5 x35 (2 : Int32) x35 z62
          else
            jX7_findOrMake_99   v1 v2 v3 v4 v5 x35 (3 : Int32) x35 z62
    else
      some (r8, z)
  else
    some (r8, z)
theorem ywX7_findOrMake : fY yX7_findOrMake "EqualCourt$Terms" cX7_findOrMake 10 (some .int) 5 := ⟨tw_338, tw_339, tw_2, tw_340, by decide +kernel⟩
set_option maxHeartbeats 4000000 in
set_option maxRecDepth 100000 in
theorem cX7_findOrMake_ok {D : va_G} {ad : Nat → Nat} {cy cz : ClassId} {l : Launch} {z : fS} {v1 : Int32} {v2 : Int32} {v3 : Int32} {v4 : Int32} {v5 : Int32} {r : Int32} {τ : fS} (h : fX7_findOrMake z v1 v2 v3 v4 v5 = some (r, τ)) : fMi D 76 ad (cfX ad cy cz) cy cz l yX7_findOrMake cX7_findOrMake 10 (some .int) rmX7_findOrMake [.ref (ad 1), .int v1, .int v2, .int v3, .int v4, .int v5] z r τ := by
  refine f_bodyi (by decide) (Nat.le_of_ble_eq_true rfl) (fun p e s m args below meth c Q hC hret ls hl hI => ?_)
  have hx := hC.1
  have hb := hC.2.1
  have hl : lv_has ls 10 [(0, .ref (ad 1)), (1, .int v1), (2, .int v2), (3, .int v3), (4, .int v4), (5, .int v5)] := hl
  unfold fX7_findOrMake at h
  have w248 : ∀ (v1 : Int32) (v2 : Int32) (v3 : Int32) (v4 : Int32) (v5 : Int32) (v7 : Int32) (z : fS) (H : Heap) (locs : List Loc) (ls : Array Slot), fI D 76 ad (cfX ad cy cz) z s H locs → lv_has ls 10 [(0, .ref (ad 1)), (1, .int v1), (2, .int v2), (3, .int v3), (4, .int v4), (5, .int v5), (7, .int v7)] → jX7_findOrMake_248   v1 v2 v3 v4 v5 v7 z = some (r, τ) → W p l e rmX7_findOrMake s m args below meth c H locs 0 0 Q (F0 m 248 ls []) := by
    intro v1 v2 v3 v4 v5 v7 z H locs ls hI hl h
    unfold jX7_findOrMake_248 at h
    refine lv_iload_n hx hb dX7_findOrMake_248 rfl (lv_at hl 1 rfl) ?_
    refine lv_iload_n hx hb dX7_findOrMake_249 rfl (lv_at hl 2 rfl) ?_
    refine lv_iload_n hx hb dX7_findOrMake_250 rfl (lv_at hl 3 rfl) ?_
    refine lv_iload hx hb dX7_findOrMake_251 (lv_at hl 4 rfl) ?_
    refine lv_iload hx hb dX7_findOrMake_253 (lv_at hl 5 rfl) ?_
    replace h := bp_at h
    obtain ⟨r255, e255, h⟩ := h
    refine r_callsn (rest := []) hC hI tw_347 tw_1 tw_346 (by decide +kernel) (host := "EqualCourt") (index := 49) (np := 5) (by decide) (cX8_slotFor_ok  e255) ⟨Nat.le_of_ble_eq_true rfl, Nat.le_of_ble_eq_true rfl⟩ ⟨rfl, rfl⟩ rfl hl.1 rfl (Nat.le_of_ble_eq_true rfl) dX7_findOrMake_255 (fun H locs hI => ?_)
    refine lv_istore (lv' := [(8, .int r255), (0, .ref (ad 1)), (1, .int v1), (2, .int v2), (3, .int v3), (4, .int v4), (5, .int v5), (7, .int v7)]) hx hb dX7_findOrMake_258 hl (by decide) rfl (fun ls hl => ?_)
    refine lv_aload_n hx hb dX7_findOrMake_260 rfl (lv_at hl 1 rfl) ?_
    refine gX7_chain hC hI tw_41 dX7_findOrMake_261 ?_
    refine lv_iload hx hb dX7_findOrMake_264 (lv_at hl 7 rfl) ?_
    refine lv_aload_n hx hb dX7_findOrMake_266 rfl (lv_at hl 1 rfl) ?_
    refine gX7_buckets hC hI tw_40 dX7_findOrMake_267 ?_
    refine lv_iload hx hb dX7_findOrMake_270 (lv_at hl 0 rfl) ?_
    have g272 := (gd_at h).1
    replace h := (gd_at h).2
    refine r_iald hC hI aX_7 g272 dX7_findOrMake_272 ?_
    have g273 := (gd_at h).1
    replace h := (gd_at h).2
    refine r_iast hC hI aX_8 g273 dX7_findOrMake_273 (fun z273 H locs e273 hI => ?_)
    replace h := bnd_at h e273
    refine lv_aload_n hx hb dX7_findOrMake_274 rfl (lv_at hl 1 rfl) ?_
    refine gX7_buckets hC hI tw_40 dX7_findOrMake_275 ?_
    refine lv_iload hx hb dX7_findOrMake_278 (lv_at hl 0 rfl) ?_
    refine lv_iload hx hb dX7_findOrMake_280 (lv_at hl 7 rfl) ?_
    have g282 := (gd_at h).1
    replace h := (gd_at h).2
    refine r_iast hC hI aX_7 g282 dX7_findOrMake_282 (fun z282 H locs e282 hI => ?_)
    replace h := bnd_at h e282
    refine lv_iload hx hb dX7_findOrMake_283 (lv_at hl 7 rfl) ?_
    exact hret h dX7_findOrMake_285 hI
  have w169 : ∀ (v1 : Int32) (v2 : Int32) (v3 : Int32) (v4 : Int32) (v5 : Int32) (v7 : Int32) (y0 : Int32) (y1 : Int32) (z : fS) (H : Heap) (locs : List Loc) (ls : Array Slot), fI D 76 ad (cfX ad cy cz) z s H locs → lv_has ls 10 [(0, .ref (ad 1)), (1, .int v1), (2, .int v2), (3, .int v3), (4, .int v4), (5, .int v5), (7, .int v7)] → jX7_findOrMake_169   v1 v2 v3 v4 v5 v7 y0 y1 z = some (r, τ) → W p l e rmX7_findOrMake s m args below meth c H locs 0 0 Q (F0 m 169 ls [.int y0, .int y1, .ref (ad 6)]) := by
    intro v1 v2 v3 v4 v5 v7 y0 y1 z H locs ls hI hl h
    unfold jX7_findOrMake_169 at h
    have g169 := (gd_at h).1
    replace h := (gd_at h).2
    refine r_iast hC hI aX_6 g169 dX7_findOrMake_169 (fun z169 H locs e169 hI => ?_)
    replace h := bnd_at h e169
    refine lv_iconst (v := 3) hx hb dX7_findOrMake_170 (by decide) ?_
    refine lv_iload hx hb dX7_findOrMake_171 (lv_at hl 6 rfl) ?_
    refine lv_imul hx hb dX7_findOrMake_173 ?_
    refine lv_topi (fun x174 e174 => ?_)
    replace h := bnd_at h e174
    refine lv_istore (lv' := [(8, .int x174), (0, .ref (ad 1)), (1, .int v1), (2, .int v2), (3, .int v3), (4, .int v4), (5, .int v5), (7, .int v7)]) hx hb dX7_findOrMake_174 hl (by decide) rfl (fun ls hl => ?_)
    have w176 : ∀ (N176 : Nat) (v1 : Int32) (v2 : Int32) (v3 : Int32) (v4 : Int32) (v5 : Int32) (v7 : Int32) (v8 : Int32) (z : fS) (H : Heap) (locs : List Loc) (ls : Array Slot), fI D 76 ad (cfX ad cy cz) z s H locs → lv_has ls 10 [(0, .ref (ad 1)), (1, .int v1), (2, .int v2), (3, .int v3), (4, .int v4), (5, .int v5), (7, .int v7), (8, .int v8)] → lX7_findOrMake_176  (jX7_findOrMake_248   v1 v2 v3 v4 v5 v7) v1 v2 v3 v4 v5 v7 N176 v8 z = some (r, τ) → W p l e rmX7_findOrMake s m args below meth c H locs 0 0 Q (F0 m 176 ls []) := by
      intro N176
      induction N176 with
      | zero =>
        intro v1 v2 v3 v4 v5 v7 v8 z H locs ls hI hl h
        exact none_no h
      | succ N176 ih176 =>
        intro v1 v2 v3 v4 v5 v7 v8 z H locs ls hI hl h
        rw [lX7_findOrMake_176.eq_2] at h
        refine lv_iload hx hb dX7_findOrMake_176 (lv_at hl 7 rfl) ?_
        refine lv_iconst (v := 3) hx hb dX7_findOrMake_178 (by decide) ?_
        refine lv_iload hx hb dX7_findOrMake_179 (lv_at hl 6 rfl) ?_
        refine lv_imul hx hb dX7_findOrMake_181 ?_
        refine lv_aload_n hx hb dX7_findOrMake_182 rfl (lv_at hl 0 rfl) ?_
        refine gX7_sizes hC hI tw_35 dX7_findOrMake_183 ?_
        refine lv_iload hx hb dX7_findOrMake_186 (lv_at hl 6 rfl) ?_
        have g188 := (gd_at h).1
        replace h := (gd_at h).2
        refine r_iald hC hI aX_4 g188 dX7_findOrMake_188 ?_
        refine lv_iadd hx hb dX7_findOrMake_189 ?_
        refine lv_icmp_ge (tgt := 248) hx hb dX7_findOrMake_190 (by decide) (fun c190 => ?_) (fun c190 => ?_)
        · replace h := if_t h c190
          exact w248 v1 v2 v3 v4 v5 v7 z _ _ _ hI (lv_sub hl [0, 1, 2, 3, 4, 5, 6] rfl) h
        · replace h := if_f h c190
          refine lv_aload_n hx hb dX7_findOrMake_193 rfl (lv_at hl 0 rfl) ?_
          refine gX7_parts hC hI tw_37 dX7_findOrMake_194 ?_
          refine lv_iload hx hb dX7_findOrMake_197 (lv_at hl 7 rfl) ?_
          have g199 := (gd_at h).1
          replace h := (gd_at h).2
          refine r_iald hC hI aX_5 g199 dX7_findOrMake_199 ?_
          refine lv_topi (fun x200 e200 => ?_)
          replace h := bnd_at h e200
          refine lv_istore (lv' := [(9, .int x200), (0, .ref (ad 1)), (1, .int v1), (2, .int v2), (3, .int v3), (4, .int v4), (5, .int v5), (7, .int v7), (8, .int v8)]) hx hb dX7_findOrMake_200 hl (by decide) rfl (fun ls hl => ?_)
          refine lv_aload_n hx hb dX7_findOrMake_202 rfl (lv_at hl 1 rfl) ?_
          refine gX7_holes hC hI tw_39 dX7_findOrMake_203 ?_
          refine lv_iload hx hb dX7_findOrMake_206 (lv_at hl 7 rfl) ?_
          refine lv_dup2_11 hx hb dX7_findOrMake_208 rfl rfl ?_
          have g209 := (gd_at h).1
          replace h := (gd_at h).2
          refine r_iald hC hI aX_6 g209 dX7_findOrMake_209 ?_
          refine lv_aload_n hx hb dX7_findOrMake_210 rfl (lv_at hl 1 rfl) ?_
          refine gX7_holes hC hI tw_39 dX7_findOrMake_211 ?_
          refine lv_iload hx hb dX7_findOrMake_214 (lv_at hl 0 rfl) ?_
          have g216 := (gd_at h).1
          replace h := (gd_at h).2
          refine r_iald hC hI aX_6 g216 dX7_findOrMake_216 ?_
          refine lv_ior hx hb dX7_findOrMake_217 ?_
          have g218 := (gd_at h).1
          replace h := (gd_at h).2
          refine r_iast hC hI aX_6 g218 dX7_findOrMake_218 (fun z218 H locs e218 hI => ?_)
          replace h := bnd_at h e218
          refine lv_aload_n hx hb dX7_findOrMake_219 rfl (lv_at hl 1 rfl) ?_
          refine gX7_nextPlace hC hI tw_44 dX7_findOrMake_220 ?_
          refine lv_iload hx hb dX7_findOrMake_223 (lv_at hl 8 rfl) ?_
          refine lv_aload_n hx hb dX7_findOrMake_225 rfl (lv_at hl 1 rfl) ?_
          refine gX7_firstPlace hC hI tw_42 dX7_findOrMake_226 ?_
          refine lv_iload hx hb dX7_findOrMake_229 (lv_at hl 0 rfl) ?_
          have g231 := (gd_at h).1
          replace h := (gd_at h).2
          refine r_iald hC hI aX_9 g231 dX7_findOrMake_231 ?_
          have g232 := (gd_at h).1
          replace h := (gd_at h).2
          refine r_iast hC hI aX_10 g232 dX7_findOrMake_232 (fun z232 H locs e232 hI => ?_)
          replace h := bnd_at h e232
          refine lv_aload_n hx hb dX7_findOrMake_233 rfl (lv_at hl 1 rfl) ?_
          refine gX7_firstPlace hC hI tw_42 dX7_findOrMake_234 ?_
          refine lv_iload hx hb dX7_findOrMake_237 (lv_at hl 0 rfl) ?_
          refine lv_iload hx hb dX7_findOrMake_239 (lv_at hl 8 rfl) ?_
          have g241 := (gd_at h).1
          replace h := (gd_at h).2
          refine r_iast hC hI aX_9 g241 dX7_findOrMake_241 (fun z241 H locs e241 hI => ?_)
          replace h := bnd_at h e241
          obtain ⟨x242, e242⟩ : ∃ y : Int32, y = (v8 + (1 : Int32)) := ⟨_, rfl⟩
          replace h := bnd_at h e242
          refine lv_iinc (v := x242) (lv' := [(8, .int x242), (9, .int x200), (0, .ref (ad 1)), (1, .int v1), (2, .int v2), (3, .int v3), (4, .int v4), (5, .int v5), (7, .int v7)]) hx hb dX7_findOrMake_242 hl (k := 8) rfl (by rw [e242]; rfl) (by decide) rfl (fun ls hl => ?_)
          refine lv_goto (tgt := 176) hx hb dX7_findOrMake_245 (by decide) ?_
          exact ih176 v1 v2 v3 v4 v5 v7 x242 z241 _ _ _ hI (lv_sub hl [2, 3, 4, 5, 6, 7, 8, 0] rfl) h
    exact w176 FU v1 v2 v3 v4 v5 v7 x174 z169 _ _ _ hI (lv_sub hl [1, 2, 3, 4, 5, 6, 7, 0] rfl) h
  have w99 : ∀ (v1 : Int32) (v2 : Int32) (v3 : Int32) (v4 : Int32) (v5 : Int32) (v7 : Int32) (y0 : Int32) (y1 : Int32) (z : fS) (H : Heap) (locs : List Loc) (ls : Array Slot), fI D 76 ad (cfX ad cy cz) z s H locs → lv_has ls 10 [(0, .ref (ad 1)), (1, .int v1), (2, .int v2), (3, .int v3), (4, .int v4), (5, .int v5), (7, .int v7)] → jX7_findOrMake_99   v1 v2 v3 v4 v5 v7 y0 y1 z = some (r, τ) → W p l e rmX7_findOrMake s m args below meth c H locs 0 0 Q (F0 m 99 ls [.int y0, .int y1, .ref (ad 4)]) := by
    intro v1 v2 v3 v4 v5 v7 y0 y1 z H locs ls hI hl h
    unfold jX7_findOrMake_99 at h
    have g99 := (gd_at h).1
    replace h := (gd_at h).2
    refine r_iast hC hI aX_4 g99 dX7_findOrMake_99 (fun z99 H locs e99 hI => ?_)
    replace h := bnd_at h e99
    refine lv_aload_n hx hb dX7_findOrMake_100 rfl (lv_at hl 0 rfl) ?_
    refine gX7_parts hC hI tw_37 dX7_findOrMake_101 ?_
    refine lv_iconst (v := 3) hx hb dX7_findOrMake_104 (by decide) ?_
    refine lv_iload hx hb dX7_findOrMake_105 (lv_at hl 6 rfl) ?_
    refine lv_imul hx hb dX7_findOrMake_107 ?_
    refine lv_iload_n hx hb dX7_findOrMake_108 rfl (lv_at hl 3 rfl) ?_
    have g109 := (gd_at h).1
    replace h := (gd_at h).2
    refine r_iast hC hI aX_5 g109 dX7_findOrMake_109 (fun z109 H locs e109 hI => ?_)
    replace h := bnd_at h e109
    refine lv_aload_n hx hb dX7_findOrMake_110 rfl (lv_at hl 0 rfl) ?_
    refine gX7_parts hC hI tw_37 dX7_findOrMake_111 ?_
    refine lv_iconst (v := 3) hx hb dX7_findOrMake_114 (by decide) ?_
    refine lv_iload hx hb dX7_findOrMake_115 (lv_at hl 6 rfl) ?_
    refine lv_imul hx hb dX7_findOrMake_117 ?_
    refine lv_iconst (v := 1) hx hb dX7_findOrMake_118 (by decide) ?_
    refine lv_iadd hx hb dX7_findOrMake_119 ?_
    refine lv_iload hx hb dX7_findOrMake_120 (lv_at hl 4 rfl) ?_
    have g122 := (gd_at h).1
    replace h := (gd_at h).2
    refine r_iast hC hI aX_5 g122 dX7_findOrMake_122 (fun z122 H locs e122 hI => ?_)
    replace h := bnd_at h e122
    refine lv_aload_n hx hb dX7_findOrMake_123 rfl (lv_at hl 0 rfl) ?_
    refine gX7_parts hC hI tw_37 dX7_findOrMake_124 ?_
    refine lv_iconst (v := 3) hx hb dX7_findOrMake_127 (by decide) ?_
    refine lv_iload hx hb dX7_findOrMake_128 (lv_at hl 6 rfl) ?_
    refine lv_imul hx hb dX7_findOrMake_130 ?_
    refine lv_iconst (v := 2) hx hb dX7_findOrMake_131 (by decide) ?_
    refine lv_iadd hx hb dX7_findOrMake_132 ?_
    refine lv_iload hx hb dX7_findOrMake_133 (lv_at hl 5 rfl) ?_
    have g135 := (gd_at h).1
    replace h := (gd_at h).2
    refine r_iast hC hI aX_5 g135 dX7_findOrMake_135 (fun z135 H locs e135 hI => ?_)
    replace h := bnd_at h e135
    refine lv_aload_n hx hb dX7_findOrMake_136 rfl (lv_at hl 0 rfl) ?_
    refine gX7_firstPlace hC hI tw_42 dX7_findOrMake_137 ?_
    refine lv_iload hx hb dX7_findOrMake_140 (lv_at hl 6 rfl) ?_
    refine lv_iconst (v := -1) hx hb dX7_findOrMake_142 (by decide) ?_
    have g143 := (gd_at h).1
    replace h := (gd_at h).2
    refine r_iast hC hI aX_9 g143 dX7_findOrMake_143 (fun z143 H locs e143 hI => ?_)
    replace h := bnd_at h e143
    refine lv_aload_n hx hb dX7_findOrMake_144 rfl (lv_at hl 0 rfl) ?_
    refine gX7_holes hC hI tw_39 dX7_findOrMake_145 ?_
    refine lv_iload hx hb dX7_findOrMake_148 (lv_at hl 6 rfl) ?_
    refine lv_aload_n hx hb dX7_findOrMake_150 rfl (lv_at hl 0 rfl) ?_
    refine lv_iload hx hb dX7_findOrMake_151 (lv_at hl 6 rfl) ?_
    replace h := bp_at h
    obtain ⟨r153, e153, h⟩ := h
    refine r_calli (rest := [.int v7, .ref (ad 6)]) hC hI oX_1 (C := "EqualCourt$Terms") rfl ywX7_isHole tw_349 (cX7_isHole_ok  e153) ⟨Nat.le_of_ble_eq_true rfl, Nat.le_of_ble_eq_true rfl⟩ ⟨rfl, rfl⟩ rfl hl.1 rfl (Nat.le_of_ble_eq_true rfl) dX7_findOrMake_153 (fun H locs hI => ?_)
    refine lv_if_eq (tgt := 168) hx hb dX7_findOrMake_156 (by decide) (fun c156 => ?_) (fun c156 => ?_)
    · replace h := if_t h c156
      refine lv_iconst (v := 0) hx hb dX7_findOrMake_168 (by decide) ?_
      exact w169 v1 v2 v3 v4 v5 v7 (0 : Int32) v7 z143 _ _ _ hI hl h
    · replace h := if_f h c156
      refine lv_iconst (v := 1) hx hb dX7_findOrMake_159 (by decide) ?_
      refine lv_iload_n hx hb dX7_findOrMake_160 rfl (lv_at hl 2 rfl) ?_
      refine lv_bipush (v := 90) hx hb dX7_findOrMake_161 (by decide) ?_
      refine lv_isub hx hb dX7_findOrMake_163 ?_
      refine lv_ishl hx hb dX7_findOrMake_164 ?_
      refine lv_goto (tgt := 169) hx hb dX7_findOrMake_165 (by decide) ?_
      exact w169 v1 v2 v3 v4 v5 v7 ((1 : Int32) <<< ((v2 - (90 : Int32)) &&& 31)) v7 z143 _ _ _ hI hl h
  refine lv_aload_n hx hb dX7_findOrMake_0 rfl (lv_at hl 0 rfl) ?_
  refine lv_iload_n hx hb dX7_findOrMake_1 rfl (lv_at hl 1 rfl) ?_
  refine lv_iload_n hx hb dX7_findOrMake_2 rfl (lv_at hl 2 rfl) ?_
  refine lv_iload_n hx hb dX7_findOrMake_3 rfl (lv_at hl 3 rfl) ?_
  refine lv_iload hx hb dX7_findOrMake_4 (lv_at hl 4 rfl) ?_
  refine lv_iload hx hb dX7_findOrMake_6 (lv_at hl 5 rfl) ?_
  replace h := bp_at h
  obtain ⟨r8, e8, h⟩ := h
  refine r_calli (rest := []) hC hI oX_1 (C := "EqualCourt$Terms") rfl ywX7_find tw_341 (cX7_find_ok  e8) ⟨Nat.le_of_ble_eq_true rfl, Nat.le_of_ble_eq_true rfl⟩ ⟨rfl, rfl⟩ rfl hl.1 rfl (Nat.le_of_ble_eq_true rfl) dX7_findOrMake_8 (fun H locs hI => ?_)
  refine lv_istore (lv' := [(6, .int r8), (0, .ref (ad 1)), (1, .int v1), (2, .int v2), (3, .int v3), (4, .int v4), (5, .int v5)]) hx hb dX7_findOrMake_11 hl (by decide) rfl (fun ls hl => ?_)
  refine lv_iload hx hb dX7_findOrMake_13 (lv_at hl 0 rfl) ?_
  refine lv_iconst (v := -1) hx hb dX7_findOrMake_15 (by decide) ?_
  refine lv_icmp_ne (tgt := 28) hx hb dX7_findOrMake_16 (by decide) (fun c16 => ?_) (fun c16 => ?_)
  · replace h := if_f h c16
    refine lv_iload hx hb dX7_findOrMake_28 (lv_at hl 0 rfl) ?_
    exact hret h dX7_findOrMake_30 hI
  · replace h := if_t h c16
    refine lv_aload_n hx hb dX7_findOrMake_19 rfl (lv_at hl 1 rfl) ?_
    refine gX7_count hC hI tw_46 dX7_findOrMake_20 ?_
    refine lv_bipush (v := 120) hx hb dX7_findOrMake_23 (by decide) ?_
    refine lv_icmp_lt (tgt := 31) hx hb dX7_findOrMake_25 (by decide) (fun c25 => ?_) (fun c25 => ?_)
    · replace h := if_t h c25
      refine lv_aload_n hx hb dX7_findOrMake_31 rfl (lv_at hl 1 rfl) ?_
      refine gX7_count hC hI tw_46 dX7_findOrMake_32 ?_
      refine lv_topi (fun x35 e35 => ?_)
      replace h := bnd_at h e35
      refine lv_istore (lv' := [(7, .int x35), (6, .int r8), (0, .ref (ad 1)), (1, .int v1), (2, .int v2), (3, .int v3), (4, .int v4), (5, .int v5)]) hx hb dX7_findOrMake_35 hl (by decide) rfl (fun ls hl => ?_)
      refine lv_aload_n hx hb dX7_findOrMake_37 rfl (lv_at hl 2 rfl) ?_
      refine lv_dup hx hb dX7_findOrMake_38 rfl ?_
      refine gX7_count hC hI tw_46 dX7_findOrMake_39 ?_
      refine lv_iconst (v := 1) hx hb dX7_findOrMake_42 (by decide) ?_
      refine lv_iadd hx hb dX7_findOrMake_43 ?_
      refine pX7_count hC hI tw_46 dX7_findOrMake_44 (fun z44 H locs e44 hI => ?_)
      replace h := bnd_at h e44
      refine lv_aload_n hx hb dX7_findOrMake_47 rfl (lv_at hl 2 rfl) ?_
      refine gX7_kinds hC hI tw_31 dX7_findOrMake_48 ?_
      refine lv_iload hx hb dX7_findOrMake_51 (lv_at hl 0 rfl) ?_
      refine lv_iload_n hx hb dX7_findOrMake_53 rfl (lv_at hl 3 rfl) ?_
      have g54 := (gd_at h).1
      replace h := (gd_at h).2
      refine r_iast hC hI aX_2 g54 dX7_findOrMake_54 (fun z54 H locs e54 hI => ?_)
      replace h := bnd_at h e54
      refine lv_aload_n hx hb dX7_findOrMake_55 rfl (lv_at hl 2 rfl) ?_
      refine gX7_shown hC hI tw_33 dX7_findOrMake_56 ?_
      refine lv_iload hx hb dX7_findOrMake_59 (lv_at hl 0 rfl) ?_
      refine lv_iload_n hx hb dX7_findOrMake_61 rfl (lv_at hl 4 rfl) ?_
      have g62 := (gd_at h).1
      replace h := (gd_at h).2
      refine r_iast hC hI aX_3 g62 dX7_findOrMake_62 (fun z62 H locs e62 hI => ?_)
      replace h := bnd_at h e62
      refine lv_aload_n hx hb dX7_findOrMake_63 rfl (lv_at hl 2 rfl) ?_
      refine gX7_sizes hC hI tw_35 dX7_findOrMake_64 ?_
      refine lv_iload hx hb dX7_findOrMake_67 (lv_at hl 0 rfl) ?_
      refine lv_iload_n hx hb dX7_findOrMake_69 rfl (lv_at hl 5 rfl) ?_
      refine lv_iconst (v := -1) hx hb dX7_findOrMake_70 (by decide) ?_
      refine lv_icmp_ne (tgt := 78) hx hb dX7_findOrMake_71 (by decide) (fun c71 => ?_) (fun c71 => ?_)
      · replace h := if_f h c71
        refine lv_iload hx hb dX7_findOrMake_78 (lv_at hl 6 rfl) ?_
        refine lv_iconst (v := -1) hx hb dX7_findOrMake_80 (by decide) ?_
        refine lv_icmp_ne (tgt := 88) hx hb dX7_findOrMake_81 (by decide) (fun c81 => ?_) (fun c81 => ?_)
        · replace h := if_f h c81
          refine lv_iload hx hb dX7_findOrMake_88 (lv_at hl 7 rfl) ?_
          refine lv_iconst (v := -1) hx hb dX7_findOrMake_90 (by decide) ?_
          refine lv_icmp_ne (tgt := 98) hx hb dX7_findOrMake_91 (by decide) (fun c91 => ?_) (fun c91 => ?_)
          · replace h := if_f h c91
            refine lv_iconst (v := 3) hx hb dX7_findOrMake_98 (by decide) ?_
            exact w99 v1 v2 v3 v4 v5 x35 (3 : Int32) x35 z62 _ _ _ hI (lv_sub hl [2, 3, 4, 5, 6, 7, 0] rfl) h
          · replace h := if_t h c91
            refine lv_iconst (v := 2) hx hb dX7_findOrMake_94 (by decide) ?_
            refine lv_goto (tgt := 99) hx hb dX7_findOrMake_95 (by decide) ?_
            exact w99 v1 v2 v3 v4 v5 x35 (2 : Int32) x35 z62 _ _ _ hI (lv_sub hl [2, 3, 4, 5, 6, 7, 0] rfl) h
        · replace h := if_t h c81
          refine lv_iconst (v := 1) hx hb dX7_findOrMake_84 (by decide) ?_
          refine lv_goto (tgt := 99) hx hb dX7_findOrMake_85 (by decide) ?_
          exact w99 v1 v2 v3 v4 v5 x35 (1 : Int32) x35 z62 _ _ _ hI (lv_sub hl [2, 3, 4, 5, 6, 7, 0] rfl) h
      · replace h := if_t h c71
        refine lv_iconst (v := 0) hx hb dX7_findOrMake_74 (by decide) ?_
        refine lv_goto (tgt := 99) hx hb dX7_findOrMake_75 (by decide) ?_
        exact w99 v1 v2 v3 v4 v5 x35 (0 : Int32) x35 z62 _ _ _ hI (lv_sub hl [2, 3, 4, 5, 6, 7, 0] rfl) h
    · replace h := if_f h c25
      refine lv_iload hx hb dX7_findOrMake_28 (lv_at hl 0 rfl) ?_
      exact hret h dX7_findOrMake_30 hI
theorem dX7_unmakeFrom_0 : decode cX7_unmakeFrom 0 = .ok (.aload_n 0, 1) := by decide +kernel
theorem dX7_unmakeFrom_1 : decode cX7_unmakeFrom 1 = .ok (.getfield 45, 3) := by decide +kernel
theorem dX7_unmakeFrom_4 : decode cX7_unmakeFrom 4 = .ok (.iconst 1, 1) := by decide +kernel
theorem dX7_unmakeFrom_5 : decode cX7_unmakeFrom 5 = .ok (.isub, 1) := by decide +kernel
theorem dX7_unmakeFrom_6 : decode cX7_unmakeFrom 6 = .ok (.istore_n 2, 1) := by decide +kernel
theorem dX7_unmakeFrom_7 : decode cX7_unmakeFrom 7 = .ok (.iload_n 2, 1) := by decide +kernel
theorem dX7_unmakeFrom_8 : decode cX7_unmakeFrom 8 = .ok (.iload_n 1, 1) := by decide +kernel
theorem dX7_unmakeFrom_9 : decode cX7_unmakeFrom 9 = .ok (.if_icmp .lt 109, 3) := by decide +kernel
theorem dX7_unmakeFrom_12 : decode cX7_unmakeFrom 12 = .ok (.iconst 3, 1) := by decide +kernel
theorem dX7_unmakeFrom_13 : decode cX7_unmakeFrom 13 = .ok (.iload_n 2, 1) := by decide +kernel
theorem dX7_unmakeFrom_14 : decode cX7_unmakeFrom 14 = .ok (.imul, 1) := by decide +kernel
theorem dX7_unmakeFrom_15 : decode cX7_unmakeFrom 15 = .ok (.istore_n 3, 1) := by decide +kernel
theorem dX7_unmakeFrom_16 : decode cX7_unmakeFrom 16 = .ok (.iload_n 3, 1) := by decide +kernel
theorem dX7_unmakeFrom_17 : decode cX7_unmakeFrom 17 = .ok (.aload_n 0, 1) := by decide +kernel
theorem dX7_unmakeFrom_18 : decode cX7_unmakeFrom 18 = .ok (.getfield 18, 3) := by decide +kernel
theorem dX7_unmakeFrom_21 : decode cX7_unmakeFrom 21 = .ok (.iload_n 2, 1) := by decide +kernel
theorem dX7_unmakeFrom_22 : decode cX7_unmakeFrom 22 = .ok (.iaload, 1) := by decide +kernel
theorem dX7_unmakeFrom_23 : decode cX7_unmakeFrom 23 = .ok (.iadd, 1) := by decide +kernel
theorem dX7_unmakeFrom_24 : decode cX7_unmakeFrom 24 = .ok (.iconst 1, 1) := by decide +kernel
theorem dX7_unmakeFrom_25 : decode cX7_unmakeFrom 25 = .ok (.isub, 1) := by decide +kernel
theorem dX7_unmakeFrom_26 : decode cX7_unmakeFrom 26 = .ok (.istore 4, 2) := by decide +kernel
theorem dX7_unmakeFrom_28 : decode cX7_unmakeFrom 28 = .ok (.iload 4, 2) := by decide +kernel
theorem dX7_unmakeFrom_30 : decode cX7_unmakeFrom 30 = .ok (.iload_n 3, 1) := by decide +kernel
theorem dX7_unmakeFrom_31 : decode cX7_unmakeFrom 31 = .ok (.if_icmp .lt 28, 3) := by decide +kernel
theorem dX7_unmakeFrom_34 : decode cX7_unmakeFrom 34 = .ok (.aload_n 0, 1) := by decide +kernel
theorem dX7_unmakeFrom_35 : decode cX7_unmakeFrom 35 = .ok (.getfield 33, 3) := by decide +kernel
theorem dX7_unmakeFrom_38 : decode cX7_unmakeFrom 38 = .ok (.aload_n 0, 1) := by decide +kernel
theorem dX7_unmakeFrom_39 : decode cX7_unmakeFrom 39 = .ok (.getfield 21, 3) := by decide +kernel
theorem dX7_unmakeFrom_42 : decode cX7_unmakeFrom 42 = .ok (.iload 4, 2) := by decide +kernel
theorem dX7_unmakeFrom_44 : decode cX7_unmakeFrom 44 = .ok (.iaload, 1) := by decide +kernel
theorem dX7_unmakeFrom_45 : decode cX7_unmakeFrom 45 = .ok (.aload_n 0, 1) := by decide +kernel
theorem dX7_unmakeFrom_46 : decode cX7_unmakeFrom 46 = .ok (.getfield 36, 3) := by decide +kernel
theorem dX7_unmakeFrom_49 : decode cX7_unmakeFrom 49 = .ok (.iload 4, 2) := by decide +kernel
theorem dX7_unmakeFrom_51 : decode cX7_unmakeFrom 51 = .ok (.iaload, 1) := by decide +kernel
theorem dX7_unmakeFrom_52 : decode cX7_unmakeFrom 52 = .ok (.iastore, 1) := by decide +kernel
theorem dX7_unmakeFrom_53 : decode cX7_unmakeFrom 53 = .ok (.iinc 4 (-1), 3) := by decide +kernel
theorem dX7_unmakeFrom_56 : decode cX7_unmakeFrom 56 = .ok (.goto (-28), 3) := by decide +kernel
theorem dX7_unmakeFrom_59 : decode cX7_unmakeFrom 59 = .ok (.aload_n 0, 1) := by decide +kernel
theorem dX7_unmakeFrom_60 : decode cX7_unmakeFrom 60 = .ok (.getfield 27, 3) := by decide +kernel
theorem dX7_unmakeFrom_63 : decode cX7_unmakeFrom 63 = .ok (.aload_n 0, 1) := by decide +kernel
theorem dX7_unmakeFrom_64 : decode cX7_unmakeFrom 64 = .ok (.getfield 9, 3) := by decide +kernel
theorem dX7_unmakeFrom_67 : decode cX7_unmakeFrom 67 = .ok (.iload_n 2, 1) := by decide +kernel
theorem dX7_unmakeFrom_68 : decode cX7_unmakeFrom 68 = .ok (.iaload, 1) := by decide +kernel
theorem dX7_unmakeFrom_69 : decode cX7_unmakeFrom 69 = .ok (.aload_n 0, 1) := by decide +kernel
theorem dX7_unmakeFrom_70 : decode cX7_unmakeFrom 70 = .ok (.getfield 15, 3) := by decide +kernel
theorem dX7_unmakeFrom_73 : decode cX7_unmakeFrom 73 = .ok (.iload_n 2, 1) := by decide +kernel
theorem dX7_unmakeFrom_74 : decode cX7_unmakeFrom 74 = .ok (.iaload, 1) := by decide +kernel
theorem dX7_unmakeFrom_75 : decode cX7_unmakeFrom 75 = .ok (.aload_n 0, 1) := by decide +kernel
theorem dX7_unmakeFrom_76 : decode cX7_unmakeFrom 76 = .ok (.getfield 21, 3) := by decide +kernel
theorem dX7_unmakeFrom_79 : decode cX7_unmakeFrom 79 = .ok (.iload_n 3, 1) := by decide +kernel
theorem dX7_unmakeFrom_80 : decode cX7_unmakeFrom 80 = .ok (.iaload, 1) := by decide +kernel
theorem dX7_unmakeFrom_81 : decode cX7_unmakeFrom 81 = .ok (.aload_n 0, 1) := by decide +kernel
theorem dX7_unmakeFrom_82 : decode cX7_unmakeFrom 82 = .ok (.getfield 21, 3) := by decide +kernel
theorem dX7_unmakeFrom_85 : decode cX7_unmakeFrom 85 = .ok (.iload_n 3, 1) := by decide +kernel
theorem dX7_unmakeFrom_86 : decode cX7_unmakeFrom 86 = .ok (.iconst 1, 1) := by decide +kernel
theorem dX7_unmakeFrom_87 : decode cX7_unmakeFrom 87 = .ok (.iadd, 1) := by decide +kernel
theorem dX7_unmakeFrom_88 : decode cX7_unmakeFrom 88 = .ok (.iaload, 1) := by decide +kernel
theorem dX7_unmakeFrom_89 : decode cX7_unmakeFrom 89 = .ok (.aload_n 0, 1) := by decide +kernel
theorem dX7_unmakeFrom_90 : decode cX7_unmakeFrom 90 = .ok (.getfield 21, 3) := by decide +kernel
theorem dX7_unmakeFrom_93 : decode cX7_unmakeFrom 93 = .ok (.iload_n 3, 1) := by decide +kernel
theorem dX7_unmakeFrom_94 : decode cX7_unmakeFrom 94 = .ok (.iconst 2, 1) := by decide +kernel
theorem dX7_unmakeFrom_95 : decode cX7_unmakeFrom 95 = .ok (.iadd, 1) := by decide +kernel
theorem dX7_unmakeFrom_96 : decode cX7_unmakeFrom 96 = .ok (.iaload, 1) := by decide +kernel
theorem dX7_unmakeFrom_97 : decode cX7_unmakeFrom 97 = .ok (.invokestatic 49, 3) := by decide +kernel
theorem dX7_unmakeFrom_100 : decode cX7_unmakeFrom 100 = .ok (.aload_n 0, 1) := by decide +kernel
theorem dX7_unmakeFrom_101 : decode cX7_unmakeFrom 101 = .ok (.getfield 30, 3) := by decide +kernel
theorem dX7_unmakeFrom_104 : decode cX7_unmakeFrom 104 = .ok (.iload_n 2, 1) := by decide +kernel
theorem dX7_unmakeFrom_105 : decode cX7_unmakeFrom 105 = .ok (.iaload, 1) := by decide +kernel
theorem dX7_unmakeFrom_106 : decode cX7_unmakeFrom 106 = .ok (.iastore, 1) := by decide +kernel
theorem dX7_unmakeFrom_107 : decode cX7_unmakeFrom 107 = .ok (.aload_n 0, 1) := by decide +kernel
theorem dX7_unmakeFrom_108 : decode cX7_unmakeFrom 108 = .ok (.iload_n 2, 1) := by decide +kernel
theorem dX7_unmakeFrom_109 : decode cX7_unmakeFrom 109 = .ok (.putfield 45, 3) := by decide +kernel
theorem dX7_unmakeFrom_112 : decode cX7_unmakeFrom 112 = .ok (.iinc 2 (-1), 3) := by decide +kernel
theorem dX7_unmakeFrom_115 : decode cX7_unmakeFrom 115 = .ok (.goto (-108), 3) := by decide +kernel
theorem dX7_unmakeFrom_118 : decode cX7_unmakeFrom 118 = .ok (.return_, 1) := by decide +kernel
abbrev rmX7_unmakeFrom : Room := { frames := 1, cells := 0, slots := 0, locals := 25 }
def jX7_unmakeFrom_59  (rc : Int32 → fS → Option fS) (v1 : Int32) (v2 : Int32) (v3 : Int32) (z : fS) : Option fS :=
  gd (inb v2 120) <|
  gd (inb v2 120) <|
  gd (inb v3 360) <|
  gd (inb (v3 + (1 : Int32)) 360) <|
  gd (inb (v3 + (2 : Int32)) 360) <|
  bp (fX8_slotFor z (rd z 2 v2) (rd z 3 v2) (rd z 5 v3) (rd z 5 (v3 + (1 : Int32))) (rd z 5 (v3 + (2 : Int32)))) fun r97 =>
  gd (inb v2 120) <|
  gd (inb r97 128) <|
  bnd (wr z 7 r97 (rd z 8 v2)) fun z106 =>
  bnd (wf z106 1 9 v2) fun z109 =>
  bnd (v2 + (-1 : Int32)) fun x112 =>
  rc x112 z109
def lX7_unmakeFrom_28  (k59 : fS → Option fS) (v1 : Int32) (v2 : Int32) (v3 : Int32) : Nat → Int32 → fS → Option fS
  | 0, _, _ => none
  | N + 1, v4, z =>
    if v4 < v3 then
      k59 z
    else
      gd (inb v4 360) <|
      gd (inb v4 360) <|
      gd (inb (rd z 5 v4) 120) <|
      bnd (wr z 9 (rd z 5 v4) (rd z 10 v4)) fun z52 =>
      bnd (v4 + (-1 : Int32)) fun x53 =>
      (lX7_unmakeFrom_28  k59 v1 v2 v3 N) x53 z52
def lX7_unmakeFrom_7   (v1 : Int32) : Nat → Int32 → fS → Option fS
  | 0, _, _ => none
  | N + 1, v2, z =>
    if v2 < v1 then
      some z
    else
      bnd ((3 : Int32) * v2) fun x15 =>
      gd (inb v2 120) <|
      bnd ((x15 + (rd z 4 v2)) - (1 : Int32)) fun x26 =>
      lX7_unmakeFrom_28  (jX7_unmakeFrom_59  (lX7_unmakeFrom_7   v1 N) v1 v2 x15) v1 v2 x15 FU x26 z
def fX7_unmakeFrom (z : fS) (v1 : Int32) : Option fS :=
  bnd ((z 1 9) - (1 : Int32)) fun x6 =>
  lX7_unmakeFrom_7   v1 FU x6 z
theorem ywX7_unmakeFrom : fY yX7_unmakeFrom "EqualCourt$Terms" cX7_unmakeFrom 5 none 1 := ⟨tw_765, tw_766, tw_2, tw_767, by decide +kernel⟩
set_option maxHeartbeats 4000000 in
set_option maxRecDepth 100000 in
theorem cX7_unmakeFrom_ok {D : va_G} {ad : Nat → Nat} {cy cz : ClassId} {l : Launch} {z : fS} {v1 : Int32} {τ : fS} (h : fX7_unmakeFrom z v1 = some τ) : fMv D 76 ad (cfX ad cy cz) cy cz l yX7_unmakeFrom cX7_unmakeFrom 5 none rmX7_unmakeFrom [.ref (ad 1), .int v1] z τ := by
  refine f_bodyv (by decide) (Nat.le_of_ble_eq_true rfl) (fun p e s m args below meth c Q hC hret ls hl hI => ?_)
  have hx := hC.1
  have hb := hC.2.1
  have hl : lv_has ls 5 [(0, .ref (ad 1)), (1, .int v1)] := hl
  unfold fX7_unmakeFrom at h
  refine lv_aload_n hx hb dX7_unmakeFrom_0 rfl (lv_at hl 0 rfl) ?_
  refine gX7_count hC hI tw_46 dX7_unmakeFrom_1 ?_
  refine lv_iconst (v := 1) hx hb dX7_unmakeFrom_4 (by decide) ?_
  refine lv_isub hx hb dX7_unmakeFrom_5 ?_
  refine lv_topi (fun x6 e6 => ?_)
  replace h := bnd_at h e6
  refine lv_istore_n (lv' := [(2, .int x6), (0, .ref (ad 1)), (1, .int v1)]) hx hb dX7_unmakeFrom_6 rfl hl (by decide) rfl (fun ls hl => ?_)
  have w7 : ∀ (N7 : Nat) (v1 : Int32) (v2 : Int32) (z : fS) (H : Heap) (locs : List Loc) (ls : Array Slot), fI D 76 ad (cfX ad cy cz) z s H locs → lv_has ls 5 [(0, .ref (ad 1)), (1, .int v1), (2, .int v2)] → lX7_unmakeFrom_7   v1 N7 v2 z = some τ → W p l e rmX7_unmakeFrom s m args below meth c H locs 0 0 Q (F0 m 7 ls []) := by
    intro N7
    induction N7 with
    | zero =>
      intro v1 v2 z H locs ls hI hl h
      exact none_no h
    | succ N7 ih7 =>
      have w59 : ∀ (v1 : Int32) (v2 : Int32) (v3 : Int32) (z : fS) (H : Heap) (locs : List Loc) (ls : Array Slot), fI D 76 ad (cfX ad cy cz) z s H locs → lv_has ls 5 [(0, .ref (ad 1)), (1, .int v1), (2, .int v2), (3, .int v3)] → jX7_unmakeFrom_59  (lX7_unmakeFrom_7   v1 N7) v1 v2 v3 z = some τ → W p l e rmX7_unmakeFrom s m args below meth c H locs 0 0 Q (F0 m 59 ls []) := by
        intro v1 v2 v3 z H locs ls hI hl h
        unfold jX7_unmakeFrom_59 at h
        refine lv_aload_n hx hb dX7_unmakeFrom_59 rfl (lv_at hl 0 rfl) ?_
        refine gX7_buckets hC hI tw_40 dX7_unmakeFrom_60 ?_
        refine lv_aload_n hx hb dX7_unmakeFrom_63 rfl (lv_at hl 0 rfl) ?_
        refine gX7_kinds hC hI tw_31 dX7_unmakeFrom_64 ?_
        refine lv_iload_n hx hb dX7_unmakeFrom_67 rfl (lv_at hl 2 rfl) ?_
        have g68 := (gd_at h).1
        replace h := (gd_at h).2
        refine r_iald hC hI aX_2 g68 dX7_unmakeFrom_68 ?_
        refine lv_aload_n hx hb dX7_unmakeFrom_69 rfl (lv_at hl 0 rfl) ?_
        refine gX7_shown hC hI tw_33 dX7_unmakeFrom_70 ?_
        refine lv_iload_n hx hb dX7_unmakeFrom_73 rfl (lv_at hl 2 rfl) ?_
        have g74 := (gd_at h).1
        replace h := (gd_at h).2
        refine r_iald hC hI aX_3 g74 dX7_unmakeFrom_74 ?_
        refine lv_aload_n hx hb dX7_unmakeFrom_75 rfl (lv_at hl 0 rfl) ?_
        refine gX7_parts hC hI tw_37 dX7_unmakeFrom_76 ?_
        refine lv_iload_n hx hb dX7_unmakeFrom_79 rfl (lv_at hl 3 rfl) ?_
        have g80 := (gd_at h).1
        replace h := (gd_at h).2
        refine r_iald hC hI aX_5 g80 dX7_unmakeFrom_80 ?_
        refine lv_aload_n hx hb dX7_unmakeFrom_81 rfl (lv_at hl 0 rfl) ?_
        refine gX7_parts hC hI tw_37 dX7_unmakeFrom_82 ?_
        refine lv_iload_n hx hb dX7_unmakeFrom_85 rfl (lv_at hl 3 rfl) ?_
        refine lv_iconst (v := 1) hx hb dX7_unmakeFrom_86 (by decide) ?_
        refine lv_iadd hx hb dX7_unmakeFrom_87 ?_
        have g88 := (gd_at h).1
        replace h := (gd_at h).2
        refine r_iald hC hI aX_5 g88 dX7_unmakeFrom_88 ?_
        refine lv_aload_n hx hb dX7_unmakeFrom_89 rfl (lv_at hl 0 rfl) ?_
        refine gX7_parts hC hI tw_37 dX7_unmakeFrom_90 ?_
        refine lv_iload_n hx hb dX7_unmakeFrom_93 rfl (lv_at hl 3 rfl) ?_
        refine lv_iconst (v := 2) hx hb dX7_unmakeFrom_94 (by decide) ?_
        refine lv_iadd hx hb dX7_unmakeFrom_95 ?_
        have g96 := (gd_at h).1
        replace h := (gd_at h).2
        refine r_iald hC hI aX_5 g96 dX7_unmakeFrom_96 ?_
        replace h := bp_at h
        obtain ⟨r97, e97, h⟩ := h
        refine r_callsn (rest := [.ref (ad 7)]) hC hI tw_347 tw_1 tw_346 (by decide +kernel) (host := "EqualCourt") (index := 49) (np := 5) (by decide) (cX8_slotFor_ok  e97) ⟨Nat.le_of_ble_eq_true rfl, Nat.le_of_ble_eq_true rfl⟩ ⟨rfl, rfl⟩ rfl hl.1 rfl (Nat.le_of_ble_eq_true rfl) dX7_unmakeFrom_97 (fun H locs hI => ?_)
        refine lv_aload_n hx hb dX7_unmakeFrom_100 rfl (lv_at hl 0 rfl) ?_
        refine gX7_chain hC hI tw_41 dX7_unmakeFrom_101 ?_
        refine lv_iload_n hx hb dX7_unmakeFrom_104 rfl (lv_at hl 2 rfl) ?_
        have g105 := (gd_at h).1
        replace h := (gd_at h).2
        refine r_iald hC hI aX_8 g105 dX7_unmakeFrom_105 ?_
        have g106 := (gd_at h).1
        replace h := (gd_at h).2
        refine r_iast hC hI aX_7 g106 dX7_unmakeFrom_106 (fun z106 H locs e106 hI => ?_)
        replace h := bnd_at h e106
        refine lv_aload_n hx hb dX7_unmakeFrom_107 rfl (lv_at hl 0 rfl) ?_
        refine lv_iload_n hx hb dX7_unmakeFrom_108 rfl (lv_at hl 2 rfl) ?_
        refine pX7_count hC hI tw_46 dX7_unmakeFrom_109 (fun z109 H locs e109 hI => ?_)
        replace h := bnd_at h e109
        obtain ⟨x112, e112⟩ : ∃ y : Int32, y = (v2 + (-1 : Int32)) := ⟨_, rfl⟩
        replace h := bnd_at h e112
        refine lv_iinc (v := x112) (lv' := [(2, .int x112), (0, .ref (ad 1)), (1, .int v1), (3, .int v3)]) hx hb dX7_unmakeFrom_112 hl (k := 2) rfl (by rw [e112]; rfl) (by decide) rfl (fun ls hl => ?_)
        refine lv_goto (tgt := 7) hx hb dX7_unmakeFrom_115 (by decide) ?_
        exact ih7 v1 x112 z109 _ _ _ hI (lv_sub hl [1, 2, 0] rfl) h
      intro v1 v2 z H locs ls hI hl h
      rw [lX7_unmakeFrom_7.eq_2] at h
      refine lv_iload_n hx hb dX7_unmakeFrom_7 rfl (lv_at hl 2 rfl) ?_
      refine lv_iload_n hx hb dX7_unmakeFrom_8 rfl (lv_at hl 1 rfl) ?_
      refine lv_icmp_lt (tgt := 118) hx hb dX7_unmakeFrom_9 (by decide) (fun c9 => ?_) (fun c9 => ?_)
      · replace h := if_t h c9
        exact hret h dX7_unmakeFrom_118 hI
      · replace h := if_f h c9
        refine lv_iconst (v := 3) hx hb dX7_unmakeFrom_12 (by decide) ?_
        refine lv_iload_n hx hb dX7_unmakeFrom_13 rfl (lv_at hl 2 rfl) ?_
        refine lv_imul hx hb dX7_unmakeFrom_14 ?_
        refine lv_topi (fun x15 e15 => ?_)
        replace h := bnd_at h e15
        refine lv_istore_n (lv' := [(3, .int x15), (0, .ref (ad 1)), (1, .int v1), (2, .int v2)]) hx hb dX7_unmakeFrom_15 rfl hl (by decide) rfl (fun ls hl => ?_)
        refine lv_iload_n hx hb dX7_unmakeFrom_16 rfl (lv_at hl 0 rfl) ?_
        refine lv_aload_n hx hb dX7_unmakeFrom_17 rfl (lv_at hl 1 rfl) ?_
        refine gX7_sizes hC hI tw_35 dX7_unmakeFrom_18 ?_
        refine lv_iload_n hx hb dX7_unmakeFrom_21 rfl (lv_at hl 3 rfl) ?_
        have g22 := (gd_at h).1
        replace h := (gd_at h).2
        refine r_iald hC hI aX_4 g22 dX7_unmakeFrom_22 ?_
        refine lv_iadd hx hb dX7_unmakeFrom_23 ?_
        refine lv_iconst (v := 1) hx hb dX7_unmakeFrom_24 (by decide) ?_
        refine lv_isub hx hb dX7_unmakeFrom_25 ?_
        refine lv_topi (fun x26 e26 => ?_)
        replace h := bnd_at h e26
        refine lv_istore (lv' := [(4, .int x26), (3, .int x15), (0, .ref (ad 1)), (1, .int v1), (2, .int v2)]) hx hb dX7_unmakeFrom_26 hl (by decide) rfl (fun ls hl => ?_)
        have w28 : ∀ (N28 : Nat) (v1 : Int32) (v2 : Int32) (v3 : Int32) (v4 : Int32) (z : fS) (H : Heap) (locs : List Loc) (ls : Array Slot), fI D 76 ad (cfX ad cy cz) z s H locs → lv_has ls 5 [(0, .ref (ad 1)), (1, .int v1), (2, .int v2), (3, .int v3), (4, .int v4)] → lX7_unmakeFrom_28  (jX7_unmakeFrom_59  (lX7_unmakeFrom_7   v1 N7) v1 v2 v3) v1 v2 v3 N28 v4 z = some τ → W p l e rmX7_unmakeFrom s m args below meth c H locs 0 0 Q (F0 m 28 ls []) := by
          intro N28
          induction N28 with
          | zero =>
            intro v1 v2 v3 v4 z H locs ls hI hl h
            exact none_no h
          | succ N28 ih28 =>
            intro v1 v2 v3 v4 z H locs ls hI hl h
            rw [lX7_unmakeFrom_28.eq_2] at h
            refine lv_iload hx hb dX7_unmakeFrom_28 (lv_at hl 4 rfl) ?_
            refine lv_iload_n hx hb dX7_unmakeFrom_30 rfl (lv_at hl 3 rfl) ?_
            refine lv_icmp_lt (tgt := 59) hx hb dX7_unmakeFrom_31 (by decide) (fun c31 => ?_) (fun c31 => ?_)
            · replace h := if_t h c31
              exact w59 v1 v2 v3 z _ _ _ hI (lv_sub hl [0, 1, 2, 3] rfl) h
            · replace h := if_f h c31
              refine lv_aload_n hx hb dX7_unmakeFrom_34 rfl (lv_at hl 0 rfl) ?_
              refine gX7_firstPlace hC hI tw_42 dX7_unmakeFrom_35 ?_
              refine lv_aload_n hx hb dX7_unmakeFrom_38 rfl (lv_at hl 0 rfl) ?_
              refine gX7_parts hC hI tw_37 dX7_unmakeFrom_39 ?_
              refine lv_iload hx hb dX7_unmakeFrom_42 (lv_at hl 4 rfl) ?_
              have g44 := (gd_at h).1
              replace h := (gd_at h).2
              refine r_iald hC hI aX_5 g44 dX7_unmakeFrom_44 ?_
              refine lv_aload_n hx hb dX7_unmakeFrom_45 rfl (lv_at hl 0 rfl) ?_
              refine gX7_nextPlace hC hI tw_44 dX7_unmakeFrom_46 ?_
              refine lv_iload hx hb dX7_unmakeFrom_49 (lv_at hl 4 rfl) ?_
              have g51 := (gd_at h).1
              replace h := (gd_at h).2
              refine r_iald hC hI aX_10 g51 dX7_unmakeFrom_51 ?_
              have g52 := (gd_at h).1
              replace h := (gd_at h).2
              refine r_iast hC hI aX_9 g52 dX7_unmakeFrom_52 (fun z52 H locs e52 hI => ?_)
              replace h := bnd_at h e52
              obtain ⟨x53, e53⟩ : ∃ y : Int32, y = (v4 + (-1 : Int32)) := ⟨_, rfl⟩
              replace h := bnd_at h e53
              refine lv_iinc (v := x53) (lv' := [(4, .int x53), (0, .ref (ad 1)), (1, .int v1), (2, .int v2), (3, .int v3)]) hx hb dX7_unmakeFrom_53 hl (k := 4) rfl (by rw [e53]; rfl) (by decide) rfl (fun ls hl => ?_)
              refine lv_goto (tgt := 28) hx hb dX7_unmakeFrom_56 (by decide) ?_
              exact ih28 v1 v2 v3 x53 z52 _ _ _ hI (lv_sub hl [1, 2, 3, 4, 0] rfl) h
        exact w28 FU v1 v2 x15 x26 z _ _ _ hI (lv_sub hl [2, 3, 4, 1, 0] rfl) h
  exact w7 FU v1 x6 z _ _ _ hI (lv_sub hl [1, 2, 0] rfl) h
end
section
theorem dX0_putPair_0 : decode cX0_putPair 0 = .ok (.aload_n 0, 1) := by decide +kernel
theorem dX0_putPair_1 : decode cX0_putPair 1 = .ok (.getfield 25, 3) := by decide +kernel
theorem dX0_putPair_4 : decode cX0_putPair 4 = .ok (.sipush 242, 3) := by decide +kernel
theorem dX0_putPair_7 : decode cX0_putPair 7 = .ok (.if_icmp .ge 33, 3) := by decide +kernel
theorem dX0_putPair_10 : decode cX0_putPair 10 = .ok (.aload_n 0, 1) := by decide +kernel
theorem dX0_putPair_11 : decode cX0_putPair 11 = .ok (.getfield 11, 3) := by decide +kernel
theorem dX0_putPair_14 : decode cX0_putPair 14 = .ok (.aload_n 0, 1) := by decide +kernel
theorem dX0_putPair_15 : decode cX0_putPair 15 = .ok (.getfield 25, 3) := by decide +kernel
theorem dX0_putPair_18 : decode cX0_putPair 18 = .ok (.iload_n 1, 1) := by decide +kernel
theorem dX0_putPair_19 : decode cX0_putPair 19 = .ok (.iastore, 1) := by decide +kernel
theorem dX0_putPair_20 : decode cX0_putPair 20 = .ok (.aload_n 0, 1) := by decide +kernel
theorem dX0_putPair_21 : decode cX0_putPair 21 = .ok (.getfield 15, 3) := by decide +kernel
theorem dX0_putPair_24 : decode cX0_putPair 24 = .ok (.aload_n 0, 1) := by decide +kernel
theorem dX0_putPair_25 : decode cX0_putPair 25 = .ok (.getfield 25, 3) := by decide +kernel
theorem dX0_putPair_28 : decode cX0_putPair 28 = .ok (.iload_n 2, 1) := by decide +kernel
theorem dX0_putPair_29 : decode cX0_putPair 29 = .ok (.iastore, 1) := by decide +kernel
theorem dX0_putPair_30 : decode cX0_putPair 30 = .ok (.aload_n 0, 1) := by decide +kernel
theorem dX0_putPair_31 : decode cX0_putPair 31 = .ok (.dup, 1) := by decide +kernel
theorem dX0_putPair_32 : decode cX0_putPair 32 = .ok (.getfield 25, 3) := by decide +kernel
theorem dX0_putPair_35 : decode cX0_putPair 35 = .ok (.iconst 1, 1) := by decide +kernel
theorem dX0_putPair_36 : decode cX0_putPair 36 = .ok (.iadd, 1) := by decide +kernel
theorem dX0_putPair_37 : decode cX0_putPair 37 = .ok (.putfield 25, 3) := by decide +kernel
theorem dX0_putPair_40 : decode cX0_putPair 40 = .ok (.return_, 1) := by decide +kernel
abbrev rmX0_putPair : Room := { frames := 0, cells := 0, slots := 0, locals := 0 }
def fX0_putPair (z : fS) (v1 : Int32) (v2 : Int32) : Option fS :=
  if (242 : Int32) ≤ (z 23 4) then
    some z
  else
    gd (inb (z 23 4) 242) <|
    bnd (wr z 24 (z 23 4) v1) fun z19 =>
    gd (inb (z19 23 4) 242) <|
    bnd (wr z19 25 (z19 23 4) v2) fun z29 =>
    bnd (wf z29 23 4 ((z29 23 4) + (1 : Int32))) fun z37 =>
    some z37
theorem ywX0_putPair : fY yX0_putPair "EqualCourt$Agenda" cX0_putPair 3 none 2 := ⟨tw_379, tw_380, tw_7, tw_381, by decide +kernel⟩
set_option maxHeartbeats 4000000 in
set_option maxRecDepth 100000 in
theorem cX0_putPair_ok {D : va_G} {ad : Nat → Nat} {cy cz : ClassId} {l : Launch} {z : fS} {v1 : Int32} {v2 : Int32} {τ : fS} (h : fX0_putPair z v1 v2 = some τ) : fMv D 76 ad (cfX ad cy cz) cy cz l yX0_putPair cX0_putPair 3 none rmX0_putPair [.ref (ad 23), .int v1, .int v2] z τ := by
  refine f_bodyv (by decide) (Nat.le_of_ble_eq_true rfl) (fun p e s m args below meth c Q hC hret ls hl hI => ?_)
  have hx := hC.1
  have hb := hC.2.1
  have hl : lv_has ls 3 [(0, .ref (ad 23)), (1, .int v1), (2, .int v2)] := hl
  unfold fX0_putPair at h
  refine lv_aload_n hx hb dX0_putPair_0 rfl (lv_at hl 0 rfl) ?_
  refine gX0_pairCount hC hI tw_130 dX0_putPair_1 ?_
  refine lv_sipush (v := 242) hx hb dX0_putPair_4 (by decide) ?_
  refine lv_icmp_ge (tgt := 40) hx hb dX0_putPair_7 (by decide) (fun c7 => ?_) (fun c7 => ?_)
  · replace h := if_t h c7
    exact hret h dX0_putPair_40 hI
  · replace h := if_f h c7
    refine lv_aload_n hx hb dX0_putPair_10 rfl (lv_at hl 0 rfl) ?_
    refine gX0_lefts hC hI tw_126 dX0_putPair_11 ?_
    refine lv_aload_n hx hb dX0_putPair_14 rfl (lv_at hl 0 rfl) ?_
    refine gX0_pairCount hC hI tw_130 dX0_putPair_15 ?_
    refine lv_iload_n hx hb dX0_putPair_18 rfl (lv_at hl 1 rfl) ?_
    have g19 := (gd_at h).1
    replace h := (gd_at h).2
    refine r_iast hC hI aX_24 g19 dX0_putPair_19 (fun z19 H locs e19 hI => ?_)
    replace h := bnd_at h e19
    refine lv_aload_n hx hb dX0_putPair_20 rfl (lv_at hl 0 rfl) ?_
    refine gX0_rights hC hI tw_127 dX0_putPair_21 ?_
    refine lv_aload_n hx hb dX0_putPair_24 rfl (lv_at hl 0 rfl) ?_
    refine gX0_pairCount hC hI tw_130 dX0_putPair_25 ?_
    refine lv_iload_n hx hb dX0_putPair_28 rfl (lv_at hl 2 rfl) ?_
    have g29 := (gd_at h).1
    replace h := (gd_at h).2
    refine r_iast hC hI aX_25 g29 dX0_putPair_29 (fun z29 H locs e29 hI => ?_)
    replace h := bnd_at h e29
    refine lv_aload_n hx hb dX0_putPair_30 rfl (lv_at hl 0 rfl) ?_
    refine lv_dup hx hb dX0_putPair_31 rfl ?_
    refine gX0_pairCount hC hI tw_130 dX0_putPair_32 ?_
    refine lv_iconst (v := 1) hx hb dX0_putPair_35 (by decide) ?_
    refine lv_iadd hx hb dX0_putPair_36 ?_
    refine pX0_pairCount hC hI tw_130 dX0_putPair_37 (fun z37 H locs e37 hI => ?_)
    replace h := bnd_at h e37
    exact hret h dX0_putPair_40 hI
theorem dX0_hasPair_0 : decode cX0_hasPair 0 = .ok (.aload_n 0, 1) := by decide +kernel
theorem dX0_hasPair_1 : decode cX0_hasPair 1 = .ok (.getfield 25, 3) := by decide +kernel
theorem dX0_hasPair_4 : decode cX0_hasPair 4 = .ok (.ifCond .le 7, 3) := by decide +kernel
theorem dX0_hasPair_7 : decode cX0_hasPair 7 = .ok (.iconst 1, 1) := by decide +kernel
theorem dX0_hasPair_8 : decode cX0_hasPair 8 = .ok (.goto 4, 3) := by decide +kernel
theorem dX0_hasPair_11 : decode cX0_hasPair 11 = .ok (.iconst 0, 1) := by decide +kernel
theorem dX0_hasPair_12 : decode cX0_hasPair 12 = .ok (.ireturn, 1) := by decide +kernel
abbrev rmX0_hasPair : Room := { frames := 0, cells := 0, slots := 0, locals := 0 }
def fX0_hasPair (z : fS) : Option Int32 :=
  if (z 23 4) ≤ 0 then
    some (0 : Int32)
  else
    some (1 : Int32)
theorem ywX0_hasPair : fY yX0_hasPair "EqualCourt$Agenda" cX0_hasPair 1 (some .boolean) 0 := ⟨tw_384, tw_385, tw_7, tw_386, by decide +kernel⟩
set_option maxHeartbeats 4000000 in
set_option maxRecDepth 100000 in
theorem cX0_hasPair_ok {D : va_G} {ad : Nat → Nat} {cy cz : ClassId} {l : Launch} {z : fS}  {r : Int32} (h : fX0_hasPair z = some r) : fMi D 76 ad (cfX ad cy cz) cy cz l yX0_hasPair cX0_hasPair 1 (some .boolean) rmX0_hasPair [.ref (ad 23)] z r z := by
  refine f_bodyz (by decide) (Nat.le_of_ble_eq_true rfl) (fun p e s m args below meth c Q hC hret ls hl hI => ?_)
  have hx := hC.1
  have hb := hC.2.1
  have hl : lv_has ls 1 [(0, .ref (ad 23))] := hl
  unfold fX0_hasPair at h
  refine lv_aload_n hx hb dX0_hasPair_0 rfl (lv_at hl 0 rfl) ?_
  refine gX0_pairCount hC hI tw_130 dX0_hasPair_1 ?_
  refine lv_if_le (tgt := 11) hx hb dX0_hasPair_4 (by decide) (fun c4 => ?_) (fun c4 => ?_)
  · replace h := if_t h c4
    refine lv_iconst (v := 0) hx hb dX0_hasPair_11 (by decide) ?_
    exact hret (ret_p _ h) (by decide) dX0_hasPair_12 hI
  · replace h := if_f h c4
    refine lv_iconst (v := 1) hx hb dX0_hasPair_7 (by decide) ?_
    refine lv_goto (tgt := 12) hx hb dX0_hasPair_8 (by decide) ?_
    exact hret (ret_p _ h) (by decide) dX0_hasPair_12 hI
theorem dX0_lastLeft_0 : decode cX0_lastLeft 0 = .ok (.aload_n 0, 1) := by decide +kernel
theorem dX0_lastLeft_1 : decode cX0_lastLeft 1 = .ok (.getfield 11, 3) := by decide +kernel
theorem dX0_lastLeft_4 : decode cX0_lastLeft 4 = .ok (.aload_n 0, 1) := by decide +kernel
theorem dX0_lastLeft_5 : decode cX0_lastLeft 5 = .ok (.getfield 25, 3) := by decide +kernel
theorem dX0_lastLeft_8 : decode cX0_lastLeft 8 = .ok (.iconst 1, 1) := by decide +kernel
theorem dX0_lastLeft_9 : decode cX0_lastLeft 9 = .ok (.isub, 1) := by decide +kernel
theorem dX0_lastLeft_10 : decode cX0_lastLeft 10 = .ok (.iaload, 1) := by decide +kernel
theorem dX0_lastLeft_11 : decode cX0_lastLeft 11 = .ok (.ireturn, 1) := by decide +kernel
abbrev rmX0_lastLeft : Room := { frames := 0, cells := 0, slots := 0, locals := 0 }
def fX0_lastLeft (z : fS) : Option Int32 :=
  gd (inb ((z 23 4) - (1 : Int32)) 242) <|
  some (rd z 24 ((z 23 4) - (1 : Int32)))
theorem ywX0_lastLeft : fY yX0_lastLeft "EqualCourt$Agenda" cX0_lastLeft 1 (some .int) 0 := ⟨tw_388, tw_389, tw_7, tw_390, by decide +kernel⟩
set_option maxHeartbeats 4000000 in
set_option maxRecDepth 100000 in
theorem cX0_lastLeft_ok {D : va_G} {ad : Nat → Nat} {cy cz : ClassId} {l : Launch} {z : fS}  {r : Int32} (h : fX0_lastLeft z = some r) : fMi D 76 ad (cfX ad cy cz) cy cz l yX0_lastLeft cX0_lastLeft 1 (some .int) rmX0_lastLeft [.ref (ad 23)] z r z := by
  refine f_bodyi (by decide) (Nat.le_of_ble_eq_true rfl) (fun p e s m args below meth c Q hC hret ls hl hI => ?_)
  have hx := hC.1
  have hb := hC.2.1
  have hl : lv_has ls 1 [(0, .ref (ad 23))] := hl
  unfold fX0_lastLeft at h
  refine lv_aload_n hx hb dX0_lastLeft_0 rfl (lv_at hl 0 rfl) ?_
  refine gX0_lefts hC hI tw_126 dX0_lastLeft_1 ?_
  refine lv_aload_n hx hb dX0_lastLeft_4 rfl (lv_at hl 0 rfl) ?_
  refine gX0_pairCount hC hI tw_130 dX0_lastLeft_5 ?_
  refine lv_iconst (v := 1) hx hb dX0_lastLeft_8 (by decide) ?_
  refine lv_isub hx hb dX0_lastLeft_9 ?_
  have g10 := (gd_at h).1
  replace h := (gd_at h).2
  refine r_iald hC hI aX_24 g10 dX0_lastLeft_10 ?_
  exact hret (ret_p _ h) dX0_lastLeft_11 hI
theorem dX0_lastRight_0 : decode cX0_lastRight 0 = .ok (.aload_n 0, 1) := by decide +kernel
theorem dX0_lastRight_1 : decode cX0_lastRight 1 = .ok (.getfield 15, 3) := by decide +kernel
theorem dX0_lastRight_4 : decode cX0_lastRight 4 = .ok (.aload_n 0, 1) := by decide +kernel
theorem dX0_lastRight_5 : decode cX0_lastRight 5 = .ok (.getfield 25, 3) := by decide +kernel
theorem dX0_lastRight_8 : decode cX0_lastRight 8 = .ok (.iconst 1, 1) := by decide +kernel
theorem dX0_lastRight_9 : decode cX0_lastRight 9 = .ok (.isub, 1) := by decide +kernel
theorem dX0_lastRight_10 : decode cX0_lastRight 10 = .ok (.iaload, 1) := by decide +kernel
theorem dX0_lastRight_11 : decode cX0_lastRight 11 = .ok (.ireturn, 1) := by decide +kernel
abbrev rmX0_lastRight : Room := { frames := 0, cells := 0, slots := 0, locals := 0 }
def fX0_lastRight (z : fS) : Option Int32 :=
  gd (inb ((z 23 4) - (1 : Int32)) 242) <|
  some (rd z 25 ((z 23 4) - (1 : Int32)))
theorem ywX0_lastRight : fY yX0_lastRight "EqualCourt$Agenda" cX0_lastRight 1 (some .int) 0 := ⟨tw_392, tw_393, tw_7, tw_394, by decide +kernel⟩
set_option maxHeartbeats 4000000 in
set_option maxRecDepth 100000 in
theorem cX0_lastRight_ok {D : va_G} {ad : Nat → Nat} {cy cz : ClassId} {l : Launch} {z : fS}  {r : Int32} (h : fX0_lastRight z = some r) : fMi D 76 ad (cfX ad cy cz) cy cz l yX0_lastRight cX0_lastRight 1 (some .int) rmX0_lastRight [.ref (ad 23)] z r z := by
  refine f_bodyi (by decide) (Nat.le_of_ble_eq_true rfl) (fun p e s m args below meth c Q hC hret ls hl hI => ?_)
  have hx := hC.1
  have hb := hC.2.1
  have hl : lv_has ls 1 [(0, .ref (ad 23))] := hl
  unfold fX0_lastRight at h
  refine lv_aload_n hx hb dX0_lastRight_0 rfl (lv_at hl 0 rfl) ?_
  refine gX0_rights hC hI tw_127 dX0_lastRight_1 ?_
  refine lv_aload_n hx hb dX0_lastRight_4 rfl (lv_at hl 0 rfl) ?_
  refine gX0_pairCount hC hI tw_130 dX0_lastRight_5 ?_
  refine lv_iconst (v := 1) hx hb dX0_lastRight_8 (by decide) ?_
  refine lv_isub hx hb dX0_lastRight_9 ?_
  have g10 := (gd_at h).1
  replace h := (gd_at h).2
  refine r_iald hC hI aX_25 g10 dX0_lastRight_10 ?_
  exact hret (ret_p _ h) dX0_lastRight_11 hI
theorem dX0_removePair_0 : decode cX0_removePair 0 = .ok (.aload_n 0, 1) := by decide +kernel
theorem dX0_removePair_1 : decode cX0_removePair 1 = .ok (.dup, 1) := by decide +kernel
theorem dX0_removePair_2 : decode cX0_removePair 2 = .ok (.getfield 25, 3) := by decide +kernel
theorem dX0_removePair_5 : decode cX0_removePair 5 = .ok (.iconst 1, 1) := by decide +kernel
theorem dX0_removePair_6 : decode cX0_removePair 6 = .ok (.isub, 1) := by decide +kernel
theorem dX0_removePair_7 : decode cX0_removePair 7 = .ok (.putfield 25, 3) := by decide +kernel
theorem dX0_removePair_10 : decode cX0_removePair 10 = .ok (.return_, 1) := by decide +kernel
abbrev rmX0_removePair : Room := { frames := 0, cells := 0, slots := 0, locals := 0 }
def fX0_removePair (z : fS) : Option fS :=
  bnd (wf z 23 4 ((z 23 4) - (1 : Int32))) fun z7 =>
  some z7
theorem ywX0_removePair : fY yX0_removePair "EqualCourt$Agenda" cX0_removePair 1 none 0 := ⟨tw_396, tw_397, tw_7, tw_398, by decide +kernel⟩
set_option maxHeartbeats 4000000 in
set_option maxRecDepth 100000 in
theorem cX0_removePair_ok {D : va_G} {ad : Nat → Nat} {cy cz : ClassId} {l : Launch} {z : fS}  {τ : fS} (h : fX0_removePair z = some τ) : fMv D 76 ad (cfX ad cy cz) cy cz l yX0_removePair cX0_removePair 1 none rmX0_removePair [.ref (ad 23)] z τ := by
  refine f_bodyv (by decide) (Nat.le_of_ble_eq_true rfl) (fun p e s m args below meth c Q hC hret ls hl hI => ?_)
  have hx := hC.1
  have hb := hC.2.1
  have hl : lv_has ls 1 [(0, .ref (ad 23))] := hl
  unfold fX0_removePair at h
  refine lv_aload_n hx hb dX0_removePair_0 rfl (lv_at hl 0 rfl) ?_
  refine lv_dup hx hb dX0_removePair_1 rfl ?_
  refine gX0_pairCount hC hI tw_130 dX0_removePair_2 ?_
  refine lv_iconst (v := 1) hx hb dX0_removePair_5 (by decide) ?_
  refine lv_isub hx hb dX0_removePair_6 ?_
  refine pX0_pairCount hC hI tw_130 dX0_removePair_7 (fun z7 H locs e7 hI => ?_)
  replace h := bnd_at h e7
  exact hret h dX0_removePair_10 hI
theorem dX0_putChanged_0 : decode cX0_putChanged 0 = .ok (.aload_n 0, 1) := by decide +kernel
theorem dX0_putChanged_1 : decode cX0_putChanged 1 = .ok (.getfield 21, 3) := by decide +kernel
theorem dX0_putChanged_4 : decode cX0_putChanged 4 = .ok (.iload_n 1, 1) := by decide +kernel
theorem dX0_putChanged_5 : decode cX0_putChanged 5 = .ok (.baload, 1) := by decide +kernel
theorem dX0_putChanged_6 : decode cX0_putChanged 6 = .ok (.ifCond .ne 39, 3) := by decide +kernel
theorem dX0_putChanged_9 : decode cX0_putChanged 9 = .ok (.aload_n 0, 1) := by decide +kernel
theorem dX0_putChanged_10 : decode cX0_putChanged 10 = .ok (.getfield 29, 3) := by decide +kernel
theorem dX0_putChanged_13 : decode cX0_putChanged 13 = .ok (.bipush 120, 2) := by decide +kernel
theorem dX0_putChanged_15 : decode cX0_putChanged 15 = .ok (.if_icmp .ge 30, 3) := by decide +kernel
theorem dX0_putChanged_18 : decode cX0_putChanged 18 = .ok (.aload_n 0, 1) := by decide +kernel
theorem dX0_putChanged_19 : decode cX0_putChanged 19 = .ok (.getfield 21, 3) := by decide +kernel
theorem dX0_putChanged_22 : decode cX0_putChanged 22 = .ok (.iload_n 1, 1) := by decide +kernel
theorem dX0_putChanged_23 : decode cX0_putChanged 23 = .ok (.iconst 1, 1) := by decide +kernel
theorem dX0_putChanged_24 : decode cX0_putChanged 24 = .ok (.bastore, 1) := by decide +kernel
theorem dX0_putChanged_25 : decode cX0_putChanged 25 = .ok (.aload_n 0, 1) := by decide +kernel
theorem dX0_putChanged_26 : decode cX0_putChanged 26 = .ok (.getfield 18, 3) := by decide +kernel
theorem dX0_putChanged_29 : decode cX0_putChanged 29 = .ok (.aload_n 0, 1) := by decide +kernel
theorem dX0_putChanged_30 : decode cX0_putChanged 30 = .ok (.getfield 29, 3) := by decide +kernel
theorem dX0_putChanged_33 : decode cX0_putChanged 33 = .ok (.iload_n 1, 1) := by decide +kernel
theorem dX0_putChanged_34 : decode cX0_putChanged 34 = .ok (.iastore, 1) := by decide +kernel
theorem dX0_putChanged_35 : decode cX0_putChanged 35 = .ok (.aload_n 0, 1) := by decide +kernel
theorem dX0_putChanged_36 : decode cX0_putChanged 36 = .ok (.dup, 1) := by decide +kernel
theorem dX0_putChanged_37 : decode cX0_putChanged 37 = .ok (.getfield 29, 3) := by decide +kernel
theorem dX0_putChanged_40 : decode cX0_putChanged 40 = .ok (.iconst 1, 1) := by decide +kernel
theorem dX0_putChanged_41 : decode cX0_putChanged 41 = .ok (.iadd, 1) := by decide +kernel
theorem dX0_putChanged_42 : decode cX0_putChanged 42 = .ok (.putfield 29, 3) := by decide +kernel
theorem dX0_putChanged_45 : decode cX0_putChanged 45 = .ok (.return_, 1) := by decide +kernel
abbrev rmX0_putChanged : Room := { frames := 0, cells := 0, slots := 0, locals := 0 }
def fX0_putChanged (z : fS) (v1 : Int32) : Option fS :=
  gd (inb v1 120) <|
  if (rd z 27 v1) = 0 then
    if (120 : Int32) ≤ (z 23 5) then
      some z
    else
      gd (inb v1 120) <|
      bnd (wr z 27 v1 (zb (1 : Int32))) fun z24 =>
      gd (inb (z24 23 5) 120) <|
      bnd (wr z24 26 (z24 23 5) v1) fun z34 =>
      bnd (wf z34 23 5 ((z34 23 5) + (1 : Int32))) fun z42 =>
      some z42
  else
    some z
theorem ywX0_putChanged : fY yX0_putChanged "EqualCourt$Agenda" cX0_putChanged 2 none 1 := ⟨tw_371, tw_372, tw_7, tw_373, by decide +kernel⟩
set_option maxHeartbeats 4000000 in
set_option maxRecDepth 100000 in
theorem cX0_putChanged_ok {D : va_G} {ad : Nat → Nat} {cy cz : ClassId} {l : Launch} {z : fS} {v1 : Int32} {τ : fS} (h : fX0_putChanged z v1 = some τ) : fMv D 76 ad (cfX ad cy cz) cy cz l yX0_putChanged cX0_putChanged 2 none rmX0_putChanged [.ref (ad 23), .int v1] z τ := by
  refine f_bodyv (by decide) (Nat.le_of_ble_eq_true rfl) (fun p e s m args below meth c Q hC hret ls hl hI => ?_)
  have hx := hC.1
  have hb := hC.2.1
  have hl : lv_has ls 2 [(0, .ref (ad 23)), (1, .int v1)] := hl
  unfold fX0_putChanged at h
  refine lv_aload_n hx hb dX0_putChanged_0 rfl (lv_at hl 0 rfl) ?_
  refine gX0_waits hC hI tw_129 dX0_putChanged_1 ?_
  refine lv_iload_n hx hb dX0_putChanged_4 rfl (lv_at hl 1 rfl) ?_
  have g5 := (gd_at h).1
  replace h := (gd_at h).2
  refine r_zald hC hI aX_27 g5 dX0_putChanged_5 ?_
  refine lv_if_ne (tgt := 45) hx hb dX0_putChanged_6 (by decide) (fun c6 => ?_) (fun c6 => ?_)
  · replace h := if_f h c6
    exact hret h dX0_putChanged_45 hI
  · replace h := if_t h c6
    refine lv_aload_n hx hb dX0_putChanged_9 rfl (lv_at hl 0 rfl) ?_
    refine gX0_changedCount hC hI tw_131 dX0_putChanged_10 ?_
    refine lv_bipush (v := 120) hx hb dX0_putChanged_13 (by decide) ?_
    refine lv_icmp_ge (tgt := 45) hx hb dX0_putChanged_15 (by decide) (fun c15 => ?_) (fun c15 => ?_)
    · replace h := if_t h c15
      exact hret h dX0_putChanged_45 hI
    · replace h := if_f h c15
      refine lv_aload_n hx hb dX0_putChanged_18 rfl (lv_at hl 0 rfl) ?_
      refine gX0_waits hC hI tw_129 dX0_putChanged_19 ?_
      refine lv_iload_n hx hb dX0_putChanged_22 rfl (lv_at hl 1 rfl) ?_
      refine lv_iconst (v := 1) hx hb dX0_putChanged_23 (by decide) ?_
      have g24 := (gd_at h).1
      replace h := (gd_at h).2
      refine r_zast hC hI aX_27 g24 dX0_putChanged_24 (fun z24 H locs e24 hI => ?_)
      replace h := bnd_at h e24
      refine lv_aload_n hx hb dX0_putChanged_25 rfl (lv_at hl 0 rfl) ?_
      refine gX0_changed hC hI tw_128 dX0_putChanged_26 ?_
      refine lv_aload_n hx hb dX0_putChanged_29 rfl (lv_at hl 0 rfl) ?_
      refine gX0_changedCount hC hI tw_131 dX0_putChanged_30 ?_
      refine lv_iload_n hx hb dX0_putChanged_33 rfl (lv_at hl 1 rfl) ?_
      have g34 := (gd_at h).1
      replace h := (gd_at h).2
      refine r_iast hC hI aX_26 g34 dX0_putChanged_34 (fun z34 H locs e34 hI => ?_)
      replace h := bnd_at h e34
      refine lv_aload_n hx hb dX0_putChanged_35 rfl (lv_at hl 0 rfl) ?_
      refine lv_dup hx hb dX0_putChanged_36 rfl ?_
      refine gX0_changedCount hC hI tw_131 dX0_putChanged_37 ?_
      refine lv_iconst (v := 1) hx hb dX0_putChanged_40 (by decide) ?_
      refine lv_iadd hx hb dX0_putChanged_41 ?_
      refine pX0_changedCount hC hI tw_131 dX0_putChanged_42 (fun z42 H locs e42 hI => ?_)
      replace h := bnd_at h e42
      exact hret h dX0_putChanged_45 hI
theorem dX0_hasChanged_0 : decode cX0_hasChanged 0 = .ok (.aload_n 0, 1) := by decide +kernel
theorem dX0_hasChanged_1 : decode cX0_hasChanged 1 = .ok (.getfield 29, 3) := by decide +kernel
theorem dX0_hasChanged_4 : decode cX0_hasChanged 4 = .ok (.ifCond .le 7, 3) := by decide +kernel
theorem dX0_hasChanged_7 : decode cX0_hasChanged 7 = .ok (.iconst 1, 1) := by decide +kernel
theorem dX0_hasChanged_8 : decode cX0_hasChanged 8 = .ok (.goto 4, 3) := by decide +kernel
theorem dX0_hasChanged_11 : decode cX0_hasChanged 11 = .ok (.iconst 0, 1) := by decide +kernel
theorem dX0_hasChanged_12 : decode cX0_hasChanged 12 = .ok (.ireturn, 1) := by decide +kernel
abbrev rmX0_hasChanged : Room := { frames := 0, cells := 0, slots := 0, locals := 0 }
def fX0_hasChanged (z : fS) : Option Int32 :=
  if (z 23 5) ≤ 0 then
    some (0 : Int32)
  else
    some (1 : Int32)
theorem ywX0_hasChanged : fY yX0_hasChanged "EqualCourt$Agenda" cX0_hasChanged 1 (some .boolean) 0 := ⟨tw_411, tw_412, tw_7, tw_413, by decide +kernel⟩
set_option maxHeartbeats 4000000 in
set_option maxRecDepth 100000 in
theorem cX0_hasChanged_ok {D : va_G} {ad : Nat → Nat} {cy cz : ClassId} {l : Launch} {z : fS}  {r : Int32} (h : fX0_hasChanged z = some r) : fMi D 76 ad (cfX ad cy cz) cy cz l yX0_hasChanged cX0_hasChanged 1 (some .boolean) rmX0_hasChanged [.ref (ad 23)] z r z := by
  refine f_bodyz (by decide) (Nat.le_of_ble_eq_true rfl) (fun p e s m args below meth c Q hC hret ls hl hI => ?_)
  have hx := hC.1
  have hb := hC.2.1
  have hl : lv_has ls 1 [(0, .ref (ad 23))] := hl
  unfold fX0_hasChanged at h
  refine lv_aload_n hx hb dX0_hasChanged_0 rfl (lv_at hl 0 rfl) ?_
  refine gX0_changedCount hC hI tw_131 dX0_hasChanged_1 ?_
  refine lv_if_le (tgt := 11) hx hb dX0_hasChanged_4 (by decide) (fun c4 => ?_) (fun c4 => ?_)
  · replace h := if_t h c4
    refine lv_iconst (v := 0) hx hb dX0_hasChanged_11 (by decide) ?_
    exact hret (ret_p _ h) (by decide) dX0_hasChanged_12 hI
  · replace h := if_f h c4
    refine lv_iconst (v := 1) hx hb dX0_hasChanged_7 (by decide) ?_
    refine lv_goto (tgt := 12) hx hb dX0_hasChanged_8 (by decide) ?_
    exact hret (ret_p _ h) (by decide) dX0_hasChanged_12 hI
theorem dX0_takeChanged_0 : decode cX0_takeChanged 0 = .ok (.aload_n 0, 1) := by decide +kernel
theorem dX0_takeChanged_1 : decode cX0_takeChanged 1 = .ok (.dup, 1) := by decide +kernel
theorem dX0_takeChanged_2 : decode cX0_takeChanged 2 = .ok (.getfield 29, 3) := by decide +kernel
theorem dX0_takeChanged_5 : decode cX0_takeChanged 5 = .ok (.iconst 1, 1) := by decide +kernel
theorem dX0_takeChanged_6 : decode cX0_takeChanged 6 = .ok (.isub, 1) := by decide +kernel
theorem dX0_takeChanged_7 : decode cX0_takeChanged 7 = .ok (.putfield 29, 3) := by decide +kernel
theorem dX0_takeChanged_10 : decode cX0_takeChanged 10 = .ok (.aload_n 0, 1) := by decide +kernel
theorem dX0_takeChanged_11 : decode cX0_takeChanged 11 = .ok (.getfield 18, 3) := by decide +kernel
theorem dX0_takeChanged_14 : decode cX0_takeChanged 14 = .ok (.aload_n 0, 1) := by decide +kernel
theorem dX0_takeChanged_15 : decode cX0_takeChanged 15 = .ok (.getfield 29, 3) := by decide +kernel
theorem dX0_takeChanged_18 : decode cX0_takeChanged 18 = .ok (.iaload, 1) := by decide +kernel
theorem dX0_takeChanged_19 : decode cX0_takeChanged 19 = .ok (.istore_n 1, 1) := by decide +kernel
theorem dX0_takeChanged_20 : decode cX0_takeChanged 20 = .ok (.aload_n 0, 1) := by decide +kernel
theorem dX0_takeChanged_21 : decode cX0_takeChanged 21 = .ok (.getfield 21, 3) := by decide +kernel
theorem dX0_takeChanged_24 : decode cX0_takeChanged 24 = .ok (.iload_n 1, 1) := by decide +kernel
theorem dX0_takeChanged_25 : decode cX0_takeChanged 25 = .ok (.iconst 0, 1) := by decide +kernel
theorem dX0_takeChanged_26 : decode cX0_takeChanged 26 = .ok (.bastore, 1) := by decide +kernel
theorem dX0_takeChanged_27 : decode cX0_takeChanged 27 = .ok (.iload_n 1, 1) := by decide +kernel
theorem dX0_takeChanged_28 : decode cX0_takeChanged 28 = .ok (.ireturn, 1) := by decide +kernel
abbrev rmX0_takeChanged : Room := { frames := 0, cells := 0, slots := 0, locals := 0 }
def fX0_takeChanged (z : fS) : Option (Int32 × fS) :=
  bnd (wf z 23 5 ((z 23 5) - (1 : Int32))) fun z7 =>
  gd (inb (z7 23 5) 120) <|
  bnd (rd z7 26 (z7 23 5)) fun x19 =>
  gd (inb x19 120) <|
  bnd (wr z7 27 x19 (zb (0 : Int32))) fun z26 =>
  some (x19, z26)
theorem ywX0_takeChanged : fY yX0_takeChanged "EqualCourt$Agenda" cX0_takeChanged 2 (some .int) 0 := ⟨tw_415, tw_416, tw_7, tw_417, by decide +kernel⟩
set_option maxHeartbeats 4000000 in
set_option maxRecDepth 100000 in
theorem cX0_takeChanged_ok {D : va_G} {ad : Nat → Nat} {cy cz : ClassId} {l : Launch} {z : fS}  {r : Int32} {τ : fS} (h : fX0_takeChanged z = some (r, τ)) : fMi D 76 ad (cfX ad cy cz) cy cz l yX0_takeChanged cX0_takeChanged 2 (some .int) rmX0_takeChanged [.ref (ad 23)] z r τ := by
  refine f_bodyi (by decide) (Nat.le_of_ble_eq_true rfl) (fun p e s m args below meth c Q hC hret ls hl hI => ?_)
  have hx := hC.1
  have hb := hC.2.1
  have hl : lv_has ls 2 [(0, .ref (ad 23))] := hl
  unfold fX0_takeChanged at h
  refine lv_aload_n hx hb dX0_takeChanged_0 rfl (lv_at hl 0 rfl) ?_
  refine lv_dup hx hb dX0_takeChanged_1 rfl ?_
  refine gX0_changedCount hC hI tw_131 dX0_takeChanged_2 ?_
  refine lv_iconst (v := 1) hx hb dX0_takeChanged_5 (by decide) ?_
  refine lv_isub hx hb dX0_takeChanged_6 ?_
  refine pX0_changedCount hC hI tw_131 dX0_takeChanged_7 (fun z7 H locs e7 hI => ?_)
  replace h := bnd_at h e7
  refine lv_aload_n hx hb dX0_takeChanged_10 rfl (lv_at hl 0 rfl) ?_
  refine gX0_changed hC hI tw_128 dX0_takeChanged_11 ?_
  refine lv_aload_n hx hb dX0_takeChanged_14 rfl (lv_at hl 0 rfl) ?_
  refine gX0_changedCount hC hI tw_131 dX0_takeChanged_15 ?_
  have g18 := (gd_at h).1
  replace h := (gd_at h).2
  refine r_iald hC hI aX_26 g18 dX0_takeChanged_18 ?_
  refine lv_topi (fun x19 e19 => ?_)
  replace h := bnd_at h e19
  refine lv_istore_n (lv' := [(1, .int x19), (0, .ref (ad 23))]) hx hb dX0_takeChanged_19 rfl hl (by decide) rfl (fun ls hl => ?_)
  refine lv_aload_n hx hb dX0_takeChanged_20 rfl (lv_at hl 1 rfl) ?_
  refine gX0_waits hC hI tw_129 dX0_takeChanged_21 ?_
  refine lv_iload_n hx hb dX0_takeChanged_24 rfl (lv_at hl 0 rfl) ?_
  refine lv_iconst (v := 0) hx hb dX0_takeChanged_25 (by decide) ?_
  have g26 := (gd_at h).1
  replace h := (gd_at h).2
  refine r_zast hC hI aX_27 g26 dX0_takeChanged_26 (fun z26 H locs e26 hI => ?_)
  replace h := bnd_at h e26
  refine lv_iload_n hx hb dX0_takeChanged_27 rfl (lv_at hl 0 rfl) ?_
  exact hret h dX0_takeChanged_28 hI
theorem dX0_clear_0 : decode cX0_clear 0 = .ok (.aload_n 0, 1) := by decide +kernel
theorem dX0_clear_1 : decode cX0_clear 1 = .ok (.iconst 0, 1) := by decide +kernel
theorem dX0_clear_2 : decode cX0_clear 2 = .ok (.putfield 25, 3) := by decide +kernel
theorem dX0_clear_5 : decode cX0_clear 5 = .ok (.iconst 0, 1) := by decide +kernel
theorem dX0_clear_6 : decode cX0_clear 6 = .ok (.istore_n 1, 1) := by decide +kernel
theorem dX0_clear_7 : decode cX0_clear 7 = .ok (.iload_n 1, 1) := by decide +kernel
theorem dX0_clear_8 : decode cX0_clear 8 = .ok (.aload_n 0, 1) := by decide +kernel
theorem dX0_clear_9 : decode cX0_clear 9 = .ok (.getfield 29, 3) := by decide +kernel
theorem dX0_clear_12 : decode cX0_clear 12 = .ok (.if_icmp .ge 21, 3) := by decide +kernel
theorem dX0_clear_15 : decode cX0_clear 15 = .ok (.aload_n 0, 1) := by decide +kernel
theorem dX0_clear_16 : decode cX0_clear 16 = .ok (.getfield 21, 3) := by decide +kernel
theorem dX0_clear_19 : decode cX0_clear 19 = .ok (.aload_n 0, 1) := by decide +kernel
theorem dX0_clear_20 : decode cX0_clear 20 = .ok (.getfield 18, 3) := by decide +kernel
theorem dX0_clear_23 : decode cX0_clear 23 = .ok (.iload_n 1, 1) := by decide +kernel
theorem dX0_clear_24 : decode cX0_clear 24 = .ok (.iaload, 1) := by decide +kernel
theorem dX0_clear_25 : decode cX0_clear 25 = .ok (.iconst 0, 1) := by decide +kernel
theorem dX0_clear_26 : decode cX0_clear 26 = .ok (.bastore, 1) := by decide +kernel
theorem dX0_clear_27 : decode cX0_clear 27 = .ok (.iinc 1 1, 3) := by decide +kernel
theorem dX0_clear_30 : decode cX0_clear 30 = .ok (.goto (-23), 3) := by decide +kernel
theorem dX0_clear_33 : decode cX0_clear 33 = .ok (.aload_n 0, 1) := by decide +kernel
theorem dX0_clear_34 : decode cX0_clear 34 = .ok (.iconst 0, 1) := by decide +kernel
theorem dX0_clear_35 : decode cX0_clear 35 = .ok (.putfield 29, 3) := by decide +kernel
theorem dX0_clear_38 : decode cX0_clear 38 = .ok (.return_, 1) := by decide +kernel
abbrev rmX0_clear : Room := { frames := 0, cells := 0, slots := 0, locals := 0 }
def lX0_clear_7    : Nat → Int32 → fS → Option fS
  | 0, _, _ => none
  | N + 1, v1, z =>
    if (z 23 5) ≤ v1 then
      bnd (wf z 23 5 (0 : Int32)) fun z35 =>
      some z35
    else
      gd (inb v1 120) <|
      gd (inb (rd z 26 v1) 120) <|
      bnd (wr z 27 (rd z 26 v1) (zb (0 : Int32))) fun z26 =>
      bnd (v1 + (1 : Int32)) fun x27 =>
      (lX0_clear_7    N) x27 z26
def fX0_clear (z : fS) : Option fS :=
  bnd (wf z 23 4 (0 : Int32)) fun z2 =>
  lX0_clear_7    FU (0 : Int32) z2
theorem ywX0_clear : fY yX0_clear "EqualCourt$Agenda" cX0_clear 2 none 0 := ⟨tw_436, tw_437, tw_7, tw_438, by decide +kernel⟩
set_option maxHeartbeats 4000000 in
set_option maxRecDepth 100000 in
theorem cX0_clear_ok {D : va_G} {ad : Nat → Nat} {cy cz : ClassId} {l : Launch} {z : fS}  {τ : fS} (h : fX0_clear z = some τ) : fMv D 76 ad (cfX ad cy cz) cy cz l yX0_clear cX0_clear 2 none rmX0_clear [.ref (ad 23)] z τ := by
  refine f_bodyv (by decide) (Nat.le_of_ble_eq_true rfl) (fun p e s m args below meth c Q hC hret ls hl hI => ?_)
  have hx := hC.1
  have hb := hC.2.1
  have hl : lv_has ls 2 [(0, .ref (ad 23))] := hl
  unfold fX0_clear at h
  refine lv_aload_n hx hb dX0_clear_0 rfl (lv_at hl 0 rfl) ?_
  refine lv_iconst (v := 0) hx hb dX0_clear_1 (by decide) ?_
  refine pX0_pairCount hC hI tw_130 dX0_clear_2 (fun z2 H locs e2 hI => ?_)
  replace h := bnd_at h e2
  refine lv_iconst (v := 0) hx hb dX0_clear_5 (by decide) ?_
  refine lv_istore_n (lv' := [(1, .int (0 : Int32)), (0, .ref (ad 23))]) hx hb dX0_clear_6 rfl hl (by decide) rfl (fun ls hl => ?_)
  have w7 : ∀ (N7 : Nat) (v1 : Int32) (z : fS) (H : Heap) (locs : List Loc) (ls : Array Slot), fI D 76 ad (cfX ad cy cz) z s H locs → lv_has ls 2 [(0, .ref (ad 23)), (1, .int v1)] → lX0_clear_7    N7 v1 z = some τ → W p l e rmX0_clear s m args below meth c H locs 0 0 Q (F0 m 7 ls []) := by
    intro N7
    induction N7 with
    | zero =>
      intro v1 z H locs ls hI hl h
      exact none_no h
    | succ N7 ih7 =>
      intro v1 z H locs ls hI hl h
      rw [lX0_clear_7.eq_2] at h
      refine lv_iload_n hx hb dX0_clear_7 rfl (lv_at hl 1 rfl) ?_
      refine lv_aload_n hx hb dX0_clear_8 rfl (lv_at hl 0 rfl) ?_
      refine gX0_changedCount hC hI tw_131 dX0_clear_9 ?_
      refine lv_icmp_ge (tgt := 33) hx hb dX0_clear_12 (by decide) (fun c12 => ?_) (fun c12 => ?_)
      · replace h := if_t h c12
        refine lv_aload_n hx hb dX0_clear_33 rfl (lv_at hl 0 rfl) ?_
        refine lv_iconst (v := 0) hx hb dX0_clear_34 (by decide) ?_
        refine pX0_changedCount hC hI tw_131 dX0_clear_35 (fun z35 H locs e35 hI => ?_)
        replace h := bnd_at h e35
        exact hret h dX0_clear_38 hI
      · replace h := if_f h c12
        refine lv_aload_n hx hb dX0_clear_15 rfl (lv_at hl 0 rfl) ?_
        refine gX0_waits hC hI tw_129 dX0_clear_16 ?_
        refine lv_aload_n hx hb dX0_clear_19 rfl (lv_at hl 0 rfl) ?_
        refine gX0_changed hC hI tw_128 dX0_clear_20 ?_
        refine lv_iload_n hx hb dX0_clear_23 rfl (lv_at hl 1 rfl) ?_
        have g24 := (gd_at h).1
        replace h := (gd_at h).2
        refine r_iald hC hI aX_26 g24 dX0_clear_24 ?_
        refine lv_iconst (v := 0) hx hb dX0_clear_25 (by decide) ?_
        have g26 := (gd_at h).1
        replace h := (gd_at h).2
        refine r_zast hC hI aX_27 g26 dX0_clear_26 (fun z26 H locs e26 hI => ?_)
        replace h := bnd_at h e26
        obtain ⟨x27, e27⟩ : ∃ y : Int32, y = (v1 + (1 : Int32)) := ⟨_, rfl⟩
        replace h := bnd_at h e27
        refine lv_iinc (v := x27) (lv' := [(1, .int x27), (0, .ref (ad 23))]) hx hb dX0_clear_27 hl (k := 1) rfl (by rw [e27]; rfl) (by decide) rfl (fun ls hl => ?_)
        refine lv_goto (tgt := 7) hx hb dX0_clear_30 (by decide) ?_
        exact ih7  x27 z26 _ _ _ hI (lv_sub hl [1, 0] rfl) h
  exact w7 FU  (0 : Int32) z2 _ _ _ hI (lv_sub hl [1, 0] rfl) h
theorem dX1_count_0 : decode cX1_count 0 = .ok (.aload_n 0, 1) := by decide +kernel
theorem dX1_count_1 : decode cX1_count 1 = .ok (.getfield 15, 3) := by decide +kernel
theorem dX1_count_4 : decode cX1_count 4 = .ok (.ireturn, 1) := by decide +kernel
abbrev rmX1_count : Room := { frames := 0, cells := 0, slots := 0, locals := 0 }
def fX1_count (pb : Nat) (z : fS) : Option Int32 :=
  some (z pb 1)
theorem ywX1_count : fY yX1_count "EqualCourt$Core" cX1_count 1 (some .int) 0 := ⟨tw_567, tw_568, tw_6, tw_569, by decide +kernel⟩
set_option maxHeartbeats 4000000 in
set_option maxRecDepth 100000 in
theorem cX1_count_ok {D : va_G} {ad : Nat → Nat} {cy cz : ClassId} {l : Launch} {z : fS} {pb : Nat} (hpb : isK pb) {r : Int32} (h : fX1_count pb z = some r) : fMi D 76 ad (cfX ad cy cz) cy cz l yX1_count cX1_count 1 (some .int) rmX1_count [.ref (ad pb)] z r z := by
  refine f_bodyi (by decide) (Nat.le_of_ble_eq_true rfl) (fun p e s m args below meth c Q hC hret ls hl hI => ?_)
  have hx := hC.1
  have hb := hC.2.1
  have hl : lv_has ls 1 [(0, .ref (ad pb))] := hl
  unfold fX1_count at h
  refine lv_aload_n hx hb dX1_count_0 rfl (lv_at hl 0 rfl) ?_
  refine gX1_count hpb hC hI tw_114 dX1_count_1 ?_
  exact hret (ret_p _ h) dX1_count_4 hI
theorem dX1_at_0 : decode cX1_at 0 = .ok (.iload_n 1, 1) := by decide +kernel
theorem dX1_at_1 : decode cX1_at 1 = .ok (.ifCond .lt 20, 3) := by decide +kernel
theorem dX1_at_4 : decode cX1_at 4 = .ok (.iload_n 1, 1) := by decide +kernel
theorem dX1_at_5 : decode cX1_at 5 = .ok (.aload_n 0, 1) := by decide +kernel
theorem dX1_at_6 : decode cX1_at 6 = .ok (.getfield 15, 3) := by decide +kernel
theorem dX1_at_9 : decode cX1_at 9 = .ok (.if_icmp .ge 12, 3) := by decide +kernel
theorem dX1_at_12 : decode cX1_at 12 = .ok (.aload_n 0, 1) := by decide +kernel
theorem dX1_at_13 : decode cX1_at 13 = .ok (.getfield 9, 3) := by decide +kernel
theorem dX1_at_16 : decode cX1_at 16 = .ok (.iload_n 1, 1) := by decide +kernel
theorem dX1_at_17 : decode cX1_at 17 = .ok (.iaload, 1) := by decide +kernel
theorem dX1_at_18 : decode cX1_at 18 = .ok (.goto 4, 3) := by decide +kernel
theorem dX1_at_21 : decode cX1_at 21 = .ok (.iconst (-1), 1) := by decide +kernel
theorem dX1_at_22 : decode cX1_at 22 = .ok (.ireturn, 1) := by decide +kernel
abbrev rmX1_at : Room := { frames := 0, cells := 0, slots := 0, locals := 0 }
def fX1_at (pb : Nat) (z : fS) (v1 : Int32) : Option Int32 :=
  if v1 < 0 then
    some (-1 : Int32)
  else
    if (z pb 1) ≤ v1 then
      some (-1 : Int32)
    else
      gd (inb v1 100) <|
      some (rd z (pb + 1) v1)
theorem ywX1_at : fY yX1_at "EqualCourt$Core" cX1_at 2 (some .int) 1 := ⟨tw_571, tw_572, tw_6, tw_573, by decide +kernel⟩
set_option maxHeartbeats 4000000 in
set_option maxRecDepth 100000 in
theorem cX1_at_ok {D : va_G} {ad : Nat → Nat} {cy cz : ClassId} {l : Launch} {z : fS} {pb : Nat} (hpb : isK pb) {v1 : Int32} {r : Int32} (h : fX1_at pb z v1 = some r) : fMi D 76 ad (cfX ad cy cz) cy cz l yX1_at cX1_at 2 (some .int) rmX1_at [.ref (ad pb), .int v1] z r z := by
  refine f_bodyi (by decide) (Nat.le_of_ble_eq_true rfl) (fun p e s m args below meth c Q hC hret ls hl hI => ?_)
  have hx := hC.1
  have hb := hC.2.1
  have hl : lv_has ls 2 [(0, .ref (ad pb)), (1, .int v1)] := hl
  unfold fX1_at at h
  refine lv_iload_n hx hb dX1_at_0 rfl (lv_at hl 1 rfl) ?_
  refine lv_if_lt (tgt := 21) hx hb dX1_at_1 (by decide) (fun c1 => ?_) (fun c1 => ?_)
  · replace h := if_t h c1
    refine lv_iconst (v := -1) hx hb dX1_at_21 (by decide) ?_
    exact hret (ret_p _ h) dX1_at_22 hI
  · replace h := if_f h c1
    refine lv_iload_n hx hb dX1_at_4 rfl (lv_at hl 1 rfl) ?_
    refine lv_aload_n hx hb dX1_at_5 rfl (lv_at hl 0 rfl) ?_
    refine gX1_count hpb hC hI tw_114 dX1_at_6 ?_
    refine lv_icmp_ge (tgt := 21) hx hb dX1_at_9 (by decide) (fun c9 => ?_) (fun c9 => ?_)
    · replace h := if_t h c9
      refine lv_iconst (v := -1) hx hb dX1_at_21 (by decide) ?_
      exact hret (ret_p _ h) dX1_at_22 hI
    · replace h := if_f h c9
      refine lv_aload_n hx hb dX1_at_12 rfl (lv_at hl 0 rfl) ?_
      refine gX1_items hpb hC hI tw_113 dX1_at_13 ?_
      refine lv_iload_n hx hb dX1_at_16 rfl (lv_at hl 1 rfl) ?_
      have g17 := (gd_at h).1
      replace h := (gd_at h).2
      refine r_iald hC hI (aK_1 hpb) g17 dX1_at_17 ?_
      refine lv_goto (tgt := 22) hx hb dX1_at_18 (by decide) ?_
      exact hret (ret_p _ h) dX1_at_22 hI
theorem dX1_add_0 : decode cX1_add 0 = .ok (.aload_n 0, 1) := by decide +kernel
theorem dX1_add_1 : decode cX1_add 1 = .ok (.getfield 15, 3) := by decide +kernel
theorem dX1_add_4 : decode cX1_add 4 = .ok (.bipush 100, 2) := by decide +kernel
theorem dX1_add_6 : decode cX1_add 6 = .ok (.if_icmp .ge 23, 3) := by decide +kernel
theorem dX1_add_9 : decode cX1_add 9 = .ok (.aload_n 0, 1) := by decide +kernel
theorem dX1_add_10 : decode cX1_add 10 = .ok (.getfield 9, 3) := by decide +kernel
theorem dX1_add_13 : decode cX1_add 13 = .ok (.aload_n 0, 1) := by decide +kernel
theorem dX1_add_14 : decode cX1_add 14 = .ok (.getfield 15, 3) := by decide +kernel
theorem dX1_add_17 : decode cX1_add 17 = .ok (.iload_n 1, 1) := by decide +kernel
theorem dX1_add_18 : decode cX1_add 18 = .ok (.iastore, 1) := by decide +kernel
theorem dX1_add_19 : decode cX1_add 19 = .ok (.aload_n 0, 1) := by decide +kernel
theorem dX1_add_20 : decode cX1_add 20 = .ok (.dup, 1) := by decide +kernel
theorem dX1_add_21 : decode cX1_add 21 = .ok (.getfield 15, 3) := by decide +kernel
theorem dX1_add_24 : decode cX1_add 24 = .ok (.iconst 1, 1) := by decide +kernel
theorem dX1_add_25 : decode cX1_add 25 = .ok (.iadd, 1) := by decide +kernel
theorem dX1_add_26 : decode cX1_add 26 = .ok (.putfield 15, 3) := by decide +kernel
theorem dX1_add_29 : decode cX1_add 29 = .ok (.return_, 1) := by decide +kernel
abbrev rmX1_add : Room := { frames := 0, cells := 0, slots := 0, locals := 0 }
def fX1_add (pb : Nat) (z : fS) (v1 : Int32) : Option fS :=
  if (100 : Int32) ≤ (z pb 1) then
    some z
  else
    gd (inb (z pb 1) 100) <|
    bnd (wr z (pb + 1) (z pb 1) v1) fun z18 =>
    bnd (wf z18 pb 1 ((z18 pb 1) + (1 : Int32))) fun z26 =>
    some z26
theorem ywX1_add : fY yX1_add "EqualCourt$Core" cX1_add 2 none 1 := ⟨tw_579, tw_580, tw_6, tw_581, by decide +kernel⟩
set_option maxHeartbeats 4000000 in
set_option maxRecDepth 100000 in
theorem cX1_add_ok {D : va_G} {ad : Nat → Nat} {cy cz : ClassId} {l : Launch} {z : fS} {pb : Nat} (hpb : isK pb) {v1 : Int32} {τ : fS} (h : fX1_add pb z v1 = some τ) : fMv D 76 ad (cfX ad cy cz) cy cz l yX1_add cX1_add 2 none rmX1_add [.ref (ad pb), .int v1] z τ := by
  refine f_bodyv (by decide) (Nat.le_of_ble_eq_true rfl) (fun p e s m args below meth c Q hC hret ls hl hI => ?_)
  have hx := hC.1
  have hb := hC.2.1
  have hl : lv_has ls 2 [(0, .ref (ad pb)), (1, .int v1)] := hl
  unfold fX1_add at h
  refine lv_aload_n hx hb dX1_add_0 rfl (lv_at hl 0 rfl) ?_
  refine gX1_count hpb hC hI tw_114 dX1_add_1 ?_
  refine lv_bipush (v := 100) hx hb dX1_add_4 (by decide) ?_
  refine lv_icmp_ge (tgt := 29) hx hb dX1_add_6 (by decide) (fun c6 => ?_) (fun c6 => ?_)
  · replace h := if_t h c6
    exact hret h dX1_add_29 hI
  · replace h := if_f h c6
    refine lv_aload_n hx hb dX1_add_9 rfl (lv_at hl 0 rfl) ?_
    refine gX1_items hpb hC hI tw_113 dX1_add_10 ?_
    refine lv_aload_n hx hb dX1_add_13 rfl (lv_at hl 0 rfl) ?_
    refine gX1_count hpb hC hI tw_114 dX1_add_14 ?_
    refine lv_iload_n hx hb dX1_add_17 rfl (lv_at hl 1 rfl) ?_
    have g18 := (gd_at h).1
    replace h := (gd_at h).2
    refine r_iast hC hI (aK_1 hpb) g18 dX1_add_18 (fun z18 H locs e18 hI => ?_)
    replace h := bnd_at h e18
    refine lv_aload_n hx hb dX1_add_19 rfl (lv_at hl 0 rfl) ?_
    refine lv_dup hx hb dX1_add_20 rfl ?_
    refine gX1_count hpb hC hI tw_114 dX1_add_21 ?_
    refine lv_iconst (v := 1) hx hb dX1_add_24 (by decide) ?_
    refine lv_iadd hx hb dX1_add_25 ?_
    refine pX1_count hpb hC hI tw_114 dX1_add_26 (fun z26 H locs e26 hI => ?_)
    replace h := bnd_at h e26
    exact hret h dX1_add_29 hI
theorem dX1_clear_0 : decode cX1_clear 0 = .ok (.aload_n 0, 1) := by decide +kernel
theorem dX1_clear_1 : decode cX1_clear 1 = .ok (.iconst 0, 1) := by decide +kernel
theorem dX1_clear_2 : decode cX1_clear 2 = .ok (.putfield 15, 3) := by decide +kernel
theorem dX1_clear_5 : decode cX1_clear 5 = .ok (.return_, 1) := by decide +kernel
abbrev rmX1_clear : Room := { frames := 0, cells := 0, slots := 0, locals := 0 }
def fX1_clear (pb : Nat) (z : fS) : Option fS :=
  bnd (wf z pb 1 (0 : Int32)) fun z2 =>
  some z2
theorem ywX1_clear : fY yX1_clear "EqualCourt$Core" cX1_clear 1 none 0 := ⟨tw_563, tw_564, tw_6, tw_565, by decide +kernel⟩
set_option maxHeartbeats 4000000 in
set_option maxRecDepth 100000 in
theorem cX1_clear_ok {D : va_G} {ad : Nat → Nat} {cy cz : ClassId} {l : Launch} {z : fS} {pb : Nat} (hpb : isK pb) {τ : fS} (h : fX1_clear pb z = some τ) : fMv D 76 ad (cfX ad cy cz) cy cz l yX1_clear cX1_clear 1 none rmX1_clear [.ref (ad pb)] z τ := by
  refine f_bodyv (by decide) (Nat.le_of_ble_eq_true rfl) (fun p e s m args below meth c Q hC hret ls hl hI => ?_)
  have hx := hC.1
  have hb := hC.2.1
  have hl : lv_has ls 1 [(0, .ref (ad pb))] := hl
  unfold fX1_clear at h
  refine lv_aload_n hx hb dX1_clear_0 rfl (lv_at hl 0 rfl) ?_
  refine lv_iconst (v := 0) hx hb dX1_clear_1 (by decide) ?_
  refine pX1_count hpb hC hI tw_114 dX1_clear_2 (fun z2 H locs e2 hI => ?_)
  replace h := bnd_at h e2
  exact hret h dX1_clear_5 hI
theorem dX5_count_0 : decode cX5_count 0 = .ok (.aload_n 0, 1) := by decide +kernel
theorem dX5_count_1 : decode cX5_count 1 = .ok (.getfield 28, 3) := by decide +kernel
theorem dX5_count_4 : decode cX5_count 4 = .ok (.ireturn, 1) := by decide +kernel
abbrev rmX5_count : Room := { frames := 0, cells := 0, slots := 0, locals := 0 }
def fX5_count (z : fS) : Option Int32 :=
  some (z 11 5)
theorem ywX5_count : fY yX5_count "EqualCourt$Sayings" cX5_count 1 (some .int) 0 := ⟨tw_490, tw_491, tw_4, tw_492, by decide +kernel⟩
set_option maxHeartbeats 4000000 in
set_option maxRecDepth 100000 in
theorem cX5_count_ok {D : va_G} {ad : Nat → Nat} {cy cz : ClassId} {l : Launch} {z : fS}  {r : Int32} (h : fX5_count z = some r) : fMi D 76 ad (cfX ad cy cz) cy cz l yX5_count cX5_count 1 (some .int) rmX5_count [.ref (ad 11)] z r z := by
  refine f_bodyi (by decide) (Nat.le_of_ble_eq_true rfl) (fun p e s m args below meth c Q hC hret ls hl hI => ?_)
  have hx := hC.1
  have hb := hC.2.1
  have hl : lv_has ls 1 [(0, .ref (ad 11))] := hl
  unfold fX5_count at h
  refine lv_aload_n hx hb dX5_count_0 rfl (lv_at hl 0 rfl) ?_
  refine gX5_count hC hI tw_80 dX5_count_1 ?_
  exact hret (ret_p _ h) dX5_count_4 hI
theorem dX5_takenCount_0 : decode cX5_takenCount 0 = .ok (.aload_n 0, 1) := by decide +kernel
theorem dX5_takenCount_1 : decode cX5_takenCount 1 = .ok (.getfield 32, 3) := by decide +kernel
theorem dX5_takenCount_4 : decode cX5_takenCount 4 = .ok (.ireturn, 1) := by decide +kernel
abbrev rmX5_takenCount : Room := { frames := 0, cells := 0, slots := 0, locals := 0 }
def fX5_takenCount (z : fS) : Option Int32 :=
  some (z 11 6)
theorem ywX5_takenCount : fY yX5_takenCount "EqualCourt$Sayings" cX5_takenCount 1 (some .int) 0 := ⟨tw_494, tw_495, tw_4, tw_496, by decide +kernel⟩
set_option maxHeartbeats 4000000 in
set_option maxRecDepth 100000 in
theorem cX5_takenCount_ok {D : va_G} {ad : Nat → Nat} {cy cz : ClassId} {l : Launch} {z : fS}  {r : Int32} (h : fX5_takenCount z = some r) : fMi D 76 ad (cfX ad cy cz) cy cz l yX5_takenCount cX5_takenCount 1 (some .int) rmX5_takenCount [.ref (ad 11)] z r z := by
  refine f_bodyi (by decide) (Nat.le_of_ble_eq_true rfl) (fun p e s m args below meth c Q hC hret ls hl hI => ?_)
  have hx := hC.1
  have hb := hC.2.1
  have hl : lv_has ls 1 [(0, .ref (ad 11))] := hl
  unfold fX5_takenCount at h
  refine lv_aload_n hx hb dX5_takenCount_0 rfl (lv_at hl 0 rfl) ?_
  refine gX5_takenCount hC hI tw_81 dX5_takenCount_1 ?_
  exact hret (ret_p _ h) dX5_takenCount_4 hI
theorem dX5_levels_0 : decode cX5_levels 0 = .ok (.aload_n 0, 1) := by decide +kernel
theorem dX5_levels_1 : decode cX5_levels 1 = .ok (.getfield 35, 3) := by decide +kernel
theorem dX5_levels_4 : decode cX5_levels 4 = .ok (.ireturn, 1) := by decide +kernel
abbrev rmX5_levels : Room := { frames := 0, cells := 0, slots := 0, locals := 0 }
def fX5_levels (z : fS) : Option Int32 :=
  some (z 11 7)
theorem ywX5_levels : fY yX5_levels "EqualCourt$Sayings" cX5_levels 1 (some .int) 0 := ⟨tw_502, tw_503, tw_4, tw_504, by decide +kernel⟩
set_option maxHeartbeats 4000000 in
set_option maxRecDepth 100000 in
theorem cX5_levels_ok {D : va_G} {ad : Nat → Nat} {cy cz : ClassId} {l : Launch} {z : fS}  {r : Int32} (h : fX5_levels z = some r) : fMi D 76 ad (cfX ad cy cz) cy cz l yX5_levels cX5_levels 1 (some .int) rmX5_levels [.ref (ad 11)] z r z := by
  refine f_bodyi (by decide) (Nat.le_of_ble_eq_true rfl) (fun p e s m args below meth c Q hC hret ls hl hI => ?_)
  have hx := hC.1
  have hb := hC.2.1
  have hl : lv_has ls 1 [(0, .ref (ad 11))] := hl
  unfold fX5_levels at h
  refine lv_aload_n hx hb dX5_levels_0 rfl (lv_at hl 0 rfl) ?_
  refine gX5_levels hC hI tw_82 dX5_levels_1 ?_
  exact hret (ret_p _ h) dX5_levels_4 hI
theorem dX5_has_0 : decode cX5_has 0 = .ok (.iload_n 1, 1) := by decide +kernel
theorem dX5_has_1 : decode cX5_has 1 = .ok (.ifCond .lt 15, 3) := by decide +kernel
theorem dX5_has_4 : decode cX5_has 4 = .ok (.iload_n 1, 1) := by decide +kernel
theorem dX5_has_5 : decode cX5_has 5 = .ok (.aload_n 0, 1) := by decide +kernel
theorem dX5_has_6 : decode cX5_has 6 = .ok (.getfield 28, 3) := by decide +kernel
theorem dX5_has_9 : decode cX5_has 9 = .ok (.if_icmp .ge 7, 3) := by decide +kernel
theorem dX5_has_12 : decode cX5_has 12 = .ok (.iconst 1, 1) := by decide +kernel
theorem dX5_has_13 : decode cX5_has 13 = .ok (.goto 4, 3) := by decide +kernel
theorem dX5_has_16 : decode cX5_has 16 = .ok (.iconst 0, 1) := by decide +kernel
theorem dX5_has_17 : decode cX5_has 17 = .ok (.ireturn, 1) := by decide +kernel
abbrev rmX5_has : Room := { frames := 0, cells := 0, slots := 0, locals := 0 }
def fX5_has (z : fS) (v1 : Int32) : Option Int32 :=
  if v1 < 0 then
    some (0 : Int32)
  else
    if (z 11 5) ≤ v1 then
      some (0 : Int32)
    else
      some (1 : Int32)
theorem ywX5_has : fY yX5_has "EqualCourt$Sayings" cX5_has 2 (some .boolean) 1 := ⟨tw_604, tw_605, tw_4, tw_606, by decide +kernel⟩
set_option maxHeartbeats 4000000 in
set_option maxRecDepth 100000 in
theorem cX5_has_ok {D : va_G} {ad : Nat → Nat} {cy cz : ClassId} {l : Launch} {z : fS} {v1 : Int32} {r : Int32} (h : fX5_has z v1 = some r) : fMi D 76 ad (cfX ad cy cz) cy cz l yX5_has cX5_has 2 (some .boolean) rmX5_has [.ref (ad 11), .int v1] z r z := by
  refine f_bodyz (by decide) (Nat.le_of_ble_eq_true rfl) (fun p e s m args below meth c Q hC hret ls hl hI => ?_)
  have hx := hC.1
  have hb := hC.2.1
  have hl : lv_has ls 2 [(0, .ref (ad 11)), (1, .int v1)] := hl
  unfold fX5_has at h
  refine lv_iload_n hx hb dX5_has_0 rfl (lv_at hl 1 rfl) ?_
  refine lv_if_lt (tgt := 16) hx hb dX5_has_1 (by decide) (fun c1 => ?_) (fun c1 => ?_)
  · replace h := if_t h c1
    refine lv_iconst (v := 0) hx hb dX5_has_16 (by decide) ?_
    exact hret (ret_p _ h) (by decide) dX5_has_17 hI
  · replace h := if_f h c1
    refine lv_iload_n hx hb dX5_has_4 rfl (lv_at hl 1 rfl) ?_
    refine lv_aload_n hx hb dX5_has_5 rfl (lv_at hl 0 rfl) ?_
    refine gX5_count hC hI tw_80 dX5_has_6 ?_
    refine lv_icmp_ge (tgt := 16) hx hb dX5_has_9 (by decide) (fun c9 => ?_) (fun c9 => ?_)
    · replace h := if_t h c9
      refine lv_iconst (v := 0) hx hb dX5_has_16 (by decide) ?_
      exact hret (ret_p _ h) (by decide) dX5_has_17 hI
    · replace h := if_f h c9
      refine lv_iconst (v := 1) hx hb dX5_has_12 (by decide) ?_
      refine lv_goto (tgt := 17) hx hb dX5_has_13 (by decide) ?_
      exact hret (ret_p _ h) (by decide) dX5_has_17 hI
theorem dX5_isFull_0 : decode cX5_isFull 0 = .ok (.aload_n 0, 1) := by decide +kernel
theorem dX5_isFull_1 : decode cX5_isFull 1 = .ok (.getfield 28, 3) := by decide +kernel
theorem dX5_isFull_4 : decode cX5_isFull 4 = .ok (.bipush 100, 2) := by decide +kernel
theorem dX5_isFull_6 : decode cX5_isFull 6 = .ok (.if_icmp .lt 7, 3) := by decide +kernel
theorem dX5_isFull_9 : decode cX5_isFull 9 = .ok (.iconst 1, 1) := by decide +kernel
theorem dX5_isFull_10 : decode cX5_isFull 10 = .ok (.goto 4, 3) := by decide +kernel
theorem dX5_isFull_13 : decode cX5_isFull 13 = .ok (.iconst 0, 1) := by decide +kernel
theorem dX5_isFull_14 : decode cX5_isFull 14 = .ok (.ireturn, 1) := by decide +kernel
abbrev rmX5_isFull : Room := { frames := 0, cells := 0, slots := 0, locals := 0 }
def fX5_isFull (z : fS) : Option Int32 :=
  if (z 11 5) < (100 : Int32) then
    some (0 : Int32)
  else
    some (1 : Int32)
theorem ywX5_isFull : fY yX5_isFull "EqualCourt$Sayings" cX5_isFull 1 (some .boolean) 0 := ⟨tw_518, tw_519, tw_4, tw_520, by decide +kernel⟩
set_option maxHeartbeats 4000000 in
set_option maxRecDepth 100000 in
theorem cX5_isFull_ok {D : va_G} {ad : Nat → Nat} {cy cz : ClassId} {l : Launch} {z : fS}  {r : Int32} (h : fX5_isFull z = some r) : fMi D 76 ad (cfX ad cy cz) cy cz l yX5_isFull cX5_isFull 1 (some .boolean) rmX5_isFull [.ref (ad 11)] z r z := by
  refine f_bodyz (by decide) (Nat.le_of_ble_eq_true rfl) (fun p e s m args below meth c Q hC hret ls hl hI => ?_)
  have hx := hC.1
  have hb := hC.2.1
  have hl : lv_has ls 1 [(0, .ref (ad 11))] := hl
  unfold fX5_isFull at h
  refine lv_aload_n hx hb dX5_isFull_0 rfl (lv_at hl 0 rfl) ?_
  refine gX5_count hC hI tw_80 dX5_isFull_1 ?_
  refine lv_bipush (v := 100) hx hb dX5_isFull_4 (by decide) ?_
  refine lv_icmp_lt (tgt := 13) hx hb dX5_isFull_6 (by decide) (fun c6 => ?_) (fun c6 => ?_)
  · replace h := if_t h c6
    refine lv_iconst (v := 0) hx hb dX5_isFull_13 (by decide) ?_
    exact hret (ret_p _ h) (by decide) dX5_isFull_14 hI
  · replace h := if_f h c6
    refine lv_iconst (v := 1) hx hb dX5_isFull_9 (by decide) ?_
    refine lv_goto (tgt := 14) hx hb dX5_isFull_10 (by decide) ?_
    exact hret (ret_p _ h) (by decide) dX5_isFull_14 hI
theorem dX5_isSame_0 : decode cX5_isSame 0 = .ok (.aload_n 0, 1) := by decide +kernel
theorem dX5_isSame_1 : decode cX5_isSame 1 = .ok (.getfield 9, 3) := by decide +kernel
theorem dX5_isSame_4 : decode cX5_isSame 4 = .ok (.iload_n 1, 1) := by decide +kernel
theorem dX5_isSame_5 : decode cX5_isSame 5 = .ok (.baload, 1) := by decide +kernel
theorem dX5_isSame_6 : decode cX5_isSame 6 = .ok (.ireturn, 1) := by decide +kernel
abbrev rmX5_isSame : Room := { frames := 0, cells := 0, slots := 0, locals := 0 }
def fX5_isSame (z : fS) (v1 : Int32) : Option Int32 :=
  gd (inb v1 100) <|
  gd (isb (rd z 12 v1)) <|
  some (rd z 12 v1)
theorem ywX5_isSame : fY yX5_isSame "EqualCourt$Sayings" cX5_isSame 2 (some .boolean) 1 := ⟨tw_543, tw_544, tw_4, tw_545, by decide +kernel⟩
set_option maxHeartbeats 4000000 in
set_option maxRecDepth 100000 in
theorem cX5_isSame_ok {D : va_G} {ad : Nat → Nat} {cy cz : ClassId} {l : Launch} {z : fS} {v1 : Int32} {r : Int32} (h : fX5_isSame z v1 = some r) : fMi D 76 ad (cfX ad cy cz) cy cz l yX5_isSame cX5_isSame 2 (some .boolean) rmX5_isSame [.ref (ad 11), .int v1] z r z := by
  refine f_bodyz (by decide) (Nat.le_of_ble_eq_true rfl) (fun p e s m args below meth c Q hC hret ls hl hI => ?_)
  have hx := hC.1
  have hb := hC.2.1
  have hl : lv_has ls 2 [(0, .ref (ad 11)), (1, .int v1)] := hl
  unfold fX5_isSame at h
  refine lv_aload_n hx hb dX5_isSame_0 rfl (lv_at hl 0 rfl) ?_
  refine gX5_same hC hI tw_75 dX5_isSame_1 ?_
  refine lv_iload_n hx hb dX5_isSame_4 rfl (lv_at hl 1 rfl) ?_
  have g5 := (gd_at h).1
  replace h := (gd_at h).2
  refine r_zald hC hI aX_12 g5 dX5_isSame_5 ?_
  have g6 := (gd_at h).1
  replace h := (gd_at h).2
  exact hret (ret_p _ h) g6 dX5_isSame_6 hI
theorem dX5_left_0 : decode cX5_left 0 = .ok (.aload_n 0, 1) := by decide +kernel
theorem dX5_left_1 : decode cX5_left 1 = .ok (.getfield 15, 3) := by decide +kernel
theorem dX5_left_4 : decode cX5_left 4 = .ok (.iload_n 1, 1) := by decide +kernel
theorem dX5_left_5 : decode cX5_left 5 = .ok (.iaload, 1) := by decide +kernel
theorem dX5_left_6 : decode cX5_left 6 = .ok (.ireturn, 1) := by decide +kernel
abbrev rmX5_left : Room := { frames := 0, cells := 0, slots := 0, locals := 0 }
def fX5_left (z : fS) (v1 : Int32) : Option Int32 :=
  gd (inb v1 100) <|
  some (rd z 13 v1)
theorem ywX5_left : fY yX5_left "EqualCourt$Sayings" cX5_left 2 (some .int) 1 := ⟨tw_547, tw_548, tw_4, tw_549, by decide +kernel⟩
set_option maxHeartbeats 4000000 in
set_option maxRecDepth 100000 in
theorem cX5_left_ok {D : va_G} {ad : Nat → Nat} {cy cz : ClassId} {l : Launch} {z : fS} {v1 : Int32} {r : Int32} (h : fX5_left z v1 = some r) : fMi D 76 ad (cfX ad cy cz) cy cz l yX5_left cX5_left 2 (some .int) rmX5_left [.ref (ad 11), .int v1] z r z := by
  refine f_bodyi (by decide) (Nat.le_of_ble_eq_true rfl) (fun p e s m args below meth c Q hC hret ls hl hI => ?_)
  have hx := hC.1
  have hb := hC.2.1
  have hl : lv_has ls 2 [(0, .ref (ad 11)), (1, .int v1)] := hl
  unfold fX5_left at h
  refine lv_aload_n hx hb dX5_left_0 rfl (lv_at hl 0 rfl) ?_
  refine gX5_lefts hC hI tw_76 dX5_left_1 ?_
  refine lv_iload_n hx hb dX5_left_4 rfl (lv_at hl 1 rfl) ?_
  have g5 := (gd_at h).1
  replace h := (gd_at h).2
  refine r_iald hC hI aX_13 g5 dX5_left_5 ?_
  exact hret (ret_p _ h) dX5_left_6 hI
theorem dX5_right_0 : decode cX5_right 0 = .ok (.aload_n 0, 1) := by decide +kernel
theorem dX5_right_1 : decode cX5_right 1 = .ok (.getfield 19, 3) := by decide +kernel
theorem dX5_right_4 : decode cX5_right 4 = .ok (.iload_n 1, 1) := by decide +kernel
theorem dX5_right_5 : decode cX5_right 5 = .ok (.iaload, 1) := by decide +kernel
theorem dX5_right_6 : decode cX5_right 6 = .ok (.ireturn, 1) := by decide +kernel
abbrev rmX5_right : Room := { frames := 0, cells := 0, slots := 0, locals := 0 }
def fX5_right (z : fS) (v1 : Int32) : Option Int32 :=
  gd (inb v1 100) <|
  some (rd z 14 v1)
theorem ywX5_right : fY yX5_right "EqualCourt$Sayings" cX5_right 2 (some .int) 1 := ⟨tw_551, tw_552, tw_4, tw_553, by decide +kernel⟩
set_option maxHeartbeats 4000000 in
set_option maxRecDepth 100000 in
theorem cX5_right_ok {D : va_G} {ad : Nat → Nat} {cy cz : ClassId} {l : Launch} {z : fS} {v1 : Int32} {r : Int32} (h : fX5_right z v1 = some r) : fMi D 76 ad (cfX ad cy cz) cy cz l yX5_right cX5_right 2 (some .int) rmX5_right [.ref (ad 11), .int v1] z r z := by
  refine f_bodyi (by decide) (Nat.le_of_ble_eq_true rfl) (fun p e s m args below meth c Q hC hret ls hl hI => ?_)
  have hx := hC.1
  have hb := hC.2.1
  have hl : lv_has ls 2 [(0, .ref (ad 11)), (1, .int v1)] := hl
  unfold fX5_right at h
  refine lv_aload_n hx hb dX5_right_0 rfl (lv_at hl 0 rfl) ?_
  refine gX5_rights hC hI tw_77 dX5_right_1 ?_
  refine lv_iload_n hx hb dX5_right_4 rfl (lv_at hl 1 rfl) ?_
  have g5 := (gd_at h).1
  replace h := (gd_at h).2
  refine r_iald hC hI aX_14 g5 dX5_right_5 ?_
  exact hret (ret_p _ h) dX5_right_6 hI
theorem dX5_isTaken_0 : decode cX5_isTaken 0 = .ok (.aload_n 0, 1) := by decide +kernel
theorem dX5_isTaken_1 : decode cX5_isTaken 1 = .ok (.getfield 22, 3) := by decide +kernel
theorem dX5_isTaken_4 : decode cX5_isTaken 4 = .ok (.iload_n 1, 1) := by decide +kernel
theorem dX5_isTaken_5 : decode cX5_isTaken 5 = .ok (.iaload, 1) := by decide +kernel
theorem dX5_isTaken_6 : decode cX5_isTaken 6 = .ok (.iconst 1, 1) := by decide +kernel
theorem dX5_isTaken_7 : decode cX5_isTaken 7 = .ok (.if_icmp .ne 7, 3) := by decide +kernel
theorem dX5_isTaken_10 : decode cX5_isTaken 10 = .ok (.iconst 1, 1) := by decide +kernel
theorem dX5_isTaken_11 : decode cX5_isTaken 11 = .ok (.goto 4, 3) := by decide +kernel
theorem dX5_isTaken_14 : decode cX5_isTaken 14 = .ok (.iconst 0, 1) := by decide +kernel
theorem dX5_isTaken_15 : decode cX5_isTaken 15 = .ok (.ireturn, 1) := by decide +kernel
abbrev rmX5_isTaken : Room := { frames := 0, cells := 0, slots := 0, locals := 0 }
def fX5_isTaken (z : fS) (v1 : Int32) : Option Int32 :=
  gd (inb v1 100) <|
  if (rd z 15 v1) = (1 : Int32) then
    some (1 : Int32)
  else
    some (0 : Int32)
theorem ywX5_isTaken : fY yX5_isTaken "EqualCourt$Sayings" cX5_isTaken 2 (some .boolean) 1 := ⟨tw_539, tw_540, tw_4, tw_541, by decide +kernel⟩
set_option maxHeartbeats 4000000 in
set_option maxRecDepth 100000 in
theorem cX5_isTaken_ok {D : va_G} {ad : Nat → Nat} {cy cz : ClassId} {l : Launch} {z : fS} {v1 : Int32} {r : Int32} (h : fX5_isTaken z v1 = some r) : fMi D 76 ad (cfX ad cy cz) cy cz l yX5_isTaken cX5_isTaken 2 (some .boolean) rmX5_isTaken [.ref (ad 11), .int v1] z r z := by
  refine f_bodyz (by decide) (Nat.le_of_ble_eq_true rfl) (fun p e s m args below meth c Q hC hret ls hl hI => ?_)
  have hx := hC.1
  have hb := hC.2.1
  have hl : lv_has ls 2 [(0, .ref (ad 11)), (1, .int v1)] := hl
  unfold fX5_isTaken at h
  refine lv_aload_n hx hb dX5_isTaken_0 rfl (lv_at hl 0 rfl) ?_
  refine gX5_taken hC hI tw_78 dX5_isTaken_1 ?_
  refine lv_iload_n hx hb dX5_isTaken_4 rfl (lv_at hl 1 rfl) ?_
  have g5 := (gd_at h).1
  replace h := (gd_at h).2
  refine r_iald hC hI aX_15 g5 dX5_isTaken_5 ?_
  refine lv_iconst (v := 1) hx hb dX5_isTaken_6 (by decide) ?_
  refine lv_icmp_ne (tgt := 14) hx hb dX5_isTaken_7 (by decide) (fun c7 => ?_) (fun c7 => ?_)
  · replace h := if_f h c7
    refine lv_iconst (v := 0) hx hb dX5_isTaken_14 (by decide) ?_
    exact hret (ret_p _ h) (by decide) dX5_isTaken_15 hI
  · replace h := if_t h c7
    refine lv_iconst (v := 1) hx hb dX5_isTaken_10 (by decide) ?_
    refine lv_goto (tgt := 15) hx hb dX5_isTaken_11 (by decide) ?_
    exact hret (ret_p _ h) (by decide) dX5_isTaken_15 hI
theorem dX5_add_0 : decode cX5_add 0 = .ok (.aload_n 0, 1) := by decide +kernel
theorem dX5_add_1 : decode cX5_add 1 = .ok (.getfield 28, 3) := by decide +kernel
theorem dX5_add_4 : decode cX5_add 4 = .ok (.bipush 100, 2) := by decide +kernel
theorem dX5_add_6 : decode cX5_add 6 = .ok (.if_icmp .lt 5, 3) := by decide +kernel
theorem dX5_add_9 : decode cX5_add 9 = .ok (.iconst (-1), 1) := by decide +kernel
theorem dX5_add_10 : decode cX5_add 10 = .ok (.ireturn, 1) := by decide +kernel
theorem dX5_add_11 : decode cX5_add 11 = .ok (.aload_n 0, 1) := by decide +kernel
theorem dX5_add_12 : decode cX5_add 12 = .ok (.getfield 9, 3) := by decide +kernel
theorem dX5_add_15 : decode cX5_add 15 = .ok (.aload_n 0, 1) := by decide +kernel
theorem dX5_add_16 : decode cX5_add 16 = .ok (.getfield 28, 3) := by decide +kernel
theorem dX5_add_19 : decode cX5_add 19 = .ok (.iload_n 1, 1) := by decide +kernel
theorem dX5_add_20 : decode cX5_add 20 = .ok (.bastore, 1) := by decide +kernel
theorem dX5_add_21 : decode cX5_add 21 = .ok (.aload_n 0, 1) := by decide +kernel
theorem dX5_add_22 : decode cX5_add 22 = .ok (.getfield 15, 3) := by decide +kernel
theorem dX5_add_25 : decode cX5_add 25 = .ok (.aload_n 0, 1) := by decide +kernel
theorem dX5_add_26 : decode cX5_add 26 = .ok (.getfield 28, 3) := by decide +kernel
theorem dX5_add_29 : decode cX5_add 29 = .ok (.iload_n 2, 1) := by decide +kernel
theorem dX5_add_30 : decode cX5_add 30 = .ok (.iastore, 1) := by decide +kernel
theorem dX5_add_31 : decode cX5_add 31 = .ok (.aload_n 0, 1) := by decide +kernel
theorem dX5_add_32 : decode cX5_add 32 = .ok (.getfield 19, 3) := by decide +kernel
theorem dX5_add_35 : decode cX5_add 35 = .ok (.aload_n 0, 1) := by decide +kernel
theorem dX5_add_36 : decode cX5_add 36 = .ok (.getfield 28, 3) := by decide +kernel
theorem dX5_add_39 : decode cX5_add 39 = .ok (.iload_n 3, 1) := by decide +kernel
theorem dX5_add_40 : decode cX5_add 40 = .ok (.iastore, 1) := by decide +kernel
theorem dX5_add_41 : decode cX5_add 41 = .ok (.aload_n 0, 1) := by decide +kernel
theorem dX5_add_42 : decode cX5_add 42 = .ok (.getfield 22, 3) := by decide +kernel
theorem dX5_add_45 : decode cX5_add 45 = .ok (.aload_n 0, 1) := by decide +kernel
theorem dX5_add_46 : decode cX5_add 46 = .ok (.getfield 28, 3) := by decide +kernel
theorem dX5_add_49 : decode cX5_add 49 = .ok (.iconst 1, 1) := by decide +kernel
theorem dX5_add_50 : decode cX5_add 50 = .ok (.iastore, 1) := by decide +kernel
theorem dX5_add_51 : decode cX5_add 51 = .ok (.aload_n 0, 1) := by decide +kernel
theorem dX5_add_52 : decode cX5_add 52 = .ok (.dup, 1) := by decide +kernel
theorem dX5_add_53 : decode cX5_add 53 = .ok (.getfield 28, 3) := by decide +kernel
theorem dX5_add_56 : decode cX5_add 56 = .ok (.iconst 1, 1) := by decide +kernel
theorem dX5_add_57 : decode cX5_add 57 = .ok (.iadd, 1) := by decide +kernel
theorem dX5_add_58 : decode cX5_add 58 = .ok (.putfield 28, 3) := by decide +kernel
theorem dX5_add_61 : decode cX5_add 61 = .ok (.aload_n 0, 1) := by decide +kernel
theorem dX5_add_62 : decode cX5_add 62 = .ok (.dup, 1) := by decide +kernel
theorem dX5_add_63 : decode cX5_add 63 = .ok (.getfield 32, 3) := by decide +kernel
theorem dX5_add_66 : decode cX5_add 66 = .ok (.iconst 1, 1) := by decide +kernel
theorem dX5_add_67 : decode cX5_add 67 = .ok (.iadd, 1) := by decide +kernel
theorem dX5_add_68 : decode cX5_add 68 = .ok (.putfield 32, 3) := by decide +kernel
theorem dX5_add_71 : decode cX5_add 71 = .ok (.aload_n 0, 1) := by decide +kernel
theorem dX5_add_72 : decode cX5_add 72 = .ok (.getfield 28, 3) := by decide +kernel
theorem dX5_add_75 : decode cX5_add 75 = .ok (.iconst 1, 1) := by decide +kernel
theorem dX5_add_76 : decode cX5_add 76 = .ok (.isub, 1) := by decide +kernel
theorem dX5_add_77 : decode cX5_add 77 = .ok (.ireturn, 1) := by decide +kernel
abbrev rmX5_add : Room := { frames := 0, cells := 0, slots := 0, locals := 0 }
def fX5_add (z : fS) (v1 : Int32) (v2 : Int32) (v3 : Int32) : Option (Int32 × fS) :=
  if (z 11 5) < (100 : Int32) then
    gd (inb (z 11 5) 100) <|
    bnd (wr z 12 (z 11 5) (zb v1)) fun z20 =>
    gd (inb (z20 11 5) 100) <|
    bnd (wr z20 13 (z20 11 5) v2) fun z30 =>
    gd (inb (z30 11 5) 100) <|
    bnd (wr z30 14 (z30 11 5) v3) fun z40 =>
    gd (inb (z40 11 5) 100) <|
    bnd (wr z40 15 (z40 11 5) (1 : Int32)) fun z50 =>
    bnd (wf z50 11 5 ((z50 11 5) + (1 : Int32))) fun z58 =>
    bnd (wf z58 11 6 ((z58 11 6) + (1 : Int32))) fun z68 =>
    some (((z68 11 5) - (1 : Int32)), z68)
  else
    some ((-1 : Int32), z)
theorem ywX5_add : fY yX5_add "EqualCourt$Sayings" cX5_add 4 (some .int) 3 := ⟨tw_591, tw_592, tw_4, tw_593, by decide +kernel⟩
set_option maxHeartbeats 4000000 in
set_option maxRecDepth 100000 in
theorem cX5_add_ok {D : va_G} {ad : Nat → Nat} {cy cz : ClassId} {l : Launch} {z : fS} {v1 : Int32} {v2 : Int32} {v3 : Int32} {r : Int32} {τ : fS} (h : fX5_add z v1 v2 v3 = some (r, τ)) : fMi D 76 ad (cfX ad cy cz) cy cz l yX5_add cX5_add 4 (some .int) rmX5_add [.ref (ad 11), .int v1, .int v2, .int v3] z r τ := by
  refine f_bodyi (by decide) (Nat.le_of_ble_eq_true rfl) (fun p e s m args below meth c Q hC hret ls hl hI => ?_)
  have hx := hC.1
  have hb := hC.2.1
  have hl : lv_has ls 4 [(0, .ref (ad 11)), (1, .int v1), (2, .int v2), (3, .int v3)] := hl
  unfold fX5_add at h
  refine lv_aload_n hx hb dX5_add_0 rfl (lv_at hl 0 rfl) ?_
  refine gX5_count hC hI tw_80 dX5_add_1 ?_
  refine lv_bipush (v := 100) hx hb dX5_add_4 (by decide) ?_
  refine lv_icmp_lt (tgt := 11) hx hb dX5_add_6 (by decide) (fun c6 => ?_) (fun c6 => ?_)
  · replace h := if_t h c6
    refine lv_aload_n hx hb dX5_add_11 rfl (lv_at hl 0 rfl) ?_
    refine gX5_same hC hI tw_75 dX5_add_12 ?_
    refine lv_aload_n hx hb dX5_add_15 rfl (lv_at hl 0 rfl) ?_
    refine gX5_count hC hI tw_80 dX5_add_16 ?_
    refine lv_iload_n hx hb dX5_add_19 rfl (lv_at hl 1 rfl) ?_
    have g20 := (gd_at h).1
    replace h := (gd_at h).2
    refine r_zast hC hI aX_12 g20 dX5_add_20 (fun z20 H locs e20 hI => ?_)
    replace h := bnd_at h e20
    refine lv_aload_n hx hb dX5_add_21 rfl (lv_at hl 0 rfl) ?_
    refine gX5_lefts hC hI tw_76 dX5_add_22 ?_
    refine lv_aload_n hx hb dX5_add_25 rfl (lv_at hl 0 rfl) ?_
    refine gX5_count hC hI tw_80 dX5_add_26 ?_
    refine lv_iload_n hx hb dX5_add_29 rfl (lv_at hl 2 rfl) ?_
    have g30 := (gd_at h).1
    replace h := (gd_at h).2
    refine r_iast hC hI aX_13 g30 dX5_add_30 (fun z30 H locs e30 hI => ?_)
    replace h := bnd_at h e30
    refine lv_aload_n hx hb dX5_add_31 rfl (lv_at hl 0 rfl) ?_
    refine gX5_rights hC hI tw_77 dX5_add_32 ?_
    refine lv_aload_n hx hb dX5_add_35 rfl (lv_at hl 0 rfl) ?_
    refine gX5_count hC hI tw_80 dX5_add_36 ?_
    refine lv_iload_n hx hb dX5_add_39 rfl (lv_at hl 3 rfl) ?_
    have g40 := (gd_at h).1
    replace h := (gd_at h).2
    refine r_iast hC hI aX_14 g40 dX5_add_40 (fun z40 H locs e40 hI => ?_)
    replace h := bnd_at h e40
    refine lv_aload_n hx hb dX5_add_41 rfl (lv_at hl 0 rfl) ?_
    refine gX5_taken hC hI tw_78 dX5_add_42 ?_
    refine lv_aload_n hx hb dX5_add_45 rfl (lv_at hl 0 rfl) ?_
    refine gX5_count hC hI tw_80 dX5_add_46 ?_
    refine lv_iconst (v := 1) hx hb dX5_add_49 (by decide) ?_
    have g50 := (gd_at h).1
    replace h := (gd_at h).2
    refine r_iast hC hI aX_15 g50 dX5_add_50 (fun z50 H locs e50 hI => ?_)
    replace h := bnd_at h e50
    refine lv_aload_n hx hb dX5_add_51 rfl (lv_at hl 0 rfl) ?_
    refine lv_dup hx hb dX5_add_52 rfl ?_
    refine gX5_count hC hI tw_80 dX5_add_53 ?_
    refine lv_iconst (v := 1) hx hb dX5_add_56 (by decide) ?_
    refine lv_iadd hx hb dX5_add_57 ?_
    refine pX5_count hC hI tw_80 dX5_add_58 (fun z58 H locs e58 hI => ?_)
    replace h := bnd_at h e58
    refine lv_aload_n hx hb dX5_add_61 rfl (lv_at hl 0 rfl) ?_
    refine lv_dup hx hb dX5_add_62 rfl ?_
    refine gX5_takenCount hC hI tw_81 dX5_add_63 ?_
    refine lv_iconst (v := 1) hx hb dX5_add_66 (by decide) ?_
    refine lv_iadd hx hb dX5_add_67 ?_
    refine pX5_takenCount hC hI tw_81 dX5_add_68 (fun z68 H locs e68 hI => ?_)
    replace h := bnd_at h e68
    refine lv_aload_n hx hb dX5_add_71 rfl (lv_at hl 0 rfl) ?_
    refine gX5_count hC hI tw_80 dX5_add_72 ?_
    refine lv_iconst (v := 1) hx hb dX5_add_75 (by decide) ?_
    refine lv_isub hx hb dX5_add_76 ?_
    exact hret h dX5_add_77 hI
  · replace h := if_f h c6
    refine lv_iconst (v := -1) hx hb dX5_add_9 (by decide) ?_
    exact hret h dX5_add_10 hI
theorem dX5_remove_0 : decode cX5_remove 0 = .ok (.aload_n 0, 1) := by decide +kernel
theorem dX5_remove_1 : decode cX5_remove 1 = .ok (.getfield 22, 3) := by decide +kernel
theorem dX5_remove_4 : decode cX5_remove 4 = .ok (.iload_n 1, 1) := by decide +kernel
theorem dX5_remove_5 : decode cX5_remove 5 = .ok (.iconst 0, 1) := by decide +kernel
theorem dX5_remove_6 : decode cX5_remove 6 = .ok (.iastore, 1) := by decide +kernel
theorem dX5_remove_7 : decode cX5_remove 7 = .ok (.aload_n 0, 1) := by decide +kernel
theorem dX5_remove_8 : decode cX5_remove 8 = .ok (.dup, 1) := by decide +kernel
theorem dX5_remove_9 : decode cX5_remove 9 = .ok (.getfield 32, 3) := by decide +kernel
theorem dX5_remove_12 : decode cX5_remove 12 = .ok (.iconst 1, 1) := by decide +kernel
theorem dX5_remove_13 : decode cX5_remove 13 = .ok (.isub, 1) := by decide +kernel
theorem dX5_remove_14 : decode cX5_remove 14 = .ok (.putfield 32, 3) := by decide +kernel
theorem dX5_remove_17 : decode cX5_remove 17 = .ok (.return_, 1) := by decide +kernel
abbrev rmX5_remove : Room := { frames := 0, cells := 0, slots := 0, locals := 0 }
def fX5_remove (z : fS) (v1 : Int32) : Option fS :=
  gd (inb v1 100) <|
  bnd (wr z 15 v1 (0 : Int32)) fun z6 =>
  bnd (wf z6 11 6 ((z6 11 6) - (1 : Int32))) fun z14 =>
  some z14
theorem ywX5_remove : fY yX5_remove "EqualCourt$Sayings" cX5_remove 2 none 1 := ⟨tw_609, tw_610, tw_4, tw_611, by decide +kernel⟩
set_option maxHeartbeats 4000000 in
set_option maxRecDepth 100000 in
theorem cX5_remove_ok {D : va_G} {ad : Nat → Nat} {cy cz : ClassId} {l : Launch} {z : fS} {v1 : Int32} {τ : fS} (h : fX5_remove z v1 = some τ) : fMv D 76 ad (cfX ad cy cz) cy cz l yX5_remove cX5_remove 2 none rmX5_remove [.ref (ad 11), .int v1] z τ := by
  refine f_bodyv (by decide) (Nat.le_of_ble_eq_true rfl) (fun p e s m args below meth c Q hC hret ls hl hI => ?_)
  have hx := hC.1
  have hb := hC.2.1
  have hl : lv_has ls 2 [(0, .ref (ad 11)), (1, .int v1)] := hl
  unfold fX5_remove at h
  refine lv_aload_n hx hb dX5_remove_0 rfl (lv_at hl 0 rfl) ?_
  refine gX5_taken hC hI tw_78 dX5_remove_1 ?_
  refine lv_iload_n hx hb dX5_remove_4 rfl (lv_at hl 1 rfl) ?_
  refine lv_iconst (v := 0) hx hb dX5_remove_5 (by decide) ?_
  have g6 := (gd_at h).1
  replace h := (gd_at h).2
  refine r_iast hC hI aX_15 g6 dX5_remove_6 (fun z6 H locs e6 hI => ?_)
  replace h := bnd_at h e6
  refine lv_aload_n hx hb dX5_remove_7 rfl (lv_at hl 0 rfl) ?_
  refine lv_dup hx hb dX5_remove_8 rfl ?_
  refine gX5_takenCount hC hI tw_81 dX5_remove_9 ?_
  refine lv_iconst (v := 1) hx hb dX5_remove_12 (by decide) ?_
  refine lv_isub hx hb dX5_remove_13 ?_
  refine pX5_takenCount hC hI tw_81 dX5_remove_14 (fun z14 H locs e14 hI => ?_)
  replace h := bnd_at h e14
  exact hret h dX5_remove_17 hI
theorem dX5_beginLevel_0 : decode cX5_beginLevel 0 = .ok (.aload_n 0, 1) := by decide +kernel
theorem dX5_beginLevel_1 : decode cX5_beginLevel 1 = .ok (.getfield 35, 3) := by decide +kernel
theorem dX5_beginLevel_4 : decode cX5_beginLevel 4 = .ok (.bipush 10, 2) := by decide +kernel
theorem dX5_beginLevel_6 : decode cX5_beginLevel 6 = .ok (.if_icmp .ge 34, 3) := by decide +kernel
theorem dX5_beginLevel_9 : decode cX5_beginLevel 9 = .ok (.aload_n 0, 1) := by decide +kernel
theorem dX5_beginLevel_10 : decode cX5_beginLevel 10 = .ok (.getfield 22, 3) := by decide +kernel
theorem dX5_beginLevel_13 : decode cX5_beginLevel 13 = .ok (.iconst 0, 1) := by decide +kernel
theorem dX5_beginLevel_14 : decode cX5_beginLevel 14 = .ok (.aload_n 0, 1) := by decide +kernel
theorem dX5_beginLevel_15 : decode cX5_beginLevel 15 = .ok (.getfield 25, 3) := by decide +kernel
theorem dX5_beginLevel_18 : decode cX5_beginLevel 18 = .ok (.aload_n 0, 1) := by decide +kernel
theorem dX5_beginLevel_19 : decode cX5_beginLevel 19 = .ok (.getfield 35, 3) := by decide +kernel
theorem dX5_beginLevel_22 : decode cX5_beginLevel 22 = .ok (.bipush 100, 2) := by decide +kernel
theorem dX5_beginLevel_24 : decode cX5_beginLevel 24 = .ok (.imul, 1) := by decide +kernel
theorem dX5_beginLevel_25 : decode cX5_beginLevel 25 = .ok (.bipush 100, 2) := by decide +kernel
theorem dX5_beginLevel_27 : decode cX5_beginLevel 27 = .ok (.invokestatic 38, 3) := by decide +kernel
theorem dX5_beginLevel_30 : decode cX5_beginLevel 30 = .ok (.aload_n 0, 1) := by decide +kernel
theorem dX5_beginLevel_31 : decode cX5_beginLevel 31 = .ok (.dup, 1) := by decide +kernel
theorem dX5_beginLevel_32 : decode cX5_beginLevel 32 = .ok (.getfield 35, 3) := by decide +kernel
theorem dX5_beginLevel_35 : decode cX5_beginLevel 35 = .ok (.iconst 1, 1) := by decide +kernel
theorem dX5_beginLevel_36 : decode cX5_beginLevel 36 = .ok (.iadd, 1) := by decide +kernel
theorem dX5_beginLevel_37 : decode cX5_beginLevel 37 = .ok (.putfield 35, 3) := by decide +kernel
theorem dX5_beginLevel_40 : decode cX5_beginLevel 40 = .ok (.aload_n 0, 1) := by decide +kernel
theorem dX5_beginLevel_41 : decode cX5_beginLevel 41 = .ok (.getfield 35, 3) := by decide +kernel
theorem dX5_beginLevel_44 : decode cX5_beginLevel 44 = .ok (.ireturn, 1) := by decide +kernel
abbrev rmX5_beginLevel : Room := { frames := 1, cells := 0, slots := 0, locals := 26 }
def fX5_beginLevel (z : fS) : Option (Int32 × fS) :=
  if (10 : Int32) ≤ (z 11 7) then
    some ((z 11 7), z)
  else
    gd (cpb (0 : Int32) ((z 11 7) * (100 : Int32)) (100 : Int32) 100 1000) <|
    bnd (cpy z 15 (0 : Int32) 16 ((z 11 7) * (100 : Int32)) (100 : Int32)) fun z27 =>
    bnd (wf z27 11 7 ((z27 11 7) + (1 : Int32))) fun z37 =>
    some ((z37 11 7), z37)
theorem ywX5_beginLevel : fY yX5_beginLevel "EqualCourt$Sayings" cX5_beginLevel 1 (some .int) 0 := ⟨tw_708, tw_709, tw_4, tw_710, by decide +kernel⟩
set_option maxHeartbeats 4000000 in
set_option maxRecDepth 100000 in
theorem cX5_beginLevel_ok {D : va_G} {ad : Nat → Nat} {cy cz : ClassId} {l : Launch} {z : fS}  {r : Int32} {τ : fS} (h : fX5_beginLevel z = some (r, τ)) : fMi D 76 ad (cfX ad cy cz) cy cz l yX5_beginLevel cX5_beginLevel 1 (some .int) rmX5_beginLevel [.ref (ad 11)] z r τ := by
  refine f_bodyi (by decide) (Nat.le_of_ble_eq_true rfl) (fun p e s m args below meth c Q hC hret ls hl hI => ?_)
  have hx := hC.1
  have hb := hC.2.1
  have hl : lv_has ls 1 [(0, .ref (ad 11))] := hl
  unfold fX5_beginLevel at h
  refine lv_aload_n hx hb dX5_beginLevel_0 rfl (lv_at hl 0 rfl) ?_
  refine gX5_levels hC hI tw_82 dX5_beginLevel_1 ?_
  refine lv_bipush (v := 10) hx hb dX5_beginLevel_4 (by decide) ?_
  refine lv_icmp_ge (tgt := 40) hx hb dX5_beginLevel_6 (by decide) (fun c6 => ?_) (fun c6 => ?_)
  · replace h := if_t h c6
    refine lv_aload_n hx hb dX5_beginLevel_40 rfl (lv_at hl 0 rfl) ?_
    refine gX5_levels hC hI tw_82 dX5_beginLevel_41 ?_
    exact hret h dX5_beginLevel_44 hI
  · replace h := if_f h c6
    refine lv_aload_n hx hb dX5_beginLevel_9 rfl (lv_at hl 0 rfl) ?_
    refine gX5_taken hC hI tw_78 dX5_beginLevel_10 ?_
    refine lv_iconst (v := 0) hx hb dX5_beginLevel_13 (by decide) ?_
    refine lv_aload_n hx hb dX5_beginLevel_14 rfl (lv_at hl 0 rfl) ?_
    refine gX5_remembered hC hI tw_79 dX5_beginLevel_15 ?_
    refine lv_aload_n hx hb dX5_beginLevel_18 rfl (lv_at hl 0 rfl) ?_
    refine gX5_levels hC hI tw_82 dX5_beginLevel_19 ?_
    refine lv_bipush (v := 100) hx hb dX5_beginLevel_22 (by decide) ?_
    refine lv_imul hx hb dX5_beginLevel_24 ?_
    refine lv_bipush (v := 100) hx hb dX5_beginLevel_25 (by decide) ?_
    have g27 := (gd_at h).1
    replace h := (gd_at h).2
    refine r_copyi hC hI hl.1 tw_711 tw_531 tw_530 tw_13 aX_15 aX_16 g27 (Nat.le_of_ble_eq_true rfl) (Nat.le_of_ble_eq_true rfl) dX5_beginLevel_27 (fun z27 H locs e27 hI => ?_)
    replace h := bnd_at h e27
    refine lv_aload_n hx hb dX5_beginLevel_30 rfl (lv_at hl 0 rfl) ?_
    refine lv_dup hx hb dX5_beginLevel_31 rfl ?_
    refine gX5_levels hC hI tw_82 dX5_beginLevel_32 ?_
    refine lv_iconst (v := 1) hx hb dX5_beginLevel_35 (by decide) ?_
    refine lv_iadd hx hb dX5_beginLevel_36 ?_
    refine pX5_levels hC hI tw_82 dX5_beginLevel_37 (fun z37 H locs e37 hI => ?_)
    replace h := bnd_at h e37
    refine lv_aload_n hx hb dX5_beginLevel_40 rfl (lv_at hl 0 rfl) ?_
    refine gX5_levels hC hI tw_82 dX5_beginLevel_41 ?_
    exact hret h dX5_beginLevel_44 hI
theorem dX5_endLevel_0 : decode cX5_endLevel 0 = .ok (.aload_n 0, 1) := by decide +kernel
theorem dX5_endLevel_1 : decode cX5_endLevel 1 = .ok (.getfield 35, 3) := by decide +kernel
theorem dX5_endLevel_4 : decode cX5_endLevel 4 = .ok (.ifCond .le 34, 3) := by decide +kernel
theorem dX5_endLevel_7 : decode cX5_endLevel 7 = .ok (.aload_n 0, 1) := by decide +kernel
theorem dX5_endLevel_8 : decode cX5_endLevel 8 = .ok (.dup, 1) := by decide +kernel
theorem dX5_endLevel_9 : decode cX5_endLevel 9 = .ok (.getfield 35, 3) := by decide +kernel
theorem dX5_endLevel_12 : decode cX5_endLevel 12 = .ok (.iconst 1, 1) := by decide +kernel
theorem dX5_endLevel_13 : decode cX5_endLevel 13 = .ok (.isub, 1) := by decide +kernel
theorem dX5_endLevel_14 : decode cX5_endLevel 14 = .ok (.putfield 35, 3) := by decide +kernel
theorem dX5_endLevel_17 : decode cX5_endLevel 17 = .ok (.aload_n 0, 1) := by decide +kernel
theorem dX5_endLevel_18 : decode cX5_endLevel 18 = .ok (.getfield 25, 3) := by decide +kernel
theorem dX5_endLevel_21 : decode cX5_endLevel 21 = .ok (.aload_n 0, 1) := by decide +kernel
theorem dX5_endLevel_22 : decode cX5_endLevel 22 = .ok (.getfield 35, 3) := by decide +kernel
theorem dX5_endLevel_25 : decode cX5_endLevel 25 = .ok (.bipush 100, 2) := by decide +kernel
theorem dX5_endLevel_27 : decode cX5_endLevel 27 = .ok (.imul, 1) := by decide +kernel
theorem dX5_endLevel_28 : decode cX5_endLevel 28 = .ok (.aload_n 0, 1) := by decide +kernel
theorem dX5_endLevel_29 : decode cX5_endLevel 29 = .ok (.getfield 22, 3) := by decide +kernel
theorem dX5_endLevel_32 : decode cX5_endLevel 32 = .ok (.iconst 0, 1) := by decide +kernel
theorem dX5_endLevel_33 : decode cX5_endLevel 33 = .ok (.bipush 100, 2) := by decide +kernel
theorem dX5_endLevel_35 : decode cX5_endLevel 35 = .ok (.invokestatic 38, 3) := by decide +kernel
theorem dX5_endLevel_38 : decode cX5_endLevel 38 = .ok (.aload_n 0, 1) := by decide +kernel
theorem dX5_endLevel_39 : decode cX5_endLevel 39 = .ok (.iconst 0, 1) := by decide +kernel
theorem dX5_endLevel_40 : decode cX5_endLevel 40 = .ok (.putfield 32, 3) := by decide +kernel
theorem dX5_endLevel_43 : decode cX5_endLevel 43 = .ok (.iconst 0, 1) := by decide +kernel
theorem dX5_endLevel_44 : decode cX5_endLevel 44 = .ok (.istore_n 1, 1) := by decide +kernel
theorem dX5_endLevel_45 : decode cX5_endLevel 45 = .ok (.iload_n 1, 1) := by decide +kernel
theorem dX5_endLevel_46 : decode cX5_endLevel 46 = .ok (.aload_n 0, 1) := by decide +kernel
theorem dX5_endLevel_47 : decode cX5_endLevel 47 = .ok (.getfield 28, 3) := by decide +kernel
theorem dX5_endLevel_50 : decode cX5_endLevel 50 = .ok (.if_icmp .ge 24, 3) := by decide +kernel
theorem dX5_endLevel_53 : decode cX5_endLevel 53 = .ok (.aload_n 0, 1) := by decide +kernel
theorem dX5_endLevel_54 : decode cX5_endLevel 54 = .ok (.dup, 1) := by decide +kernel
theorem dX5_endLevel_55 : decode cX5_endLevel 55 = .ok (.getfield 32, 3) := by decide +kernel
theorem dX5_endLevel_58 : decode cX5_endLevel 58 = .ok (.aload_n 0, 1) := by decide +kernel
theorem dX5_endLevel_59 : decode cX5_endLevel 59 = .ok (.getfield 22, 3) := by decide +kernel
theorem dX5_endLevel_62 : decode cX5_endLevel 62 = .ok (.iload_n 1, 1) := by decide +kernel
theorem dX5_endLevel_63 : decode cX5_endLevel 63 = .ok (.iaload, 1) := by decide +kernel
theorem dX5_endLevel_64 : decode cX5_endLevel 64 = .ok (.iadd, 1) := by decide +kernel
theorem dX5_endLevel_65 : decode cX5_endLevel 65 = .ok (.putfield 32, 3) := by decide +kernel
theorem dX5_endLevel_68 : decode cX5_endLevel 68 = .ok (.iinc 1 1, 3) := by decide +kernel
theorem dX5_endLevel_71 : decode cX5_endLevel 71 = .ok (.goto (-26), 3) := by decide +kernel
theorem dX5_endLevel_74 : decode cX5_endLevel 74 = .ok (.return_, 1) := by decide +kernel
abbrev rmX5_endLevel : Room := { frames := 1, cells := 0, slots := 0, locals := 26 }
def lX5_endLevel_45    : Nat → Int32 → fS → Option fS
  | 0, _, _ => none
  | N + 1, v1, z =>
    if (z 11 5) ≤ v1 then
      some z
    else
      gd (inb v1 100) <|
      bnd (wf z 11 6 ((z 11 6) + (rd z 15 v1))) fun z65 =>
      bnd (v1 + (1 : Int32)) fun x68 =>
      (lX5_endLevel_45    N) x68 z65
def jX5_endLevel_38   (z : fS) : Option fS :=
  bnd (wf z 11 6 (0 : Int32)) fun z40 =>
  lX5_endLevel_45    FU (0 : Int32) z40
def fX5_endLevel (z : fS) : Option fS :=
  if (z 11 7) ≤ 0 then
    jX5_endLevel_38   z
  else
    bnd (wf z 11 7 ((z 11 7) - (1 : Int32))) fun z14 =>
    gd (cpb ((z14 11 7) * (100 : Int32)) (0 : Int32) (100 : Int32) 1000 100) <|
    bnd (cpy z14 16 ((z14 11 7) * (100 : Int32)) 15 (0 : Int32) (100 : Int32)) fun z35 =>
    jX5_endLevel_38   z35
theorem ywX5_endLevel : fY yX5_endLevel "EqualCourt$Sayings" cX5_endLevel 2 none 0 := ⟨tw_717, tw_718, tw_4, tw_719, by decide +kernel⟩
set_option maxHeartbeats 4000000 in
set_option maxRecDepth 100000 in
theorem cX5_endLevel_ok {D : va_G} {ad : Nat → Nat} {cy cz : ClassId} {l : Launch} {z : fS}  {τ : fS} (h : fX5_endLevel z = some τ) : fMv D 76 ad (cfX ad cy cz) cy cz l yX5_endLevel cX5_endLevel 2 none rmX5_endLevel [.ref (ad 11)] z τ := by
  refine f_bodyv (by decide) (Nat.le_of_ble_eq_true rfl) (fun p e s m args below meth c Q hC hret ls hl hI => ?_)
  have hx := hC.1
  have hb := hC.2.1
  have hl : lv_has ls 2 [(0, .ref (ad 11))] := hl
  unfold fX5_endLevel at h
  have w38 : ∀ (z : fS) (H : Heap) (locs : List Loc) (ls : Array Slot), fI D 76 ad (cfX ad cy cz) z s H locs → lv_has ls 2 [(0, .ref (ad 11))] → jX5_endLevel_38   z = some τ → W p l e rmX5_endLevel s m args below meth c H locs 0 0 Q (F0 m 38 ls []) := by
    intro z H locs ls hI hl h
    unfold jX5_endLevel_38 at h
    refine lv_aload_n hx hb dX5_endLevel_38 rfl (lv_at hl 0 rfl) ?_
    refine lv_iconst (v := 0) hx hb dX5_endLevel_39 (by decide) ?_
    refine pX5_takenCount hC hI tw_81 dX5_endLevel_40 (fun z40 H locs e40 hI => ?_)
    replace h := bnd_at h e40
    refine lv_iconst (v := 0) hx hb dX5_endLevel_43 (by decide) ?_
    refine lv_istore_n (lv' := [(1, .int (0 : Int32)), (0, .ref (ad 11))]) hx hb dX5_endLevel_44 rfl hl (by decide) rfl (fun ls hl => ?_)
    have w45 : ∀ (N45 : Nat) (v1 : Int32) (z : fS) (H : Heap) (locs : List Loc) (ls : Array Slot), fI D 76 ad (cfX ad cy cz) z s H locs → lv_has ls 2 [(0, .ref (ad 11)), (1, .int v1)] → lX5_endLevel_45    N45 v1 z = some τ → W p l e rmX5_endLevel s m args below meth c H locs 0 0 Q (F0 m 45 ls []) := by
      intro N45
      induction N45 with
      | zero =>
        intro v1 z H locs ls hI hl h
        exact none_no h
      | succ N45 ih45 =>
        intro v1 z H locs ls hI hl h
        rw [lX5_endLevel_45.eq_2] at h
        refine lv_iload_n hx hb dX5_endLevel_45 rfl (lv_at hl 1 rfl) ?_
        refine lv_aload_n hx hb dX5_endLevel_46 rfl (lv_at hl 0 rfl) ?_
        refine gX5_count hC hI tw_80 dX5_endLevel_47 ?_
        refine lv_icmp_ge (tgt := 74) hx hb dX5_endLevel_50 (by decide) (fun c50 => ?_) (fun c50 => ?_)
        · replace h := if_t h c50
          exact hret h dX5_endLevel_74 hI
        · replace h := if_f h c50
          refine lv_aload_n hx hb dX5_endLevel_53 rfl (lv_at hl 0 rfl) ?_
          refine lv_dup hx hb dX5_endLevel_54 rfl ?_
          refine gX5_takenCount hC hI tw_81 dX5_endLevel_55 ?_
          refine lv_aload_n hx hb dX5_endLevel_58 rfl (lv_at hl 0 rfl) ?_
          refine gX5_taken hC hI tw_78 dX5_endLevel_59 ?_
          refine lv_iload_n hx hb dX5_endLevel_62 rfl (lv_at hl 1 rfl) ?_
          have g63 := (gd_at h).1
          replace h := (gd_at h).2
          refine r_iald hC hI aX_15 g63 dX5_endLevel_63 ?_
          refine lv_iadd hx hb dX5_endLevel_64 ?_
          refine pX5_takenCount hC hI tw_81 dX5_endLevel_65 (fun z65 H locs e65 hI => ?_)
          replace h := bnd_at h e65
          obtain ⟨x68, e68⟩ : ∃ y : Int32, y = (v1 + (1 : Int32)) := ⟨_, rfl⟩
          replace h := bnd_at h e68
          refine lv_iinc (v := x68) (lv' := [(1, .int x68), (0, .ref (ad 11))]) hx hb dX5_endLevel_68 hl (k := 1) rfl (by rw [e68]; rfl) (by decide) rfl (fun ls hl => ?_)
          refine lv_goto (tgt := 45) hx hb dX5_endLevel_71 (by decide) ?_
          exact ih45  x68 z65 _ _ _ hI (lv_sub hl [1, 0] rfl) h
    exact w45 FU  (0 : Int32) z40 _ _ _ hI (lv_sub hl [1, 0] rfl) h
  refine lv_aload_n hx hb dX5_endLevel_0 rfl (lv_at hl 0 rfl) ?_
  refine gX5_levels hC hI tw_82 dX5_endLevel_1 ?_
  refine lv_if_le (tgt := 38) hx hb dX5_endLevel_4 (by decide) (fun c4 => ?_) (fun c4 => ?_)
  · replace h := if_t h c4
    exact w38 z _ _ _ hI hl h
  · replace h := if_f h c4
    refine lv_aload_n hx hb dX5_endLevel_7 rfl (lv_at hl 0 rfl) ?_
    refine lv_dup hx hb dX5_endLevel_8 rfl ?_
    refine gX5_levels hC hI tw_82 dX5_endLevel_9 ?_
    refine lv_iconst (v := 1) hx hb dX5_endLevel_12 (by decide) ?_
    refine lv_isub hx hb dX5_endLevel_13 ?_
    refine pX5_levels hC hI tw_82 dX5_endLevel_14 (fun z14 H locs e14 hI => ?_)
    replace h := bnd_at h e14
    refine lv_aload_n hx hb dX5_endLevel_17 rfl (lv_at hl 0 rfl) ?_
    refine gX5_remembered hC hI tw_79 dX5_endLevel_18 ?_
    refine lv_aload_n hx hb dX5_endLevel_21 rfl (lv_at hl 0 rfl) ?_
    refine gX5_levels hC hI tw_82 dX5_endLevel_22 ?_
    refine lv_bipush (v := 100) hx hb dX5_endLevel_25 (by decide) ?_
    refine lv_imul hx hb dX5_endLevel_27 ?_
    refine lv_aload_n hx hb dX5_endLevel_28 rfl (lv_at hl 0 rfl) ?_
    refine gX5_taken hC hI tw_78 dX5_endLevel_29 ?_
    refine lv_iconst (v := 0) hx hb dX5_endLevel_32 (by decide) ?_
    refine lv_bipush (v := 100) hx hb dX5_endLevel_33 (by decide) ?_
    have g35 := (gd_at h).1
    replace h := (gd_at h).2
    refine r_copyi hC hI hl.1 tw_711 tw_531 tw_530 tw_13 aX_16 aX_15 g35 (Nat.le_of_ble_eq_true rfl) (Nat.le_of_ble_eq_true rfl) dX5_endLevel_35 (fun z35 H locs e35 hI => ?_)
    replace h := bnd_at h e35
    exact w38 z35 _ _ _ hI hl h
end
