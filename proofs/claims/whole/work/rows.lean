section
-- ===== PART A: goes FIRST, ahead of the names: the tables' words, and 'selects' of the private methods out of them =====
/-- a private method of a class that the tables say can be made, by its rows of tables_1 -/
def lw_okq (q : MethodName × Nat) : Prop := (q.1.cls ≠ "java/lang/invoke/MethodHandle" ∧ q.1.cls ≠ "java/lang/invoke/VarHandle") ∧ Cond.instantiable q.1.cls q.2 ∈ tables_1 ∧ Cond.privateMethod q.1 ∈ tables_1 ∧ Cond.instanceMethod q.1 ∈ tables_1
theorem lw_p0 : lw_okq (⟨"EqualCourt", "refused", "(I)I"⟩, 13) := ⟨⟨by decide +kernel, by decide +kernel⟩, List.mem_of_getElem? (i := 15) (by decide +kernel), List.mem_of_getElem? (i := 326) (by decide +kernel), List.mem_of_getElem? (i := 327) (by decide +kernel)⟩
theorem lw_p1 : lw_okq (⟨"EqualCourt", "madeTerm", "(IIIII)I"⟩, 13) := ⟨⟨by decide +kernel, by decide +kernel⟩, List.mem_of_getElem? (i := 15) (by decide +kernel), List.mem_of_getElem? (i := 330) (by decide +kernel), List.mem_of_getElem? (i := 331) (by decide +kernel)⟩
theorem lw_p2 : lw_okq (⟨"EqualCourt$Partition", "unite", "(II)V"⟩, 14) := ⟨⟨by decide +kernel, by decide +kernel⟩, List.mem_of_getElem? (i := 146) (by decide +kernel), List.mem_of_getElem? (i := 400) (by decide +kernel), List.mem_of_getElem? (i := 401) (by decide +kernel)⟩
theorem lw_p3 : lw_okq (⟨"EqualCourt$Partition", "uniteRows", "(II)V"⟩, 14) := ⟨⟨by decide +kernel, by decide +kernel⟩, List.mem_of_getElem? (i := 146) (by decide +kernel), List.mem_of_getElem? (i := 407) (by decide +kernel), List.mem_of_getElem? (i := 408) (by decide +kernel)⟩
theorem lw_p4 : lw_okq (⟨"EqualCourt$Partition", "review", "(I)V"⟩, 14) := ⟨⟨by decide +kernel, by decide +kernel⟩, List.mem_of_getElem? (i := 146) (by decide +kernel), List.mem_of_getElem? (i := 419) (by decide +kernel), List.mem_of_getElem? (i := 420) (by decide +kernel)⟩
theorem lw_p5 : lw_okq (⟨"EqualCourt$Partition", "takeOut", "(I)V"⟩, 14) := ⟨⟨by decide +kernel, by decide +kernel⟩, List.mem_of_getElem? (i := 146) (by decide +kernel), List.mem_of_getElem? (i := 423) (by decide +kernel), List.mem_of_getElem? (i := 424) (by decide +kernel)⟩
theorem lw_p6 : lw_okq (⟨"EqualCourt$Partition", "rootOfPart", "(II)I"⟩, 14) := ⟨⟨by decide +kernel, by decide +kernel⟩, List.mem_of_getElem? (i := 146) (by decide +kernel), List.mem_of_getElem? (i := 427) (by decide +kernel), List.mem_of_getElem? (i := 428) (by decide +kernel)⟩
theorem lw_p7 : lw_okq (⟨"EqualCourt$Partition", "isBuiltAlike", "(II)Z"⟩, 14) := ⟨⟨by decide +kernel, by decide +kernel⟩, List.mem_of_getElem? (i := 146) (by decide +kernel), List.mem_of_getElem? (i := 432) (by decide +kernel), List.mem_of_getElem? (i := 433) (by decide +kernel)⟩
theorem lw_p8 : lw_okq (⟨"EqualCourt", "done", "(I)I"⟩, 13) := ⟨⟨by decide +kernel, by decide +kernel⟩, List.mem_of_getElem? (i := 15) (by decide +kernel), List.mem_of_getElem? (i := 440) (by decide +kernel), List.mem_of_getElem? (i := 441) (by decide +kernel)⟩
theorem lw_p9 : lw_okq (⟨"EqualCourt$Court", "addToTrial", "(I)Z"⟩, 9) := ⟨⟨by decide +kernel, by decide +kernel⟩, List.mem_of_getElem? (i := 102) (by decide +kernel), List.mem_of_getElem? (i := 575) (by decide +kernel), List.mem_of_getElem? (i := 576) (by decide +kernel)⟩
theorem lw_p10 : lw_okq (⟨"EqualCourt$Court", "isReached", "(ZII)Z"⟩, 9) := ⟨⟨by decide +kernel, by decide +kernel⟩, List.mem_of_getElem? (i := 102) (by decide +kernel), List.mem_of_getElem? (i := 583) (by decide +kernel), List.mem_of_getElem? (i := 584) (by decide +kernel)⟩
theorem lw_p11 : lw_okq (⟨"EqualCourt$Court", "fillPool", "()I"⟩, 9) := ⟨⟨by decide +kernel, by decide +kernel⟩, List.mem_of_getElem? (i := 102) (by decide +kernel), List.mem_of_getElem? (i := 646) (by decide +kernel), List.mem_of_getElem? (i := 647) (by decide +kernel)⟩
theorem lw_p12 : lw_okq (⟨"EqualCourt$Court", "isOneByPicks", "(III)Z"⟩, 9) := ⟨⟨by decide +kernel, by decide +kernel⟩, List.mem_of_getElem? (i := 102) (by decide +kernel), List.mem_of_getElem? (i := 650) (by decide +kernel), List.mem_of_getElem? (i := 651) (by decide +kernel)⟩
theorem lw_p13 : lw_okq (⟨"EqualCourt$Court", "pickNext", "(II)Z"⟩, 9) := ⟨⟨by decide +kernel, by decide +kernel⟩, List.mem_of_getElem? (i := 102) (by decide +kernel), List.mem_of_getElem? (i := 654) (by decide +kernel), List.mem_of_getElem? (i := 655) (by decide +kernel)⟩
theorem lw_p14 : lw_okq (⟨"EqualCourt", "freeInt", "(I)I"⟩, 13) := ⟨⟨by decide +kernel, by decide +kernel⟩, List.mem_of_getElem? (i := 15) (by decide +kernel), List.mem_of_getElem? (i := 699) (by decide +kernel), List.mem_of_getElem? (i := 700) (by decide +kernel)⟩
theorem lw_p15 : lw_okq (⟨"EqualCourt", "madeInstance", "(IIII)I"⟩, 13) := ⟨⟨by decide +kernel, by decide +kernel⟩, List.mem_of_getElem? (i := 15) (by decide +kernel), List.mem_of_getElem? (i := 729) (by decide +kernel), List.mem_of_getElem? (i := 730) (by decide +kernel)⟩
def lw_privs_1 : List (MethodName × Nat) := [(⟨"EqualCourt", "refused", "(I)I"⟩, 13), (⟨"EqualCourt", "madeTerm", "(IIIII)I"⟩, 13), (⟨"EqualCourt$Partition", "unite", "(II)V"⟩, 14), (⟨"EqualCourt$Partition", "uniteRows", "(II)V"⟩, 14), (⟨"EqualCourt$Partition", "review", "(I)V"⟩, 14), (⟨"EqualCourt$Partition", "takeOut", "(I)V"⟩, 14), (⟨"EqualCourt$Partition", "rootOfPart", "(II)I"⟩, 14), (⟨"EqualCourt$Partition", "isBuiltAlike", "(II)Z"⟩, 14), (⟨"EqualCourt", "done", "(I)I"⟩, 13), (⟨"EqualCourt$Court", "addToTrial", "(I)Z"⟩, 9), (⟨"EqualCourt$Court", "isReached", "(ZII)Z"⟩, 9), (⟨"EqualCourt$Court", "fillPool", "()I"⟩, 9), (⟨"EqualCourt$Court", "isOneByPicks", "(III)Z"⟩, 9), (⟨"EqualCourt$Court", "pickNext", "(II)Z"⟩, 9), (⟨"EqualCourt", "freeInt", "(I)I"⟩, 13), (⟨"EqualCourt", "madeInstance", "(IIII)I"⟩, 13)]
theorem lw_r1 : ∀ q ∈ lw_privs_1, lw_okq q := List.forall_mem_cons.mpr ⟨lw_p0, List.forall_mem_cons.mpr ⟨lw_p1, List.forall_mem_cons.mpr ⟨lw_p2, List.forall_mem_cons.mpr ⟨lw_p3, List.forall_mem_cons.mpr ⟨lw_p4, List.forall_mem_cons.mpr ⟨lw_p5, List.forall_mem_cons.mpr ⟨lw_p6, List.forall_mem_cons.mpr ⟨lw_p7, List.forall_mem_cons.mpr ⟨lw_p8, List.forall_mem_cons.mpr ⟨lw_p9, List.forall_mem_cons.mpr ⟨lw_p10, List.forall_mem_cons.mpr ⟨lw_p11, List.forall_mem_cons.mpr ⟨lw_p12, List.forall_mem_cons.mpr ⟨lw_p13, List.forall_mem_cons.mpr ⟨lw_p14, List.forall_mem_cons.mpr ⟨lw_p15, fun _ h => absurd h List.not_mem_nil⟩⟩⟩⟩⟩⟩⟩⟩⟩⟩⟩⟩⟩⟩⟩⟩
theorem lw_p16 : lw_okq (⟨"EqualCourt$Maker", "isKnown", "(I)Z"⟩, 6) := ⟨⟨by decide +kernel, by decide +kernel⟩, List.mem_of_getElem? (i := 224) (by decide +kernel), List.mem_of_getElem? (i := 739) (by decide +kernel), List.mem_of_getElem? (i := 740) (by decide +kernel)⟩
theorem lw_p17 : lw_okq (⟨"EqualCourt$Maker", "openPart", "(I)I"⟩, 6) := ⟨⟨by decide +kernel, by decide +kernel⟩, List.mem_of_getElem? (i := 224) (by decide +kernel), List.mem_of_getElem? (i := 748) (by decide +kernel), List.mem_of_getElem? (i := 749) (by decide +kernel)⟩
theorem lw_p18 : lw_okq (⟨"EqualCourt$Maker", "makeImage", "(I)Z"⟩, 6) := ⟨⟨by decide +kernel, by decide +kernel⟩, List.mem_of_getElem? (i := 224) (by decide +kernel), List.mem_of_getElem? (i := 754) (by decide +kernel), List.mem_of_getElem? (i := 755) (by decide +kernel)⟩
theorem lw_p19 : lw_okq (⟨"EqualCourt$Maker", "imageOf", "(I)I"⟩, 6) := ⟨⟨by decide +kernel, by decide +kernel⟩, List.mem_of_getElem? (i := 224) (by decide +kernel), List.mem_of_getElem? (i := 758) (by decide +kernel), List.mem_of_getElem? (i := 759) (by decide +kernel)⟩
theorem lw_p20 : lw_okq (⟨"EqualCourt", "gatherHeads", "()I"⟩, 13) := ⟨⟨by decide +kernel, by decide +kernel⟩, List.mem_of_getElem? (i := 15) (by decide +kernel), List.mem_of_getElem? (i := 773) (by decide +kernel), List.mem_of_getElem? (i := 774) (by decide +kernel)⟩
theorem lw_p21 : lw_okq (⟨"EqualCourt", "applyLaw", "(IIII)I"⟩, 13) := ⟨⟨by decide +kernel, by decide +kernel⟩, List.mem_of_getElem? (i := 15) (by decide +kernel), List.mem_of_getElem? (i := 779) (by decide +kernel), List.mem_of_getElem? (i := 780) (by decide +kernel)⟩
theorem lw_p22 : lw_okq (⟨"EqualCourt$Steps", "isSaid", "(III)Z"⟩, 8) := ⟨⟨by decide +kernel, by decide +kernel⟩, List.mem_of_getElem? (i := 249) (by decide +kernel), List.mem_of_getElem? (i := 811) (by decide +kernel), List.mem_of_getElem? (i := 812) (by decide +kernel)⟩
theorem lw_p23 : lw_okq (⟨"EqualCourt$Steps", "isChained", "(III)Z"⟩, 8) := ⟨⟨by decide +kernel, by decide +kernel⟩, List.mem_of_getElem? (i := 249) (by decide +kernel), List.mem_of_getElem? (i := 824) (by decide +kernel), List.mem_of_getElem? (i := 825) (by decide +kernel)⟩
theorem lw_p24 : lw_okq (⟨"EqualCourt$Steps", "isByParts", "(IIIZ)Z"⟩, 8) := ⟨⟨by decide +kernel, by decide +kernel⟩, List.mem_of_getElem? (i := 249) (by decide +kernel), List.mem_of_getElem? (i := 828) (by decide +kernel), List.mem_of_getElem? (i := 829) (by decide +kernel)⟩
theorem lw_p25 : lw_okq (⟨"EqualCourt$Steps", "isSameBefore", "(III)Z"⟩, 8) := ⟨⟨by decide +kernel, by decide +kernel⟩, List.mem_of_getElem? (i := 249) (by decide +kernel), List.mem_of_getElem? (i := 836) (by decide +kernel), List.mem_of_getElem? (i := 837) (by decide +kernel)⟩
theorem lw_p26 : lw_okq (⟨"EqualCourt$Steps", "isOfRows", "(III)Z"⟩, 8) := ⟨⟨by decide +kernel, by decide +kernel⟩, List.mem_of_getElem? (i := 249) (by decide +kernel), List.mem_of_getElem? (i := 840) (by decide +kernel), List.mem_of_getElem? (i := 841) (by decide +kernel)⟩
theorem lw_p27 : lw_okq (⟨"EqualCourtModel", "refuse", "(I)I"⟩, 42) := ⟨⟨by decide +kernel, by decide +kernel⟩, List.mem_of_getElem? (i := 849) (by decide +kernel), List.mem_of_getElem? (i := 986) (by decide +kernel), List.mem_of_getElem? (i := 987) (by decide +kernel)⟩
theorem lw_p28 : lw_okq (⟨"EqualCourtModel", "made", "(III)I"⟩, 42) := ⟨⟨by decide +kernel, by decide +kernel⟩, List.mem_of_getElem? (i := 849) (by decide +kernel), List.mem_of_getElem? (i := 990) (by decide +kernel), List.mem_of_getElem? (i := 991) (by decide +kernel)⟩
theorem lw_p29 : lw_okq (⟨"EqualCourtModel", "findTerm", "(III)I"⟩, 42) := ⟨⟨by decide +kernel, by decide +kernel⟩, List.mem_of_getElem? (i := 849) (by decide +kernel), List.mem_of_getElem? (i := 994) (by decide +kernel), List.mem_of_getElem? (i := 995) (by decide +kernel)⟩
theorem lw_p30 : lw_okq (⟨"EqualCourtModel", "answer", "(I)I"⟩, 42) := ⟨⟨by decide +kernel, by decide +kernel⟩, List.mem_of_getElem? (i := 849) (by decide +kernel), List.mem_of_getElem? (i := 998) (by decide +kernel), List.mem_of_getElem? (i := 999) (by decide +kernel)⟩
theorem lw_p31 : lw_okq (⟨"EqualCourtModel", "done", "(I)I"⟩, 42) := ⟨⟨by decide +kernel, by decide +kernel⟩, List.mem_of_getElem? (i := 849) (by decide +kernel), List.mem_of_getElem? (i := 1002) (by decide +kernel), List.mem_of_getElem? (i := 1003) (by decide +kernel)⟩
def lw_privs_2 : List (MethodName × Nat) := [(⟨"EqualCourt$Maker", "isKnown", "(I)Z"⟩, 6), (⟨"EqualCourt$Maker", "openPart", "(I)I"⟩, 6), (⟨"EqualCourt$Maker", "makeImage", "(I)Z"⟩, 6), (⟨"EqualCourt$Maker", "imageOf", "(I)I"⟩, 6), (⟨"EqualCourt", "gatherHeads", "()I"⟩, 13), (⟨"EqualCourt", "applyLaw", "(IIII)I"⟩, 13), (⟨"EqualCourt$Steps", "isSaid", "(III)Z"⟩, 8), (⟨"EqualCourt$Steps", "isChained", "(III)Z"⟩, 8), (⟨"EqualCourt$Steps", "isByParts", "(IIIZ)Z"⟩, 8), (⟨"EqualCourt$Steps", "isSameBefore", "(III)Z"⟩, 8), (⟨"EqualCourt$Steps", "isOfRows", "(III)Z"⟩, 8), (⟨"EqualCourtModel", "refuse", "(I)I"⟩, 42), (⟨"EqualCourtModel", "made", "(III)I"⟩, 42), (⟨"EqualCourtModel", "findTerm", "(III)I"⟩, 42), (⟨"EqualCourtModel", "answer", "(I)I"⟩, 42), (⟨"EqualCourtModel", "done", "(I)I"⟩, 42)]
theorem lw_r2 : ∀ q ∈ lw_privs_2, lw_okq q := List.forall_mem_cons.mpr ⟨lw_p16, List.forall_mem_cons.mpr ⟨lw_p17, List.forall_mem_cons.mpr ⟨lw_p18, List.forall_mem_cons.mpr ⟨lw_p19, List.forall_mem_cons.mpr ⟨lw_p20, List.forall_mem_cons.mpr ⟨lw_p21, List.forall_mem_cons.mpr ⟨lw_p22, List.forall_mem_cons.mpr ⟨lw_p23, List.forall_mem_cons.mpr ⟨lw_p24, List.forall_mem_cons.mpr ⟨lw_p25, List.forall_mem_cons.mpr ⟨lw_p26, List.forall_mem_cons.mpr ⟨lw_p27, List.forall_mem_cons.mpr ⟨lw_p28, List.forall_mem_cons.mpr ⟨lw_p29, List.forall_mem_cons.mpr ⟨lw_p30, List.forall_mem_cons.mpr ⟨lw_p31, fun _ h => absurd h List.not_mem_nil⟩⟩⟩⟩⟩⟩⟩⟩⟩⟩⟩⟩⟩⟩⟩⟩
theorem lw_p32 : lw_okq (⟨"EqualCourtModel", "isTerm", "(I)Z"⟩, 42) := ⟨⟨by decide +kernel, by decide +kernel⟩, List.mem_of_getElem? (i := 849) (by decide +kernel), List.mem_of_getElem? (i := 1014) (by decide +kernel), List.mem_of_getElem? (i := 1015) (by decide +kernel)⟩
theorem lw_p33 : lw_okq (⟨"EqualCourtModel", "taken", "()I"⟩, 42) := ⟨⟨by decide +kernel, by decide +kernel⟩, List.mem_of_getElem? (i := 849) (by decide +kernel), List.mem_of_getElem? (i := 1042) (by decide +kernel), List.mem_of_getElem? (i := 1043) (by decide +kernel)⟩
theorem lw_p34 : lw_okq (⟨"EqualCourtModel", "classes", "()I"⟩, 42) := ⟨⟨by decide +kernel, by decide +kernel⟩, List.mem_of_getElem? (i := 849) (by decide +kernel), List.mem_of_getElem? (i := 1046) (by decide +kernel), List.mem_of_getElem? (i := 1047) (by decide +kernel)⟩
theorem lw_p35 : lw_okq (⟨"EqualCourtModel", "court", "()V"⟩, 42) := ⟨⟨by decide +kernel, by decide +kernel⟩, List.mem_of_getElem? (i := 849) (by decide +kernel), List.mem_of_getElem? (i := 1050) (by decide +kernel), List.mem_of_getElem? (i := 1051) (by decide +kernel)⟩
theorem lw_p36 : lw_okq (⟨"EqualCourtModel", "takeCourt", "()V"⟩, 42) := ⟨⟨by decide +kernel, by decide +kernel⟩, List.mem_of_getElem? (i := 849) (by decide +kernel), List.mem_of_getElem? (i := 1054) (by decide +kernel), List.mem_of_getElem? (i := 1055) (by decide +kernel)⟩
theorem lw_p37 : lw_okq (⟨"EqualCourtModel", "findOnes", "()V"⟩, 42) := ⟨⟨by decide +kernel, by decide +kernel⟩, List.mem_of_getElem? (i := 849) (by decide +kernel), List.mem_of_getElem? (i := 1058) (by decide +kernel), List.mem_of_getElem? (i := 1059) (by decide +kernel)⟩
theorem lw_p38 : lw_okq (⟨"EqualCourtModel", "merge", "(II)V"⟩, 42) := ⟨⟨by decide +kernel, by decide +kernel⟩, List.mem_of_getElem? (i := 849) (by decide +kernel), List.mem_of_getElem? (i := 1062) (by decide +kernel), List.mem_of_getElem? (i := 1063) (by decide +kernel)⟩
theorem lw_p39 : lw_okq (⟨"EqualCourtModel", "looks", "()Z"⟩, 42) := ⟨⟨by decide +kernel, by decide +kernel⟩, List.mem_of_getElem? (i := 849) (by decide +kernel), List.mem_of_getElem? (i := 1066) (by decide +kernel), List.mem_of_getElem? (i := 1067) (by decide +kernel)⟩
theorem lw_p40 : lw_okq (⟨"EqualCourtModel", "isByParts", "(II)Z"⟩, 42) := ⟨⟨by decide +kernel, by decide +kernel⟩, List.mem_of_getElem? (i := 849) (by decide +kernel), List.mem_of_getElem? (i := 1070) (by decide +kernel), List.mem_of_getElem? (i := 1071) (by decide +kernel)⟩
theorem lw_p41 : lw_okq (⟨"EqualCourtModel", "isPart", "(IIII)Z"⟩, 42) := ⟨⟨by decide +kernel, by decide +kernel⟩, List.mem_of_getElem? (i := 849) (by decide +kernel), List.mem_of_getElem? (i := 1074) (by decide +kernel), List.mem_of_getElem? (i := 1075) (by decide +kernel)⟩
theorem lw_p42 : lw_okq (⟨"EqualCourtModel", "saidNow", "(IIZ)I"⟩, 42) := ⟨⟨by decide +kernel, by decide +kernel⟩, List.mem_of_getElem? (i := 849) (by decide +kernel), List.mem_of_getElem? (i := 1082) (by decide +kernel), List.mem_of_getElem? (i := 1083) (by decide +kernel)⟩
theorem lw_p43 : lw_okq (⟨"EqualCourtModel", "wouldClash", "(IIZ)Z"⟩, 42) := ⟨⟨by decide +kernel, by decide +kernel⟩, List.mem_of_getElem? (i := 849) (by decide +kernel), List.mem_of_getElem? (i := 1086) (by decide +kernel), List.mem_of_getElem? (i := 1087) (by decide +kernel)⟩
theorem lw_p44 : lw_okq (⟨"EqualCourtModel", "add", "(IIZ)V"⟩, 42) := ⟨⟨by decide +kernel, by decide +kernel⟩, List.mem_of_getElem? (i := 849) (by decide +kernel), List.mem_of_getElem? (i := 1090) (by decide +kernel), List.mem_of_getElem? (i := 1091) (by decide +kernel)⟩
theorem lw_p45 : lw_okq (⟨"EqualCourtModel", "clashes", "()Z"⟩, 42) := ⟨⟨by decide +kernel, by decide +kernel⟩, List.mem_of_getElem? (i := 849) (by decide +kernel), List.mem_of_getElem? (i := 1094) (by decide +kernel), List.mem_of_getElem? (i := 1095) (by decide +kernel)⟩
theorem lw_p46 : lw_okq (⟨"EqualCourtModel", "thin", "(II[I)I"⟩, 42) := ⟨⟨by decide +kernel, by decide +kernel⟩, List.mem_of_getElem? (i := 849) (by decide +kernel), List.mem_of_getElem? (i := 1098) (by decide +kernel), List.mem_of_getElem? (i := 1099) (by decide +kernel)⟩
theorem lw_p47 : lw_okq (⟨"EqualCourtModel", "does", "(II)Z"⟩, 42) := ⟨⟨by decide +kernel, by decide +kernel⟩, List.mem_of_getElem? (i := 849) (by decide +kernel), List.mem_of_getElem? (i := 1102) (by decide +kernel), List.mem_of_getElem? (i := 1103) (by decide +kernel)⟩
def lw_privs_3 : List (MethodName × Nat) := [(⟨"EqualCourtModel", "isTerm", "(I)Z"⟩, 42), (⟨"EqualCourtModel", "taken", "()I"⟩, 42), (⟨"EqualCourtModel", "classes", "()I"⟩, 42), (⟨"EqualCourtModel", "court", "()V"⟩, 42), (⟨"EqualCourtModel", "takeCourt", "()V"⟩, 42), (⟨"EqualCourtModel", "findOnes", "()V"⟩, 42), (⟨"EqualCourtModel", "merge", "(II)V"⟩, 42), (⟨"EqualCourtModel", "looks", "()Z"⟩, 42), (⟨"EqualCourtModel", "isByParts", "(II)Z"⟩, 42), (⟨"EqualCourtModel", "isPart", "(IIII)Z"⟩, 42), (⟨"EqualCourtModel", "saidNow", "(IIZ)I"⟩, 42), (⟨"EqualCourtModel", "wouldClash", "(IIZ)Z"⟩, 42), (⟨"EqualCourtModel", "add", "(IIZ)V"⟩, 42), (⟨"EqualCourtModel", "clashes", "()Z"⟩, 42), (⟨"EqualCourtModel", "thin", "(II[I)I"⟩, 42), (⟨"EqualCourtModel", "does", "(II)Z"⟩, 42)]
theorem lw_r3 : ∀ q ∈ lw_privs_3, lw_okq q := List.forall_mem_cons.mpr ⟨lw_p32, List.forall_mem_cons.mpr ⟨lw_p33, List.forall_mem_cons.mpr ⟨lw_p34, List.forall_mem_cons.mpr ⟨lw_p35, List.forall_mem_cons.mpr ⟨lw_p36, List.forall_mem_cons.mpr ⟨lw_p37, List.forall_mem_cons.mpr ⟨lw_p38, List.forall_mem_cons.mpr ⟨lw_p39, List.forall_mem_cons.mpr ⟨lw_p40, List.forall_mem_cons.mpr ⟨lw_p41, List.forall_mem_cons.mpr ⟨lw_p42, List.forall_mem_cons.mpr ⟨lw_p43, List.forall_mem_cons.mpr ⟨lw_p44, List.forall_mem_cons.mpr ⟨lw_p45, List.forall_mem_cons.mpr ⟨lw_p46, List.forall_mem_cons.mpr ⟨lw_p47, fun _ h => absurd h List.not_mem_nil⟩⟩⟩⟩⟩⟩⟩⟩⟩⟩⟩⟩⟩⟩⟩⟩
theorem lw_p48 : lw_okq (⟨"EqualCourtModel", "take", "(IIZ)I"⟩, 42) := ⟨⟨by decide +kernel, by decide +kernel⟩, List.mem_of_getElem? (i := 849) (by decide +kernel), List.mem_of_getElem? (i := 1106) (by decide +kernel), List.mem_of_getElem? (i := 1107) (by decide +kernel)⟩
theorem lw_p49 : lw_okq (⟨"EqualCourtModel", "areOne", "(II)Z"⟩, 42) := ⟨⟨by decide +kernel, by decide +kernel⟩, List.mem_of_getElem? (i := 849) (by decide +kernel), List.mem_of_getElem? (i := 1130) (by decide +kernel), List.mem_of_getElem? (i := 1131) (by decide +kernel)⟩
theorem lw_p50 : lw_okq (⟨"EqualCourtModel", "isEnough", "(III)Z"⟩, 42) := ⟨⟨by decide +kernel, by decide +kernel⟩, List.mem_of_getElem? (i := 849) (by decide +kernel), List.mem_of_getElem? (i := 1143) (by decide +kernel), List.mem_of_getElem? (i := 1144) (by decide +kernel)⟩
theorem lw_p51 : lw_okq (⟨"EqualCourtModel", "nextSet", "(II)Z"⟩, 42) := ⟨⟨by decide +kernel, by decide +kernel⟩, List.mem_of_getElem? (i := 849) (by decide +kernel), List.mem_of_getElem? (i := 1147) (by decide +kernel), List.mem_of_getElem? (i := 1148) (by decide +kernel)⟩
theorem lw_p52 : lw_okq (⟨"EqualCourtModel", "usesOne", "(II)Z"⟩, 42) := ⟨⟨by decide +kernel, by decide +kernel⟩, List.mem_of_getElem? (i := 849) (by decide +kernel), List.mem_of_getElem? (i := 1167) (by decide +kernel), List.mem_of_getElem? (i := 1168) (by decide +kernel)⟩
theorem lw_p53 : lw_okq (⟨"EqualCourtModel", "numberOf", "(I)I"⟩, 42) := ⟨⟨by decide +kernel, by decide +kernel⟩, List.mem_of_getElem? (i := 849) (by decide +kernel), List.mem_of_getElem? (i := 1176) (by decide +kernel), List.mem_of_getElem? (i := 1177) (by decide +kernel)⟩
theorem lw_p54 : lw_okq (⟨"EqualCourtModel", "isNumber", "(I)Z"⟩, 42) := ⟨⟨by decide +kernel, by decide +kernel⟩, List.mem_of_getElem? (i := 849) (by decide +kernel), List.mem_of_getElem? (i := 1180) (by decide +kernel), List.mem_of_getElem? (i := 1181) (by decide +kernel)⟩
theorem lw_p55 : lw_okq (⟨"EqualCourtModel", "instanceOf", "(I)I"⟩, 42) := ⟨⟨by decide +kernel, by decide +kernel⟩, List.mem_of_getElem? (i := 849) (by decide +kernel), List.mem_of_getElem? (i := 1200) (by decide +kernel), List.mem_of_getElem? (i := 1201) (by decide +kernel)⟩
theorem lw_p56 : lw_okq (⟨"EqualCourtModel", "rebuilt", "(I)I"⟩, 42) := ⟨⟨by decide +kernel, by decide +kernel⟩, List.mem_of_getElem? (i := 849) (by decide +kernel), List.mem_of_getElem? (i := 1204) (by decide +kernel), List.mem_of_getElem? (i := 1205) (by decide +kernel)⟩
theorem lw_p57 : lw_okq (⟨"EqualCourtModel", "isHole", "(I)Z"⟩, 42) := ⟨⟨by decide +kernel, by decide +kernel⟩, List.mem_of_getElem? (i := 849) (by decide +kernel), List.mem_of_getElem? (i := 1208) (by decide +kernel), List.mem_of_getElem? (i := 1209) (by decide +kernel)⟩
theorem lw_p58 : lw_okq (⟨"EqualCourtModel", "findHeads", "()V"⟩, 42) := ⟨⟨by decide +kernel, by decide +kernel⟩, List.mem_of_getElem? (i := 849) (by decide +kernel), List.mem_of_getElem? (i := 1216) (by decide +kernel), List.mem_of_getElem? (i := 1217) (by decide +kernel)⟩
theorem lw_p59 : lw_okq (⟨"EqualCourtModel", "lookForHoles", "(I)V"⟩, 42) := ⟨⟨by decide +kernel, by decide +kernel⟩, List.mem_of_getElem? (i := 849) (by decide +kernel), List.mem_of_getElem? (i := 1220) (by decide +kernel), List.mem_of_getElem? (i := 1221) (by decide +kernel)⟩
theorem lw_p60 : lw_okq (⟨"EqualCourtModel", "followAll", "(II)I"⟩, 42) := ⟨⟨by decide +kernel, by decide +kernel⟩, List.mem_of_getElem? (i := 849) (by decide +kernel), List.mem_of_getElem? (i := 1224) (by decide +kernel), List.mem_of_getElem? (i := 1225) (by decide +kernel)⟩
theorem lw_p61 : lw_okq (⟨"EqualCourtModel", "goOn", "(II)I"⟩, 42) := ⟨⟨by decide +kernel, by decide +kernel⟩, List.mem_of_getElem? (i := 849) (by decide +kernel), List.mem_of_getElem? (i := 1228) (by decide +kernel), List.mem_of_getElem? (i := 1229) (by decide +kernel)⟩
theorem lw_p62 : lw_okq (⟨"EqualCourtModel", "isRight", "(I)Z"⟩, 42) := ⟨⟨by decide +kernel, by decide +kernel⟩, List.mem_of_getElem? (i := 849) (by decide +kernel), List.mem_of_getElem? (i := 1248) (by decide +kernel), List.mem_of_getElem? (i := 1249) (by decide +kernel)⟩
theorem lw_p63 : lw_okq (⟨"EqualCourtModel", "isStep", "(II)Z"⟩, 42) := ⟨⟨by decide +kernel, by decide +kernel⟩, List.mem_of_getElem? (i := 849) (by decide +kernel), List.mem_of_getElem? (i := 1252) (by decide +kernel), List.mem_of_getElem? (i := 1253) (by decide +kernel)⟩
def lw_privs_4 : List (MethodName × Nat) := [(⟨"EqualCourtModel", "take", "(IIZ)I"⟩, 42), (⟨"EqualCourtModel", "areOne", "(II)Z"⟩, 42), (⟨"EqualCourtModel", "isEnough", "(III)Z"⟩, 42), (⟨"EqualCourtModel", "nextSet", "(II)Z"⟩, 42), (⟨"EqualCourtModel", "usesOne", "(II)Z"⟩, 42), (⟨"EqualCourtModel", "numberOf", "(I)I"⟩, 42), (⟨"EqualCourtModel", "isNumber", "(I)Z"⟩, 42), (⟨"EqualCourtModel", "instanceOf", "(I)I"⟩, 42), (⟨"EqualCourtModel", "rebuilt", "(I)I"⟩, 42), (⟨"EqualCourtModel", "isHole", "(I)Z"⟩, 42), (⟨"EqualCourtModel", "findHeads", "()V"⟩, 42), (⟨"EqualCourtModel", "lookForHoles", "(I)V"⟩, 42), (⟨"EqualCourtModel", "followAll", "(II)I"⟩, 42), (⟨"EqualCourtModel", "goOn", "(II)I"⟩, 42), (⟨"EqualCourtModel", "isRight", "(I)Z"⟩, 42), (⟨"EqualCourtModel", "isStep", "(II)Z"⟩, 42)]
theorem lw_r4 : ∀ q ∈ lw_privs_4, lw_okq q := List.forall_mem_cons.mpr ⟨lw_p48, List.forall_mem_cons.mpr ⟨lw_p49, List.forall_mem_cons.mpr ⟨lw_p50, List.forall_mem_cons.mpr ⟨lw_p51, List.forall_mem_cons.mpr ⟨lw_p52, List.forall_mem_cons.mpr ⟨lw_p53, List.forall_mem_cons.mpr ⟨lw_p54, List.forall_mem_cons.mpr ⟨lw_p55, List.forall_mem_cons.mpr ⟨lw_p56, List.forall_mem_cons.mpr ⟨lw_p57, List.forall_mem_cons.mpr ⟨lw_p58, List.forall_mem_cons.mpr ⟨lw_p59, List.forall_mem_cons.mpr ⟨lw_p60, List.forall_mem_cons.mpr ⟨lw_p61, List.forall_mem_cons.mpr ⟨lw_p62, List.forall_mem_cons.mpr ⟨lw_p63, fun _ h => absurd h List.not_mem_nil⟩⟩⟩⟩⟩⟩⟩⟩⟩⟩⟩⟩⟩⟩⟩⟩
theorem lw_p64 : lw_okq (⟨"EqualCourtModel", "isRightByParts", "(I)Z"⟩, 42) := ⟨⟨by decide +kernel, by decide +kernel⟩, List.mem_of_getElem? (i := 849) (by decide +kernel), List.mem_of_getElem? (i := 1256) (by decide +kernel), List.mem_of_getElem? (i := 1257) (by decide +kernel)⟩
theorem lw_p65 : lw_okq (⟨"EqualCourtModel", "isKnown", "(III)Z"⟩, 42) := ⟨⟨by decide +kernel, by decide +kernel⟩, List.mem_of_getElem? (i := 849) (by decide +kernel), List.mem_of_getElem? (i := 1260) (by decide +kernel), List.mem_of_getElem? (i := 1261) (by decide +kernel)⟩
theorem lw_p66 : lw_okq (⟨"EqualCourtModel", "isOfRows", "(IIII)Z"⟩, 42) := ⟨⟨by decide +kernel, by decide +kernel⟩, List.mem_of_getElem? (i := 849) (by decide +kernel), List.mem_of_getElem? (i := 1264) (by decide +kernel), List.mem_of_getElem? (i := 1265) (by decide +kernel)⟩
def lw_privs_5 : List (MethodName × Nat) := [(⟨"EqualCourtModel", "isRightByParts", "(I)Z"⟩, 42), (⟨"EqualCourtModel", "isKnown", "(III)Z"⟩, 42), (⟨"EqualCourtModel", "isOfRows", "(IIII)Z"⟩, 42)]
theorem lw_r5 : ∀ q ∈ lw_privs_5, lw_okq q := List.forall_mem_cons.mpr ⟨lw_p64, List.forall_mem_cons.mpr ⟨lw_p65, List.forall_mem_cons.mpr ⟨lw_p66, fun _ h => absurd h List.not_mem_nil⟩⟩⟩
def lw_privs : List (MethodName × Nat) := lw_privs_1 ++ (lw_privs_2 ++ (lw_privs_3 ++ (lw_privs_4 ++ (lw_privs_5))))
def lw_tbl : List Cond := k2_sels lw_privs ++ tables_1
theorem lw_privs_ok : ∀ q ∈ lw_privs, lw_okq q := by
  show ∀ q ∈ lw_privs_1 ++ (lw_privs_2 ++ (lw_privs_3 ++ (lw_privs_4 ++ (lw_privs_5)))), lw_okq q
  exact List.forall_mem_append.mpr ⟨lw_r1, List.forall_mem_append.mpr ⟨lw_r2, List.forall_mem_append.mpr ⟨lw_r3, List.forall_mem_append.mpr ⟨lw_r4, lw_r5⟩⟩⟩⟩
end
section
def TX0 : u_T := fun k => match k with
  | 0 => ("EqualCourt$Agenda", "lefts", "[I", true)
  | 1 => ("EqualCourt$Agenda", "rights", "[I", true)
  | 2 => ("EqualCourt$Agenda", "changed", "[I", true)
  | 3 => ("EqualCourt$Agenda", "waits", "[Z", true)
  | 4 => ("EqualCourt$Agenda", "pairCount", "I", false)
  | _ => ("EqualCourt$Agenda", "changedCount", "I", false)
def tyX0 : Nat → FieldType := fun k => match k with
  | 0 => .array .int
  | 1 => .array .int
  | 2 => .array .int
  | 3 => .array .boolean
  | 4 => .int
  | _ => .int
theorem nmX0 : ∀ a, a < 6 → ∀ b, b < 6 → a ≠ b → (TX0 a).2.1 ≠ (TX0 b).2.1 := by decide +kernel
theorem tyX0_ok : ∀ k, k < 6 → parseFieldDescriptor (TX0 k).2.2.1 = some (tyX0 k) := by decide +kernel
def TX1 : u_T := fun k => match k with
  | 0 => ("EqualCourt$Core", "items", "[I", true)
  | _ => ("EqualCourt$Core", "count", "I", false)
def tyX1 : Nat → FieldType := fun k => match k with
  | 0 => .array .int
  | _ => .int
theorem nmX1 : ∀ a, a < 2 → ∀ b, b < 2 → a ≠ b → (TX1 a).2.1 ≠ (TX1 b).2.1 := by decide +kernel
theorem tyX1_ok : ∀ k, k < 2 → parseFieldDescriptor (TX1 k).2.2.1 = some (tyX1 k) := by decide +kernel
def TX2 : u_T := fun k => match k with
  | 0 => ("EqualCourt$Court", "terms", "LEqualCourt$Terms;", true)
  | 1 => ("EqualCourt$Court", "sayings", "LEqualCourt$Sayings;", true)
  | 2 => ("EqualCourt$Court", "bare", "LEqualCourt$Partition;", true)
  | 3 => ("EqualCourt$Court", "standing", "LEqualCourt$Partition;", false)
  | 4 => ("EqualCourt$Court", "trial", "LEqualCourt$Partition;", false)
  | 5 => ("EqualCourt$Court", "unlikes", "LEqualCourt$Core;", true)
  | 6 => ("EqualCourt$Court", "pool", "[I", true)
  | 7 => ("EqualCourt$Court", "helps", "[Z", true)
  | _ => ("EqualCourt$Court", "picks", "[I", true)
def tyX2 : Nat → FieldType := fun k => match k with
  | 0 => .object "EqualCourt$Terms"
  | 1 => .object "EqualCourt$Sayings"
  | 2 => .object "EqualCourt$Partition"
  | 3 => .object "EqualCourt$Partition"
  | 4 => .object "EqualCourt$Partition"
  | 5 => .object "EqualCourt$Core"
  | 6 => .array .int
  | 7 => .array .boolean
  | _ => .array .int
theorem nmX2 : ∀ a, a < 9 → ∀ b, b < 9 → a ≠ b → (TX2 a).2.1 ≠ (TX2 b).2.1 := by decide +kernel
theorem tyX2_ok : ∀ k, k < 9 → parseFieldDescriptor (TX2 k).2.2.1 = some (tyX2 k) := by decide +kernel
def TX3 : u_T := fun k => match k with
  | 0 => ("EqualCourt$Maker", "terms", "LEqualCourt$Terms;", true)
  | 1 => ("EqualCourt$Maker", "images", "[I", true)
  | 2 => ("EqualCourt$Maker", "turnOfImage", "[I", true)
  | 3 => ("EqualCourt$Maker", "path", "[I", true)
  | 4 => ("EqualCourt$Maker", "fillings", "[I", true)
  | _ => ("EqualCourt$Maker", "turn", "I", false)
def tyX3 : Nat → FieldType := fun k => match k with
  | 0 => .object "EqualCourt$Terms"
  | 1 => .array .int
  | 2 => .array .int
  | 3 => .array .int
  | 4 => .array .int
  | _ => .int
theorem nmX3 : ∀ a, a < 6 → ∀ b, b < 6 → a ≠ b → (TX3 a).2.1 ≠ (TX3 b).2.1 := by decide +kernel
theorem tyX3_ok : ∀ k, k < 6 → parseFieldDescriptor (TX3 k).2.2.1 = some (tyX3 k) := by decide +kernel
def TX4 : u_T := fun k => match k with
  | 0 => ("EqualCourt$Partition", "terms", "LEqualCourt$Terms;", true)
  | 1 => ("EqualCourt$Partition", "agenda", "LEqualCourt$Agenda;", true)
  | 2 => ("EqualCourt$Partition", "root", "[I", true)
  | 3 => ("EqualCourt$Partition", "next", "[I", true)
  | 4 => ("EqualCourt$Partition", "size", "[I", true)
  | 5 => ("EqualCourt$Partition", "least", "[I", true)
  | 6 => ("EqualCourt$Partition", "number", "[I", true)
  | 7 => ("EqualCourt$Partition", "aRow", "[I", true)
  | 8 => ("EqualCourt$Partition", "buckets", "[I", true)
  | 9 => ("EqualCourt$Partition", "chain", "[I", true)
  | 10 => ("EqualCourt$Partition", "slot", "[I", true)
  | 11 => ("EqualCourt$Partition", "known", "I", false)
  | 12 => ("EqualCourt$Partition", "classes", "I", false)
  | _ => ("EqualCourt$Partition", "torn", "Z", false)
def tyX4 : Nat → FieldType := fun k => match k with
  | 0 => .object "EqualCourt$Terms"
  | 1 => .object "EqualCourt$Agenda"
  | 2 => .array .int
  | 3 => .array .int
  | 4 => .array .int
  | 5 => .array .int
  | 6 => .array .int
  | 7 => .array .int
  | 8 => .array .int
  | 9 => .array .int
  | 10 => .array .int
  | 11 => .int
  | 12 => .int
  | _ => .boolean
theorem nmX4 : ∀ a, a < 14 → ∀ b, b < 14 → a ≠ b → (TX4 a).2.1 ≠ (TX4 b).2.1 := by decide +kernel
theorem tyX4_ok : ∀ k, k < 14 → parseFieldDescriptor (TX4 k).2.2.1 = some (tyX4 k) := by decide +kernel
def TX5 : u_T := fun k => match k with
  | 0 => ("EqualCourt$Sayings", "same", "[Z", true)
  | 1 => ("EqualCourt$Sayings", "lefts", "[I", true)
  | 2 => ("EqualCourt$Sayings", "rights", "[I", true)
  | 3 => ("EqualCourt$Sayings", "taken", "[I", true)
  | 4 => ("EqualCourt$Sayings", "remembered", "[I", true)
  | 5 => ("EqualCourt$Sayings", "count", "I", false)
  | 6 => ("EqualCourt$Sayings", "takenCount", "I", false)
  | _ => ("EqualCourt$Sayings", "levels", "I", false)
def tyX5 : Nat → FieldType := fun k => match k with
  | 0 => .array .boolean
  | 1 => .array .int
  | 2 => .array .int
  | 3 => .array .int
  | 4 => .array .int
  | 5 => .int
  | 6 => .int
  | _ => .int
theorem nmX5 : ∀ a, a < 8 → ∀ b, b < 8 → a ≠ b → (TX5 a).2.1 ≠ (TX5 b).2.1 := by decide +kernel
theorem tyX5_ok : ∀ k, k < 8 → parseFieldDescriptor (TX5 k).2.2.1 = some (tyX5 k) := by decide +kernel
def TX6 : u_T := fun k => match k with
  | 0 => ("EqualCourt$Steps", "terms", "LEqualCourt$Terms;", true)
  | 1 => ("EqualCourt$Steps", "sayings", "LEqualCourt$Sayings;", true)
  | 2 => ("EqualCourt$Steps", "reasons", "[I", true)
  | 3 => ("EqualCourt$Steps", "lefts", "[I", true)
  | 4 => ("EqualCourt$Steps", "rights", "[I", true)
  | 5 => ("EqualCourt$Steps", "is", "[I", true)
  | 6 => ("EqualCourt$Steps", "js", "[I", true)
  | _ => ("EqualCourt$Steps", "count", "I", false)
def tyX6 : Nat → FieldType := fun k => match k with
  | 0 => .object "EqualCourt$Terms"
  | 1 => .object "EqualCourt$Sayings"
  | 2 => .array .int
  | 3 => .array .int
  | 4 => .array .int
  | 5 => .array .int
  | 6 => .array .int
  | _ => .int
theorem nmX6 : ∀ a, a < 8 → ∀ b, b < 8 → a ≠ b → (TX6 a).2.1 ≠ (TX6 b).2.1 := by decide +kernel
theorem tyX6_ok : ∀ k, k < 8 → parseFieldDescriptor (TX6 k).2.2.1 = some (tyX6 k) := by decide +kernel
def TX7 : u_T := fun k => match k with
  | 0 => ("EqualCourt$Terms", "kinds", "[I", true)
  | 1 => ("EqualCourt$Terms", "shown", "[I", true)
  | 2 => ("EqualCourt$Terms", "sizes", "[I", true)
  | 3 => ("EqualCourt$Terms", "parts", "[I", true)
  | 4 => ("EqualCourt$Terms", "holes", "[I", true)
  | 5 => ("EqualCourt$Terms", "buckets", "[I", true)
  | 6 => ("EqualCourt$Terms", "chain", "[I", true)
  | 7 => ("EqualCourt$Terms", "firstPlace", "[I", true)
  | 8 => ("EqualCourt$Terms", "nextPlace", "[I", true)
  | _ => ("EqualCourt$Terms", "count", "I", false)
def tyX7 : Nat → FieldType := fun k => match k with
  | 0 => .array .int
  | 1 => .array .int
  | 2 => .array .int
  | 3 => .array .int
  | 4 => .array .int
  | 5 => .array .int
  | 6 => .array .int
  | 7 => .array .int
  | 8 => .array .int
  | _ => .int
theorem nmX7 : ∀ a, a < 10 → ∀ b, b < 10 → a ≠ b → (TX7 a).2.1 ≠ (TX7 b).2.1 := by decide +kernel
theorem tyX7_ok : ∀ k, k < 10 → parseFieldDescriptor (TX7 k).2.2.1 = some (tyX7 k) := by decide +kernel
def TX8 : u_T := fun k => match k with
  | 0 => ("EqualCourt", "terms", "LEqualCourt$Terms;", true)
  | 1 => ("EqualCourt", "sayings", "LEqualCourt$Sayings;", true)
  | 2 => ("EqualCourt", "court", "LEqualCourt$Court;", true)
  | 3 => ("EqualCourt", "maker", "LEqualCourt$Maker;", true)
  | 4 => ("EqualCourt", "steps", "LEqualCourt$Steps;", true)
  | 5 => ("EqualCourt", "clashCore", "LEqualCourt$Core;", true)
  | 6 => ("EqualCourt", "causes", "LEqualCourt$Core;", true)
  | 7 => ("EqualCourt", "lawLefts", "[I", true)
  | 8 => ("EqualCourt", "lawRights", "[I", true)
  | 9 => ("EqualCourt", "goneOver", "[I", true)
  | 10 => ("EqualCourt", "lawCount", "I", false)
  | 11 => ("EqualCourt", "endedBy", "I", false)
  | _ => ("EqualCourt", "finding", "I", false)
def tyX8 : Nat → FieldType := fun k => match k with
  | 0 => .object "EqualCourt$Terms"
  | 1 => .object "EqualCourt$Sayings"
  | 2 => .object "EqualCourt$Court"
  | 3 => .object "EqualCourt$Maker"
  | 4 => .object "EqualCourt$Steps"
  | 5 => .object "EqualCourt$Core"
  | 6 => .object "EqualCourt$Core"
  | 7 => .array .int
  | 8 => .array .int
  | 9 => .array .int
  | 10 => .int
  | 11 => .int
  | _ => .int
theorem nmX8 : ∀ a, a < 13 → ∀ b, b < 13 → a ≠ b → (TX8 a).2.1 ≠ (TX8 b).2.1 := by decide +kernel
theorem tyX8_ok : ∀ k, k < 13 → parseFieldDescriptor (TX8 k).2.2.1 = some (tyX8 k) := by decide +kernel
def TX9 : u_T := fun k => match k with
  | 0 => ("EqualCourtModel", "kindOf", "[I", true)
  | 1 => ("EqualCourtModel", "shown", "[I", true)
  | 2 => ("EqualCourtModel", "partMany", "[I", true)
  | 3 => ("EqualCourtModel", "partOf", "[I", true)
  | 4 => ("EqualCourtModel", "terms", "I", false)
  | 5 => ("EqualCourtModel", "sayA", "[I", true)
  | 6 => ("EqualCourtModel", "sayB", "[I", true)
  | 7 => ("EqualCourtModel", "isSame", "[Z", true)
  | 8 => ("EqualCourtModel", "isTaken", "[Z", true)
  | 9 => ("EqualCourtModel", "sayings", "I", false)
  | 10 => ("EqualCourtModel", "remembered", "[Z", true)
  | 11 => ("EqualCourtModel", "levels", "I", false)
  | 12 => ("EqualCourtModel", "lawA", "[I", true)
  | 13 => ("EqualCourtModel", "lawB", "[I", true)
  | 14 => ("EqualCourtModel", "laws", "I", false)
  | 15 => ("EqualCourtModel", "reasonOf", "[I", true)
  | 16 => ("EqualCourtModel", "stepA", "[I", true)
  | 17 => ("EqualCourtModel", "stepB", "[I", true)
  | 18 => ("EqualCourtModel", "stepI", "[I", true)
  | 19 => ("EqualCourtModel", "stepJ", "[I", true)
  | 20 => ("EqualCourtModel", "steps", "I", false)
  | 21 => ("EqualCourtModel", "clashRow", "[I", true)
  | 22 => ("EqualCourtModel", "clashMany", "I", false)
  | 23 => ("EqualCourtModel", "whyRow", "[I", true)
  | 24 => ("EqualCourtModel", "whyMany", "I", false)
  | 25 => ("EqualCourtModel", "endedBy", "I", false)
  | 26 => ("EqualCourtModel", "finding", "I", false)
  | 27 => ("EqualCourtModel", "asked", "[I", true)
  | 28 => ("EqualCourtModel", "one", "[I", true)
  | 29 => ("EqualCourtModel", "isIn", "[Z", true)
  | 30 => ("EqualCourtModel", "isFresh", "Z", false)
  | 31 => ("EqualCourtModel", "court", "[I", true)
  | 32 => ("EqualCourtModel", "chosen", "[I", true)
  | 33 => ("EqualCourtModel", "hole", "[I", true)
  | 34 => ("EqualCourtModel", "becomes", "[I", true)
  | 35 => ("EqualCourtModel", "pile", "[I", true)
  | 36 => ("EqualCourtModel", "nextPart", "[I", true)
  | 37 => ("EqualCourtModel", "stands", "[Z", true)
  | 38 => ("EqualCourtModel", "isSeen", "[Z", true)
  | 39 => ("EqualCourtModel", "heads", "[I", true)
  | 40 => ("EqualCourtModel", "headMany", "I", false)
  | _ => ("EqualCourtModel", "came", "I", false)
def tyX9 : Nat → FieldType := fun k => match k with
  | 0 => .array .int
  | 1 => .array .int
  | 2 => .array .int
  | 3 => .array .int
  | 4 => .int
  | 5 => .array .int
  | 6 => .array .int
  | 7 => .array .boolean
  | 8 => .array .boolean
  | 9 => .int
  | 10 => .array .boolean
  | 11 => .int
  | 12 => .array .int
  | 13 => .array .int
  | 14 => .int
  | 15 => .array .int
  | 16 => .array .int
  | 17 => .array .int
  | 18 => .array .int
  | 19 => .array .int
  | 20 => .int
  | 21 => .array .int
  | 22 => .int
  | 23 => .array .int
  | 24 => .int
  | 25 => .int
  | 26 => .int
  | 27 => .array .int
  | 28 => .array .int
  | 29 => .array .boolean
  | 30 => .boolean
  | 31 => .array .int
  | 32 => .array .int
  | 33 => .array .int
  | 34 => .array .int
  | 35 => .array .int
  | 36 => .array .int
  | 37 => .array .boolean
  | 38 => .array .boolean
  | 39 => .array .int
  | 40 => .int
  | _ => .int
theorem nmX9 : ∀ a, a < 42 → ∀ b, b < 42 → a ≠ b → (TX9 a).2.1 ≠ (TX9 b).2.1 := by decide +kernel
theorem tyX9_ok : ∀ k, k < 42 → parseFieldDescriptor (TX9 k).2.2.1 = some (tyX9 k) := by decide +kernel
abbrev vwCl : List vw_C := [("EqualCourt$Agenda", TX0, 6), ("EqualCourt$Core", TX1, 2), ("EqualCourt$Court", TX2, 9), ("EqualCourt$Maker", TX3, 6), ("EqualCourt$Partition", TX4, 14), ("EqualCourt$Sayings", TX5, 8), ("EqualCourt$Steps", TX6, 8), ("EqualCourt$Terms", TX7, 10), ("EqualCourt", TX8, 13), ("EqualCourtModel", TX9, 42)]
abbrev cX0_init : ByteArray := prog_2_method_1_code
def yX0_init : MethodName := ⟨"EqualCourt$Agenda", "<init>", "()V"⟩
abbrev cX0_putPair : ByteArray := prog_2_method_2_code
def yX0_putPair : MethodName := ⟨"EqualCourt$Agenda", "putPair", "(II)V"⟩
abbrev cX0_hasPair : ByteArray := prog_2_method_3_code
def yX0_hasPair : MethodName := ⟨"EqualCourt$Agenda", "hasPair", "()Z"⟩
abbrev cX0_lastLeft : ByteArray := prog_2_method_4_code
def yX0_lastLeft : MethodName := ⟨"EqualCourt$Agenda", "lastLeft", "()I"⟩
abbrev cX0_lastRight : ByteArray := prog_2_method_5_code
def yX0_lastRight : MethodName := ⟨"EqualCourt$Agenda", "lastRight", "()I"⟩
abbrev cX0_removePair : ByteArray := prog_2_method_6_code
def yX0_removePair : MethodName := ⟨"EqualCourt$Agenda", "removePair", "()V"⟩
abbrev cX0_putChanged : ByteArray := prog_2_method_7_code
def yX0_putChanged : MethodName := ⟨"EqualCourt$Agenda", "putChanged", "(I)V"⟩
abbrev cX0_hasChanged : ByteArray := prog_2_method_8_code
def yX0_hasChanged : MethodName := ⟨"EqualCourt$Agenda", "hasChanged", "()Z"⟩
abbrev cX0_takeChanged : ByteArray := prog_2_method_9_code
def yX0_takeChanged : MethodName := ⟨"EqualCourt$Agenda", "takeChanged", "()I"⟩
abbrev cX0_clear : ByteArray := prog_2_method_10_code
def yX0_clear : MethodName := ⟨"EqualCourt$Agenda", "clear", "()V"⟩
abbrev cX1_init : ByteArray := prog_3_method_1_code
def yX1_init : MethodName := ⟨"EqualCourt$Core", "<init>", "()V"⟩
abbrev cX1_count : ByteArray := prog_3_method_2_code
def yX1_count : MethodName := ⟨"EqualCourt$Core", "count", "()I"⟩
abbrev cX1_at : ByteArray := prog_3_method_3_code
def yX1_at : MethodName := ⟨"EqualCourt$Core", "at", "(I)I"⟩
abbrev cX1_add : ByteArray := prog_3_method_4_code
def yX1_add : MethodName := ⟨"EqualCourt$Core", "add", "(I)V"⟩
abbrev cX1_clear : ByteArray := prog_3_method_5_code
def yX1_clear : MethodName := ⟨"EqualCourt$Core", "clear", "()V"⟩
abbrev cX2_init : ByteArray := prog_4_method_1_code
def yX2_init : MethodName := ⟨"EqualCourt$Court", "<init>", "(LEqualCourt$Terms;LEqualCourt$Sayings;)V"⟩
abbrev cX2_standing : ByteArray := prog_4_method_2_code
def yX2_standing : MethodName := ⟨"EqualCourt$Court", "standing", "()LEqualCourt$Partition;"⟩
abbrev cX2_admitFrom : ByteArray := prog_4_method_3_code
def yX2_admitFrom : MethodName := ⟨"EqualCourt$Court", "admitFrom", "(I)V"⟩
abbrev cX2_judgeAnew : ByteArray := prog_4_method_4_code
def yX2_judgeAnew : MethodName := ⟨"EqualCourt$Court", "judgeAnew", "()V"⟩
abbrev cX2_wouldClash : ByteArray := prog_4_method_5_code
def yX2_wouldClash : MethodName := ⟨"EqualCourt$Court", "wouldClash", "(II)Z"⟩
abbrev cX2_acceptTrial : ByteArray := prog_4_method_6_code
def yX2_acceptTrial : MethodName := ⟨"EqualCourt$Court", "acceptTrial", "()V"⟩
abbrev cX2_thin : ByteArray := prog_4_method_7_code
def yX2_thin : MethodName := ⟨"EqualCourt$Court", "thin", "(ZIILEqualCourt$Core;)V"⟩
abbrev cX2_addToTrial : ByteArray := prog_4_method_8_code
def yX2_addToTrial : MethodName := ⟨"EqualCourt$Court", "addToTrial", "(I)Z"⟩
abbrev cX2_isReached : ByteArray := prog_4_method_9_code
def yX2_isReached : MethodName := ⟨"EqualCourt$Court", "isReached", "(ZII)Z"⟩
abbrev cX2_findFewest : ByteArray := prog_4_method_10_code
def yX2_findFewest : MethodName := ⟨"EqualCourt$Court", "findFewest", "(IIILEqualCourt$Core;)Z"⟩
abbrev cX2_fillPool : ByteArray := prog_4_method_11_code
def yX2_fillPool : MethodName := ⟨"EqualCourt$Court", "fillPool", "()I"⟩
abbrev cX2_isOneByPicks : ByteArray := prog_4_method_12_code
def yX2_isOneByPicks : MethodName := ⟨"EqualCourt$Court", "isOneByPicks", "(III)Z"⟩
abbrev cX2_pickNext : ByteArray := prog_4_method_13_code
def yX2_pickNext : MethodName := ⟨"EqualCourt$Court", "pickNext", "(II)Z"⟩
abbrev cX3_init : ByteArray := prog_5_method_1_code
def yX3_init : MethodName := ⟨"EqualCourt$Maker", "<init>", "(LEqualCourt$Terms;)V"⟩
abbrev cX3_makeInstance : ByteArray := prog_5_method_2_code
def yX3_makeInstance : MethodName := ⟨"EqualCourt$Maker", "makeInstance", "(IIII)I"⟩
abbrev cX3_isKnown : ByteArray := prog_5_method_3_code
def yX3_isKnown : MethodName := ⟨"EqualCourt$Maker", "isKnown", "(I)Z"⟩
abbrev cX3_imageOf : ByteArray := prog_5_method_4_code
def yX3_imageOf : MethodName := ⟨"EqualCourt$Maker", "imageOf", "(I)I"⟩
abbrev cX3_openPart : ByteArray := prog_5_method_5_code
def yX3_openPart : MethodName := ⟨"EqualCourt$Maker", "openPart", "(I)I"⟩
abbrev cX3_makeImage : ByteArray := prog_5_method_6_code
def yX3_makeImage : MethodName := ⟨"EqualCourt$Maker", "makeImage", "(I)Z"⟩
abbrev cX4_init : ByteArray := prog_6_method_1_code
def yX4_init : MethodName := ⟨"EqualCourt$Partition", "<init>", "(LEqualCourt$Terms;LEqualCourt$Agenda;)V"⟩
abbrev cX4_classes : ByteArray := prog_6_method_2_code
def yX4_classes : MethodName := ⟨"EqualCourt$Partition", "classes", "()I"⟩
abbrev cX4_isTorn : ByteArray := prog_6_method_3_code
def yX4_isTorn : MethodName := ⟨"EqualCourt$Partition", "isTorn", "()Z"⟩
abbrev cX4_isOne : ByteArray := prog_6_method_4_code
def yX4_isOne : MethodName := ⟨"EqualCourt$Partition", "isOne", "(II)Z"⟩
abbrev cX4_headOf : ByteArray := prog_6_method_5_code
def yX4_headOf : MethodName := ⟨"EqualCourt$Partition", "headOf", "(I)I"⟩
abbrev cX4_numberOf : ByteArray := prog_6_method_6_code
def yX4_numberOf : MethodName := ⟨"EqualCourt$Partition", "numberOf", "(I)I"⟩
abbrev cX4_unnumberedBelow : ByteArray := prog_6_method_7_code
def yX4_unnumberedBelow : MethodName := ⟨"EqualCourt$Partition", "unnumberedBelow", "(I)I"⟩
abbrev cX4_hasPartLike : ByteArray := prog_6_method_8_code
def yX4_hasPartLike : MethodName := ⟨"EqualCourt$Partition", "hasPartLike", "(II)Z"⟩
abbrev cX4_copyFrom : ByteArray := prog_6_method_9_code
def yX4_copyFrom : MethodName := ⟨"EqualCourt$Partition", "copyFrom", "(LEqualCourt$Partition;)V"⟩
abbrev cX4_admit : ByteArray := prog_6_method_10_code
def yX4_admit : MethodName := ⟨"EqualCourt$Partition", "admit", "(I)V"⟩
abbrev cX4_join : ByteArray := prog_6_method_11_code
def yX4_join : MethodName := ⟨"EqualCourt$Partition", "join", "(II)V"⟩
abbrev cX4_unite : ByteArray := prog_6_method_12_code
def yX4_unite : MethodName := ⟨"EqualCourt$Partition", "unite", "(II)V"⟩
abbrev cX4_uniteRows : ByteArray := prog_6_method_13_code
def yX4_uniteRows : MethodName := ⟨"EqualCourt$Partition", "uniteRows", "(II)V"⟩
abbrev cX4_review : ByteArray := prog_6_method_14_code
def yX4_review : MethodName := ⟨"EqualCourt$Partition", "review", "(I)V"⟩
abbrev cX4_rootOfPart : ByteArray := prog_6_method_15_code
def yX4_rootOfPart : MethodName := ⟨"EqualCourt$Partition", "rootOfPart", "(II)I"⟩
abbrev cX4_isBuiltAlike : ByteArray := prog_6_method_16_code
def yX4_isBuiltAlike : MethodName := ⟨"EqualCourt$Partition", "isBuiltAlike", "(II)Z"⟩
abbrev cX4_takeOut : ByteArray := prog_6_method_17_code
def yX4_takeOut : MethodName := ⟨"EqualCourt$Partition", "takeOut", "(I)V"⟩
abbrev cX5_init : ByteArray := prog_7_method_1_code
def yX5_init : MethodName := ⟨"EqualCourt$Sayings", "<init>", "()V"⟩
abbrev cX5_count : ByteArray := prog_7_method_2_code
def yX5_count : MethodName := ⟨"EqualCourt$Sayings", "count", "()I"⟩
abbrev cX5_takenCount : ByteArray := prog_7_method_3_code
def yX5_takenCount : MethodName := ⟨"EqualCourt$Sayings", "takenCount", "()I"⟩
abbrev cX5_levels : ByteArray := prog_7_method_4_code
def yX5_levels : MethodName := ⟨"EqualCourt$Sayings", "levels", "()I"⟩
abbrev cX5_has : ByteArray := prog_7_method_5_code
def yX5_has : MethodName := ⟨"EqualCourt$Sayings", "has", "(I)Z"⟩
abbrev cX5_isFull : ByteArray := prog_7_method_6_code
def yX5_isFull : MethodName := ⟨"EqualCourt$Sayings", "isFull", "()Z"⟩
abbrev cX5_isSame : ByteArray := prog_7_method_7_code
def yX5_isSame : MethodName := ⟨"EqualCourt$Sayings", "isSame", "(I)Z"⟩
abbrev cX5_left : ByteArray := prog_7_method_8_code
def yX5_left : MethodName := ⟨"EqualCourt$Sayings", "left", "(I)I"⟩
abbrev cX5_right : ByteArray := prog_7_method_9_code
def yX5_right : MethodName := ⟨"EqualCourt$Sayings", "right", "(I)I"⟩
abbrev cX5_isTaken : ByteArray := prog_7_method_10_code
def yX5_isTaken : MethodName := ⟨"EqualCourt$Sayings", "isTaken", "(I)Z"⟩
abbrev cX5_add : ByteArray := prog_7_method_11_code
def yX5_add : MethodName := ⟨"EqualCourt$Sayings", "add", "(ZII)I"⟩
abbrev cX5_remove : ByteArray := prog_7_method_12_code
def yX5_remove : MethodName := ⟨"EqualCourt$Sayings", "remove", "(I)V"⟩
abbrev cX5_beginLevel : ByteArray := prog_7_method_13_code
def yX5_beginLevel : MethodName := ⟨"EqualCourt$Sayings", "beginLevel", "()I"⟩
abbrev cX5_endLevel : ByteArray := prog_7_method_14_code
def yX5_endLevel : MethodName := ⟨"EqualCourt$Sayings", "endLevel", "()V"⟩
abbrev cX6_init : ByteArray := prog_8_method_1_code
def yX6_init : MethodName := ⟨"EqualCourt$Steps", "<init>", "(LEqualCourt$Terms;LEqualCourt$Sayings;)V"⟩
abbrev cX6_count : ByteArray := prog_8_method_2_code
def yX6_count : MethodName := ⟨"EqualCourt$Steps", "count", "()I"⟩
abbrev cX6_add : ByteArray := prog_8_method_3_code
def yX6_add : MethodName := ⟨"EqualCourt$Steps", "add", "(IIIII)I"⟩
abbrev cX6_forget : ByteArray := prog_8_method_4_code
def yX6_forget : MethodName := ⟨"EqualCourt$Steps", "forget", "()V"⟩
abbrev cX6_says : ByteArray := prog_8_method_5_code
def yX6_says : MethodName := ⟨"EqualCourt$Steps", "says", "(III)Z"⟩
abbrev cX6_isRight : ByteArray := prog_8_method_6_code
def yX6_isRight : MethodName := ⟨"EqualCourt$Steps", "isRight", "(I)Z"⟩
abbrev cX6_isSaid : ByteArray := prog_8_method_7_code
def yX6_isSaid : MethodName := ⟨"EqualCourt$Steps", "isSaid", "(III)Z"⟩
abbrev cX6_isChained : ByteArray := prog_8_method_8_code
def yX6_isChained : MethodName := ⟨"EqualCourt$Steps", "isChained", "(III)Z"⟩
abbrev cX6_isByParts : ByteArray := prog_8_method_9_code
def yX6_isByParts : MethodName := ⟨"EqualCourt$Steps", "isByParts", "(IIIZ)Z"⟩
abbrev cX6_isSameBefore : ByteArray := prog_8_method_10_code
def yX6_isSameBefore : MethodName := ⟨"EqualCourt$Steps", "isSameBefore", "(III)Z"⟩
abbrev cX6_isOfRows : ByteArray := prog_8_method_11_code
def yX6_isOfRows : MethodName := ⟨"EqualCourt$Steps", "isOfRows", "(III)Z"⟩
abbrev cX7_init : ByteArray := prog_9_method_1_code
def yX7_init : MethodName := ⟨"EqualCourt$Terms", "<init>", "()V"⟩
abbrev cX7_count : ByteArray := prog_9_method_2_code
def yX7_count : MethodName := ⟨"EqualCourt$Terms", "count", "()I"⟩
abbrev cX7_has : ByteArray := prog_9_method_3_code
def yX7_has : MethodName := ⟨"EqualCourt$Terms", "has", "(I)Z"⟩
abbrev cX7_kindOf : ByteArray := prog_9_method_4_code
def yX7_kindOf : MethodName := ⟨"EqualCourt$Terms", "kindOf", "(I)I"⟩
abbrev cX7_shownBy : ByteArray := prog_9_method_5_code
def yX7_shownBy : MethodName := ⟨"EqualCourt$Terms", "shownBy", "(I)I"⟩
abbrev cX7_sizeOf : ByteArray := prog_9_method_6_code
def yX7_sizeOf : MethodName := ⟨"EqualCourt$Terms", "sizeOf", "(I)I"⟩
abbrev cX7_partOf : ByteArray := prog_9_method_7_code
def yX7_partOf : MethodName := ⟨"EqualCourt$Terms", "partOf", "(II)I"⟩
abbrev cX7_holesOf : ByteArray := prog_9_method_8_code
def yX7_holesOf : MethodName := ⟨"EqualCourt$Terms", "holesOf", "(I)I"⟩
abbrev cX7_isHole : ByteArray := prog_9_method_9_code
def yX7_isHole : MethodName := ⟨"EqualCourt$Terms", "isHole", "(I)Z"⟩
abbrev cX7_find : ByteArray := prog_9_method_10_code
def yX7_find : MethodName := ⟨"EqualCourt$Terms", "find", "(IIIII)I"⟩
abbrev cX7_findOrMake : ByteArray := prog_9_method_11_code
def yX7_findOrMake : MethodName := ⟨"EqualCourt$Terms", "findOrMake", "(IIIII)I"⟩
abbrev cX7_unmakeFrom : ByteArray := prog_9_method_12_code
def yX7_unmakeFrom : MethodName := ⟨"EqualCourt$Terms", "unmakeFrom", "(I)V"⟩
abbrev cX8_init : ByteArray := prog_1_method_1_code
def yX8_init : MethodName := ⟨"EqualCourt", "<init>", "()V"⟩
abbrev cX8_name : ByteArray := prog_1_method_2_code
def yX8_name : MethodName := ⟨"EqualCourt", "name", "(I)I"⟩
abbrev cX8_number : ByteArray := prog_1_method_3_code
def yX8_number : MethodName := ⟨"EqualCourt", "number", "(I)I"⟩
abbrev cX8_built : ByteArray := prog_1_method_4_code
def yX8_built : MethodName := ⟨"EqualCourt", "built", "(IIIII)I"⟩
abbrev cX8_row : ByteArray := prog_1_method_5_code
def yX8_row : MethodName := ⟨"EqualCourt", "row", "(II)I"⟩
abbrev cX8_even : ByteArray := prog_1_method_6_code
def yX8_even : MethodName := ⟨"EqualCourt", "even", "(III)I"⟩
abbrev cX8_kind : ByteArray := prog_1_method_7_code
def yX8_kind : MethodName := ⟨"EqualCourt", "kind", "(I)I"⟩
abbrev cX8_part : ByteArray := prog_1_method_8_code
def yX8_part : MethodName := ⟨"EqualCourt", "part", "(II)I"⟩
abbrev cX8_shows : ByteArray := prog_1_method_9_code
def yX8_shows : MethodName := ⟨"EqualCourt", "shows", "(I)I"⟩
abbrev cX8_many : ByteArray := prog_1_method_10_code
def yX8_many : MethodName := ⟨"EqualCourt", "many", "(I)I"⟩
abbrev cX8_say : ByteArray := prog_1_method_11_code
def yX8_say : MethodName := ⟨"EqualCourt", "say", "(II)I"⟩
abbrev cX8_unlike : ByteArray := prog_1_method_12_code
def yX8_unlike : MethodName := ⟨"EqualCourt", "unlike", "(II)I"⟩
abbrev cX8_drop : ByteArray := prog_1_method_13_code
def yX8_drop : MethodName := ⟨"EqualCourt", "drop", "(I)I"⟩
abbrev cX8_said : ByteArray := prog_1_method_14_code
def yX8_said : MethodName := ⟨"EqualCourt", "said", "(II)I"⟩
abbrev cX8_clashed : ByteArray := prog_1_method_15_code
def yX8_clashed : MethodName := ⟨"EqualCourt", "clashed", "(I)I"⟩
abbrev cX8_judge : ByteArray := prog_1_method_16_code
def yX8_judge : MethodName := ⟨"EqualCourt", "judge", "(II)I"⟩
abbrev cX8_why : ByteArray := prog_1_method_17_code
def yX8_why : MethodName := ⟨"EqualCourt", "why", "(II)I"⟩
abbrev cX8_least : ByteArray := prog_1_method_18_code
def yX8_least : MethodName := ⟨"EqualCourt", "least", "(III)I"⟩
abbrev cX8_because : ByteArray := prog_1_method_19_code
def yX8_because : MethodName := ⟨"EqualCourt", "because", "(I)I"⟩
abbrev cX8_head : ByteArray := prog_1_method_20_code
def yX8_head : MethodName := ⟨"EqualCourt", "head", "(I)I"⟩
abbrev cX8_member : ByteArray := prog_1_method_21_code
def yX8_member : MethodName := ⟨"EqualCourt", "member", "(II)I"⟩
abbrev cX8_uses : ByteArray := prog_1_method_22_code
def yX8_uses : MethodName := ⟨"EqualCourt", "uses", "(II)I"⟩
abbrev cX8_world : ByteArray := prog_1_method_23_code
def yX8_world : MethodName := ⟨"EqualCourt", "world", "(I)J"⟩
abbrev cX8_push : ByteArray := prog_1_method_24_code
def yX8_push : MethodName := ⟨"EqualCourt", "push", "()I"⟩
abbrev cX8_pop : ByteArray := prog_1_method_25_code
def yX8_pop : MethodName := ⟨"EqualCourt", "pop", "()I"⟩
abbrev cX8_law : ByteArray := prog_1_method_26_code
def yX8_law : MethodName := ⟨"EqualCourt", "law", "(II)I"⟩
abbrev cX8_instance : ByteArray := prog_1_method_27_code
def yX8_instance : MethodName := ⟨"EqualCourt", "instance", "(IIII)I"⟩
abbrev cX8_follow : ByteArray := prog_1_method_28_code
def yX8_follow : MethodName := ⟨"EqualCourt", "follow", "(II)I"⟩
abbrev cX8_ended : ByteArray := prog_1_method_29_code
def yX8_ended : MethodName := ⟨"EqualCourt", "ended", "()I"⟩
abbrev cX8_claim : ByteArray := prog_1_method_30_code
def yX8_claim : MethodName := ⟨"EqualCourt", "claim", "(IIIII)I"⟩
abbrev cX8_unclaim : ByteArray := prog_1_method_31_code
def yX8_unclaim : MethodName := ⟨"EqualCourt", "unclaim", "()I"⟩
abbrev cX8_check : ByteArray := prog_1_method_32_code
def yX8_check : MethodName := ⟨"EqualCourt", "check", "(II)I"⟩
abbrev cX8_status : ByteArray := prog_1_method_33_code
def yX8_status : MethodName := ⟨"EqualCourt", "status", "()I"⟩
abbrev cX8_refused : ByteArray := prog_1_method_34_code
def yX8_refused : MethodName := ⟨"EqualCourt", "refused", "(I)I"⟩
abbrev cX8_done : ByteArray := prog_1_method_35_code
def yX8_done : MethodName := ⟨"EqualCourt", "done", "(I)I"⟩
abbrev cX8_madeTerm : ByteArray := prog_1_method_36_code
def yX8_madeTerm : MethodName := ⟨"EqualCourt", "madeTerm", "(IIIII)I"⟩
abbrev cX8_madeInstance : ByteArray := prog_1_method_37_code
def yX8_madeInstance : MethodName := ⟨"EqualCourt", "madeInstance", "(IIII)I"⟩
abbrev cX8_freeInt : ByteArray := prog_1_method_38_code
def yX8_freeInt : MethodName := ⟨"EqualCourt", "freeInt", "(I)I"⟩
abbrev cX8_gatherHeads : ByteArray := prog_1_method_39_code
def yX8_gatherHeads : MethodName := ⟨"EqualCourt", "gatherHeads", "()I"⟩
abbrev cX8_applyLaw : ByteArray := prog_1_method_40_code
def yX8_applyLaw : MethodName := ⟨"EqualCourt", "applyLaw", "(IIII)I"⟩
abbrev cX8_slotFor : ByteArray := prog_1_method_41_code
def yX8_slotFor : MethodName := ⟨"EqualCourt", "slotFor", "(IIIII)I"⟩
abbrev cX9_init : ByteArray := prog_11_method_1_code
def yX9_init : MethodName := ⟨"EqualCourtModel", "<init>", "()V"⟩
abbrev cX9_refuse : ByteArray := prog_11_method_2_code
def yX9_refuse : MethodName := ⟨"EqualCourtModel", "refuse", "(I)I"⟩
abbrev cX9_done : ByteArray := prog_11_method_3_code
def yX9_done : MethodName := ⟨"EqualCourtModel", "done", "(I)I"⟩
abbrev cX9_isTerm : ByteArray := prog_11_method_4_code
def yX9_isTerm : MethodName := ⟨"EqualCourtModel", "isTerm", "(I)Z"⟩
abbrev cX9_findTerm : ByteArray := prog_11_method_5_code
def yX9_findTerm : MethodName := ⟨"EqualCourtModel", "findTerm", "(III)I"⟩
abbrev cX9_made : ByteArray := prog_11_method_6_code
def yX9_made : MethodName := ⟨"EqualCourtModel", "made", "(III)I"⟩
abbrev cX9_answer : ByteArray := prog_11_method_7_code
def yX9_answer : MethodName := ⟨"EqualCourtModel", "answer", "(I)I"⟩
abbrev cX9_name : ByteArray := prog_11_method_8_code
def yX9_name : MethodName := ⟨"EqualCourtModel", "name", "(I)I"⟩
abbrev cX9_number : ByteArray := prog_11_method_9_code
def yX9_number : MethodName := ⟨"EqualCourtModel", "number", "(I)I"⟩
abbrev cX9_built : ByteArray := prog_11_method_10_code
def yX9_built : MethodName := ⟨"EqualCourtModel", "built", "(IIIII)I"⟩
abbrev cX9_row : ByteArray := prog_11_method_11_code
def yX9_row : MethodName := ⟨"EqualCourtModel", "row", "(II)I"⟩
abbrev cX9_even : ByteArray := prog_11_method_12_code
def yX9_even : MethodName := ⟨"EqualCourtModel", "even", "(III)I"⟩
abbrev cX9_kind : ByteArray := prog_11_method_13_code
def yX9_kind : MethodName := ⟨"EqualCourtModel", "kind", "(I)I"⟩
abbrev cX9_part : ByteArray := prog_11_method_14_code
def yX9_part : MethodName := ⟨"EqualCourtModel", "part", "(II)I"⟩
abbrev cX9_shows : ByteArray := prog_11_method_15_code
def yX9_shows : MethodName := ⟨"EqualCourtModel", "shows", "(I)I"⟩
abbrev cX9_merge : ByteArray := prog_11_method_16_code
def yX9_merge : MethodName := ⟨"EqualCourtModel", "merge", "(II)V"⟩
abbrev cX9_isPart : ByteArray := prog_11_method_17_code
def yX9_isPart : MethodName := ⟨"EqualCourtModel", "isPart", "(IIII)Z"⟩
abbrev cX9_isByParts : ByteArray := prog_11_method_18_code
def yX9_isByParts : MethodName := ⟨"EqualCourtModel", "isByParts", "(II)Z"⟩
abbrev cX9_looks : ByteArray := prog_11_method_19_code
def yX9_looks : MethodName := ⟨"EqualCourtModel", "looks", "()Z"⟩
abbrev cX9_findOnes : ByteArray := prog_11_method_20_code
def yX9_findOnes : MethodName := ⟨"EqualCourtModel", "findOnes", "()V"⟩
abbrev cX9_clashes : ByteArray := prog_11_method_21_code
def yX9_clashes : MethodName := ⟨"EqualCourtModel", "clashes", "()Z"⟩
abbrev cX9_takeCourt : ByteArray := prog_11_method_22_code
def yX9_takeCourt : MethodName := ⟨"EqualCourtModel", "takeCourt", "()V"⟩
abbrev cX9_court : ByteArray := prog_11_method_23_code
def yX9_court : MethodName := ⟨"EqualCourtModel", "court", "()V"⟩
abbrev cX9_areOne : ByteArray := prog_11_method_24_code
def yX9_areOne : MethodName := ⟨"EqualCourtModel", "areOne", "(II)Z"⟩
abbrev cX9_add : ByteArray := prog_11_method_25_code
def yX9_add : MethodName := ⟨"EqualCourtModel", "add", "(IIZ)V"⟩
abbrev cX9_does : ByteArray := prog_11_method_26_code
def yX9_does : MethodName := ⟨"EqualCourtModel", "does", "(II)Z"⟩
abbrev cX9_thin : ByteArray := prog_11_method_27_code
def yX9_thin : MethodName := ⟨"EqualCourtModel", "thin", "(II[I)I"⟩
abbrev cX9_taken : ByteArray := prog_11_method_28_code
def yX9_taken : MethodName := ⟨"EqualCourtModel", "taken", "()I"⟩
abbrev cX9_classes : ByteArray := prog_11_method_29_code
def yX9_classes : MethodName := ⟨"EqualCourtModel", "classes", "()I"⟩
abbrev cX9_many : ByteArray := prog_11_method_30_code
def yX9_many : MethodName := ⟨"EqualCourtModel", "many", "(I)I"⟩
abbrev cX9_wouldClash : ByteArray := prog_11_method_31_code
def yX9_wouldClash : MethodName := ⟨"EqualCourtModel", "wouldClash", "(IIZ)Z"⟩
abbrev cX9_take : ByteArray := prog_11_method_32_code
def yX9_take : MethodName := ⟨"EqualCourtModel", "take", "(IIZ)I"⟩
abbrev cX9_saidNow : ByteArray := prog_11_method_33_code
def yX9_saidNow : MethodName := ⟨"EqualCourtModel", "saidNow", "(IIZ)I"⟩
abbrev cX9_say : ByteArray := prog_11_method_34_code
def yX9_say : MethodName := ⟨"EqualCourtModel", "say", "(II)I"⟩
abbrev cX9_unlike : ByteArray := prog_11_method_35_code
def yX9_unlike : MethodName := ⟨"EqualCourtModel", "unlike", "(II)I"⟩
abbrev cX9_drop : ByteArray := prog_11_method_36_code
def yX9_drop : MethodName := ⟨"EqualCourtModel", "drop", "(I)I"⟩
abbrev cX9_said : ByteArray := prog_11_method_37_code
def yX9_said : MethodName := ⟨"EqualCourtModel", "said", "(II)I"⟩
abbrev cX9_clashed : ByteArray := prog_11_method_38_code
def yX9_clashed : MethodName := ⟨"EqualCourtModel", "clashed", "(I)I"⟩
abbrev cX9_judge : ByteArray := prog_11_method_39_code
def yX9_judge : MethodName := ⟨"EqualCourtModel", "judge", "(II)I"⟩
abbrev cX9_why : ByteArray := prog_11_method_40_code
def yX9_why : MethodName := ⟨"EqualCourtModel", "why", "(II)I"⟩
abbrev cX9_nextSet : ByteArray := prog_11_method_41_code
def yX9_nextSet : MethodName := ⟨"EqualCourtModel", "nextSet", "(II)Z"⟩
abbrev cX9_isEnough : ByteArray := prog_11_method_42_code
def yX9_isEnough : MethodName := ⟨"EqualCourtModel", "isEnough", "(III)Z"⟩
abbrev cX9_least : ByteArray := prog_11_method_43_code
def yX9_least : MethodName := ⟨"EqualCourtModel", "least", "(III)I"⟩
abbrev cX9_because : ByteArray := prog_11_method_44_code
def yX9_because : MethodName := ⟨"EqualCourtModel", "because", "(I)I"⟩
abbrev cX9_head : ByteArray := prog_11_method_45_code
def yX9_head : MethodName := ⟨"EqualCourtModel", "head", "(I)I"⟩
abbrev cX9_member : ByteArray := prog_11_method_46_code
def yX9_member : MethodName := ⟨"EqualCourtModel", "member", "(II)I"⟩
abbrev cX9_usesOne : ByteArray := prog_11_method_47_code
def yX9_usesOne : MethodName := ⟨"EqualCourtModel", "usesOne", "(II)Z"⟩
abbrev cX9_uses : ByteArray := prog_11_method_48_code
def yX9_uses : MethodName := ⟨"EqualCourtModel", "uses", "(II)I"⟩
abbrev cX9_isNumber : ByteArray := prog_11_method_49_code
def yX9_isNumber : MethodName := ⟨"EqualCourtModel", "isNumber", "(I)Z"⟩
abbrev cX9_numberOf : ByteArray := prog_11_method_50_code
def yX9_numberOf : MethodName := ⟨"EqualCourtModel", "numberOf", "(I)I"⟩
abbrev cX9_world : ByteArray := prog_11_method_51_code
def yX9_world : MethodName := ⟨"EqualCourtModel", "world", "(I)J"⟩
abbrev cX9_push : ByteArray := prog_11_method_52_code
def yX9_push : MethodName := ⟨"EqualCourtModel", "push", "()I"⟩
abbrev cX9_pop : ByteArray := prog_11_method_53_code
def yX9_pop : MethodName := ⟨"EqualCourtModel", "pop", "()I"⟩
abbrev cX9_law : ByteArray := prog_11_method_54_code
def yX9_law : MethodName := ⟨"EqualCourtModel", "law", "(II)I"⟩
abbrev cX9_isHole : ByteArray := prog_11_method_55_code
def yX9_isHole : MethodName := ⟨"EqualCourtModel", "isHole", "(I)Z"⟩
abbrev cX9_rebuilt : ByteArray := prog_11_method_56_code
def yX9_rebuilt : MethodName := ⟨"EqualCourtModel", "rebuilt", "(I)I"⟩
abbrev cX9_instanceOf : ByteArray := prog_11_method_57_code
def yX9_instanceOf : MethodName := ⟨"EqualCourtModel", "instanceOf", "(I)I"⟩
abbrev cX9_instance : ByteArray := prog_11_method_58_code
def yX9_instance : MethodName := ⟨"EqualCourtModel", "instance", "(IIII)I"⟩
abbrev cX9_lookForHoles : ByteArray := prog_11_method_59_code
def yX9_lookForHoles : MethodName := ⟨"EqualCourtModel", "lookForHoles", "(I)V"⟩
abbrev cX9_findHeads : ByteArray := prog_11_method_60_code
def yX9_findHeads : MethodName := ⟨"EqualCourtModel", "findHeads", "()V"⟩
abbrev cX9_goOn : ByteArray := prog_11_method_61_code
def yX9_goOn : MethodName := ⟨"EqualCourtModel", "goOn", "(II)I"⟩
abbrev cX9_followAll : ByteArray := prog_11_method_62_code
def yX9_followAll : MethodName := ⟨"EqualCourtModel", "followAll", "(II)I"⟩
abbrev cX9_follow : ByteArray := prog_11_method_63_code
def yX9_follow : MethodName := ⟨"EqualCourtModel", "follow", "(II)I"⟩
abbrev cX9_ended : ByteArray := prog_11_method_64_code
def yX9_ended : MethodName := ⟨"EqualCourtModel", "ended", "()I"⟩
abbrev cX9_claim : ByteArray := prog_11_method_65_code
def yX9_claim : MethodName := ⟨"EqualCourtModel", "claim", "(IIIII)I"⟩
abbrev cX9_unclaim : ByteArray := prog_11_method_66_code
def yX9_unclaim : MethodName := ⟨"EqualCourtModel", "unclaim", "()I"⟩
abbrev cX9_isStep : ByteArray := prog_11_method_67_code
def yX9_isStep : MethodName := ⟨"EqualCourtModel", "isStep", "(II)Z"⟩
abbrev cX9_isKnown : ByteArray := prog_11_method_68_code
def yX9_isKnown : MethodName := ⟨"EqualCourtModel", "isKnown", "(III)Z"⟩
abbrev cX9_isRightByParts : ByteArray := prog_11_method_69_code
def yX9_isRightByParts : MethodName := ⟨"EqualCourtModel", "isRightByParts", "(I)Z"⟩
abbrev cX9_isRight : ByteArray := prog_11_method_70_code
def yX9_isRight : MethodName := ⟨"EqualCourtModel", "isRight", "(I)Z"⟩
abbrev cX9_isOfRows : ByteArray := prog_11_method_71_code
def yX9_isOfRows : MethodName := ⟨"EqualCourtModel", "isOfRows", "(IIII)Z"⟩
abbrev cX9_check : ByteArray := prog_11_method_72_code
def yX9_check : MethodName := ⟨"EqualCourtModel", "check", "(II)I"⟩
abbrev cX9_status : ByteArray := prog_11_method_73_code
def yX9_status : MethodName := ⟨"EqualCourtModel", "status", "()I"⟩
abbrev cJ9_min_7cf53 : ByteArray := prog_12_method_69_code
def yJ9_min_7cf53 : MethodName := ⟨"java/lang/Math", "min", "(II)I"⟩
abbrev cJ7_fill_53178 : ByteArray := prog_14_method_103_code
def yJ7_fill_53178 : MethodName := ⟨"java/util/Arrays", "fill", "([II)V"⟩
abbrev cL_law : ByteArray := code
def yL_law : MethodName := ⟨"EqualCourtLaw", "law", "([I)Z"⟩
def TW : List Cond := lw_tbl.filter goodWord
theorem TW_of {w : Cond} (h : w ∈ lw_tbl) (hg : goodWord w = true) : w ∈ TW := List.mem_filter.mpr ⟨h, hg⟩
theorem TW_good : ∀ w ∈ TW, goodWord w = true := fun w h => (List.mem_filter.mp h).2
theorem TW_all (ws : List Cond) (h : ws.all (fun w => decide (w ∈ lw_tbl) && goodWord w) = true) : ∀ w ∈ ws, w ∈ TW := fun w hw => by
  have h1 := List.all_eq_true.mp h w hw
  simp only [Bool.and_eq_true, decide_eq_true_eq] at h1
  exact TW_of h1.1 h1.2
set_option maxRecDepth 20000 in
theorem inX0 : ∀ w ∈ u_ws "EqualCourt$Agenda" TX0 6, w ∈ TW := TW_all _ (by decide +kernel)
set_option maxRecDepth 20000 in
theorem inX1 : ∀ w ∈ u_ws "EqualCourt$Core" TX1 2, w ∈ TW := TW_all _ (by decide +kernel)
set_option maxRecDepth 20000 in
theorem inX2 : ∀ w ∈ u_ws "EqualCourt$Court" TX2 9, w ∈ TW := TW_all _ (by decide +kernel)
set_option maxRecDepth 20000 in
theorem inX3 : ∀ w ∈ u_ws "EqualCourt$Maker" TX3 6, w ∈ TW := TW_all _ (by decide +kernel)
set_option maxRecDepth 20000 in
theorem inX4 : ∀ w ∈ u_ws "EqualCourt$Partition" TX4 14, w ∈ TW := TW_all _ (by decide +kernel)
set_option maxRecDepth 20000 in
theorem inX5 : ∀ w ∈ u_ws "EqualCourt$Sayings" TX5 8, w ∈ TW := TW_all _ (by decide +kernel)
set_option maxRecDepth 20000 in
theorem inX6 : ∀ w ∈ u_ws "EqualCourt$Steps" TX6 8, w ∈ TW := TW_all _ (by decide +kernel)
set_option maxRecDepth 20000 in
theorem inX7 : ∀ w ∈ u_ws "EqualCourt$Terms" TX7 10, w ∈ TW := TW_all _ (by decide +kernel)
set_option maxRecDepth 20000 in
theorem inX8 : ∀ w ∈ u_ws "EqualCourt" TX8 13, w ∈ TW := TW_all _ (by decide +kernel)
set_option maxRecDepth 20000 in
theorem inX9 : ∀ w ∈ u_ws "EqualCourtModel" TX9 42, w ∈ TW := TW_all _ (by decide +kernel)
end
section
/-! function worlds: n cells at addresses ad, cell k holds cf k (σ k) -/
abbrev fS : Type := Nat → Nat → Int32
def rd (σ : fS) (k : Nat) (i : Int32) : Int32 := σ k i.toNatClampNeg
def wrr (σ : fS) (k : Nat) (row : Nat → Int32) : fS := fun j => if j = k then row else σ j
def wr (σ : fS) (k : Nat) (i : Int32) (v : Int32) : fS := wrr σ k (upd (σ k) i.toNatClampNeg v)
def wf (σ : fS) (k f : Nat) (v : Int32) : fS := wrr σ k (upd (σ k) f v)
def inb (i : Int32) (n : Nat) : Bool := decide (¬ (i < 0 ∨ n ≤ i.toNatClampNeg))
theorem inb_vp {i : Int32} {n : Nat} (h : inb i n = true) : vp_in i n := by
  have h2 : ¬ (i < 0 ∨ n ≤ i.toNatClampNeg) := of_decide_eq_true h
  exact h2
def isb (v : Int32) : Bool := decide (v = 0 ∨ v = 1)
def zb (v : Int32) : Int32 := vp_nar .boolean v
theorem isb_nar {v : Int32} (h : isb v = true) : narrow .boolean (.int v) = .int v := by
  rcases of_decide_eq_true h with rfl | rfl <;> decide +kernel
theorem isb_fit {v : Int32} (h : isb v = true) : fits .boolean (.int v) = true := by
  rcases of_decide_eq_true h with rfl | rfl <;> decide +kernel
def bnd {α β : Type} (e : α) (k : α → β) : β := k e
theorem bnd_at {α β : Type} {e : α} {k : α → β} {r : β} {x : α} (h : bnd e k = r) (hx : x = e) : k x = r := by subst hx; exact h
def gd {α : Type} (c : Bool) (x : Option α) : Option α := match c with
  | true => x
  | false => none
theorem gd_at {α : Type} {c : Bool} {x : Option α} {r : α} (h : gd c x = some r) : c = true ∧ x = some r := by
  cases c with
  | true => exact ⟨rfl, h⟩
  | false => exact absurd h (by simp [gd])
def bp {α β : Type} (x : Option α) (k : α → Option β) : Option β := match x with
  | none => none
  | some a => k a
theorem bp_at {α β : Type} {x : Option α} {k : α → Option β} {r : β} (h : bp x k = some r) : ∃ a, x = some a ∧ k a = some r := by
  cases x with
  | none => exact absurd h (by simp [bp])
  | some a => exact ⟨a, rfl, h⟩
def bd {α β : Type} (x : Option (α × fS)) (k : α → fS → Option β) : Option β := match x with
  | none => none
  | some (a, σ) => k a σ
theorem bd_at {α β : Type} {x : Option (α × fS)} {k : α → fS → Option β} {r : β} (h : bd x k = some r) : ∃ a σ, x = some (a, σ) ∧ k a σ = some r := by
  cases x with
  | none => exact absurd h (by simp [bd])
  | some q => exact ⟨q.1, q.2, rfl, h⟩
theorem if_t {α : Type} {c : Prop} [Decidable c] {a b r : α} (h : (if c then a else b) = r) (hc : c) : a = r := by rw [if_pos hc] at h; exact h
theorem if_f {α : Type} {c : Prop} [Decidable c] {a b r : α} (h : (if c then a else b) = r) (hc : ¬ c) : b = r := by rw [if_neg hc] at h; exact h
def fw (n : Nat) (ad : Nat → Nat) (cf : Nat → (Nat → Int32) → va_E) (σ : fS) : va_W := (List.range n).map fun k => (ad k, cf k (σ k))
theorem fw_at {n : Nat} {ad : Nat → Nat} {cf : Nat → (Nat → Int32) → va_E} {σ : fS} {k : Nat} (h : k < n) : (fw n ad cf σ)[k]? = some (ad k, cf k (σ k)) := by
  unfold fw
  rw [List.getElem?_map, List.getElem?_range h]
  rfl
theorem fw_inv {n : Nat} {ad : Nat → Nat} {cf : Nat → (Nat → Int32) → va_E} {σ : fS} {k : Nat} {q : Nat × va_E} (h : (fw n ad cf σ)[k]? = some q) : k < n ∧ q = (ad k, cf k (σ k)) := by
  have hk : k < n := by
    have := (List.getElem?_eq_some_iff.mp h).1
    simpa [fw] using this
  rw [fw_at hk] at h
  exact ⟨hk, (Option.some.inj h).symm⟩
theorem fw_set {n : Nat} {ad : Nat → Nat} {cf : Nat → (Nat → Int32) → va_E} {σ : fS} {k : Nat} {row : Nat → Int32} {e : va_E} (h : k < n) (he : cf k row = e) : (fw n ad cf σ).set k (ad k, e) = fw n ad cf (wrr σ k row) := by
  subst he
  apply List.ext_getElem?
  intro i
  by_cases hi : i < n
  · rw [fw_at hi]
    by_cases e : i = k
    · subst e
      rw [List.getElem?_set_self (by simp [fw]; exact hi)]
      simp [wrr]
    · rw [List.getElem?_set_ne (Ne.symm e), fw_at hi]
      simp [wrr, e]
  · have h1 : (fw n ad cf (wrr σ k row))[i]? = none := List.getElem?_eq_none (by simp [fw]; omega)
    have h2 : ((fw n ad cf σ).set k (ad k, cf k row))[i]? = none := List.getElem?_eq_none (by simp [fw]; omega)
    rw [h1, h2]
def fJ (n : Nat) (ad : Nat → Nat) : Prop := ∀ i j, i < n → j < n → ad i = ad j → i = j
def fA (n : Nat) (ad : Nat → Nat) (sz : Nat) : Nat → Prop := fun q => (∃ k, k < n ∧ q = ad k) ∨ sz ≤ q
theorem fw_D {n : Nat} {ad : Nat → Nat} {cf : Nat → (Nat → Int32) → va_E} {σ : fS} {sz : Nat} (hj : fJ n ad) : va_D (fA n ad sz) (fw n ad cf σ) := by
  refine ⟨fun i j x y hi hj' hxy => ?_, fun k q hk => ?_⟩
  · obtain ⟨h1, rfl⟩ := fw_inv hi
    obtain ⟨h2, rfl⟩ := fw_inv hj'
    exact hj i j h1 h2 hxy
  · obtain ⟨h1, rfl⟩ := fw_inv hk
    exact Or.inl ⟨k, h1, rfl⟩
def nwL : List Cond := [.fieldLinkNest "EqualCourt$Partition" 159 "EqualCourt$Terms" "kinds" "[I" "EqualCourt", .fieldLinkNest "EqualCourt$Partition" 162 "EqualCourt$Terms" "shown" "[I" "EqualCourt", .fieldLinkNest "EqualCourt$Partition" 172 "EqualCourt$Terms" "sizes" "[I" "EqualCourt", .fieldLinkNest "EqualCourt$Partition" 150 "EqualCourt$Terms" "parts" "[I" "EqualCourt", .fieldLinkNest "EqualCourt$Partition" 139 "EqualCourt$Terms" "firstPlace" "[I" "EqualCourt", .fieldLinkNest "EqualCourt$Partition" 142 "EqualCourt$Terms" "nextPlace" "[I" "EqualCourt", .methodLinkNest "EqualCourt" 18 ⟨"EqualCourt$Sayings", "<init>", "()V"⟩ "EqualCourt", .methodLinkNest "EqualCourt$Court" 11 ⟨"EqualCourt$Core", "<init>", "()V"⟩ "EqualCourt", .methodLinkNest "EqualCourt$Court" 39 ⟨"EqualCourt$Agenda", "<init>", "()V"⟩ "EqualCourt", .methodLinkNest "EqualCourt" 50 ⟨"EqualCourt$Core", "<init>", "()V"⟩ "EqualCourt", .methodLinkNest "EqualCourt$Terms" 49 ⟨"EqualCourt", "slotFor", "(IIIII)I"⟩ "EqualCourt", .methodLinkNest "EqualCourt$Partition" 165 ⟨"EqualCourt", "slotFor", "(IIIII)I"⟩ "EqualCourt"]
def fN (U : State) : Prop := ∀ w ∈ nwL, va_Nw w U
theorem fN_tab : ∀ w ∈ nwL, w.onTables = true := by decide +kernel
theorem fN.same {u U : State} (h : u.vm = U.vm) (hN : fN u) : fN U := fun w hw => va_Nw.same (fN_tab w hw) h (hN w hw)
theorem fN.warm {s U : State} (hW : s.WarmedH U.vm) (hN : fN s) : fN U := by
  intro w hw
  have h := hN w hw
  simp only [nwL, List.mem_cons, List.not_mem_nil, or_false] at hw
  rcases hw with rfl | rfl | rfl | rfl | rfl | rfl | rfl | rfl | rfl | rfl | rfl | rfl
  all_goals first | exact va_Nw.warmF hW h | exact va_Nw.warmM hW h
def fB (D : va_G) (n : Nat) (ad : Nat → Nat) (cf : Nat → (Nat → Int32) → va_E) (cy cz : ClassId) (σ : fS) (sz : Nat) (U : State) : Prop :=
  U.heap.size = sz ∧ va_P D vwCl (fw n ad cf σ) U.heap ∧ va_K D vwCl [(cy, .int), (cz, .boolean)] U ∧ fJ n ad ∧ fN U
/-- what a method knows all along -/
def fC (D : va_G) (n : Nat) (ad : Nat → Nat) (cy cz : ClassId) (p : Program) (s : State) (m : MethodId) (args : Array Value) (c : Code) (cc : ByteArray) (nL : Nat) (own : String) : Prop :=
  p.tables.exec = Jvm.exec ∧ c.code = cc ∧ c.maxLocals = nL ∧ s.vm.findClass own = some m.cls ∧ (∀ w ∈ TW, w.before args s = true) ∧ va_K D vwCl [(cy, .int), (cz, .boolean)] s ∧ fJ n ad ∧ fN s
/-- where a method is: the world now, and what it has changed -/
def fI (D : va_G) (n : Nat) (ad : Nat → Nat) (cf : Nat → (Nat → Int32) → va_E) (σ : fS) (s : State) (H : Heap) (locs : List Loc) : Prop :=
  va_P D vwCl (fw n ad cf σ) H ∧ va_S (fA n ad s.heap.size) s.heap H locs
abbrev fCd (y : MethodName) (cc : ByteArray) (nL : Nat) (ret : Option FieldType) : List Cond := .code y cc nL ret :: TW
def fMi (D : va_G) (n : Nat) (ad : Nat → Nat) (cf : Nat → (Nat → Int32) → va_E) (cy cz : ClassId) (l : Launch) (y : MethodName) (cc : ByteArray) (nL : Nat) (ret : Option FieldType) (rm : Room) (av : List Value) (σ : fS) (r : Int32) (τ : fS) : Prop :=
  ∀ sz, Met l y (fCd y cc nL ret) rm (va_Pc av (fB D n ad cf cy cz σ sz)) (va_Qi (fun r1 (_ : Unit) => r1 = r) (fun _ t => va_P D vwCl (fw n ad cf τ) t.heap) (fA n ad sz)) 0 0 (fA n ad sz)
def fMl (D : va_G) (n : Nat) (ad : Nat → Nat) (cf : Nat → (Nat → Int32) → va_E) (cy cz : ClassId) (l : Launch) (y : MethodName) (cc : ByteArray) (nL : Nat) (ret : Option FieldType) (rm : Room) (av : List Value) (σ : fS) (r : Int64) (τ : fS) : Prop :=
  ∀ sz, Met l y (fCd y cc nL ret) rm (va_Pc av (fB D n ad cf cy cz σ sz)) (va_Ql (fun r1 (_ : Unit) => r1 = r) (fun _ t => va_P D vwCl (fw n ad cf τ) t.heap) (fA n ad sz)) 0 0 (fA n ad sz)
def fMv (D : va_G) (n : Nat) (ad : Nat → Nat) (cf : Nat → (Nat → Int32) → va_E) (cy cz : ClassId) (l : Launch) (y : MethodName) (cc : ByteArray) (nL : Nat) (ret : Option FieldType) (rm : Room) (av : List Value) (σ : fS) (τ : fS) : Prop :=
  ∀ sz, Met l y (fCd y cc nL ret) rm (va_Pc av (fB D n ad cf cy cz σ sz)) (va_Qv (fun (_ : Unit) => True) (fun _ t => va_P D vwCl (fw n ad cf τ) t.heap) (fA n ad sz)) 0 0 (fA n ad sz)
def fMr (D : va_G) (n : Nat) (ad : Nat → Nat) (cf : Nat → (Nat → Int32) → va_E) (cy cz : ClassId) (l : Launch) (y : MethodName) (cc : ByteArray) (nL : Nat) (ret : Option FieldType) (rm : Room) (av : List Value) (σ : fS) (k : Nat) (τ : fS) : Prop :=
  ∀ sz, Met l y (fCd y cc nL ret) rm (va_Pc av (fB D n ad cf cy cz σ sz)) (va_Qr (fun (_ : Unit) => True) (fun _ a t => a = ad k ∧ va_P D vwCl (fw n ad cf τ) t.heap) (fA n ad sz)) 0 0 (fA n ad sz)
/-- cell k is an int array of L places; a boolean one; an object -/
def fAi (n : Nat) (cf : Nat → (Nat → Int32) → va_E) (cy : ClassId) (k L : Nat) : Prop := k < n ∧ ∀ row, cf k row = .inl (cy, L, .inl row)
def fOb (n : Nat) (cf : Nat → (Nat → Int32) → va_E) (k ci : Nat) (fs : (Nat → Int32) → List Value) : Prop := k < n ∧ ∀ row, cf k row = .inr (ci, fs row)
section FROW
variable {D : va_G} {n : Nat} {ad : Nat → Nat} {cf : Nat → (Nat → Int32) → va_E} {cy cz : ClassId} {cc : ByteArray} {nL : Nat} {own : String} {σ τ : fS}
variable {p : Program} {l : Launch} {e : Env} {R : Room} {s : State} {m : MethodId} {args : Array Value} {below : List Frame} {meth : Method} {c : Code} {H : Heap} {locs : List Loc} {Q : State → Prop} {pc : Nat} {ls : Array Slot} {rest : List Value}
theorem r_iald (hC : fC D n ad cy cz p s m args c cc nL own) (hI : fI D n ad cf σ s H locs) {k L : Nat} (ha : fAi n cf cy k L) {i : Int32} (hin : inb i L = true) (hdg : decode cc pc = .ok (.iaload, 1))
    (kk : W p l e R s m args below meth c H locs 0 0 Q (F0 m (pc + 1) ls (.int (rd σ k i) :: rest))) : W p l e R s m args below meth c H locs 0 0 Q (F0 m pc ls (.int i :: .ref (ad k) :: rest)) :=
  va_iald hC.1 hC.2.1 hC.2.2.2.2.2.1 hI.1 k 0 (by rw [fw_at ha.1, ha.2]) rfl (inb_vp hin) hdg kk
theorem r_zald (hC : fC D n ad cy cz p s m args c cc nL own) (hI : fI D n ad cf σ s H locs) {k L : Nat} (ha : fAi n cf cz k L) {i : Int32} (hin : inb i L = true) (hdg : decode cc pc = .ok (.baload, 1))
    (kk : W p l e R s m args below meth c H locs 0 0 Q (F0 m (pc + 1) ls (.int (rd σ k i) :: rest))) : W p l e R s m args below meth c H locs 0 0 Q (F0 m pc ls (.int i :: .ref (ad k) :: rest)) :=
  va_zald hC.1 hC.2.1 hC.2.2.2.2.2.1 hI.1 k 1 (by rw [fw_at ha.1, ha.2]) rfl (inb_vp hin) hdg kk
theorem r_iast (hC : fC D n ad cy cz p s m args c cc nL own) (hI : fI D n ad cf σ s H locs) {k L : Nat} (ha : fAi n cf cy k L) {i x : Int32} (hin : inb i L = true) (hdg : decode cc pc = .ok (.iastore, 1))
    (kk : ∀ (σ1 : fS) (H1 : Heap) (locs1 : List Loc), σ1 = wr σ k i x → fI D n ad cf σ1 s H1 locs1 → W p l e R s m args below meth c H1 locs1 0 0 Q (F0 m (pc + 1) ls rest)) : W p l e R s m args below meth c H locs 0 0 Q (F0 m pc ls (.int x :: .int i :: .ref (ad k) :: rest)) :=
  va_iast hC.1 hC.2.1 hC.2.2.2.2.2.1 hI.1 (fw_D hC.2.2.2.2.2.2.1) hI.2 k 0 (by rw [fw_at ha.1, ha.2]) rfl (inb_vp hin) hdg fun H1 locs1 hP1 _ hS1 => kk _ H1 locs1 rfl ⟨by
    rw [fw_set ha.1 (ha.2 _)] at hP1; exact hP1, hS1⟩
theorem r_zast (hC : fC D n ad cy cz p s m args c cc nL own) (hI : fI D n ad cf σ s H locs) {k L : Nat} (ha : fAi n cf cz k L) {i x : Int32} (hin : inb i L = true) (hdg : decode cc pc = .ok (.bastore, 1))
    (kk : ∀ (σ1 : fS) (H1 : Heap) (locs1 : List Loc), σ1 = wr σ k i (zb x) → fI D n ad cf σ1 s H1 locs1 → W p l e R s m args below meth c H1 locs1 0 0 Q (F0 m (pc + 1) ls rest)) : W p l e R s m args below meth c H locs 0 0 Q (F0 m pc ls (.int x :: .int i :: .ref (ad k) :: rest)) :=
  va_zast hC.1 hC.2.1 hC.2.2.2.2.2.1 hI.1 (fw_D hC.2.2.2.2.2.2.1) hI.2 k 1 (by rw [fw_at ha.1, ha.2]) rfl (inb_vp hin) hdg fun H1 locs1 hP1 _ hS1 => kk _ H1 locs1 rfl ⟨by
    rw [fw_set ha.1 (ha.2 _)] at hP1; exact hP1, hS1⟩
theorem r_get (hC : fC D n ad cy cz p s m args c cc nL own) (hI : fI D n ad cf σ s H locs) {k ci : Nat} {fs : (Nat → Int32) → List Value} (ho : fOb n cf k ci fs) {C : String} {T : u_T} {N : Nat} (hc : vwCl[ci]? = some (C, T, N)) (hin : ∀ w ∈ u_ws C T N, w ∈ TW) (f : Nat) (hf : f < N) (h1 : (T f).1 = C) {index : Nat} (hlink : Cond.fieldLink own index C (T f).2.1 (T f).2.2.1 ∈ TW) {v : Value} (hv : (fs (σ k))[f]? = some v) (hdg : decode cc pc = .ok (.getfield index, 3))
    (kk : W p l e R s m args below meth c H locs 0 0 Q (F0 m (pc + 3) ls (v :: rest))) : W p l e R s m args below meth c H locs 0 0 Q (F0 m pc ls (.ref (ad k) :: rest)) :=
  va_get (own := own) (ref := C) hC.1 hC.2.1 hC.2.2.2.2.1 hin hC.2.2.2.1 hC.2.2.2.2.2.1 hI.1 k (by rw [fw_at ho.1, ho.2]) hc f hf (hC.2.2.2.2.1 _ hlink) (fun x hx => by rw [← h1]; exact hx) hv hdg kk
theorem r_getN (hC : fC D n ad cy cz p s m args c cc nL own) (hI : fI D n ad cf σ s H locs) {k ci : Nat} {fs : (Nat → Int32) → List Value} (ho : fOb n cf k ci fs) {C : String} {T : u_T} {N : Nat} (hc : vwCl[ci]? = some (C, T, N)) (hin : ∀ w ∈ u_ws C T N, w ∈ TW) (f : Nat) (hf : f < N) (h1 : (T f).1 = C) {index : Nat} {host : String} (hlink : Cond.fieldLinkNest own index C (T f).2.1 (T f).2.2.1 host ∈ nwL) {v : Value} (hv : (fs (σ k))[f]? = some v) (hdg : decode cc pc = .ok (.getfield index, 3))
    (kk : W p l e R s m args below meth c H locs 0 0 Q (F0 m (pc + 3) ls (v :: rest))) : W p l e R s m args below meth c H locs 0 0 Q (F0 m pc ls (.ref (ad k) :: rest)) :=
  va_getN (own := own) (ref := C) (host := host) hC.1 hC.2.1 hC.2.2.2.2.1 hin hC.2.2.2.1 hC.2.2.2.2.2.1 hI.1 k (by rw [fw_at ho.1, ho.2]) hc f hf (va_Nw.use rfl (hC.2.2.2.2.2.2.2 _ hlink)) (fun x hx => by rw [← h1]; exact hx) hv hdg kk
theorem r_put (hC : fC D n ad cy cz p s m args c cc nL own) (hI : fI D n ad cf σ s H locs) {k ci : Nat} {fs : (Nat → Int32) → List Value} (ho : fOb n cf k ci fs) {C : String} {T : u_T} {N : Nat} (hc : vwCl[ci]? = some (C, T, N)) (hin : ∀ w ∈ u_ws C T N, w ∈ TW) (ty0 : Nat → FieldType) (hty : ∀ k, k < N → parseFieldDescriptor (T k).2.2.1 = some (ty0 k)) (hnm : ∀ a, a < N → ∀ b, b < N → a ≠ b → (T a).2.1 ≠ (T b).2.1) (f : Nat) (hf : f < N) (h1 : (T f).1 = C) (hfin : (T f).2.2.2 = false) {index : Nat} (hlink : Cond.fieldLink own index C (T f).2.1 (T f).2.2.1 ∈ TW) {v : Value} {x : Int32} (hn : narrow (ty0 f) v = v) (hfit : fits (ty0 f) v = true) (hl : f < (fs (σ k)).length) (hset : (fs (σ k)).set f v = fs (upd (σ k) f x)) (hdg : decode cc pc = .ok (.putfield index, 3))
    (kk : ∀ (σ1 : fS) (H1 : Heap) (locs1 : List Loc), σ1 = wf σ k f x → fI D n ad cf σ1 s H1 locs1 → W p l e R s m args below meth c H1 locs1 0 0 Q (F0 m (pc + 3) ls rest)) : W p l e R s m args below meth c H locs 0 0 Q (F0 m pc ls (v :: .ref (ad k) :: rest)) :=
  va_put (own := own) (ref := C) hC.1 hC.2.1 hC.2.2.2.2.1 hin ty0 hty hnm hC.2.2.2.1 hC.2.2.2.2.2.1 hI.1 (fw_D hC.2.2.2.2.2.2.1) hI.2 k (by rw [fw_at ho.1, ho.2]) hc f hf (hC.2.2.2.2.1 _ hlink) (fun x hx => by rw [← h1]; exact hx) hfin (hty f hf) hn hfit hl hdg fun H1 locs1 hP1 _ hS1 => kk _ H1 locs1 rfl ⟨by
    rw [hset, fw_set ho.1 (ho.2 _)] at hP1; exact hP1, hS1⟩
/-- what the tables say of a method that is called -/
def fY (y : MethodName) (C : String) (cc : ByteArray) (nL : Nat) (ret : Option FieldType) (np : Nat) : Prop :=
  Cond.instanceMethod y ∈ TW ∧ Cond.selects C y y ∈ TW ∧ Cond.initialized C ∈ TW ∧ Cond.code y cc nL ret ∈ TW ∧ (y.cls = C ∧ y.cls ≠ "java/lang/invoke/MethodHandle" ∧ y.cls ≠ "java/lang/invoke/VarHandle" ∧ (parseMethodDescriptor y.desc).map (fun d => d.parameters.length) = some np)
theorem fG {y : MethodName} {cc : ByteArray} {nL : Nat} {ret : Option FieldType} (h : Cond.code y cc nL ret ∈ TW) : GoodIn TW (fCd y cc nL ret) := by
  intro w hw
  rcases List.mem_cons.mp hw with rfl | hw
  · exact ⟨h, good_of_word (TW_good _ h)⟩
  · exact ⟨hw, good_of_word (TW_good _ hw)⟩
theorem fB_blind {av : List Value} {sz : Nat} : FrameBlind (va_Pc av (fB D n ad cf cy cz σ sz)) := by
  intro a U g mk q
  obtain ⟨q0, q1, qP, qK, qJ, qN⟩ := q
  exact ⟨q0, q1, qP, va_K.moved (u := U) (U := U.calling g mk a) (Vm.Alike.refl U.vm) qK, qJ, fN.same (u := U) rfl qN⟩
theorem fB_pre {av : List Value} (hC : fC D n ad cy cz p s m args c cc nL own) (hI : fI D n ad cf σ s H locs) : ∀ U : State, U.heap = H → s.WarmedH U.vm → va_Pc av (fB D n ad cf cy cz σ H.size) av.toArray U := fun U hU hW =>
  ⟨rfl, by rw [hU], by rw [hU]; exact hI.1, va_K.moved hW.alike hC.2.2.2.2.2.1, hC.2.2.2.2.2.2.1, fN.warm hW hC.2.2.2.2.2.2.2⟩
theorem fA_sub (hI : fI D n ad cf σ s H locs) : ∀ q, fA n ad H.size q → fA n ad s.heap.size q := fun q h => by
  rcases h with h | h
  · exact Or.inl h
  · exact Or.inr (Nat.le_trans hI.2.1 h)
variable {y : MethodName} {cb : ByteArray} {nB : Nat} {ret : Option FieldType} {rm : Room} {As st : List Value} {r : Int32} {rl : Int64} {kr : Nat}
theorem r_calli (hC : fC D n ad cy cz p s m args c cc nL own) (hI : fI D n ad cf σ s H locs) {k ci : Nat} {fs : (Nat → Int32) → List Value} (ho : fOb n cf k ci fs) {C : String} {T : u_T} {N : Nat} (hc : vwCl[ci]? = some (C, T, N)) {np : Nat} (hy : fY y C cb nB ret np) {index : Nat} (hlink : Cond.methodLink own index y ∈ TW) (hM : fMi D n ad cf cy cz l y cb nB ret rm (.ref (ad k) :: As) σ r τ) (hR : rm.frames + 1 ≤ R.frames ∧ 8 + (nB + 11) + rm.locals ≤ R.locals) (hrc : rm.cells = 0 ∧ rm.slots = 0) (hn : As.length = np) (hls : ls.size = nL) (hst : st = As.reverse ++ .ref (ad k) :: rest) (hroom : (rest.map fun v => v.category).sum ≤ 8) (hdg : decode cc pc = .ok (.invokevirtual index, 3))
    (kk : ∀ (H1 : Heap) (locs1 : List Loc), fI D n ad cf τ s H1 locs1 → W p l e R s m args below meth c H1 locs1 0 0 Q (F0 m (pc + 3) ls (.int r :: rest))) : W p l e R s m args below meth c H locs 0 0 Q (F0 m pc ls st) := by
  have hp := fB_pre (av := .ref (ad k) :: As) hC hI
  obtain ⟨hx, hb, hml, hown, hts, hK, hJ, hN⟩ := id hC
  have hGv : GoodIn TW (wsV own index C y (fCd y cb nB ret)) := by
    intro w hw
    rcases List.mem_append.mp hw with hw | hw
    · simp only [List.mem_cons, List.not_mem_nil, or_false] at hw
      rcases hw with rfl | rfl | rfl | rfl
      · exact ⟨hlink, good_of_word (TW_good _ hlink)⟩
      · exact ⟨hy.1, good_of_word (TW_good _ hy.1)⟩
      · exact ⟨hy.2.1, good_of_word (TW_good _ hy.2.1)⟩
      · exact ⟨hy.2.2.1, good_of_word (TW_good _ hy.2.2.1)⟩
    · exact fG hy.2.2.2.1 w hw
  refine va_calli (va_runV (As := As) (rest := rest) ⟨hx, hb, hml, hown, hts⟩ (hM H.size) (cwV np hts hGv rfl hrc.1 hrc.2 hy.2.2.2.2 hR) ⟨fB_blind, va_recv hK hI.1 (q0 := k) hc (by rw [fw_at ho.1, ho.2]), hp⟩ rfl hn hls hst (lv_room hroom) hdg ⟨Nat.zero_le _, Nat.zero_le _⟩) hI.2 (fun q _ h => fA_sub hI q h) (fA_sub hI) (fun r1 u t H1 locs1 ht hvm hw hB hz1 hk1 hS => ?_)
  subst hw
  exact kk H1 locs1 ⟨by rw [← ht]; exact hB, hS⟩
theorem r_callv (hC : fC D n ad cy cz p s m args c cc nL own) (hI : fI D n ad cf σ s H locs) {k ci : Nat} {fs : (Nat → Int32) → List Value} (ho : fOb n cf k ci fs) {C : String} {T : u_T} {N : Nat} (hc : vwCl[ci]? = some (C, T, N)) {np : Nat} (hy : fY y C cb nB ret np) {index : Nat} (hlink : Cond.methodLink own index y ∈ TW) (hM : fMv D n ad cf cy cz l y cb nB ret rm (.ref (ad k) :: As) σ τ) (hR : rm.frames + 1 ≤ R.frames ∧ 8 + (nB + 11) + rm.locals ≤ R.locals) (hrc : rm.cells = 0 ∧ rm.slots = 0) (hn : As.length = np) (hls : ls.size = nL) (hst : st = As.reverse ++ .ref (ad k) :: rest) (hroom : (rest.map fun v => v.category).sum ≤ 8) (hdg : decode cc pc = .ok (.invokevirtual index, 3))
    (kk : ∀ (H1 : Heap) (locs1 : List Loc), fI D n ad cf τ s H1 locs1 → W p l e R s m args below meth c H1 locs1 0 0 Q (F0 m (pc + 3) ls rest)) : W p l e R s m args below meth c H locs 0 0 Q (F0 m pc ls st) := by
  have hp := fB_pre (av := .ref (ad k) :: As) hC hI
  obtain ⟨hx, hb, hml, hown, hts, hK, hJ, hN⟩ := id hC
  have hGv : GoodIn TW (wsV own index C y (fCd y cb nB ret)) := by
    intro w hw
    rcases List.mem_append.mp hw with hw | hw
    · simp only [List.mem_cons, List.not_mem_nil, or_false] at hw
      rcases hw with rfl | rfl | rfl | rfl
      · exact ⟨hlink, good_of_word (TW_good _ hlink)⟩
      · exact ⟨hy.1, good_of_word (TW_good _ hy.1)⟩
      · exact ⟨hy.2.1, good_of_word (TW_good _ hy.2.1)⟩
      · exact ⟨hy.2.2.1, good_of_word (TW_good _ hy.2.2.1)⟩
    · exact fG hy.2.2.2.1 w hw
  refine va_callv (va_runV (As := As) (rest := rest) ⟨hx, hb, hml, hown, hts⟩ (hM H.size) (cwV np hts hGv rfl hrc.1 hrc.2 hy.2.2.2.2 hR) ⟨fB_blind, va_recv hK hI.1 (q0 := k) hc (by rw [fw_at ho.1, ho.2]), hp⟩ rfl hn hls hst (lv_room hroom) hdg ⟨Nat.zero_le _, Nat.zero_le _⟩) hI.2 (fun q _ h => fA_sub hI q h) (fA_sub hI) (fun u t H1 locs1 ht hvm hw hB hz1 hk1 hS => ?_)
  exact kk H1 locs1 ⟨by rw [← ht]; exact hB, hS⟩
theorem r_calll (hC : fC D n ad cy cz p s m args c cc nL own) (hI : fI D n ad cf σ s H locs) {k ci : Nat} {fs : (Nat → Int32) → List Value} (ho : fOb n cf k ci fs) {C : String} {T : u_T} {N : Nat} (hc : vwCl[ci]? = some (C, T, N)) {np : Nat} (hy : fY y C cb nB ret np) {index : Nat} (hlink : Cond.methodLink own index y ∈ TW) (hM : fMl D n ad cf cy cz l y cb nB ret rm (.ref (ad k) :: As) σ rl τ) (hR : rm.frames + 1 ≤ R.frames ∧ 8 + (nB + 11) + rm.locals ≤ R.locals) (hrc : rm.cells = 0 ∧ rm.slots = 0) (hn : As.length = np) (hls : ls.size = nL) (hst : st = As.reverse ++ .ref (ad k) :: rest) (hroom : (rest.map fun v => v.category).sum ≤ 8) (hdg : decode cc pc = .ok (.invokevirtual index, 3))
    (kk : ∀ (H1 : Heap) (locs1 : List Loc), fI D n ad cf τ s H1 locs1 → W p l e R s m args below meth c H1 locs1 0 0 Q (F0 m (pc + 3) ls (.long rl :: rest))) : W p l e R s m args below meth c H locs 0 0 Q (F0 m pc ls st) := by
  have hp := fB_pre (av := .ref (ad k) :: As) hC hI
  obtain ⟨hx, hb, hml, hown, hts, hK, hJ, hN⟩ := id hC
  have hGv : GoodIn TW (wsV own index C y (fCd y cb nB ret)) := by
    intro w hw
    rcases List.mem_append.mp hw with hw | hw
    · simp only [List.mem_cons, List.not_mem_nil, or_false] at hw
      rcases hw with rfl | rfl | rfl | rfl
      · exact ⟨hlink, good_of_word (TW_good _ hlink)⟩
      · exact ⟨hy.1, good_of_word (TW_good _ hy.1)⟩
      · exact ⟨hy.2.1, good_of_word (TW_good _ hy.2.1)⟩
      · exact ⟨hy.2.2.1, good_of_word (TW_good _ hy.2.2.1)⟩
    · exact fG hy.2.2.2.1 w hw
  refine va_calll (va_runV (As := As) (rest := rest) ⟨hx, hb, hml, hown, hts⟩ (hM H.size) (cwV np hts hGv rfl hrc.1 hrc.2 hy.2.2.2.2 hR) ⟨fB_blind, va_recv hK hI.1 (q0 := k) hc (by rw [fw_at ho.1, ho.2]), hp⟩ rfl hn hls hst (lv_room hroom) hdg ⟨Nat.zero_le _, Nat.zero_le _⟩) hI.2 (fun q _ h => fA_sub hI q h) (fA_sub hI) (fun r1 u t H1 locs1 ht hvm hw hB hz1 hk1 hS => ?_)
  subst hw
  exact kk H1 locs1 ⟨by rw [← ht]; exact hB, hS⟩
theorem r_callr (hC : fC D n ad cy cz p s m args c cc nL own) (hI : fI D n ad cf σ s H locs) {k ci : Nat} {fs : (Nat → Int32) → List Value} (ho : fOb n cf k ci fs) {C : String} {T : u_T} {N : Nat} (hc : vwCl[ci]? = some (C, T, N)) {np : Nat} (hy : fY y C cb nB ret np) {index : Nat} (hlink : Cond.methodLink own index y ∈ TW) (hM : fMr D n ad cf cy cz l y cb nB ret rm (.ref (ad k) :: As) σ kr τ) (hR : rm.frames + 1 ≤ R.frames ∧ 8 + (nB + 11) + rm.locals ≤ R.locals) (hrc : rm.cells = 0 ∧ rm.slots = 0) (hn : As.length = np) (hls : ls.size = nL) (hst : st = As.reverse ++ .ref (ad k) :: rest) (hroom : (rest.map fun v => v.category).sum ≤ 8) (hdg : decode cc pc = .ok (.invokevirtual index, 3))
    (kk : ∀ (H1 : Heap) (locs1 : List Loc), fI D n ad cf τ s H1 locs1 → W p l e R s m args below meth c H1 locs1 0 0 Q (F0 m (pc + 3) ls (.ref (ad kr) :: rest))) : W p l e R s m args below meth c H locs 0 0 Q (F0 m pc ls st) := by
  have hp := fB_pre (av := .ref (ad k) :: As) hC hI
  obtain ⟨hx, hb, hml, hown, hts, hK, hJ, hN⟩ := id hC
  have hGv : GoodIn TW (wsV own index C y (fCd y cb nB ret)) := by
    intro w hw
    rcases List.mem_append.mp hw with hw | hw
    · simp only [List.mem_cons, List.not_mem_nil, or_false] at hw
      rcases hw with rfl | rfl | rfl | rfl
      · exact ⟨hlink, good_of_word (TW_good _ hlink)⟩
      · exact ⟨hy.1, good_of_word (TW_good _ hy.1)⟩
      · exact ⟨hy.2.1, good_of_word (TW_good _ hy.2.1)⟩
      · exact ⟨hy.2.2.1, good_of_word (TW_good _ hy.2.2.1)⟩
    · exact fG hy.2.2.2.1 w hw
  refine va_callr (va_runV (As := As) (rest := rest) ⟨hx, hb, hml, hown, hts⟩ (hM H.size) (cwV np hts hGv rfl hrc.1 hrc.2 hy.2.2.2.2 hR) ⟨fB_blind, va_recv hK hI.1 (q0 := k) hc (by rw [fw_at ho.1, ho.2]), hp⟩ rfl hn hls hst (lv_room hroom) hdg ⟨Nat.zero_le _, Nat.zero_le _⟩) hI.2 (fun q _ h => fA_sub hI q h) (fA_sub hI) (fun u ra t H1 locs1 ht hvm hw hB hz1 hk1 hS => ?_)
  obtain ⟨rfl, hB⟩ := hB
  exact kk H1 locs1 ⟨by rw [← ht]; exact hB, hS⟩
/-- a static method of a nest mate, that keeps the world -/
theorem r_callsn (hC : fC D n ad cy cz p s m args c cc nL own) (hI : fI D n ad cf σ s H locs) {np : Nat} {host : String} (hcode : Cond.code y cb nB ret ∈ TW) (hini : Cond.initialized y.cls ∈ TW) (hstat : Cond.static y ∈ TW) (hd : y.cls ≠ "java/lang/invoke/MethodHandle" ∧ y.cls ≠ "java/lang/invoke/VarHandle" ∧ (parseMethodDescriptor y.desc).map (fun d => d.parameters.length) = some np) {index : Nat} (hlink : Cond.methodLinkNest own index y host ∈ nwL) (hM : fMi D n ad cf cy cz l y cb nB ret rm As σ r τ) (hR : rm.frames + 1 ≤ R.frames ∧ 8 + (nB + 11) + rm.locals ≤ R.locals) (hrc : rm.cells = 0 ∧ rm.slots = 0) (hn : As.length = np) (hls : ls.size = nL) (hst : st = As.reverse ++ rest) (hroom : (rest.map fun v => v.category).sum ≤ 8) (hdg : decode cc pc = .ok (.invokestatic index, 3))
    (kk : ∀ (H1 : Heap) (locs1 : List Loc), fI D n ad cf τ s H1 locs1 → W p l e R s m args below meth c H1 locs1 0 0 Q (F0 m (pc + 3) ls (.int r :: rest))) : W p l e R s m args below meth c H locs 0 0 Q (F0 m pc ls st) := by
  have hp := fB_pre (av := As) hC hI
  obtain ⟨hx, hb, hml, hown, hts, hK, hJ, hN⟩ := id hC
  refine va_calli (va_runSN (As := As) (rest := rest) ⟨hx, hb, hml, hown, hts⟩ (hM H.size) ⟨va_cnB np hts (fG hcode) rfl hrc.1 hrc.2 (hN _ hlink) (hts _ hini) hd hR, hts _ hstat, trivial⟩ ⟨fB_blind, hp⟩ rfl hn hls hst (lv_room hroom) hdg ⟨Nat.zero_le _, Nat.zero_le _⟩) hI.2 (fun q _ h => fA_sub hI q h) (fA_sub hI) (fun r1 u t H1 locs1 ht hvm hw hB hz1 hk1 hS => ?_)
  subst hw
  exact kk H1 locs1 ⟨by rw [← ht]; exact hB, hS⟩
theorem r_min (hC : fC D n ad cy cz p s m args c cc nL own) (hls : ls.size = nL) {index : Nat} (hlink : Cond.methodLink own index Lib.Math.min.name ∈ TW) (hstat : Cond.static Lib.Math.min.name ∈ TW) (hini : Cond.initialized "java/lang/Math" ∈ TW) (hcode : Cond.code Lib.Math.min.name Lib.Math.min.code 2 (some .int) ∈ TW) (hframes : 1 ≤ R.frames) (hlocals : (rest.map fun v => v.category).sum + 13 ≤ R.locals) {x y : Int32} (hdg : decode cc pc = .ok (.invokestatic index, 3))
    (kk : W p l e R s m args below meth c H locs 0 0 Q (F0 m (pc + 3) ls (.int (if y < x then y else x) :: rest))) : W p l e R s m args below meth c H locs 0 0 Q (F0 m pc ls (.int y :: .int x :: rest)) :=
  va_mmin hC.1 hC.2.1 (hC.2.2.1.trans hls.symm) hC.2.2.2.1 (hC.2.2.2.2.1 _ hlink) (hC.2.2.2.2.1 _ hstat) (hC.2.2.2.2.1 _ hini) (hC.2.2.2.2.1 _ hcode) hframes hlocals (Nat.zero_le _) (Nat.zero_le _) hdg kk
def cpb (sp dp n : Int32) (n0 n1 : Nat) : Bool := decide (¬ sp < 0 ∧ ¬ dp < 0 ∧ ¬ n < 0 ∧ sp.toNatClampNeg + n.toNatClampNeg ≤ n0 ∧ dp.toNatClampNeg + n.toNatClampNeg ≤ n1)
def cpy (σ : fS) (k0 : Nat) (sp : Int32) (k1 : Nat) (dp n : Int32) : fS := wrr σ k1 (va_cpy (σ k0) (σ k1) sp.toNatClampNeg dp.toNatClampNeg n.toNatClampNeg)
theorem r_copyi (hC : fC D n ad cy cz p s m args c cc nL own) (hI : fI D n ad cf σ s H locs) (hls : ls.size = nL) {index : Nat} (hlink : Cond.methodLink own index arraycopyName ∈ TW) (hnat : Cond.native arraycopyName ∈ TW) (hstat : Cond.static arraycopyName ∈ TW) (hini : Cond.initialized "java/lang/System" ∈ TW) {k0 k1 n0 n1 : Nat} (ha0 : fAi n cf cy k0 n0) (ha1 : fAi n cf cy k1 n1) {sp dp cn : Int32} (hc : cpb sp dp cn n0 n1 = true) (hframes : 1 ≤ R.frames) (hlocals : (rest.map fun v => v.category).sum + (nativeFrameWords "java/lang/System" "arraycopy" 5 + 11) ≤ R.locals) (hdg : decode cc pc = .ok (.invokestatic index, 3))
    (kk : ∀ (σ1 : fS) (H1 : Heap) (locs1 : List Loc), σ1 = cpy σ k0 sp k1 dp cn → fI D n ad cf σ1 s H1 locs1 → W p l e R s m args below meth c H1 locs1 0 0 Q (F0 m (pc + 3) ls rest)) : W p l e R s m args below meth c H locs 0 0 Q (F0 m pc ls (.int cn :: .int dp :: .ref (ad k1) :: .int sp :: .ref (ad k0) :: rest)) := by
  obtain ⟨h1, h2, h3, h4, h5⟩ := of_decide_eq_true hc
  exact va_copyi hC.1 hC.2.1 (hC.2.2.1.trans hls.symm) hC.2.2.2.1 (hC.2.2.2.2.1 _ hlink) (hC.2.2.2.2.1 _ hnat) (hC.2.2.2.2.1 _ hstat) (hC.2.2.2.2.1 _ hini) hC.2.2.2.2.2.1 hI.1 (fw_D hC.2.2.2.2.2.2.1) hI.2 k0 k1 0 0 (by rw [fw_at ha0.1, ha0.2]) (by rw [fw_at ha1.1, ha1.2]) rfl rfl rfl h1 h2 h3 h4 h5 (fun i _ => rfl) hframes hlocals hdg fun H1 locs1 hP1 _ hS1 => kk _ H1 locs1 rfl ⟨by
    rw [fw_set ha1.1 (ha1.2 _)] at hP1; exact hP1, hS1⟩
/-- a method's body: from its first instruction to its return -/
theorem f_bodyi {av : List Value} {rm : Room} (hy : plainName y.cls = true) (hlen : (lg_sl av).length ≤ nL) (body : ∀ (p : Program) (e : Env) (s : State) (m : MethodId) (args : Array Value) (below : List Frame) (meth : Method) (c : Code) (Q : State → Prop), fC D n ad cy cz p s m args c cc nL y.cls → (∀ (pc : Nat) (ls : Array Slot) (H : Heap) (locs : List Loc), decode cc pc = .ok (.ireturn, 1) → fI D n ad cf τ s H locs → W p l e rm s m args below meth c H locs 0 0 Q (F0 m pc ls [.int r])) → ∀ ls : Array Slot, lv_has ls nL (lv_args 0 av) → fI D n ad cf σ s s.heap [] → W p l e rm s m args below meth c s.heap [] 0 0 Q (F0 m 0 ls [])) : fMi D n ad cf cy cz l y cc nL (some .int) rm av σ r τ := by
  intro sz
  refine Met.ofW (cc := cc) (maxL := nL) (ret := some .int) hy rfl ?_
  intro p e s m args below meth c s₁ B hml hv
  obtain ⟨rfl, hsz, hP, hK, hj, hN⟩ := hv
  have hts := atoms_spec (ws := fCd y cc nL (some .int)) B.pre
  subst hsz
  have hl := lv_entry av (n := nL) hlen
  rw [lg_entry_eq]
  refine body p e s m _ below meth c _ ⟨B.exec, B.bytes, hml, findClass_of_methodNamed B.named, fun w hw => hts w (List.mem_cons_of_mem _ hw), hK, hj, hN⟩ (fun pc ls H locs hd hI => ?_) _ hl ⟨hP, va_S.rf⟩
  exact W.iret B.exec B.bytes B.returns (fun t ht hW => ⟨⟨r, (), rfl, rfl, by subst ht; exact hI.1⟩, hI.2.F ht⟩) hI.2.2.2 hd (hlocks := B.notSynchronized)
theorem f_bodyz {av : List Value} {rm : Room} (hy : plainName y.cls = true) (hlen : (lg_sl av).length ≤ nL) (body : ∀ (p : Program) (e : Env) (s : State) (m : MethodId) (args : Array Value) (below : List Frame) (meth : Method) (c : Code) (Q : State → Prop), fC D n ad cy cz p s m args c cc nL y.cls → (∀ (pc : Nat) (ls : Array Slot) (H : Heap) (locs : List Loc), isb r = true → decode cc pc = .ok (.ireturn, 1) → fI D n ad cf τ s H locs → W p l e rm s m args below meth c H locs 0 0 Q (F0 m pc ls [.int r])) → ∀ ls : Array Slot, lv_has ls nL (lv_args 0 av) → fI D n ad cf σ s s.heap [] → W p l e rm s m args below meth c s.heap [] 0 0 Q (F0 m 0 ls [])) : fMi D n ad cf cy cz l y cc nL (some .boolean) rm av σ r τ := by
  intro sz
  refine Met.ofW (cc := cc) (maxL := nL) (ret := some .boolean) hy rfl ?_
  intro p e s m args below meth c s₁ B hml hv
  obtain ⟨rfl, hsz, hP, hK, hj, hN⟩ := hv
  have hts := atoms_spec (ws := fCd y cc nL (some .boolean)) B.pre
  subst hsz
  have hl := lv_entry av (n := nL) hlen
  rw [lg_entry_eq]
  refine body p e s m _ below meth c _ ⟨B.exec, B.bytes, hml, findClass_of_methodNamed B.named, fun w hw => hts w (List.mem_cons_of_mem _ hw), hK, hj, hN⟩ (fun pc ls H locs hb01 hd hI => ?_) _ hl ⟨hP, va_S.rf⟩
  exact W.zret B.exec B.bytes B.returns (isb_nar hb01) (fun t ht hW => ⟨⟨r, (), rfl, rfl, by subst ht; exact hI.1⟩, hI.2.F ht⟩) hI.2.2.2 hd (hlocks := B.notSynchronized)
theorem f_bodyv {av : List Value} {rm : Room} (hy : plainName y.cls = true) (hlen : (lg_sl av).length ≤ nL) (body : ∀ (p : Program) (e : Env) (s : State) (m : MethodId) (args : Array Value) (below : List Frame) (meth : Method) (c : Code) (Q : State → Prop), fC D n ad cy cz p s m args c cc nL y.cls → (∀ (pc : Nat) (ls : Array Slot) (H : Heap) (locs : List Loc), decode cc pc = .ok (.return_, 1) → fI D n ad cf τ s H locs → W p l e rm s m args below meth c H locs 0 0 Q (F0 m pc ls [])) → ∀ ls : Array Slot, lv_has ls nL (lv_args 0 av) → fI D n ad cf σ s s.heap [] → W p l e rm s m args below meth c s.heap [] 0 0 Q (F0 m 0 ls [])) : fMv D n ad cf cy cz l y cc nL none rm av σ τ := by
  intro sz
  refine Met.ofW (cc := cc) (maxL := nL) (ret := none) hy rfl ?_
  intro p e s m args below meth c s₁ B hml hv
  obtain ⟨rfl, hsz, hP, hK, hj, hN⟩ := hv
  have hts := atoms_spec (ws := fCd y cc nL (none)) B.pre
  subst hsz
  have hl := lv_entry av (n := nL) hlen
  rw [lg_entry_eq]
  refine body p e s m _ below meth c _ ⟨B.exec, B.bytes, hml, findClass_of_methodNamed B.named, fun w hw => hts w (List.mem_cons_of_mem _ hw), hK, hj, hN⟩ (fun pc ls H locs hd hI => ?_) _ hl ⟨hP, va_S.rf⟩
  exact W.vret B.exec B.bytes B.returns (fun t ht hW => ⟨⟨(), rfl, trivial, by subst ht; exact hI.1⟩, hI.2.F ht⟩) hI.2.2.2 hd (hlocks := B.notSynchronized)
theorem f_bodyl {av : List Value} {rm : Room} (hy : plainName y.cls = true) (hlen : (lg_sl av).length ≤ nL) (body : ∀ (p : Program) (e : Env) (s : State) (m : MethodId) (args : Array Value) (below : List Frame) (meth : Method) (c : Code) (Q : State → Prop), fC D n ad cy cz p s m args c cc nL y.cls → (∀ (pc : Nat) (ls : Array Slot) (H : Heap) (locs : List Loc), decode cc pc = .ok (.lreturn, 1) → fI D n ad cf τ s H locs → W p l e rm s m args below meth c H locs 0 0 Q (F0 m pc ls [.long rl])) → ∀ ls : Array Slot, lv_has ls nL (lv_args 0 av) → fI D n ad cf σ s s.heap [] → W p l e rm s m args below meth c s.heap [] 0 0 Q (F0 m 0 ls [])) : fMl D n ad cf cy cz l y cc nL (some .long) rm av σ rl τ := by
  intro sz
  refine Met.ofW (cc := cc) (maxL := nL) (ret := some .long) hy rfl ?_
  intro p e s m args below meth c s₁ B hml hv
  obtain ⟨rfl, hsz, hP, hK, hj, hN⟩ := hv
  have hts := atoms_spec (ws := fCd y cc nL (some .long)) B.pre
  subst hsz
  have hl := lv_entry av (n := nL) hlen
  rw [lg_entry_eq]
  refine body p e s m _ below meth c _ ⟨B.exec, B.bytes, hml, findClass_of_methodNamed B.named, fun w hw => hts w (List.mem_cons_of_mem _ hw), hK, hj, hN⟩ (fun pc ls H locs hd hI => ?_) _ hl ⟨hP, va_S.rf⟩
  exact W.lret B.exec B.bytes B.returns (fun t ht hW => ⟨⟨rl, (), rfl, rfl, by subst ht; exact hI.1⟩, hI.2.F ht⟩) hI.2.2.2 hd (hlocks := B.notSynchronized)
theorem f_bodyr {C : String} {av : List Value} {rm : Room} (hy : plainName y.cls = true) (hlen : (lg_sl av).length ≤ nL) (body : ∀ (p : Program) (e : Env) (s : State) (m : MethodId) (args : Array Value) (below : List Frame) (meth : Method) (c : Code) (Q : State → Prop), fC D n ad cy cz p s m args c cc nL y.cls → (∀ (pc : Nat) (ls : Array Slot) (H : Heap) (locs : List Loc), decode cc pc = .ok (.areturn, 1) → fI D n ad cf τ s H locs → W p l e rm s m args below meth c H locs 0 0 Q (F0 m pc ls [.ref (ad kr)])) → ∀ ls : Array Slot, lv_has ls nL (lv_args 0 av) → fI D n ad cf σ s s.heap [] → W p l e rm s m args below meth c s.heap [] 0 0 Q (F0 m 0 ls [])) : fMr D n ad cf cy cz l y cc nL (some (.object C)) rm av σ kr τ := by
  intro sz
  refine Met.ofW (cc := cc) (maxL := nL) (ret := some (.object C)) hy rfl ?_
  intro p e s m args below meth c s₁ B hml hv
  obtain ⟨rfl, hsz, hP, hK, hj, hN⟩ := hv
  have hts := atoms_spec (ws := fCd y cc nL (some (.object C))) B.pre
  subst hsz
  have hl := lv_entry av (n := nL) hlen
  rw [lg_entry_eq]
  refine body p e s m _ below meth c _ ⟨B.exec, B.bytes, hml, findClass_of_methodNamed B.named, fun w hw => hts w (List.mem_cons_of_mem _ hw), hK, hj, hN⟩ (fun pc ls H locs hd hI => ?_) _ hl ⟨hP, va_S.rf⟩
  exact W.aret B.exec B.bytes B.returns (Or.inl ⟨C, rfl⟩) (Or.inr ⟨_, rfl⟩) (fun t ht hW => ⟨⟨(), ad kr, rfl, trivial, rfl, by subst ht; exact hI.1⟩, hI.2.F ht⟩) hI.2.2.2 hd (hlocks := B.notSynchronized)
end FROW
end
section
def pcell (v : Int32) : Nat := if v = 0 then 38 else 48
def isP (k : Nat) : Prop := k = 28 ∨ k = 38 ∨ k = 48
def isK (k : Nat) : Prop := k = 18 ∨ k = 69 ∨ k = 71
theorem isP_28 : isP 28 := Or.inl rfl
theorem isK_18 : isK 18 := Or.inl rfl
theorem isK_69 : isK 69 := Or.inr (Or.inl rfl)
theorem isK_71 : isK 71 := Or.inr (Or.inr rfl)
theorem isP_pcell (v : Int32) : isP (pcell v) := by unfold pcell; split; exact Or.inr (Or.inl rfl); exact Or.inr (Or.inr rfl)
def cfXL (ad : Nat → Nat) (cy cz : ClassId) (row : Nat → Int32) : List va_E := [
  .inr (8, [.ref (ad 1), .ref (ad 11), .ref (ad 17), .ref (ad 58), .ref (ad 63), .ref (ad 69), .ref (ad 71), .ref (ad 73), .ref (ad 74), .ref (ad 75), .int (row 10), .int (row 11), .int (row 12)]),
  .inr (7, [.ref (ad 2), .ref (ad 3), .ref (ad 4), .ref (ad 5), .ref (ad 6), .ref (ad 7), .ref (ad 8), .ref (ad 9), .ref (ad 10), .int (row 9)]),
  .inl (cy, 120, .inl row),
  .inl (cy, 120, .inl row),
  .inl (cy, 120, .inl row),
  .inl (cy, 360, .inl row),
  .inl (cy, 120, .inl row),
  .inl (cy, 128, .inl row),
  .inl (cy, 120, .inl row),
  .inl (cy, 120, .inl row),
  .inl (cy, 360, .inl row),
  .inr (5, [.ref (ad 12), .ref (ad 13), .ref (ad 14), .ref (ad 15), .ref (ad 16), .int (row 5), .int (row 6), .int (row 7)]),
  .inl (cz, 100, .inl row),
  .inl (cy, 100, .inl row),
  .inl (cy, 100, .inl row),
  .inl (cy, 100, .inl row),
  .inl (cy, 1000, .inl row),
  .inr (2, [.ref (ad 1), .ref (ad 11), .ref (ad 28), .ref (ad (pcell (row 3))), .ref (ad (pcell (row 4))), .ref (ad 18), .ref (ad 20), .ref (ad 21), .ref (ad 22)]),
  .inr (1, [.ref (ad 19), .int (row 1)]),
  .inl (cy, 100, .inl row),
  .inl (cy, 100, .inl row),
  .inl (cz, 100, .inl row),
  .inl (cy, 100, .inl row),
  .inr (0, [.ref (ad 24), .ref (ad 25), .ref (ad 26), .ref (ad 27), .int (row 4), .int (row 5)]),
  .inl (cy, 242, .inl row),
  .inl (cy, 242, .inl row),
  .inl (cy, 120, .inl row),
  .inl (cz, 120, .inl row),
  .inr (4, [.ref (ad 1), .ref (ad 23), .ref (ad 29), .ref (ad 30), .ref (ad 31), .ref (ad 32), .ref (ad 33), .ref (ad 34), .ref (ad 35), .ref (ad 36), .ref (ad 37), .int (row 11), .int (row 12), .int (row 13)]),
  .inl (cy, 120, .inl row),
  .inl (cy, 120, .inl row),
  .inl (cy, 120, .inl row),
  .inl (cy, 120, .inl row),
  .inl (cy, 120, .inl row),
  .inl (cy, 120, .inl row),
  .inl (cy, 128, .inl row),
  .inl (cy, 120, .inl row),
  .inl (cy, 120, .inl row),
  .inr (4, [.ref (ad 1), .ref (ad 23), .ref (ad 39), .ref (ad 40), .ref (ad 41), .ref (ad 42), .ref (ad 43), .ref (ad 44), .ref (ad 45), .ref (ad 46), .ref (ad 47), .int (row 11), .int (row 12), .int (row 13)]),
  .inl (cy, 120, .inl row),
  .inl (cy, 120, .inl row),
  .inl (cy, 120, .inl row),
  .inl (cy, 120, .inl row),
  .inl (cy, 120, .inl row),
  .inl (cy, 120, .inl row),
  .inl (cy, 128, .inl row),
  .inl (cy, 120, .inl row),
  .inl (cy, 120, .inl row),
  .inr (4, [.ref (ad 1), .ref (ad 23), .ref (ad 49), .ref (ad 50), .ref (ad 51), .ref (ad 52), .ref (ad 53), .ref (ad 54), .ref (ad 55), .ref (ad 56), .ref (ad 57), .int (row 11), .int (row 12), .int (row 13)]),
  .inl (cy, 120, .inl row),
  .inl (cy, 120, .inl row),
  .inl (cy, 120, .inl row),
  .inl (cy, 120, .inl row),
  .inl (cy, 120, .inl row),
  .inl (cy, 120, .inl row),
  .inl (cy, 128, .inl row),
  .inl (cy, 120, .inl row),
  .inl (cy, 120, .inl row),
  .inr (3, [.ref (ad 1), .ref (ad 59), .ref (ad 60), .ref (ad 61), .ref (ad 62), .int (row 5)]),
  .inl (cy, 120, .inl row),
  .inl (cy, 120, .inl row),
  .inl (cy, 120, .inl row),
  .inl (cy, 3, .inl row),
  .inr (6, [.ref (ad 1), .ref (ad 11), .ref (ad 64), .ref (ad 65), .ref (ad 66), .ref (ad 67), .ref (ad 68), .int (row 7)]),
  .inl (cy, 100, .inl row),
  .inl (cy, 100, .inl row),
  .inl (cy, 100, .inl row),
  .inl (cy, 100, .inl row),
  .inl (cy, 100, .inl row),
  .inr (1, [.ref (ad 70), .int (row 1)]),
  .inl (cy, 100, .inl row),
  .inr (1, [.ref (ad 72), .int (row 1)]),
  .inl (cy, 100, .inl row),
  .inl (cy, 10, .inl row),
  .inl (cy, 10, .inl row),
  .inl (cy, 120, .inl row)]
def cfX (ad : Nat → Nat) (cy cz : ClassId) (k : Nat) (row : Nat → Int32) : va_E := (cfXL ad cy cz row).getD k (.inl (cy, 0, .inl row))
theorem oX_0 {ad : Nat → Nat} {cy cz : ClassId} : fOb 76 (cfX ad cy cz) 0 8 (fun row => [.ref (ad 1), .ref (ad 11), .ref (ad 17), .ref (ad 58), .ref (ad 63), .ref (ad 69), .ref (ad 71), .ref (ad 73), .ref (ad 74), .ref (ad 75), .int (row 10), .int (row 11), .int (row 12)]) := ⟨by decide, fun _ => rfl⟩
theorem oX_1 {ad : Nat → Nat} {cy cz : ClassId} : fOb 76 (cfX ad cy cz) 1 7 (fun row => [.ref (ad 2), .ref (ad 3), .ref (ad 4), .ref (ad 5), .ref (ad 6), .ref (ad 7), .ref (ad 8), .ref (ad 9), .ref (ad 10), .int (row 9)]) := ⟨by decide, fun _ => rfl⟩
theorem aX_2 {ad : Nat → Nat} {cy cz : ClassId} : fAi 76 (cfX ad cy cz) cy 2 120 := ⟨by decide, fun _ => rfl⟩
theorem aX_3 {ad : Nat → Nat} {cy cz : ClassId} : fAi 76 (cfX ad cy cz) cy 3 120 := ⟨by decide, fun _ => rfl⟩
theorem aX_4 {ad : Nat → Nat} {cy cz : ClassId} : fAi 76 (cfX ad cy cz) cy 4 120 := ⟨by decide, fun _ => rfl⟩
theorem aX_5 {ad : Nat → Nat} {cy cz : ClassId} : fAi 76 (cfX ad cy cz) cy 5 360 := ⟨by decide, fun _ => rfl⟩
theorem aX_6 {ad : Nat → Nat} {cy cz : ClassId} : fAi 76 (cfX ad cy cz) cy 6 120 := ⟨by decide, fun _ => rfl⟩
theorem aX_7 {ad : Nat → Nat} {cy cz : ClassId} : fAi 76 (cfX ad cy cz) cy 7 128 := ⟨by decide, fun _ => rfl⟩
theorem aX_8 {ad : Nat → Nat} {cy cz : ClassId} : fAi 76 (cfX ad cy cz) cy 8 120 := ⟨by decide, fun _ => rfl⟩
theorem aX_9 {ad : Nat → Nat} {cy cz : ClassId} : fAi 76 (cfX ad cy cz) cy 9 120 := ⟨by decide, fun _ => rfl⟩
theorem aX_10 {ad : Nat → Nat} {cy cz : ClassId} : fAi 76 (cfX ad cy cz) cy 10 360 := ⟨by decide, fun _ => rfl⟩
theorem oX_11 {ad : Nat → Nat} {cy cz : ClassId} : fOb 76 (cfX ad cy cz) 11 5 (fun row => [.ref (ad 12), .ref (ad 13), .ref (ad 14), .ref (ad 15), .ref (ad 16), .int (row 5), .int (row 6), .int (row 7)]) := ⟨by decide, fun _ => rfl⟩
theorem aX_12 {ad : Nat → Nat} {cy cz : ClassId} : fAi 76 (cfX ad cy cz) cz 12 100 := ⟨by decide, fun _ => rfl⟩
theorem aX_13 {ad : Nat → Nat} {cy cz : ClassId} : fAi 76 (cfX ad cy cz) cy 13 100 := ⟨by decide, fun _ => rfl⟩
theorem aX_14 {ad : Nat → Nat} {cy cz : ClassId} : fAi 76 (cfX ad cy cz) cy 14 100 := ⟨by decide, fun _ => rfl⟩
theorem aX_15 {ad : Nat → Nat} {cy cz : ClassId} : fAi 76 (cfX ad cy cz) cy 15 100 := ⟨by decide, fun _ => rfl⟩
theorem aX_16 {ad : Nat → Nat} {cy cz : ClassId} : fAi 76 (cfX ad cy cz) cy 16 1000 := ⟨by decide, fun _ => rfl⟩
theorem oX_17 {ad : Nat → Nat} {cy cz : ClassId} : fOb 76 (cfX ad cy cz) 17 2 (fun row => [.ref (ad 1), .ref (ad 11), .ref (ad 28), .ref (ad (pcell (row 3))), .ref (ad (pcell (row 4))), .ref (ad 18), .ref (ad 20), .ref (ad 21), .ref (ad 22)]) := ⟨by decide, fun _ => rfl⟩
theorem oX_18 {ad : Nat → Nat} {cy cz : ClassId} : fOb 76 (cfX ad cy cz) 18 1 (fun row => [.ref (ad 19), .int (row 1)]) := ⟨by decide, fun _ => rfl⟩
theorem aX_19 {ad : Nat → Nat} {cy cz : ClassId} : fAi 76 (cfX ad cy cz) cy 19 100 := ⟨by decide, fun _ => rfl⟩
theorem aX_20 {ad : Nat → Nat} {cy cz : ClassId} : fAi 76 (cfX ad cy cz) cy 20 100 := ⟨by decide, fun _ => rfl⟩
theorem aX_21 {ad : Nat → Nat} {cy cz : ClassId} : fAi 76 (cfX ad cy cz) cz 21 100 := ⟨by decide, fun _ => rfl⟩
theorem aX_22 {ad : Nat → Nat} {cy cz : ClassId} : fAi 76 (cfX ad cy cz) cy 22 100 := ⟨by decide, fun _ => rfl⟩
theorem oX_23 {ad : Nat → Nat} {cy cz : ClassId} : fOb 76 (cfX ad cy cz) 23 0 (fun row => [.ref (ad 24), .ref (ad 25), .ref (ad 26), .ref (ad 27), .int (row 4), .int (row 5)]) := ⟨by decide, fun _ => rfl⟩
theorem aX_24 {ad : Nat → Nat} {cy cz : ClassId} : fAi 76 (cfX ad cy cz) cy 24 242 := ⟨by decide, fun _ => rfl⟩
theorem aX_25 {ad : Nat → Nat} {cy cz : ClassId} : fAi 76 (cfX ad cy cz) cy 25 242 := ⟨by decide, fun _ => rfl⟩
theorem aX_26 {ad : Nat → Nat} {cy cz : ClassId} : fAi 76 (cfX ad cy cz) cy 26 120 := ⟨by decide, fun _ => rfl⟩
theorem aX_27 {ad : Nat → Nat} {cy cz : ClassId} : fAi 76 (cfX ad cy cz) cz 27 120 := ⟨by decide, fun _ => rfl⟩
theorem oX_28 {ad : Nat → Nat} {cy cz : ClassId} : fOb 76 (cfX ad cy cz) 28 4 (fun row => [.ref (ad 1), .ref (ad 23), .ref (ad 29), .ref (ad 30), .ref (ad 31), .ref (ad 32), .ref (ad 33), .ref (ad 34), .ref (ad 35), .ref (ad 36), .ref (ad 37), .int (row 11), .int (row 12), .int (row 13)]) := ⟨by decide, fun _ => rfl⟩
theorem aX_29 {ad : Nat → Nat} {cy cz : ClassId} : fAi 76 (cfX ad cy cz) cy 29 120 := ⟨by decide, fun _ => rfl⟩
theorem aX_30 {ad : Nat → Nat} {cy cz : ClassId} : fAi 76 (cfX ad cy cz) cy 30 120 := ⟨by decide, fun _ => rfl⟩
theorem aX_31 {ad : Nat → Nat} {cy cz : ClassId} : fAi 76 (cfX ad cy cz) cy 31 120 := ⟨by decide, fun _ => rfl⟩
theorem aX_32 {ad : Nat → Nat} {cy cz : ClassId} : fAi 76 (cfX ad cy cz) cy 32 120 := ⟨by decide, fun _ => rfl⟩
theorem aX_33 {ad : Nat → Nat} {cy cz : ClassId} : fAi 76 (cfX ad cy cz) cy 33 120 := ⟨by decide, fun _ => rfl⟩
theorem aX_34 {ad : Nat → Nat} {cy cz : ClassId} : fAi 76 (cfX ad cy cz) cy 34 120 := ⟨by decide, fun _ => rfl⟩
theorem aX_35 {ad : Nat → Nat} {cy cz : ClassId} : fAi 76 (cfX ad cy cz) cy 35 128 := ⟨by decide, fun _ => rfl⟩
theorem aX_36 {ad : Nat → Nat} {cy cz : ClassId} : fAi 76 (cfX ad cy cz) cy 36 120 := ⟨by decide, fun _ => rfl⟩
theorem aX_37 {ad : Nat → Nat} {cy cz : ClassId} : fAi 76 (cfX ad cy cz) cy 37 120 := ⟨by decide, fun _ => rfl⟩
theorem oX_38 {ad : Nat → Nat} {cy cz : ClassId} : fOb 76 (cfX ad cy cz) 38 4 (fun row => [.ref (ad 1), .ref (ad 23), .ref (ad 39), .ref (ad 40), .ref (ad 41), .ref (ad 42), .ref (ad 43), .ref (ad 44), .ref (ad 45), .ref (ad 46), .ref (ad 47), .int (row 11), .int (row 12), .int (row 13)]) := ⟨by decide, fun _ => rfl⟩
theorem aX_39 {ad : Nat → Nat} {cy cz : ClassId} : fAi 76 (cfX ad cy cz) cy 39 120 := ⟨by decide, fun _ => rfl⟩
theorem aX_40 {ad : Nat → Nat} {cy cz : ClassId} : fAi 76 (cfX ad cy cz) cy 40 120 := ⟨by decide, fun _ => rfl⟩
theorem aX_41 {ad : Nat → Nat} {cy cz : ClassId} : fAi 76 (cfX ad cy cz) cy 41 120 := ⟨by decide, fun _ => rfl⟩
theorem aX_42 {ad : Nat → Nat} {cy cz : ClassId} : fAi 76 (cfX ad cy cz) cy 42 120 := ⟨by decide, fun _ => rfl⟩
theorem aX_43 {ad : Nat → Nat} {cy cz : ClassId} : fAi 76 (cfX ad cy cz) cy 43 120 := ⟨by decide, fun _ => rfl⟩
theorem aX_44 {ad : Nat → Nat} {cy cz : ClassId} : fAi 76 (cfX ad cy cz) cy 44 120 := ⟨by decide, fun _ => rfl⟩
theorem aX_45 {ad : Nat → Nat} {cy cz : ClassId} : fAi 76 (cfX ad cy cz) cy 45 128 := ⟨by decide, fun _ => rfl⟩
theorem aX_46 {ad : Nat → Nat} {cy cz : ClassId} : fAi 76 (cfX ad cy cz) cy 46 120 := ⟨by decide, fun _ => rfl⟩
theorem aX_47 {ad : Nat → Nat} {cy cz : ClassId} : fAi 76 (cfX ad cy cz) cy 47 120 := ⟨by decide, fun _ => rfl⟩
theorem oX_48 {ad : Nat → Nat} {cy cz : ClassId} : fOb 76 (cfX ad cy cz) 48 4 (fun row => [.ref (ad 1), .ref (ad 23), .ref (ad 49), .ref (ad 50), .ref (ad 51), .ref (ad 52), .ref (ad 53), .ref (ad 54), .ref (ad 55), .ref (ad 56), .ref (ad 57), .int (row 11), .int (row 12), .int (row 13)]) := ⟨by decide, fun _ => rfl⟩
theorem aX_49 {ad : Nat → Nat} {cy cz : ClassId} : fAi 76 (cfX ad cy cz) cy 49 120 := ⟨by decide, fun _ => rfl⟩
theorem aX_50 {ad : Nat → Nat} {cy cz : ClassId} : fAi 76 (cfX ad cy cz) cy 50 120 := ⟨by decide, fun _ => rfl⟩
theorem aX_51 {ad : Nat → Nat} {cy cz : ClassId} : fAi 76 (cfX ad cy cz) cy 51 120 := ⟨by decide, fun _ => rfl⟩
theorem aX_52 {ad : Nat → Nat} {cy cz : ClassId} : fAi 76 (cfX ad cy cz) cy 52 120 := ⟨by decide, fun _ => rfl⟩
theorem aX_53 {ad : Nat → Nat} {cy cz : ClassId} : fAi 76 (cfX ad cy cz) cy 53 120 := ⟨by decide, fun _ => rfl⟩
theorem aX_54 {ad : Nat → Nat} {cy cz : ClassId} : fAi 76 (cfX ad cy cz) cy 54 120 := ⟨by decide, fun _ => rfl⟩
theorem aX_55 {ad : Nat → Nat} {cy cz : ClassId} : fAi 76 (cfX ad cy cz) cy 55 128 := ⟨by decide, fun _ => rfl⟩
theorem aX_56 {ad : Nat → Nat} {cy cz : ClassId} : fAi 76 (cfX ad cy cz) cy 56 120 := ⟨by decide, fun _ => rfl⟩
theorem aX_57 {ad : Nat → Nat} {cy cz : ClassId} : fAi 76 (cfX ad cy cz) cy 57 120 := ⟨by decide, fun _ => rfl⟩
theorem oX_58 {ad : Nat → Nat} {cy cz : ClassId} : fOb 76 (cfX ad cy cz) 58 3 (fun row => [.ref (ad 1), .ref (ad 59), .ref (ad 60), .ref (ad 61), .ref (ad 62), .int (row 5)]) := ⟨by decide, fun _ => rfl⟩
theorem aX_59 {ad : Nat → Nat} {cy cz : ClassId} : fAi 76 (cfX ad cy cz) cy 59 120 := ⟨by decide, fun _ => rfl⟩
theorem aX_60 {ad : Nat → Nat} {cy cz : ClassId} : fAi 76 (cfX ad cy cz) cy 60 120 := ⟨by decide, fun _ => rfl⟩
theorem aX_61 {ad : Nat → Nat} {cy cz : ClassId} : fAi 76 (cfX ad cy cz) cy 61 120 := ⟨by decide, fun _ => rfl⟩
theorem aX_62 {ad : Nat → Nat} {cy cz : ClassId} : fAi 76 (cfX ad cy cz) cy 62 3 := ⟨by decide, fun _ => rfl⟩
theorem oX_63 {ad : Nat → Nat} {cy cz : ClassId} : fOb 76 (cfX ad cy cz) 63 6 (fun row => [.ref (ad 1), .ref (ad 11), .ref (ad 64), .ref (ad 65), .ref (ad 66), .ref (ad 67), .ref (ad 68), .int (row 7)]) := ⟨by decide, fun _ => rfl⟩
theorem aX_64 {ad : Nat → Nat} {cy cz : ClassId} : fAi 76 (cfX ad cy cz) cy 64 100 := ⟨by decide, fun _ => rfl⟩
theorem aX_65 {ad : Nat → Nat} {cy cz : ClassId} : fAi 76 (cfX ad cy cz) cy 65 100 := ⟨by decide, fun _ => rfl⟩
theorem aX_66 {ad : Nat → Nat} {cy cz : ClassId} : fAi 76 (cfX ad cy cz) cy 66 100 := ⟨by decide, fun _ => rfl⟩
theorem aX_67 {ad : Nat → Nat} {cy cz : ClassId} : fAi 76 (cfX ad cy cz) cy 67 100 := ⟨by decide, fun _ => rfl⟩
theorem aX_68 {ad : Nat → Nat} {cy cz : ClassId} : fAi 76 (cfX ad cy cz) cy 68 100 := ⟨by decide, fun _ => rfl⟩
theorem oX_69 {ad : Nat → Nat} {cy cz : ClassId} : fOb 76 (cfX ad cy cz) 69 1 (fun row => [.ref (ad 70), .int (row 1)]) := ⟨by decide, fun _ => rfl⟩
theorem aX_70 {ad : Nat → Nat} {cy cz : ClassId} : fAi 76 (cfX ad cy cz) cy 70 100 := ⟨by decide, fun _ => rfl⟩
theorem oX_71 {ad : Nat → Nat} {cy cz : ClassId} : fOb 76 (cfX ad cy cz) 71 1 (fun row => [.ref (ad 72), .int (row 1)]) := ⟨by decide, fun _ => rfl⟩
theorem aX_72 {ad : Nat → Nat} {cy cz : ClassId} : fAi 76 (cfX ad cy cz) cy 72 100 := ⟨by decide, fun _ => rfl⟩
theorem aX_73 {ad : Nat → Nat} {cy cz : ClassId} : fAi 76 (cfX ad cy cz) cy 73 10 := ⟨by decide, fun _ => rfl⟩
theorem aX_74 {ad : Nat → Nat} {cy cz : ClassId} : fAi 76 (cfX ad cy cz) cy 74 10 := ⟨by decide, fun _ => rfl⟩
theorem aX_75 {ad : Nat → Nat} {cy cz : ClassId} : fAi 76 (cfX ad cy cz) cy 75 120 := ⟨by decide, fun _ => rfl⟩
def cfML (ad : Nat → Nat) (cy cz : ClassId) (row : Nat → Int32) : List va_E := [
  .inr (9, [.ref (ad 1), .ref (ad 2), .ref (ad 3), .ref (ad 4), .int (row 4), .ref (ad 5), .ref (ad 6), .ref (ad 7), .ref (ad 8), .int (row 9), .ref (ad 9), .int (row 11), .ref (ad 10), .ref (ad 11), .int (row 14), .ref (ad 12), .ref (ad 13), .ref (ad 14), .ref (ad 15), .ref (ad 16), .int (row 20), .ref (ad 17), .int (row 22), .ref (ad 18), .int (row 24), .int (row 25), .int (row 26), .ref (ad 19), .ref (ad 20), .ref (ad 21), .int (row 30), .ref (ad 22), .ref (ad 23), .ref (ad 24), .ref (ad 25), .ref (ad 26), .ref (ad 27), .ref (ad 28), .ref (ad 29), .ref (ad 30), .int (row 40), .int (row 41)]),
  .inl (cy, 120, .inl row),
  .inl (cy, 120, .inl row),
  .inl (cy, 120, .inl row),
  .inl (cy, 360, .inl row),
  .inl (cy, 101, .inl row),
  .inl (cy, 101, .inl row),
  .inl (cz, 101, .inl row),
  .inl (cz, 101, .inl row),
  .inl (cz, 1000, .inl row),
  .inl (cy, 10, .inl row),
  .inl (cy, 10, .inl row),
  .inl (cy, 100, .inl row),
  .inl (cy, 100, .inl row),
  .inl (cy, 100, .inl row),
  .inl (cy, 100, .inl row),
  .inl (cy, 100, .inl row),
  .inl (cy, 100, .inl row),
  .inl (cy, 100, .inl row),
  .inl (cy, 3, .inl row),
  .inl (cy, 120, .inl row),
  .inl (cz, 101, .inl row),
  .inl (cy, 100, .inl row),
  .inl (cy, 100, .inl row),
  .inl (cy, 3, .inl row),
  .inl (cy, 120, .inl row),
  .inl (cy, 121, .inl row),
  .inl (cy, 121, .inl row),
  .inl (cz, 3, .inl row),
  .inl (cz, 120, .inl row),
  .inl (cy, 120, .inl row)]
def cfM (ad : Nat → Nat) (cy cz : ClassId) (k : Nat) (row : Nat → Int32) : va_E := (cfML ad cy cz row).getD k (.inl (cy, 0, .inl row))
theorem oM_0 {ad : Nat → Nat} {cy cz : ClassId} : fOb 31 (cfM ad cy cz) 0 9 (fun row => [.ref (ad 1), .ref (ad 2), .ref (ad 3), .ref (ad 4), .int (row 4), .ref (ad 5), .ref (ad 6), .ref (ad 7), .ref (ad 8), .int (row 9), .ref (ad 9), .int (row 11), .ref (ad 10), .ref (ad 11), .int (row 14), .ref (ad 12), .ref (ad 13), .ref (ad 14), .ref (ad 15), .ref (ad 16), .int (row 20), .ref (ad 17), .int (row 22), .ref (ad 18), .int (row 24), .int (row 25), .int (row 26), .ref (ad 19), .ref (ad 20), .ref (ad 21), .int (row 30), .ref (ad 22), .ref (ad 23), .ref (ad 24), .ref (ad 25), .ref (ad 26), .ref (ad 27), .ref (ad 28), .ref (ad 29), .ref (ad 30), .int (row 40), .int (row 41)]) := ⟨by decide, fun _ => rfl⟩
theorem aM_1 {ad : Nat → Nat} {cy cz : ClassId} : fAi 31 (cfM ad cy cz) cy 1 120 := ⟨by decide, fun _ => rfl⟩
theorem aM_2 {ad : Nat → Nat} {cy cz : ClassId} : fAi 31 (cfM ad cy cz) cy 2 120 := ⟨by decide, fun _ => rfl⟩
theorem aM_3 {ad : Nat → Nat} {cy cz : ClassId} : fAi 31 (cfM ad cy cz) cy 3 120 := ⟨by decide, fun _ => rfl⟩
theorem aM_4 {ad : Nat → Nat} {cy cz : ClassId} : fAi 31 (cfM ad cy cz) cy 4 360 := ⟨by decide, fun _ => rfl⟩
theorem aM_5 {ad : Nat → Nat} {cy cz : ClassId} : fAi 31 (cfM ad cy cz) cy 5 101 := ⟨by decide, fun _ => rfl⟩
theorem aM_6 {ad : Nat → Nat} {cy cz : ClassId} : fAi 31 (cfM ad cy cz) cy 6 101 := ⟨by decide, fun _ => rfl⟩
theorem aM_7 {ad : Nat → Nat} {cy cz : ClassId} : fAi 31 (cfM ad cy cz) cz 7 101 := ⟨by decide, fun _ => rfl⟩
theorem aM_8 {ad : Nat → Nat} {cy cz : ClassId} : fAi 31 (cfM ad cy cz) cz 8 101 := ⟨by decide, fun _ => rfl⟩
theorem aM_9 {ad : Nat → Nat} {cy cz : ClassId} : fAi 31 (cfM ad cy cz) cz 9 1000 := ⟨by decide, fun _ => rfl⟩
theorem aM_10 {ad : Nat → Nat} {cy cz : ClassId} : fAi 31 (cfM ad cy cz) cy 10 10 := ⟨by decide, fun _ => rfl⟩
theorem aM_11 {ad : Nat → Nat} {cy cz : ClassId} : fAi 31 (cfM ad cy cz) cy 11 10 := ⟨by decide, fun _ => rfl⟩
theorem aM_12 {ad : Nat → Nat} {cy cz : ClassId} : fAi 31 (cfM ad cy cz) cy 12 100 := ⟨by decide, fun _ => rfl⟩
theorem aM_13 {ad : Nat → Nat} {cy cz : ClassId} : fAi 31 (cfM ad cy cz) cy 13 100 := ⟨by decide, fun _ => rfl⟩
theorem aM_14 {ad : Nat → Nat} {cy cz : ClassId} : fAi 31 (cfM ad cy cz) cy 14 100 := ⟨by decide, fun _ => rfl⟩
theorem aM_15 {ad : Nat → Nat} {cy cz : ClassId} : fAi 31 (cfM ad cy cz) cy 15 100 := ⟨by decide, fun _ => rfl⟩
theorem aM_16 {ad : Nat → Nat} {cy cz : ClassId} : fAi 31 (cfM ad cy cz) cy 16 100 := ⟨by decide, fun _ => rfl⟩
theorem aM_17 {ad : Nat → Nat} {cy cz : ClassId} : fAi 31 (cfM ad cy cz) cy 17 100 := ⟨by decide, fun _ => rfl⟩
theorem aM_18 {ad : Nat → Nat} {cy cz : ClassId} : fAi 31 (cfM ad cy cz) cy 18 100 := ⟨by decide, fun _ => rfl⟩
theorem aM_19 {ad : Nat → Nat} {cy cz : ClassId} : fAi 31 (cfM ad cy cz) cy 19 3 := ⟨by decide, fun _ => rfl⟩
theorem aM_20 {ad : Nat → Nat} {cy cz : ClassId} : fAi 31 (cfM ad cy cz) cy 20 120 := ⟨by decide, fun _ => rfl⟩
theorem aM_21 {ad : Nat → Nat} {cy cz : ClassId} : fAi 31 (cfM ad cy cz) cz 21 101 := ⟨by decide, fun _ => rfl⟩
theorem aM_22 {ad : Nat → Nat} {cy cz : ClassId} : fAi 31 (cfM ad cy cz) cy 22 100 := ⟨by decide, fun _ => rfl⟩
theorem aM_23 {ad : Nat → Nat} {cy cz : ClassId} : fAi 31 (cfM ad cy cz) cy 23 100 := ⟨by decide, fun _ => rfl⟩
theorem aM_24 {ad : Nat → Nat} {cy cz : ClassId} : fAi 31 (cfM ad cy cz) cy 24 3 := ⟨by decide, fun _ => rfl⟩
theorem aM_25 {ad : Nat → Nat} {cy cz : ClassId} : fAi 31 (cfM ad cy cz) cy 25 120 := ⟨by decide, fun _ => rfl⟩
theorem aM_26 {ad : Nat → Nat} {cy cz : ClassId} : fAi 31 (cfM ad cy cz) cy 26 121 := ⟨by decide, fun _ => rfl⟩
theorem aM_27 {ad : Nat → Nat} {cy cz : ClassId} : fAi 31 (cfM ad cy cz) cy 27 121 := ⟨by decide, fun _ => rfl⟩
theorem aM_28 {ad : Nat → Nat} {cy cz : ClassId} : fAi 31 (cfM ad cy cz) cz 28 3 := ⟨by decide, fun _ => rfl⟩
theorem aM_29 {ad : Nat → Nat} {cy cz : ClassId} : fAi 31 (cfM ad cy cz) cz 29 120 := ⟨by decide, fun _ => rfl⟩
theorem aM_30 {ad : Nat → Nat} {cy cz : ClassId} : fAi 31 (cfM ad cy cz) cy 30 120 := ⟨by decide, fun _ => rfl⟩
theorem oP {ad : Nat → Nat} {cy cz : ClassId} {k : Nat} (h : isP k) : fOb 76 (cfX ad cy cz) k 4 (fun row => [.ref (ad 1), .ref (ad 23), .ref (ad (k + 1)), .ref (ad (k + 2)), .ref (ad (k + 3)), .ref (ad (k + 4)), .ref (ad (k + 5)), .ref (ad (k + 6)), .ref (ad (k + 7)), .ref (ad (k + 8)), .ref (ad (k + 9)), .int (row 11), .int (row 12), .int (row 13)]) := by
  rcases h with rfl | rfl | rfl
  · exact oX_28
  · exact oX_38
  · exact oX_48
theorem aP_1 {ad : Nat → Nat} {cy cz : ClassId} {k : Nat} (h : isP k) : fAi 76 (cfX ad cy cz) cy (k + 1) 120 := by
  rcases h with rfl | rfl | rfl
  · exact aX_29
  · exact aX_39
  · exact aX_49
theorem aP_2 {ad : Nat → Nat} {cy cz : ClassId} {k : Nat} (h : isP k) : fAi 76 (cfX ad cy cz) cy (k + 2) 120 := by
  rcases h with rfl | rfl | rfl
  · exact aX_30
  · exact aX_40
  · exact aX_50
theorem aP_3 {ad : Nat → Nat} {cy cz : ClassId} {k : Nat} (h : isP k) : fAi 76 (cfX ad cy cz) cy (k + 3) 120 := by
  rcases h with rfl | rfl | rfl
  · exact aX_31
  · exact aX_41
  · exact aX_51
theorem aP_4 {ad : Nat → Nat} {cy cz : ClassId} {k : Nat} (h : isP k) : fAi 76 (cfX ad cy cz) cy (k + 4) 120 := by
  rcases h with rfl | rfl | rfl
  · exact aX_32
  · exact aX_42
  · exact aX_52
theorem aP_5 {ad : Nat → Nat} {cy cz : ClassId} {k : Nat} (h : isP k) : fAi 76 (cfX ad cy cz) cy (k + 5) 120 := by
  rcases h with rfl | rfl | rfl
  · exact aX_33
  · exact aX_43
  · exact aX_53
theorem aP_6 {ad : Nat → Nat} {cy cz : ClassId} {k : Nat} (h : isP k) : fAi 76 (cfX ad cy cz) cy (k + 6) 120 := by
  rcases h with rfl | rfl | rfl
  · exact aX_34
  · exact aX_44
  · exact aX_54
theorem aP_7 {ad : Nat → Nat} {cy cz : ClassId} {k : Nat} (h : isP k) : fAi 76 (cfX ad cy cz) cy (k + 7) 128 := by
  rcases h with rfl | rfl | rfl
  · exact aX_35
  · exact aX_45
  · exact aX_55
theorem aP_8 {ad : Nat → Nat} {cy cz : ClassId} {k : Nat} (h : isP k) : fAi 76 (cfX ad cy cz) cy (k + 8) 120 := by
  rcases h with rfl | rfl | rfl
  · exact aX_36
  · exact aX_46
  · exact aX_56
theorem aP_9 {ad : Nat → Nat} {cy cz : ClassId} {k : Nat} (h : isP k) : fAi 76 (cfX ad cy cz) cy (k + 9) 120 := by
  rcases h with rfl | rfl | rfl
  · exact aX_37
  · exact aX_47
  · exact aX_57
theorem oK {ad : Nat → Nat} {cy cz : ClassId} {k : Nat} (h : isK k) : fOb 76 (cfX ad cy cz) k 1 (fun row => [.ref (ad (k + 1)), .int (row 1)]) := by
  rcases h with rfl | rfl | rfl
  · exact oX_18
  · exact oX_69
  · exact oX_71
theorem aK_1 {ad : Nat → Nat} {cy cz : ClassId} {k : Nat} (h : isK k) : fAi 76 (cfX ad cy cz) cy (k + 1) 100 := by
  rcases h with rfl | rfl | rfl
  · exact aX_19
  · exact aX_70
  · exact aX_72
section FGET
variable {D : va_G} {ad : Nat → Nat} {cy cz : ClassId} {cc : ByteArray} {nL : Nat} {own : String} {σ τ : fS}
variable {p : Program} {l : Launch} {e : Env} {R : Room} {s : State} {m : MethodId} {args : Array Value} {below : List Frame} {meth : Method} {c : Code} {H : Heap} {locs : List Loc} {Q : State → Prop} {pc : Nat} {ls : Array Slot} {rest : List Value}
theorem gX0_lefts (hC : fC D 76 ad cy cz p s m args c cc nL own) (hI : fI D 76 ad (cfX ad cy cz) σ s H locs) {index : Nat} (hlink : Cond.fieldLink own index "EqualCourt$Agenda" "lefts" "[I" ∈ TW) (hdg : decode cc pc = .ok (.getfield index, 3)) (kk : W p l e R s m args below meth c H locs 0 0 Q (F0 m (pc + 3) ls (.ref (ad 24) :: rest))) : W p l e R s m args below meth c H locs 0 0 Q (F0 m pc ls (.ref (ad 23) :: rest)) := r_get hC hI oX_23 (C := "EqualCourt$Agenda") rfl inX0 0 (by decide) rfl hlink rfl hdg kk
theorem gX0_rights (hC : fC D 76 ad cy cz p s m args c cc nL own) (hI : fI D 76 ad (cfX ad cy cz) σ s H locs) {index : Nat} (hlink : Cond.fieldLink own index "EqualCourt$Agenda" "rights" "[I" ∈ TW) (hdg : decode cc pc = .ok (.getfield index, 3)) (kk : W p l e R s m args below meth c H locs 0 0 Q (F0 m (pc + 3) ls (.ref (ad 25) :: rest))) : W p l e R s m args below meth c H locs 0 0 Q (F0 m pc ls (.ref (ad 23) :: rest)) := r_get hC hI oX_23 (C := "EqualCourt$Agenda") rfl inX0 1 (by decide) rfl hlink rfl hdg kk
theorem gX0_changed (hC : fC D 76 ad cy cz p s m args c cc nL own) (hI : fI D 76 ad (cfX ad cy cz) σ s H locs) {index : Nat} (hlink : Cond.fieldLink own index "EqualCourt$Agenda" "changed" "[I" ∈ TW) (hdg : decode cc pc = .ok (.getfield index, 3)) (kk : W p l e R s m args below meth c H locs 0 0 Q (F0 m (pc + 3) ls (.ref (ad 26) :: rest))) : W p l e R s m args below meth c H locs 0 0 Q (F0 m pc ls (.ref (ad 23) :: rest)) := r_get hC hI oX_23 (C := "EqualCourt$Agenda") rfl inX0 2 (by decide) rfl hlink rfl hdg kk
theorem gX0_waits (hC : fC D 76 ad cy cz p s m args c cc nL own) (hI : fI D 76 ad (cfX ad cy cz) σ s H locs) {index : Nat} (hlink : Cond.fieldLink own index "EqualCourt$Agenda" "waits" "[Z" ∈ TW) (hdg : decode cc pc = .ok (.getfield index, 3)) (kk : W p l e R s m args below meth c H locs 0 0 Q (F0 m (pc + 3) ls (.ref (ad 27) :: rest))) : W p l e R s m args below meth c H locs 0 0 Q (F0 m pc ls (.ref (ad 23) :: rest)) := r_get hC hI oX_23 (C := "EqualCourt$Agenda") rfl inX0 3 (by decide) rfl hlink rfl hdg kk
theorem gX0_pairCount (hC : fC D 76 ad cy cz p s m args c cc nL own) (hI : fI D 76 ad (cfX ad cy cz) σ s H locs) {index : Nat} (hlink : Cond.fieldLink own index "EqualCourt$Agenda" "pairCount" "I" ∈ TW) (hdg : decode cc pc = .ok (.getfield index, 3)) (kk : W p l e R s m args below meth c H locs 0 0 Q (F0 m (pc + 3) ls (.int (σ 23 4) :: rest))) : W p l e R s m args below meth c H locs 0 0 Q (F0 m pc ls (.ref (ad 23) :: rest)) := r_get hC hI oX_23 (C := "EqualCourt$Agenda") rfl inX0 4 (by decide) rfl hlink rfl hdg kk
theorem pX0_pairCount (hC : fC D 76 ad cy cz p s m args c cc nL own) (hI : fI D 76 ad (cfX ad cy cz) σ s H locs) {index : Nat} (hlink : Cond.fieldLink own index "EqualCourt$Agenda" "pairCount" "I" ∈ TW) {x : Int32} (hdg : decode cc pc = .ok (.putfield index, 3)) (kk : ∀ (σ1 : fS) (H1 : Heap) (locs1 : List Loc), σ1 = wf σ 23 4 x → fI D 76 ad (cfX ad cy cz) σ1 s H1 locs1 → W p l e R s m args below meth c H1 locs1 0 0 Q (F0 m (pc + 3) ls rest)) : W p l e R s m args below meth c H locs 0 0 Q (F0 m pc ls (.int x :: .ref (ad 23) :: rest)) := r_put hC hI oX_23 (C := "EqualCourt$Agenda") rfl inX0 tyX0 tyX0_ok nmX0 4 (by decide) rfl rfl hlink rfl rfl (Nat.le_of_ble_eq_true rfl) rfl hdg kk
theorem gX0_changedCount (hC : fC D 76 ad cy cz p s m args c cc nL own) (hI : fI D 76 ad (cfX ad cy cz) σ s H locs) {index : Nat} (hlink : Cond.fieldLink own index "EqualCourt$Agenda" "changedCount" "I" ∈ TW) (hdg : decode cc pc = .ok (.getfield index, 3)) (kk : W p l e R s m args below meth c H locs 0 0 Q (F0 m (pc + 3) ls (.int (σ 23 5) :: rest))) : W p l e R s m args below meth c H locs 0 0 Q (F0 m pc ls (.ref (ad 23) :: rest)) := r_get hC hI oX_23 (C := "EqualCourt$Agenda") rfl inX0 5 (by decide) rfl hlink rfl hdg kk
theorem pX0_changedCount (hC : fC D 76 ad cy cz p s m args c cc nL own) (hI : fI D 76 ad (cfX ad cy cz) σ s H locs) {index : Nat} (hlink : Cond.fieldLink own index "EqualCourt$Agenda" "changedCount" "I" ∈ TW) {x : Int32} (hdg : decode cc pc = .ok (.putfield index, 3)) (kk : ∀ (σ1 : fS) (H1 : Heap) (locs1 : List Loc), σ1 = wf σ 23 5 x → fI D 76 ad (cfX ad cy cz) σ1 s H1 locs1 → W p l e R s m args below meth c H1 locs1 0 0 Q (F0 m (pc + 3) ls rest)) : W p l e R s m args below meth c H locs 0 0 Q (F0 m pc ls (.int x :: .ref (ad 23) :: rest)) := r_put hC hI oX_23 (C := "EqualCourt$Agenda") rfl inX0 tyX0 tyX0_ok nmX0 5 (by decide) rfl rfl hlink rfl rfl (Nat.le_of_ble_eq_true rfl) rfl hdg kk
theorem gX1_items {k : Nat} (hk : isK k) (hC : fC D 76 ad cy cz p s m args c cc nL own) (hI : fI D 76 ad (cfX ad cy cz) σ s H locs) {index : Nat} (hlink : Cond.fieldLink own index "EqualCourt$Core" "items" "[I" ∈ TW) (hdg : decode cc pc = .ok (.getfield index, 3)) (kk : W p l e R s m args below meth c H locs 0 0 Q (F0 m (pc + 3) ls (.ref (ad (k + 1)) :: rest))) : W p l e R s m args below meth c H locs 0 0 Q (F0 m pc ls (.ref (ad k) :: rest)) := r_get hC hI (oK hk) (C := "EqualCourt$Core") rfl inX1 0 (by decide) rfl hlink rfl hdg kk
theorem gX1_count {k : Nat} (hk : isK k) (hC : fC D 76 ad cy cz p s m args c cc nL own) (hI : fI D 76 ad (cfX ad cy cz) σ s H locs) {index : Nat} (hlink : Cond.fieldLink own index "EqualCourt$Core" "count" "I" ∈ TW) (hdg : decode cc pc = .ok (.getfield index, 3)) (kk : W p l e R s m args below meth c H locs 0 0 Q (F0 m (pc + 3) ls (.int (σ k 1) :: rest))) : W p l e R s m args below meth c H locs 0 0 Q (F0 m pc ls (.ref (ad k) :: rest)) := r_get hC hI (oK hk) (C := "EqualCourt$Core") rfl inX1 1 (by decide) rfl hlink rfl hdg kk
theorem pX1_count {k : Nat} (hk : isK k) (hC : fC D 76 ad cy cz p s m args c cc nL own) (hI : fI D 76 ad (cfX ad cy cz) σ s H locs) {index : Nat} (hlink : Cond.fieldLink own index "EqualCourt$Core" "count" "I" ∈ TW) {x : Int32} (hdg : decode cc pc = .ok (.putfield index, 3)) (kk : ∀ (σ1 : fS) (H1 : Heap) (locs1 : List Loc), σ1 = wf σ k 1 x → fI D 76 ad (cfX ad cy cz) σ1 s H1 locs1 → W p l e R s m args below meth c H1 locs1 0 0 Q (F0 m (pc + 3) ls rest)) : W p l e R s m args below meth c H locs 0 0 Q (F0 m pc ls (.int x :: .ref (ad k) :: rest)) := r_put hC hI (oK hk) (C := "EqualCourt$Core") rfl inX1 tyX1 tyX1_ok nmX1 1 (by decide) rfl rfl hlink rfl rfl (Nat.le_of_ble_eq_true rfl) rfl hdg kk
theorem gX2_terms (hC : fC D 76 ad cy cz p s m args c cc nL own) (hI : fI D 76 ad (cfX ad cy cz) σ s H locs) {index : Nat} (hlink : Cond.fieldLink own index "EqualCourt$Court" "terms" "LEqualCourt$Terms;" ∈ TW) (hdg : decode cc pc = .ok (.getfield index, 3)) (kk : W p l e R s m args below meth c H locs 0 0 Q (F0 m (pc + 3) ls (.ref (ad 1) :: rest))) : W p l e R s m args below meth c H locs 0 0 Q (F0 m pc ls (.ref (ad 17) :: rest)) := r_get hC hI oX_17 (C := "EqualCourt$Court") rfl inX2 0 (by decide) rfl hlink rfl hdg kk
theorem gX2_sayings (hC : fC D 76 ad cy cz p s m args c cc nL own) (hI : fI D 76 ad (cfX ad cy cz) σ s H locs) {index : Nat} (hlink : Cond.fieldLink own index "EqualCourt$Court" "sayings" "LEqualCourt$Sayings;" ∈ TW) (hdg : decode cc pc = .ok (.getfield index, 3)) (kk : W p l e R s m args below meth c H locs 0 0 Q (F0 m (pc + 3) ls (.ref (ad 11) :: rest))) : W p l e R s m args below meth c H locs 0 0 Q (F0 m pc ls (.ref (ad 17) :: rest)) := r_get hC hI oX_17 (C := "EqualCourt$Court") rfl inX2 1 (by decide) rfl hlink rfl hdg kk
theorem gX2_bare (hC : fC D 76 ad cy cz p s m args c cc nL own) (hI : fI D 76 ad (cfX ad cy cz) σ s H locs) {index : Nat} (hlink : Cond.fieldLink own index "EqualCourt$Court" "bare" "LEqualCourt$Partition;" ∈ TW) (hdg : decode cc pc = .ok (.getfield index, 3)) (kk : W p l e R s m args below meth c H locs 0 0 Q (F0 m (pc + 3) ls (.ref (ad 28) :: rest))) : W p l e R s m args below meth c H locs 0 0 Q (F0 m pc ls (.ref (ad 17) :: rest)) := r_get hC hI oX_17 (C := "EqualCourt$Court") rfl inX2 2 (by decide) rfl hlink rfl hdg kk
theorem gX2_standing (hC : fC D 76 ad cy cz p s m args c cc nL own) (hI : fI D 76 ad (cfX ad cy cz) σ s H locs) {index : Nat} (hlink : Cond.fieldLink own index "EqualCourt$Court" "standing" "LEqualCourt$Partition;" ∈ TW) (hdg : decode cc pc = .ok (.getfield index, 3)) (kk : W p l e R s m args below meth c H locs 0 0 Q (F0 m (pc + 3) ls (.ref (ad (pcell (σ 17 3))) :: rest))) : W p l e R s m args below meth c H locs 0 0 Q (F0 m pc ls (.ref (ad 17) :: rest)) := r_get hC hI oX_17 (C := "EqualCourt$Court") rfl inX2 3 (by decide) rfl hlink rfl hdg kk
theorem pX2_standing (hC : fC D 76 ad cy cz p s m args c cc nL own) (hI : fI D 76 ad (cfX ad cy cz) σ s H locs) {index : Nat} (hlink : Cond.fieldLink own index "EqualCourt$Court" "standing" "LEqualCourt$Partition;" ∈ TW) {x : Int32} (hdg : decode cc pc = .ok (.putfield index, 3)) (kk : ∀ (σ1 : fS) (H1 : Heap) (locs1 : List Loc), σ1 = wf σ 17 3 x → fI D 76 ad (cfX ad cy cz) σ1 s H1 locs1 → W p l e R s m args below meth c H1 locs1 0 0 Q (F0 m (pc + 3) ls rest)) : W p l e R s m args below meth c H locs 0 0 Q (F0 m pc ls (.ref (ad (pcell x)) :: .ref (ad 17) :: rest)) := r_put hC hI oX_17 (C := "EqualCourt$Court") rfl inX2 tyX2 tyX2_ok nmX2 3 (by decide) rfl rfl hlink rfl rfl (Nat.le_of_ble_eq_true rfl) rfl hdg kk
theorem gX2_trial (hC : fC D 76 ad cy cz p s m args c cc nL own) (hI : fI D 76 ad (cfX ad cy cz) σ s H locs) {index : Nat} (hlink : Cond.fieldLink own index "EqualCourt$Court" "trial" "LEqualCourt$Partition;" ∈ TW) (hdg : decode cc pc = .ok (.getfield index, 3)) (kk : W p l e R s m args below meth c H locs 0 0 Q (F0 m (pc + 3) ls (.ref (ad (pcell (σ 17 4))) :: rest))) : W p l e R s m args below meth c H locs 0 0 Q (F0 m pc ls (.ref (ad 17) :: rest)) := r_get hC hI oX_17 (C := "EqualCourt$Court") rfl inX2 4 (by decide) rfl hlink rfl hdg kk
theorem pX2_trial (hC : fC D 76 ad cy cz p s m args c cc nL own) (hI : fI D 76 ad (cfX ad cy cz) σ s H locs) {index : Nat} (hlink : Cond.fieldLink own index "EqualCourt$Court" "trial" "LEqualCourt$Partition;" ∈ TW) {x : Int32} (hdg : decode cc pc = .ok (.putfield index, 3)) (kk : ∀ (σ1 : fS) (H1 : Heap) (locs1 : List Loc), σ1 = wf σ 17 4 x → fI D 76 ad (cfX ad cy cz) σ1 s H1 locs1 → W p l e R s m args below meth c H1 locs1 0 0 Q (F0 m (pc + 3) ls rest)) : W p l e R s m args below meth c H locs 0 0 Q (F0 m pc ls (.ref (ad (pcell x)) :: .ref (ad 17) :: rest)) := r_put hC hI oX_17 (C := "EqualCourt$Court") rfl inX2 tyX2 tyX2_ok nmX2 4 (by decide) rfl rfl hlink rfl rfl (Nat.le_of_ble_eq_true rfl) rfl hdg kk
theorem gX2_unlikes (hC : fC D 76 ad cy cz p s m args c cc nL own) (hI : fI D 76 ad (cfX ad cy cz) σ s H locs) {index : Nat} (hlink : Cond.fieldLink own index "EqualCourt$Court" "unlikes" "LEqualCourt$Core;" ∈ TW) (hdg : decode cc pc = .ok (.getfield index, 3)) (kk : W p l e R s m args below meth c H locs 0 0 Q (F0 m (pc + 3) ls (.ref (ad 18) :: rest))) : W p l e R s m args below meth c H locs 0 0 Q (F0 m pc ls (.ref (ad 17) :: rest)) := r_get hC hI oX_17 (C := "EqualCourt$Court") rfl inX2 5 (by decide) rfl hlink rfl hdg kk
theorem gX2_pool (hC : fC D 76 ad cy cz p s m args c cc nL own) (hI : fI D 76 ad (cfX ad cy cz) σ s H locs) {index : Nat} (hlink : Cond.fieldLink own index "EqualCourt$Court" "pool" "[I" ∈ TW) (hdg : decode cc pc = .ok (.getfield index, 3)) (kk : W p l e R s m args below meth c H locs 0 0 Q (F0 m (pc + 3) ls (.ref (ad 20) :: rest))) : W p l e R s m args below meth c H locs 0 0 Q (F0 m pc ls (.ref (ad 17) :: rest)) := r_get hC hI oX_17 (C := "EqualCourt$Court") rfl inX2 6 (by decide) rfl hlink rfl hdg kk
theorem gX2_helps (hC : fC D 76 ad cy cz p s m args c cc nL own) (hI : fI D 76 ad (cfX ad cy cz) σ s H locs) {index : Nat} (hlink : Cond.fieldLink own index "EqualCourt$Court" "helps" "[Z" ∈ TW) (hdg : decode cc pc = .ok (.getfield index, 3)) (kk : W p l e R s m args below meth c H locs 0 0 Q (F0 m (pc + 3) ls (.ref (ad 21) :: rest))) : W p l e R s m args below meth c H locs 0 0 Q (F0 m pc ls (.ref (ad 17) :: rest)) := r_get hC hI oX_17 (C := "EqualCourt$Court") rfl inX2 7 (by decide) rfl hlink rfl hdg kk
theorem gX2_picks (hC : fC D 76 ad cy cz p s m args c cc nL own) (hI : fI D 76 ad (cfX ad cy cz) σ s H locs) {index : Nat} (hlink : Cond.fieldLink own index "EqualCourt$Court" "picks" "[I" ∈ TW) (hdg : decode cc pc = .ok (.getfield index, 3)) (kk : W p l e R s m args below meth c H locs 0 0 Q (F0 m (pc + 3) ls (.ref (ad 22) :: rest))) : W p l e R s m args below meth c H locs 0 0 Q (F0 m pc ls (.ref (ad 17) :: rest)) := r_get hC hI oX_17 (C := "EqualCourt$Court") rfl inX2 8 (by decide) rfl hlink rfl hdg kk
theorem gX3_terms (hC : fC D 76 ad cy cz p s m args c cc nL own) (hI : fI D 76 ad (cfX ad cy cz) σ s H locs) {index : Nat} (hlink : Cond.fieldLink own index "EqualCourt$Maker" "terms" "LEqualCourt$Terms;" ∈ TW) (hdg : decode cc pc = .ok (.getfield index, 3)) (kk : W p l e R s m args below meth c H locs 0 0 Q (F0 m (pc + 3) ls (.ref (ad 1) :: rest))) : W p l e R s m args below meth c H locs 0 0 Q (F0 m pc ls (.ref (ad 58) :: rest)) := r_get hC hI oX_58 (C := "EqualCourt$Maker") rfl inX3 0 (by decide) rfl hlink rfl hdg kk
theorem gX3_images (hC : fC D 76 ad cy cz p s m args c cc nL own) (hI : fI D 76 ad (cfX ad cy cz) σ s H locs) {index : Nat} (hlink : Cond.fieldLink own index "EqualCourt$Maker" "images" "[I" ∈ TW) (hdg : decode cc pc = .ok (.getfield index, 3)) (kk : W p l e R s m args below meth c H locs 0 0 Q (F0 m (pc + 3) ls (.ref (ad 59) :: rest))) : W p l e R s m args below meth c H locs 0 0 Q (F0 m pc ls (.ref (ad 58) :: rest)) := r_get hC hI oX_58 (C := "EqualCourt$Maker") rfl inX3 1 (by decide) rfl hlink rfl hdg kk
theorem gX3_turnOfImage (hC : fC D 76 ad cy cz p s m args c cc nL own) (hI : fI D 76 ad (cfX ad cy cz) σ s H locs) {index : Nat} (hlink : Cond.fieldLink own index "EqualCourt$Maker" "turnOfImage" "[I" ∈ TW) (hdg : decode cc pc = .ok (.getfield index, 3)) (kk : W p l e R s m args below meth c H locs 0 0 Q (F0 m (pc + 3) ls (.ref (ad 60) :: rest))) : W p l e R s m args below meth c H locs 0 0 Q (F0 m pc ls (.ref (ad 58) :: rest)) := r_get hC hI oX_58 (C := "EqualCourt$Maker") rfl inX3 2 (by decide) rfl hlink rfl hdg kk
theorem gX3_path (hC : fC D 76 ad cy cz p s m args c cc nL own) (hI : fI D 76 ad (cfX ad cy cz) σ s H locs) {index : Nat} (hlink : Cond.fieldLink own index "EqualCourt$Maker" "path" "[I" ∈ TW) (hdg : decode cc pc = .ok (.getfield index, 3)) (kk : W p l e R s m args below meth c H locs 0 0 Q (F0 m (pc + 3) ls (.ref (ad 61) :: rest))) : W p l e R s m args below meth c H locs 0 0 Q (F0 m pc ls (.ref (ad 58) :: rest)) := r_get hC hI oX_58 (C := "EqualCourt$Maker") rfl inX3 3 (by decide) rfl hlink rfl hdg kk
theorem gX3_fillings (hC : fC D 76 ad cy cz p s m args c cc nL own) (hI : fI D 76 ad (cfX ad cy cz) σ s H locs) {index : Nat} (hlink : Cond.fieldLink own index "EqualCourt$Maker" "fillings" "[I" ∈ TW) (hdg : decode cc pc = .ok (.getfield index, 3)) (kk : W p l e R s m args below meth c H locs 0 0 Q (F0 m (pc + 3) ls (.ref (ad 62) :: rest))) : W p l e R s m args below meth c H locs 0 0 Q (F0 m pc ls (.ref (ad 58) :: rest)) := r_get hC hI oX_58 (C := "EqualCourt$Maker") rfl inX3 4 (by decide) rfl hlink rfl hdg kk
theorem gX3_turn (hC : fC D 76 ad cy cz p s m args c cc nL own) (hI : fI D 76 ad (cfX ad cy cz) σ s H locs) {index : Nat} (hlink : Cond.fieldLink own index "EqualCourt$Maker" "turn" "I" ∈ TW) (hdg : decode cc pc = .ok (.getfield index, 3)) (kk : W p l e R s m args below meth c H locs 0 0 Q (F0 m (pc + 3) ls (.int (σ 58 5) :: rest))) : W p l e R s m args below meth c H locs 0 0 Q (F0 m pc ls (.ref (ad 58) :: rest)) := r_get hC hI oX_58 (C := "EqualCourt$Maker") rfl inX3 5 (by decide) rfl hlink rfl hdg kk
theorem pX3_turn (hC : fC D 76 ad cy cz p s m args c cc nL own) (hI : fI D 76 ad (cfX ad cy cz) σ s H locs) {index : Nat} (hlink : Cond.fieldLink own index "EqualCourt$Maker" "turn" "I" ∈ TW) {x : Int32} (hdg : decode cc pc = .ok (.putfield index, 3)) (kk : ∀ (σ1 : fS) (H1 : Heap) (locs1 : List Loc), σ1 = wf σ 58 5 x → fI D 76 ad (cfX ad cy cz) σ1 s H1 locs1 → W p l e R s m args below meth c H1 locs1 0 0 Q (F0 m (pc + 3) ls rest)) : W p l e R s m args below meth c H locs 0 0 Q (F0 m pc ls (.int x :: .ref (ad 58) :: rest)) := r_put hC hI oX_58 (C := "EqualCourt$Maker") rfl inX3 tyX3 tyX3_ok nmX3 5 (by decide) rfl rfl hlink rfl rfl (Nat.le_of_ble_eq_true rfl) rfl hdg kk
theorem gX4_terms {k : Nat} (hk : isP k) (hC : fC D 76 ad cy cz p s m args c cc nL own) (hI : fI D 76 ad (cfX ad cy cz) σ s H locs) {index : Nat} (hlink : Cond.fieldLink own index "EqualCourt$Partition" "terms" "LEqualCourt$Terms;" ∈ TW) (hdg : decode cc pc = .ok (.getfield index, 3)) (kk : W p l e R s m args below meth c H locs 0 0 Q (F0 m (pc + 3) ls (.ref (ad 1) :: rest))) : W p l e R s m args below meth c H locs 0 0 Q (F0 m pc ls (.ref (ad k) :: rest)) := r_get hC hI (oP hk) (C := "EqualCourt$Partition") rfl inX4 0 (by decide) rfl hlink rfl hdg kk
theorem gX4_agenda {k : Nat} (hk : isP k) (hC : fC D 76 ad cy cz p s m args c cc nL own) (hI : fI D 76 ad (cfX ad cy cz) σ s H locs) {index : Nat} (hlink : Cond.fieldLink own index "EqualCourt$Partition" "agenda" "LEqualCourt$Agenda;" ∈ TW) (hdg : decode cc pc = .ok (.getfield index, 3)) (kk : W p l e R s m args below meth c H locs 0 0 Q (F0 m (pc + 3) ls (.ref (ad 23) :: rest))) : W p l e R s m args below meth c H locs 0 0 Q (F0 m pc ls (.ref (ad k) :: rest)) := r_get hC hI (oP hk) (C := "EqualCourt$Partition") rfl inX4 1 (by decide) rfl hlink rfl hdg kk
theorem gX4_root {k : Nat} (hk : isP k) (hC : fC D 76 ad cy cz p s m args c cc nL own) (hI : fI D 76 ad (cfX ad cy cz) σ s H locs) {index : Nat} (hlink : Cond.fieldLink own index "EqualCourt$Partition" "root" "[I" ∈ TW) (hdg : decode cc pc = .ok (.getfield index, 3)) (kk : W p l e R s m args below meth c H locs 0 0 Q (F0 m (pc + 3) ls (.ref (ad (k + 1)) :: rest))) : W p l e R s m args below meth c H locs 0 0 Q (F0 m pc ls (.ref (ad k) :: rest)) := r_get hC hI (oP hk) (C := "EqualCourt$Partition") rfl inX4 2 (by decide) rfl hlink rfl hdg kk
theorem gX4_next {k : Nat} (hk : isP k) (hC : fC D 76 ad cy cz p s m args c cc nL own) (hI : fI D 76 ad (cfX ad cy cz) σ s H locs) {index : Nat} (hlink : Cond.fieldLink own index "EqualCourt$Partition" "next" "[I" ∈ TW) (hdg : decode cc pc = .ok (.getfield index, 3)) (kk : W p l e R s m args below meth c H locs 0 0 Q (F0 m (pc + 3) ls (.ref (ad (k + 2)) :: rest))) : W p l e R s m args below meth c H locs 0 0 Q (F0 m pc ls (.ref (ad k) :: rest)) := r_get hC hI (oP hk) (C := "EqualCourt$Partition") rfl inX4 3 (by decide) rfl hlink rfl hdg kk
theorem gX4_size {k : Nat} (hk : isP k) (hC : fC D 76 ad cy cz p s m args c cc nL own) (hI : fI D 76 ad (cfX ad cy cz) σ s H locs) {index : Nat} (hlink : Cond.fieldLink own index "EqualCourt$Partition" "size" "[I" ∈ TW) (hdg : decode cc pc = .ok (.getfield index, 3)) (kk : W p l e R s m args below meth c H locs 0 0 Q (F0 m (pc + 3) ls (.ref (ad (k + 3)) :: rest))) : W p l e R s m args below meth c H locs 0 0 Q (F0 m pc ls (.ref (ad k) :: rest)) := r_get hC hI (oP hk) (C := "EqualCourt$Partition") rfl inX4 4 (by decide) rfl hlink rfl hdg kk
theorem gX4_least {k : Nat} (hk : isP k) (hC : fC D 76 ad cy cz p s m args c cc nL own) (hI : fI D 76 ad (cfX ad cy cz) σ s H locs) {index : Nat} (hlink : Cond.fieldLink own index "EqualCourt$Partition" "least" "[I" ∈ TW) (hdg : decode cc pc = .ok (.getfield index, 3)) (kk : W p l e R s m args below meth c H locs 0 0 Q (F0 m (pc + 3) ls (.ref (ad (k + 4)) :: rest))) : W p l e R s m args below meth c H locs 0 0 Q (F0 m pc ls (.ref (ad k) :: rest)) := r_get hC hI (oP hk) (C := "EqualCourt$Partition") rfl inX4 5 (by decide) rfl hlink rfl hdg kk
theorem gX4_number {k : Nat} (hk : isP k) (hC : fC D 76 ad cy cz p s m args c cc nL own) (hI : fI D 76 ad (cfX ad cy cz) σ s H locs) {index : Nat} (hlink : Cond.fieldLink own index "EqualCourt$Partition" "number" "[I" ∈ TW) (hdg : decode cc pc = .ok (.getfield index, 3)) (kk : W p l e R s m args below meth c H locs 0 0 Q (F0 m (pc + 3) ls (.ref (ad (k + 5)) :: rest))) : W p l e R s m args below meth c H locs 0 0 Q (F0 m pc ls (.ref (ad k) :: rest)) := r_get hC hI (oP hk) (C := "EqualCourt$Partition") rfl inX4 6 (by decide) rfl hlink rfl hdg kk
theorem gX4_aRow {k : Nat} (hk : isP k) (hC : fC D 76 ad cy cz p s m args c cc nL own) (hI : fI D 76 ad (cfX ad cy cz) σ s H locs) {index : Nat} (hlink : Cond.fieldLink own index "EqualCourt$Partition" "aRow" "[I" ∈ TW) (hdg : decode cc pc = .ok (.getfield index, 3)) (kk : W p l e R s m args below meth c H locs 0 0 Q (F0 m (pc + 3) ls (.ref (ad (k + 6)) :: rest))) : W p l e R s m args below meth c H locs 0 0 Q (F0 m pc ls (.ref (ad k) :: rest)) := r_get hC hI (oP hk) (C := "EqualCourt$Partition") rfl inX4 7 (by decide) rfl hlink rfl hdg kk
theorem gX4_buckets {k : Nat} (hk : isP k) (hC : fC D 76 ad cy cz p s m args c cc nL own) (hI : fI D 76 ad (cfX ad cy cz) σ s H locs) {index : Nat} (hlink : Cond.fieldLink own index "EqualCourt$Partition" "buckets" "[I" ∈ TW) (hdg : decode cc pc = .ok (.getfield index, 3)) (kk : W p l e R s m args below meth c H locs 0 0 Q (F0 m (pc + 3) ls (.ref (ad (k + 7)) :: rest))) : W p l e R s m args below meth c H locs 0 0 Q (F0 m pc ls (.ref (ad k) :: rest)) := r_get hC hI (oP hk) (C := "EqualCourt$Partition") rfl inX4 8 (by decide) rfl hlink rfl hdg kk
theorem gX4_chain {k : Nat} (hk : isP k) (hC : fC D 76 ad cy cz p s m args c cc nL own) (hI : fI D 76 ad (cfX ad cy cz) σ s H locs) {index : Nat} (hlink : Cond.fieldLink own index "EqualCourt$Partition" "chain" "[I" ∈ TW) (hdg : decode cc pc = .ok (.getfield index, 3)) (kk : W p l e R s m args below meth c H locs 0 0 Q (F0 m (pc + 3) ls (.ref (ad (k + 8)) :: rest))) : W p l e R s m args below meth c H locs 0 0 Q (F0 m pc ls (.ref (ad k) :: rest)) := r_get hC hI (oP hk) (C := "EqualCourt$Partition") rfl inX4 9 (by decide) rfl hlink rfl hdg kk
theorem gX4_slot {k : Nat} (hk : isP k) (hC : fC D 76 ad cy cz p s m args c cc nL own) (hI : fI D 76 ad (cfX ad cy cz) σ s H locs) {index : Nat} (hlink : Cond.fieldLink own index "EqualCourt$Partition" "slot" "[I" ∈ TW) (hdg : decode cc pc = .ok (.getfield index, 3)) (kk : W p l e R s m args below meth c H locs 0 0 Q (F0 m (pc + 3) ls (.ref (ad (k + 9)) :: rest))) : W p l e R s m args below meth c H locs 0 0 Q (F0 m pc ls (.ref (ad k) :: rest)) := r_get hC hI (oP hk) (C := "EqualCourt$Partition") rfl inX4 10 (by decide) rfl hlink rfl hdg kk
theorem gX4_known {k : Nat} (hk : isP k) (hC : fC D 76 ad cy cz p s m args c cc nL own) (hI : fI D 76 ad (cfX ad cy cz) σ s H locs) {index : Nat} (hlink : Cond.fieldLink own index "EqualCourt$Partition" "known" "I" ∈ TW) (hdg : decode cc pc = .ok (.getfield index, 3)) (kk : W p l e R s m args below meth c H locs 0 0 Q (F0 m (pc + 3) ls (.int (σ k 11) :: rest))) : W p l e R s m args below meth c H locs 0 0 Q (F0 m pc ls (.ref (ad k) :: rest)) := r_get hC hI (oP hk) (C := "EqualCourt$Partition") rfl inX4 11 (by decide) rfl hlink rfl hdg kk
theorem pX4_known {k : Nat} (hk : isP k) (hC : fC D 76 ad cy cz p s m args c cc nL own) (hI : fI D 76 ad (cfX ad cy cz) σ s H locs) {index : Nat} (hlink : Cond.fieldLink own index "EqualCourt$Partition" "known" "I" ∈ TW) {x : Int32} (hdg : decode cc pc = .ok (.putfield index, 3)) (kk : ∀ (σ1 : fS) (H1 : Heap) (locs1 : List Loc), σ1 = wf σ k 11 x → fI D 76 ad (cfX ad cy cz) σ1 s H1 locs1 → W p l e R s m args below meth c H1 locs1 0 0 Q (F0 m (pc + 3) ls rest)) : W p l e R s m args below meth c H locs 0 0 Q (F0 m pc ls (.int x :: .ref (ad k) :: rest)) := r_put hC hI (oP hk) (C := "EqualCourt$Partition") rfl inX4 tyX4 tyX4_ok nmX4 11 (by decide) rfl rfl hlink rfl rfl (Nat.le_of_ble_eq_true rfl) rfl hdg kk
theorem gX4_classes {k : Nat} (hk : isP k) (hC : fC D 76 ad cy cz p s m args c cc nL own) (hI : fI D 76 ad (cfX ad cy cz) σ s H locs) {index : Nat} (hlink : Cond.fieldLink own index "EqualCourt$Partition" "classes" "I" ∈ TW) (hdg : decode cc pc = .ok (.getfield index, 3)) (kk : W p l e R s m args below meth c H locs 0 0 Q (F0 m (pc + 3) ls (.int (σ k 12) :: rest))) : W p l e R s m args below meth c H locs 0 0 Q (F0 m pc ls (.ref (ad k) :: rest)) := r_get hC hI (oP hk) (C := "EqualCourt$Partition") rfl inX4 12 (by decide) rfl hlink rfl hdg kk
theorem pX4_classes {k : Nat} (hk : isP k) (hC : fC D 76 ad cy cz p s m args c cc nL own) (hI : fI D 76 ad (cfX ad cy cz) σ s H locs) {index : Nat} (hlink : Cond.fieldLink own index "EqualCourt$Partition" "classes" "I" ∈ TW) {x : Int32} (hdg : decode cc pc = .ok (.putfield index, 3)) (kk : ∀ (σ1 : fS) (H1 : Heap) (locs1 : List Loc), σ1 = wf σ k 12 x → fI D 76 ad (cfX ad cy cz) σ1 s H1 locs1 → W p l e R s m args below meth c H1 locs1 0 0 Q (F0 m (pc + 3) ls rest)) : W p l e R s m args below meth c H locs 0 0 Q (F0 m pc ls (.int x :: .ref (ad k) :: rest)) := r_put hC hI (oP hk) (C := "EqualCourt$Partition") rfl inX4 tyX4 tyX4_ok nmX4 12 (by decide) rfl rfl hlink rfl rfl (Nat.le_of_ble_eq_true rfl) rfl hdg kk
theorem gX4_torn {k : Nat} (hk : isP k) (hC : fC D 76 ad cy cz p s m args c cc nL own) (hI : fI D 76 ad (cfX ad cy cz) σ s H locs) {index : Nat} (hlink : Cond.fieldLink own index "EqualCourt$Partition" "torn" "Z" ∈ TW) (hdg : decode cc pc = .ok (.getfield index, 3)) (kk : W p l e R s m args below meth c H locs 0 0 Q (F0 m (pc + 3) ls (.int (σ k 13) :: rest))) : W p l e R s m args below meth c H locs 0 0 Q (F0 m pc ls (.ref (ad k) :: rest)) := r_get hC hI (oP hk) (C := "EqualCourt$Partition") rfl inX4 13 (by decide) rfl hlink rfl hdg kk
theorem pX4_torn {k : Nat} (hk : isP k) (hC : fC D 76 ad cy cz p s m args c cc nL own) (hI : fI D 76 ad (cfX ad cy cz) σ s H locs) {index : Nat} (hlink : Cond.fieldLink own index "EqualCourt$Partition" "torn" "Z" ∈ TW) {x : Int32} (hx01 : isb x = true) (hdg : decode cc pc = .ok (.putfield index, 3)) (kk : ∀ (σ1 : fS) (H1 : Heap) (locs1 : List Loc), σ1 = wf σ k 13 x → fI D 76 ad (cfX ad cy cz) σ1 s H1 locs1 → W p l e R s m args below meth c H1 locs1 0 0 Q (F0 m (pc + 3) ls rest)) : W p l e R s m args below meth c H locs 0 0 Q (F0 m pc ls (.int x :: .ref (ad k) :: rest)) := r_put hC hI (oP hk) (C := "EqualCourt$Partition") rfl inX4 tyX4 tyX4_ok nmX4 13 (by decide) rfl rfl hlink (isb_nar hx01) (isb_fit hx01) (Nat.le_of_ble_eq_true rfl) rfl hdg kk
theorem gX5_same (hC : fC D 76 ad cy cz p s m args c cc nL own) (hI : fI D 76 ad (cfX ad cy cz) σ s H locs) {index : Nat} (hlink : Cond.fieldLink own index "EqualCourt$Sayings" "same" "[Z" ∈ TW) (hdg : decode cc pc = .ok (.getfield index, 3)) (kk : W p l e R s m args below meth c H locs 0 0 Q (F0 m (pc + 3) ls (.ref (ad 12) :: rest))) : W p l e R s m args below meth c H locs 0 0 Q (F0 m pc ls (.ref (ad 11) :: rest)) := r_get hC hI oX_11 (C := "EqualCourt$Sayings") rfl inX5 0 (by decide) rfl hlink rfl hdg kk
theorem gX5_lefts (hC : fC D 76 ad cy cz p s m args c cc nL own) (hI : fI D 76 ad (cfX ad cy cz) σ s H locs) {index : Nat} (hlink : Cond.fieldLink own index "EqualCourt$Sayings" "lefts" "[I" ∈ TW) (hdg : decode cc pc = .ok (.getfield index, 3)) (kk : W p l e R s m args below meth c H locs 0 0 Q (F0 m (pc + 3) ls (.ref (ad 13) :: rest))) : W p l e R s m args below meth c H locs 0 0 Q (F0 m pc ls (.ref (ad 11) :: rest)) := r_get hC hI oX_11 (C := "EqualCourt$Sayings") rfl inX5 1 (by decide) rfl hlink rfl hdg kk
theorem gX5_rights (hC : fC D 76 ad cy cz p s m args c cc nL own) (hI : fI D 76 ad (cfX ad cy cz) σ s H locs) {index : Nat} (hlink : Cond.fieldLink own index "EqualCourt$Sayings" "rights" "[I" ∈ TW) (hdg : decode cc pc = .ok (.getfield index, 3)) (kk : W p l e R s m args below meth c H locs 0 0 Q (F0 m (pc + 3) ls (.ref (ad 14) :: rest))) : W p l e R s m args below meth c H locs 0 0 Q (F0 m pc ls (.ref (ad 11) :: rest)) := r_get hC hI oX_11 (C := "EqualCourt$Sayings") rfl inX5 2 (by decide) rfl hlink rfl hdg kk
theorem gX5_taken (hC : fC D 76 ad cy cz p s m args c cc nL own) (hI : fI D 76 ad (cfX ad cy cz) σ s H locs) {index : Nat} (hlink : Cond.fieldLink own index "EqualCourt$Sayings" "taken" "[I" ∈ TW) (hdg : decode cc pc = .ok (.getfield index, 3)) (kk : W p l e R s m args below meth c H locs 0 0 Q (F0 m (pc + 3) ls (.ref (ad 15) :: rest))) : W p l e R s m args below meth c H locs 0 0 Q (F0 m pc ls (.ref (ad 11) :: rest)) := r_get hC hI oX_11 (C := "EqualCourt$Sayings") rfl inX5 3 (by decide) rfl hlink rfl hdg kk
theorem gX5_remembered (hC : fC D 76 ad cy cz p s m args c cc nL own) (hI : fI D 76 ad (cfX ad cy cz) σ s H locs) {index : Nat} (hlink : Cond.fieldLink own index "EqualCourt$Sayings" "remembered" "[I" ∈ TW) (hdg : decode cc pc = .ok (.getfield index, 3)) (kk : W p l e R s m args below meth c H locs 0 0 Q (F0 m (pc + 3) ls (.ref (ad 16) :: rest))) : W p l e R s m args below meth c H locs 0 0 Q (F0 m pc ls (.ref (ad 11) :: rest)) := r_get hC hI oX_11 (C := "EqualCourt$Sayings") rfl inX5 4 (by decide) rfl hlink rfl hdg kk
theorem gX5_count (hC : fC D 76 ad cy cz p s m args c cc nL own) (hI : fI D 76 ad (cfX ad cy cz) σ s H locs) {index : Nat} (hlink : Cond.fieldLink own index "EqualCourt$Sayings" "count" "I" ∈ TW) (hdg : decode cc pc = .ok (.getfield index, 3)) (kk : W p l e R s m args below meth c H locs 0 0 Q (F0 m (pc + 3) ls (.int (σ 11 5) :: rest))) : W p l e R s m args below meth c H locs 0 0 Q (F0 m pc ls (.ref (ad 11) :: rest)) := r_get hC hI oX_11 (C := "EqualCourt$Sayings") rfl inX5 5 (by decide) rfl hlink rfl hdg kk
theorem pX5_count (hC : fC D 76 ad cy cz p s m args c cc nL own) (hI : fI D 76 ad (cfX ad cy cz) σ s H locs) {index : Nat} (hlink : Cond.fieldLink own index "EqualCourt$Sayings" "count" "I" ∈ TW) {x : Int32} (hdg : decode cc pc = .ok (.putfield index, 3)) (kk : ∀ (σ1 : fS) (H1 : Heap) (locs1 : List Loc), σ1 = wf σ 11 5 x → fI D 76 ad (cfX ad cy cz) σ1 s H1 locs1 → W p l e R s m args below meth c H1 locs1 0 0 Q (F0 m (pc + 3) ls rest)) : W p l e R s m args below meth c H locs 0 0 Q (F0 m pc ls (.int x :: .ref (ad 11) :: rest)) := r_put hC hI oX_11 (C := "EqualCourt$Sayings") rfl inX5 tyX5 tyX5_ok nmX5 5 (by decide) rfl rfl hlink rfl rfl (Nat.le_of_ble_eq_true rfl) rfl hdg kk
theorem gX5_takenCount (hC : fC D 76 ad cy cz p s m args c cc nL own) (hI : fI D 76 ad (cfX ad cy cz) σ s H locs) {index : Nat} (hlink : Cond.fieldLink own index "EqualCourt$Sayings" "takenCount" "I" ∈ TW) (hdg : decode cc pc = .ok (.getfield index, 3)) (kk : W p l e R s m args below meth c H locs 0 0 Q (F0 m (pc + 3) ls (.int (σ 11 6) :: rest))) : W p l e R s m args below meth c H locs 0 0 Q (F0 m pc ls (.ref (ad 11) :: rest)) := r_get hC hI oX_11 (C := "EqualCourt$Sayings") rfl inX5 6 (by decide) rfl hlink rfl hdg kk
theorem pX5_takenCount (hC : fC D 76 ad cy cz p s m args c cc nL own) (hI : fI D 76 ad (cfX ad cy cz) σ s H locs) {index : Nat} (hlink : Cond.fieldLink own index "EqualCourt$Sayings" "takenCount" "I" ∈ TW) {x : Int32} (hdg : decode cc pc = .ok (.putfield index, 3)) (kk : ∀ (σ1 : fS) (H1 : Heap) (locs1 : List Loc), σ1 = wf σ 11 6 x → fI D 76 ad (cfX ad cy cz) σ1 s H1 locs1 → W p l e R s m args below meth c H1 locs1 0 0 Q (F0 m (pc + 3) ls rest)) : W p l e R s m args below meth c H locs 0 0 Q (F0 m pc ls (.int x :: .ref (ad 11) :: rest)) := r_put hC hI oX_11 (C := "EqualCourt$Sayings") rfl inX5 tyX5 tyX5_ok nmX5 6 (by decide) rfl rfl hlink rfl rfl (Nat.le_of_ble_eq_true rfl) rfl hdg kk
theorem gX5_levels (hC : fC D 76 ad cy cz p s m args c cc nL own) (hI : fI D 76 ad (cfX ad cy cz) σ s H locs) {index : Nat} (hlink : Cond.fieldLink own index "EqualCourt$Sayings" "levels" "I" ∈ TW) (hdg : decode cc pc = .ok (.getfield index, 3)) (kk : W p l e R s m args below meth c H locs 0 0 Q (F0 m (pc + 3) ls (.int (σ 11 7) :: rest))) : W p l e R s m args below meth c H locs 0 0 Q (F0 m pc ls (.ref (ad 11) :: rest)) := r_get hC hI oX_11 (C := "EqualCourt$Sayings") rfl inX5 7 (by decide) rfl hlink rfl hdg kk
theorem pX5_levels (hC : fC D 76 ad cy cz p s m args c cc nL own) (hI : fI D 76 ad (cfX ad cy cz) σ s H locs) {index : Nat} (hlink : Cond.fieldLink own index "EqualCourt$Sayings" "levels" "I" ∈ TW) {x : Int32} (hdg : decode cc pc = .ok (.putfield index, 3)) (kk : ∀ (σ1 : fS) (H1 : Heap) (locs1 : List Loc), σ1 = wf σ 11 7 x → fI D 76 ad (cfX ad cy cz) σ1 s H1 locs1 → W p l e R s m args below meth c H1 locs1 0 0 Q (F0 m (pc + 3) ls rest)) : W p l e R s m args below meth c H locs 0 0 Q (F0 m pc ls (.int x :: .ref (ad 11) :: rest)) := r_put hC hI oX_11 (C := "EqualCourt$Sayings") rfl inX5 tyX5 tyX5_ok nmX5 7 (by decide) rfl rfl hlink rfl rfl (Nat.le_of_ble_eq_true rfl) rfl hdg kk
theorem gX6_terms (hC : fC D 76 ad cy cz p s m args c cc nL own) (hI : fI D 76 ad (cfX ad cy cz) σ s H locs) {index : Nat} (hlink : Cond.fieldLink own index "EqualCourt$Steps" "terms" "LEqualCourt$Terms;" ∈ TW) (hdg : decode cc pc = .ok (.getfield index, 3)) (kk : W p l e R s m args below meth c H locs 0 0 Q (F0 m (pc + 3) ls (.ref (ad 1) :: rest))) : W p l e R s m args below meth c H locs 0 0 Q (F0 m pc ls (.ref (ad 63) :: rest)) := r_get hC hI oX_63 (C := "EqualCourt$Steps") rfl inX6 0 (by decide) rfl hlink rfl hdg kk
theorem gX6_sayings (hC : fC D 76 ad cy cz p s m args c cc nL own) (hI : fI D 76 ad (cfX ad cy cz) σ s H locs) {index : Nat} (hlink : Cond.fieldLink own index "EqualCourt$Steps" "sayings" "LEqualCourt$Sayings;" ∈ TW) (hdg : decode cc pc = .ok (.getfield index, 3)) (kk : W p l e R s m args below meth c H locs 0 0 Q (F0 m (pc + 3) ls (.ref (ad 11) :: rest))) : W p l e R s m args below meth c H locs 0 0 Q (F0 m pc ls (.ref (ad 63) :: rest)) := r_get hC hI oX_63 (C := "EqualCourt$Steps") rfl inX6 1 (by decide) rfl hlink rfl hdg kk
theorem gX6_reasons (hC : fC D 76 ad cy cz p s m args c cc nL own) (hI : fI D 76 ad (cfX ad cy cz) σ s H locs) {index : Nat} (hlink : Cond.fieldLink own index "EqualCourt$Steps" "reasons" "[I" ∈ TW) (hdg : decode cc pc = .ok (.getfield index, 3)) (kk : W p l e R s m args below meth c H locs 0 0 Q (F0 m (pc + 3) ls (.ref (ad 64) :: rest))) : W p l e R s m args below meth c H locs 0 0 Q (F0 m pc ls (.ref (ad 63) :: rest)) := r_get hC hI oX_63 (C := "EqualCourt$Steps") rfl inX6 2 (by decide) rfl hlink rfl hdg kk
theorem gX6_lefts (hC : fC D 76 ad cy cz p s m args c cc nL own) (hI : fI D 76 ad (cfX ad cy cz) σ s H locs) {index : Nat} (hlink : Cond.fieldLink own index "EqualCourt$Steps" "lefts" "[I" ∈ TW) (hdg : decode cc pc = .ok (.getfield index, 3)) (kk : W p l e R s m args below meth c H locs 0 0 Q (F0 m (pc + 3) ls (.ref (ad 65) :: rest))) : W p l e R s m args below meth c H locs 0 0 Q (F0 m pc ls (.ref (ad 63) :: rest)) := r_get hC hI oX_63 (C := "EqualCourt$Steps") rfl inX6 3 (by decide) rfl hlink rfl hdg kk
theorem gX6_rights (hC : fC D 76 ad cy cz p s m args c cc nL own) (hI : fI D 76 ad (cfX ad cy cz) σ s H locs) {index : Nat} (hlink : Cond.fieldLink own index "EqualCourt$Steps" "rights" "[I" ∈ TW) (hdg : decode cc pc = .ok (.getfield index, 3)) (kk : W p l e R s m args below meth c H locs 0 0 Q (F0 m (pc + 3) ls (.ref (ad 66) :: rest))) : W p l e R s m args below meth c H locs 0 0 Q (F0 m pc ls (.ref (ad 63) :: rest)) := r_get hC hI oX_63 (C := "EqualCourt$Steps") rfl inX6 4 (by decide) rfl hlink rfl hdg kk
theorem gX6_is (hC : fC D 76 ad cy cz p s m args c cc nL own) (hI : fI D 76 ad (cfX ad cy cz) σ s H locs) {index : Nat} (hlink : Cond.fieldLink own index "EqualCourt$Steps" "is" "[I" ∈ TW) (hdg : decode cc pc = .ok (.getfield index, 3)) (kk : W p l e R s m args below meth c H locs 0 0 Q (F0 m (pc + 3) ls (.ref (ad 67) :: rest))) : W p l e R s m args below meth c H locs 0 0 Q (F0 m pc ls (.ref (ad 63) :: rest)) := r_get hC hI oX_63 (C := "EqualCourt$Steps") rfl inX6 5 (by decide) rfl hlink rfl hdg kk
theorem gX6_js (hC : fC D 76 ad cy cz p s m args c cc nL own) (hI : fI D 76 ad (cfX ad cy cz) σ s H locs) {index : Nat} (hlink : Cond.fieldLink own index "EqualCourt$Steps" "js" "[I" ∈ TW) (hdg : decode cc pc = .ok (.getfield index, 3)) (kk : W p l e R s m args below meth c H locs 0 0 Q (F0 m (pc + 3) ls (.ref (ad 68) :: rest))) : W p l e R s m args below meth c H locs 0 0 Q (F0 m pc ls (.ref (ad 63) :: rest)) := r_get hC hI oX_63 (C := "EqualCourt$Steps") rfl inX6 6 (by decide) rfl hlink rfl hdg kk
theorem gX6_count (hC : fC D 76 ad cy cz p s m args c cc nL own) (hI : fI D 76 ad (cfX ad cy cz) σ s H locs) {index : Nat} (hlink : Cond.fieldLink own index "EqualCourt$Steps" "count" "I" ∈ TW) (hdg : decode cc pc = .ok (.getfield index, 3)) (kk : W p l e R s m args below meth c H locs 0 0 Q (F0 m (pc + 3) ls (.int (σ 63 7) :: rest))) : W p l e R s m args below meth c H locs 0 0 Q (F0 m pc ls (.ref (ad 63) :: rest)) := r_get hC hI oX_63 (C := "EqualCourt$Steps") rfl inX6 7 (by decide) rfl hlink rfl hdg kk
theorem pX6_count (hC : fC D 76 ad cy cz p s m args c cc nL own) (hI : fI D 76 ad (cfX ad cy cz) σ s H locs) {index : Nat} (hlink : Cond.fieldLink own index "EqualCourt$Steps" "count" "I" ∈ TW) {x : Int32} (hdg : decode cc pc = .ok (.putfield index, 3)) (kk : ∀ (σ1 : fS) (H1 : Heap) (locs1 : List Loc), σ1 = wf σ 63 7 x → fI D 76 ad (cfX ad cy cz) σ1 s H1 locs1 → W p l e R s m args below meth c H1 locs1 0 0 Q (F0 m (pc + 3) ls rest)) : W p l e R s m args below meth c H locs 0 0 Q (F0 m pc ls (.int x :: .ref (ad 63) :: rest)) := r_put hC hI oX_63 (C := "EqualCourt$Steps") rfl inX6 tyX6 tyX6_ok nmX6 7 (by decide) rfl rfl hlink rfl rfl (Nat.le_of_ble_eq_true rfl) rfl hdg kk
theorem gX7_kinds (hC : fC D 76 ad cy cz p s m args c cc nL own) (hI : fI D 76 ad (cfX ad cy cz) σ s H locs) {index : Nat} (hlink : Cond.fieldLink own index "EqualCourt$Terms" "kinds" "[I" ∈ TW) (hdg : decode cc pc = .ok (.getfield index, 3)) (kk : W p l e R s m args below meth c H locs 0 0 Q (F0 m (pc + 3) ls (.ref (ad 2) :: rest))) : W p l e R s m args below meth c H locs 0 0 Q (F0 m pc ls (.ref (ad 1) :: rest)) := r_get hC hI oX_1 (C := "EqualCourt$Terms") rfl inX7 0 (by decide) rfl hlink rfl hdg kk
theorem gX7_kinds_N (hC : fC D 76 ad cy cz p s m args c cc nL own) (hI : fI D 76 ad (cfX ad cy cz) σ s H locs) {index : Nat} (hlink : Cond.fieldLinkNest own index "EqualCourt$Terms" "kinds" "[I" "EqualCourt" ∈ nwL) (hdg : decode cc pc = .ok (.getfield index, 3)) (kk : W p l e R s m args below meth c H locs 0 0 Q (F0 m (pc + 3) ls (.ref (ad 2) :: rest))) : W p l e R s m args below meth c H locs 0 0 Q (F0 m pc ls (.ref (ad 1) :: rest)) := r_getN hC hI oX_1 (C := "EqualCourt$Terms") rfl inX7 0 (by decide) rfl hlink rfl hdg kk
theorem gX7_shown (hC : fC D 76 ad cy cz p s m args c cc nL own) (hI : fI D 76 ad (cfX ad cy cz) σ s H locs) {index : Nat} (hlink : Cond.fieldLink own index "EqualCourt$Terms" "shown" "[I" ∈ TW) (hdg : decode cc pc = .ok (.getfield index, 3)) (kk : W p l e R s m args below meth c H locs 0 0 Q (F0 m (pc + 3) ls (.ref (ad 3) :: rest))) : W p l e R s m args below meth c H locs 0 0 Q (F0 m pc ls (.ref (ad 1) :: rest)) := r_get hC hI oX_1 (C := "EqualCourt$Terms") rfl inX7 1 (by decide) rfl hlink rfl hdg kk
theorem gX7_shown_N (hC : fC D 76 ad cy cz p s m args c cc nL own) (hI : fI D 76 ad (cfX ad cy cz) σ s H locs) {index : Nat} (hlink : Cond.fieldLinkNest own index "EqualCourt$Terms" "shown" "[I" "EqualCourt" ∈ nwL) (hdg : decode cc pc = .ok (.getfield index, 3)) (kk : W p l e R s m args below meth c H locs 0 0 Q (F0 m (pc + 3) ls (.ref (ad 3) :: rest))) : W p l e R s m args below meth c H locs 0 0 Q (F0 m pc ls (.ref (ad 1) :: rest)) := r_getN hC hI oX_1 (C := "EqualCourt$Terms") rfl inX7 1 (by decide) rfl hlink rfl hdg kk
theorem gX7_sizes (hC : fC D 76 ad cy cz p s m args c cc nL own) (hI : fI D 76 ad (cfX ad cy cz) σ s H locs) {index : Nat} (hlink : Cond.fieldLink own index "EqualCourt$Terms" "sizes" "[I" ∈ TW) (hdg : decode cc pc = .ok (.getfield index, 3)) (kk : W p l e R s m args below meth c H locs 0 0 Q (F0 m (pc + 3) ls (.ref (ad 4) :: rest))) : W p l e R s m args below meth c H locs 0 0 Q (F0 m pc ls (.ref (ad 1) :: rest)) := r_get hC hI oX_1 (C := "EqualCourt$Terms") rfl inX7 2 (by decide) rfl hlink rfl hdg kk
theorem gX7_sizes_N (hC : fC D 76 ad cy cz p s m args c cc nL own) (hI : fI D 76 ad (cfX ad cy cz) σ s H locs) {index : Nat} (hlink : Cond.fieldLinkNest own index "EqualCourt$Terms" "sizes" "[I" "EqualCourt" ∈ nwL) (hdg : decode cc pc = .ok (.getfield index, 3)) (kk : W p l e R s m args below meth c H locs 0 0 Q (F0 m (pc + 3) ls (.ref (ad 4) :: rest))) : W p l e R s m args below meth c H locs 0 0 Q (F0 m pc ls (.ref (ad 1) :: rest)) := r_getN hC hI oX_1 (C := "EqualCourt$Terms") rfl inX7 2 (by decide) rfl hlink rfl hdg kk
theorem gX7_parts (hC : fC D 76 ad cy cz p s m args c cc nL own) (hI : fI D 76 ad (cfX ad cy cz) σ s H locs) {index : Nat} (hlink : Cond.fieldLink own index "EqualCourt$Terms" "parts" "[I" ∈ TW) (hdg : decode cc pc = .ok (.getfield index, 3)) (kk : W p l e R s m args below meth c H locs 0 0 Q (F0 m (pc + 3) ls (.ref (ad 5) :: rest))) : W p l e R s m args below meth c H locs 0 0 Q (F0 m pc ls (.ref (ad 1) :: rest)) := r_get hC hI oX_1 (C := "EqualCourt$Terms") rfl inX7 3 (by decide) rfl hlink rfl hdg kk
theorem gX7_parts_N (hC : fC D 76 ad cy cz p s m args c cc nL own) (hI : fI D 76 ad (cfX ad cy cz) σ s H locs) {index : Nat} (hlink : Cond.fieldLinkNest own index "EqualCourt$Terms" "parts" "[I" "EqualCourt" ∈ nwL) (hdg : decode cc pc = .ok (.getfield index, 3)) (kk : W p l e R s m args below meth c H locs 0 0 Q (F0 m (pc + 3) ls (.ref (ad 5) :: rest))) : W p l e R s m args below meth c H locs 0 0 Q (F0 m pc ls (.ref (ad 1) :: rest)) := r_getN hC hI oX_1 (C := "EqualCourt$Terms") rfl inX7 3 (by decide) rfl hlink rfl hdg kk
theorem gX7_holes (hC : fC D 76 ad cy cz p s m args c cc nL own) (hI : fI D 76 ad (cfX ad cy cz) σ s H locs) {index : Nat} (hlink : Cond.fieldLink own index "EqualCourt$Terms" "holes" "[I" ∈ TW) (hdg : decode cc pc = .ok (.getfield index, 3)) (kk : W p l e R s m args below meth c H locs 0 0 Q (F0 m (pc + 3) ls (.ref (ad 6) :: rest))) : W p l e R s m args below meth c H locs 0 0 Q (F0 m pc ls (.ref (ad 1) :: rest)) := r_get hC hI oX_1 (C := "EqualCourt$Terms") rfl inX7 4 (by decide) rfl hlink rfl hdg kk
theorem gX7_buckets (hC : fC D 76 ad cy cz p s m args c cc nL own) (hI : fI D 76 ad (cfX ad cy cz) σ s H locs) {index : Nat} (hlink : Cond.fieldLink own index "EqualCourt$Terms" "buckets" "[I" ∈ TW) (hdg : decode cc pc = .ok (.getfield index, 3)) (kk : W p l e R s m args below meth c H locs 0 0 Q (F0 m (pc + 3) ls (.ref (ad 7) :: rest))) : W p l e R s m args below meth c H locs 0 0 Q (F0 m pc ls (.ref (ad 1) :: rest)) := r_get hC hI oX_1 (C := "EqualCourt$Terms") rfl inX7 5 (by decide) rfl hlink rfl hdg kk
theorem gX7_chain (hC : fC D 76 ad cy cz p s m args c cc nL own) (hI : fI D 76 ad (cfX ad cy cz) σ s H locs) {index : Nat} (hlink : Cond.fieldLink own index "EqualCourt$Terms" "chain" "[I" ∈ TW) (hdg : decode cc pc = .ok (.getfield index, 3)) (kk : W p l e R s m args below meth c H locs 0 0 Q (F0 m (pc + 3) ls (.ref (ad 8) :: rest))) : W p l e R s m args below meth c H locs 0 0 Q (F0 m pc ls (.ref (ad 1) :: rest)) := r_get hC hI oX_1 (C := "EqualCourt$Terms") rfl inX7 6 (by decide) rfl hlink rfl hdg kk
theorem gX7_firstPlace (hC : fC D 76 ad cy cz p s m args c cc nL own) (hI : fI D 76 ad (cfX ad cy cz) σ s H locs) {index : Nat} (hlink : Cond.fieldLink own index "EqualCourt$Terms" "firstPlace" "[I" ∈ TW) (hdg : decode cc pc = .ok (.getfield index, 3)) (kk : W p l e R s m args below meth c H locs 0 0 Q (F0 m (pc + 3) ls (.ref (ad 9) :: rest))) : W p l e R s m args below meth c H locs 0 0 Q (F0 m pc ls (.ref (ad 1) :: rest)) := r_get hC hI oX_1 (C := "EqualCourt$Terms") rfl inX7 7 (by decide) rfl hlink rfl hdg kk
theorem gX7_firstPlace_N (hC : fC D 76 ad cy cz p s m args c cc nL own) (hI : fI D 76 ad (cfX ad cy cz) σ s H locs) {index : Nat} (hlink : Cond.fieldLinkNest own index "EqualCourt$Terms" "firstPlace" "[I" "EqualCourt" ∈ nwL) (hdg : decode cc pc = .ok (.getfield index, 3)) (kk : W p l e R s m args below meth c H locs 0 0 Q (F0 m (pc + 3) ls (.ref (ad 9) :: rest))) : W p l e R s m args below meth c H locs 0 0 Q (F0 m pc ls (.ref (ad 1) :: rest)) := r_getN hC hI oX_1 (C := "EqualCourt$Terms") rfl inX7 7 (by decide) rfl hlink rfl hdg kk
theorem gX7_nextPlace (hC : fC D 76 ad cy cz p s m args c cc nL own) (hI : fI D 76 ad (cfX ad cy cz) σ s H locs) {index : Nat} (hlink : Cond.fieldLink own index "EqualCourt$Terms" "nextPlace" "[I" ∈ TW) (hdg : decode cc pc = .ok (.getfield index, 3)) (kk : W p l e R s m args below meth c H locs 0 0 Q (F0 m (pc + 3) ls (.ref (ad 10) :: rest))) : W p l e R s m args below meth c H locs 0 0 Q (F0 m pc ls (.ref (ad 1) :: rest)) := r_get hC hI oX_1 (C := "EqualCourt$Terms") rfl inX7 8 (by decide) rfl hlink rfl hdg kk
theorem gX7_nextPlace_N (hC : fC D 76 ad cy cz p s m args c cc nL own) (hI : fI D 76 ad (cfX ad cy cz) σ s H locs) {index : Nat} (hlink : Cond.fieldLinkNest own index "EqualCourt$Terms" "nextPlace" "[I" "EqualCourt" ∈ nwL) (hdg : decode cc pc = .ok (.getfield index, 3)) (kk : W p l e R s m args below meth c H locs 0 0 Q (F0 m (pc + 3) ls (.ref (ad 10) :: rest))) : W p l e R s m args below meth c H locs 0 0 Q (F0 m pc ls (.ref (ad 1) :: rest)) := r_getN hC hI oX_1 (C := "EqualCourt$Terms") rfl inX7 8 (by decide) rfl hlink rfl hdg kk
theorem gX7_count (hC : fC D 76 ad cy cz p s m args c cc nL own) (hI : fI D 76 ad (cfX ad cy cz) σ s H locs) {index : Nat} (hlink : Cond.fieldLink own index "EqualCourt$Terms" "count" "I" ∈ TW) (hdg : decode cc pc = .ok (.getfield index, 3)) (kk : W p l e R s m args below meth c H locs 0 0 Q (F0 m (pc + 3) ls (.int (σ 1 9) :: rest))) : W p l e R s m args below meth c H locs 0 0 Q (F0 m pc ls (.ref (ad 1) :: rest)) := r_get hC hI oX_1 (C := "EqualCourt$Terms") rfl inX7 9 (by decide) rfl hlink rfl hdg kk
theorem pX7_count (hC : fC D 76 ad cy cz p s m args c cc nL own) (hI : fI D 76 ad (cfX ad cy cz) σ s H locs) {index : Nat} (hlink : Cond.fieldLink own index "EqualCourt$Terms" "count" "I" ∈ TW) {x : Int32} (hdg : decode cc pc = .ok (.putfield index, 3)) (kk : ∀ (σ1 : fS) (H1 : Heap) (locs1 : List Loc), σ1 = wf σ 1 9 x → fI D 76 ad (cfX ad cy cz) σ1 s H1 locs1 → W p l e R s m args below meth c H1 locs1 0 0 Q (F0 m (pc + 3) ls rest)) : W p l e R s m args below meth c H locs 0 0 Q (F0 m pc ls (.int x :: .ref (ad 1) :: rest)) := r_put hC hI oX_1 (C := "EqualCourt$Terms") rfl inX7 tyX7 tyX7_ok nmX7 9 (by decide) rfl rfl hlink rfl rfl (Nat.le_of_ble_eq_true rfl) rfl hdg kk
theorem gX8_terms (hC : fC D 76 ad cy cz p s m args c cc nL own) (hI : fI D 76 ad (cfX ad cy cz) σ s H locs) {index : Nat} (hlink : Cond.fieldLink own index "EqualCourt" "terms" "LEqualCourt$Terms;" ∈ TW) (hdg : decode cc pc = .ok (.getfield index, 3)) (kk : W p l e R s m args below meth c H locs 0 0 Q (F0 m (pc + 3) ls (.ref (ad 1) :: rest))) : W p l e R s m args below meth c H locs 0 0 Q (F0 m pc ls (.ref (ad 0) :: rest)) := r_get hC hI oX_0 (C := "EqualCourt") rfl inX8 0 (by decide) rfl hlink rfl hdg kk
theorem gX8_sayings (hC : fC D 76 ad cy cz p s m args c cc nL own) (hI : fI D 76 ad (cfX ad cy cz) σ s H locs) {index : Nat} (hlink : Cond.fieldLink own index "EqualCourt" "sayings" "LEqualCourt$Sayings;" ∈ TW) (hdg : decode cc pc = .ok (.getfield index, 3)) (kk : W p l e R s m args below meth c H locs 0 0 Q (F0 m (pc + 3) ls (.ref (ad 11) :: rest))) : W p l e R s m args below meth c H locs 0 0 Q (F0 m pc ls (.ref (ad 0) :: rest)) := r_get hC hI oX_0 (C := "EqualCourt") rfl inX8 1 (by decide) rfl hlink rfl hdg kk
theorem gX8_court (hC : fC D 76 ad cy cz p s m args c cc nL own) (hI : fI D 76 ad (cfX ad cy cz) σ s H locs) {index : Nat} (hlink : Cond.fieldLink own index "EqualCourt" "court" "LEqualCourt$Court;" ∈ TW) (hdg : decode cc pc = .ok (.getfield index, 3)) (kk : W p l e R s m args below meth c H locs 0 0 Q (F0 m (pc + 3) ls (.ref (ad 17) :: rest))) : W p l e R s m args below meth c H locs 0 0 Q (F0 m pc ls (.ref (ad 0) :: rest)) := r_get hC hI oX_0 (C := "EqualCourt") rfl inX8 2 (by decide) rfl hlink rfl hdg kk
theorem gX8_maker (hC : fC D 76 ad cy cz p s m args c cc nL own) (hI : fI D 76 ad (cfX ad cy cz) σ s H locs) {index : Nat} (hlink : Cond.fieldLink own index "EqualCourt" "maker" "LEqualCourt$Maker;" ∈ TW) (hdg : decode cc pc = .ok (.getfield index, 3)) (kk : W p l e R s m args below meth c H locs 0 0 Q (F0 m (pc + 3) ls (.ref (ad 58) :: rest))) : W p l e R s m args below meth c H locs 0 0 Q (F0 m pc ls (.ref (ad 0) :: rest)) := r_get hC hI oX_0 (C := "EqualCourt") rfl inX8 3 (by decide) rfl hlink rfl hdg kk
theorem gX8_steps (hC : fC D 76 ad cy cz p s m args c cc nL own) (hI : fI D 76 ad (cfX ad cy cz) σ s H locs) {index : Nat} (hlink : Cond.fieldLink own index "EqualCourt" "steps" "LEqualCourt$Steps;" ∈ TW) (hdg : decode cc pc = .ok (.getfield index, 3)) (kk : W p l e R s m args below meth c H locs 0 0 Q (F0 m (pc + 3) ls (.ref (ad 63) :: rest))) : W p l e R s m args below meth c H locs 0 0 Q (F0 m pc ls (.ref (ad 0) :: rest)) := r_get hC hI oX_0 (C := "EqualCourt") rfl inX8 4 (by decide) rfl hlink rfl hdg kk
theorem gX8_clashCore (hC : fC D 76 ad cy cz p s m args c cc nL own) (hI : fI D 76 ad (cfX ad cy cz) σ s H locs) {index : Nat} (hlink : Cond.fieldLink own index "EqualCourt" "clashCore" "LEqualCourt$Core;" ∈ TW) (hdg : decode cc pc = .ok (.getfield index, 3)) (kk : W p l e R s m args below meth c H locs 0 0 Q (F0 m (pc + 3) ls (.ref (ad 69) :: rest))) : W p l e R s m args below meth c H locs 0 0 Q (F0 m pc ls (.ref (ad 0) :: rest)) := r_get hC hI oX_0 (C := "EqualCourt") rfl inX8 5 (by decide) rfl hlink rfl hdg kk
theorem gX8_causes (hC : fC D 76 ad cy cz p s m args c cc nL own) (hI : fI D 76 ad (cfX ad cy cz) σ s H locs) {index : Nat} (hlink : Cond.fieldLink own index "EqualCourt" "causes" "LEqualCourt$Core;" ∈ TW) (hdg : decode cc pc = .ok (.getfield index, 3)) (kk : W p l e R s m args below meth c H locs 0 0 Q (F0 m (pc + 3) ls (.ref (ad 71) :: rest))) : W p l e R s m args below meth c H locs 0 0 Q (F0 m pc ls (.ref (ad 0) :: rest)) := r_get hC hI oX_0 (C := "EqualCourt") rfl inX8 6 (by decide) rfl hlink rfl hdg kk
theorem gX8_lawLefts (hC : fC D 76 ad cy cz p s m args c cc nL own) (hI : fI D 76 ad (cfX ad cy cz) σ s H locs) {index : Nat} (hlink : Cond.fieldLink own index "EqualCourt" "lawLefts" "[I" ∈ TW) (hdg : decode cc pc = .ok (.getfield index, 3)) (kk : W p l e R s m args below meth c H locs 0 0 Q (F0 m (pc + 3) ls (.ref (ad 73) :: rest))) : W p l e R s m args below meth c H locs 0 0 Q (F0 m pc ls (.ref (ad 0) :: rest)) := r_get hC hI oX_0 (C := "EqualCourt") rfl inX8 7 (by decide) rfl hlink rfl hdg kk
theorem gX8_lawRights (hC : fC D 76 ad cy cz p s m args c cc nL own) (hI : fI D 76 ad (cfX ad cy cz) σ s H locs) {index : Nat} (hlink : Cond.fieldLink own index "EqualCourt" "lawRights" "[I" ∈ TW) (hdg : decode cc pc = .ok (.getfield index, 3)) (kk : W p l e R s m args below meth c H locs 0 0 Q (F0 m (pc + 3) ls (.ref (ad 74) :: rest))) : W p l e R s m args below meth c H locs 0 0 Q (F0 m pc ls (.ref (ad 0) :: rest)) := r_get hC hI oX_0 (C := "EqualCourt") rfl inX8 8 (by decide) rfl hlink rfl hdg kk
theorem gX8_goneOver (hC : fC D 76 ad cy cz p s m args c cc nL own) (hI : fI D 76 ad (cfX ad cy cz) σ s H locs) {index : Nat} (hlink : Cond.fieldLink own index "EqualCourt" "goneOver" "[I" ∈ TW) (hdg : decode cc pc = .ok (.getfield index, 3)) (kk : W p l e R s m args below meth c H locs 0 0 Q (F0 m (pc + 3) ls (.ref (ad 75) :: rest))) : W p l e R s m args below meth c H locs 0 0 Q (F0 m pc ls (.ref (ad 0) :: rest)) := r_get hC hI oX_0 (C := "EqualCourt") rfl inX8 9 (by decide) rfl hlink rfl hdg kk
theorem gX8_lawCount (hC : fC D 76 ad cy cz p s m args c cc nL own) (hI : fI D 76 ad (cfX ad cy cz) σ s H locs) {index : Nat} (hlink : Cond.fieldLink own index "EqualCourt" "lawCount" "I" ∈ TW) (hdg : decode cc pc = .ok (.getfield index, 3)) (kk : W p l e R s m args below meth c H locs 0 0 Q (F0 m (pc + 3) ls (.int (σ 0 10) :: rest))) : W p l e R s m args below meth c H locs 0 0 Q (F0 m pc ls (.ref (ad 0) :: rest)) := r_get hC hI oX_0 (C := "EqualCourt") rfl inX8 10 (by decide) rfl hlink rfl hdg kk
theorem pX8_lawCount (hC : fC D 76 ad cy cz p s m args c cc nL own) (hI : fI D 76 ad (cfX ad cy cz) σ s H locs) {index : Nat} (hlink : Cond.fieldLink own index "EqualCourt" "lawCount" "I" ∈ TW) {x : Int32} (hdg : decode cc pc = .ok (.putfield index, 3)) (kk : ∀ (σ1 : fS) (H1 : Heap) (locs1 : List Loc), σ1 = wf σ 0 10 x → fI D 76 ad (cfX ad cy cz) σ1 s H1 locs1 → W p l e R s m args below meth c H1 locs1 0 0 Q (F0 m (pc + 3) ls rest)) : W p l e R s m args below meth c H locs 0 0 Q (F0 m pc ls (.int x :: .ref (ad 0) :: rest)) := r_put hC hI oX_0 (C := "EqualCourt") rfl inX8 tyX8 tyX8_ok nmX8 10 (by decide) rfl rfl hlink rfl rfl (Nat.le_of_ble_eq_true rfl) rfl hdg kk
theorem gX8_endedBy (hC : fC D 76 ad cy cz p s m args c cc nL own) (hI : fI D 76 ad (cfX ad cy cz) σ s H locs) {index : Nat} (hlink : Cond.fieldLink own index "EqualCourt" "endedBy" "I" ∈ TW) (hdg : decode cc pc = .ok (.getfield index, 3)) (kk : W p l e R s m args below meth c H locs 0 0 Q (F0 m (pc + 3) ls (.int (σ 0 11) :: rest))) : W p l e R s m args below meth c H locs 0 0 Q (F0 m pc ls (.ref (ad 0) :: rest)) := r_get hC hI oX_0 (C := "EqualCourt") rfl inX8 11 (by decide) rfl hlink rfl hdg kk
theorem pX8_endedBy (hC : fC D 76 ad cy cz p s m args c cc nL own) (hI : fI D 76 ad (cfX ad cy cz) σ s H locs) {index : Nat} (hlink : Cond.fieldLink own index "EqualCourt" "endedBy" "I" ∈ TW) {x : Int32} (hdg : decode cc pc = .ok (.putfield index, 3)) (kk : ∀ (σ1 : fS) (H1 : Heap) (locs1 : List Loc), σ1 = wf σ 0 11 x → fI D 76 ad (cfX ad cy cz) σ1 s H1 locs1 → W p l e R s m args below meth c H1 locs1 0 0 Q (F0 m (pc + 3) ls rest)) : W p l e R s m args below meth c H locs 0 0 Q (F0 m pc ls (.int x :: .ref (ad 0) :: rest)) := r_put hC hI oX_0 (C := "EqualCourt") rfl inX8 tyX8 tyX8_ok nmX8 11 (by decide) rfl rfl hlink rfl rfl (Nat.le_of_ble_eq_true rfl) rfl hdg kk
theorem gX8_finding (hC : fC D 76 ad cy cz p s m args c cc nL own) (hI : fI D 76 ad (cfX ad cy cz) σ s H locs) {index : Nat} (hlink : Cond.fieldLink own index "EqualCourt" "finding" "I" ∈ TW) (hdg : decode cc pc = .ok (.getfield index, 3)) (kk : W p l e R s m args below meth c H locs 0 0 Q (F0 m (pc + 3) ls (.int (σ 0 12) :: rest))) : W p l e R s m args below meth c H locs 0 0 Q (F0 m pc ls (.ref (ad 0) :: rest)) := r_get hC hI oX_0 (C := "EqualCourt") rfl inX8 12 (by decide) rfl hlink rfl hdg kk
theorem pX8_finding (hC : fC D 76 ad cy cz p s m args c cc nL own) (hI : fI D 76 ad (cfX ad cy cz) σ s H locs) {index : Nat} (hlink : Cond.fieldLink own index "EqualCourt" "finding" "I" ∈ TW) {x : Int32} (hdg : decode cc pc = .ok (.putfield index, 3)) (kk : ∀ (σ1 : fS) (H1 : Heap) (locs1 : List Loc), σ1 = wf σ 0 12 x → fI D 76 ad (cfX ad cy cz) σ1 s H1 locs1 → W p l e R s m args below meth c H1 locs1 0 0 Q (F0 m (pc + 3) ls rest)) : W p l e R s m args below meth c H locs 0 0 Q (F0 m pc ls (.int x :: .ref (ad 0) :: rest)) := r_put hC hI oX_0 (C := "EqualCourt") rfl inX8 tyX8 tyX8_ok nmX8 12 (by decide) rfl rfl hlink rfl rfl (Nat.le_of_ble_eq_true rfl) rfl hdg kk
theorem gX9_kindOf (hC : fC D 31 ad cy cz p s m args c cc nL own) (hI : fI D 31 ad (cfM ad cy cz) σ s H locs) {index : Nat} (hlink : Cond.fieldLink own index "EqualCourtModel" "kindOf" "[I" ∈ TW) (hdg : decode cc pc = .ok (.getfield index, 3)) (kk : W p l e R s m args below meth c H locs 0 0 Q (F0 m (pc + 3) ls (.ref (ad 1) :: rest))) : W p l e R s m args below meth c H locs 0 0 Q (F0 m pc ls (.ref (ad 0) :: rest)) := r_get hC hI oM_0 (C := "EqualCourtModel") rfl inX9 0 (by decide) rfl hlink rfl hdg kk
theorem gX9_shown (hC : fC D 31 ad cy cz p s m args c cc nL own) (hI : fI D 31 ad (cfM ad cy cz) σ s H locs) {index : Nat} (hlink : Cond.fieldLink own index "EqualCourtModel" "shown" "[I" ∈ TW) (hdg : decode cc pc = .ok (.getfield index, 3)) (kk : W p l e R s m args below meth c H locs 0 0 Q (F0 m (pc + 3) ls (.ref (ad 2) :: rest))) : W p l e R s m args below meth c H locs 0 0 Q (F0 m pc ls (.ref (ad 0) :: rest)) := r_get hC hI oM_0 (C := "EqualCourtModel") rfl inX9 1 (by decide) rfl hlink rfl hdg kk
theorem gX9_partMany (hC : fC D 31 ad cy cz p s m args c cc nL own) (hI : fI D 31 ad (cfM ad cy cz) σ s H locs) {index : Nat} (hlink : Cond.fieldLink own index "EqualCourtModel" "partMany" "[I" ∈ TW) (hdg : decode cc pc = .ok (.getfield index, 3)) (kk : W p l e R s m args below meth c H locs 0 0 Q (F0 m (pc + 3) ls (.ref (ad 3) :: rest))) : W p l e R s m args below meth c H locs 0 0 Q (F0 m pc ls (.ref (ad 0) :: rest)) := r_get hC hI oM_0 (C := "EqualCourtModel") rfl inX9 2 (by decide) rfl hlink rfl hdg kk
theorem gX9_partOf (hC : fC D 31 ad cy cz p s m args c cc nL own) (hI : fI D 31 ad (cfM ad cy cz) σ s H locs) {index : Nat} (hlink : Cond.fieldLink own index "EqualCourtModel" "partOf" "[I" ∈ TW) (hdg : decode cc pc = .ok (.getfield index, 3)) (kk : W p l e R s m args below meth c H locs 0 0 Q (F0 m (pc + 3) ls (.ref (ad 4) :: rest))) : W p l e R s m args below meth c H locs 0 0 Q (F0 m pc ls (.ref (ad 0) :: rest)) := r_get hC hI oM_0 (C := "EqualCourtModel") rfl inX9 3 (by decide) rfl hlink rfl hdg kk
theorem gX9_terms (hC : fC D 31 ad cy cz p s m args c cc nL own) (hI : fI D 31 ad (cfM ad cy cz) σ s H locs) {index : Nat} (hlink : Cond.fieldLink own index "EqualCourtModel" "terms" "I" ∈ TW) (hdg : decode cc pc = .ok (.getfield index, 3)) (kk : W p l e R s m args below meth c H locs 0 0 Q (F0 m (pc + 3) ls (.int (σ 0 4) :: rest))) : W p l e R s m args below meth c H locs 0 0 Q (F0 m pc ls (.ref (ad 0) :: rest)) := r_get hC hI oM_0 (C := "EqualCourtModel") rfl inX9 4 (by decide) rfl hlink rfl hdg kk
theorem pX9_terms (hC : fC D 31 ad cy cz p s m args c cc nL own) (hI : fI D 31 ad (cfM ad cy cz) σ s H locs) {index : Nat} (hlink : Cond.fieldLink own index "EqualCourtModel" "terms" "I" ∈ TW) {x : Int32} (hdg : decode cc pc = .ok (.putfield index, 3)) (kk : ∀ (σ1 : fS) (H1 : Heap) (locs1 : List Loc), σ1 = wf σ 0 4 x → fI D 31 ad (cfM ad cy cz) σ1 s H1 locs1 → W p l e R s m args below meth c H1 locs1 0 0 Q (F0 m (pc + 3) ls rest)) : W p l e R s m args below meth c H locs 0 0 Q (F0 m pc ls (.int x :: .ref (ad 0) :: rest)) := r_put hC hI oM_0 (C := "EqualCourtModel") rfl inX9 tyX9 tyX9_ok nmX9 4 (by decide) rfl rfl hlink rfl rfl (Nat.le_of_ble_eq_true rfl) rfl hdg kk
theorem gX9_sayA (hC : fC D 31 ad cy cz p s m args c cc nL own) (hI : fI D 31 ad (cfM ad cy cz) σ s H locs) {index : Nat} (hlink : Cond.fieldLink own index "EqualCourtModel" "sayA" "[I" ∈ TW) (hdg : decode cc pc = .ok (.getfield index, 3)) (kk : W p l e R s m args below meth c H locs 0 0 Q (F0 m (pc + 3) ls (.ref (ad 5) :: rest))) : W p l e R s m args below meth c H locs 0 0 Q (F0 m pc ls (.ref (ad 0) :: rest)) := r_get hC hI oM_0 (C := "EqualCourtModel") rfl inX9 5 (by decide) rfl hlink rfl hdg kk
theorem gX9_sayB (hC : fC D 31 ad cy cz p s m args c cc nL own) (hI : fI D 31 ad (cfM ad cy cz) σ s H locs) {index : Nat} (hlink : Cond.fieldLink own index "EqualCourtModel" "sayB" "[I" ∈ TW) (hdg : decode cc pc = .ok (.getfield index, 3)) (kk : W p l e R s m args below meth c H locs 0 0 Q (F0 m (pc + 3) ls (.ref (ad 6) :: rest))) : W p l e R s m args below meth c H locs 0 0 Q (F0 m pc ls (.ref (ad 0) :: rest)) := r_get hC hI oM_0 (C := "EqualCourtModel") rfl inX9 6 (by decide) rfl hlink rfl hdg kk
theorem gX9_isSame (hC : fC D 31 ad cy cz p s m args c cc nL own) (hI : fI D 31 ad (cfM ad cy cz) σ s H locs) {index : Nat} (hlink : Cond.fieldLink own index "EqualCourtModel" "isSame" "[Z" ∈ TW) (hdg : decode cc pc = .ok (.getfield index, 3)) (kk : W p l e R s m args below meth c H locs 0 0 Q (F0 m (pc + 3) ls (.ref (ad 7) :: rest))) : W p l e R s m args below meth c H locs 0 0 Q (F0 m pc ls (.ref (ad 0) :: rest)) := r_get hC hI oM_0 (C := "EqualCourtModel") rfl inX9 7 (by decide) rfl hlink rfl hdg kk
theorem gX9_isTaken (hC : fC D 31 ad cy cz p s m args c cc nL own) (hI : fI D 31 ad (cfM ad cy cz) σ s H locs) {index : Nat} (hlink : Cond.fieldLink own index "EqualCourtModel" "isTaken" "[Z" ∈ TW) (hdg : decode cc pc = .ok (.getfield index, 3)) (kk : W p l e R s m args below meth c H locs 0 0 Q (F0 m (pc + 3) ls (.ref (ad 8) :: rest))) : W p l e R s m args below meth c H locs 0 0 Q (F0 m pc ls (.ref (ad 0) :: rest)) := r_get hC hI oM_0 (C := "EqualCourtModel") rfl inX9 8 (by decide) rfl hlink rfl hdg kk
theorem gX9_sayings (hC : fC D 31 ad cy cz p s m args c cc nL own) (hI : fI D 31 ad (cfM ad cy cz) σ s H locs) {index : Nat} (hlink : Cond.fieldLink own index "EqualCourtModel" "sayings" "I" ∈ TW) (hdg : decode cc pc = .ok (.getfield index, 3)) (kk : W p l e R s m args below meth c H locs 0 0 Q (F0 m (pc + 3) ls (.int (σ 0 9) :: rest))) : W p l e R s m args below meth c H locs 0 0 Q (F0 m pc ls (.ref (ad 0) :: rest)) := r_get hC hI oM_0 (C := "EqualCourtModel") rfl inX9 9 (by decide) rfl hlink rfl hdg kk
theorem pX9_sayings (hC : fC D 31 ad cy cz p s m args c cc nL own) (hI : fI D 31 ad (cfM ad cy cz) σ s H locs) {index : Nat} (hlink : Cond.fieldLink own index "EqualCourtModel" "sayings" "I" ∈ TW) {x : Int32} (hdg : decode cc pc = .ok (.putfield index, 3)) (kk : ∀ (σ1 : fS) (H1 : Heap) (locs1 : List Loc), σ1 = wf σ 0 9 x → fI D 31 ad (cfM ad cy cz) σ1 s H1 locs1 → W p l e R s m args below meth c H1 locs1 0 0 Q (F0 m (pc + 3) ls rest)) : W p l e R s m args below meth c H locs 0 0 Q (F0 m pc ls (.int x :: .ref (ad 0) :: rest)) := r_put hC hI oM_0 (C := "EqualCourtModel") rfl inX9 tyX9 tyX9_ok nmX9 9 (by decide) rfl rfl hlink rfl rfl (Nat.le_of_ble_eq_true rfl) rfl hdg kk
theorem gX9_remembered (hC : fC D 31 ad cy cz p s m args c cc nL own) (hI : fI D 31 ad (cfM ad cy cz) σ s H locs) {index : Nat} (hlink : Cond.fieldLink own index "EqualCourtModel" "remembered" "[Z" ∈ TW) (hdg : decode cc pc = .ok (.getfield index, 3)) (kk : W p l e R s m args below meth c H locs 0 0 Q (F0 m (pc + 3) ls (.ref (ad 9) :: rest))) : W p l e R s m args below meth c H locs 0 0 Q (F0 m pc ls (.ref (ad 0) :: rest)) := r_get hC hI oM_0 (C := "EqualCourtModel") rfl inX9 10 (by decide) rfl hlink rfl hdg kk
theorem gX9_levels (hC : fC D 31 ad cy cz p s m args c cc nL own) (hI : fI D 31 ad (cfM ad cy cz) σ s H locs) {index : Nat} (hlink : Cond.fieldLink own index "EqualCourtModel" "levels" "I" ∈ TW) (hdg : decode cc pc = .ok (.getfield index, 3)) (kk : W p l e R s m args below meth c H locs 0 0 Q (F0 m (pc + 3) ls (.int (σ 0 11) :: rest))) : W p l e R s m args below meth c H locs 0 0 Q (F0 m pc ls (.ref (ad 0) :: rest)) := r_get hC hI oM_0 (C := "EqualCourtModel") rfl inX9 11 (by decide) rfl hlink rfl hdg kk
theorem pX9_levels (hC : fC D 31 ad cy cz p s m args c cc nL own) (hI : fI D 31 ad (cfM ad cy cz) σ s H locs) {index : Nat} (hlink : Cond.fieldLink own index "EqualCourtModel" "levels" "I" ∈ TW) {x : Int32} (hdg : decode cc pc = .ok (.putfield index, 3)) (kk : ∀ (σ1 : fS) (H1 : Heap) (locs1 : List Loc), σ1 = wf σ 0 11 x → fI D 31 ad (cfM ad cy cz) σ1 s H1 locs1 → W p l e R s m args below meth c H1 locs1 0 0 Q (F0 m (pc + 3) ls rest)) : W p l e R s m args below meth c H locs 0 0 Q (F0 m pc ls (.int x :: .ref (ad 0) :: rest)) := r_put hC hI oM_0 (C := "EqualCourtModel") rfl inX9 tyX9 tyX9_ok nmX9 11 (by decide) rfl rfl hlink rfl rfl (Nat.le_of_ble_eq_true rfl) rfl hdg kk
theorem gX9_lawA (hC : fC D 31 ad cy cz p s m args c cc nL own) (hI : fI D 31 ad (cfM ad cy cz) σ s H locs) {index : Nat} (hlink : Cond.fieldLink own index "EqualCourtModel" "lawA" "[I" ∈ TW) (hdg : decode cc pc = .ok (.getfield index, 3)) (kk : W p l e R s m args below meth c H locs 0 0 Q (F0 m (pc + 3) ls (.ref (ad 10) :: rest))) : W p l e R s m args below meth c H locs 0 0 Q (F0 m pc ls (.ref (ad 0) :: rest)) := r_get hC hI oM_0 (C := "EqualCourtModel") rfl inX9 12 (by decide) rfl hlink rfl hdg kk
theorem gX9_lawB (hC : fC D 31 ad cy cz p s m args c cc nL own) (hI : fI D 31 ad (cfM ad cy cz) σ s H locs) {index : Nat} (hlink : Cond.fieldLink own index "EqualCourtModel" "lawB" "[I" ∈ TW) (hdg : decode cc pc = .ok (.getfield index, 3)) (kk : W p l e R s m args below meth c H locs 0 0 Q (F0 m (pc + 3) ls (.ref (ad 11) :: rest))) : W p l e R s m args below meth c H locs 0 0 Q (F0 m pc ls (.ref (ad 0) :: rest)) := r_get hC hI oM_0 (C := "EqualCourtModel") rfl inX9 13 (by decide) rfl hlink rfl hdg kk
theorem gX9_laws (hC : fC D 31 ad cy cz p s m args c cc nL own) (hI : fI D 31 ad (cfM ad cy cz) σ s H locs) {index : Nat} (hlink : Cond.fieldLink own index "EqualCourtModel" "laws" "I" ∈ TW) (hdg : decode cc pc = .ok (.getfield index, 3)) (kk : W p l e R s m args below meth c H locs 0 0 Q (F0 m (pc + 3) ls (.int (σ 0 14) :: rest))) : W p l e R s m args below meth c H locs 0 0 Q (F0 m pc ls (.ref (ad 0) :: rest)) := r_get hC hI oM_0 (C := "EqualCourtModel") rfl inX9 14 (by decide) rfl hlink rfl hdg kk
theorem pX9_laws (hC : fC D 31 ad cy cz p s m args c cc nL own) (hI : fI D 31 ad (cfM ad cy cz) σ s H locs) {index : Nat} (hlink : Cond.fieldLink own index "EqualCourtModel" "laws" "I" ∈ TW) {x : Int32} (hdg : decode cc pc = .ok (.putfield index, 3)) (kk : ∀ (σ1 : fS) (H1 : Heap) (locs1 : List Loc), σ1 = wf σ 0 14 x → fI D 31 ad (cfM ad cy cz) σ1 s H1 locs1 → W p l e R s m args below meth c H1 locs1 0 0 Q (F0 m (pc + 3) ls rest)) : W p l e R s m args below meth c H locs 0 0 Q (F0 m pc ls (.int x :: .ref (ad 0) :: rest)) := r_put hC hI oM_0 (C := "EqualCourtModel") rfl inX9 tyX9 tyX9_ok nmX9 14 (by decide) rfl rfl hlink rfl rfl (Nat.le_of_ble_eq_true rfl) rfl hdg kk
theorem gX9_reasonOf (hC : fC D 31 ad cy cz p s m args c cc nL own) (hI : fI D 31 ad (cfM ad cy cz) σ s H locs) {index : Nat} (hlink : Cond.fieldLink own index "EqualCourtModel" "reasonOf" "[I" ∈ TW) (hdg : decode cc pc = .ok (.getfield index, 3)) (kk : W p l e R s m args below meth c H locs 0 0 Q (F0 m (pc + 3) ls (.ref (ad 12) :: rest))) : W p l e R s m args below meth c H locs 0 0 Q (F0 m pc ls (.ref (ad 0) :: rest)) := r_get hC hI oM_0 (C := "EqualCourtModel") rfl inX9 15 (by decide) rfl hlink rfl hdg kk
theorem gX9_stepA (hC : fC D 31 ad cy cz p s m args c cc nL own) (hI : fI D 31 ad (cfM ad cy cz) σ s H locs) {index : Nat} (hlink : Cond.fieldLink own index "EqualCourtModel" "stepA" "[I" ∈ TW) (hdg : decode cc pc = .ok (.getfield index, 3)) (kk : W p l e R s m args below meth c H locs 0 0 Q (F0 m (pc + 3) ls (.ref (ad 13) :: rest))) : W p l e R s m args below meth c H locs 0 0 Q (F0 m pc ls (.ref (ad 0) :: rest)) := r_get hC hI oM_0 (C := "EqualCourtModel") rfl inX9 16 (by decide) rfl hlink rfl hdg kk
theorem gX9_stepB (hC : fC D 31 ad cy cz p s m args c cc nL own) (hI : fI D 31 ad (cfM ad cy cz) σ s H locs) {index : Nat} (hlink : Cond.fieldLink own index "EqualCourtModel" "stepB" "[I" ∈ TW) (hdg : decode cc pc = .ok (.getfield index, 3)) (kk : W p l e R s m args below meth c H locs 0 0 Q (F0 m (pc + 3) ls (.ref (ad 14) :: rest))) : W p l e R s m args below meth c H locs 0 0 Q (F0 m pc ls (.ref (ad 0) :: rest)) := r_get hC hI oM_0 (C := "EqualCourtModel") rfl inX9 17 (by decide) rfl hlink rfl hdg kk
theorem gX9_stepI (hC : fC D 31 ad cy cz p s m args c cc nL own) (hI : fI D 31 ad (cfM ad cy cz) σ s H locs) {index : Nat} (hlink : Cond.fieldLink own index "EqualCourtModel" "stepI" "[I" ∈ TW) (hdg : decode cc pc = .ok (.getfield index, 3)) (kk : W p l e R s m args below meth c H locs 0 0 Q (F0 m (pc + 3) ls (.ref (ad 15) :: rest))) : W p l e R s m args below meth c H locs 0 0 Q (F0 m pc ls (.ref (ad 0) :: rest)) := r_get hC hI oM_0 (C := "EqualCourtModel") rfl inX9 18 (by decide) rfl hlink rfl hdg kk
theorem gX9_stepJ (hC : fC D 31 ad cy cz p s m args c cc nL own) (hI : fI D 31 ad (cfM ad cy cz) σ s H locs) {index : Nat} (hlink : Cond.fieldLink own index "EqualCourtModel" "stepJ" "[I" ∈ TW) (hdg : decode cc pc = .ok (.getfield index, 3)) (kk : W p l e R s m args below meth c H locs 0 0 Q (F0 m (pc + 3) ls (.ref (ad 16) :: rest))) : W p l e R s m args below meth c H locs 0 0 Q (F0 m pc ls (.ref (ad 0) :: rest)) := r_get hC hI oM_0 (C := "EqualCourtModel") rfl inX9 19 (by decide) rfl hlink rfl hdg kk
theorem gX9_steps (hC : fC D 31 ad cy cz p s m args c cc nL own) (hI : fI D 31 ad (cfM ad cy cz) σ s H locs) {index : Nat} (hlink : Cond.fieldLink own index "EqualCourtModel" "steps" "I" ∈ TW) (hdg : decode cc pc = .ok (.getfield index, 3)) (kk : W p l e R s m args below meth c H locs 0 0 Q (F0 m (pc + 3) ls (.int (σ 0 20) :: rest))) : W p l e R s m args below meth c H locs 0 0 Q (F0 m pc ls (.ref (ad 0) :: rest)) := r_get hC hI oM_0 (C := "EqualCourtModel") rfl inX9 20 (by decide) rfl hlink rfl hdg kk
theorem pX9_steps (hC : fC D 31 ad cy cz p s m args c cc nL own) (hI : fI D 31 ad (cfM ad cy cz) σ s H locs) {index : Nat} (hlink : Cond.fieldLink own index "EqualCourtModel" "steps" "I" ∈ TW) {x : Int32} (hdg : decode cc pc = .ok (.putfield index, 3)) (kk : ∀ (σ1 : fS) (H1 : Heap) (locs1 : List Loc), σ1 = wf σ 0 20 x → fI D 31 ad (cfM ad cy cz) σ1 s H1 locs1 → W p l e R s m args below meth c H1 locs1 0 0 Q (F0 m (pc + 3) ls rest)) : W p l e R s m args below meth c H locs 0 0 Q (F0 m pc ls (.int x :: .ref (ad 0) :: rest)) := r_put hC hI oM_0 (C := "EqualCourtModel") rfl inX9 tyX9 tyX9_ok nmX9 20 (by decide) rfl rfl hlink rfl rfl (Nat.le_of_ble_eq_true rfl) rfl hdg kk
theorem gX9_clashRow (hC : fC D 31 ad cy cz p s m args c cc nL own) (hI : fI D 31 ad (cfM ad cy cz) σ s H locs) {index : Nat} (hlink : Cond.fieldLink own index "EqualCourtModel" "clashRow" "[I" ∈ TW) (hdg : decode cc pc = .ok (.getfield index, 3)) (kk : W p l e R s m args below meth c H locs 0 0 Q (F0 m (pc + 3) ls (.ref (ad 17) :: rest))) : W p l e R s m args below meth c H locs 0 0 Q (F0 m pc ls (.ref (ad 0) :: rest)) := r_get hC hI oM_0 (C := "EqualCourtModel") rfl inX9 21 (by decide) rfl hlink rfl hdg kk
theorem gX9_clashMany (hC : fC D 31 ad cy cz p s m args c cc nL own) (hI : fI D 31 ad (cfM ad cy cz) σ s H locs) {index : Nat} (hlink : Cond.fieldLink own index "EqualCourtModel" "clashMany" "I" ∈ TW) (hdg : decode cc pc = .ok (.getfield index, 3)) (kk : W p l e R s m args below meth c H locs 0 0 Q (F0 m (pc + 3) ls (.int (σ 0 22) :: rest))) : W p l e R s m args below meth c H locs 0 0 Q (F0 m pc ls (.ref (ad 0) :: rest)) := r_get hC hI oM_0 (C := "EqualCourtModel") rfl inX9 22 (by decide) rfl hlink rfl hdg kk
theorem pX9_clashMany (hC : fC D 31 ad cy cz p s m args c cc nL own) (hI : fI D 31 ad (cfM ad cy cz) σ s H locs) {index : Nat} (hlink : Cond.fieldLink own index "EqualCourtModel" "clashMany" "I" ∈ TW) {x : Int32} (hdg : decode cc pc = .ok (.putfield index, 3)) (kk : ∀ (σ1 : fS) (H1 : Heap) (locs1 : List Loc), σ1 = wf σ 0 22 x → fI D 31 ad (cfM ad cy cz) σ1 s H1 locs1 → W p l e R s m args below meth c H1 locs1 0 0 Q (F0 m (pc + 3) ls rest)) : W p l e R s m args below meth c H locs 0 0 Q (F0 m pc ls (.int x :: .ref (ad 0) :: rest)) := r_put hC hI oM_0 (C := "EqualCourtModel") rfl inX9 tyX9 tyX9_ok nmX9 22 (by decide) rfl rfl hlink rfl rfl (Nat.le_of_ble_eq_true rfl) rfl hdg kk
theorem gX9_whyRow (hC : fC D 31 ad cy cz p s m args c cc nL own) (hI : fI D 31 ad (cfM ad cy cz) σ s H locs) {index : Nat} (hlink : Cond.fieldLink own index "EqualCourtModel" "whyRow" "[I" ∈ TW) (hdg : decode cc pc = .ok (.getfield index, 3)) (kk : W p l e R s m args below meth c H locs 0 0 Q (F0 m (pc + 3) ls (.ref (ad 18) :: rest))) : W p l e R s m args below meth c H locs 0 0 Q (F0 m pc ls (.ref (ad 0) :: rest)) := r_get hC hI oM_0 (C := "EqualCourtModel") rfl inX9 23 (by decide) rfl hlink rfl hdg kk
theorem gX9_whyMany (hC : fC D 31 ad cy cz p s m args c cc nL own) (hI : fI D 31 ad (cfM ad cy cz) σ s H locs) {index : Nat} (hlink : Cond.fieldLink own index "EqualCourtModel" "whyMany" "I" ∈ TW) (hdg : decode cc pc = .ok (.getfield index, 3)) (kk : W p l e R s m args below meth c H locs 0 0 Q (F0 m (pc + 3) ls (.int (σ 0 24) :: rest))) : W p l e R s m args below meth c H locs 0 0 Q (F0 m pc ls (.ref (ad 0) :: rest)) := r_get hC hI oM_0 (C := "EqualCourtModel") rfl inX9 24 (by decide) rfl hlink rfl hdg kk
theorem pX9_whyMany (hC : fC D 31 ad cy cz p s m args c cc nL own) (hI : fI D 31 ad (cfM ad cy cz) σ s H locs) {index : Nat} (hlink : Cond.fieldLink own index "EqualCourtModel" "whyMany" "I" ∈ TW) {x : Int32} (hdg : decode cc pc = .ok (.putfield index, 3)) (kk : ∀ (σ1 : fS) (H1 : Heap) (locs1 : List Loc), σ1 = wf σ 0 24 x → fI D 31 ad (cfM ad cy cz) σ1 s H1 locs1 → W p l e R s m args below meth c H1 locs1 0 0 Q (F0 m (pc + 3) ls rest)) : W p l e R s m args below meth c H locs 0 0 Q (F0 m pc ls (.int x :: .ref (ad 0) :: rest)) := r_put hC hI oM_0 (C := "EqualCourtModel") rfl inX9 tyX9 tyX9_ok nmX9 24 (by decide) rfl rfl hlink rfl rfl (Nat.le_of_ble_eq_true rfl) rfl hdg kk
theorem gX9_endedBy (hC : fC D 31 ad cy cz p s m args c cc nL own) (hI : fI D 31 ad (cfM ad cy cz) σ s H locs) {index : Nat} (hlink : Cond.fieldLink own index "EqualCourtModel" "endedBy" "I" ∈ TW) (hdg : decode cc pc = .ok (.getfield index, 3)) (kk : W p l e R s m args below meth c H locs 0 0 Q (F0 m (pc + 3) ls (.int (σ 0 25) :: rest))) : W p l e R s m args below meth c H locs 0 0 Q (F0 m pc ls (.ref (ad 0) :: rest)) := r_get hC hI oM_0 (C := "EqualCourtModel") rfl inX9 25 (by decide) rfl hlink rfl hdg kk
theorem pX9_endedBy (hC : fC D 31 ad cy cz p s m args c cc nL own) (hI : fI D 31 ad (cfM ad cy cz) σ s H locs) {index : Nat} (hlink : Cond.fieldLink own index "EqualCourtModel" "endedBy" "I" ∈ TW) {x : Int32} (hdg : decode cc pc = .ok (.putfield index, 3)) (kk : ∀ (σ1 : fS) (H1 : Heap) (locs1 : List Loc), σ1 = wf σ 0 25 x → fI D 31 ad (cfM ad cy cz) σ1 s H1 locs1 → W p l e R s m args below meth c H1 locs1 0 0 Q (F0 m (pc + 3) ls rest)) : W p l e R s m args below meth c H locs 0 0 Q (F0 m pc ls (.int x :: .ref (ad 0) :: rest)) := r_put hC hI oM_0 (C := "EqualCourtModel") rfl inX9 tyX9 tyX9_ok nmX9 25 (by decide) rfl rfl hlink rfl rfl (Nat.le_of_ble_eq_true rfl) rfl hdg kk
theorem gX9_finding (hC : fC D 31 ad cy cz p s m args c cc nL own) (hI : fI D 31 ad (cfM ad cy cz) σ s H locs) {index : Nat} (hlink : Cond.fieldLink own index "EqualCourtModel" "finding" "I" ∈ TW) (hdg : decode cc pc = .ok (.getfield index, 3)) (kk : W p l e R s m args below meth c H locs 0 0 Q (F0 m (pc + 3) ls (.int (σ 0 26) :: rest))) : W p l e R s m args below meth c H locs 0 0 Q (F0 m pc ls (.ref (ad 0) :: rest)) := r_get hC hI oM_0 (C := "EqualCourtModel") rfl inX9 26 (by decide) rfl hlink rfl hdg kk
theorem pX9_finding (hC : fC D 31 ad cy cz p s m args c cc nL own) (hI : fI D 31 ad (cfM ad cy cz) σ s H locs) {index : Nat} (hlink : Cond.fieldLink own index "EqualCourtModel" "finding" "I" ∈ TW) {x : Int32} (hdg : decode cc pc = .ok (.putfield index, 3)) (kk : ∀ (σ1 : fS) (H1 : Heap) (locs1 : List Loc), σ1 = wf σ 0 26 x → fI D 31 ad (cfM ad cy cz) σ1 s H1 locs1 → W p l e R s m args below meth c H1 locs1 0 0 Q (F0 m (pc + 3) ls rest)) : W p l e R s m args below meth c H locs 0 0 Q (F0 m pc ls (.int x :: .ref (ad 0) :: rest)) := r_put hC hI oM_0 (C := "EqualCourtModel") rfl inX9 tyX9 tyX9_ok nmX9 26 (by decide) rfl rfl hlink rfl rfl (Nat.le_of_ble_eq_true rfl) rfl hdg kk
theorem gX9_asked (hC : fC D 31 ad cy cz p s m args c cc nL own) (hI : fI D 31 ad (cfM ad cy cz) σ s H locs) {index : Nat} (hlink : Cond.fieldLink own index "EqualCourtModel" "asked" "[I" ∈ TW) (hdg : decode cc pc = .ok (.getfield index, 3)) (kk : W p l e R s m args below meth c H locs 0 0 Q (F0 m (pc + 3) ls (.ref (ad 19) :: rest))) : W p l e R s m args below meth c H locs 0 0 Q (F0 m pc ls (.ref (ad 0) :: rest)) := r_get hC hI oM_0 (C := "EqualCourtModel") rfl inX9 27 (by decide) rfl hlink rfl hdg kk
theorem gX9_one (hC : fC D 31 ad cy cz p s m args c cc nL own) (hI : fI D 31 ad (cfM ad cy cz) σ s H locs) {index : Nat} (hlink : Cond.fieldLink own index "EqualCourtModel" "one" "[I" ∈ TW) (hdg : decode cc pc = .ok (.getfield index, 3)) (kk : W p l e R s m args below meth c H locs 0 0 Q (F0 m (pc + 3) ls (.ref (ad 20) :: rest))) : W p l e R s m args below meth c H locs 0 0 Q (F0 m pc ls (.ref (ad 0) :: rest)) := r_get hC hI oM_0 (C := "EqualCourtModel") rfl inX9 28 (by decide) rfl hlink rfl hdg kk
theorem gX9_isIn (hC : fC D 31 ad cy cz p s m args c cc nL own) (hI : fI D 31 ad (cfM ad cy cz) σ s H locs) {index : Nat} (hlink : Cond.fieldLink own index "EqualCourtModel" "isIn" "[Z" ∈ TW) (hdg : decode cc pc = .ok (.getfield index, 3)) (kk : W p l e R s m args below meth c H locs 0 0 Q (F0 m (pc + 3) ls (.ref (ad 21) :: rest))) : W p l e R s m args below meth c H locs 0 0 Q (F0 m pc ls (.ref (ad 0) :: rest)) := r_get hC hI oM_0 (C := "EqualCourtModel") rfl inX9 29 (by decide) rfl hlink rfl hdg kk
theorem gX9_isFresh (hC : fC D 31 ad cy cz p s m args c cc nL own) (hI : fI D 31 ad (cfM ad cy cz) σ s H locs) {index : Nat} (hlink : Cond.fieldLink own index "EqualCourtModel" "isFresh" "Z" ∈ TW) (hdg : decode cc pc = .ok (.getfield index, 3)) (kk : W p l e R s m args below meth c H locs 0 0 Q (F0 m (pc + 3) ls (.int (σ 0 30) :: rest))) : W p l e R s m args below meth c H locs 0 0 Q (F0 m pc ls (.ref (ad 0) :: rest)) := r_get hC hI oM_0 (C := "EqualCourtModel") rfl inX9 30 (by decide) rfl hlink rfl hdg kk
theorem pX9_isFresh (hC : fC D 31 ad cy cz p s m args c cc nL own) (hI : fI D 31 ad (cfM ad cy cz) σ s H locs) {index : Nat} (hlink : Cond.fieldLink own index "EqualCourtModel" "isFresh" "Z" ∈ TW) {x : Int32} (hx01 : isb x = true) (hdg : decode cc pc = .ok (.putfield index, 3)) (kk : ∀ (σ1 : fS) (H1 : Heap) (locs1 : List Loc), σ1 = wf σ 0 30 x → fI D 31 ad (cfM ad cy cz) σ1 s H1 locs1 → W p l e R s m args below meth c H1 locs1 0 0 Q (F0 m (pc + 3) ls rest)) : W p l e R s m args below meth c H locs 0 0 Q (F0 m pc ls (.int x :: .ref (ad 0) :: rest)) := r_put hC hI oM_0 (C := "EqualCourtModel") rfl inX9 tyX9 tyX9_ok nmX9 30 (by decide) rfl rfl hlink (isb_nar hx01) (isb_fit hx01) (Nat.le_of_ble_eq_true rfl) rfl hdg kk
theorem gX9_court (hC : fC D 31 ad cy cz p s m args c cc nL own) (hI : fI D 31 ad (cfM ad cy cz) σ s H locs) {index : Nat} (hlink : Cond.fieldLink own index "EqualCourtModel" "court" "[I" ∈ TW) (hdg : decode cc pc = .ok (.getfield index, 3)) (kk : W p l e R s m args below meth c H locs 0 0 Q (F0 m (pc + 3) ls (.ref (ad 22) :: rest))) : W p l e R s m args below meth c H locs 0 0 Q (F0 m pc ls (.ref (ad 0) :: rest)) := r_get hC hI oM_0 (C := "EqualCourtModel") rfl inX9 31 (by decide) rfl hlink rfl hdg kk
theorem gX9_chosen (hC : fC D 31 ad cy cz p s m args c cc nL own) (hI : fI D 31 ad (cfM ad cy cz) σ s H locs) {index : Nat} (hlink : Cond.fieldLink own index "EqualCourtModel" "chosen" "[I" ∈ TW) (hdg : decode cc pc = .ok (.getfield index, 3)) (kk : W p l e R s m args below meth c H locs 0 0 Q (F0 m (pc + 3) ls (.ref (ad 23) :: rest))) : W p l e R s m args below meth c H locs 0 0 Q (F0 m pc ls (.ref (ad 0) :: rest)) := r_get hC hI oM_0 (C := "EqualCourtModel") rfl inX9 32 (by decide) rfl hlink rfl hdg kk
theorem gX9_hole (hC : fC D 31 ad cy cz p s m args c cc nL own) (hI : fI D 31 ad (cfM ad cy cz) σ s H locs) {index : Nat} (hlink : Cond.fieldLink own index "EqualCourtModel" "hole" "[I" ∈ TW) (hdg : decode cc pc = .ok (.getfield index, 3)) (kk : W p l e R s m args below meth c H locs 0 0 Q (F0 m (pc + 3) ls (.ref (ad 24) :: rest))) : W p l e R s m args below meth c H locs 0 0 Q (F0 m pc ls (.ref (ad 0) :: rest)) := r_get hC hI oM_0 (C := "EqualCourtModel") rfl inX9 33 (by decide) rfl hlink rfl hdg kk
theorem gX9_becomes (hC : fC D 31 ad cy cz p s m args c cc nL own) (hI : fI D 31 ad (cfM ad cy cz) σ s H locs) {index : Nat} (hlink : Cond.fieldLink own index "EqualCourtModel" "becomes" "[I" ∈ TW) (hdg : decode cc pc = .ok (.getfield index, 3)) (kk : W p l e R s m args below meth c H locs 0 0 Q (F0 m (pc + 3) ls (.ref (ad 25) :: rest))) : W p l e R s m args below meth c H locs 0 0 Q (F0 m pc ls (.ref (ad 0) :: rest)) := r_get hC hI oM_0 (C := "EqualCourtModel") rfl inX9 34 (by decide) rfl hlink rfl hdg kk
theorem gX9_pile (hC : fC D 31 ad cy cz p s m args c cc nL own) (hI : fI D 31 ad (cfM ad cy cz) σ s H locs) {index : Nat} (hlink : Cond.fieldLink own index "EqualCourtModel" "pile" "[I" ∈ TW) (hdg : decode cc pc = .ok (.getfield index, 3)) (kk : W p l e R s m args below meth c H locs 0 0 Q (F0 m (pc + 3) ls (.ref (ad 26) :: rest))) : W p l e R s m args below meth c H locs 0 0 Q (F0 m pc ls (.ref (ad 0) :: rest)) := r_get hC hI oM_0 (C := "EqualCourtModel") rfl inX9 35 (by decide) rfl hlink rfl hdg kk
theorem gX9_nextPart (hC : fC D 31 ad cy cz p s m args c cc nL own) (hI : fI D 31 ad (cfM ad cy cz) σ s H locs) {index : Nat} (hlink : Cond.fieldLink own index "EqualCourtModel" "nextPart" "[I" ∈ TW) (hdg : decode cc pc = .ok (.getfield index, 3)) (kk : W p l e R s m args below meth c H locs 0 0 Q (F0 m (pc + 3) ls (.ref (ad 27) :: rest))) : W p l e R s m args below meth c H locs 0 0 Q (F0 m pc ls (.ref (ad 0) :: rest)) := r_get hC hI oM_0 (C := "EqualCourtModel") rfl inX9 36 (by decide) rfl hlink rfl hdg kk
theorem gX9_stands (hC : fC D 31 ad cy cz p s m args c cc nL own) (hI : fI D 31 ad (cfM ad cy cz) σ s H locs) {index : Nat} (hlink : Cond.fieldLink own index "EqualCourtModel" "stands" "[Z" ∈ TW) (hdg : decode cc pc = .ok (.getfield index, 3)) (kk : W p l e R s m args below meth c H locs 0 0 Q (F0 m (pc + 3) ls (.ref (ad 28) :: rest))) : W p l e R s m args below meth c H locs 0 0 Q (F0 m pc ls (.ref (ad 0) :: rest)) := r_get hC hI oM_0 (C := "EqualCourtModel") rfl inX9 37 (by decide) rfl hlink rfl hdg kk
theorem gX9_isSeen (hC : fC D 31 ad cy cz p s m args c cc nL own) (hI : fI D 31 ad (cfM ad cy cz) σ s H locs) {index : Nat} (hlink : Cond.fieldLink own index "EqualCourtModel" "isSeen" "[Z" ∈ TW) (hdg : decode cc pc = .ok (.getfield index, 3)) (kk : W p l e R s m args below meth c H locs 0 0 Q (F0 m (pc + 3) ls (.ref (ad 29) :: rest))) : W p l e R s m args below meth c H locs 0 0 Q (F0 m pc ls (.ref (ad 0) :: rest)) := r_get hC hI oM_0 (C := "EqualCourtModel") rfl inX9 38 (by decide) rfl hlink rfl hdg kk
theorem gX9_heads (hC : fC D 31 ad cy cz p s m args c cc nL own) (hI : fI D 31 ad (cfM ad cy cz) σ s H locs) {index : Nat} (hlink : Cond.fieldLink own index "EqualCourtModel" "heads" "[I" ∈ TW) (hdg : decode cc pc = .ok (.getfield index, 3)) (kk : W p l e R s m args below meth c H locs 0 0 Q (F0 m (pc + 3) ls (.ref (ad 30) :: rest))) : W p l e R s m args below meth c H locs 0 0 Q (F0 m pc ls (.ref (ad 0) :: rest)) := r_get hC hI oM_0 (C := "EqualCourtModel") rfl inX9 39 (by decide) rfl hlink rfl hdg kk
theorem gX9_headMany (hC : fC D 31 ad cy cz p s m args c cc nL own) (hI : fI D 31 ad (cfM ad cy cz) σ s H locs) {index : Nat} (hlink : Cond.fieldLink own index "EqualCourtModel" "headMany" "I" ∈ TW) (hdg : decode cc pc = .ok (.getfield index, 3)) (kk : W p l e R s m args below meth c H locs 0 0 Q (F0 m (pc + 3) ls (.int (σ 0 40) :: rest))) : W p l e R s m args below meth c H locs 0 0 Q (F0 m pc ls (.ref (ad 0) :: rest)) := r_get hC hI oM_0 (C := "EqualCourtModel") rfl inX9 40 (by decide) rfl hlink rfl hdg kk
theorem pX9_headMany (hC : fC D 31 ad cy cz p s m args c cc nL own) (hI : fI D 31 ad (cfM ad cy cz) σ s H locs) {index : Nat} (hlink : Cond.fieldLink own index "EqualCourtModel" "headMany" "I" ∈ TW) {x : Int32} (hdg : decode cc pc = .ok (.putfield index, 3)) (kk : ∀ (σ1 : fS) (H1 : Heap) (locs1 : List Loc), σ1 = wf σ 0 40 x → fI D 31 ad (cfM ad cy cz) σ1 s H1 locs1 → W p l e R s m args below meth c H1 locs1 0 0 Q (F0 m (pc + 3) ls rest)) : W p l e R s m args below meth c H locs 0 0 Q (F0 m pc ls (.int x :: .ref (ad 0) :: rest)) := r_put hC hI oM_0 (C := "EqualCourtModel") rfl inX9 tyX9 tyX9_ok nmX9 40 (by decide) rfl rfl hlink rfl rfl (Nat.le_of_ble_eq_true rfl) rfl hdg kk
theorem gX9_came (hC : fC D 31 ad cy cz p s m args c cc nL own) (hI : fI D 31 ad (cfM ad cy cz) σ s H locs) {index : Nat} (hlink : Cond.fieldLink own index "EqualCourtModel" "came" "I" ∈ TW) (hdg : decode cc pc = .ok (.getfield index, 3)) (kk : W p l e R s m args below meth c H locs 0 0 Q (F0 m (pc + 3) ls (.int (σ 0 41) :: rest))) : W p l e R s m args below meth c H locs 0 0 Q (F0 m pc ls (.ref (ad 0) :: rest)) := r_get hC hI oM_0 (C := "EqualCourtModel") rfl inX9 41 (by decide) rfl hlink rfl hdg kk
theorem pX9_came (hC : fC D 31 ad cy cz p s m args c cc nL own) (hI : fI D 31 ad (cfM ad cy cz) σ s H locs) {index : Nat} (hlink : Cond.fieldLink own index "EqualCourtModel" "came" "I" ∈ TW) {x : Int32} (hdg : decode cc pc = .ok (.putfield index, 3)) (kk : ∀ (σ1 : fS) (H1 : Heap) (locs1 : List Loc), σ1 = wf σ 0 41 x → fI D 31 ad (cfM ad cy cz) σ1 s H1 locs1 → W p l e R s m args below meth c H1 locs1 0 0 Q (F0 m (pc + 3) ls rest)) : W p l e R s m args below meth c H locs 0 0 Q (F0 m pc ls (.int x :: .ref (ad 0) :: rest)) := r_put hC hI oM_0 (C := "EqualCourtModel") rfl inX9 tyX9 tyX9_ok nmX9 41 (by decide) rfl rfl hlink rfl rfl (Nat.le_of_ble_eq_true rfl) rfl hdg kk
end FGET
end
