-- ===== PART A: goes FIRST, ahead of the names: the tables' words, and 'selects' of the private methods out of them =====
/-- a private method of a class that the tables say can be made, by its rows of tables_1 -/
def lw_okq (q : MethodName × Nat) : Prop := (q.1.cls ≠ "java/lang/invoke/MethodHandle" ∧ q.1.cls ≠ "java/lang/invoke/VarHandle") ∧ Cond.instantiable q.1.cls q.2 ∈ tables_1 ∧ Cond.privateMethod q.1 ∈ tables_1 ∧ Cond.instanceMethod q.1 ∈ tables_1
theorem lw_p0 : lw_okq (⟨"MotherTowns$Tape", "readDays", "()I"⟩, 7) := ⟨⟨by decide +kernel, by decide +kernel⟩, List.mem_of_getElem? (i := 26) (by decide +kernel), List.mem_of_getElem? (i := 401) (by decide +kernel), List.mem_of_getElem? (i := 402) (by decide +kernel)⟩
theorem lw_p1 : lw_okq (⟨"MotherTowns$Tape", "number", "(I)I"⟩, 7) := ⟨⟨by decide +kernel, by decide +kernel⟩, List.mem_of_getElem? (i := 26) (by decide +kernel), List.mem_of_getElem? (i := 405) (by decide +kernel), List.mem_of_getElem? (i := 406) (by decide +kernel)⟩
theorem lw_p2 : lw_okq (⟨"MotherTowns$Tape", "sign", "()I"⟩, 7) := ⟨⟨by decide +kernel, by decide +kernel⟩, List.mem_of_getElem? (i := 26) (by decide +kernel), List.mem_of_getElem? (i := 409) (by decide +kernel), List.mem_of_getElem? (i := 410) (by decide +kernel)⟩
theorem lw_p3 : lw_okq (⟨"MotherTowns$Tape", "readClauses", "()I"⟩, 7) := ⟨⟨by decide +kernel, by decide +kernel⟩, List.mem_of_getElem? (i := 26) (by decide +kernel), List.mem_of_getElem? (i := 416) (by decide +kernel), List.mem_of_getElem? (i := 417) (by decide +kernel)⟩
theorem lw_p4 : lw_okq (⟨"MotherTowns$Tape", "readMother", "(I)I"⟩, 7) := ⟨⟨by decide +kernel, by decide +kernel⟩, List.mem_of_getElem? (i := 26) (by decide +kernel), List.mem_of_getElem? (i := 426) (by decide +kernel), List.mem_of_getElem? (i := 427) (by decide +kernel)⟩
theorem lw_p5 : lw_okq (⟨"MotherTowns$Charters", "dropOldest", "()V"⟩, 13) := ⟨⟨by decide +kernel, by decide +kernel⟩, List.mem_of_getElem? (i := 60) (by decide +kernel), List.mem_of_getElem? (i := 477) (by decide +kernel), List.mem_of_getElem? (i := 478) (by decide +kernel)⟩
theorem lw_p6 : lw_okq (⟨"MotherTowns$Tree", "smallestBelow", "(I)I"⟩, 12) := ⟨⟨by decide +kernel, by decide +kernel⟩, List.mem_of_getElem? (i := 129) (by decide +kernel), List.mem_of_getElem? (i := 550) (by decide +kernel), List.mem_of_getElem? (i := 551) (by decide +kernel)⟩
theorem lw_p7 : lw_okq (⟨"MotherTowns$Tree", "hang", "(II)V"⟩, 12) := ⟨⟨by decide +kernel, by decide +kernel⟩, List.mem_of_getElem? (i := 129) (by decide +kernel), List.mem_of_getElem? (i := 557) (by decide +kernel), List.mem_of_getElem? (i := 558) (by decide +kernel)⟩
theorem lw_p8 : lw_okq (⟨"MotherTowns$Tree", "besideBranch", "(III)I"⟩, 12) := ⟨⟨by decide +kernel, by decide +kernel⟩, List.mem_of_getElem? (i := 129) (by decide +kernel), List.mem_of_getElem? (i := 576) (by decide +kernel), List.mem_of_getElem? (i := 577) (by decide +kernel)⟩
theorem lw_p9 : lw_okq (⟨"MotherTowns$BestTrees", "toldForms", "(I)I"⟩, 15) := ⟨⟨by decide +kernel, by decide +kernel⟩, List.mem_of_getElem? (i := 208) (by decide +kernel), List.mem_of_getElem? (i := 627) (by decide +kernel), List.mem_of_getElem? (i := 628) (by decide +kernel)⟩
theorem lw_p10 : lw_okq (⟨"MotherTowns$BestTrees", "prepare", "()V"⟩, 15) := ⟨⟨by decide +kernel, by decide +kernel⟩, List.mem_of_getElem? (i := 208) (by decide +kernel), List.mem_of_getElem? (i := 644) (by decide +kernel), List.mem_of_getElem? (i := 645) (by decide +kernel)⟩
theorem lw_p11 : lw_okq (⟨"MotherTowns$BestTrees", "sortClause", "(I)V"⟩, 15) := ⟨⟨by decide +kernel, by decide +kernel⟩, List.mem_of_getElem? (i := 208) (by decide +kernel), List.mem_of_getElem? (i := 650) (by decide +kernel), List.mem_of_getElem? (i := 651) (by decide +kernel)⟩
theorem lw_p12 : lw_okq (⟨"MotherTowns$BestTrees", "entries", "(I)I"⟩, 15) := ⟨⟨by decide +kernel, by decide +kernel⟩, List.mem_of_getElem? (i := 208) (by decide +kernel), List.mem_of_getElem? (i := 658) (by decide +kernel), List.mem_of_getElem? (i := 659) (by decide +kernel)⟩
theorem lw_p13 : lw_okq (⟨"MotherTowns$BestTrees", "grow", "(I)I"⟩, 15) := ⟨⟨by decide +kernel, by decide +kernel⟩, List.mem_of_getElem? (i := 208) (by decide +kernel), List.mem_of_getElem? (i := 662) (by decide +kernel), List.mem_of_getElem? (i := 663) (by decide +kernel)⟩
theorem lw_p14 : lw_okq (⟨"MotherTowns$BestTrees", "chosen", "(II)I"⟩, 15) := ⟨⟨by decide +kernel, by decide +kernel⟩, List.mem_of_getElem? (i := 208) (by decide +kernel), List.mem_of_getElem? (i := 666) (by decide +kernel), List.mem_of_getElem? (i := 667) (by decide +kernel)⟩
theorem lw_p15 : lw_okq (⟨"MotherTowns$BestTrees", "closesRing", "(I)Z"⟩, 15) := ⟨⟨by decide +kernel, by decide +kernel⟩, List.mem_of_getElem? (i := 208) (by decide +kernel), List.mem_of_getElem? (i := 670) (by decide +kernel), List.mem_of_getElem? (i := 671) (by decide +kernel)⟩
def lw_privs_1 : List (MethodName × Nat) := [(⟨"MotherTowns$Tape", "readDays", "()I"⟩, 7), (⟨"MotherTowns$Tape", "number", "(I)I"⟩, 7), (⟨"MotherTowns$Tape", "sign", "()I"⟩, 7), (⟨"MotherTowns$Tape", "readClauses", "()I"⟩, 7), (⟨"MotherTowns$Tape", "readMother", "(I)I"⟩, 7), (⟨"MotherTowns$Charters", "dropOldest", "()V"⟩, 13), (⟨"MotherTowns$Tree", "smallestBelow", "(I)I"⟩, 12), (⟨"MotherTowns$Tree", "hang", "(II)V"⟩, 12), (⟨"MotherTowns$Tree", "besideBranch", "(III)I"⟩, 12), (⟨"MotherTowns$BestTrees", "toldForms", "(I)I"⟩, 15), (⟨"MotherTowns$BestTrees", "prepare", "()V"⟩, 15), (⟨"MotherTowns$BestTrees", "sortClause", "(I)V"⟩, 15), (⟨"MotherTowns$BestTrees", "entries", "(I)I"⟩, 15), (⟨"MotherTowns$BestTrees", "grow", "(I)I"⟩, 15), (⟨"MotherTowns$BestTrees", "chosen", "(II)I"⟩, 15), (⟨"MotherTowns$BestTrees", "closesRing", "(I)Z"⟩, 15)]
theorem lw_r1 : ∀ q ∈ lw_privs_1, lw_okq q := List.forall_mem_cons.mpr ⟨lw_p0, List.forall_mem_cons.mpr ⟨lw_p1, List.forall_mem_cons.mpr ⟨lw_p2, List.forall_mem_cons.mpr ⟨lw_p3, List.forall_mem_cons.mpr ⟨lw_p4, List.forall_mem_cons.mpr ⟨lw_p5, List.forall_mem_cons.mpr ⟨lw_p6, List.forall_mem_cons.mpr ⟨lw_p7, List.forall_mem_cons.mpr ⟨lw_p8, List.forall_mem_cons.mpr ⟨lw_p9, List.forall_mem_cons.mpr ⟨lw_p10, List.forall_mem_cons.mpr ⟨lw_p11, List.forall_mem_cons.mpr ⟨lw_p12, List.forall_mem_cons.mpr ⟨lw_p13, List.forall_mem_cons.mpr ⟨lw_p14, List.forall_mem_cons.mpr ⟨lw_p15, fun _ h => absurd h List.not_mem_nil⟩⟩⟩⟩⟩⟩⟩⟩⟩⟩⟩⟩⟩⟩⟩⟩
theorem lw_p16 : lw_okq (⟨"MotherTowns$BestTrees", "weigh", "(I)V"⟩, 15) := ⟨⟨by decide +kernel, by decide +kernel⟩, List.mem_of_getElem? (i := 208) (by decide +kernel), List.mem_of_getElem? (i := 674) (by decide +kernel), List.mem_of_getElem? (i := 675) (by decide +kernel)⟩
theorem lw_p17 : lw_okq (⟨"MotherTowns$BestTrees", "writeClause", "(I)V"⟩, 15) := ⟨⟨by decide +kernel, by decide +kernel⟩, List.mem_of_getElem? (i := 208) (by decide +kernel), List.mem_of_getElem? (i := 680) (by decide +kernel), List.mem_of_getElem? (i := 681) (by decide +kernel)⟩
theorem lw_p18 : lw_okq (⟨"MotherTowns$Fillings", "fillClause", "(I)V"⟩, 6) := ⟨⟨by decide +kernel, by decide +kernel⟩, List.mem_of_getElem? (i := 183) (by decide +kernel), List.mem_of_getElem? (i := 721) (by decide +kernel), List.mem_of_getElem? (i := 722) (by decide +kernel)⟩
theorem lw_p19 : lw_okq (⟨"MotherTowns$Fillings", "weighChapter", "(II)I"⟩, 6) := ⟨⟨by decide +kernel, by decide +kernel⟩, List.mem_of_getElem? (i := 183) (by decide +kernel), List.mem_of_getElem? (i := 732) (by decide +kernel), List.mem_of_getElem? (i := 733) (by decide +kernel)⟩
theorem lw_p20 : lw_okq (⟨"MotherTowns$Fillings", "paid", "(II)I"⟩, 6) := ⟨⟨by decide +kernel, by decide +kernel⟩, List.mem_of_getElem? (i := 183) (by decide +kernel), List.mem_of_getElem? (i := 736) (by decide +kernel), List.mem_of_getElem? (i := 737) (by decide +kernel)⟩
theorem lw_p21 : lw_okq (⟨"MotherTowns$Fillings", "filledForm", "(II)I"⟩, 6) := ⟨⟨by decide +kernel, by decide +kernel⟩, List.mem_of_getElem? (i := 183) (by decide +kernel), List.mem_of_getElem? (i := 740) (by decide +kernel), List.mem_of_getElem? (i := 741) (by decide +kernel)⟩
theorem lw_p22 : lw_okq (⟨"MotherTowns$Fillings", "leastLender", "(II)I"⟩, 6) := ⟨⟨by decide +kernel, by decide +kernel⟩, List.mem_of_getElem? (i := 183) (by decide +kernel), List.mem_of_getElem? (i := 745) (by decide +kernel), List.mem_of_getElem? (i := 746) (by decide +kernel)⟩
theorem lw_p23 : lw_okq (⟨"MotherTowns$Fillings", "lends", "(II)Z"⟩, 6) := ⟨⟨by decide +kernel, by decide +kernel⟩, List.mem_of_getElem? (i := 183) (by decide +kernel), List.mem_of_getElem? (i := 749) (by decide +kernel), List.mem_of_getElem? (i := 750) (by decide +kernel)⟩
theorem lw_p24 : lw_okq (⟨"MotherTowns$Fillings", "gainBeside", "(III)V"⟩, 6) := ⟨⟨by decide +kernel, by decide +kernel⟩, List.mem_of_getElem? (i := 183) (by decide +kernel), List.mem_of_getElem? (i := 756) (by decide +kernel), List.mem_of_getElem? (i := 757) (by decide +kernel)⟩
theorem lw_p25 : lw_okq (⟨"MotherTowns$Fillings", "gainOfChapter", "(III)V"⟩, 6) := ⟨⟨by decide +kernel, by decide +kernel⟩, List.mem_of_getElem? (i := 183) (by decide +kernel), List.mem_of_getElem? (i := 761) (by decide +kernel), List.mem_of_getElem? (i := 762) (by decide +kernel)⟩
theorem lw_p26 : lw_okq (⟨"MotherTowns$Fillings", "share", "(I)V"⟩, 6) := ⟨⟨by decide +kernel, by decide +kernel⟩, List.mem_of_getElem? (i := 183) (by decide +kernel), List.mem_of_getElem? (i := 765) (by decide +kernel), List.mem_of_getElem? (i := 766) (by decide +kernel)⟩
theorem lw_p27 : lw_okq (⟨"MotherTowns$Clashes", "clash", "(II)Z"⟩, 2) := ⟨⟨by decide +kernel, by decide +kernel⟩, List.mem_of_getElem? (i := 265) (by decide +kernel), List.mem_of_getElem? (i := 786) (by decide +kernel), List.mem_of_getElem? (i := 787) (by decide +kernel)⟩
theorem lw_p28 : lw_okq (⟨"MotherTowns$Clashes", "involve", "()I"⟩, 2) := ⟨⟨by decide +kernel, by decide +kernel⟩, List.mem_of_getElem? (i := 265) (by decide +kernel), List.mem_of_getElem? (i := 799) (by decide +kernel), List.mem_of_getElem? (i := 800) (by decide +kernel)⟩
theorem lw_p29 : lw_okq (⟨"MotherTowns$Clashes", "frees", "(I)Z"⟩, 2) := ⟨⟨by decide +kernel, by decide +kernel⟩, List.mem_of_getElem? (i := 265) (by decide +kernel), List.mem_of_getElem? (i := 805) (by decide +kernel), List.mem_of_getElem? (i := 806) (by decide +kernel)⟩
theorem lw_p30 : lw_okq (⟨"MotherTowns$Claims", "holdWithout", "(I)Z"⟩, 2) := ⟨⟨by decide +kernel, by decide +kernel⟩, List.mem_of_getElem? (i := 278) (by decide +kernel), List.mem_of_getElem? (i := 818) (by decide +kernel), List.mem_of_getElem? (i := 819) (by decide +kernel)⟩
theorem lw_p31 : lw_okq (⟨"MotherTowns$Paths", "costs", "(I)I"⟩, 8) := ⟨⟨by decide +kernel, by decide +kernel⟩, List.mem_of_getElem? (i := 293) (by decide +kernel), List.mem_of_getElem? (i := 931) (by decide +kernel), List.mem_of_getElem? (i := 932) (by decide +kernel)⟩
def lw_privs_2 : List (MethodName × Nat) := [(⟨"MotherTowns$BestTrees", "weigh", "(I)V"⟩, 15), (⟨"MotherTowns$BestTrees", "writeClause", "(I)V"⟩, 15), (⟨"MotherTowns$Fillings", "fillClause", "(I)V"⟩, 6), (⟨"MotherTowns$Fillings", "weighChapter", "(II)I"⟩, 6), (⟨"MotherTowns$Fillings", "paid", "(II)I"⟩, 6), (⟨"MotherTowns$Fillings", "filledForm", "(II)I"⟩, 6), (⟨"MotherTowns$Fillings", "leastLender", "(II)I"⟩, 6), (⟨"MotherTowns$Fillings", "lends", "(II)Z"⟩, 6), (⟨"MotherTowns$Fillings", "gainBeside", "(III)V"⟩, 6), (⟨"MotherTowns$Fillings", "gainOfChapter", "(III)V"⟩, 6), (⟨"MotherTowns$Fillings", "share", "(I)V"⟩, 6), (⟨"MotherTowns$Clashes", "clash", "(II)Z"⟩, 2), (⟨"MotherTowns$Clashes", "involve", "()I"⟩, 2), (⟨"MotherTowns$Clashes", "frees", "(I)Z"⟩, 2), (⟨"MotherTowns$Claims", "holdWithout", "(I)Z"⟩, 2), (⟨"MotherTowns$Paths", "costs", "(I)I"⟩, 8)]
theorem lw_r2 : ∀ q ∈ lw_privs_2, lw_okq q := List.forall_mem_cons.mpr ⟨lw_p16, List.forall_mem_cons.mpr ⟨lw_p17, List.forall_mem_cons.mpr ⟨lw_p18, List.forall_mem_cons.mpr ⟨lw_p19, List.forall_mem_cons.mpr ⟨lw_p20, List.forall_mem_cons.mpr ⟨lw_p21, List.forall_mem_cons.mpr ⟨lw_p22, List.forall_mem_cons.mpr ⟨lw_p23, List.forall_mem_cons.mpr ⟨lw_p24, List.forall_mem_cons.mpr ⟨lw_p25, List.forall_mem_cons.mpr ⟨lw_p26, List.forall_mem_cons.mpr ⟨lw_p27, List.forall_mem_cons.mpr ⟨lw_p28, List.forall_mem_cons.mpr ⟨lw_p29, List.forall_mem_cons.mpr ⟨lw_p30, List.forall_mem_cons.mpr ⟨lw_p31, fun _ h => absurd h List.not_mem_nil⟩⟩⟩⟩⟩⟩⟩⟩⟩⟩⟩⟩⟩⟩⟩⟩
theorem lw_p32 : lw_okq (⟨"MotherTowns$Paths", "began", "(I)V"⟩, 8) := ⟨⟨by decide +kernel, by decide +kernel⟩, List.mem_of_getElem? (i := 293) (by decide +kernel), List.mem_of_getElem? (i := 935) (by decide +kernel), List.mem_of_getElem? (i := 936) (by decide +kernel)⟩
theorem lw_p33 : lw_okq (⟨"MotherTowns$Paths", "lets", "(I)I"⟩, 8) := ⟨⟨by decide +kernel, by decide +kernel⟩, List.mem_of_getElem? (i := 293) (by decide +kernel), List.mem_of_getElem? (i := 939) (by decide +kernel), List.mem_of_getElem? (i := 940) (by decide +kernel)⟩
theorem lw_p34 : lw_okq (⟨"MotherTowns$Paths", "holds", "(I)I"⟩, 8) := ⟨⟨by decide +kernel, by decide +kernel⟩, List.mem_of_getElem? (i := 293) (by decide +kernel), List.mem_of_getElem? (i := 949) (by decide +kernel), List.mem_of_getElem? (i := 950) (by decide +kernel)⟩
theorem lw_p35 : lw_okq (⟨"MotherTowns$Paths", "tells", "(I)I"⟩, 8) := ⟨⟨by decide +kernel, by decide +kernel⟩, List.mem_of_getElem? (i := 293) (by decide +kernel), List.mem_of_getElem? (i := 953) (by decide +kernel), List.mem_of_getElem? (i := 954) (by decide +kernel)⟩
theorem lw_p36 : lw_okq (⟨"MotherTowns", "elementRefusal", "(II)I"⟩, 9) := ⟨⟨by decide +kernel, by decide +kernel⟩, List.mem_of_getElem? (i := 18) (by decide +kernel), List.mem_of_getElem? (i := 984) (by decide +kernel), List.mem_of_getElem? (i := 985) (by decide +kernel)⟩
theorem lw_p37 : lw_okq (⟨"MotherTownsModel", "clear", "(I)V"⟩, 55) := ⟨⟨by decide +kernel, by decide +kernel⟩, List.mem_of_getElem? (i := 1015) (by decide +kernel), List.mem_of_getElem? (i := 1199) (by decide +kernel), List.mem_of_getElem? (i := 1200) (by decide +kernel)⟩
theorem lw_p38 : lw_okq (⟨"MotherTownsModel", "readAll", "(I)V"⟩, 55) := ⟨⟨by decide +kernel, by decide +kernel⟩, List.mem_of_getElem? (i := 1015) (by decide +kernel), List.mem_of_getElem? (i := 1203) (by decide +kernel), List.mem_of_getElem? (i := 1204) (by decide +kernel)⟩
theorem lw_p39 : lw_okq (⟨"MotherTownsModel", "number", "(I)I"⟩, 55) := ⟨⟨by decide +kernel, by decide +kernel⟩, List.mem_of_getElem? (i := 1015) (by decide +kernel), List.mem_of_getElem? (i := 1207) (by decide +kernel), List.mem_of_getElem? (i := 1208) (by decide +kernel)⟩
theorem lw_p40 : lw_okq (⟨"MotherTownsModel", "look", "()I"⟩, 55) := ⟨⟨by decide +kernel, by decide +kernel⟩, List.mem_of_getElem? (i := 1015) (by decide +kernel), List.mem_of_getElem? (i := 1211) (by decide +kernel), List.mem_of_getElem? (i := 1212) (by decide +kernel)⟩
theorem lw_p41 : lw_okq (⟨"MotherTownsModel", "wrong", "(I)V"⟩, 55) := ⟨⟨by decide +kernel, by decide +kernel⟩, List.mem_of_getElem? (i := 1015) (by decide +kernel), List.mem_of_getElem? (i := 1215) (by decide +kernel), List.mem_of_getElem? (i := 1216) (by decide +kernel)⟩
theorem lw_p42 : lw_okq (⟨"MotherTownsModel", "isNext", "(I)Z"⟩, 55) := ⟨⟨by decide +kernel, by decide +kernel⟩, List.mem_of_getElem? (i := 1015) (by decide +kernel), List.mem_of_getElem? (i := 1219) (by decide +kernel), List.mem_of_getElem? (i := 1220) (by decide +kernel)⟩
theorem lw_p43 : lw_okq (⟨"MotherTownsModel", "readClause", "(II)I"⟩, 55) := ⟨⟨by decide +kernel, by decide +kernel⟩, List.mem_of_getElem? (i := 1015) (by decide +kernel), List.mem_of_getElem? (i := 1223) (by decide +kernel), List.mem_of_getElem? (i := 1224) (by decide +kernel)⟩
theorem lw_p44 : lw_okq (⟨"MotherTownsModel", "isCharter", "(I)Z"⟩, 55) := ⟨⟨by decide +kernel, by decide +kernel⟩, List.mem_of_getElem? (i := 1015) (by decide +kernel), List.mem_of_getElem? (i := 1241) (by decide +kernel), List.mem_of_getElem? (i := 1242) (by decide +kernel)⟩
theorem lw_p45 : lw_okq (⟨"MotherTownsModel", "set", "(III)V"⟩, 55) := ⟨⟨by decide +kernel, by decide +kernel⟩, List.mem_of_getElem? (i := 1015) (by decide +kernel), List.mem_of_getElem? (i := 1249) (by decide +kernel), List.mem_of_getElem? (i := 1250) (by decide +kernel)⟩
theorem lw_p46 : lw_okq (⟨"MotherTownsModel", "changes", "(III)I"⟩, 55) := ⟨⟨by decide +kernel, by decide +kernel⟩, List.mem_of_getElem? (i := 1015) (by decide +kernel), List.mem_of_getElem? (i := 1261) (by decide +kernel), List.mem_of_getElem? (i := 1262) (by decide +kernel)⟩
theorem lw_p47 : lw_okq (⟨"MotherTownsModel", "valueAt", "(II)I"⟩, 55) := ⟨⟨by decide +kernel, by decide +kernel⟩, List.mem_of_getElem? (i := 1015) (by decide +kernel), List.mem_of_getElem? (i := 1265) (by decide +kernel), List.mem_of_getElem? (i := 1266) (by decide +kernel)⟩
def lw_privs_3 : List (MethodName × Nat) := [(⟨"MotherTowns$Paths", "began", "(I)V"⟩, 8), (⟨"MotherTowns$Paths", "lets", "(I)I"⟩, 8), (⟨"MotherTowns$Paths", "holds", "(I)I"⟩, 8), (⟨"MotherTowns$Paths", "tells", "(I)I"⟩, 8), (⟨"MotherTowns", "elementRefusal", "(II)I"⟩, 9), (⟨"MotherTownsModel", "clear", "(I)V"⟩, 55), (⟨"MotherTownsModel", "readAll", "(I)V"⟩, 55), (⟨"MotherTownsModel", "number", "(I)I"⟩, 55), (⟨"MotherTownsModel", "look", "()I"⟩, 55), (⟨"MotherTownsModel", "wrong", "(I)V"⟩, 55), (⟨"MotherTownsModel", "isNext", "(I)Z"⟩, 55), (⟨"MotherTownsModel", "readClause", "(II)I"⟩, 55), (⟨"MotherTownsModel", "isCharter", "(I)Z"⟩, 55), (⟨"MotherTownsModel", "set", "(III)V"⟩, 55), (⟨"MotherTownsModel", "changes", "(III)I"⟩, 55), (⟨"MotherTownsModel", "valueAt", "(II)I"⟩, 55)]
theorem lw_r3 : ∀ q ∈ lw_privs_3, lw_okq q := List.forall_mem_cons.mpr ⟨lw_p32, List.forall_mem_cons.mpr ⟨lw_p33, List.forall_mem_cons.mpr ⟨lw_p34, List.forall_mem_cons.mpr ⟨lw_p35, List.forall_mem_cons.mpr ⟨lw_p36, List.forall_mem_cons.mpr ⟨lw_p37, List.forall_mem_cons.mpr ⟨lw_p38, List.forall_mem_cons.mpr ⟨lw_p39, List.forall_mem_cons.mpr ⟨lw_p40, List.forall_mem_cons.mpr ⟨lw_p41, List.forall_mem_cons.mpr ⟨lw_p42, List.forall_mem_cons.mpr ⟨lw_p43, List.forall_mem_cons.mpr ⟨lw_p44, List.forall_mem_cons.mpr ⟨lw_p45, List.forall_mem_cons.mpr ⟨lw_p46, List.forall_mem_cons.mpr ⟨lw_p47, fun _ h => absurd h List.not_mem_nil⟩⟩⟩⟩⟩⟩⟩⟩⟩⟩⟩⟩⟩⟩⟩⟩
theorem lw_p48 : lw_okq (⟨"MotherTownsModel", "isAbove", "(II)Z"⟩, 55) := ⟨⟨by decide +kernel, by decide +kernel⟩, List.mem_of_getElem? (i := 1015) (by decide +kernel), List.mem_of_getElem? (i := 1293) (by decide +kernel), List.mem_of_getElem? (i := 1294) (by decide +kernel)⟩
theorem lw_p49 : lw_okq (⟨"MotherTownsModel", "lookAtAll", "()V"⟩, 55) := ⟨⟨by decide +kernel, by decide +kernel⟩, List.mem_of_getElem? (i := 1015) (by decide +kernel), List.mem_of_getElem? (i := 1301) (by decide +kernel), List.mem_of_getElem? (i := 1302) (by decide +kernel)⟩
theorem lw_p50 : lw_okq (⟨"MotherTownsModel", "findOrder", "()V"⟩, 55) := ⟨⟨by decide +kernel, by decide +kernel⟩, List.mem_of_getElem? (i := 1015) (by decide +kernel), List.mem_of_getElem? (i := 1305) (by decide +kernel), List.mem_of_getElem? (i := 1306) (by decide +kernel)⟩
theorem lw_p51 : lw_okq (⟨"MotherTownsModel", "isOrdered", "(I)Z"⟩, 55) := ⟨⟨by decide +kernel, by decide +kernel⟩, List.mem_of_getElem? (i := 1015) (by decide +kernel), List.mem_of_getElem? (i := 1309) (by decide +kernel), List.mem_of_getElem? (i := 1310) (by decide +kernel)⟩
theorem lw_p52 : lw_okq (⟨"MotherTownsModel", "costOf", "(I)I"⟩, 55) := ⟨⟨by decide +kernel, by decide +kernel⟩, List.mem_of_getElem? (i := 1015) (by decide +kernel), List.mem_of_getElem? (i := 1313) (by decide +kernel), List.mem_of_getElem? (i := 1314) (by decide +kernel)⟩
theorem lw_p53 : lw_okq (⟨"MotherTownsModel", "mayBe", "(III)Z"⟩, 55) := ⟨⟨by decide +kernel, by decide +kernel⟩, List.mem_of_getElem? (i := 1015) (by decide +kernel), List.mem_of_getElem? (i := 1317) (by decide +kernel), List.mem_of_getElem? (i := 1318) (by decide +kernel)⟩
theorem lw_p54 : lw_okq (⟨"MotherTownsModel", "leastFrom", "(II)I"⟩, 55) := ⟨⟨by decide +kernel, by decide +kernel⟩, List.mem_of_getElem? (i := 1015) (by decide +kernel), List.mem_of_getElem? (i := 1322) (by decide +kernel), List.mem_of_getElem? (i := 1323) (by decide +kernel)⟩
theorem lw_p55 : lw_okq (⟨"MotherTownsModel", "priceOf", "(II)I"⟩, 55) := ⟨⟨by decide +kernel, by decide +kernel⟩, List.mem_of_getElem? (i := 1015) (by decide +kernel), List.mem_of_getElem? (i := 1326) (by decide +kernel), List.mem_of_getElem? (i := 1327) (by decide +kernel)⟩
theorem lw_p56 : lw_okq (⟨"MotherTownsModel", "filledBy", "(II)I"⟩, 55) := ⟨⟨by decide +kernel, by decide +kernel⟩, List.mem_of_getElem? (i := 1015) (by decide +kernel), List.mem_of_getElem? (i := 1337) (by decide +kernel), List.mem_of_getElem? (i := 1338) (by decide +kernel)⟩
theorem lw_p57 : lw_okq (⟨"MotherTownsModel", "findBeyond", "()V"⟩, 55) := ⟨⟨by decide +kernel, by decide +kernel⟩, List.mem_of_getElem? (i := 1015) (by decide +kernel), List.mem_of_getElem? (i := 1341) (by decide +kernel), List.mem_of_getElem? (i := 1342) (by decide +kernel)⟩
theorem lw_p58 : lw_okq (⟨"MotherTownsModel", "findDays", "()I"⟩, 55) := ⟨⟨by decide +kernel, by decide +kernel⟩, List.mem_of_getElem? (i := 1015) (by decide +kernel), List.mem_of_getElem? (i := 1353) (by decide +kernel), List.mem_of_getElem? (i := 1354) (by decide +kernel)⟩
theorem lw_p59 : lw_okq (⟨"MotherTownsModel", "placeOf", "(I)I"⟩, 55) := ⟨⟨by decide +kernel, by decide +kernel⟩, List.mem_of_getElem? (i := 1015) (by decide +kernel), List.mem_of_getElem? (i := 1364) (by decide +kernel), List.mem_of_getElem? (i := 1365) (by decide +kernel)⟩
theorem lw_p60 : lw_okq (⟨"MotherTownsModel", "boundNow", "()I"⟩, 55) := ⟨⟨by decide +kernel, by decide +kernel⟩, List.mem_of_getElem? (i := 1015) (by decide +kernel), List.mem_of_getElem? (i := 1376) (by decide +kernel), List.mem_of_getElem? (i := 1377) (by decide +kernel)⟩
theorem lw_p61 : lw_okq (⟨"MotherTownsModel", "findBest", "()V"⟩, 55) := ⟨⟨by decide +kernel, by decide +kernel⟩, List.mem_of_getElem? (i := 1015) (by decide +kernel), List.mem_of_getElem? (i := 1380) (by decide +kernel), List.mem_of_getElem? (i := 1381) (by decide +kernel)⟩
theorem lw_p62 : lw_okq (⟨"MotherTownsModel", "mothersFrom", "(II)V"⟩, 55) := ⟨⟨by decide +kernel, by decide +kernel⟩, List.mem_of_getElem? (i := 1015) (by decide +kernel), List.mem_of_getElem? (i := 1384) (by decide +kernel), List.mem_of_getElem? (i := 1385) (by decide +kernel)⟩
theorem lw_p63 : lw_okq (⟨"MotherTownsModel", "weigh", "()V"⟩, 55) := ⟨⟨by decide +kernel, by decide +kernel⟩, List.mem_of_getElem? (i := 1015) (by decide +kernel), List.mem_of_getElem? (i := 1388) (by decide +kernel), List.mem_of_getElem? (i := 1389) (by decide +kernel)⟩
def lw_privs_4 : List (MethodName × Nat) := [(⟨"MotherTownsModel", "isAbove", "(II)Z"⟩, 55), (⟨"MotherTownsModel", "lookAtAll", "()V"⟩, 55), (⟨"MotherTownsModel", "findOrder", "()V"⟩, 55), (⟨"MotherTownsModel", "isOrdered", "(I)Z"⟩, 55), (⟨"MotherTownsModel", "costOf", "(I)I"⟩, 55), (⟨"MotherTownsModel", "mayBe", "(III)Z"⟩, 55), (⟨"MotherTownsModel", "leastFrom", "(II)I"⟩, 55), (⟨"MotherTownsModel", "priceOf", "(II)I"⟩, 55), (⟨"MotherTownsModel", "filledBy", "(II)I"⟩, 55), (⟨"MotherTownsModel", "findBeyond", "()V"⟩, 55), (⟨"MotherTownsModel", "findDays", "()I"⟩, 55), (⟨"MotherTownsModel", "placeOf", "(I)I"⟩, 55), (⟨"MotherTownsModel", "boundNow", "()I"⟩, 55), (⟨"MotherTownsModel", "findBest", "()V"⟩, 55), (⟨"MotherTownsModel", "mothersFrom", "(II)V"⟩, 55), (⟨"MotherTownsModel", "weigh", "()V"⟩, 55)]
theorem lw_r4 : ∀ q ∈ lw_privs_4, lw_okq q := List.forall_mem_cons.mpr ⟨lw_p48, List.forall_mem_cons.mpr ⟨lw_p49, List.forall_mem_cons.mpr ⟨lw_p50, List.forall_mem_cons.mpr ⟨lw_p51, List.forall_mem_cons.mpr ⟨lw_p52, List.forall_mem_cons.mpr ⟨lw_p53, List.forall_mem_cons.mpr ⟨lw_p54, List.forall_mem_cons.mpr ⟨lw_p55, List.forall_mem_cons.mpr ⟨lw_p56, List.forall_mem_cons.mpr ⟨lw_p57, List.forall_mem_cons.mpr ⟨lw_p58, List.forall_mem_cons.mpr ⟨lw_p59, List.forall_mem_cons.mpr ⟨lw_p60, List.forall_mem_cons.mpr ⟨lw_p61, List.forall_mem_cons.mpr ⟨lw_p62, List.forall_mem_cons.mpr ⟨lw_p63, fun _ h => absurd h List.not_mem_nil⟩⟩⟩⟩⟩⟩⟩⟩⟩⟩⟩⟩⟩⟩⟩⟩
theorem lw_p64 : lw_okq (⟨"MotherTownsModel", "isOneTree", "()Z"⟩, 55) := ⟨⟨by decide +kernel, by decide +kernel⟩, List.mem_of_getElem? (i := 1015) (by decide +kernel), List.mem_of_getElem? (i := 1392) (by decide +kernel), List.mem_of_getElem? (i := 1393) (by decide +kernel)⟩
theorem lw_p65 : lw_okq (⟨"MotherTownsModel", "fillAll", "()V"⟩, 55) := ⟨⟨by decide +kernel, by decide +kernel⟩, List.mem_of_getElem? (i := 1015) (by decide +kernel), List.mem_of_getElem? (i := 1412) (by decide +kernel), List.mem_of_getElem? (i := 1413) (by decide +kernel)⟩
theorem lw_p66 : lw_okq (⟨"MotherTownsModel", "findChapter", "(II)V"⟩, 55) := ⟨⟨by decide +kernel, by decide +kernel⟩, List.mem_of_getElem? (i := 1015) (by decide +kernel), List.mem_of_getElem? (i := 1416) (by decide +kernel), List.mem_of_getElem? (i := 1417) (by decide +kernel)⟩
theorem lw_p67 : lw_okq (⟨"MotherTownsModel", "tryChapter", "(III)V"⟩, 55) := ⟨⟨by decide +kernel, by decide +kernel⟩, List.mem_of_getElem? (i := 1015) (by decide +kernel), List.mem_of_getElem? (i := 1420) (by decide +kernel), List.mem_of_getElem? (i := 1421) (by decide +kernel)⟩
theorem lw_p68 : lw_okq (⟨"MotherTownsModel", "isAlike", "(III)Z"⟩, 55) := ⟨⟨by decide +kernel, by decide +kernel⟩, List.mem_of_getElem? (i := 1015) (by decide +kernel), List.mem_of_getElem? (i := 1424) (by decide +kernel), List.mem_of_getElem? (i := 1425) (by decide +kernel)⟩
theorem lw_p69 : lw_okq (⟨"MotherTownsModel", "baseOf", "(II)I"⟩, 55) := ⟨⟨by decide +kernel, by decide +kernel⟩, List.mem_of_getElem? (i := 1015) (by decide +kernel), List.mem_of_getElem? (i := 1428) (by decide +kernel), List.mem_of_getElem? (i := 1429) (by decide +kernel)⟩
theorem lw_p70 : lw_okq (⟨"MotherTownsModel", "canBorrow", "(II)Z"⟩, 55) := ⟨⟨by decide +kernel, by decide +kernel⟩, List.mem_of_getElem? (i := 1015) (by decide +kernel), List.mem_of_getElem? (i := 1432) (by decide +kernel), List.mem_of_getElem? (i := 1433) (by decide +kernel)⟩
theorem lw_p71 : lw_okq (⟨"MotherTownsModel", "canLend", "(II)Z"⟩, 55) := ⟨⟨by decide +kernel, by decide +kernel⟩, List.mem_of_getElem? (i := 1015) (by decide +kernel), List.mem_of_getElem? (i := 1436) (by decide +kernel), List.mem_of_getElem? (i := 1437) (by decide +kernel)⟩
theorem lw_p72 : lw_okq (⟨"MotherTownsModel", "addGain", "(II)V"⟩, 55) := ⟨⟨by decide +kernel, by decide +kernel⟩, List.mem_of_getElem? (i := 1015) (by decide +kernel), List.mem_of_getElem? (i := 1440) (by decide +kernel), List.mem_of_getElem? (i := 1441) (by decide +kernel)⟩
theorem lw_p73 : lw_okq (⟨"MotherTownsModel", "findPairs", "()V"⟩, 55) := ⟨⟨by decide +kernel, by decide +kernel⟩, List.mem_of_getElem? (i := 1015) (by decide +kernel), List.mem_of_getElem? (i := 1456) (by decide +kernel), List.mem_of_getElem? (i := 1457) (by decide +kernel)⟩
theorem lw_p74 : lw_okq (⟨"MotherTownsModel", "doClash", "(II)Z"⟩, 55) := ⟨⟨by decide +kernel, by decide +kernel⟩, List.mem_of_getElem? (i := 1015) (by decide +kernel), List.mem_of_getElem? (i := 1460) (by decide +kernel), List.mem_of_getElem? (i := 1461) (by decide +kernel)⟩
theorem lw_p75 : lw_okq (⟨"MotherTownsModel", "frees", "(I)Z"⟩, 55) := ⟨⟨by decide +kernel, by decide +kernel⟩, List.mem_of_getElem? (i := 1015) (by decide +kernel), List.mem_of_getElem? (i := 1473) (by decide +kernel), List.mem_of_getElem? (i := 1474) (by decide +kernel)⟩
theorem lw_p76 : lw_okq (⟨"MotherTownsModel", "doAgree", "(I)Z"⟩, 55) := ⟨⟨by decide +kernel, by decide +kernel⟩, List.mem_of_getElem? (i := 1015) (by decide +kernel), List.mem_of_getElem? (i := 1481) (by decide +kernel), List.mem_of_getElem? (i := 1482) (by decide +kernel)⟩
theorem lw_p77 : lw_okq (⟨"MotherTownsModel", "slipOf", "(II)I"⟩, 55) := ⟨⟨by decide +kernel, by decide +kernel⟩, List.mem_of_getElem? (i := 1015) (by decide +kernel), List.mem_of_getElem? (i := 1493) (by decide +kernel), List.mem_of_getElem? (i := 1494) (by decide +kernel)⟩
theorem lw_p78 : lw_okq (⟨"MotherTownsModel", "reaches", "(III)Z"⟩, 55) := ⟨⟨by decide +kernel, by decide +kernel⟩, List.mem_of_getElem? (i := 1015) (by decide +kernel), List.mem_of_getElem? (i := 1510) (by decide +kernel), List.mem_of_getElem? (i := 1511) (by decide +kernel)⟩
theorem lw_p79 : lw_okq (⟨"MotherTownsModel", "numberAt", "(I)I"⟩, 55) := ⟨⟨by decide +kernel, by decide +kernel⟩, List.mem_of_getElem? (i := 1015) (by decide +kernel), List.mem_of_getElem? (i := 1514) (by decide +kernel), List.mem_of_getElem? (i := 1515) (by decide +kernel)⟩
def lw_privs_5 : List (MethodName × Nat) := [(⟨"MotherTownsModel", "isOneTree", "()Z"⟩, 55), (⟨"MotherTownsModel", "fillAll", "()V"⟩, 55), (⟨"MotherTownsModel", "findChapter", "(II)V"⟩, 55), (⟨"MotherTownsModel", "tryChapter", "(III)V"⟩, 55), (⟨"MotherTownsModel", "isAlike", "(III)Z"⟩, 55), (⟨"MotherTownsModel", "baseOf", "(II)I"⟩, 55), (⟨"MotherTownsModel", "canBorrow", "(II)Z"⟩, 55), (⟨"MotherTownsModel", "canLend", "(II)Z"⟩, 55), (⟨"MotherTownsModel", "addGain", "(II)V"⟩, 55), (⟨"MotherTownsModel", "findPairs", "()V"⟩, 55), (⟨"MotherTownsModel", "doClash", "(II)Z"⟩, 55), (⟨"MotherTownsModel", "frees", "(I)Z"⟩, 55), (⟨"MotherTownsModel", "doAgree", "(I)Z"⟩, 55), (⟨"MotherTownsModel", "slipOf", "(II)I"⟩, 55), (⟨"MotherTownsModel", "reaches", "(III)Z"⟩, 55), (⟨"MotherTownsModel", "numberAt", "(I)I"⟩, 55)]
theorem lw_r5 : ∀ q ∈ lw_privs_5, lw_okq q := List.forall_mem_cons.mpr ⟨lw_p64, List.forall_mem_cons.mpr ⟨lw_p65, List.forall_mem_cons.mpr ⟨lw_p66, List.forall_mem_cons.mpr ⟨lw_p67, List.forall_mem_cons.mpr ⟨lw_p68, List.forall_mem_cons.mpr ⟨lw_p69, List.forall_mem_cons.mpr ⟨lw_p70, List.forall_mem_cons.mpr ⟨lw_p71, List.forall_mem_cons.mpr ⟨lw_p72, List.forall_mem_cons.mpr ⟨lw_p73, List.forall_mem_cons.mpr ⟨lw_p74, List.forall_mem_cons.mpr ⟨lw_p75, List.forall_mem_cons.mpr ⟨lw_p76, List.forall_mem_cons.mpr ⟨lw_p77, List.forall_mem_cons.mpr ⟨lw_p78, List.forall_mem_cons.mpr ⟨lw_p79, fun _ h => absurd h List.not_mem_nil⟩⟩⟩⟩⟩⟩⟩⟩⟩⟩⟩⟩⟩⟩⟩⟩
theorem lw_p80 : lw_okq (⟨"MotherTownsModel", "copyRow", "(I)V"⟩, 55) := ⟨⟨by decide +kernel, by decide +kernel⟩, List.mem_of_getElem? (i := 1015) (by decide +kernel), List.mem_of_getElem? (i := 1518) (by decide +kernel), List.mem_of_getElem? (i := 1519) (by decide +kernel)⟩
theorem lw_p81 : lw_okq (⟨"MotherTownsModel", "isBody", "(I)Z"⟩, 55) := ⟨⟨by decide +kernel, by decide +kernel⟩, List.mem_of_getElem? (i := 1015) (by decide +kernel), List.mem_of_getElem? (i := 1530) (by decide +kernel), List.mem_of_getElem? (i := 1531) (by decide +kernel)⟩
theorem lw_p82 : lw_okq (⟨"MotherTownsModel", "costs", "(II)I"⟩, 55) := ⟨⟨by decide +kernel, by decide +kernel⟩, List.mem_of_getElem? (i := 1015) (by decide +kernel), List.mem_of_getElem? (i := 1534) (by decide +kernel), List.mem_of_getElem? (i := 1535) (by decide +kernel)⟩
theorem lw_p83 : lw_okq (⟨"MotherTownsModel", "ran", "(I)V"⟩, 55) := ⟨⟨by decide +kernel, by decide +kernel⟩, List.mem_of_getElem? (i := 1015) (by decide +kernel), List.mem_of_getElem? (i := 1538) (by decide +kernel), List.mem_of_getElem? (i := 1539) (by decide +kernel)⟩
theorem lw_p84 : lw_okq (⟨"MotherTownsModel", "plainCosts", "(II)I"⟩, 55) := ⟨⟨by decide +kernel, by decide +kernel⟩, List.mem_of_getElem? (i := 1015) (by decide +kernel), List.mem_of_getElem? (i := 1542) (by decide +kernel), List.mem_of_getElem? (i := 1543) (by decide +kernel)⟩
theorem lw_p85 : lw_okq (⟨"MotherTownsModel", "lets", "(II)I"⟩, 55) := ⟨⟨by decide +kernel, by decide +kernel⟩, List.mem_of_getElem? (i := 1015) (by decide +kernel), List.mem_of_getElem? (i := 1546) (by decide +kernel), List.mem_of_getElem? (i := 1547) (by decide +kernel)⟩
theorem lw_p86 : lw_okq (⟨"MotherTownsModel", "childLets", "(II)I"⟩, 55) := ⟨⟨by decide +kernel, by decide +kernel⟩, List.mem_of_getElem? (i := 1015) (by decide +kernel), List.mem_of_getElem? (i := 1550) (by decide +kernel), List.mem_of_getElem? (i := 1551) (by decide +kernel)⟩
theorem lw_p87 : lw_okq (⟨"MotherTownsModel", "plainLets", "(II)I"⟩, 55) := ⟨⟨by decide +kernel, by decide +kernel⟩, List.mem_of_getElem? (i := 1015) (by decide +kernel), List.mem_of_getElem? (i := 1554) (by decide +kernel), List.mem_of_getElem? (i := 1555) (by decide +kernel)⟩
theorem lw_p88 : lw_okq (⟨"MotherTownsModel", "keeps", "(II)I"⟩, 55) := ⟨⟨by decide +kernel, by decide +kernel⟩, List.mem_of_getElem? (i := 1015) (by decide +kernel), List.mem_of_getElem? (i := 1558) (by decide +kernel), List.mem_of_getElem? (i := 1559) (by decide +kernel)⟩
theorem lw_p89 : lw_okq (⟨"MotherTownsModel", "plainKeeps", "(II)I"⟩, 55) := ⟨⟨by decide +kernel, by decide +kernel⟩, List.mem_of_getElem? (i := 1015) (by decide +kernel), List.mem_of_getElem? (i := 1562) (by decide +kernel), List.mem_of_getElem? (i := 1563) (by decide +kernel)⟩
theorem lw_p90 : lw_okq (⟨"MotherTownsModel", "lostKeeps", "(II)I"⟩, 55) := ⟨⟨by decide +kernel, by decide +kernel⟩, List.mem_of_getElem? (i := 1015) (by decide +kernel), List.mem_of_getElem? (i := 1566) (by decide +kernel), List.mem_of_getElem? (i := 1567) (by decide +kernel)⟩
theorem lw_p91 : lw_okq (⟨"MotherTownsModel", "tells", "(II)I"⟩, 55) := ⟨⟨by decide +kernel, by decide +kernel⟩, List.mem_of_getElem? (i := 1015) (by decide +kernel), List.mem_of_getElem? (i := 1573) (by decide +kernel), List.mem_of_getElem? (i := 1574) (by decide +kernel)⟩
theorem lw_p92 : lw_okq (⟨"MotherTownsModel", "plainTells", "(II)I"⟩, 55) := ⟨⟨by decide +kernel, by decide +kernel⟩, List.mem_of_getElem? (i := 1015) (by decide +kernel), List.mem_of_getElem? (i := 1577) (by decide +kernel), List.mem_of_getElem? (i := 1578) (by decide +kernel)⟩
theorem lw_p93 : lw_okq (⟨"MotherTownsModel", "whyNoPlace", "(II)I"⟩, 55) := ⟨⟨by decide +kernel, by decide +kernel⟩, List.mem_of_getElem? (i := 1015) (by decide +kernel), List.mem_of_getElem? (i := 1601) (by decide +kernel), List.mem_of_getElem? (i := 1602) (by decide +kernel)⟩
def lw_privs_6 : List (MethodName × Nat) := [(⟨"MotherTownsModel", "copyRow", "(I)V"⟩, 55), (⟨"MotherTownsModel", "isBody", "(I)Z"⟩, 55), (⟨"MotherTownsModel", "costs", "(II)I"⟩, 55), (⟨"MotherTownsModel", "ran", "(I)V"⟩, 55), (⟨"MotherTownsModel", "plainCosts", "(II)I"⟩, 55), (⟨"MotherTownsModel", "lets", "(II)I"⟩, 55), (⟨"MotherTownsModel", "childLets", "(II)I"⟩, 55), (⟨"MotherTownsModel", "plainLets", "(II)I"⟩, 55), (⟨"MotherTownsModel", "keeps", "(II)I"⟩, 55), (⟨"MotherTownsModel", "plainKeeps", "(II)I"⟩, 55), (⟨"MotherTownsModel", "lostKeeps", "(II)I"⟩, 55), (⟨"MotherTownsModel", "tells", "(II)I"⟩, 55), (⟨"MotherTownsModel", "plainTells", "(II)I"⟩, 55), (⟨"MotherTownsModel", "whyNoPlace", "(II)I"⟩, 55)]
theorem lw_r6 : ∀ q ∈ lw_privs_6, lw_okq q := List.forall_mem_cons.mpr ⟨lw_p80, List.forall_mem_cons.mpr ⟨lw_p81, List.forall_mem_cons.mpr ⟨lw_p82, List.forall_mem_cons.mpr ⟨lw_p83, List.forall_mem_cons.mpr ⟨lw_p84, List.forall_mem_cons.mpr ⟨lw_p85, List.forall_mem_cons.mpr ⟨lw_p86, List.forall_mem_cons.mpr ⟨lw_p87, List.forall_mem_cons.mpr ⟨lw_p88, List.forall_mem_cons.mpr ⟨lw_p89, List.forall_mem_cons.mpr ⟨lw_p90, List.forall_mem_cons.mpr ⟨lw_p91, List.forall_mem_cons.mpr ⟨lw_p92, List.forall_mem_cons.mpr ⟨lw_p93, fun _ h => absurd h List.not_mem_nil⟩⟩⟩⟩⟩⟩⟩⟩⟩⟩⟩⟩⟩⟩
def lw_privs : List (MethodName × Nat) := lw_privs_1 ++ (lw_privs_2 ++ (lw_privs_3 ++ (lw_privs_4 ++ (lw_privs_5 ++ (lw_privs_6)))))
def lw_tbl : List Cond := k2_sels lw_privs ++ tables_1
theorem lw_privs_ok : ∀ q ∈ lw_privs, lw_okq q := by
  show ∀ q ∈ lw_privs_1 ++ (lw_privs_2 ++ (lw_privs_3 ++ (lw_privs_4 ++ (lw_privs_5 ++ (lw_privs_6))))), lw_okq q
  exact List.forall_mem_append.mpr ⟨lw_r1, List.forall_mem_append.mpr ⟨lw_r2, List.forall_mem_append.mpr ⟨lw_r3, List.forall_mem_append.mpr ⟨lw_r4, List.forall_mem_append.mpr ⟨lw_r5, lw_r6⟩⟩⟩⟩⟩
-- ===== end of PART A; then your names; then what follows =====
def RX0 : String := "MotherTowns$BestTrees"
def TX0 : u_T := fun k => match k with
  | 0 => ("MotherTowns$BestTrees", "charters", "LMotherTowns$Charters;", true)
  | 1 => ("MotherTowns$BestTrees", "trial", "LMotherTowns$Tree;", true)
  | 2 => ("MotherTowns$BestTrees", "listed", "I", false)
  | 3 => ("MotherTowns$BestTrees", "found", "I", false)
  | 4 => ("MotherTowns$BestTrees", "least", "I", false)
  | 5 => ("MotherTowns$BestTrees", "list", "[I", true)
  | 6 => ("MotherTowns$BestTrees", "codes", "[I", true)
  | 7 => ("MotherTowns$BestTrees", "seen", "[I", true)
  | 8 => ("MotherTowns$BestTrees", "power", "[I", true)
  | 9 => ("MotherTowns$BestTrees", "weight", "[I", true)
  | 10 => ("MotherTowns$BestTrees", "tornClauses", "[I", true)
  | 11 => ("MotherTowns$BestTrees", "atLeast", "[I", true)
  | 12 => ("MotherTowns$BestTrees", "torn", "I", false)
  | 13 => ("MotherTowns$BestTrees", "plainCost", "I", false)
  | _ => ("MotherTowns$BestTrees", "versionSeen", "I", false)
def tyX0 : Nat → FieldType := fun k => match k with
  | 0 => .object "MotherTowns$Charters"
  | 1 => .object "MotherTowns$Tree"
  | 2 => .int
  | 3 => .int
  | 4 => .int
  | 5 => .array .int
  | 6 => .array .int
  | 7 => .array .int
  | 8 => .array .int
  | 9 => .array .int
  | 10 => .array .int
  | 11 => .array .int
  | 12 => .int
  | 13 => .int
  | _ => .int
abbrev wsX00 : List Cond := u_ws RX0 TX0 15
theorem nmX0 : ∀ a, a < 15 → ∀ b, b < 15 → a ≠ b → (TX0 a).2.1 ≠ (TX0 b).2.1 := by decide +kernel
theorem tyX0_ok : ∀ k, k < 15 → parseFieldDescriptor (TX0 k).2.2.1 = some (tyX0 k) := by decide +kernel
abbrev cX0_init : ByteArray := prog_2_method_1_code
def yX0_init : MethodName := ⟨RX0, "<init>", "(LMotherTowns$Charters;)V"⟩
abbrev cX0_placeOf : ByteArray := prog_2_method_2_code
def yX0_placeOf : MethodName := ⟨RX0, "placeOf", "(I)I"⟩
abbrev cX0_tell : ByteArray := prog_2_method_3_code
def yX0_tell : MethodName := ⟨RX0, "tell", "(I)I"⟩
abbrev cX0_forget : ByteArray := prog_2_method_4_code
def yX0_forget : MethodName := ⟨RX0, "forget", "()I"⟩
abbrev cX0_bound : ByteArray := prog_2_method_5_code
def yX0_bound : MethodName := ⟨RX0, "bound", "()I"⟩
abbrev cX0_toldForms : ByteArray := prog_2_method_6_code
def yX0_toldForms : MethodName := ⟨RX0, "toldForms", "(I)I"⟩
abbrev cX0_find : ByteArray := prog_2_method_7_code
def yX0_find : MethodName := ⟨RX0, "find", "()V"⟩
abbrev cX0_prepare : ByteArray := prog_2_method_8_code
def yX0_prepare : MethodName := ⟨RX0, "prepare", "()V"⟩
abbrev cX0_entries : ByteArray := prog_2_method_9_code
def yX0_entries : MethodName := ⟨RX0, "entries", "(I)I"⟩
abbrev cX0_sortClause : ByteArray := prog_2_method_10_code
def yX0_sortClause : MethodName := ⟨RX0, "sortClause", "(I)V"⟩
abbrev cX0_chosen : ByteArray := prog_2_method_11_code
def yX0_chosen : MethodName := ⟨RX0, "chosen", "(II)I"⟩
abbrev cX0_grow : ByteArray := prog_2_method_12_code
def yX0_grow : MethodName := ⟨RX0, "grow", "(I)I"⟩
abbrev cX0_closesRing : ByteArray := prog_2_method_13_code
def yX0_closesRing : MethodName := ⟨RX0, "closesRing", "(I)Z"⟩
abbrev cX0_weigh : ByteArray := prog_2_method_14_code
def yX0_weigh : MethodName := ⟨RX0, "weigh", "(I)V"⟩
abbrev cX0_writeClause : ByteArray := prog_2_method_15_code
def yX0_writeClause : MethodName := ⟨RX0, "writeClause", "(I)V"⟩
abbrev cX0_sure : ByteArray := prog_2_method_16_code
def yX0_sure : MethodName := ⟨RX0, "sure", "()I"⟩
abbrev cX0_motherPlace : ByteArray := prog_2_method_17_code
def yX0_motherPlace : MethodName := ⟨RX0, "motherPlace", "(II)I"⟩
abbrev cX0_neverMothers : ByteArray := prog_2_method_18_code
def yX0_neverMothers : MethodName := ⟨RX0, "neverMothers", "(I)I"⟩
abbrev cX0_borneOut : ByteArray := prog_2_method_19_code
def yX0_borneOut : MethodName := ⟨RX0, "borneOut", "(II)I"⟩
def RX1 : String := "MotherTowns$Charters"
def TX1 : u_T := fun k => match k with
  | 0 => ("MotherTowns$Charters", "count", "I", false)
  | 1 => ("MotherTowns$Charters", "first", "[I", true)
  | 2 => ("MotherTowns$Charters", "last", "[I", true)
  | 3 => ("MotherTowns$Charters", "says", "[I", true)
  | 4 => ("MotherTowns$Charters", "lost", "[I", true)
  | 5 => ("MotherTowns$Charters", "cells", "[I", true)
  | 6 => ("MotherTowns$Charters", "changed", "[I", true)
  | 7 => ("MotherTowns$Charters", "before", "[I", true)
  | 8 => ("MotherTowns$Charters", "after", "[I", true)
  | 9 => ("MotherTowns$Charters", "torn", "[I", true)
  | 10 => ("MotherTowns$Charters", "undoable", "I", false)
  | 11 => ("MotherTowns$Charters", "redoable", "I", false)
  | _ => ("MotherTowns$Charters", "version", "I", false)
def tyX1 : Nat → FieldType := fun k => match k with
  | 0 => .int
  | 1 => .array .int
  | 2 => .array .int
  | 3 => .array .int
  | 4 => .array .int
  | 5 => .array .int
  | 6 => .array .int
  | 7 => .array .int
  | 8 => .array .int
  | 9 => .array .int
  | 10 => .int
  | 11 => .int
  | _ => .int
abbrev wsX10 : List Cond := u_ws RX1 TX1 13
theorem nmX1 : ∀ a, a < 13 → ∀ b, b < 13 → a ≠ b → (TX1 a).2.1 ≠ (TX1 b).2.1 := by decide +kernel
theorem tyX1_ok : ∀ k, k < 13 → parseFieldDescriptor (TX1 k).2.2.1 = some (tyX1 k) := by decide +kernel
abbrev cX1_init : ByteArray := prog_3_method_1_code
def yX1_init : MethodName := ⟨RX1, "<init>", "()V"⟩
abbrev cX1_has : ByteArray := prog_3_method_2_code
def yX1_has : MethodName := ⟨RX1, "has", "(I)Z"⟩
abbrev cX1_add : ByteArray := prog_3_method_3_code
def yX1_add : MethodName := ⟨RX1, "add", "(III[I)I"⟩
abbrev cX1_addLost : ByteArray := prog_3_method_4_code
def yX1_addLost : MethodName := ⟨RX1, "addLost", "()I"⟩
abbrev cX1_formCell : ByteArray := prog_3_method_5_code
def yX1_formCell : MethodName := ⟨RX1, "formCell", "(II)I"⟩
abbrev cX1_costCell : ByteArray := prog_3_method_6_code
def yX1_costCell : MethodName := ⟨RX1, "costCell", "(I)I"⟩
abbrev cX1_motherCell : ByteArray := prog_3_method_7_code
def yX1_motherCell : MethodName := ⟨RX1, "motherCell", "(I)I"⟩
abbrev cX1_told : ByteArray := prog_3_method_8_code
def yX1_told : MethodName := ⟨RX1, "told", "(II)I"⟩
abbrev cX1_costOf : ByteArray := prog_3_method_9_code
def yX1_costOf : MethodName := ⟨RX1, "costOf", "(I)I"⟩
abbrev cX1_motherOf : ByteArray := prog_3_method_10_code
def yX1_motherOf : MethodName := ⟨RX1, "motherOf", "(I)I"⟩
abbrev cX1_isUnder : ByteArray := prog_3_method_11_code
def yX1_isUnder : MethodName := ⟨RX1, "isUnder", "(II)Z"⟩
abbrev cX1_change : ByteArray := prog_3_method_12_code
def yX1_change : MethodName := ⟨RX1, "change", "(II)I"⟩
abbrev cX1_dropOldest : ByteArray := prog_3_method_13_code
def yX1_dropOldest : MethodName := ⟨RX1, "dropOldest", "()V"⟩
abbrev cX1_back : ByteArray := prog_3_method_14_code
def yX1_back : MethodName := ⟨RX1, "back", "()I"⟩
abbrev cX1_forth : ByteArray := prog_3_method_15_code
def yX1_forth : MethodName := ⟨RX1, "forth", "()I"⟩
def RX2 : String := "MotherTowns$Claims"
def TX2 : u_T := fun k => match k with
  | 0 => ("MotherTowns$Claims", "charters", "LMotherTowns$Charters;", true)
  | _ => ("MotherTowns$Claims", "said", "LMotherTowns$Tree;", true)
def tyX2 : Nat → FieldType := fun k => match k with
  | 0 => .object "MotherTowns$Charters"
  | _ => .object "MotherTowns$Tree"
abbrev wsX20 : List Cond := u_ws RX2 TX2 2
theorem nmX2 : ∀ a, a < 2 → ∀ b, b < 2 → a ≠ b → (TX2 a).2.1 ≠ (TX2 b).2.1 := by decide +kernel
theorem tyX2_ok : ∀ k, k < 2 → parseFieldDescriptor (TX2 k).2.2.1 = some (tyX2 k) := by decide +kernel
abbrev cX2_init : ByteArray := prog_4_method_1_code
def yX2_init : MethodName := ⟨RX2, "<init>", "(LMotherTowns$Charters;)V"⟩
abbrev cX2_fewestOut : ByteArray := prog_4_method_2_code
def yX2_fewestOut : MethodName := ⟨RX2, "fewestOut", "()I"⟩
abbrev cX2_holdWithout : ByteArray := prog_4_method_3_code
def yX2_holdWithout : MethodName := ⟨RX2, "holdWithout", "(I)Z"⟩
def RX3 : String := "MotherTowns$Clashes"
def TX3 : u_T := fun k => match k with
  | 0 => ("MotherTowns$Clashes", "charters", "LMotherTowns$Charters;", true)
  | _ => ("MotherTowns$Clashes", "against", "[I", true)
def tyX3 : Nat → FieldType := fun k => match k with
  | 0 => .object "MotherTowns$Charters"
  | _ => .array .int
abbrev wsX30 : List Cond := u_ws RX3 TX3 2
theorem nmX3 : ∀ a, a < 2 → ∀ b, b < 2 → a ≠ b → (TX3 a).2.1 ≠ (TX3 b).2.1 := by decide +kernel
theorem tyX3_ok : ∀ k, k < 2 → parseFieldDescriptor (TX3 k).2.2.1 = some (tyX3 k) := by decide +kernel
abbrev cX3_init : ByteArray := prog_5_method_1_code
def yX3_init : MethodName := ⟨RX3, "<init>", "(LMotherTowns$Charters;)V"⟩
abbrev cX3_clash : ByteArray := prog_5_method_2_code
def yX3_clash : MethodName := ⟨RX3, "clash", "(II)Z"⟩
abbrev cX3_pair : ByteArray := prog_5_method_3_code
def yX3_pair : MethodName := ⟨RX3, "pair", "(I)I"⟩
abbrev cX3_fewestOut : ByteArray := prog_5_method_4_code
def yX3_fewestOut : MethodName := ⟨RX3, "fewestOut", "()I"⟩
abbrev cX3_involve : ByteArray := prog_5_method_5_code
def yX3_involve : MethodName := ⟨RX3, "involve", "()I"⟩
abbrev cX3_frees : ByteArray := prog_5_method_6_code
def yX3_frees : MethodName := ⟨RX3, "frees", "(I)Z"⟩
def RX4 : String := "MotherTowns$Fillings"
def TX4 : u_T := fun k => match k with
  | 0 => ("MotherTowns$Fillings", "charters", "LMotherTowns$Charters;", true)
  | 1 => ("MotherTowns$Fillings", "tree", "LMotherTowns$Tree;", true)
  | 2 => ("MotherTowns$Fillings", "fill", "[I", true)
  | 3 => ("MotherTowns$Fillings", "gain", "[I", true)
  | 4 => ("MotherTowns$Fillings", "saved", "[I", true)
  | _ => ("MotherTowns$Fillings", "alone", "[I", true)
def tyX4 : Nat → FieldType := fun k => match k with
  | 0 => .object "MotherTowns$Charters"
  | 1 => .object "MotherTowns$Tree"
  | 2 => .array .int
  | 3 => .array .int
  | 4 => .array .int
  | _ => .array .int
abbrev wsX40 : List Cond := u_ws RX4 TX4 6
theorem nmX4 : ∀ a, a < 6 → ∀ b, b < 6 → a ≠ b → (TX4 a).2.1 ≠ (TX4 b).2.1 := by decide +kernel
theorem tyX4_ok : ∀ k, k < 6 → parseFieldDescriptor (TX4 k).2.2.1 = some (tyX4 k) := by decide +kernel
abbrev cX4_init : ByteArray := prog_6_method_1_code
def yX4_init : MethodName := ⟨RX4, "<init>", "(LMotherTowns$Charters;LMotherTowns$Tree;)V"⟩
abbrev cX4_burntForms : ByteArray := prog_6_method_2_code
def yX4_burntForms : MethodName := ⟨RX4, "burntForms", "(II)I"⟩
abbrev cX4_fillClause : ByteArray := prog_6_method_3_code
def yX4_fillClause : MethodName := ⟨RX4, "fillClause", "(I)V"⟩
abbrev cX4_lowest : ByteArray := prog_6_method_4_code
def yX4_lowest : MethodName := ⟨RX4, "lowest", "(I)I"⟩
abbrev cX4_filledForm : ByteArray := prog_6_method_5_code
def yX4_filledForm : MethodName := ⟨RX4, "filledForm", "(II)I"⟩
abbrev cX4_paid : ByteArray := prog_6_method_6_code
def yX4_paid : MethodName := ⟨RX4, "paid", "(II)I"⟩
abbrev cX4_source : ByteArray := prog_6_method_7_code
def yX4_source : MethodName := ⟨RX4, "source", "(II)I"⟩
abbrev cX4_lends : ByteArray := prog_6_method_8_code
def yX4_lends : MethodName := ⟨RX4, "lends", "(II)Z"⟩
abbrev cX4_leastLender : ByteArray := prog_6_method_9_code
def yX4_leastLender : MethodName := ⟨RX4, "leastLender", "(II)I"⟩
abbrev cX4_lender : ByteArray := prog_6_method_10_code
def yX4_lender : MethodName := ⟨RX4, "lender", "(II)I"⟩
abbrev cX4_leastWith : ByteArray := prog_6_method_11_code
def yX4_leastWith : MethodName := ⟨RX4, "leastWith", "(I)I"⟩
abbrev cX4_weighChapter : ByteArray := prog_6_method_12_code
def yX4_weighChapter : MethodName := ⟨RX4, "weighChapter", "(II)I"⟩
abbrev cX4_gainOfChapter : ByteArray := prog_6_method_13_code
def yX4_gainOfChapter : MethodName := ⟨RX4, "gainOfChapter", "(III)V"⟩
abbrev cX4_gainBeside : ByteArray := prog_6_method_14_code
def yX4_gainBeside : MethodName := ⟨RX4, "gainBeside", "(III)V"⟩
abbrev cX4_share : ByteArray := prog_6_method_15_code
def yX4_share : MethodName := ⟨RX4, "share", "(I)V"⟩
def RX5 : String := "MotherTowns$Paths"
def TX5 : u_T := fun k => match k with
  | 0 => ("MotherTowns$Paths", "count", "I", false)
  | 1 => ("MotherTowns$Paths", "bodies", "I", false)
  | 2 => ("MotherTowns$Paths", "kinds", "[I", true)
  | 3 => ("MotherTowns$Paths", "trace", "[I", true)
  | 4 => ("MotherTowns$Paths", "of", "[I", true)
  | 5 => ("MotherTowns$Paths", "kind", "I", false)
  | 6 => ("MotherTowns$Paths", "n", "I", false)
  | _ => ("MotherTowns$Paths", "c", "I", false)
def tyX5 : Nat → FieldType := fun k => match k with
  | 0 => .int
  | 1 => .int
  | 2 => .array .int
  | 3 => .array .int
  | 4 => .array .int
  | 5 => .int
  | 6 => .int
  | _ => .int
abbrev wsX50 : List Cond := u_ws RX5 TX5 8
theorem nmX5 : ∀ a, a < 8 → ∀ b, b < 8 → a ≠ b → (TX5 a).2.1 ≠ (TX5 b).2.1 := by decide +kernel
theorem tyX5_ok : ∀ k, k < 8 → parseFieldDescriptor (TX5 k).2.2.1 = some (tyX5 k) := by decide +kernel
abbrev cX5_init : ByteArray := prog_7_method_1_code
def yX5_init : MethodName := ⟨RX5, "<init>", "()V"⟩
abbrev cX5_isKind : ByteArray := prog_7_method_2_code
def yX5_isKind : MethodName := ⟨RX5, "isKind", "(I)Z"⟩
abbrev cX5_isUnder : ByteArray := prog_7_method_3_code
def yX5_isUnder : MethodName := ⟨RX5, "isUnder", "(II)Z"⟩
abbrev cX5_has : ByteArray := prog_7_method_4_code
def yX5_has : MethodName := ⟨RX5, "has", "(I)Z"⟩
abbrev cX5_add : ByteArray := prog_7_method_5_code
def yX5_add : MethodName := ⟨RX5, "add", "(II)I"⟩
abbrev cX5_perform : ByteArray := prog_7_method_6_code
def yX5_perform : MethodName := ⟨RX5, "perform", "(III)I"⟩
abbrev cX5_began : ByteArray := prog_7_method_7_code
def yX5_began : MethodName := ⟨RX5, "began", "(I)V"⟩
abbrev cX5_costs : ByteArray := prog_7_method_8_code
def yX5_costs : MethodName := ⟨RX5, "costs", "(I)I"⟩
abbrev cX5_lets : ByteArray := prog_7_method_9_code
def yX5_lets : MethodName := ⟨RX5, "lets", "(I)I"⟩
abbrev cX5_holds : ByteArray := prog_7_method_10_code
def yX5_holds : MethodName := ⟨RX5, "holds", "(I)I"⟩
abbrev cX5_tells : ByteArray := prog_7_method_11_code
def yX5_tells : MethodName := ⟨RX5, "tells", "(I)I"⟩
def RX6 : String := "MotherTowns$Shelf"
def TX6 : u_T := fun k => match k with
  | 0 => ("MotherTowns$Shelf", "holds", "I", false)
  | 1 => ("MotherTowns$Shelf", "path", "I", false)
  | 2 => ("MotherTowns$Shelf", "sort", "I", false)
  | 3 => ("MotherTowns$Shelf", "size", "I", false)
  | _ => ("MotherTowns$Shelf", "cells", "[J", true)
def tyX6 : Nat → FieldType := fun k => match k with
  | 0 => .int
  | 1 => .int
  | 2 => .int
  | 3 => .int
  | _ => .array .long
abbrev wsX60 : List Cond := u_ws RX6 TX6 5
theorem nmX6 : ∀ a, a < 5 → ∀ b, b < 5 → a ≠ b → (TX6 a).2.1 ≠ (TX6 b).2.1 := by decide +kernel
theorem tyX6_ok : ∀ k, k < 5 → parseFieldDescriptor (TX6 k).2.2.1 = some (tyX6 k) := by decide +kernel
abbrev cX6_init : ByteArray := prog_8_method_1_code
def yX6_init : MethodName := ⟨RX6, "<init>", "()V"⟩
abbrev cX6_keepPath : ByteArray := prog_8_method_2_code
def yX6_keepPath : MethodName := ⟨RX6, "keepPath", "(I)V"⟩
abbrev cX6_keepRow : ByteArray := prog_8_method_3_code
def yX6_keepRow : MethodName := ⟨RX6, "keepRow", "(II)V"⟩
abbrev cX6_hasPlace : ByteArray := prog_8_method_4_code
def yX6_hasPlace : MethodName := ⟨RX6, "hasPlace", "(J)Z"⟩
abbrev cX6_hasPlaces : ByteArray := prog_8_method_5_code
def yX6_hasPlaces : MethodName := ⟨RX6, "hasPlaces", "(II)Z"⟩
abbrev cX6_lowest : ByteArray := prog_8_method_6_code
def yX6_lowest : MethodName := ⟨RX6, "lowest", "(J)J"⟩
def RX7 : String := "MotherTowns$Slips"
def TX7 : u_T := fun k => match k with
  | _ => ("", "", "", false)
def tyX7 : Nat → FieldType := fun k => match k with
  | _ => .int
abbrev wsX70 : List Cond := u_ws RX7 TX7 0
theorem nmX7 : ∀ a, a < 0 → ∀ b, b < 0 → a ≠ b → (TX7 a).2.1 ≠ (TX7 b).2.1 := by decide +kernel
theorem tyX7_ok : ∀ k, k < 0 → parseFieldDescriptor (TX7 k).2.2.1 = some (tyX7 k) := by decide +kernel
abbrev cX7_isNumber : ByteArray := prog_9_method_2_code
def yX7_isNumber : MethodName := ⟨RX7, "isNumber", "(I)Z"⟩
abbrev cX7_kind : ByteArray := prog_9_method_3_code
def yX7_kind : MethodName := ⟨RX7, "kind", "(II)I"⟩
abbrev cX7_fewest : ByteArray := prog_9_method_4_code
def yX7_fewest : MethodName := ⟨RX7, "fewest", "(II)I"⟩
abbrev cX7_inTwo : ByteArray := prog_9_method_5_code
def yX7_inTwo : MethodName := ⟨RX7, "inTwo", "(II)Z"⟩
abbrev cX7_kindOf : ByteArray := prog_9_method_6_code
def yX7_kindOf : MethodName := ⟨RX7, "kindOf", "(I)I"⟩
abbrev cX7_grown : ByteArray := prog_9_method_7_code
def yX7_grown : MethodName := ⟨RX7, "grown", "(II)I"⟩
abbrev cX7_length : ByteArray := prog_9_method_8_code
def yX7_length : MethodName := ⟨RX7, "length", "(I)I"⟩
abbrev cX7_written : ByteArray := prog_9_method_9_code
def yX7_written : MethodName := ⟨RX7, "written", "(II)I"⟩
abbrev cX7_twice : ByteArray := prog_9_method_10_code
def yX7_twice : MethodName := ⟨RX7, "twice", "(II)I"⟩
abbrev cX7_changedAbout : ByteArray := prog_9_method_11_code
def yX7_changedAbout : MethodName := ⟨RX7, "changedAbout", "(II)I"⟩
abbrev cX7_misread : ByteArray := prog_9_method_12_code
def yX7_misread : MethodName := ⟨RX7, "misread", "(III)I"⟩
def RX8 : String := "MotherTowns$Tape"
def TX8 : u_T := fun k => match k with
  | 0 => ("MotherTowns$Tape", "bytes", "[I", true)
  | 1 => ("MotherTowns$Tape", "used", "I", false)
  | 2 => ("MotherTowns$Tape", "first", "I", false)
  | 3 => ("MotherTowns$Tape", "last", "I", false)
  | 4 => ("MotherTowns$Tape", "says", "I", false)
  | 5 => ("MotherTowns$Tape", "form", "[I", true)
  | _ => ("MotherTowns$Tape", "at", "I", false)
def tyX8 : Nat → FieldType := fun k => match k with
  | 0 => .array .int
  | 1 => .int
  | 2 => .int
  | 3 => .int
  | 4 => .int
  | 5 => .array .int
  | _ => .int
abbrev wsX80 : List Cond := u_ws RX8 TX8 7
theorem nmX8 : ∀ a, a < 7 → ∀ b, b < 7 → a ≠ b → (TX8 a).2.1 ≠ (TX8 b).2.1 := by decide +kernel
theorem tyX8_ok : ∀ k, k < 7 → parseFieldDescriptor (TX8 k).2.2.1 = some (tyX8 k) := by decide +kernel
abbrev cX8_init : ByteArray := prog_10_method_1_code
def yX8_init : MethodName := ⟨RX8, "<init>", "()V"⟩
abbrev cX8_take : ByteArray := prog_10_method_2_code
def yX8_take : MethodName := ⟨RX8, "take", "(II)I"⟩
abbrev cX8_read : ByteArray := prog_10_method_3_code
def yX8_read : MethodName := ⟨RX8, "read", "(I)I"⟩
abbrev cX8_readDays : ByteArray := prog_10_method_4_code
def yX8_readDays : MethodName := ⟨RX8, "readDays", "()I"⟩
abbrev cX8_readClauses : ByteArray := prog_10_method_5_code
def yX8_readClauses : MethodName := ⟨RX8, "readClauses", "()I"⟩
abbrev cX8_readMother : ByteArray := prog_10_method_6_code
def yX8_readMother : MethodName := ⟨RX8, "readMother", "(I)I"⟩
abbrev cX8_sign : ByteArray := prog_10_method_7_code
def yX8_sign : MethodName := ⟨RX8, "sign", "()I"⟩
abbrev cX8_number : ByteArray := prog_10_method_8_code
def yX8_number : MethodName := ⟨RX8, "number", "(I)I"⟩
def RX9 : String := "MotherTowns$Tree"
def TX9 : u_T := fun k => match k with
  | 0 => ("MotherTowns$Tree", "size", "I", false)
  | 1 => ("MotherTowns$Tree", "mother", "[I", true)
  | 2 => ("MotherTowns$Tree", "first", "[I", true)
  | 3 => ("MotherTowns$Tree", "last", "[I", true)
  | 4 => ("MotherTowns$Tree", "earliest", "[I", true)
  | 5 => ("MotherTowns$Tree", "form", "[I", true)
  | 6 => ("MotherTowns$Tree", "latest", "[I", true)
  | 7 => ("MotherTowns$Tree", "order", "[I", true)
  | 8 => ("MotherTowns$Tree", "step", "[I", true)
  | 9 => ("MotherTowns$Tree", "below", "[I", true)
  | 10 => ("MotherTowns$Tree", "beside", "[I", true)
  | _ => ("MotherTowns$Tree", "branch", "[I", true)
def tyX9 : Nat → FieldType := fun k => match k with
  | 0 => .int
  | 1 => .array .int
  | 2 => .array .int
  | 3 => .array .int
  | 4 => .array .int
  | 5 => .array .int
  | 6 => .array .int
  | 7 => .array .int
  | 8 => .array .int
  | 9 => .array .int
  | 10 => .array .int
  | _ => .array .int
abbrev wsX90 : List Cond := u_ws RX9 TX9 12
theorem nmX9 : ∀ a, a < 12 → ∀ b, b < 12 → a ≠ b → (TX9 a).2.1 ≠ (TX9 b).2.1 := by decide +kernel
theorem tyX9_ok : ∀ k, k < 12 → parseFieldDescriptor (TX9 k).2.2.1 = some (tyX9 k) := by decide +kernel
abbrev cX9_init : ByteArray := prog_11_method_1_code
def yX9_init : MethodName := ⟨RX9, "<init>", "()V"⟩
abbrev cX9_growAsTold : ByteArray := prog_11_method_2_code
def yX9_growAsTold : MethodName := ⟨RX9, "growAsTold", "(LMotherTowns$Charters;)V"⟩
abbrev cX9_takeCosts : ByteArray := prog_11_method_3_code
def yX9_takeCosts : MethodName := ⟨RX9, "takeCosts", "(LMotherTowns$Charters;)V"⟩
abbrev cX9_stepOf : ByteArray := prog_11_method_4_code
def yX9_stepOf : MethodName := ⟨RX9, "stepOf", "(II)I"⟩
abbrev cX9_write : ByteArray := prog_11_method_5_code
def yX9_write : MethodName := ⟨RX9, "write", "(LMotherTowns$Charters;I)V"⟩
abbrev cX9_arrange : ByteArray := prog_11_method_6_code
def yX9_arrange : MethodName := ⟨RX9, "arrange", "()Z"⟩
abbrev cX9_firstLate : ByteArray := prog_11_method_7_code
def yX9_firstLate : MethodName := ⟨RX9, "firstLate", "()I"⟩
abbrev cX9_latestOf : ByteArray := prog_11_method_8_code
def yX9_latestOf : MethodName := ⟨RX9, "latestOf", "(I)I"⟩
abbrev cX9_least : ByteArray := prog_11_method_9_code
def yX9_least : MethodName := ⟨RX9, "least", "()I"⟩
abbrev cX9_smallestBelow : ByteArray := prog_11_method_10_code
def yX9_smallestBelow : MethodName := ⟨RX9, "smallestBelow", "(I)I"⟩
abbrev cX9_hang : ByteArray := prog_11_method_11_code
def yX9_hang : MethodName := ⟨RX9, "hang", "(II)V"⟩
abbrev cX9_spread : ByteArray := prog_11_method_12_code
def yX9_spread : MethodName := ⟨RX9, "spread", "()V"⟩
abbrev cX9_besideBranch : ByteArray := prog_11_method_13_code
def yX9_besideBranch : MethodName := ⟨RX9, "besideBranch", "(III)I"⟩
abbrev cX9_maybe : ByteArray := prog_11_method_14_code
def yX9_maybe : MethodName := ⟨RX9, "maybe", "(I)I"⟩
def RX10 : String := "MotherTowns"
def TX10 : u_T := fun k => match k with
  | 0 => ("MotherTowns", "tape", "LMotherTowns$Tape;", true)
  | 1 => ("MotherTowns", "charters", "LMotherTowns$Charters;", true)
  | 2 => ("MotherTowns", "tree", "LMotherTowns$Tree;", true)
  | 3 => ("MotherTowns", "fillings", "LMotherTowns$Fillings;", true)
  | 4 => ("MotherTowns", "bestTrees", "LMotherTowns$BestTrees;", true)
  | 5 => ("MotherTowns", "clashes", "LMotherTowns$Clashes;", true)
  | 6 => ("MotherTowns", "claims", "LMotherTowns$Claims;", true)
  | 7 => ("MotherTowns", "paths", "LMotherTowns$Paths;", true)
  | _ => ("MotherTowns", "shelves", "[LMotherTowns$Shelf;", true)
def tyX10 : Nat → FieldType := fun k => match k with
  | 0 => .object "MotherTowns$Tape"
  | 1 => .object "MotherTowns$Charters"
  | 2 => .object "MotherTowns$Tree"
  | 3 => .object "MotherTowns$Fillings"
  | 4 => .object "MotherTowns$BestTrees"
  | 5 => .object "MotherTowns$Clashes"
  | 6 => .object "MotherTowns$Claims"
  | 7 => .object "MotherTowns$Paths"
  | _ => .array (.object "MotherTowns$Shelf")
abbrev wsX100 : List Cond := u_ws RX10 TX10 9
theorem nmX10 : ∀ a, a < 9 → ∀ b, b < 9 → a ≠ b → (TX10 a).2.1 ≠ (TX10 b).2.1 := by decide +kernel
theorem tyX10_ok : ∀ k, k < 9 → parseFieldDescriptor (TX10 k).2.2.1 = some (tyX10 k) := by decide +kernel
abbrev cX10_init : ByteArray := prog_1_method_1_code
def yX10_init : MethodName := ⟨RX10, "<init>", "()V"⟩
abbrev cX10_feed : ByteArray := prog_1_method_2_code
def yX10_feed : MethodName := ⟨RX10, "feed", "(II)I"⟩
abbrev cX10_charter : ByteArray := prog_1_method_3_code
def yX10_charter : MethodName := ⟨RX10, "charter", "()I"⟩
abbrev cX10_lost : ByteArray := prog_1_method_4_code
def yX10_lost : MethodName := ⟨RX10, "lost", "()I"⟩
abbrev cX10_ofCharter : ByteArray := prog_1_method_5_code
def yX10_ofCharter : MethodName := ⟨RX10, "ofCharter", "(II)I"⟩
abbrev cX10_form : ByteArray := prog_1_method_6_code
def yX10_form : MethodName := ⟨RX10, "form", "(III)I"⟩
abbrev cX10_forms : ByteArray := prog_1_method_7_code
def yX10_forms : MethodName := ⟨RX10, "forms", "(IIII)I"⟩
abbrev cX10_price : ByteArray := prog_1_method_8_code
def yX10_price : MethodName := ⟨RX10, "price", "(II)I"⟩
abbrev cX10_same : ByteArray := prog_1_method_9_code
def yX10_same : MethodName := ⟨RX10, "same", "(III)I"⟩
abbrev cX10_mother : ByteArray := prog_1_method_10_code
def yX10_mother : MethodName := ⟨RX10, "mother", "(II)I"⟩
abbrev cX10_cost : ByteArray := prog_1_method_11_code
def yX10_cost : MethodName := ⟨RX10, "cost", "(I)I"⟩
abbrev cX10_filled : ByteArray := prog_1_method_12_code
def yX10_filled : MethodName := ⟨RX10, "filled", "(II)I"⟩
abbrev cX10_days : ByteArray := prog_1_method_13_code
def yX10_days : MethodName := ⟨RX10, "days", "(II)I"⟩
abbrev cX10_list : ByteArray := prog_1_method_14_code
def yX10_list : MethodName := ⟨RX10, "list", "(I)I"⟩
abbrev cX10_unlist : ByteArray := prog_1_method_15_code
def yX10_unlist : MethodName := ⟨RX10, "unlist", "()I"⟩
abbrev cX10_best : ByteArray := prog_1_method_16_code
def yX10_best : MethodName := ⟨RX10, "best", "(I)I"⟩
abbrev cX10_tree : ByteArray := prog_1_method_17_code
def yX10_tree : MethodName := ⟨RX10, "tree", "(II)I"⟩
abbrev cX10_never : ByteArray := prog_1_method_18_code
def yX10_never : MethodName := ⟨RX10, "never", "(I)I"⟩
abbrev cX10_claim : ByteArray := prog_1_method_19_code
def yX10_claim : MethodName := ⟨RX10, "claim", "(I)I"⟩
abbrev cX10_few : ByteArray := prog_1_method_20_code
def yX10_few : MethodName := ⟨RX10, "few", "(I)I"⟩
abbrev cX10_from : ByteArray := prog_1_method_21_code
def yX10_from : MethodName := ⟨RX10, "from", "(II)I"⟩
abbrev cX10_pairs : ByteArray := prog_1_method_22_code
def yX10_pairs : MethodName := ⟨RX10, "pairs", "(I)I"⟩
abbrev cX10_freed : ByteArray := prog_1_method_23_code
def yX10_freed : MethodName := ⟨RX10, "freed", "()I"⟩
abbrev cX10_doubt : ByteArray := prog_1_method_24_code
def yX10_doubt : MethodName := ⟨RX10, "doubt", "(I)I"⟩
abbrev cX10_law : ByteArray := prog_1_method_25_code
def yX10_law : MethodName := ⟨RX10, "law", "(II)I"⟩
abbrev cX10_cameIn : ByteArray := prog_1_method_26_code
def yX10_cameIn : MethodName := ⟨RX10, "cameIn", "(II)I"⟩
abbrev cX10_slip : ByteArray := prog_1_method_27_code
def yX10_slip : MethodName := ⟨RX10, "slip", "(II)I"⟩
abbrev cX10_chain : ByteArray := prog_1_method_28_code
def yX10_chain : MethodName := ⟨RX10, "chain", "(II)I"⟩
abbrev cX10_undo : ByteArray := prog_1_method_29_code
def yX10_undo : MethodName := ⟨RX10, "undo", "()I"⟩
abbrev cX10_redo : ByteArray := prog_1_method_30_code
def yX10_redo : MethodName := ⟨RX10, "redo", "()I"⟩
abbrev cX10_digest : ByteArray := prog_1_method_31_code
def yX10_digest : MethodName := ⟨RX10, "digest", "()I"⟩
abbrev cX10_path : ByteArray := prog_1_method_32_code
def yX10_path : MethodName := ⟨RX10, "path", "(II)I"⟩
abbrev cX10_act : ByteArray := prog_1_method_33_code
def yX10_act : MethodName := ⟨RX10, "act", "(III)I"⟩
abbrev cX10_trace : ByteArray := prog_1_method_34_code
def yX10_trace : MethodName := ⟨RX10, "trace", "(I)I"⟩
abbrev cX10_keep : ByteArray := prog_1_method_35_code
def yX10_keep : MethodName := ⟨RX10, "keep", "(II)I"⟩
abbrev cX10_row : ByteArray := prog_1_method_36_code
def yX10_row : MethodName := ⟨RX10, "row", "(III)I"⟩
abbrev cX10_put : ByteArray := prog_1_method_37_code
def yX10_put : MethodName := ⟨RX10, "put", "(IIJ)I"⟩
abbrev cX10_element : ByteArray := prog_1_method_38_code
def yX10_element : MethodName := ⟨RX10, "element", "(II)J"⟩
abbrev cX10_shift : ByteArray := prog_1_method_39_code
def yX10_shift : MethodName := ⟨RX10, "shift", "(IIIII)I"⟩
abbrev cX10_taken : ByteArray := prog_1_method_40_code
def yX10_taken : MethodName := ⟨RX10, "taken", "(II)I"⟩
abbrev cX10_count : ByteArray := prog_1_method_41_code
def yX10_count : MethodName := ⟨RX10, "count", "(I)I"⟩
abbrev cX10_isClause : ByteArray := prog_1_method_42_code
def yX10_isClause : MethodName := ⟨RX10, "isClause", "(I)Z"⟩
abbrev cX10_isForm : ByteArray := prog_1_method_43_code
def yX10_isForm : MethodName := ⟨RX10, "isForm", "(I)Z"⟩
abbrev cX10_isShelf : ByteArray := prog_1_method_44_code
def yX10_isShelf : MethodName := ⟨RX10, "isShelf", "(I)Z"⟩
abbrev cX10_elementRefusal : ByteArray := prog_1_method_45_code
def yX10_elementRefusal : MethodName := ⟨RX10, "elementRefusal", "(II)I"⟩
def RX11 : String := "MotherTownsModel"
def TX11 : u_T := fun k => match k with
  | 0 => ("MotherTownsModel", "code", "I", false)
  | 1 => ("MotherTownsModel", "charters", "I", false)
  | 2 => ("MotherTownsModel", "firstDay", "[I", true)
  | 3 => ("MotherTownsModel", "lastDay", "[I", true)
  | 4 => ("MotherTownsModel", "says", "[I", true)
  | 5 => ("MotherTownsModel", "isLost", "[Z", true)
  | 6 => ("MotherTownsModel", "motherOf", "[I", true)
  | 7 => ("MotherTownsModel", "forms", "[I", true)
  | 8 => ("MotherTownsModel", "prices", "[I", true)
  | 9 => ("MotherTownsModel", "tape", "[B", true)
  | 10 => ("MotherTownsModel", "taped", "I", false)
  | 11 => ("MotherTownsModel", "here", "I", false)
  | 12 => ("MotherTownsModel", "fault", "I", false)
  | 13 => ("MotherTownsModel", "doneMany", "I", false)
  | 14 => ("MotherTownsModel", "undoneMany", "I", false)
  | 15 => ("MotherTownsModel", "changeOf", "[I", true)
  | 16 => ("MotherTownsModel", "changeAt", "[I", true)
  | 17 => ("MotherTownsModel", "before", "[I", true)
  | 18 => ("MotherTownsModel", "behind", "[I", true)
  | 19 => ("MotherTownsModel", "tree", "[I", true)
  | 20 => ("MotherTownsModel", "isIn", "[Z", true)
  | 21 => ("MotherTownsModel", "under", "[I", true)
  | 22 => ("MotherTownsModel", "beyond", "[I", true)
  | 23 => ("MotherTownsModel", "order", "[I", true)
  | 24 => ("MotherTownsModel", "orderMany", "I", false)
  | 25 => ("MotherTownsModel", "burntAt", "I", false)
  | 26 => ("MotherTownsModel", "earliest", "[I", true)
  | 27 => ("MotherTownsModel", "latest", "[I", true)
  | 28 => ("MotherTownsModel", "listed", "I", false)
  | 29 => ("MotherTownsModel", "list", "[I", true)
  | 30 => ("MotherTownsModel", "motherPlace", "[I", true)
  | 31 => ("MotherTownsModel", "areFound", "Z", false)
  | 32 => ("MotherTownsModel", "bestCost", "I", false)
  | 33 => ("MotherTownsModel", "bestMany", "I", false)
  | 34 => ("MotherTownsModel", "bestTree", "[I", true)
  | 35 => ("MotherTownsModel", "timesMother", "[I", true)
  | 36 => ("MotherTownsModel", "fill", "[I", true)
  | 37 => ("MotherTownsModel", "gains", "[I", true)
  | 38 => ("MotherTownsModel", "chapterCost", "[I", true)
  | 39 => ("MotherTownsModel", "fewCost", "[I", true)
  | 40 => ("MotherTownsModel", "pairMany", "I", false)
  | 41 => ("MotherTownsModel", "pairs", "[I", true)
  | 42 => ("MotherTownsModel", "digitOf", "[I", true)
  | 43 => ("MotherTownsModel", "otherOf", "[I", true)
  | 44 => ("MotherTownsModel", "chainRow", "[I", true)
  | 45 => ("MotherTownsModel", "chainLong", "[I", true)
  | 46 => ("MotherTownsModel", "bodies", "I", false)
  | 47 => ("MotherTownsModel", "kind", "[I", true)
  | 48 => ("MotherTownsModel", "charterOf", "[I", true)
  | 49 => ("MotherTownsModel", "traces", "I", false)
  | 50 => ("MotherTownsModel", "traced", "[I", true)
  | 51 => ("MotherTownsModel", "holds", "[I", true)
  | 52 => ("MotherTownsModel", "size", "[I", true)
  | 53 => ("MotherTownsModel", "elements", "[J", true)
  | _ => ("MotherTownsModel", "shifted", "[J", true)
def tyX11 : Nat → FieldType := fun k => match k with
  | 0 => .int
  | 1 => .int
  | 2 => .array .int
  | 3 => .array .int
  | 4 => .array .int
  | 5 => .array .boolean
  | 6 => .array .int
  | 7 => .array .int
  | 8 => .array .int
  | 9 => .array .byte
  | 10 => .int
  | 11 => .int
  | 12 => .int
  | 13 => .int
  | 14 => .int
  | 15 => .array .int
  | 16 => .array .int
  | 17 => .array .int
  | 18 => .array .int
  | 19 => .array .int
  | 20 => .array .boolean
  | 21 => .array .int
  | 22 => .array .int
  | 23 => .array .int
  | 24 => .int
  | 25 => .int
  | 26 => .array .int
  | 27 => .array .int
  | 28 => .int
  | 29 => .array .int
  | 30 => .array .int
  | 31 => .boolean
  | 32 => .int
  | 33 => .int
  | 34 => .array .int
  | 35 => .array .int
  | 36 => .array .int
  | 37 => .array .int
  | 38 => .array .int
  | 39 => .array .int
  | 40 => .int
  | 41 => .array .int
  | 42 => .array .int
  | 43 => .array .int
  | 44 => .array .int
  | 45 => .array .int
  | 46 => .int
  | 47 => .array .int
  | 48 => .array .int
  | 49 => .int
  | 50 => .array .int
  | 51 => .array .int
  | 52 => .array .int
  | 53 => .array .long
  | _ => .array .long
abbrev wsX110 : List Cond := u_ws RX11 TX11 55
theorem nmX11 : ∀ a, a < 55 → ∀ b, b < 55 → a ≠ b → (TX11 a).2.1 ≠ (TX11 b).2.1 := by decide +kernel
theorem tyX11_ok : ∀ k, k < 55 → parseFieldDescriptor (TX11 k).2.2.1 = some (tyX11 k) := by decide +kernel
abbrev cX11_init : ByteArray := prog_13_method_1_code
def yX11_init : MethodName := ⟨RX11, "<init>", "()V"⟩
abbrev cX11_in : ByteArray := prog_13_method_3_code
def yX11_in : MethodName := ⟨RX11, "in", "(III)Z"⟩
abbrev cX11_lesser : ByteArray := prog_13_method_4_code
def yX11_lesser : MethodName := ⟨RX11, "lesser", "(II)I"⟩
abbrev cX11_greater : ByteArray := prog_13_method_5_code
def yX11_greater : MethodName := ⟨RX11, "greater", "(II)I"⟩
abbrev cX11_isForm : ByteArray := prog_13_method_6_code
def yX11_isForm : MethodName := ⟨RX11, "isForm", "(I)Z"⟩
abbrev cX11_isCharter : ByteArray := prog_13_method_7_code
def yX11_isCharter : MethodName := ⟨RX11, "isCharter", "(I)Z"⟩
abbrev cX11_isClause : ByteArray := prog_13_method_8_code
def yX11_isClause : MethodName := ⟨RX11, "isClause", "(I)Z"⟩
abbrev cX11_feed : ByteArray := prog_13_method_9_code
def yX11_feed : MethodName := ⟨RX11, "feed", "(II)I"⟩
abbrev cX11_look : ByteArray := prog_13_method_10_code
def yX11_look : MethodName := ⟨RX11, "look", "()I"⟩
abbrev cX11_wrong : ByteArray := prog_13_method_11_code
def yX11_wrong : MethodName := ⟨RX11, "wrong", "(I)V"⟩
abbrev cX11_number : ByteArray := prog_13_method_12_code
def yX11_number : MethodName := ⟨RX11, "number", "(I)I"⟩
abbrev cX11_isNext : ByteArray := prog_13_method_13_code
def yX11_isNext : MethodName := ⟨RX11, "isNext", "(I)Z"⟩
abbrev cX11_clear : ByteArray := prog_13_method_14_code
def yX11_clear : MethodName := ⟨RX11, "clear", "(I)V"⟩
abbrev cX11_readClause : ByteArray := prog_13_method_15_code
def yX11_readClause : MethodName := ⟨RX11, "readClause", "(II)I"⟩
abbrev cX11_readAll : ByteArray := prog_13_method_16_code
def yX11_readAll : MethodName := ⟨RX11, "readAll", "(I)V"⟩
abbrev cX11_charter : ByteArray := prog_13_method_17_code
def yX11_charter : MethodName := ⟨RX11, "charter", "()I"⟩
abbrev cX11_lost : ByteArray := prog_13_method_18_code
def yX11_lost : MethodName := ⟨RX11, "lost", "()I"⟩
abbrev cX11_ofCharter : ByteArray := prog_13_method_19_code
def yX11_ofCharter : MethodName := ⟨RX11, "ofCharter", "(II)I"⟩
abbrev cX11_valueAt : ByteArray := prog_13_method_20_code
def yX11_valueAt : MethodName := ⟨RX11, "valueAt", "(II)I"⟩
abbrev cX11_set : ByteArray := prog_13_method_21_code
def yX11_set : MethodName := ⟨RX11, "set", "(III)V"⟩
abbrev cX11_changes : ByteArray := prog_13_method_22_code
def yX11_changes : MethodName := ⟨RX11, "changes", "(III)I"⟩
abbrev cX11_undo : ByteArray := prog_13_method_23_code
def yX11_undo : MethodName := ⟨RX11, "undo", "()I"⟩
abbrev cX11_redo : ByteArray := prog_13_method_24_code
def yX11_redo : MethodName := ⟨RX11, "redo", "()I"⟩
abbrev cX11_form : ByteArray := prog_13_method_25_code
def yX11_form : MethodName := ⟨RX11, "form", "(III)I"⟩
abbrev cX11_forms : ByteArray := prog_13_method_26_code
def yX11_forms : MethodName := ⟨RX11, "forms", "(IIII)I"⟩
abbrev cX11_price : ByteArray := prog_13_method_27_code
def yX11_price : MethodName := ⟨RX11, "price", "(II)I"⟩
abbrev cX11_same : ByteArray := prog_13_method_28_code
def yX11_same : MethodName := ⟨RX11, "same", "(III)I"⟩
abbrev cX11_digest : ByteArray := prog_13_method_29_code
def yX11_digest : MethodName := ⟨RX11, "digest", "()I"⟩
abbrev cX11_isAbove : ByteArray := prog_13_method_30_code
def yX11_isAbove : MethodName := ⟨RX11, "isAbove", "(II)Z"⟩
abbrev cX11_mother : ByteArray := prog_13_method_31_code
def yX11_mother : MethodName := ⟨RX11, "mother", "(II)I"⟩
abbrev cX11_priceOf : ByteArray := prog_13_method_32_code
def yX11_priceOf : MethodName := ⟨RX11, "priceOf", "(II)I"⟩
abbrev cX11_findOrder : ByteArray := prog_13_method_33_code
def yX11_findOrder : MethodName := ⟨RX11, "findOrder", "()V"⟩
abbrev cX11_isOrdered : ByteArray := prog_13_method_34_code
def yX11_isOrdered : MethodName := ⟨RX11, "isOrdered", "(I)Z"⟩
abbrev cX11_mayBe : ByteArray := prog_13_method_35_code
def yX11_mayBe : MethodName := ⟨RX11, "mayBe", "(III)Z"⟩
abbrev cX11_leastFrom : ByteArray := prog_13_method_36_code
def yX11_leastFrom : MethodName := ⟨RX11, "leastFrom", "(II)I"⟩
abbrev cX11_costOf : ByteArray := prog_13_method_37_code
def yX11_costOf : MethodName := ⟨RX11, "costOf", "(I)I"⟩
abbrev cX11_findBeyond : ByteArray := prog_13_method_38_code
def yX11_findBeyond : MethodName := ⟨RX11, "findBeyond", "()V"⟩
abbrev cX11_lookAtAll : ByteArray := prog_13_method_39_code
def yX11_lookAtAll : MethodName := ⟨RX11, "lookAtAll", "()V"⟩
abbrev cX11_cost : ByteArray := prog_13_method_40_code
def yX11_cost : MethodName := ⟨RX11, "cost", "(I)I"⟩
abbrev cX11_filledBy : ByteArray := prog_13_method_41_code
def yX11_filledBy : MethodName := ⟨RX11, "filledBy", "(II)I"⟩
abbrev cX11_filled : ByteArray := prog_13_method_42_code
def yX11_filled : MethodName := ⟨RX11, "filled", "(II)I"⟩
abbrev cX11_law : ByteArray := prog_13_method_43_code
def yX11_law : MethodName := ⟨RX11, "law", "(II)I"⟩
abbrev cX11_findDays : ByteArray := prog_13_method_44_code
def yX11_findDays : MethodName := ⟨RX11, "findDays", "()I"⟩
abbrev cX11_days : ByteArray := prog_13_method_45_code
def yX11_days : MethodName := ⟨RX11, "days", "(II)I"⟩
abbrev cX11_list : ByteArray := prog_13_method_46_code
def yX11_list : MethodName := ⟨RX11, "list", "(I)I"⟩
abbrev cX11_unlist : ByteArray := prog_13_method_47_code
def yX11_unlist : MethodName := ⟨RX11, "unlist", "()I"⟩
abbrev cX11_placeOf : ByteArray := prog_13_method_48_code
def yX11_placeOf : MethodName := ⟨RX11, "placeOf", "(I)I"⟩
abbrev cX11_isOneTree : ByteArray := prog_13_method_49_code
def yX11_isOneTree : MethodName := ⟨RX11, "isOneTree", "()Z"⟩
abbrev cX11_weigh : ByteArray := prog_13_method_50_code
def yX11_weigh : MethodName := ⟨RX11, "weigh", "()V"⟩
abbrev cX11_mothersFrom : ByteArray := prog_13_method_51_code
def yX11_mothersFrom : MethodName := ⟨RX11, "mothersFrom", "(II)V"⟩
abbrev cX11_findBest : ByteArray := prog_13_method_52_code
def yX11_findBest : MethodName := ⟨RX11, "findBest", "()V"⟩
abbrev cX11_boundNow : ByteArray := prog_13_method_53_code
def yX11_boundNow : MethodName := ⟨RX11, "boundNow", "()I"⟩
abbrev cX11_best : ByteArray := prog_13_method_54_code
def yX11_best : MethodName := ⟨RX11, "best", "(I)I"⟩
abbrev cX11_tree : ByteArray := prog_13_method_55_code
def yX11_tree : MethodName := ⟨RX11, "tree", "(II)I"⟩
abbrev cX11_never : ByteArray := prog_13_method_56_code
def yX11_never : MethodName := ⟨RX11, "never", "(I)I"⟩
abbrev cX11_claim : ByteArray := prog_13_method_57_code
def yX11_claim : MethodName := ⟨RX11, "claim", "(I)I"⟩
abbrev cX11_fillAll : ByteArray := prog_13_method_58_code
def yX11_fillAll : MethodName := ⟨RX11, "fillAll", "()V"⟩
abbrev cX11_canLend : ByteArray := prog_13_method_59_code
def yX11_canLend : MethodName := ⟨RX11, "canLend", "(II)Z"⟩
abbrev cX11_baseOf : ByteArray := prog_13_method_60_code
def yX11_baseOf : MethodName := ⟨RX11, "baseOf", "(II)I"⟩
abbrev cX11_isAlike : ByteArray := prog_13_method_61_code
def yX11_isAlike : MethodName := ⟨RX11, "isAlike", "(III)Z"⟩
abbrev cX11_canBorrow : ByteArray := prog_13_method_62_code
def yX11_canBorrow : MethodName := ⟨RX11, "canBorrow", "(II)Z"⟩
abbrev cX11_addGain : ByteArray := prog_13_method_63_code
def yX11_addGain : MethodName := ⟨RX11, "addGain", "(II)V"⟩
abbrev cX11_tryChapter : ByteArray := prog_13_method_64_code
def yX11_tryChapter : MethodName := ⟨RX11, "tryChapter", "(III)V"⟩
abbrev cX11_findChapter : ByteArray := prog_13_method_65_code
def yX11_findChapter : MethodName := ⟨RX11, "findChapter", "(II)V"⟩
abbrev cX11_few : ByteArray := prog_13_method_66_code
def yX11_few : MethodName := ⟨RX11, "few", "(I)I"⟩
abbrev cX11_from : ByteArray := prog_13_method_67_code
def yX11_from : MethodName := ⟨RX11, "from", "(II)I"⟩
abbrev cX11_cameIn : ByteArray := prog_13_method_68_code
def yX11_cameIn : MethodName := ⟨RX11, "cameIn", "(II)I"⟩
abbrev cX11_doClash : ByteArray := prog_13_method_69_code
def yX11_doClash : MethodName := ⟨RX11, "doClash", "(II)Z"⟩
abbrev cX11_findPairs : ByteArray := prog_13_method_70_code
def yX11_findPairs : MethodName := ⟨RX11, "findPairs", "()V"⟩
abbrev cX11_pairs : ByteArray := prog_13_method_71_code
def yX11_pairs : MethodName := ⟨RX11, "pairs", "(I)I"⟩
abbrev cX11_bitsOf : ByteArray := prog_13_method_72_code
def yX11_bitsOf : MethodName := ⟨RX11, "bitsOf", "(I)I"⟩
abbrev cX11_frees : ByteArray := prog_13_method_73_code
def yX11_frees : MethodName := ⟨RX11, "frees", "(I)Z"⟩
abbrev cX11_freed : ByteArray := prog_13_method_74_code
def yX11_freed : MethodName := ⟨RX11, "freed", "()I"⟩
abbrev cX11_doAgree : ByteArray := prog_13_method_75_code
def yX11_doAgree : MethodName := ⟨RX11, "doAgree", "(I)Z"⟩
abbrev cX11_doubt : ByteArray := prog_13_method_76_code
def yX11_doubt : MethodName := ⟨RX11, "doubt", "(I)I"⟩
abbrev cX11_digitsOf : ByteArray := prog_13_method_77_code
def yX11_digitsOf : MethodName := ⟨RX11, "digitsOf", "(I[I)I"⟩
abbrev cX11_isWithout : ByteArray := prog_13_method_78_code
def yX11_isWithout : MethodName := ⟨RX11, "isWithout", "([III[II)Z"⟩
abbrev cX11_looksLike : ByteArray := prog_13_method_79_code
def yX11_looksLike : MethodName := ⟨RX11, "looksLike", "(II)Z"⟩
abbrev cX11_slipOf : ByteArray := prog_13_method_80_code
def yX11_slipOf : MethodName := ⟨RX11, "slipOf", "(II)I"⟩
abbrev cX11_isNumber : ByteArray := prog_13_method_81_code
def yX11_isNumber : MethodName := ⟨RX11, "isNumber", "(I)Z"⟩
abbrev cX11_slip : ByteArray := prog_13_method_82_code
def yX11_slip : MethodName := ⟨RX11, "slip", "(II)I"⟩
abbrev cX11_numberAt : ByteArray := prog_13_method_83_code
def yX11_numberAt : MethodName := ⟨RX11, "numberAt", "(I)I"⟩
abbrev cX11_copyRow : ByteArray := prog_13_method_84_code
def yX11_copyRow : MethodName := ⟨RX11, "copyRow", "(I)V"⟩
abbrev cX11_reaches : ByteArray := prog_13_method_85_code
def yX11_reaches : MethodName := ⟨RX11, "reaches", "(III)Z"⟩
abbrev cX11_chain : ByteArray := prog_13_method_86_code
def yX11_chain : MethodName := ⟨RX11, "chain", "(II)I"⟩
abbrev cX11_isBody : ByteArray := prog_13_method_87_code
def yX11_isBody : MethodName := ⟨RX11, "isBody", "(I)Z"⟩
abbrev cX11_isUnder : ByteArray := prog_13_method_88_code
def yX11_isUnder : MethodName := ⟨RX11, "isUnder", "(II)Z"⟩
abbrev cX11_path : ByteArray := prog_13_method_89_code
def yX11_path : MethodName := ⟨RX11, "path", "(II)I"⟩
abbrev cX11_ran : ByteArray := prog_13_method_90_code
def yX11_ran : MethodName := ⟨RX11, "ran", "(I)V"⟩
abbrev cX11_plainCosts : ByteArray := prog_13_method_91_code
def yX11_plainCosts : MethodName := ⟨RX11, "plainCosts", "(II)I"⟩
abbrev cX11_costs : ByteArray := prog_13_method_92_code
def yX11_costs : MethodName := ⟨RX11, "costs", "(II)I"⟩
abbrev cX11_plainLets : ByteArray := prog_13_method_93_code
def yX11_plainLets : MethodName := ⟨RX11, "plainLets", "(II)I"⟩
abbrev cX11_childLets : ByteArray := prog_13_method_94_code
def yX11_childLets : MethodName := ⟨RX11, "childLets", "(II)I"⟩
abbrev cX11_lets : ByteArray := prog_13_method_95_code
def yX11_lets : MethodName := ⟨RX11, "lets", "(II)I"⟩
abbrev cX11_plainKeeps : ByteArray := prog_13_method_96_code
def yX11_plainKeeps : MethodName := ⟨RX11, "plainKeeps", "(II)I"⟩
abbrev cX11_lostKeeps : ByteArray := prog_13_method_97_code
def yX11_lostKeeps : MethodName := ⟨RX11, "lostKeeps", "(II)I"⟩
abbrev cX11_keeps : ByteArray := prog_13_method_98_code
def yX11_keeps : MethodName := ⟨RX11, "keeps", "(II)I"⟩
abbrev cX11_plainTells : ByteArray := prog_13_method_99_code
def yX11_plainTells : MethodName := ⟨RX11, "plainTells", "(II)I"⟩
abbrev cX11_tells : ByteArray := prog_13_method_100_code
def yX11_tells : MethodName := ⟨RX11, "tells", "(II)I"⟩
abbrev cX11_act : ByteArray := prog_13_method_101_code
def yX11_act : MethodName := ⟨RX11, "act", "(III)I"⟩
abbrev cX11_trace : ByteArray := prog_13_method_102_code
def yX11_trace : MethodName := ⟨RX11, "trace", "(I)I"⟩
abbrev cX11_count : ByteArray := prog_13_method_103_code
def yX11_count : MethodName := ⟨RX11, "count", "(I)I"⟩
abbrev cX11_isShelf : ByteArray := prog_13_method_104_code
def yX11_isShelf : MethodName := ⟨RX11, "isShelf", "(I)Z"⟩
abbrev cX11_keep : ByteArray := prog_13_method_105_code
def yX11_keep : MethodName := ⟨RX11, "keep", "(II)I"⟩
abbrev cX11_row : ByteArray := prog_13_method_106_code
def yX11_row : MethodName := ⟨RX11, "row", "(III)I"⟩
abbrev cX11_whyNoPlace : ByteArray := prog_13_method_107_code
def yX11_whyNoPlace : MethodName := ⟨RX11, "whyNoPlace", "(II)I"⟩
abbrev cX11_put : ByteArray := prog_13_method_108_code
def yX11_put : MethodName := ⟨RX11, "put", "(IIJ)I"⟩
abbrev cX11_element : ByteArray := prog_13_method_109_code
def yX11_element : MethodName := ⟨RX11, "element", "(II)J"⟩
abbrev cX11_shift : ByteArray := prog_13_method_110_code
def yX11_shift : MethodName := ⟨RX11, "shift", "(IIIII)I"⟩
abbrev cX11_taken : ByteArray := prog_13_method_111_code
def yX11_taken : MethodName := ⟨RX11, "taken", "(II)I"⟩
def RJ6 : String := "java/lang/Integer"
abbrev cJ6_bitCount_0f7a4 : ByteArray := prog_14_method_49_code
def yJ6_bitCount_0f7a4 : MethodName := ⟨RJ6, "bitCount", "(I)I"⟩
def RJ9 : String := "java/lang/Math"
abbrev cJ9_max_7cf53 : ByteArray := prog_15_method_65_code
def yJ9_max_7cf53 : MethodName := ⟨RJ9, "max", "(II)I"⟩
abbrev cJ9_min_7cf53 : ByteArray := prog_15_method_69_code
def yJ9_min_7cf53 : MethodName := ⟨RJ9, "min", "(II)I"⟩
def RJ10 : String := "java/lang/System"
def RJ7 : String := "java/util/Arrays"
abbrev cJ7_fill_d0a16 : ByteArray := prog_17_method_101_code
def yJ7_fill_d0a16 : MethodName := ⟨RJ7, "fill", "([JJ)V"⟩
abbrev cJ7_fill_53178 : ByteArray := prog_17_method_103_code
def yJ7_fill_53178 : MethodName := ⟨RJ7, "fill", "([II)V"⟩
def RL : String := "MotherTownsLaw"
abbrev cL_law : ByteArray := code
def yL_law : MethodName := ⟨RL, "law", "([I)Z"⟩
abbrev vwCl : List vw_C := [(RX0, TX0, 15), (RX1, TX1, 13), (RX2, TX2, 2), (RX3, TX3, 2), (RX4, TX4, 6), (RX5, TX5, 8), (RX6, TX6, 5), (RX8, TX8, 7), (RX9, TX9, 12), (RX10, TX10, 9), (RX11, TX11, 55)]
