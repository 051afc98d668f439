section
/-- a private method of a class that the tables say can be made, by its rows of tables_1 -/
def lw_okq (q : MethodName × Nat) : Prop := (q.1.cls ≠ "java/lang/invoke/MethodHandle" ∧ q.1.cls ≠ "java/lang/invoke/VarHandle") ∧ Cond.instantiable q.1.cls q.2 ∈ tables_1 ∧ Cond.privateMethod q.1 ∈ tables_1 ∧ Cond.instanceMethod q.1 ∈ tables_1
theorem lw_p0 : lw_okq (⟨"LakeRelief", "refusalOfPlace", "(II)I"⟩, 4) := ⟨⟨by decide +kernel, by decide +kernel⟩, List.mem_of_getElem? (i := 11) (by decide +kernel), List.mem_of_getElem? (i := 204) (by decide +kernel), List.mem_of_getElem? (i := 205) (by decide +kernel)⟩
theorem lw_p1 : lw_okq (⟨"LakeRelief", "canBeLaid", "(II)Z"⟩, 4) := ⟨⟨by decide +kernel, by decide +kernel⟩, List.mem_of_getElem? (i := 11) (by decide +kernel), List.mem_of_getElem? (i := 236) (by decide +kernel), List.mem_of_getElem? (i := 237) (by decide +kernel)⟩
theorem lw_p2 : lw_okq (⟨"LakeRelief", "layLine", "(II)V"⟩, 4) := ⟨⟨by decide +kernel, by decide +kernel⟩, List.mem_of_getElem? (i := 11) (by decide +kernel), List.mem_of_getElem? (i := 249) (by decide +kernel), List.mem_of_getElem? (i := 250) (by decide +kernel)⟩
theorem lw_p3 : lw_okq (⟨"LakeRelief$Relief", "findNeighbours", "()V"⟩, 11) := ⟨⟨by decide +kernel, by decide +kernel⟩, List.mem_of_getElem? (i := 39) (by decide +kernel), List.mem_of_getElem? (i := 264) (by decide +kernel), List.mem_of_getElem? (i := 265) (by decide +kernel)⟩
theorem lw_p4 : lw_okq (⟨"LakeRelief$Relief", "landOrSea", "(I)I"⟩, 11) := ⟨⟨by decide +kernel, by decide +kernel⟩, List.mem_of_getElem? (i := 39) (by decide +kernel), List.mem_of_getElem? (i := 268) (by decide +kernel), List.mem_of_getElem? (i := 269) (by decide +kernel)⟩
theorem lw_p5 : lw_okq (⟨"LakeRelief$Relief", "sortLand", "()V"⟩, 11) := ⟨⟨by decide +kernel, by decide +kernel⟩, List.mem_of_getElem? (i := 39) (by decide +kernel), List.mem_of_getElem? (i := 283) (by decide +kernel), List.mem_of_getElem? (i := 284) (by decide +kernel)⟩
theorem lw_p6 : lw_okq (⟨"LakeRelief$Relief", "insertByHeight", "(II)V"⟩, 11) := ⟨⟨by decide +kernel, by decide +kernel⟩, List.mem_of_getElem? (i := 39) (by decide +kernel), List.mem_of_getElem? (i := 287) (by decide +kernel), List.mem_of_getElem? (i := 288) (by decide +kernel)⟩
theorem lw_p7 : lw_okq (⟨"LakeRelief$Relief", "isLower", "(II)Z"⟩, 11) := ⟨⟨by decide +kernel, by decide +kernel⟩, List.mem_of_getElem? (i := 39) (by decide +kernel), List.mem_of_getElem? (i := 291) (by decide +kernel), List.mem_of_getElem? (i := 292) (by decide +kernel)⟩
theorem lw_p8 : lw_okq (⟨"LakeRelief$Relief", "findWays", "()V"⟩, 11) := ⟨⟨by decide +kernel, by decide +kernel⟩, List.mem_of_getElem? (i := 39) (by decide +kernel), List.mem_of_getElem? (i := 295) (by decide +kernel), List.mem_of_getElem? (i := 296) (by decide +kernel)⟩
theorem lw_p9 : lw_okq (⟨"LakeRelief$Relief", "downOf", "(I)I"⟩, 11) := ⟨⟨by decide +kernel, by decide +kernel⟩, List.mem_of_getElem? (i := 39) (by decide +kernel), List.mem_of_getElem? (i := 299) (by decide +kernel), List.mem_of_getElem? (i := 300) (by decide +kernel)⟩
theorem lw_p10 : lw_okq (⟨"LakeRelief$Relief", "findFills", "()V"⟩, 11) := ⟨⟨by decide +kernel, by decide +kernel⟩, List.mem_of_getElem? (i := 39) (by decide +kernel), List.mem_of_getElem? (i := 315) (by decide +kernel), List.mem_of_getElem? (i := 316) (by decide +kernel)⟩
theorem lw_p11 : lw_okq (⟨"LakeRelief$Relief", "lowerFills", "()Z"⟩, 11) := ⟨⟨by decide +kernel, by decide +kernel⟩, List.mem_of_getElem? (i := 39) (by decide +kernel), List.mem_of_getElem? (i := 320) (by decide +kernel), List.mem_of_getElem? (i := 321) (by decide +kernel)⟩
theorem lw_p12 : lw_okq (⟨"LakeRelief$Relief", "leastFillBeside", "(I)I"⟩, 11) := ⟨⟨by decide +kernel, by decide +kernel⟩, List.mem_of_getElem? (i := 39) (by decide +kernel), List.mem_of_getElem? (i := 324) (by decide +kernel), List.mem_of_getElem? (i := 325) (by decide +kernel)⟩
theorem lw_p13 : lw_okq (⟨"LakeRelief$Lakes", "goUnder", "(I)V"⟩, 6) := ⟨⟨by decide +kernel, by decide +kernel⟩, List.mem_of_getElem? (i := 89) (by decide +kernel), List.mem_of_getElem? (i := 335) (by decide +kernel), List.mem_of_getElem? (i := 336) (by decide +kernel)⟩
theorem lw_p14 : lw_okq (⟨"LakeRelief$Lakes", "topsBeside", "(I)J"⟩, 6) := ⟨⟨by decide +kernel, by decide +kernel⟩, List.mem_of_getElem? (i := 89) (by decide +kernel), List.mem_of_getElem? (i := 339) (by decide +kernel), List.mem_of_getElem? (i := 340) (by decide +kernel)⟩
theorem lw_p15 : lw_okq (⟨"LakeRelief$Lakes", "topWith", "(I)I"⟩, 6) := ⟨⟨by decide +kernel, by decide +kernel⟩, List.mem_of_getElem? (i := 89) (by decide +kernel), List.mem_of_getElem? (i := 344) (by decide +kernel), List.mem_of_getElem? (i := 345) (by decide +kernel)⟩
def lw_privs_1 : List (MethodName × Nat) := [(⟨"LakeRelief", "refusalOfPlace", "(II)I"⟩, 4), (⟨"LakeRelief", "canBeLaid", "(II)Z"⟩, 4), (⟨"LakeRelief", "layLine", "(II)V"⟩, 4), (⟨"LakeRelief$Relief", "findNeighbours", "()V"⟩, 11), (⟨"LakeRelief$Relief", "landOrSea", "(I)I"⟩, 11), (⟨"LakeRelief$Relief", "sortLand", "()V"⟩, 11), (⟨"LakeRelief$Relief", "insertByHeight", "(II)V"⟩, 11), (⟨"LakeRelief$Relief", "isLower", "(II)Z"⟩, 11), (⟨"LakeRelief$Relief", "findWays", "()V"⟩, 11), (⟨"LakeRelief$Relief", "downOf", "(I)I"⟩, 11), (⟨"LakeRelief$Relief", "findFills", "()V"⟩, 11), (⟨"LakeRelief$Relief", "lowerFills", "()Z"⟩, 11), (⟨"LakeRelief$Relief", "leastFillBeside", "(I)I"⟩, 11), (⟨"LakeRelief$Lakes", "goUnder", "(I)V"⟩, 6), (⟨"LakeRelief$Lakes", "topsBeside", "(I)J"⟩, 6), (⟨"LakeRelief$Lakes", "topWith", "(I)I"⟩, 6)]
theorem lw_r1 : ∀ q ∈ lw_privs_1, lw_okq q := List.forall_mem_cons.mpr ⟨lw_p0, List.forall_mem_cons.mpr ⟨lw_p1, List.forall_mem_cons.mpr ⟨lw_p2, List.forall_mem_cons.mpr ⟨lw_p3, List.forall_mem_cons.mpr ⟨lw_p4, List.forall_mem_cons.mpr ⟨lw_p5, List.forall_mem_cons.mpr ⟨lw_p6, List.forall_mem_cons.mpr ⟨lw_p7, List.forall_mem_cons.mpr ⟨lw_p8, List.forall_mem_cons.mpr ⟨lw_p9, List.forall_mem_cons.mpr ⟨lw_p10, List.forall_mem_cons.mpr ⟨lw_p11, List.forall_mem_cons.mpr ⟨lw_p12, List.forall_mem_cons.mpr ⟨lw_p13, List.forall_mem_cons.mpr ⟨lw_p14, List.forall_mem_cons.mpr ⟨lw_p15, fun _ h => absurd h List.not_mem_nil⟩⟩⟩⟩⟩⟩⟩⟩⟩⟩⟩⟩⟩⟩⟩⟩
theorem lw_p16 : lw_okq (⟨"LakeRelief$Lakes", "isBesideSeas", "(I)Z"⟩, 6) := ⟨⟨by decide +kernel, by decide +kernel⟩, List.mem_of_getElem? (i := 89) (by decide +kernel), List.mem_of_getElem? (i := 350) (by decide +kernel), List.mem_of_getElem? (i := 351) (by decide +kernel)⟩
theorem lw_p17 : lw_okq (⟨"LakeRelief$Lakes", "spillToSea", "(JI)V"⟩, 6) := ⟨⟨by decide +kernel, by decide +kernel⟩, List.mem_of_getElem? (i := 89) (by decide +kernel), List.mem_of_getElem? (i := 356) (by decide +kernel), List.mem_of_getElem? (i := 357) (by decide +kernel)⟩
theorem lw_p18 : lw_okq (⟨"LakeRelief$Lakes", "make", "(JII)I"⟩, 6) := ⟨⟨by decide +kernel, by decide +kernel⟩, List.mem_of_getElem? (i := 89) (by decide +kernel), List.mem_of_getElem? (i := 364) (by decide +kernel), List.mem_of_getElem? (i := 365) (by decide +kernel)⟩
theorem lw_p19 : lw_okq (⟨"LakeRelief$Lakes", "joinAt", "(JI)I"⟩, 6) := ⟨⟨by decide +kernel, by decide +kernel⟩, List.mem_of_getElem? (i := 89) (by decide +kernel), List.mem_of_getElem? (i := 369) (by decide +kernel), List.mem_of_getElem? (i := 370) (by decide +kernel)⟩
theorem lw_p20 : lw_okq (⟨"LakeRelief$Lakes", "makeDouble", "(III)I"⟩, 6) := ⟨⟨by decide +kernel, by decide +kernel⟩, List.mem_of_getElem? (i := 89) (by decide +kernel), List.mem_of_getElem? (i := 373) (by decide +kernel), List.mem_of_getElem? (i := 374) (by decide +kernel)⟩
theorem lw_p21 : lw_okq (⟨"LakeRelief$Lakes", "measure", "(LLakeRelief$Lake;)V"⟩, 6) := ⟨⟨by decide +kernel, by decide +kernel⟩, List.mem_of_getElem? (i := 89) (by decide +kernel), List.mem_of_getElem? (i := 381) (by decide +kernel), List.mem_of_getElem? (i := 382) (by decide +kernel)⟩
theorem lw_p22 : lw_okq (⟨"LakeRelief$Relief", "isHollow", "(I)Z"⟩, 11) := ⟨⟨by decide +kernel, by decide +kernel⟩, List.mem_of_getElem? (i := 39) (by decide +kernel), List.mem_of_getElem? (i := 418) (by decide +kernel), List.mem_of_getElem? (i := 419) (by decide +kernel)⟩
theorem lw_p23 : lw_okq (⟨"LakeRelief$Lakes", "lakeBelow", "(I)I"⟩, 6) := ⟨⟨by decide +kernel, by decide +kernel⟩, List.mem_of_getElem? (i := 89) (by decide +kernel), List.mem_of_getElem? (i := 469) (by decide +kernel), List.mem_of_getElem? (i := 470) (by decide +kernel)⟩
theorem lw_p24 : lw_okq (⟨"LakeRelief$Lakes", "runDown", "(II)I"⟩, 6) := ⟨⟨by decide +kernel, by decide +kernel⟩, List.mem_of_getElem? (i := 89) (by decide +kernel), List.mem_of_getElem? (i := 474) (by decide +kernel), List.mem_of_getElem? (i := 475) (by decide +kernel)⟩
theorem lw_p25 : lw_okq (⟨"LakeRelief$Lakes", "fillUp", "(LLakeRelief$Lake;I)I"⟩, 6) := ⟨⟨by decide +kernel, by decide +kernel⟩, List.mem_of_getElem? (i := 89) (by decide +kernel), List.mem_of_getElem? (i := 478) (by decide +kernel), List.mem_of_getElem? (i := 479) (by decide +kernel)⟩
theorem lw_p26 : lw_okq (⟨"LakeRelief$Lakes", "next", "(I)I"⟩, 6) := ⟨⟨by decide +kernel, by decide +kernel⟩, List.mem_of_getElem? (i := 89) (by decide +kernel), List.mem_of_getElem? (i := 483) (by decide +kernel), List.mem_of_getElem? (i := 484) (by decide +kernel)⟩
theorem lw_p27 : lw_okq (⟨"LakeRelief$Lakes", "join", "(LLakeRelief$Lake;LLakeRelief$Lake;LLakeRelief$Lake;)V"⟩, 6) := ⟨⟨by decide +kernel, by decide +kernel⟩, List.mem_of_getElem? (i := 89) (by decide +kernel), List.mem_of_getElem? (i := 491) (by decide +kernel), List.mem_of_getElem? (i := 492) (by decide +kernel)⟩
theorem lw_p28 : lw_okq (⟨"LakeRelief$Relief", "withoutPieceAt", "(IJ)J"⟩, 11) := ⟨⟨by decide +kernel, by decide +kernel⟩, List.mem_of_getElem? (i := 39) (by decide +kernel), List.mem_of_getElem? (i := 533) (by decide +kernel), List.mem_of_getElem? (i := 534) (by decide +kernel)⟩
theorem lw_p29 : lw_okq (⟨"LakeReliefModel", "against", "(II)I"⟩, 29) := ⟨⟨by decide +kernel, by decide +kernel⟩, List.mem_of_getElem? (i := 556) (by decide +kernel), List.mem_of_getElem? (i := 669) (by decide +kernel), List.mem_of_getElem? (i := 670) (by decide +kernel)⟩
theorem lw_p30 : lw_okq (⟨"LakeReliefModel", "isPlace", "(II)Z"⟩, 29) := ⟨⟨by decide +kernel, by decide +kernel⟩, List.mem_of_getElem? (i := 556) (by decide +kernel), List.mem_of_getElem? (i := 687) (by decide +kernel), List.mem_of_getElem? (i := 688) (by decide +kernel)⟩
theorem lw_p31 : lw_okq (⟨"LakeReliefModel", "stripAt", "(II)I"⟩, 29) := ⟨⟨by decide +kernel, by decide +kernel⟩, List.mem_of_getElem? (i := 556) (by decide +kernel), List.mem_of_getElem? (i := 691) (by decide +kernel), List.mem_of_getElem? (i := 692) (by decide +kernel)⟩
def lw_privs_2 : List (MethodName × Nat) := [(⟨"LakeRelief$Lakes", "isBesideSeas", "(I)Z"⟩, 6), (⟨"LakeRelief$Lakes", "spillToSea", "(JI)V"⟩, 6), (⟨"LakeRelief$Lakes", "make", "(JII)I"⟩, 6), (⟨"LakeRelief$Lakes", "joinAt", "(JI)I"⟩, 6), (⟨"LakeRelief$Lakes", "makeDouble", "(III)I"⟩, 6), (⟨"LakeRelief$Lakes", "measure", "(LLakeRelief$Lake;)V"⟩, 6), (⟨"LakeRelief$Relief", "isHollow", "(I)Z"⟩, 11), (⟨"LakeRelief$Lakes", "lakeBelow", "(I)I"⟩, 6), (⟨"LakeRelief$Lakes", "runDown", "(II)I"⟩, 6), (⟨"LakeRelief$Lakes", "fillUp", "(LLakeRelief$Lake;I)I"⟩, 6), (⟨"LakeRelief$Lakes", "next", "(I)I"⟩, 6), (⟨"LakeRelief$Lakes", "join", "(LLakeRelief$Lake;LLakeRelief$Lake;LLakeRelief$Lake;)V"⟩, 6), (⟨"LakeRelief$Relief", "withoutPieceAt", "(IJ)J"⟩, 11), (⟨"LakeReliefModel", "against", "(II)I"⟩, 29), (⟨"LakeReliefModel", "isPlace", "(II)Z"⟩, 29), (⟨"LakeReliefModel", "stripAt", "(II)I"⟩, 29)]
theorem lw_r2 : ∀ q ∈ lw_privs_2, lw_okq q := List.forall_mem_cons.mpr ⟨lw_p16, List.forall_mem_cons.mpr ⟨lw_p17, List.forall_mem_cons.mpr ⟨lw_p18, List.forall_mem_cons.mpr ⟨lw_p19, List.forall_mem_cons.mpr ⟨lw_p20, List.forall_mem_cons.mpr ⟨lw_p21, List.forall_mem_cons.mpr ⟨lw_p22, List.forall_mem_cons.mpr ⟨lw_p23, List.forall_mem_cons.mpr ⟨lw_p24, List.forall_mem_cons.mpr ⟨lw_p25, List.forall_mem_cons.mpr ⟨lw_p26, List.forall_mem_cons.mpr ⟨lw_p27, List.forall_mem_cons.mpr ⟨lw_p28, List.forall_mem_cons.mpr ⟨lw_p29, List.forall_mem_cons.mpr ⟨lw_p30, List.forall_mem_cons.mpr ⟨lw_p31, fun _ h => absurd h List.not_mem_nil⟩⟩⟩⟩⟩⟩⟩⟩⟩⟩⟩⟩⟩⟩⟩⟩
theorem lw_p32 : lw_okq (⟨"LakeReliefModel", "layDown", "(I)V"⟩, 29) := ⟨⟨by decide +kernel, by decide +kernel⟩, List.mem_of_getElem? (i := 556) (by decide +kernel), List.mem_of_getElem? (i := 697) (by decide +kernel), List.mem_of_getElem? (i := 698) (by decide +kernel)⟩
theorem lw_p33 : lw_okq (⟨"LakeReliefModel", "beside", "(II)I"⟩, 29) := ⟨⟨by decide +kernel, by decide +kernel⟩, List.mem_of_getElem? (i := 556) (by decide +kernel), List.mem_of_getElem? (i := 701) (by decide +kernel), List.mem_of_getElem? (i := 702) (by decide +kernel)⟩
theorem lw_p34 : lw_okq (⟨"LakeReliefModel", "isWet", "(I)Z"⟩, 29) := ⟨⟨by decide +kernel, by decide +kernel⟩, List.mem_of_getElem? (i := 556) (by decide +kernel), List.mem_of_getElem? (i := 705) (by decide +kernel), List.mem_of_getElem? (i := 706) (by decide +kernel)⟩
theorem lw_p35 : lw_okq (⟨"LakeReliefModel", "isLower", "(II)Z"⟩, 29) := ⟨⟨by decide +kernel, by decide +kernel⟩, List.mem_of_getElem? (i := 556) (by decide +kernel), List.mem_of_getElem? (i := 709) (by decide +kernel), List.mem_of_getElem? (i := 710) (by decide +kernel)⟩
theorem lw_p36 : lw_okq (⟨"LakeReliefModel", "endOf", "(I)I"⟩, 29) := ⟨⟨by decide +kernel, by decide +kernel⟩, List.mem_of_getElem? (i := 556) (by decide +kernel), List.mem_of_getElem? (i := 713) (by decide +kernel), List.mem_of_getElem? (i := 714) (by decide +kernel)⟩
theorem lw_p37 : lw_okq (⟨"LakeReliefModel", "layFill", "()V"⟩, 29) := ⟨⟨by decide +kernel, by decide +kernel⟩, List.mem_of_getElem? (i := 556) (by decide +kernel), List.mem_of_getElem? (i := 717) (by decide +kernel), List.mem_of_getElem? (i := 718) (by decide +kernel)⟩
theorem lw_p38 : lw_okq (⟨"LakeReliefModel", "layLakes", "()V"⟩, 29) := ⟨⟨by decide +kernel, by decide +kernel⟩, List.mem_of_getElem? (i := 556) (by decide +kernel), List.mem_of_getElem? (i := 722) (by decide +kernel), List.mem_of_getElem? (i := 723) (by decide +kernel)⟩
theorem lw_p39 : lw_okq (⟨"LakeReliefModel", "goUnder", "(I)V"⟩, 29) := ⟨⟨by decide +kernel, by decide +kernel⟩, List.mem_of_getElem? (i := 556) (by decide +kernel), List.mem_of_getElem? (i := 726) (by decide +kernel), List.mem_of_getElem? (i := 727) (by decide +kernel)⟩
theorem lw_p40 : lw_okq (⟨"LakeReliefModel", "lookBeside", "(I)Z"⟩, 29) := ⟨⟨by decide +kernel, by decide +kernel⟩, List.mem_of_getElem? (i := 556) (by decide +kernel), List.mem_of_getElem? (i := 730) (by decide +kernel), List.mem_of_getElem? (i := 731) (by decide +kernel)⟩
theorem lw_p41 : lw_okq (⟨"LakeReliefModel", "becomes", "(II)V"⟩, 29) := ⟨⟨by decide +kernel, by decide +kernel⟩, List.mem_of_getElem? (i := 556) (by decide +kernel), List.mem_of_getElem? (i := 734) (by decide +kernel), List.mem_of_getElem? (i := 735) (by decide +kernel)⟩
theorem lw_p42 : lw_okq (⟨"LakeReliefModel", "newLake", "()I"⟩, 29) := ⟨⟨by decide +kernel, by decide +kernel⟩, List.mem_of_getElem? (i := 556) (by decide +kernel), List.mem_of_getElem? (i := 738) (by decide +kernel), List.mem_of_getElem? (i := 739) (by decide +kernel)⟩
theorem lw_p43 : lw_okq (⟨"LakeReliefModel", "joins", "(II)V"⟩, 29) := ⟨⟨by decide +kernel, by decide +kernel⟩, List.mem_of_getElem? (i := 556) (by decide +kernel), List.mem_of_getElem? (i := 742) (by decide +kernel), List.mem_of_getElem? (i := 743) (by decide +kernel)⟩
theorem lw_p44 : lw_okq (⟨"LakeReliefModel", "twice", "(III)I"⟩, 29) := ⟨⟨by decide +kernel, by decide +kernel⟩, List.mem_of_getElem? (i := 556) (by decide +kernel), List.mem_of_getElem? (i := 746) (by decide +kernel), List.mem_of_getElem? (i := 747) (by decide +kernel)⟩
theorem lw_p45 : lw_okq (⟨"LakeReliefModel", "isField", "(I)Z"⟩, 29) := ⟨⟨by decide +kernel, by decide +kernel⟩, List.mem_of_getElem? (i := 556) (by decide +kernel), List.mem_of_getElem? (i := 755) (by decide +kernel), List.mem_of_getElem? (i := 756) (by decide +kernel)⟩
theorem lw_p46 : lw_okq (⟨"LakeReliefModel", "lakeAt", "(I)I"⟩, 29) := ⟨⟨by decide +kernel, by decide +kernel⟩, List.mem_of_getElem? (i := 556) (by decide +kernel), List.mem_of_getElem? (i := 761) (by decide +kernel), List.mem_of_getElem? (i := 762) (by decide +kernel)⟩
theorem lw_p47 : lw_okq (⟨"LakeReliefModel", "isOf", "(II)Z"⟩, 29) := ⟨⟨by decide +kernel, by decide +kernel⟩, List.mem_of_getElem? (i := 556) (by decide +kernel), List.mem_of_getElem? (i := 765) (by decide +kernel), List.mem_of_getElem? (i := 766) (by decide +kernel)⟩
def lw_privs_3 : List (MethodName × Nat) := [(⟨"LakeReliefModel", "layDown", "(I)V"⟩, 29), (⟨"LakeReliefModel", "beside", "(II)I"⟩, 29), (⟨"LakeReliefModel", "isWet", "(I)Z"⟩, 29), (⟨"LakeReliefModel", "isLower", "(II)Z"⟩, 29), (⟨"LakeReliefModel", "endOf", "(I)I"⟩, 29), (⟨"LakeReliefModel", "layFill", "()V"⟩, 29), (⟨"LakeReliefModel", "layLakes", "()V"⟩, 29), (⟨"LakeReliefModel", "goUnder", "(I)V"⟩, 29), (⟨"LakeReliefModel", "lookBeside", "(I)Z"⟩, 29), (⟨"LakeReliefModel", "becomes", "(II)V"⟩, 29), (⟨"LakeReliefModel", "newLake", "()I"⟩, 29), (⟨"LakeReliefModel", "joins", "(II)V"⟩, 29), (⟨"LakeReliefModel", "twice", "(III)I"⟩, 29), (⟨"LakeReliefModel", "isField", "(I)Z"⟩, 29), (⟨"LakeReliefModel", "lakeAt", "(I)I"⟩, 29), (⟨"LakeReliefModel", "isOf", "(II)Z"⟩, 29)]
theorem lw_r3 : ∀ q ∈ lw_privs_3, lw_okq q := List.forall_mem_cons.mpr ⟨lw_p32, List.forall_mem_cons.mpr ⟨lw_p33, List.forall_mem_cons.mpr ⟨lw_p34, List.forall_mem_cons.mpr ⟨lw_p35, List.forall_mem_cons.mpr ⟨lw_p36, List.forall_mem_cons.mpr ⟨lw_p37, List.forall_mem_cons.mpr ⟨lw_p38, List.forall_mem_cons.mpr ⟨lw_p39, List.forall_mem_cons.mpr ⟨lw_p40, List.forall_mem_cons.mpr ⟨lw_p41, List.forall_mem_cons.mpr ⟨lw_p42, List.forall_mem_cons.mpr ⟨lw_p43, List.forall_mem_cons.mpr ⟨lw_p44, List.forall_mem_cons.mpr ⟨lw_p45, List.forall_mem_cons.mpr ⟨lw_p46, List.forall_mem_cons.mpr ⟨lw_p47, fun _ h => absurd h List.not_mem_nil⟩⟩⟩⟩⟩⟩⟩⟩⟩⟩⟩⟩⟩⟩⟩⟩
theorem lw_p48 : lw_okq (⟨"LakeReliefModel", "isLake", "(I)Z"⟩, 29) := ⟨⟨by decide +kernel, by decide +kernel⟩, List.mem_of_getElem? (i := 556) (by decide +kernel), List.mem_of_getElem? (i := 777) (by decide +kernel), List.mem_of_getElem? (i := 778) (by decide +kernel)⟩
theorem lw_p49 : lw_okq (⟨"LakeReliefModel", "lowest", "(I)I"⟩, 29) := ⟨⟨by decide +kernel, by decide +kernel⟩, List.mem_of_getElem? (i := 556) (by decide +kernel), List.mem_of_getElem? (i := 782) (by decide +kernel), List.mem_of_getElem? (i := 783) (by decide +kernel)⟩
theorem lw_p50 : lw_okq (⟨"LakeReliefModel", "groundSize", "(I)I"⟩, 29) := ⟨⟨by decide +kernel, by decide +kernel⟩, List.mem_of_getElem? (i := 556) (by decide +kernel), List.mem_of_getElem? (i := 786) (by decide +kernel), List.mem_of_getElem? (i := 787) (by decide +kernel)⟩
theorem lw_p51 : lw_okq (⟨"LakeReliefModel", "most", "(I)I"⟩, 29) := ⟨⟨by decide +kernel, by decide +kernel⟩, List.mem_of_getElem? (i := 556) (by decide +kernel), List.mem_of_getElem? (i := 790) (by decide +kernel), List.mem_of_getElem? (i := 791) (by decide +kernel)⟩
theorem lw_p52 : lw_okq (⟨"LakeReliefModel", "holdsTo", "(II)I"⟩, 29) := ⟨⟨by decide +kernel, by decide +kernel⟩, List.mem_of_getElem? (i := 556) (by decide +kernel), List.mem_of_getElem? (i := 794) (by decide +kernel), List.mem_of_getElem? (i := 795) (by decide +kernel)⟩
theorem lw_p53 : lw_okq (⟨"LakeReliefModel", "against0", "(II)I"⟩, 29) := ⟨⟨by decide +kernel, by decide +kernel⟩, List.mem_of_getElem? (i := 556) (by decide +kernel), List.mem_of_getElem? (i := 806) (by decide +kernel), List.mem_of_getElem? (i := 807) (by decide +kernel)⟩
theorem lw_p54 : lw_okq (⟨"LakeReliefModel", "over", "(I)I"⟩, 29) := ⟨⟨by decide +kernel, by decide +kernel⟩, List.mem_of_getElem? (i := 556) (by decide +kernel), List.mem_of_getElem? (i := 819) (by decide +kernel), List.mem_of_getElem? (i := 820) (by decide +kernel)⟩
theorem lw_p55 : lw_okq (⟨"LakeReliefModel", "layHeights", "(I)I"⟩, 29) := ⟨⟨by decide +kernel, by decide +kernel⟩, List.mem_of_getElem? (i := 556) (by decide +kernel), List.mem_of_getElem? (i := 827) (by decide +kernel), List.mem_of_getElem? (i := 828) (by decide +kernel)⟩
def lw_privs_4 : List (MethodName × Nat) := [(⟨"LakeReliefModel", "isLake", "(I)Z"⟩, 29), (⟨"LakeReliefModel", "lowest", "(I)I"⟩, 29), (⟨"LakeReliefModel", "groundSize", "(I)I"⟩, 29), (⟨"LakeReliefModel", "most", "(I)I"⟩, 29), (⟨"LakeReliefModel", "holdsTo", "(II)I"⟩, 29), (⟨"LakeReliefModel", "against0", "(II)I"⟩, 29), (⟨"LakeReliefModel", "over", "(I)I"⟩, 29), (⟨"LakeReliefModel", "layHeights", "(I)I"⟩, 29)]
theorem lw_r4 : ∀ q ∈ lw_privs_4, lw_okq q := List.forall_mem_cons.mpr ⟨lw_p48, List.forall_mem_cons.mpr ⟨lw_p49, List.forall_mem_cons.mpr ⟨lw_p50, List.forall_mem_cons.mpr ⟨lw_p51, List.forall_mem_cons.mpr ⟨lw_p52, List.forall_mem_cons.mpr ⟨lw_p53, List.forall_mem_cons.mpr ⟨lw_p54, List.forall_mem_cons.mpr ⟨lw_p55, fun _ h => absurd h List.not_mem_nil⟩⟩⟩⟩⟩⟩⟩⟩
def lw_privs : List (MethodName × Nat) := lw_privs_1 ++ (lw_privs_2 ++ (lw_privs_3 ++ (lw_privs_4)))
def lw_tbl : List Cond := k2_sels lw_privs ++ tables_1
theorem lw_privs_ok : ∀ q ∈ lw_privs, lw_okq q := by
  show ∀ q ∈ lw_privs_1 ++ (lw_privs_2 ++ (lw_privs_3 ++ (lw_privs_4))), lw_okq q
  exact List.forall_mem_append.mpr ⟨lw_r1, List.forall_mem_append.mpr ⟨lw_r2, List.forall_mem_append.mpr ⟨lw_r3, lw_r4⟩⟩⟩
end
section
def R_LA : String := "LakeRelief$Lake"
def T_LA : u_T := fun k => match k with
  | 0 => ("LakeRelief$Lake", "fields", "J", false)
  | 1 => ("LakeRelief$Lake", "rim", "I", false)
  | 2 => ("LakeRelief$Lake", "whole", "I", false)
  | 3 => ("LakeRelief$Lake", "lesserPart", "I", false)
  | 4 => ("LakeRelief$Lake", "greaterPart", "I", false)
  | 5 => ("LakeRelief$Lake", "most", "I", false)
  | 6 => ("LakeRelief$Lake", "isThere", "Z", false)
  | _ => ("LakeRelief$Lake", "water", "I", false)
def t_LA : Nat → FieldType := fun k => match k with
  | 0 => .long
  | 1 => .int
  | 2 => .int
  | 3 => .int
  | 4 => .int
  | 5 => .int
  | 6 => .boolean
  | _ => .int
theorem n_LA : ∀ a, a < 8 → ∀ b, b < 8 → a ≠ b → (T_LA a).2.1 ≠ (T_LA b).2.1 := by decide +kernel
theorem t_LA_ok : ∀ k, k < 8 → parseFieldDescriptor (T_LA k).2.2.1 = some (t_LA k) := by decide +kernel
theorem i0_LA : ∀ w ∈ u_ws R_LA T_LA 8, w ∈ lw_tbl := by decide +kernel
theorem i_LA : ∀ w ∈ u_ws R_LA T_LA 8, w ∈ lw_tbl.filter goodWord := fun w h => List.mem_filter.mpr ⟨i0_LA w h, List.all_eq_true.mp (by decide +kernel : (u_ws R_LA T_LA 8).all goodWord = true) w h⟩
def R_LK : String := "LakeRelief$Lakes"
def T_LK : u_T := fun k => match k with
  | 0 => ("LakeRelief$Lakes", "all", "[LLakeRelief$Lake;", true)
  | 1 => ("LakeRelief$Lakes", "number", "I", false)
  | 2 => ("LakeRelief$Lakes", "gone", "J", false)
  | 3 => ("LakeRelief$Lakes", "poured", "J", false)
  | 4 => ("LakeRelief$Lakes", "relief", "LLakeRelief$Relief;", true)
  | _ => ("LakeRelief$Lakes", "seas", "J", false)
def t_LK : Nat → FieldType := fun k => match k with
  | 0 => .array (.object "LakeRelief$Lake")
  | 1 => .int
  | 2 => .long
  | 3 => .long
  | 4 => .object "LakeRelief$Relief"
  | _ => .long
theorem n_LK : ∀ a, a < 6 → ∀ b, b < 6 → a ≠ b → (T_LK a).2.1 ≠ (T_LK b).2.1 := by decide +kernel
theorem t_LK_ok : ∀ k, k < 6 → parseFieldDescriptor (T_LK k).2.2.1 = some (t_LK k) := by decide +kernel
theorem i0_LK : ∀ w ∈ u_ws R_LK T_LK 6, w ∈ lw_tbl := by decide +kernel
theorem i_LK : ∀ w ∈ u_ws R_LK T_LK 6, w ∈ lw_tbl.filter goodWord := fun w h => List.mem_filter.mpr ⟨i0_LK w h, List.all_eq_true.mp (by decide +kernel : (u_ws R_LK T_LK 6).all goodWord = true) w h⟩
def R_RE : String := "LakeRelief$Relief"
def T_RE : u_T := fun k => match k with
  | 0 => ("LakeRelief$Relief", "height", "[I", true)
  | 1 => ("LakeRelief$Relief", "down", "[I", true)
  | 2 => ("LakeRelief$Relief", "wayEnd", "[I", true)
  | 3 => ("LakeRelief$Relief", "fill", "[I", true)
  | 4 => ("LakeRelief$Relief", "order", "[I", true)
  | 5 => ("LakeRelief$Relief", "neighbours", "[I", true)
  | 6 => ("LakeRelief$Relief", "waiting", "[I", true)
  | 7 => ("LakeRelief$Relief", "width", "I", false)
  | 8 => ("LakeRelief$Relief", "size", "I", false)
  | 9 => ("LakeRelief$Relief", "landCount", "I", false)
  | _ => ("LakeRelief$Relief", "land", "J", false)
def t_RE : Nat → FieldType := fun k => match k with
  | 0 => .array .int
  | 1 => .array .int
  | 2 => .array .int
  | 3 => .array .int
  | 4 => .array .int
  | 5 => .array .int
  | 6 => .array .int
  | 7 => .int
  | 8 => .int
  | 9 => .int
  | _ => .long
theorem n_RE : ∀ a, a < 11 → ∀ b, b < 11 → a ≠ b → (T_RE a).2.1 ≠ (T_RE b).2.1 := by decide +kernel
theorem t_RE_ok : ∀ k, k < 11 → parseFieldDescriptor (T_RE k).2.2.1 = some (t_RE k) := by decide +kernel
theorem i0_RE : ∀ w ∈ u_ws R_RE T_RE 11, w ∈ lw_tbl := by decide +kernel
theorem i_RE : ∀ w ∈ u_ws R_RE T_RE 11, w ∈ lw_tbl.filter goodWord := fun w h => List.mem_filter.mpr ⟨i0_RE w h, List.all_eq_true.mp (by decide +kernel : (u_ws R_RE T_RE 11).all goodWord = true) w h⟩
def R_ST : String := "LakeRelief$Strip"
def T_ST : u_T := fun k => match k with
  | 0 => ("LakeRelief$Strip", "places", "[I", true)
  | 1 => ("LakeRelief$Strip", "kind", "I", false)
  | _ => ("LakeRelief$Strip", "length", "I", false)
def t_ST : Nat → FieldType := fun k => match k with
  | 0 => .array .int
  | 1 => .int
  | _ => .int
theorem n_ST : ∀ a, a < 3 → ∀ b, b < 3 → a ≠ b → (T_ST a).2.1 ≠ (T_ST b).2.1 := by decide +kernel
theorem t_ST_ok : ∀ k, k < 3 → parseFieldDescriptor (T_ST k).2.2.1 = some (t_ST k) := by decide +kernel
theorem i0_ST : ∀ w ∈ u_ws R_ST T_ST 3, w ∈ lw_tbl := by decide +kernel
theorem i_ST : ∀ w ∈ u_ws R_ST T_ST 3, w ∈ lw_tbl.filter goodWord := fun w h => List.mem_filter.mpr ⟨i0_ST w h, List.all_eq_true.mp (by decide +kernel : (u_ws R_ST T_ST 3).all goodWord = true) w h⟩
def R_LR : String := "LakeRelief"
def T_LR : u_T := fun k => match k with
  | 0 => ("LakeRelief", "strips", "[LLakeRelief$Strip;", true)
  | 1 => ("LakeRelief", "relief", "LLakeRelief$Relief;", true)
  | 2 => ("LakeRelief", "lakes", "LLakeRelief$Lakes;", true)
  | _ => ("LakeRelief", "isLaid", "Z", false)
def t_LR : Nat → FieldType := fun k => match k with
  | 0 => .array (.object "LakeRelief$Strip")
  | 1 => .object "LakeRelief$Relief"
  | 2 => .object "LakeRelief$Lakes"
  | _ => .boolean
theorem n_LR : ∀ a, a < 4 → ∀ b, b < 4 → a ≠ b → (T_LR a).2.1 ≠ (T_LR b).2.1 := by decide +kernel
theorem t_LR_ok : ∀ k, k < 4 → parseFieldDescriptor (T_LR k).2.2.1 = some (t_LR k) := by decide +kernel
theorem i0_LR : ∀ w ∈ u_ws R_LR T_LR 4, w ∈ lw_tbl := by decide +kernel
theorem i_LR : ∀ w ∈ u_ws R_LR T_LR 4, w ∈ lw_tbl.filter goodWord := fun w h => List.mem_filter.mpr ⟨i0_LR w h, List.all_eq_true.mp (by decide +kernel : (u_ws R_LR T_LR 4).all goodWord = true) w h⟩
def R_MO : String := "LakeReliefModel"
def T_MO : u_T := fun k => match k with
  | 0 => ("LakeReliefModel", "kind", "[I", true)
  | 1 => ("LakeReliefModel", "size", "[I", true)
  | 2 => ("LakeReliefModel", "strips", "[I", true)
  | 3 => ("LakeReliefModel", "isLaid", "Z", false)
  | 4 => ("LakeReliefModel", "wide", "I", false)
  | 5 => ("LakeReliefModel", "fields", "I", false)
  | 6 => ("LakeReliefModel", "isSea", "[Z", true)
  | 7 => ("LakeReliefModel", "height", "[I", true)
  | 8 => ("LakeReliefModel", "down", "[I", true)
  | 9 => ("LakeReliefModel", "wayEnd", "[I", true)
  | 10 => ("LakeReliefModel", "fill", "[I", true)
  | 11 => ("LakeReliefModel", "lakes", "I", false)
  | 12 => ("LakeReliefModel", "isDouble", "[Z", true)
  | 13 => ("LakeReliefModel", "ground", "[J", true)
  | 14 => ("LakeReliefModel", "rim", "[I", true)
  | 15 => ("LakeReliefModel", "above", "[I", true)
  | 16 => ("LakeReliefModel", "first", "[I", true)
  | 17 => ("LakeReliefModel", "second", "[I", true)
  | 18 => ("LakeReliefModel", "isThere", "[Z", true)
  | 19 => ("LakeReliefModel", "water", "[I", true)
  | 20 => ("LakeReliefModel", "gone", "J", false)
  | 21 => ("LakeReliefModel", "poured", "J", false)
  | 22 => ("LakeReliefModel", "middle", "[I", true)
  | 23 => ("LakeReliefModel", "owner", "[I", true)
  | 24 => ("LakeReliefModel", "isUnder", "[Z", true)
  | 25 => ("LakeReliefModel", "near", "[I", true)
  | 26 => ("LakeReliefModel", "nearMany", "I", false)
  | 27 => ("LakeReliefModel", "heights", "[I", true)
  | _ => ("LakeReliefModel", "island", "[I", true)
def t_MO : Nat → FieldType := fun k => match k with
  | 0 => .array .int
  | 1 => .array .int
  | 2 => .array .int
  | 3 => .boolean
  | 4 => .int
  | 5 => .int
  | 6 => .array .boolean
  | 7 => .array .int
  | 8 => .array .int
  | 9 => .array .int
  | 10 => .array .int
  | 11 => .int
  | 12 => .array .boolean
  | 13 => .array .long
  | 14 => .array .int
  | 15 => .array .int
  | 16 => .array .int
  | 17 => .array .int
  | 18 => .array .boolean
  | 19 => .array .int
  | 20 => .long
  | 21 => .long
  | 22 => .array .int
  | 23 => .array .int
  | 24 => .array .boolean
  | 25 => .array .int
  | 26 => .int
  | 27 => .array .int
  | _ => .array .int
theorem n_MO : ∀ a, a < 29 → ∀ b, b < 29 → a ≠ b → (T_MO a).2.1 ≠ (T_MO b).2.1 := by decide +kernel
theorem t_MO_ok : ∀ k, k < 29 → parseFieldDescriptor (T_MO k).2.2.1 = some (t_MO k) := by decide +kernel
theorem i0_MO : ∀ w ∈ u_ws R_MO T_MO 29, w ∈ lw_tbl := by decide +kernel
theorem i_MO : ∀ w ∈ u_ws R_MO T_MO 29, w ∈ lw_tbl.filter goodWord := fun w h => List.mem_filter.mpr ⟨i0_MO w h, List.all_eq_true.mp (by decide +kernel : (u_ws R_MO T_MO 29).all goodWord = true) w h⟩
abbrev cls : List vw_C := [(R_LA, T_LA, 8), (R_LK, T_LK, 6), (R_RE, T_RE, 11), (R_ST, T_ST, 3), (R_LR, T_LR, 4), (R_MO, T_MO, 29)]
def y_LA_init : MethodName := ⟨"LakeRelief$Lake", "<init>", "()V"⟩
def y_LA_begin : MethodName := ⟨"LakeRelief$Lake", "begin", "(JII)V"⟩
def y_LA_isDouble : MethodName := ⟨"LakeRelief$Lake", "isDouble", "()Z"⟩
def y_LA_isFull : MethodName := ⟨"LakeRelief$Lake", "isFull", "()Z"⟩
def y_LA_spillAt : MethodName := ⟨"LakeRelief$Lake", "spillAt", "(II)V"⟩
def y_LA_appear : MethodName := ⟨"LakeRelief$Lake", "appear", "(I)V"⟩
def y_LA_vanish : MethodName := ⟨"LakeRelief$Lake", "vanish", "()V"⟩
def y_LK_init : MethodName := ⟨"LakeRelief$Lakes", "<init>", "(LLakeRelief$Relief;)V"⟩
def y_LK_isLake : MethodName := ⟨"LakeRelief$Lakes", "isLake", "(I)Z"⟩
def y_LK_isLevelOf : MethodName := ⟨"LakeRelief$Lakes", "isLevelOf", "(II)Z"⟩
def y_LK_come : MethodName := ⟨"LakeRelief$Lakes", "come", "()V"⟩
def y_LK_measure : MethodName := ⟨"LakeRelief$Lakes", "measure", "(LLakeRelief$Lake;)V"⟩
def y_LK_goUnder : MethodName := ⟨"LakeRelief$Lakes", "goUnder", "(I)V"⟩
def y_LK_isBesideSeas : MethodName := ⟨"LakeRelief$Lakes", "isBesideSeas", "(I)Z"⟩
def y_LK_topsBeside : MethodName := ⟨"LakeRelief$Lakes", "topsBeside", "(I)J"⟩
def y_LK_topWith : MethodName := ⟨"LakeRelief$Lakes", "topWith", "(I)I"⟩
def y_LK_spillToSea : MethodName := ⟨"LakeRelief$Lakes", "spillToSea", "(JI)V"⟩
def y_LK_joinAt : MethodName := ⟨"LakeRelief$Lakes", "joinAt", "(JI)I"⟩
def y_LK_makeDouble : MethodName := ⟨"LakeRelief$Lakes", "makeDouble", "(III)I"⟩
def y_LK_make : MethodName := ⟨"LakeRelief$Lakes", "make", "(JII)I"⟩
def y_LK_thereWith : MethodName := ⟨"LakeRelief$Lakes", "thereWith", "(I)I"⟩
def y_LK_numberThere : MethodName := ⟨"LakeRelief$Lakes", "numberThere", "()I"⟩
def y_LK_waterThere : MethodName := ⟨"LakeRelief$Lakes", "waterThere", "()J"⟩
def y_LK_takeGrains : MethodName := ⟨"LakeRelief$Lakes", "takeGrains", "(II)I"⟩
def y_LK_lakeBelow : MethodName := ⟨"LakeRelief$Lakes", "lakeBelow", "(I)I"⟩
def y_LK_runDown : MethodName := ⟨"LakeRelief$Lakes", "runDown", "(II)I"⟩
def y_LK_fillUp : MethodName := ⟨"LakeRelief$Lakes", "fillUp", "(LLakeRelief$Lake;I)I"⟩
def y_LK_next : MethodName := ⟨"LakeRelief$Lakes", "next", "(I)I"⟩
def y_LK_join : MethodName := ⟨"LakeRelief$Lakes", "join", "(LLakeRelief$Lake;LLakeRelief$Lake;LLakeRelief$Lake;)V"⟩
def y_RE_init : MethodName := ⟨"LakeRelief$Relief", "<init>", "()V"⟩
def y_RE_flood : MethodName := ⟨"LakeRelief$Relief", "flood", "(II)V"⟩
def y_RE_raiseLand : MethodName := ⟨"LakeRelief$Relief", "raiseLand", "(II)V"⟩
def y_RE_survey : MethodName := ⟨"LakeRelief$Relief", "survey", "()V"⟩
def y_RE_isField : MethodName := ⟨"LakeRelief$Relief", "isField", "(I)Z"⟩
def y_RE_isLand : MethodName := ⟨"LakeRelief$Relief", "isLand", "(I)Z"⟩
def y_RE_isLower : MethodName := ⟨"LakeRelief$Relief", "isLower", "(II)Z"⟩
def y_RE_findNeighbours : MethodName := ⟨"LakeRelief$Relief", "findNeighbours", "()V"⟩
def y_RE_landOrSea : MethodName := ⟨"LakeRelief$Relief", "landOrSea", "(I)I"⟩
def y_RE_sortLand : MethodName := ⟨"LakeRelief$Relief", "sortLand", "()V"⟩
def y_RE_insertByHeight : MethodName := ⟨"LakeRelief$Relief", "insertByHeight", "(II)V"⟩
def y_RE_beside : MethodName := ⟨"LakeRelief$Relief", "beside", "(II)I"⟩
def y_RE_isBesideSea : MethodName := ⟨"LakeRelief$Relief", "isBesideSea", "(I)Z"⟩
def y_RE_lowestBeside : MethodName := ⟨"LakeRelief$Relief", "lowestBeside", "(IJ)I"⟩
def y_RE_findWays : MethodName := ⟨"LakeRelief$Relief", "findWays", "()V"⟩
def y_RE_downOf : MethodName := ⟨"LakeRelief$Relief", "downOf", "(I)I"⟩
def y_RE_findFills : MethodName := ⟨"LakeRelief$Relief", "findFills", "()V"⟩
def y_RE_lowerFills : MethodName := ⟨"LakeRelief$Relief", "lowerFills", "()Z"⟩
def y_RE_leastFillBeside : MethodName := ⟨"LakeRelief$Relief", "leastFillBeside", "(I)I"⟩
def y_RE_isHollow : MethodName := ⟨"LakeRelief$Relief", "isHollow", "(I)Z"⟩
def y_RE_hollowCount : MethodName := ⟨"LakeRelief$Relief", "hollowCount", "()I"⟩
def y_RE_hollowAt : MethodName := ⟨"LakeRelief$Relief", "hollowAt", "(I)I"⟩
def y_RE_lowestOf : MethodName := ⟨"LakeRelief$Relief", "lowestOf", "(J)I"⟩
def y_RE_roomBelow : MethodName := ⟨"LakeRelief$Relief", "roomBelow", "(JI)I"⟩
def y_RE_countBelow : MethodName := ⟨"LakeRelief$Relief", "countBelow", "(JI)I"⟩
def y_RE_surface : MethodName := ⟨"LakeRelief$Relief", "surface", "(JIZ)I"⟩
def y_RE_greatestDivisor : MethodName := ⟨"LakeRelief$Relief", "greatestDivisor", "(II)I"⟩
def y_RE_landLeftAt : MethodName := ⟨"LakeRelief$Relief", "landLeftAt", "(I)J"⟩
def y_RE_piecesOf : MethodName := ⟨"LakeRelief$Relief", "piecesOf", "(J)I"⟩
def y_RE_withoutPieceAt : MethodName := ⟨"LakeRelief$Relief", "withoutPieceAt", "(IJ)J"⟩
def y_ST_init : MethodName := ⟨"LakeRelief$Strip", "<init>", "()V"⟩
def y_ST_become : MethodName := ⟨"LakeRelief$Strip", "become", "(II)V"⟩
def y_ST_hasPlace : MethodName := ⟨"LakeRelief$Strip", "hasPlace", "(I)Z"⟩
def y_ST_hasRun : MethodName := ⟨"LakeRelief$Strip", "hasRun", "(II)Z"⟩
def y_ST_keep : MethodName := ⟨"LakeRelief$Strip", "keep", "(II)V"⟩
def y_LR_init : MethodName := ⟨"LakeRelief", "<init>", "()V"⟩
def y_LR_strip : MethodName := ⟨"LakeRelief", "strip", "(III)I"⟩
def y_LR_put : MethodName := ⟨"LakeRelief", "put", "(III)I"⟩
def y_LR_copy : MethodName := ⟨"LakeRelief", "copy", "(IIIII)I"⟩
def y_LR_told : MethodName := ⟨"LakeRelief", "told", "(II)J"⟩
def y_LR_lay : MethodName := ⟨"LakeRelief", "lay", "(II)I"⟩
def y_LR_field : MethodName := ⟨"LakeRelief", "field", "(II)I"⟩
def y_LR_hollow : MethodName := ⟨"LakeRelief", "hollow", "(I)I"⟩
def y_LR_lake : MethodName := ⟨"LakeRelief", "lake", "(II)I"⟩
def y_LR_ground : MethodName := ⟨"LakeRelief", "ground", "(II)I"⟩
def y_LR_holds : MethodName := ⟨"LakeRelief", "holds", "(II)I"⟩
def y_LR_area : MethodName := ⟨"LakeRelief", "area", "(II)I"⟩
def y_LR_pour : MethodName := ⟨"LakeRelief", "pour", "(II)I"⟩
def y_LR_level : MethodName := ⟨"LakeRelief", "level", "(II)I"⟩
def y_LR_rise : MethodName := ⟨"LakeRelief", "rise", "(I)I"⟩
def y_LR_islands : MethodName := ⟨"LakeRelief", "islands", "(I)I"⟩
def y_LR_count : MethodName := ⟨"LakeRelief", "count", "(I)J"⟩
def y_LR_isStrip : MethodName := ⟨"LakeRelief", "isStrip", "(I)Z"⟩
def y_LR_refusalOfPlace : MethodName := ⟨"LakeRelief", "refusalOfPlace", "(II)I"⟩
def y_LR_canBeLaid : MethodName := ⟨"LakeRelief", "canBeLaid", "(II)Z"⟩
def y_LR_layLine : MethodName := ⟨"LakeRelief", "layLine", "(II)V"⟩
def y_LR_isHeight : MethodName := ⟨"LakeRelief", "isHeight", "(I)Z"⟩
def y_LR_isSeaLevel : MethodName := ⟨"LakeRelief", "isSeaLevel", "(I)Z"⟩
def y_LR_isIn : MethodName := ⟨"LakeRelief", "isIn", "(JI)Z"⟩
def y_LR_only : MethodName := ⟨"LakeRelief", "only", "(I)J"⟩
def y_MO_init : MethodName := ⟨"LakeReliefModel", "<init>", "()V"⟩
def y_MO_in : MethodName := ⟨"LakeReliefModel", "in", "(JJJ)Z"⟩
def y_MO_isStrip : MethodName := ⟨"LakeReliefModel", "isStrip", "(I)Z"⟩
def y_MO_strip : MethodName := ⟨"LakeReliefModel", "strip", "(III)I"⟩
def y_MO_against : MethodName := ⟨"LakeReliefModel", "against", "(II)I"⟩
def y_MO_put : MethodName := ⟨"LakeReliefModel", "put", "(III)I"⟩
def y_MO_copy : MethodName := ⟨"LakeReliefModel", "copy", "(IIIII)I"⟩
def y_MO_told : MethodName := ⟨"LakeReliefModel", "told", "(II)J"⟩
def y_MO_beside : MethodName := ⟨"LakeReliefModel", "beside", "(II)I"⟩
def y_MO_isWet : MethodName := ⟨"LakeReliefModel", "isWet", "(I)Z"⟩
def y_MO_isLower : MethodName := ⟨"LakeReliefModel", "isLower", "(II)Z"⟩
def y_MO_layDown : MethodName := ⟨"LakeReliefModel", "layDown", "(I)V"⟩
def y_MO_endOf : MethodName := ⟨"LakeReliefModel", "endOf", "(I)I"⟩
def y_MO_layFill : MethodName := ⟨"LakeReliefModel", "layFill", "()V"⟩
def y_MO_newLake : MethodName := ⟨"LakeReliefModel", "newLake", "()I"⟩
def y_MO_joins : MethodName := ⟨"LakeReliefModel", "joins", "(II)V"⟩
def y_MO_becomes : MethodName := ⟨"LakeReliefModel", "becomes", "(II)V"⟩
def y_MO_lookBeside : MethodName := ⟨"LakeReliefModel", "lookBeside", "(I)Z"⟩
def y_MO_twice : MethodName := ⟨"LakeReliefModel", "twice", "(III)I"⟩
def y_MO_goUnder : MethodName := ⟨"LakeReliefModel", "goUnder", "(I)V"⟩
def y_MO_layLakes : MethodName := ⟨"LakeReliefModel", "layLakes", "()V"⟩
def y_MO_stripAt : MethodName := ⟨"LakeReliefModel", "stripAt", "(II)I"⟩
def y_MO_isPlace : MethodName := ⟨"LakeReliefModel", "isPlace", "(II)Z"⟩
def y_MO_lay : MethodName := ⟨"LakeReliefModel", "lay", "(II)I"⟩
def y_MO_isField : MethodName := ⟨"LakeReliefModel", "isField", "(I)Z"⟩
def y_MO_isOf : MethodName := ⟨"LakeReliefModel", "isOf", "(II)Z"⟩
def y_MO_lakeAt : MethodName := ⟨"LakeReliefModel", "lakeAt", "(I)I"⟩
def y_MO_field : MethodName := ⟨"LakeReliefModel", "field", "(II)I"⟩
def y_MO_hollow : MethodName := ⟨"LakeReliefModel", "hollow", "(I)I"⟩
def y_MO_isLake : MethodName := ⟨"LakeReliefModel", "isLake", "(I)Z"⟩
def y_MO_holdsTo : MethodName := ⟨"LakeReliefModel", "holdsTo", "(II)I"⟩
def y_MO_most : MethodName := ⟨"LakeReliefModel", "most", "(I)I"⟩
def y_MO_lowest : MethodName := ⟨"LakeReliefModel", "lowest", "(I)I"⟩
def y_MO_groundSize : MethodName := ⟨"LakeReliefModel", "groundSize", "(I)I"⟩
def y_MO_lake : MethodName := ⟨"LakeReliefModel", "lake", "(II)I"⟩
def y_MO_ground : MethodName := ⟨"LakeReliefModel", "ground", "(II)I"⟩
def y_MO_against0 : MethodName := ⟨"LakeReliefModel", "against0", "(II)I"⟩
def y_MO_holds : MethodName := ⟨"LakeReliefModel", "holds", "(II)I"⟩
def y_MO_area : MethodName := ⟨"LakeReliefModel", "area", "(II)I"⟩
def y_MO_over : MethodName := ⟨"LakeReliefModel", "over", "(I)I"⟩
def y_MO_pour : MethodName := ⟨"LakeReliefModel", "pour", "(II)I"⟩
def y_MO_common : MethodName := ⟨"LakeReliefModel", "common", "(II)I"⟩
def y_MO_layHeights : MethodName := ⟨"LakeReliefModel", "layHeights", "(I)I"⟩
def y_MO_level : MethodName := ⟨"LakeReliefModel", "level", "(II)I"⟩
def y_MO_rise : MethodName := ⟨"LakeReliefModel", "rise", "(I)I"⟩
def y_MO_islands : MethodName := ⟨"LakeReliefModel", "islands", "(I)I"⟩
def y_MO_count : MethodName := ⟨"LakeReliefModel", "count", "(I)J"⟩
def y_JL_bitCount : MethodName := ⟨"java/lang/Long", "bitCount", "(J)I"⟩
def y_JM_abs : MethodName := ⟨"java/lang/Math", "abs", "(I)I"⟩
def y_JM_max : MethodName := ⟨"java/lang/Math", "max", "(II)I"⟩
def y_JM_min : MethodName := ⟨"java/lang/Math", "min", "(II)I"⟩
end
section
def lw_ok : List Cond := lw_tbl.filter goodWord
theorem wok {w : Cond} (h : w ∈ lw_tbl) (g : goodWord w = true) : w ∈ lw_ok := List.mem_filter.mpr ⟨h, g⟩
theorem ok_good : ∀ w ∈ lw_ok, ((w.onTables && w.keeps) = true ∨ ∃ ty, w = .arrayClass ty) := fun w hw => good_of_word (List.mem_filter.mp hw).2
theorem ok_in {y : MethodName} {b : ByteArray} {n : Nat} {r : Option FieldType} (h : Cond.code y b n r ∈ lw_ok) : GoodIn lw_ok (Cond.code y b n r :: lw_ok) := fun w hw => (List.mem_cons.mp hw).elim (fun e => by rw [e]; exact ⟨h, ok_good _ h⟩) (fun h2 => ⟨h2, ok_good _ h2⟩)
theorem in_0 : (Cond.initialized "LakeReliefLaw") ∈ lw_ok := wok (List.mem_append_right _ (List.mem_of_getElem? (i := 0) (by decide +kernel))) rfl
theorem in_1 : (Cond.initialized "LakeRelief") ∈ lw_ok := wok (List.mem_append_right _ (List.mem_of_getElem? (i := 1) (by decide +kernel))) rfl
theorem in_2 : (Cond.initialized "LakeRelief$Strip") ∈ lw_ok := wok (List.mem_append_right _ (List.mem_of_getElem? (i := 2) (by decide +kernel))) rfl
theorem in_3 : (Cond.initialized "LakeRelief$Relief") ∈ lw_ok := wok (List.mem_append_right _ (List.mem_of_getElem? (i := 3) (by decide +kernel))) rfl
theorem in_4 : (Cond.initialized "LakeRelief$Lakes") ∈ lw_ok := wok (List.mem_append_right _ (List.mem_of_getElem? (i := 4) (by decide +kernel))) rfl
theorem in_5 : (Cond.initialized "LakeRelief$Lake") ∈ lw_ok := wok (List.mem_append_right _ (List.mem_of_getElem? (i := 5) (by decide +kernel))) rfl
theorem in_6 : (Cond.initialized "java/lang/Math") ∈ lw_ok := wok (List.mem_append_right _ (List.mem_of_getElem? (i := 6) (by decide +kernel))) rfl
theorem in_7 : (Cond.initialized "LakeReliefModel") ∈ lw_ok := wok (List.mem_append_right _ (List.mem_of_getElem? (i := 7) (by decide +kernel))) rfl
theorem in_8 : (Cond.initialized "java/lang/System") ∈ lw_ok := wok (List.mem_append_right _ (List.mem_of_getElem? (i := 8) (by decide +kernel))) rfl
theorem in_9 : (Cond.initialized "java/lang/Long") ∈ lw_ok := wok (List.mem_append_right _ (List.mem_of_getElem? (i := 9) (by decide +kernel))) rfl
theorem in_10 : (Cond.classLink "LakeReliefLaw" 7 "LakeRelief") ∈ lw_ok := wok (List.mem_append_right _ (List.mem_of_getElem? (i := 10) (by decide +kernel))) rfl
theorem in_11 : (Cond.instantiable "LakeRelief" 4) ∈ lw_ok := wok (List.mem_append_right _ (List.mem_of_getElem? (i := 11) (by decide +kernel))) rfl
theorem in_12 : (Cond.methodLink "LakeReliefLaw" 9 y_LR_init) ∈ lw_ok := wok (List.mem_append_right _ (List.mem_of_getElem? (i := 12) (by decide +kernel))) rfl
theorem in_13 : (Cond.instanceMethod y_LR_init) ∈ lw_ok := wok (List.mem_append_right _ (List.mem_of_getElem? (i := 13) (by decide +kernel))) rfl
set_option maxRecDepth 20000 in
theorem in_14 : (Cond.code y_LR_init prog_1_method_1_code 2 (Option.none : Option Jvm.ClassFile.FieldType)) ∈ lw_ok := wok (List.mem_append_right _ (List.mem_of_getElem? (i := 14) rfl)) rfl
theorem in_15 : (Cond.methodLink "LakeRelief" 1 (⟨"java/lang/Object", "<init>", "()V"⟩ : MethodName)) ∈ lw_ok := wok (List.mem_append_right _ (List.mem_of_getElem? (i := 15) (by decide +kernel))) rfl
theorem in_16 : (Cond.instanceMethod (⟨"java/lang/Object", "<init>", "()V"⟩ : MethodName)) ∈ lw_ok := wok (List.mem_append_right _ (List.mem_of_getElem? (i := 16) (by decide +kernel))) rfl
set_option maxRecDepth 20000 in
theorem in_17 : (Cond.code (⟨"java/lang/Object", "<init>", "()V"⟩ : MethodName) object_method_1_code 1 (Option.none : Option Jvm.ClassFile.FieldType)) ∈ lw_ok := wok (List.mem_append_right _ (List.mem_of_getElem? (i := 17) rfl)) rfl
theorem in_18 : (Cond.classLink "LakeRelief" 9 "LakeRelief$Strip") ∈ lw_ok := wok (List.mem_append_right _ (List.mem_of_getElem? (i := 18) (by decide +kernel))) rfl
theorem in_20 : (Cond.instantiable "LakeRelief$Strip" 3) ∈ lw_ok := wok (List.mem_append_right _ (List.mem_of_getElem? (i := 20) (by decide +kernel))) rfl
theorem in_21 : (Cond.methodLink "LakeRelief" 15 y_ST_init) ∈ lw_ok := wok (List.mem_append_right _ (List.mem_of_getElem? (i := 21) (by decide +kernel))) rfl
theorem in_22 : (Cond.instanceMethod y_ST_init) ∈ lw_ok := wok (List.mem_append_right _ (List.mem_of_getElem? (i := 22) (by decide +kernel))) rfl
set_option maxRecDepth 20000 in
theorem in_23 : (Cond.code y_ST_init prog_5_method_1_code 1 (Option.none : Option Jvm.ClassFile.FieldType)) ∈ lw_ok := wok (List.mem_append_right _ (List.mem_of_getElem? (i := 23) rfl)) rfl
theorem in_24 : (Cond.methodLink "LakeRelief$Strip" 3 (⟨"java/lang/Object", "<init>", "()V"⟩ : MethodName)) ∈ lw_ok := wok (List.mem_append_right _ (List.mem_of_getElem? (i := 24) (by decide +kernel))) rfl
theorem in_25 : (Cond.fieldLink "LakeRelief$Strip" 9 "LakeRelief$Strip" "places" "[I") ∈ lw_ok := wok (List.mem_append_right _ (List.mem_of_getElem? (i := 25) (by decide +kernel))) rfl
theorem in_26 : (Cond.fieldLink "LakeRelief" 59 "LakeRelief$Strip" "places" "[I") ∈ lw_ok := wok (List.mem_append_right _ (List.mem_of_getElem? (i := 26) (by decide +kernel))) rfl
theorem in_27 : (Cond.fieldLink "LakeRelief$Strip" 15 "LakeRelief$Strip" "kind" "I") ∈ lw_ok := wok (List.mem_append_right _ (List.mem_of_getElem? (i := 27) (by decide +kernel))) rfl
theorem in_28 : (Cond.fieldLink "LakeRelief" 51 "LakeRelief$Strip" "kind" "I") ∈ lw_ok := wok (List.mem_append_right _ (List.mem_of_getElem? (i := 28) (by decide +kernel))) rfl
theorem in_29 : (Cond.fieldLink "LakeRelief$Strip" 19 "LakeRelief$Strip" "length" "I") ∈ lw_ok := wok (List.mem_append_right _ (List.mem_of_getElem? (i := 29) (by decide +kernel))) rfl
theorem in_38 : (Cond.classLink "LakeRelief" 16 "LakeRelief$Relief") ∈ lw_ok := wok (List.mem_append_right _ (List.mem_of_getElem? (i := 38) (by decide +kernel))) rfl
theorem in_39 : (Cond.instantiable "LakeRelief$Relief" 11) ∈ lw_ok := wok (List.mem_append_right _ (List.mem_of_getElem? (i := 39) (by decide +kernel))) rfl
theorem in_40 : (Cond.methodLink "LakeRelief" 18 y_RE_init) ∈ lw_ok := wok (List.mem_append_right _ (List.mem_of_getElem? (i := 40) (by decide +kernel))) rfl
theorem in_41 : (Cond.instanceMethod y_RE_init) ∈ lw_ok := wok (List.mem_append_right _ (List.mem_of_getElem? (i := 41) (by decide +kernel))) rfl
set_option maxRecDepth 20000 in
theorem in_42 : (Cond.code y_RE_init prog_4_method_1_code 1 (Option.none : Option Jvm.ClassFile.FieldType)) ∈ lw_ok := wok (List.mem_append_right _ (List.mem_of_getElem? (i := 42) rfl)) rfl
theorem in_43 : (Cond.methodLink "LakeRelief$Relief" 3 (⟨"java/lang/Object", "<init>", "()V"⟩ : MethodName)) ∈ lw_ok := wok (List.mem_append_right _ (List.mem_of_getElem? (i := 43) (by decide +kernel))) rfl
theorem in_44 : (Cond.fieldLink "LakeRelief$Relief" 9 "LakeRelief$Relief" "height" "[I") ∈ lw_ok := wok (List.mem_append_right _ (List.mem_of_getElem? (i := 44) (by decide +kernel))) rfl
theorem in_45 : (Cond.fieldLink "LakeRelief$Lakes" 49 "LakeRelief$Relief" "height" "[I") ∈ lw_ok := wok (List.mem_append_right _ (List.mem_of_getElem? (i := 45) (by decide +kernel))) rfl
theorem in_46 : (Cond.fieldLink "LakeRelief" 97 "LakeRelief$Relief" "height" "[I") ∈ lw_ok := wok (List.mem_append_right _ (List.mem_of_getElem? (i := 46) (by decide +kernel))) rfl
theorem in_47 : (Cond.fieldLink "LakeRelief$Relief" 15 "LakeRelief$Relief" "down" "[I") ∈ lw_ok := wok (List.mem_append_right _ (List.mem_of_getElem? (i := 47) (by decide +kernel))) rfl
theorem in_48 : (Cond.fieldLink "LakeRelief" 100 "LakeRelief$Relief" "down" "[I") ∈ lw_ok := wok (List.mem_append_right _ (List.mem_of_getElem? (i := 48) (by decide +kernel))) rfl
theorem in_49 : (Cond.fieldLink "LakeRelief$Relief" 18 "LakeRelief$Relief" "wayEnd" "[I") ∈ lw_ok := wok (List.mem_append_right _ (List.mem_of_getElem? (i := 49) (by decide +kernel))) rfl
theorem in_50 : (Cond.fieldLink "LakeRelief" 103 "LakeRelief$Relief" "wayEnd" "[I") ∈ lw_ok := wok (List.mem_append_right _ (List.mem_of_getElem? (i := 50) (by decide +kernel))) rfl
theorem in_51 : (Cond.fieldLink "LakeRelief$Lakes" 152 "LakeRelief$Relief" "wayEnd" "[I") ∈ lw_ok := wok (List.mem_append_right _ (List.mem_of_getElem? (i := 51) (by decide +kernel))) rfl
theorem in_52 : (Cond.fieldLink "LakeRelief$Relief" 21 "LakeRelief$Relief" "fill" "[I") ∈ lw_ok := wok (List.mem_append_right _ (List.mem_of_getElem? (i := 52) (by decide +kernel))) rfl
theorem in_53 : (Cond.fieldLink "LakeRelief" 106 "LakeRelief$Relief" "fill" "[I") ∈ lw_ok := wok (List.mem_append_right _ (List.mem_of_getElem? (i := 53) (by decide +kernel))) rfl
theorem in_54 : (Cond.fieldLink "LakeRelief$Relief" 24 "LakeRelief$Relief" "order" "[I") ∈ lw_ok := wok (List.mem_append_right _ (List.mem_of_getElem? (i := 54) (by decide +kernel))) rfl
theorem in_55 : (Cond.fieldLink "LakeRelief$Lakes" 56 "LakeRelief$Relief" "order" "[I") ∈ lw_ok := wok (List.mem_append_right _ (List.mem_of_getElem? (i := 55) (by decide +kernel))) rfl
theorem in_56 : (Cond.fieldLink "LakeRelief$Relief" 27 "LakeRelief$Relief" "neighbours" "[I") ∈ lw_ok := wok (List.mem_append_right _ (List.mem_of_getElem? (i := 56) (by decide +kernel))) rfl
theorem in_57 : (Cond.fieldLink "LakeRelief$Relief" 30 "LakeRelief$Relief" "waiting" "[I") ∈ lw_ok := wok (List.mem_append_right _ (List.mem_of_getElem? (i := 57) (by decide +kernel))) rfl
theorem in_58 : (Cond.fieldLink "LakeRelief$Relief" 33 "LakeRelief$Relief" "width" "I") ∈ lw_ok := wok (List.mem_append_right _ (List.mem_of_getElem? (i := 58) (by decide +kernel))) rfl
theorem in_59 : (Cond.fieldLink "LakeRelief$Relief" 37 "LakeRelief$Relief" "size" "I") ∈ lw_ok := wok (List.mem_append_right _ (List.mem_of_getElem? (i := 59) (by decide +kernel))) rfl
theorem in_60 : (Cond.fieldLink "LakeRelief" 197 "LakeRelief$Relief" "size" "I") ∈ lw_ok := wok (List.mem_append_right _ (List.mem_of_getElem? (i := 60) (by decide +kernel))) rfl
theorem in_61 : (Cond.fieldLink "LakeRelief$Relief" 40 "LakeRelief$Relief" "landCount" "I") ∈ lw_ok := wok (List.mem_append_right _ (List.mem_of_getElem? (i := 61) (by decide +kernel))) rfl
theorem in_62 : (Cond.fieldLink "LakeRelief$Lakes" 53 "LakeRelief$Relief" "landCount" "I") ∈ lw_ok := wok (List.mem_append_right _ (List.mem_of_getElem? (i := 62) (by decide +kernel))) rfl
theorem in_63 : (Cond.fieldLink "LakeRelief" 86 "LakeRelief$Relief" "landCount" "I") ∈ lw_ok := wok (List.mem_append_right _ (List.mem_of_getElem? (i := 63) (by decide +kernel))) rfl
theorem in_64 : (Cond.fieldLink "LakeRelief$Relief" 43 "LakeRelief$Relief" "land" "J") ∈ lw_ok := wok (List.mem_append_right _ (List.mem_of_getElem? (i := 64) (by decide +kernel))) rfl
theorem in_88 : (Cond.classLink "LakeRelief" 23 "LakeRelief$Lakes") ∈ lw_ok := wok (List.mem_append_right _ (List.mem_of_getElem? (i := 88) (by decide +kernel))) rfl
theorem in_89 : (Cond.instantiable "LakeRelief$Lakes" 6) ∈ lw_ok := wok (List.mem_append_right _ (List.mem_of_getElem? (i := 89) (by decide +kernel))) rfl
theorem in_90 : (Cond.methodLink "LakeRelief" 25 y_LK_init) ∈ lw_ok := wok (List.mem_append_right _ (List.mem_of_getElem? (i := 90) (by decide +kernel))) rfl
theorem in_91 : (Cond.instanceMethod y_LK_init) ∈ lw_ok := wok (List.mem_append_right _ (List.mem_of_getElem? (i := 91) (by decide +kernel))) rfl
set_option maxRecDepth 20000 in
theorem in_92 : (Cond.code y_LK_init prog_3_method_1_code 3 (Option.none : Option Jvm.ClassFile.FieldType)) ∈ lw_ok := wok (List.mem_append_right _ (List.mem_of_getElem? (i := 92) rfl)) rfl
theorem in_93 : (Cond.methodLink "LakeRelief$Lakes" 3 (⟨"java/lang/Object", "<init>", "()V"⟩ : MethodName)) ∈ lw_ok := wok (List.mem_append_right _ (List.mem_of_getElem? (i := 93) (by decide +kernel))) rfl
theorem in_94 : (Cond.classLink "LakeRelief$Lakes" 15 "LakeRelief$Lake") ∈ lw_ok := wok (List.mem_append_right _ (List.mem_of_getElem? (i := 94) (by decide +kernel))) rfl
theorem in_96 : (Cond.instantiable "LakeRelief$Lake" 8) ∈ lw_ok := wok (List.mem_append_right _ (List.mem_of_getElem? (i := 96) (by decide +kernel))) rfl
theorem in_97 : (Cond.methodLink "LakeRelief$Lakes" 21 y_LA_init) ∈ lw_ok := wok (List.mem_append_right _ (List.mem_of_getElem? (i := 97) (by decide +kernel))) rfl
theorem in_98 : (Cond.instanceMethod y_LA_init) ∈ lw_ok := wok (List.mem_append_right _ (List.mem_of_getElem? (i := 98) (by decide +kernel))) rfl
set_option maxRecDepth 20000 in
theorem in_99 : (Cond.code y_LA_init prog_2_method_1_code 1 (Option.none : Option Jvm.ClassFile.FieldType)) ∈ lw_ok := wok (List.mem_append_right _ (List.mem_of_getElem? (i := 99) rfl)) rfl
theorem in_100 : (Cond.methodLink "LakeRelief$Lake" 3 (⟨"java/lang/Object", "<init>", "()V"⟩ : MethodName)) ∈ lw_ok := wok (List.mem_append_right _ (List.mem_of_getElem? (i := 100) (by decide +kernel))) rfl
theorem in_101 : (Cond.methodLink "LakeRelief$Lake" 9 y_LA_begin) ∈ lw_ok := wok (List.mem_append_right _ (List.mem_of_getElem? (i := 101) (by decide +kernel))) rfl
theorem in_102 : (Cond.instanceMethod y_LA_begin) ∈ lw_ok := wok (List.mem_append_right _ (List.mem_of_getElem? (i := 102) (by decide +kernel))) rfl
theorem in_103 : (Cond.selects "LakeRelief$Lake" y_LA_begin y_LA_begin) ∈ lw_ok := wok (List.mem_append_right _ (List.mem_of_getElem? (i := 103) (by decide +kernel))) rfl
set_option maxRecDepth 20000 in
theorem in_104 : (Cond.code y_LA_begin prog_2_method_2_code 5 (Option.none : Option Jvm.ClassFile.FieldType)) ∈ lw_ok := wok (List.mem_append_right _ (List.mem_of_getElem? (i := 104) rfl)) rfl
theorem in_105 : (Cond.methodLink "LakeRelief$Lake" 26 y_JM_min) ∈ lw_ok := wok (List.mem_append_right _ (List.mem_of_getElem? (i := 105) (by decide +kernel))) rfl
theorem in_106 : (Cond.static y_JM_min) ∈ lw_ok := wok (List.mem_append_right _ (List.mem_of_getElem? (i := 106) (by decide +kernel))) rfl
set_option maxRecDepth 20000 in
theorem in_107 : (Cond.code y_JM_min prog_9_method_69_code 2 (Option.some Jvm.ClassFile.FieldType.int)) ∈ lw_ok := wok (List.mem_append_right _ (List.mem_of_getElem? (i := 107) rfl)) rfl
theorem in_108 : (Cond.methodLink "LakeRelief$Lake" 35 y_JM_max) ∈ lw_ok := wok (List.mem_append_right _ (List.mem_of_getElem? (i := 108) (by decide +kernel))) rfl
theorem in_109 : (Cond.static y_JM_max) ∈ lw_ok := wok (List.mem_append_right _ (List.mem_of_getElem? (i := 109) (by decide +kernel))) rfl
set_option maxRecDepth 20000 in
theorem in_110 : (Cond.code y_JM_max prog_9_method_65_code 2 (Option.some Jvm.ClassFile.FieldType.int)) ∈ lw_ok := wok (List.mem_append_right _ (List.mem_of_getElem? (i := 110) rfl)) rfl
theorem in_111 : (Cond.fieldLink "LakeRelief$Lake" 15 "LakeRelief$Lake" "fields" "J") ∈ lw_ok := wok (List.mem_append_right _ (List.mem_of_getElem? (i := 111) (by decide +kernel))) rfl
theorem in_112 : (Cond.fieldLink "LakeRelief$Lakes" 67 "LakeRelief$Lake" "fields" "J") ∈ lw_ok := wok (List.mem_append_right _ (List.mem_of_getElem? (i := 112) (by decide +kernel))) rfl
theorem in_113 : (Cond.fieldLink "LakeRelief" 129 "LakeRelief$Lake" "fields" "J") ∈ lw_ok := wok (List.mem_append_right _ (List.mem_of_getElem? (i := 113) (by decide +kernel))) rfl
theorem in_114 : (Cond.fieldLink "LakeRelief$Lake" 19 "LakeRelief$Lake" "rim" "I") ∈ lw_ok := wok (List.mem_append_right _ (List.mem_of_getElem? (i := 114) (by decide +kernel))) rfl
theorem in_115 : (Cond.fieldLink "LakeRelief$Lakes" 40 "LakeRelief$Lake" "rim" "I") ∈ lw_ok := wok (List.mem_append_right _ (List.mem_of_getElem? (i := 115) (by decide +kernel))) rfl
theorem in_116 : (Cond.fieldLink "LakeRelief" 137 "LakeRelief$Lake" "rim" "I") ∈ lw_ok := wok (List.mem_append_right _ (List.mem_of_getElem? (i := 116) (by decide +kernel))) rfl
theorem in_117 : (Cond.fieldLink "LakeRelief$Lake" 23 "LakeRelief$Lake" "whole" "I") ∈ lw_ok := wok (List.mem_append_right _ (List.mem_of_getElem? (i := 117) (by decide +kernel))) rfl
theorem in_118 : (Cond.fieldLink "LakeRelief$Lakes" 120 "LakeRelief$Lake" "whole" "I") ∈ lw_ok := wok (List.mem_append_right _ (List.mem_of_getElem? (i := 118) (by decide +kernel))) rfl
theorem in_119 : (Cond.fieldLink "LakeRelief" 140 "LakeRelief$Lake" "whole" "I") ∈ lw_ok := wok (List.mem_append_right _ (List.mem_of_getElem? (i := 119) (by decide +kernel))) rfl
theorem in_120 : (Cond.fieldLink "LakeRelief$Lake" 32 "LakeRelief$Lake" "lesserPart" "I") ∈ lw_ok := wok (List.mem_append_right _ (List.mem_of_getElem? (i := 120) (by decide +kernel))) rfl
theorem in_121 : (Cond.fieldLink "LakeRelief" 143 "LakeRelief$Lake" "lesserPart" "I") ∈ lw_ok := wok (List.mem_append_right _ (List.mem_of_getElem? (i := 121) (by decide +kernel))) rfl
theorem in_122 : (Cond.fieldLink "LakeRelief$Lakes" 170 "LakeRelief$Lake" "lesserPart" "I") ∈ lw_ok := wok (List.mem_append_right _ (List.mem_of_getElem? (i := 122) (by decide +kernel))) rfl
theorem in_123 : (Cond.fieldLink "LakeRelief$Lake" 38 "LakeRelief$Lake" "greaterPart" "I") ∈ lw_ok := wok (List.mem_append_right _ (List.mem_of_getElem? (i := 123) (by decide +kernel))) rfl
theorem in_124 : (Cond.fieldLink "LakeRelief" 146 "LakeRelief$Lake" "greaterPart" "I") ∈ lw_ok := wok (List.mem_append_right _ (List.mem_of_getElem? (i := 124) (by decide +kernel))) rfl
theorem in_125 : (Cond.fieldLink "LakeRelief$Lakes" 173 "LakeRelief$Lake" "greaterPart" "I") ∈ lw_ok := wok (List.mem_append_right _ (List.mem_of_getElem? (i := 125) (by decide +kernel))) rfl
theorem in_126 : (Cond.fieldLink "LakeRelief$Lake" 41 "LakeRelief$Lake" "most" "I") ∈ lw_ok := wok (List.mem_append_right _ (List.mem_of_getElem? (i := 126) (by decide +kernel))) rfl
theorem in_127 : (Cond.fieldLink "LakeRelief$Lakes" 74 "LakeRelief$Lake" "most" "I") ∈ lw_ok := wok (List.mem_append_right _ (List.mem_of_getElem? (i := 127) (by decide +kernel))) rfl
theorem in_128 : (Cond.fieldLink "LakeRelief" 154 "LakeRelief$Lake" "most" "I") ∈ lw_ok := wok (List.mem_append_right _ (List.mem_of_getElem? (i := 128) (by decide +kernel))) rfl
theorem in_129 : (Cond.fieldLink "LakeRelief$Lake" 44 "LakeRelief$Lake" "isThere" "Z") ∈ lw_ok := wok (List.mem_append_right _ (List.mem_of_getElem? (i := 129) (by decide +kernel))) rfl
theorem in_130 : (Cond.fieldLink "LakeRelief" 157 "LakeRelief$Lake" "isThere" "Z") ∈ lw_ok := wok (List.mem_append_right _ (List.mem_of_getElem? (i := 130) (by decide +kernel))) rfl
theorem in_131 : (Cond.fieldLink "LakeRelief$Lakes" 139 "LakeRelief$Lake" "isThere" "Z") ∈ lw_ok := wok (List.mem_append_right _ (List.mem_of_getElem? (i := 131) (by decide +kernel))) rfl
theorem in_132 : (Cond.fieldLink "LakeRelief$Lake" 48 "LakeRelief$Lake" "water" "I") ∈ lw_ok := wok (List.mem_append_right _ (List.mem_of_getElem? (i := 132) (by decide +kernel))) rfl
theorem in_133 : (Cond.fieldLink "LakeRelief" 160 "LakeRelief$Lake" "water" "I") ∈ lw_ok := wok (List.mem_append_right _ (List.mem_of_getElem? (i := 133) (by decide +kernel))) rfl
theorem in_134 : (Cond.fieldLink "LakeRelief$Lakes" 143 "LakeRelief$Lake" "water" "I") ∈ lw_ok := wok (List.mem_append_right _ (List.mem_of_getElem? (i := 134) (by decide +kernel))) rfl
theorem in_152 : (Cond.fieldLink "LakeRelief$Lakes" 17 "LakeRelief$Lakes" "all" "[LLakeRelief$Lake;") ∈ lw_ok := wok (List.mem_append_right _ (List.mem_of_getElem? (i := 152) (by decide +kernel))) rfl
theorem in_153 : (Cond.fieldLink "LakeRelief" 119 "LakeRelief$Lakes" "all" "[LLakeRelief$Lake;") ∈ lw_ok := wok (List.mem_append_right _ (List.mem_of_getElem? (i := 153) (by decide +kernel))) rfl
theorem in_154 : (Cond.fieldLink "LakeRelief$Lakes" 22 "LakeRelief$Lakes" "number" "I") ∈ lw_ok := wok (List.mem_append_right _ (List.mem_of_getElem? (i := 154) (by decide +kernel))) rfl
theorem in_155 : (Cond.fieldLink "LakeRelief" 204 "LakeRelief$Lakes" "number" "I") ∈ lw_ok := wok (List.mem_append_right _ (List.mem_of_getElem? (i := 155) (by decide +kernel))) rfl
theorem in_156 : (Cond.fieldLink "LakeRelief$Lakes" 26 "LakeRelief$Lakes" "gone" "J") ∈ lw_ok := wok (List.mem_append_right _ (List.mem_of_getElem? (i := 156) (by decide +kernel))) rfl
theorem in_157 : (Cond.fieldLink "LakeRelief" 214 "LakeRelief$Lakes" "gone" "J") ∈ lw_ok := wok (List.mem_append_right _ (List.mem_of_getElem? (i := 157) (by decide +kernel))) rfl
theorem in_158 : (Cond.fieldLink "LakeRelief$Lakes" 30 "LakeRelief$Lakes" "poured" "J") ∈ lw_ok := wok (List.mem_append_right _ (List.mem_of_getElem? (i := 158) (by decide +kernel))) rfl
theorem in_159 : (Cond.fieldLink "LakeRelief" 217 "LakeRelief$Lakes" "poured" "J") ∈ lw_ok := wok (List.mem_append_right _ (List.mem_of_getElem? (i := 159) (by decide +kernel))) rfl
theorem in_160 : (Cond.fieldLink "LakeRelief$Lakes" 9 "LakeRelief$Lakes" "relief" "LLakeRelief$Relief;") ∈ lw_ok := wok (List.mem_append_right _ (List.mem_of_getElem? (i := 160) (by decide +kernel))) rfl
theorem in_161 : (Cond.fieldLink "LakeRelief$Lakes" 33 "LakeRelief$Lakes" "seas" "J") ∈ lw_ok := wok (List.mem_append_right _ (List.mem_of_getElem? (i := 161) (by decide +kernel))) rfl
theorem in_175 : (Cond.fieldLink "LakeRelief" 11 "LakeRelief" "strips" "[LLakeRelief$Strip;") ∈ lw_ok := wok (List.mem_append_right _ (List.mem_of_getElem? (i := 175) (by decide +kernel))) rfl
theorem in_176 : (Cond.fieldLink "LakeRelief" 19 "LakeRelief" "relief" "LLakeRelief$Relief;") ∈ lw_ok := wok (List.mem_append_right _ (List.mem_of_getElem? (i := 176) (by decide +kernel))) rfl
theorem in_177 : (Cond.fieldLink "LakeRelief" 28 "LakeRelief" "lakes" "LLakeRelief$Lakes;") ∈ lw_ok := wok (List.mem_append_right _ (List.mem_of_getElem? (i := 177) (by decide +kernel))) rfl
theorem in_178 : (Cond.fieldLink "LakeRelief" 32 "LakeRelief" "isLaid" "Z") ∈ lw_ok := wok (List.mem_append_right _ (List.mem_of_getElem? (i := 178) (by decide +kernel))) rfl
theorem in_188 : (Cond.methodLink "LakeReliefLaw" 13 y_LR_strip) ∈ lw_ok := wok (List.mem_append_right _ (List.mem_of_getElem? (i := 188) (by decide +kernel))) rfl
theorem in_189 : (Cond.instanceMethod y_LR_strip) ∈ lw_ok := wok (List.mem_append_right _ (List.mem_of_getElem? (i := 189) (by decide +kernel))) rfl
theorem in_190 : (Cond.selects "LakeRelief" y_LR_strip y_LR_strip) ∈ lw_ok := wok (List.mem_append_right _ (List.mem_of_getElem? (i := 190) (by decide +kernel))) rfl
set_option maxRecDepth 20000 in
theorem in_191 : (Cond.code y_LR_strip prog_1_method_2_code 4 (Option.some Jvm.ClassFile.FieldType.int)) ∈ lw_ok := wok (List.mem_append_right _ (List.mem_of_getElem? (i := 191) rfl)) rfl
theorem in_192 : (Cond.methodLink "LakeRelief" 36 y_LR_isStrip) ∈ lw_ok := wok (List.mem_append_right _ (List.mem_of_getElem? (i := 192) (by decide +kernel))) rfl
theorem in_193 : (Cond.static y_LR_isStrip) ∈ lw_ok := wok (List.mem_append_right _ (List.mem_of_getElem? (i := 193) (by decide +kernel))) rfl
set_option maxRecDepth 20000 in
theorem in_194 : (Cond.code y_LR_isStrip prog_1_method_18_code 1 (Option.some Jvm.ClassFile.FieldType.boolean)) ∈ lw_ok := wok (List.mem_append_right _ (List.mem_of_getElem? (i := 194) rfl)) rfl
theorem in_195 : (Cond.methodLink "LakeRelief" 40 y_ST_become) ∈ lw_ok := wok (List.mem_append_right _ (List.mem_of_getElem? (i := 195) (by decide +kernel))) rfl
theorem in_196 : (Cond.instanceMethod y_ST_become) ∈ lw_ok := wok (List.mem_append_right _ (List.mem_of_getElem? (i := 196) (by decide +kernel))) rfl
theorem in_197 : (Cond.selects "LakeRelief$Strip" y_ST_become y_ST_become) ∈ lw_ok := wok (List.mem_append_right _ (List.mem_of_getElem? (i := 197) (by decide +kernel))) rfl
set_option maxRecDepth 20000 in
theorem in_198 : (Cond.code y_ST_become prog_5_method_2_code 4 (Option.none : Option Jvm.ClassFile.FieldType)) ∈ lw_ok := wok (List.mem_append_right _ (List.mem_of_getElem? (i := 198) rfl)) rfl
theorem in_199 : (Cond.methodLink "LakeReliefLaw" 18 y_LR_put) ∈ lw_ok := wok (List.mem_append_right _ (List.mem_of_getElem? (i := 199) (by decide +kernel))) rfl
theorem in_200 : (Cond.instanceMethod y_LR_put) ∈ lw_ok := wok (List.mem_append_right _ (List.mem_of_getElem? (i := 200) (by decide +kernel))) rfl
theorem in_201 : (Cond.selects "LakeRelief" y_LR_put y_LR_put) ∈ lw_ok := wok (List.mem_append_right _ (List.mem_of_getElem? (i := 201) (by decide +kernel))) rfl
set_option maxRecDepth 20000 in
theorem in_202 : (Cond.code y_LR_put prog_1_method_3_code 5 (Option.some Jvm.ClassFile.FieldType.int)) ∈ lw_ok := wok (List.mem_append_right _ (List.mem_of_getElem? (i := 202) rfl)) rfl
theorem in_203 : (Cond.methodLink "LakeRelief" 44 y_LR_refusalOfPlace) ∈ lw_ok := wok (List.mem_append_right _ (List.mem_of_getElem? (i := 203) (by decide +kernel))) rfl
theorem in_205 : (Cond.instanceMethod y_LR_refusalOfPlace) ∈ lw_ok := wok (List.mem_append_right _ (List.mem_of_getElem? (i := 205) (by decide +kernel))) rfl
set_option maxRecDepth 20000 in
theorem in_206 : (Cond.code y_LR_refusalOfPlace prog_1_method_19_code 3 (Option.some Jvm.ClassFile.FieldType.int)) ∈ lw_ok := wok (List.mem_append_right _ (List.mem_of_getElem? (i := 206) rfl)) rfl
theorem in_207 : (Cond.methodLink "LakeRelief" 222 y_ST_hasPlace) ∈ lw_ok := wok (List.mem_append_right _ (List.mem_of_getElem? (i := 207) (by decide +kernel))) rfl
theorem in_208 : (Cond.instanceMethod y_ST_hasPlace) ∈ lw_ok := wok (List.mem_append_right _ (List.mem_of_getElem? (i := 208) (by decide +kernel))) rfl
theorem in_209 : (Cond.selects "LakeRelief$Strip" y_ST_hasPlace y_ST_hasPlace) ∈ lw_ok := wok (List.mem_append_right _ (List.mem_of_getElem? (i := 209) (by decide +kernel))) rfl
set_option maxRecDepth 20000 in
theorem in_210 : (Cond.code y_ST_hasPlace prog_5_method_3_code 2 (Option.some Jvm.ClassFile.FieldType.boolean)) ∈ lw_ok := wok (List.mem_append_right _ (List.mem_of_getElem? (i := 210) rfl)) rfl
theorem in_211 : (Cond.methodLink "LakeRelief" 48 y_ST_keep) ∈ lw_ok := wok (List.mem_append_right _ (List.mem_of_getElem? (i := 211) (by decide +kernel))) rfl
theorem in_212 : (Cond.instanceMethod y_ST_keep) ∈ lw_ok := wok (List.mem_append_right _ (List.mem_of_getElem? (i := 212) (by decide +kernel))) rfl
theorem in_213 : (Cond.selects "LakeRelief$Strip" y_ST_keep y_ST_keep) ∈ lw_ok := wok (List.mem_append_right _ (List.mem_of_getElem? (i := 213) (by decide +kernel))) rfl
set_option maxRecDepth 20000 in
theorem in_214 : (Cond.code y_ST_keep prog_5_method_5_code 3 (Option.none : Option Jvm.ClassFile.FieldType)) ∈ lw_ok := wok (List.mem_append_right _ (List.mem_of_getElem? (i := 214) rfl)) rfl
theorem in_215 : (Cond.methodLink "LakeReliefLaw" 22 y_LR_copy) ∈ lw_ok := wok (List.mem_append_right _ (List.mem_of_getElem? (i := 215) (by decide +kernel))) rfl
theorem in_216 : (Cond.instanceMethod y_LR_copy) ∈ lw_ok := wok (List.mem_append_right _ (List.mem_of_getElem? (i := 216) (by decide +kernel))) rfl
theorem in_217 : (Cond.selects "LakeRelief" y_LR_copy y_LR_copy) ∈ lw_ok := wok (List.mem_append_right _ (List.mem_of_getElem? (i := 217) (by decide +kernel))) rfl
set_option maxRecDepth 20000 in
theorem in_218 : (Cond.code y_LR_copy prog_1_method_4_code 8 (Option.some Jvm.ClassFile.FieldType.int)) ∈ lw_ok := wok (List.mem_append_right _ (List.mem_of_getElem? (i := 218) rfl)) rfl
theorem in_219 : (Cond.methodLink "LakeRelief" 55 y_ST_hasRun) ∈ lw_ok := wok (List.mem_append_right _ (List.mem_of_getElem? (i := 219) (by decide +kernel))) rfl
theorem in_220 : (Cond.instanceMethod y_ST_hasRun) ∈ lw_ok := wok (List.mem_append_right _ (List.mem_of_getElem? (i := 220) (by decide +kernel))) rfl
theorem in_221 : (Cond.selects "LakeRelief$Strip" y_ST_hasRun y_ST_hasRun) ∈ lw_ok := wok (List.mem_append_right _ (List.mem_of_getElem? (i := 221) (by decide +kernel))) rfl
set_option maxRecDepth 20000 in
theorem in_222 : (Cond.code y_ST_hasRun prog_5_method_4_code 3 (Option.some Jvm.ClassFile.FieldType.boolean)) ∈ lw_ok := wok (List.mem_append_right _ (List.mem_of_getElem? (i := 222) rfl)) rfl
theorem in_223 : (Cond.methodLink "LakeRelief" 63 (⟨"java/lang/System", "arraycopy", "(Ljava/lang/Object;ILjava/lang/Object;II)V"⟩ : MethodName)) ∈ lw_ok := wok (List.mem_append_right _ (List.mem_of_getElem? (i := 223) (by decide +kernel))) rfl
theorem in_224 : (Cond.static (⟨"java/lang/System", "arraycopy", "(Ljava/lang/Object;ILjava/lang/Object;II)V"⟩ : MethodName)) ∈ lw_ok := wok (List.mem_append_right _ (List.mem_of_getElem? (i := 224) (by decide +kernel))) rfl
theorem in_225 : (Cond.native (⟨"java/lang/System", "arraycopy", "(Ljava/lang/Object;ILjava/lang/Object;II)V"⟩ : MethodName)) ∈ lw_ok := wok (List.mem_append_right _ (List.mem_of_getElem? (i := 225) (by decide +kernel))) rfl
theorem in_226 : (Cond.methodLink "LakeReliefLaw" 27 y_LR_told) ∈ lw_ok := wok (List.mem_append_right _ (List.mem_of_getElem? (i := 226) (by decide +kernel))) rfl
theorem in_227 : (Cond.instanceMethod y_LR_told) ∈ lw_ok := wok (List.mem_append_right _ (List.mem_of_getElem? (i := 227) (by decide +kernel))) rfl
theorem in_228 : (Cond.selects "LakeRelief" y_LR_told y_LR_told) ∈ lw_ok := wok (List.mem_append_right _ (List.mem_of_getElem? (i := 228) (by decide +kernel))) rfl
set_option maxRecDepth 20000 in
theorem in_229 : (Cond.code y_LR_told prog_1_method_5_code 4 (Option.some Jvm.ClassFile.FieldType.long)) ∈ lw_ok := wok (List.mem_append_right _ (List.mem_of_getElem? (i := 229) rfl)) rfl
theorem in_230 : (Cond.constantLong "LakeRelief" 69 (10000000000)) ∈ lw_ok := wok (List.mem_append_right _ (List.mem_of_getElem? (i := 230) (by decide +kernel))) rfl
theorem in_231 : (Cond.methodLink "LakeReliefLaw" 32 y_LR_lay) ∈ lw_ok := wok (List.mem_append_right _ (List.mem_of_getElem? (i := 231) (by decide +kernel))) rfl
theorem in_232 : (Cond.instanceMethod y_LR_lay) ∈ lw_ok := wok (List.mem_append_right _ (List.mem_of_getElem? (i := 232) (by decide +kernel))) rfl
theorem in_233 : (Cond.selects "LakeRelief" y_LR_lay y_LR_lay) ∈ lw_ok := wok (List.mem_append_right _ (List.mem_of_getElem? (i := 233) (by decide +kernel))) rfl
set_option maxRecDepth 20000 in
theorem in_234 : (Cond.code y_LR_lay prog_1_method_6_code 4 (Option.some Jvm.ClassFile.FieldType.int)) ∈ lw_ok := wok (List.mem_append_right _ (List.mem_of_getElem? (i := 234) rfl)) rfl
theorem in_235 : (Cond.methodLink "LakeRelief" 71 y_LR_canBeLaid) ∈ lw_ok := wok (List.mem_append_right _ (List.mem_of_getElem? (i := 235) (by decide +kernel))) rfl
theorem in_237 : (Cond.instanceMethod y_LR_canBeLaid) ∈ lw_ok := wok (List.mem_append_right _ (List.mem_of_getElem? (i := 237) (by decide +kernel))) rfl
set_option maxRecDepth 20000 in
theorem in_238 : (Cond.code y_LR_canBeLaid prog_1_method_20_code 5 (Option.some Jvm.ClassFile.FieldType.boolean)) ∈ lw_ok := wok (List.mem_append_right _ (List.mem_of_getElem? (i := 238) rfl)) rfl
theorem in_239 : (Cond.methodLink "LakeRelief" 225 y_LR_isHeight) ∈ lw_ok := wok (List.mem_append_right _ (List.mem_of_getElem? (i := 239) (by decide +kernel))) rfl
theorem in_240 : (Cond.static y_LR_isHeight) ∈ lw_ok := wok (List.mem_append_right _ (List.mem_of_getElem? (i := 240) (by decide +kernel))) rfl
set_option maxRecDepth 20000 in
theorem in_241 : (Cond.code y_LR_isHeight prog_1_method_22_code 1 (Option.some Jvm.ClassFile.FieldType.boolean)) ∈ lw_ok := wok (List.mem_append_right _ (List.mem_of_getElem? (i := 241) rfl)) rfl
theorem in_242 : (Cond.constant "LakeRelief" 231 (-1000000)) ∈ lw_ok := wok (List.mem_append_right _ (List.mem_of_getElem? (i := 242) (by decide +kernel))) rfl
theorem in_243 : (Cond.constant "LakeRelief" 177 (1000000)) ∈ lw_ok := wok (List.mem_append_right _ (List.mem_of_getElem? (i := 243) (by decide +kernel))) rfl
theorem in_244 : (Cond.methodLink "LakeRelief" 74 y_RE_flood) ∈ lw_ok := wok (List.mem_append_right _ (List.mem_of_getElem? (i := 244) (by decide +kernel))) rfl
theorem in_245 : (Cond.instanceMethod y_RE_flood) ∈ lw_ok := wok (List.mem_append_right _ (List.mem_of_getElem? (i := 245) (by decide +kernel))) rfl
theorem in_246 : (Cond.selects "LakeRelief$Relief" y_RE_flood y_RE_flood) ∈ lw_ok := wok (List.mem_append_right _ (List.mem_of_getElem? (i := 246) (by decide +kernel))) rfl
set_option maxRecDepth 20000 in
theorem in_247 : (Cond.code y_RE_flood prog_4_method_2_code 4 (Option.none : Option Jvm.ClassFile.FieldType)) ∈ lw_ok := wok (List.mem_append_right _ (List.mem_of_getElem? (i := 247) rfl)) rfl
theorem in_248 : (Cond.methodLink "LakeRelief" 77 y_LR_layLine) ∈ lw_ok := wok (List.mem_append_right _ (List.mem_of_getElem? (i := 248) (by decide +kernel))) rfl
theorem in_250 : (Cond.instanceMethod y_LR_layLine) ∈ lw_ok := wok (List.mem_append_right _ (List.mem_of_getElem? (i := 250) (by decide +kernel))) rfl
set_option maxRecDepth 20000 in
theorem in_251 : (Cond.code y_LR_layLine prog_1_method_21_code 4 (Option.none : Option Jvm.ClassFile.FieldType)) ∈ lw_ok := wok (List.mem_append_right _ (List.mem_of_getElem? (i := 251) rfl)) rfl
theorem in_252 : (Cond.methodLink "LakeRelief" 228 y_RE_raiseLand) ∈ lw_ok := wok (List.mem_append_right _ (List.mem_of_getElem? (i := 252) (by decide +kernel))) rfl
theorem in_253 : (Cond.instanceMethod y_RE_raiseLand) ∈ lw_ok := wok (List.mem_append_right _ (List.mem_of_getElem? (i := 253) (by decide +kernel))) rfl
theorem in_254 : (Cond.selects "LakeRelief$Relief" y_RE_raiseLand y_RE_raiseLand) ∈ lw_ok := wok (List.mem_append_right _ (List.mem_of_getElem? (i := 254) (by decide +kernel))) rfl
set_option maxRecDepth 20000 in
theorem in_255 : (Cond.code y_RE_raiseLand prog_4_method_3_code 3 (Option.none : Option Jvm.ClassFile.FieldType)) ∈ lw_ok := wok (List.mem_append_right _ (List.mem_of_getElem? (i := 255) rfl)) rfl
theorem in_256 : (Cond.methodLinkNest "LakeRelief$Relief" 47 y_LR_only "LakeRelief") ∈ lw_tbl := List.mem_append_right _ (List.mem_of_getElem? (i := 256) (by decide +kernel))
theorem in_257 : (Cond.static y_LR_only) ∈ lw_ok := wok (List.mem_append_right _ (List.mem_of_getElem? (i := 257) (by decide +kernel))) rfl
set_option maxRecDepth 20000 in
theorem in_258 : (Cond.code y_LR_only prog_1_method_25_code 1 (Option.some Jvm.ClassFile.FieldType.long)) ∈ lw_ok := wok (List.mem_append_right _ (List.mem_of_getElem? (i := 258) rfl)) rfl
theorem in_259 : (Cond.methodLink "LakeRelief" 80 y_RE_survey) ∈ lw_ok := wok (List.mem_append_right _ (List.mem_of_getElem? (i := 259) (by decide +kernel))) rfl
theorem in_260 : (Cond.instanceMethod y_RE_survey) ∈ lw_ok := wok (List.mem_append_right _ (List.mem_of_getElem? (i := 260) (by decide +kernel))) rfl
theorem in_261 : (Cond.selects "LakeRelief$Relief" y_RE_survey y_RE_survey) ∈ lw_ok := wok (List.mem_append_right _ (List.mem_of_getElem? (i := 261) (by decide +kernel))) rfl
set_option maxRecDepth 20000 in
theorem in_262 : (Cond.code y_RE_survey prog_4_method_4_code 1 (Option.none : Option Jvm.ClassFile.FieldType)) ∈ lw_ok := wok (List.mem_append_right _ (List.mem_of_getElem? (i := 262) rfl)) rfl
theorem in_263 : (Cond.methodLink "LakeRelief$Relief" 51 y_RE_findNeighbours) ∈ lw_ok := wok (List.mem_append_right _ (List.mem_of_getElem? (i := 263) (by decide +kernel))) rfl
theorem in_265 : (Cond.instanceMethod y_RE_findNeighbours) ∈ lw_ok := wok (List.mem_append_right _ (List.mem_of_getElem? (i := 265) (by decide +kernel))) rfl
set_option maxRecDepth 20000 in
theorem in_266 : (Cond.code y_RE_findNeighbours prog_4_method_8_code 4 (Option.none : Option Jvm.ClassFile.FieldType)) ∈ lw_ok := wok (List.mem_append_right _ (List.mem_of_getElem? (i := 266) rfl)) rfl
theorem in_267 : (Cond.methodLink "LakeRelief$Relief" 71 y_RE_landOrSea) ∈ lw_ok := wok (List.mem_append_right _ (List.mem_of_getElem? (i := 267) (by decide +kernel))) rfl
theorem in_269 : (Cond.instanceMethod y_RE_landOrSea) ∈ lw_ok := wok (List.mem_append_right _ (List.mem_of_getElem? (i := 269) (by decide +kernel))) rfl
set_option maxRecDepth 20000 in
theorem in_270 : (Cond.code y_RE_landOrSea prog_4_method_9_code 2 (Option.some Jvm.ClassFile.FieldType.int)) ∈ lw_ok := wok (List.mem_append_right _ (List.mem_of_getElem? (i := 270) rfl)) rfl
theorem in_271 : (Cond.methodLink "LakeRelief$Relief" 75 y_RE_isLand) ∈ lw_ok := wok (List.mem_append_right _ (List.mem_of_getElem? (i := 271) (by decide +kernel))) rfl
theorem in_272 : (Cond.instanceMethod y_RE_isLand) ∈ lw_ok := wok (List.mem_append_right _ (List.mem_of_getElem? (i := 272) (by decide +kernel))) rfl
theorem in_273 : (Cond.selects "LakeRelief$Relief" y_RE_isLand y_RE_isLand) ∈ lw_ok := wok (List.mem_append_right _ (List.mem_of_getElem? (i := 273) (by decide +kernel))) rfl
set_option maxRecDepth 20000 in
theorem in_274 : (Cond.code y_RE_isLand prog_4_method_6_code 2 (Option.some Jvm.ClassFile.FieldType.boolean)) ∈ lw_ok := wok (List.mem_append_right _ (List.mem_of_getElem? (i := 274) rfl)) rfl
theorem in_275 : (Cond.methodLink "LakeRelief$Relief" 63 y_RE_isField) ∈ lw_ok := wok (List.mem_append_right _ (List.mem_of_getElem? (i := 275) (by decide +kernel))) rfl
theorem in_276 : (Cond.instanceMethod y_RE_isField) ∈ lw_ok := wok (List.mem_append_right _ (List.mem_of_getElem? (i := 276) (by decide +kernel))) rfl
theorem in_277 : (Cond.selects "LakeRelief$Relief" y_RE_isField y_RE_isField) ∈ lw_ok := wok (List.mem_append_right _ (List.mem_of_getElem? (i := 277) (by decide +kernel))) rfl
set_option maxRecDepth 20000 in
theorem in_278 : (Cond.code y_RE_isField prog_4_method_5_code 2 (Option.some Jvm.ClassFile.FieldType.boolean)) ∈ lw_ok := wok (List.mem_append_right _ (List.mem_of_getElem? (i := 278) rfl)) rfl
theorem in_279 : (Cond.methodLinkNest "LakeRelief$Relief" 67 y_LR_isIn "LakeRelief") ∈ lw_tbl := List.mem_append_right _ (List.mem_of_getElem? (i := 279) (by decide +kernel))
theorem in_280 : (Cond.static y_LR_isIn) ∈ lw_ok := wok (List.mem_append_right _ (List.mem_of_getElem? (i := 280) (by decide +kernel))) rfl
set_option maxRecDepth 20000 in
theorem in_281 : (Cond.code y_LR_isIn prog_1_method_24_code 3 (Option.some Jvm.ClassFile.FieldType.boolean)) ∈ lw_ok := wok (List.mem_append_right _ (List.mem_of_getElem? (i := 281) rfl)) rfl
theorem in_282 : (Cond.methodLink "LakeRelief$Relief" 54 y_RE_sortLand) ∈ lw_ok := wok (List.mem_append_right _ (List.mem_of_getElem? (i := 282) (by decide +kernel))) rfl
theorem in_284 : (Cond.instanceMethod y_RE_sortLand) ∈ lw_ok := wok (List.mem_append_right _ (List.mem_of_getElem? (i := 284) (by decide +kernel))) rfl
set_option maxRecDepth 20000 in
theorem in_285 : (Cond.code y_RE_sortLand prog_4_method_10_code 2 (Option.none : Option Jvm.ClassFile.FieldType)) ∈ lw_ok := wok (List.mem_append_right _ (List.mem_of_getElem? (i := 285) rfl)) rfl
theorem in_286 : (Cond.methodLink "LakeRelief$Relief" 78 y_RE_insertByHeight) ∈ lw_ok := wok (List.mem_append_right _ (List.mem_of_getElem? (i := 286) (by decide +kernel))) rfl
theorem in_288 : (Cond.instanceMethod y_RE_insertByHeight) ∈ lw_ok := wok (List.mem_append_right _ (List.mem_of_getElem? (i := 288) (by decide +kernel))) rfl
set_option maxRecDepth 20000 in
theorem in_289 : (Cond.code y_RE_insertByHeight prog_4_method_11_code 4 (Option.none : Option Jvm.ClassFile.FieldType)) ∈ lw_ok := wok (List.mem_append_right _ (List.mem_of_getElem? (i := 289) rfl)) rfl
theorem in_290 : (Cond.methodLink "LakeRelief$Relief" 82 y_RE_isLower) ∈ lw_ok := wok (List.mem_append_right _ (List.mem_of_getElem? (i := 290) (by decide +kernel))) rfl
theorem in_292 : (Cond.instanceMethod y_RE_isLower) ∈ lw_ok := wok (List.mem_append_right _ (List.mem_of_getElem? (i := 292) (by decide +kernel))) rfl
set_option maxRecDepth 20000 in
theorem in_293 : (Cond.code y_RE_isLower prog_4_method_7_code 3 (Option.some Jvm.ClassFile.FieldType.boolean)) ∈ lw_ok := wok (List.mem_append_right _ (List.mem_of_getElem? (i := 293) rfl)) rfl
theorem in_294 : (Cond.methodLink "LakeRelief$Relief" 57 y_RE_findWays) ∈ lw_ok := wok (List.mem_append_right _ (List.mem_of_getElem? (i := 294) (by decide +kernel))) rfl
theorem in_296 : (Cond.instanceMethod y_RE_findWays) ∈ lw_ok := wok (List.mem_append_right _ (List.mem_of_getElem? (i := 296) (by decide +kernel))) rfl
set_option maxRecDepth 20000 in
theorem in_297 : (Cond.code y_RE_findWays prog_4_method_15_code 4 (Option.none : Option Jvm.ClassFile.FieldType)) ∈ lw_ok := wok (List.mem_append_right _ (List.mem_of_getElem? (i := 297) rfl)) rfl
theorem in_298 : (Cond.methodLink "LakeRelief$Relief" 90 y_RE_downOf) ∈ lw_ok := wok (List.mem_append_right _ (List.mem_of_getElem? (i := 298) (by decide +kernel))) rfl
theorem in_300 : (Cond.instanceMethod y_RE_downOf) ∈ lw_ok := wok (List.mem_append_right _ (List.mem_of_getElem? (i := 300) (by decide +kernel))) rfl
set_option maxRecDepth 20000 in
theorem in_301 : (Cond.code y_RE_downOf prog_4_method_16_code 3 (Option.some Jvm.ClassFile.FieldType.int)) ∈ lw_ok := wok (List.mem_append_right _ (List.mem_of_getElem? (i := 301) rfl)) rfl
theorem in_302 : (Cond.methodLink "LakeRelief$Relief" 93 y_RE_isBesideSea) ∈ lw_ok := wok (List.mem_append_right _ (List.mem_of_getElem? (i := 302) (by decide +kernel))) rfl
theorem in_303 : (Cond.instanceMethod y_RE_isBesideSea) ∈ lw_ok := wok (List.mem_append_right _ (List.mem_of_getElem? (i := 303) (by decide +kernel))) rfl
theorem in_304 : (Cond.selects "LakeRelief$Relief" y_RE_isBesideSea y_RE_isBesideSea) ∈ lw_ok := wok (List.mem_append_right _ (List.mem_of_getElem? (i := 304) (by decide +kernel))) rfl
set_option maxRecDepth 20000 in
theorem in_305 : (Cond.code y_RE_isBesideSea prog_4_method_13_code 3 (Option.some Jvm.ClassFile.FieldType.boolean)) ∈ lw_ok := wok (List.mem_append_right _ (List.mem_of_getElem? (i := 305) rfl)) rfl
theorem in_306 : (Cond.methodLink "LakeRelief$Relief" 86 y_RE_beside) ∈ lw_ok := wok (List.mem_append_right _ (List.mem_of_getElem? (i := 306) (by decide +kernel))) rfl
theorem in_307 : (Cond.instanceMethod y_RE_beside) ∈ lw_ok := wok (List.mem_append_right _ (List.mem_of_getElem? (i := 307) (by decide +kernel))) rfl
theorem in_308 : (Cond.selects "LakeRelief$Relief" y_RE_beside y_RE_beside) ∈ lw_ok := wok (List.mem_append_right _ (List.mem_of_getElem? (i := 308) (by decide +kernel))) rfl
set_option maxRecDepth 20000 in
theorem in_309 : (Cond.code y_RE_beside prog_4_method_12_code 3 (Option.some Jvm.ClassFile.FieldType.int)) ∈ lw_ok := wok (List.mem_append_right _ (List.mem_of_getElem? (i := 309) rfl)) rfl
theorem in_310 : (Cond.methodLink "LakeRelief$Relief" 96 y_RE_lowestBeside) ∈ lw_ok := wok (List.mem_append_right _ (List.mem_of_getElem? (i := 310) (by decide +kernel))) rfl
theorem in_311 : (Cond.instanceMethod y_RE_lowestBeside) ∈ lw_ok := wok (List.mem_append_right _ (List.mem_of_getElem? (i := 311) (by decide +kernel))) rfl
theorem in_312 : (Cond.selects "LakeRelief$Relief" y_RE_lowestBeside y_RE_lowestBeside) ∈ lw_ok := wok (List.mem_append_right _ (List.mem_of_getElem? (i := 312) (by decide +kernel))) rfl
set_option maxRecDepth 20000 in
theorem in_313 : (Cond.code y_RE_lowestBeside prog_4_method_14_code 7 (Option.some Jvm.ClassFile.FieldType.int)) ∈ lw_ok := wok (List.mem_append_right _ (List.mem_of_getElem? (i := 313) rfl)) rfl
theorem in_314 : (Cond.methodLink "LakeRelief$Relief" 60 y_RE_findFills) ∈ lw_ok := wok (List.mem_append_right _ (List.mem_of_getElem? (i := 314) (by decide +kernel))) rfl
theorem in_316 : (Cond.instanceMethod y_RE_findFills) ∈ lw_ok := wok (List.mem_append_right _ (List.mem_of_getElem? (i := 316) (by decide +kernel))) rfl
set_option maxRecDepth 20000 in
theorem in_317 : (Cond.code y_RE_findFills prog_4_method_17_code 3 (Option.none : Option Jvm.ClassFile.FieldType)) ∈ lw_ok := wok (List.mem_append_right _ (List.mem_of_getElem? (i := 317) rfl)) rfl
theorem in_318 : (Cond.constant "LakeRelief$Relief" 100 (1000001)) ∈ lw_ok := wok (List.mem_append_right _ (List.mem_of_getElem? (i := 318) (by decide +kernel))) rfl
theorem in_319 : (Cond.methodLink "LakeRelief$Relief" 101 y_RE_lowerFills) ∈ lw_ok := wok (List.mem_append_right _ (List.mem_of_getElem? (i := 319) (by decide +kernel))) rfl
theorem in_321 : (Cond.instanceMethod y_RE_lowerFills) ∈ lw_ok := wok (List.mem_append_right _ (List.mem_of_getElem? (i := 321) (by decide +kernel))) rfl
set_option maxRecDepth 20000 in
theorem in_322 : (Cond.code y_RE_lowerFills prog_4_method_18_code 5 (Option.some Jvm.ClassFile.FieldType.boolean)) ∈ lw_ok := wok (List.mem_append_right _ (List.mem_of_getElem? (i := 322) rfl)) rfl
theorem in_323 : (Cond.methodLink "LakeRelief$Relief" 105 y_RE_leastFillBeside) ∈ lw_ok := wok (List.mem_append_right _ (List.mem_of_getElem? (i := 323) (by decide +kernel))) rfl
theorem in_325 : (Cond.instanceMethod y_RE_leastFillBeside) ∈ lw_ok := wok (List.mem_append_right _ (List.mem_of_getElem? (i := 325) (by decide +kernel))) rfl
set_option maxRecDepth 20000 in
theorem in_326 : (Cond.code y_RE_leastFillBeside prog_4_method_19_code 5 (Option.some Jvm.ClassFile.FieldType.int)) ∈ lw_ok := wok (List.mem_append_right _ (List.mem_of_getElem? (i := 326) rfl)) rfl
theorem in_327 : (Cond.constant "LakeRelief$Relief" 113 (-1000000)) ∈ lw_ok := wok (List.mem_append_right _ (List.mem_of_getElem? (i := 327) (by decide +kernel))) rfl
theorem in_328 : (Cond.methodLink "LakeRelief$Relief" 114 y_JM_min) ∈ lw_ok := wok (List.mem_append_right _ (List.mem_of_getElem? (i := 328) (by decide +kernel))) rfl
theorem in_329 : (Cond.methodLink "LakeRelief$Relief" 108 y_JM_max) ∈ lw_ok := wok (List.mem_append_right _ (List.mem_of_getElem? (i := 329) (by decide +kernel))) rfl
theorem in_330 : (Cond.methodLink "LakeRelief" 83 y_LK_come) ∈ lw_ok := wok (List.mem_append_right _ (List.mem_of_getElem? (i := 330) (by decide +kernel))) rfl
theorem in_331 : (Cond.instanceMethod y_LK_come) ∈ lw_ok := wok (List.mem_append_right _ (List.mem_of_getElem? (i := 331) (by decide +kernel))) rfl
theorem in_332 : (Cond.selects "LakeRelief$Lakes" y_LK_come y_LK_come) ∈ lw_ok := wok (List.mem_append_right _ (List.mem_of_getElem? (i := 332) (by decide +kernel))) rfl
set_option maxRecDepth 20000 in
theorem in_333 : (Cond.code y_LK_come prog_3_method_4_code 2 (Option.none : Option Jvm.ClassFile.FieldType)) ∈ lw_ok := wok (List.mem_append_right _ (List.mem_of_getElem? (i := 333) rfl)) rfl
theorem in_334 : (Cond.methodLink "LakeRelief$Lakes" 59 y_LK_goUnder) ∈ lw_ok := wok (List.mem_append_right _ (List.mem_of_getElem? (i := 334) (by decide +kernel))) rfl
theorem in_336 : (Cond.instanceMethod y_LK_goUnder) ∈ lw_ok := wok (List.mem_append_right _ (List.mem_of_getElem? (i := 336) (by decide +kernel))) rfl
set_option maxRecDepth 20000 in
theorem in_337 : (Cond.code y_LK_goUnder prog_3_method_6_code 5 (Option.none : Option Jvm.ClassFile.FieldType)) ∈ lw_ok := wok (List.mem_append_right _ (List.mem_of_getElem? (i := 337) rfl)) rfl
theorem in_338 : (Cond.methodLink "LakeRelief$Lakes" 84 y_LK_topsBeside) ∈ lw_ok := wok (List.mem_append_right _ (List.mem_of_getElem? (i := 338) (by decide +kernel))) rfl
theorem in_340 : (Cond.instanceMethod y_LK_topsBeside) ∈ lw_ok := wok (List.mem_append_right _ (List.mem_of_getElem? (i := 340) (by decide +kernel))) rfl
set_option maxRecDepth 20000 in
theorem in_341 : (Cond.code y_LK_topsBeside prog_3_method_8_code 6 (Option.some Jvm.ClassFile.FieldType.long)) ∈ lw_ok := wok (List.mem_append_right _ (List.mem_of_getElem? (i := 341) rfl)) rfl
theorem in_342 : (Cond.methodLink "LakeRelief$Lakes" 112 y_RE_beside) ∈ lw_ok := wok (List.mem_append_right _ (List.mem_of_getElem? (i := 342) (by decide +kernel))) rfl
theorem in_343 : (Cond.methodLink "LakeRelief$Lakes" 116 y_LK_topWith) ∈ lw_ok := wok (List.mem_append_right _ (List.mem_of_getElem? (i := 343) (by decide +kernel))) rfl
theorem in_345 : (Cond.instanceMethod y_LK_topWith) ∈ lw_ok := wok (List.mem_append_right _ (List.mem_of_getElem? (i := 345) (by decide +kernel))) rfl
set_option maxRecDepth 20000 in
theorem in_346 : (Cond.code y_LK_topWith prog_3_method_9_code 3 (Option.some Jvm.ClassFile.FieldType.int)) ∈ lw_ok := wok (List.mem_append_right _ (List.mem_of_getElem? (i := 346) rfl)) rfl
theorem in_347 : (Cond.methodLinkNest "LakeRelief$Lakes" 123 y_LR_isIn "LakeRelief") ∈ lw_tbl := List.mem_append_right _ (List.mem_of_getElem? (i := 347) (by decide +kernel))
theorem in_348 : (Cond.methodLinkNest "LakeRelief$Lakes" 102 y_LR_only "LakeRelief") ∈ lw_tbl := List.mem_append_right _ (List.mem_of_getElem? (i := 348) (by decide +kernel))
theorem in_349 : (Cond.methodLink "LakeRelief$Lakes" 88 y_LK_isBesideSeas) ∈ lw_ok := wok (List.mem_append_right _ (List.mem_of_getElem? (i := 349) (by decide +kernel))) rfl
theorem in_351 : (Cond.instanceMethod y_LK_isBesideSeas) ∈ lw_ok := wok (List.mem_append_right _ (List.mem_of_getElem? (i := 351) (by decide +kernel))) rfl
set_option maxRecDepth 20000 in
theorem in_352 : (Cond.code y_LK_isBesideSeas prog_3_method_7_code 2 (Option.some Jvm.ClassFile.FieldType.boolean)) ∈ lw_ok := wok (List.mem_append_right _ (List.mem_of_getElem? (i := 352) rfl)) rfl
theorem in_353 : (Cond.methodLink "LakeRelief$Lakes" 105 y_RE_isBesideSea) ∈ lw_ok := wok (List.mem_append_right _ (List.mem_of_getElem? (i := 353) (by decide +kernel))) rfl
theorem in_354 : (Cond.methodLink "LakeRelief$Lakes" 108 y_RE_lowestBeside) ∈ lw_ok := wok (List.mem_append_right _ (List.mem_of_getElem? (i := 354) (by decide +kernel))) rfl
theorem in_355 : (Cond.methodLink "LakeRelief$Lakes" 91 y_LK_spillToSea) ∈ lw_ok := wok (List.mem_append_right _ (List.mem_of_getElem? (i := 355) (by decide +kernel))) rfl
theorem in_357 : (Cond.instanceMethod y_LK_spillToSea) ∈ lw_ok := wok (List.mem_append_right _ (List.mem_of_getElem? (i := 357) (by decide +kernel))) rfl
set_option maxRecDepth 20000 in
theorem in_358 : (Cond.code y_LK_spillToSea prog_3_method_10_code 5 (Option.none : Option Jvm.ClassFile.FieldType)) ∈ lw_ok := wok (List.mem_append_right _ (List.mem_of_getElem? (i := 358) rfl)) rfl
theorem in_359 : (Cond.methodLink "LakeRelief$Lakes" 127 y_LA_spillAt) ∈ lw_ok := wok (List.mem_append_right _ (List.mem_of_getElem? (i := 359) (by decide +kernel))) rfl
theorem in_360 : (Cond.instanceMethod y_LA_spillAt) ∈ lw_ok := wok (List.mem_append_right _ (List.mem_of_getElem? (i := 360) (by decide +kernel))) rfl
theorem in_361 : (Cond.selects "LakeRelief$Lake" y_LA_spillAt y_LA_spillAt) ∈ lw_ok := wok (List.mem_append_right _ (List.mem_of_getElem? (i := 361) (by decide +kernel))) rfl
set_option maxRecDepth 20000 in
theorem in_362 : (Cond.code y_LA_spillAt prog_2_method_5_code 3 (Option.none : Option Jvm.ClassFile.FieldType)) ∈ lw_ok := wok (List.mem_append_right _ (List.mem_of_getElem? (i := 362) rfl)) rfl
theorem in_363 : (Cond.methodLink "LakeRelief$Lakes" 95 y_LK_make) ∈ lw_ok := wok (List.mem_append_right _ (List.mem_of_getElem? (i := 363) (by decide +kernel))) rfl
theorem in_365 : (Cond.instanceMethod y_LK_make) ∈ lw_ok := wok (List.mem_append_right _ (List.mem_of_getElem? (i := 365) (by decide +kernel))) rfl
set_option maxRecDepth 20000 in
theorem in_366 : (Cond.code y_LK_make prog_3_method_13_code 6 (Option.some Jvm.ClassFile.FieldType.int)) ∈ lw_ok := wok (List.mem_append_right _ (List.mem_of_getElem? (i := 366) rfl)) rfl
theorem in_367 : (Cond.methodLink "LakeRelief$Lakes" 135 y_LA_begin) ∈ lw_ok := wok (List.mem_append_right _ (List.mem_of_getElem? (i := 367) (by decide +kernel))) rfl
theorem in_368 : (Cond.methodLink "LakeRelief$Lakes" 99 y_LK_joinAt) ∈ lw_ok := wok (List.mem_append_right _ (List.mem_of_getElem? (i := 368) (by decide +kernel))) rfl
theorem in_370 : (Cond.instanceMethod y_LK_joinAt) ∈ lw_ok := wok (List.mem_append_right _ (List.mem_of_getElem? (i := 370) (by decide +kernel))) rfl
set_option maxRecDepth 20000 in
theorem in_371 : (Cond.code y_LK_joinAt prog_3_method_11_code 7 (Option.some Jvm.ClassFile.FieldType.int)) ∈ lw_ok := wok (List.mem_append_right _ (List.mem_of_getElem? (i := 371) rfl)) rfl
theorem in_372 : (Cond.methodLink "LakeRelief$Lakes" 131 y_LK_makeDouble) ∈ lw_ok := wok (List.mem_append_right _ (List.mem_of_getElem? (i := 372) (by decide +kernel))) rfl
theorem in_374 : (Cond.instanceMethod y_LK_makeDouble) ∈ lw_ok := wok (List.mem_append_right _ (List.mem_of_getElem? (i := 374) (by decide +kernel))) rfl
set_option maxRecDepth 20000 in
theorem in_375 : (Cond.code y_LK_makeDouble prog_3_method_12_code 5 (Option.some Jvm.ClassFile.FieldType.int)) ∈ lw_ok := wok (List.mem_append_right _ (List.mem_of_getElem? (i := 375) rfl)) rfl
theorem in_376 : (Cond.methodLink "LakeRelief$Lakes" 36 y_LK_isLake) ∈ lw_ok := wok (List.mem_append_right _ (List.mem_of_getElem? (i := 376) (by decide +kernel))) rfl
theorem in_377 : (Cond.instanceMethod y_LK_isLake) ∈ lw_ok := wok (List.mem_append_right _ (List.mem_of_getElem? (i := 377) (by decide +kernel))) rfl
theorem in_378 : (Cond.selects "LakeRelief$Lakes" y_LK_isLake y_LK_isLake) ∈ lw_ok := wok (List.mem_append_right _ (List.mem_of_getElem? (i := 378) (by decide +kernel))) rfl
set_option maxRecDepth 20000 in
theorem in_379 : (Cond.code y_LK_isLake prog_3_method_2_code 2 (Option.some Jvm.ClassFile.FieldType.boolean)) ∈ lw_ok := wok (List.mem_append_right _ (List.mem_of_getElem? (i := 379) rfl)) rfl
theorem in_380 : (Cond.methodLink "LakeRelief$Lakes" 63 y_LK_measure) ∈ lw_ok := wok (List.mem_append_right _ (List.mem_of_getElem? (i := 380) (by decide +kernel))) rfl
theorem in_382 : (Cond.instanceMethod y_LK_measure) ∈ lw_ok := wok (List.mem_append_right _ (List.mem_of_getElem? (i := 382) (by decide +kernel))) rfl
set_option maxRecDepth 20000 in
theorem in_383 : (Cond.code y_LK_measure prog_3_method_5_code 2 (Option.none : Option Jvm.ClassFile.FieldType)) ∈ lw_ok := wok (List.mem_append_right _ (List.mem_of_getElem? (i := 383) rfl)) rfl
theorem in_384 : (Cond.methodLink "LakeRelief$Lakes" 43 y_RE_isLand) ∈ lw_ok := wok (List.mem_append_right _ (List.mem_of_getElem? (i := 384) (by decide +kernel))) rfl
theorem in_385 : (Cond.methodLink "LakeRelief$Lakes" 70 y_RE_roomBelow) ∈ lw_ok := wok (List.mem_append_right _ (List.mem_of_getElem? (i := 385) (by decide +kernel))) rfl
theorem in_386 : (Cond.instanceMethod y_RE_roomBelow) ∈ lw_ok := wok (List.mem_append_right _ (List.mem_of_getElem? (i := 386) (by decide +kernel))) rfl
theorem in_387 : (Cond.selects "LakeRelief$Relief" y_RE_roomBelow y_RE_roomBelow) ∈ lw_ok := wok (List.mem_append_right _ (List.mem_of_getElem? (i := 387) (by decide +kernel))) rfl
set_option maxRecDepth 20000 in
theorem in_388 : (Cond.code y_RE_roomBelow prog_4_method_24_code 6 (Option.some Jvm.ClassFile.FieldType.int)) ∈ lw_ok := wok (List.mem_append_right _ (List.mem_of_getElem? (i := 388) rfl)) rfl
theorem in_389 : (Cond.methodLink "LakeRelief$Lakes" 77 y_LA_isDouble) ∈ lw_ok := wok (List.mem_append_right _ (List.mem_of_getElem? (i := 389) (by decide +kernel))) rfl
theorem in_390 : (Cond.instanceMethod y_LA_isDouble) ∈ lw_ok := wok (List.mem_append_right _ (List.mem_of_getElem? (i := 390) (by decide +kernel))) rfl
theorem in_391 : (Cond.selects "LakeRelief$Lake" y_LA_isDouble y_LA_isDouble) ∈ lw_ok := wok (List.mem_append_right _ (List.mem_of_getElem? (i := 391) (by decide +kernel))) rfl
set_option maxRecDepth 20000 in
theorem in_392 : (Cond.code y_LA_isDouble prog_2_method_3_code 1 (Option.some Jvm.ClassFile.FieldType.boolean)) ∈ lw_ok := wok (List.mem_append_right _ (List.mem_of_getElem? (i := 392) rfl)) rfl
theorem in_393 : (Cond.methodLink "LakeRelief$Lakes" 81 y_LA_appear) ∈ lw_ok := wok (List.mem_append_right _ (List.mem_of_getElem? (i := 393) (by decide +kernel))) rfl
theorem in_394 : (Cond.instanceMethod y_LA_appear) ∈ lw_ok := wok (List.mem_append_right _ (List.mem_of_getElem? (i := 394) (by decide +kernel))) rfl
theorem in_395 : (Cond.selects "LakeRelief$Lake" y_LA_appear y_LA_appear) ∈ lw_ok := wok (List.mem_append_right _ (List.mem_of_getElem? (i := 395) (by decide +kernel))) rfl
set_option maxRecDepth 20000 in
theorem in_396 : (Cond.code y_LA_appear prog_2_method_6_code 2 (Option.none : Option Jvm.ClassFile.FieldType)) ∈ lw_ok := wok (List.mem_append_right _ (List.mem_of_getElem? (i := 396) rfl)) rfl
theorem in_397 : (Cond.methodLink "LakeReliefLaw" 37 y_LR_field) ∈ lw_ok := wok (List.mem_append_right _ (List.mem_of_getElem? (i := 397) (by decide +kernel))) rfl
theorem in_398 : (Cond.instanceMethod y_LR_field) ∈ lw_ok := wok (List.mem_append_right _ (List.mem_of_getElem? (i := 398) (by decide +kernel))) rfl
theorem in_399 : (Cond.selects "LakeRelief" y_LR_field y_LR_field) ∈ lw_ok := wok (List.mem_append_right _ (List.mem_of_getElem? (i := 399) (by decide +kernel))) rfl
set_option maxRecDepth 20000 in
theorem in_400 : (Cond.code y_LR_field prog_1_method_7_code 3 (Option.some Jvm.ClassFile.FieldType.int)) ∈ lw_ok := wok (List.mem_append_right _ (List.mem_of_getElem? (i := 400) rfl)) rfl
theorem in_401 : (Cond.constant "LakeRelief" 89 (-2000002)) ∈ lw_ok := wok (List.mem_append_right _ (List.mem_of_getElem? (i := 401) (by decide +kernel))) rfl
theorem in_402 : (Cond.methodLink "LakeRelief" 90 y_RE_isField) ∈ lw_ok := wok (List.mem_append_right _ (List.mem_of_getElem? (i := 402) (by decide +kernel))) rfl
theorem in_403 : (Cond.constant "LakeRelief" 93 (-2000001)) ∈ lw_ok := wok (List.mem_append_right _ (List.mem_of_getElem? (i := 403) (by decide +kernel))) rfl
theorem in_404 : (Cond.methodLink "LakeRelief" 94 y_RE_isLand) ∈ lw_ok := wok (List.mem_append_right _ (List.mem_of_getElem? (i := 404) (by decide +kernel))) rfl
theorem in_405 : (Cond.methodLink "LakeRelief" 109 y_LK_thereWith) ∈ lw_ok := wok (List.mem_append_right _ (List.mem_of_getElem? (i := 405) (by decide +kernel))) rfl
theorem in_406 : (Cond.instanceMethod y_LK_thereWith) ∈ lw_ok := wok (List.mem_append_right _ (List.mem_of_getElem? (i := 406) (by decide +kernel))) rfl
theorem in_407 : (Cond.selects "LakeRelief$Lakes" y_LK_thereWith y_LK_thereWith) ∈ lw_ok := wok (List.mem_append_right _ (List.mem_of_getElem? (i := 407) (by decide +kernel))) rfl
set_option maxRecDepth 20000 in
theorem in_408 : (Cond.code y_LK_thereWith prog_3_method_14_code 3 (Option.some Jvm.ClassFile.FieldType.int)) ∈ lw_ok := wok (List.mem_append_right _ (List.mem_of_getElem? (i := 408) rfl)) rfl
theorem in_409 : (Cond.methodLink "LakeReliefLaw" 41 y_LR_hollow) ∈ lw_ok := wok (List.mem_append_right _ (List.mem_of_getElem? (i := 409) (by decide +kernel))) rfl
theorem in_410 : (Cond.instanceMethod y_LR_hollow) ∈ lw_ok := wok (List.mem_append_right _ (List.mem_of_getElem? (i := 410) (by decide +kernel))) rfl
theorem in_411 : (Cond.selects "LakeRelief" y_LR_hollow y_LR_hollow) ∈ lw_ok := wok (List.mem_append_right _ (List.mem_of_getElem? (i := 411) (by decide +kernel))) rfl
set_option maxRecDepth 20000 in
theorem in_412 : (Cond.code y_LR_hollow prog_1_method_8_code 2 (Option.some Jvm.ClassFile.FieldType.int)) ∈ lw_ok := wok (List.mem_append_right _ (List.mem_of_getElem? (i := 412) rfl)) rfl
theorem in_413 : (Cond.methodLink "LakeRelief" 113 y_RE_hollowAt) ∈ lw_ok := wok (List.mem_append_right _ (List.mem_of_getElem? (i := 413) (by decide +kernel))) rfl
theorem in_414 : (Cond.instanceMethod y_RE_hollowAt) ∈ lw_ok := wok (List.mem_append_right _ (List.mem_of_getElem? (i := 414) (by decide +kernel))) rfl
theorem in_415 : (Cond.selects "LakeRelief$Relief" y_RE_hollowAt y_RE_hollowAt) ∈ lw_ok := wok (List.mem_append_right _ (List.mem_of_getElem? (i := 415) (by decide +kernel))) rfl
set_option maxRecDepth 20000 in
theorem in_416 : (Cond.code y_RE_hollowAt prog_4_method_22_code 4 (Option.some Jvm.ClassFile.FieldType.int)) ∈ lw_ok := wok (List.mem_append_right _ (List.mem_of_getElem? (i := 416) rfl)) rfl
theorem in_417 : (Cond.methodLink "LakeRelief$Relief" 117 y_RE_isHollow) ∈ lw_ok := wok (List.mem_append_right _ (List.mem_of_getElem? (i := 417) (by decide +kernel))) rfl
theorem in_419 : (Cond.instanceMethod y_RE_isHollow) ∈ lw_ok := wok (List.mem_append_right _ (List.mem_of_getElem? (i := 419) (by decide +kernel))) rfl
set_option maxRecDepth 20000 in
theorem in_420 : (Cond.code y_RE_isHollow prog_4_method_20_code 2 (Option.some Jvm.ClassFile.FieldType.boolean)) ∈ lw_ok := wok (List.mem_append_right _ (List.mem_of_getElem? (i := 420) rfl)) rfl
theorem in_421 : (Cond.methodLink "LakeReliefLaw" 46 y_LR_lake) ∈ lw_ok := wok (List.mem_append_right _ (List.mem_of_getElem? (i := 421) (by decide +kernel))) rfl
theorem in_422 : (Cond.instanceMethod y_LR_lake) ∈ lw_ok := wok (List.mem_append_right _ (List.mem_of_getElem? (i := 422) (by decide +kernel))) rfl
theorem in_423 : (Cond.selects "LakeRelief" y_LR_lake y_LR_lake) ∈ lw_ok := wok (List.mem_append_right _ (List.mem_of_getElem? (i := 423) (by decide +kernel))) rfl
set_option maxRecDepth 20000 in
theorem in_424 : (Cond.code y_LR_lake prog_1_method_9_code 4 (Option.some Jvm.ClassFile.FieldType.int)) ∈ lw_ok := wok (List.mem_append_right _ (List.mem_of_getElem? (i := 424) rfl)) rfl
theorem in_425 : (Cond.methodLink "LakeRelief" 116 y_LK_isLake) ∈ lw_ok := wok (List.mem_append_right _ (List.mem_of_getElem? (i := 425) (by decide +kernel))) rfl
theorem in_426 : (Cond.methodLink "LakeRelief" 123 y_LA_isDouble) ∈ lw_ok := wok (List.mem_append_right _ (List.mem_of_getElem? (i := 426) (by decide +kernel))) rfl
theorem in_427 : (Cond.methodLink "LakeRelief" 133 y_RE_lowestOf) ∈ lw_ok := wok (List.mem_append_right _ (List.mem_of_getElem? (i := 427) (by decide +kernel))) rfl
theorem in_428 : (Cond.instanceMethod y_RE_lowestOf) ∈ lw_ok := wok (List.mem_append_right _ (List.mem_of_getElem? (i := 428) (by decide +kernel))) rfl
theorem in_429 : (Cond.selects "LakeRelief$Relief" y_RE_lowestOf y_RE_lowestOf) ∈ lw_ok := wok (List.mem_append_right _ (List.mem_of_getElem? (i := 429) (by decide +kernel))) rfl
set_option maxRecDepth 20000 in
theorem in_430 : (Cond.code y_RE_lowestOf prog_4_method_23_code 4 (Option.some Jvm.ClassFile.FieldType.int)) ∈ lw_ok := wok (List.mem_append_right _ (List.mem_of_getElem? (i := 430) rfl)) rfl
theorem in_431 : (Cond.methodLink "LakeRelief" 149 y_JL_bitCount) ∈ lw_ok := wok (List.mem_append_right _ (List.mem_of_getElem? (i := 431) (by decide +kernel))) rfl
theorem in_432 : (Cond.static y_JL_bitCount) ∈ lw_ok := wok (List.mem_append_right _ (List.mem_of_getElem? (i := 432) (by decide +kernel))) rfl
set_option maxRecDepth 20000 in
theorem in_433 : (Cond.code y_JL_bitCount prog_8_method_50_code 2 (Option.some Jvm.ClassFile.FieldType.int)) ∈ lw_ok := wok (List.mem_append_right _ (List.mem_of_getElem? (i := 433) rfl)) rfl
theorem in_434 : (Cond.constantLong "java/lang/Long" 314 (6148914691236517205)) ∈ lw_ok := wok (List.mem_append_right _ (List.mem_of_getElem? (i := 434) (by decide +kernel))) rfl
theorem in_435 : (Cond.constantLong "java/lang/Long" 316 (3689348814741910323)) ∈ lw_ok := wok (List.mem_append_right _ (List.mem_of_getElem? (i := 435) (by decide +kernel))) rfl
theorem in_436 : (Cond.constantLong "java/lang/Long" 318 (1085102592571150095)) ∈ lw_ok := wok (List.mem_append_right _ (List.mem_of_getElem? (i := 436) (by decide +kernel))) rfl
theorem in_437 : (Cond.methodLink "LakeReliefLaw" 50 y_LR_ground) ∈ lw_ok := wok (List.mem_append_right _ (List.mem_of_getElem? (i := 437) (by decide +kernel))) rfl
theorem in_438 : (Cond.instanceMethod y_LR_ground) ∈ lw_ok := wok (List.mem_append_right _ (List.mem_of_getElem? (i := 438) (by decide +kernel))) rfl
theorem in_439 : (Cond.selects "LakeRelief" y_LR_ground y_LR_ground) ∈ lw_ok := wok (List.mem_append_right _ (List.mem_of_getElem? (i := 439) (by decide +kernel))) rfl
set_option maxRecDepth 20000 in
theorem in_440 : (Cond.code y_LR_ground prog_1_method_10_code 3 (Option.some Jvm.ClassFile.FieldType.int)) ∈ lw_ok := wok (List.mem_append_right _ (List.mem_of_getElem? (i := 440) rfl)) rfl
theorem in_441 : (Cond.methodLink "LakeRelief" 163 y_LR_isIn) ∈ lw_ok := wok (List.mem_append_right _ (List.mem_of_getElem? (i := 441) (by decide +kernel))) rfl
theorem in_442 : (Cond.methodLink "LakeReliefLaw" 54 y_LR_holds) ∈ lw_ok := wok (List.mem_append_right _ (List.mem_of_getElem? (i := 442) (by decide +kernel))) rfl
theorem in_443 : (Cond.instanceMethod y_LR_holds) ∈ lw_ok := wok (List.mem_append_right _ (List.mem_of_getElem? (i := 443) (by decide +kernel))) rfl
theorem in_444 : (Cond.selects "LakeRelief" y_LR_holds y_LR_holds) ∈ lw_ok := wok (List.mem_append_right _ (List.mem_of_getElem? (i := 444) (by decide +kernel))) rfl
set_option maxRecDepth 20000 in
theorem in_445 : (Cond.code y_LR_holds prog_1_method_11_code 3 (Option.some Jvm.ClassFile.FieldType.int)) ∈ lw_ok := wok (List.mem_append_right _ (List.mem_of_getElem? (i := 445) rfl)) rfl
theorem in_446 : (Cond.methodLink "LakeRelief" 167 y_LK_isLevelOf) ∈ lw_ok := wok (List.mem_append_right _ (List.mem_of_getElem? (i := 446) (by decide +kernel))) rfl
theorem in_447 : (Cond.instanceMethod y_LK_isLevelOf) ∈ lw_ok := wok (List.mem_append_right _ (List.mem_of_getElem? (i := 447) (by decide +kernel))) rfl
theorem in_448 : (Cond.selects "LakeRelief$Lakes" y_LK_isLevelOf y_LK_isLevelOf) ∈ lw_ok := wok (List.mem_append_right _ (List.mem_of_getElem? (i := 448) (by decide +kernel))) rfl
set_option maxRecDepth 20000 in
theorem in_449 : (Cond.code y_LK_isLevelOf prog_3_method_3_code 3 (Option.some Jvm.ClassFile.FieldType.boolean)) ∈ lw_ok := wok (List.mem_append_right _ (List.mem_of_getElem? (i := 449) rfl)) rfl
theorem in_450 : (Cond.constant "LakeRelief$Lakes" 48 (-1000000)) ∈ lw_ok := wok (List.mem_append_right _ (List.mem_of_getElem? (i := 450) (by decide +kernel))) rfl
theorem in_451 : (Cond.methodLink "LakeRelief" 170 y_RE_roomBelow) ∈ lw_ok := wok (List.mem_append_right _ (List.mem_of_getElem? (i := 451) (by decide +kernel))) rfl
theorem in_452 : (Cond.methodLink "LakeReliefLaw" 58 y_LR_area) ∈ lw_ok := wok (List.mem_append_right _ (List.mem_of_getElem? (i := 452) (by decide +kernel))) rfl
theorem in_453 : (Cond.instanceMethod y_LR_area) ∈ lw_ok := wok (List.mem_append_right _ (List.mem_of_getElem? (i := 453) (by decide +kernel))) rfl
theorem in_454 : (Cond.selects "LakeRelief" y_LR_area y_LR_area) ∈ lw_ok := wok (List.mem_append_right _ (List.mem_of_getElem? (i := 454) (by decide +kernel))) rfl
set_option maxRecDepth 20000 in
theorem in_455 : (Cond.code y_LR_area prog_1_method_12_code 3 (Option.some Jvm.ClassFile.FieldType.int)) ∈ lw_ok := wok (List.mem_append_right _ (List.mem_of_getElem? (i := 455) rfl)) rfl
theorem in_456 : (Cond.methodLink "LakeRelief" 174 y_RE_countBelow) ∈ lw_ok := wok (List.mem_append_right _ (List.mem_of_getElem? (i := 456) (by decide +kernel))) rfl
theorem in_457 : (Cond.instanceMethod y_RE_countBelow) ∈ lw_ok := wok (List.mem_append_right _ (List.mem_of_getElem? (i := 457) (by decide +kernel))) rfl
theorem in_458 : (Cond.selects "LakeRelief$Relief" y_RE_countBelow y_RE_countBelow) ∈ lw_ok := wok (List.mem_append_right _ (List.mem_of_getElem? (i := 458) (by decide +kernel))) rfl
set_option maxRecDepth 20000 in
theorem in_459 : (Cond.code y_RE_countBelow prog_4_method_25_code 6 (Option.some Jvm.ClassFile.FieldType.int)) ∈ lw_ok := wok (List.mem_append_right _ (List.mem_of_getElem? (i := 459) rfl)) rfl
theorem in_460 : (Cond.methodLink "LakeReliefLaw" 62 y_LR_pour) ∈ lw_ok := wok (List.mem_append_right _ (List.mem_of_getElem? (i := 460) (by decide +kernel))) rfl
theorem in_461 : (Cond.instanceMethod y_LR_pour) ∈ lw_ok := wok (List.mem_append_right _ (List.mem_of_getElem? (i := 461) (by decide +kernel))) rfl
theorem in_462 : (Cond.selects "LakeRelief" y_LR_pour y_LR_pour) ∈ lw_ok := wok (List.mem_append_right _ (List.mem_of_getElem? (i := 462) (by decide +kernel))) rfl
set_option maxRecDepth 20000 in
theorem in_463 : (Cond.code y_LR_pour prog_1_method_13_code 3 (Option.some Jvm.ClassFile.FieldType.int)) ∈ lw_ok := wok (List.mem_append_right _ (List.mem_of_getElem? (i := 463) rfl)) rfl
theorem in_464 : (Cond.methodLink "LakeRelief" 178 y_LK_takeGrains) ∈ lw_ok := wok (List.mem_append_right _ (List.mem_of_getElem? (i := 464) (by decide +kernel))) rfl
theorem in_465 : (Cond.instanceMethod y_LK_takeGrains) ∈ lw_ok := wok (List.mem_append_right _ (List.mem_of_getElem? (i := 465) (by decide +kernel))) rfl
theorem in_466 : (Cond.selects "LakeRelief$Lakes" y_LK_takeGrains y_LK_takeGrains) ∈ lw_ok := wok (List.mem_append_right _ (List.mem_of_getElem? (i := 466) (by decide +kernel))) rfl
set_option maxRecDepth 20000 in
theorem in_467 : (Cond.code y_LK_takeGrains prog_3_method_17_code 4 (Option.some Jvm.ClassFile.FieldType.int)) ∈ lw_ok := wok (List.mem_append_right _ (List.mem_of_getElem? (i := 467) rfl)) rfl
theorem in_468 : (Cond.methodLink "LakeRelief$Lakes" 146 y_LK_lakeBelow) ∈ lw_ok := wok (List.mem_append_right _ (List.mem_of_getElem? (i := 468) (by decide +kernel))) rfl
theorem in_470 : (Cond.instanceMethod y_LK_lakeBelow) ∈ lw_ok := wok (List.mem_append_right _ (List.mem_of_getElem? (i := 470) (by decide +kernel))) rfl
set_option maxRecDepth 20000 in
theorem in_471 : (Cond.code y_LK_lakeBelow prog_3_method_18_code 2 (Option.some Jvm.ClassFile.FieldType.int)) ∈ lw_ok := wok (List.mem_append_right _ (List.mem_of_getElem? (i := 471) rfl)) rfl
theorem in_472 : (Cond.methodLink "LakeRelief$Lakes" 155 y_LK_thereWith) ∈ lw_ok := wok (List.mem_append_right _ (List.mem_of_getElem? (i := 472) (by decide +kernel))) rfl
theorem in_473 : (Cond.methodLink "LakeRelief$Lakes" 149 y_LK_runDown) ∈ lw_ok := wok (List.mem_append_right _ (List.mem_of_getElem? (i := 473) (by decide +kernel))) rfl
theorem in_475 : (Cond.instanceMethod y_LK_runDown) ∈ lw_ok := wok (List.mem_append_right _ (List.mem_of_getElem? (i := 475) (by decide +kernel))) rfl
set_option maxRecDepth 20000 in
theorem in_476 : (Cond.code y_LK_runDown prog_3_method_19_code 6 (Option.some Jvm.ClassFile.FieldType.int)) ∈ lw_ok := wok (List.mem_append_right _ (List.mem_of_getElem? (i := 476) rfl)) rfl
theorem in_477 : (Cond.methodLink "LakeRelief$Lakes" 158 y_LK_fillUp) ∈ lw_ok := wok (List.mem_append_right _ (List.mem_of_getElem? (i := 477) (by decide +kernel))) rfl
theorem in_479 : (Cond.instanceMethod y_LK_fillUp) ∈ lw_ok := wok (List.mem_append_right _ (List.mem_of_getElem? (i := 479) (by decide +kernel))) rfl
set_option maxRecDepth 20000 in
theorem in_480 : (Cond.code y_LK_fillUp prog_3_method_20_code 4 (Option.some Jvm.ClassFile.FieldType.int)) ∈ lw_ok := wok (List.mem_append_right _ (List.mem_of_getElem? (i := 480) rfl)) rfl
theorem in_481 : (Cond.methodLink "LakeRelief$Lakes" 165 y_JM_min) ∈ lw_ok := wok (List.mem_append_right _ (List.mem_of_getElem? (i := 481) (by decide +kernel))) rfl
theorem in_482 : (Cond.methodLink "LakeRelief$Lakes" 162 y_LK_next) ∈ lw_ok := wok (List.mem_append_right _ (List.mem_of_getElem? (i := 482) (by decide +kernel))) rfl
theorem in_484 : (Cond.instanceMethod y_LK_next) ∈ lw_ok := wok (List.mem_append_right _ (List.mem_of_getElem? (i := 484) (by decide +kernel))) rfl
set_option maxRecDepth 20000 in
theorem in_485 : (Cond.code y_LK_next prog_3_method_21_code 4 (Option.some Jvm.ClassFile.FieldType.int)) ∈ lw_ok := wok (List.mem_append_right _ (List.mem_of_getElem? (i := 485) rfl)) rfl
theorem in_486 : (Cond.methodLink "LakeRelief$Lakes" 176 y_LA_isFull) ∈ lw_ok := wok (List.mem_append_right _ (List.mem_of_getElem? (i := 486) (by decide +kernel))) rfl
theorem in_487 : (Cond.instanceMethod y_LA_isFull) ∈ lw_ok := wok (List.mem_append_right _ (List.mem_of_getElem? (i := 487) (by decide +kernel))) rfl
theorem in_488 : (Cond.selects "LakeRelief$Lake" y_LA_isFull y_LA_isFull) ∈ lw_ok := wok (List.mem_append_right _ (List.mem_of_getElem? (i := 488) (by decide +kernel))) rfl
set_option maxRecDepth 20000 in
theorem in_489 : (Cond.code y_LA_isFull prog_2_method_4_code 1 (Option.some Jvm.ClassFile.FieldType.boolean)) ∈ lw_ok := wok (List.mem_append_right _ (List.mem_of_getElem? (i := 489) rfl)) rfl
theorem in_490 : (Cond.methodLink "LakeRelief$Lakes" 179 y_LK_join) ∈ lw_ok := wok (List.mem_append_right _ (List.mem_of_getElem? (i := 490) (by decide +kernel))) rfl
theorem in_492 : (Cond.instanceMethod y_LK_join) ∈ lw_ok := wok (List.mem_append_right _ (List.mem_of_getElem? (i := 492) (by decide +kernel))) rfl
set_option maxRecDepth 20000 in
theorem in_493 : (Cond.code y_LK_join prog_3_method_22_code 4 (Option.none : Option Jvm.ClassFile.FieldType)) ∈ lw_ok := wok (List.mem_append_right _ (List.mem_of_getElem? (i := 493) rfl)) rfl
theorem in_494 : (Cond.methodLink "LakeRelief$Lakes" 183 y_LA_vanish) ∈ lw_ok := wok (List.mem_append_right _ (List.mem_of_getElem? (i := 494) (by decide +kernel))) rfl
theorem in_495 : (Cond.instanceMethod y_LA_vanish) ∈ lw_ok := wok (List.mem_append_right _ (List.mem_of_getElem? (i := 495) (by decide +kernel))) rfl
theorem in_496 : (Cond.selects "LakeRelief$Lake" y_LA_vanish y_LA_vanish) ∈ lw_ok := wok (List.mem_append_right _ (List.mem_of_getElem? (i := 496) (by decide +kernel))) rfl
set_option maxRecDepth 20000 in
theorem in_497 : (Cond.code y_LA_vanish prog_2_method_7_code 1 (Option.none : Option Jvm.ClassFile.FieldType)) ∈ lw_ok := wok (List.mem_append_right _ (List.mem_of_getElem? (i := 497) rfl)) rfl
theorem in_498 : (Cond.methodLink "LakeReliefLaw" 66 y_LR_level) ∈ lw_ok := wok (List.mem_append_right _ (List.mem_of_getElem? (i := 498) (by decide +kernel))) rfl
theorem in_499 : (Cond.instanceMethod y_LR_level) ∈ lw_ok := wok (List.mem_append_right _ (List.mem_of_getElem? (i := 499) (by decide +kernel))) rfl
theorem in_500 : (Cond.selects "LakeRelief" y_LR_level y_LR_level) ∈ lw_ok := wok (List.mem_append_right _ (List.mem_of_getElem? (i := 500) (by decide +kernel))) rfl
set_option maxRecDepth 20000 in
theorem in_501 : (Cond.code y_LR_level prog_1_method_14_code 3 (Option.some Jvm.ClassFile.FieldType.int)) ∈ lw_ok := wok (List.mem_append_right _ (List.mem_of_getElem? (i := 501) rfl)) rfl
theorem in_502 : (Cond.methodLink "LakeRelief" 181 y_RE_surface) ∈ lw_ok := wok (List.mem_append_right _ (List.mem_of_getElem? (i := 502) (by decide +kernel))) rfl
theorem in_503 : (Cond.instanceMethod y_RE_surface) ∈ lw_ok := wok (List.mem_append_right _ (List.mem_of_getElem? (i := 503) (by decide +kernel))) rfl
theorem in_504 : (Cond.selects "LakeRelief$Relief" y_RE_surface y_RE_surface) ∈ lw_ok := wok (List.mem_append_right _ (List.mem_of_getElem? (i := 504) (by decide +kernel))) rfl
set_option maxRecDepth 20000 in
theorem in_505 : (Cond.code y_RE_surface prog_4_method_26_code 9 (Option.some Jvm.ClassFile.FieldType.int)) ∈ lw_ok := wok (List.mem_append_right _ (List.mem_of_getElem? (i := 505) rfl)) rfl
theorem in_506 : (Cond.methodLink "LakeRelief$Relief" 120 y_JM_abs) ∈ lw_ok := wok (List.mem_append_right _ (List.mem_of_getElem? (i := 506) (by decide +kernel))) rfl
theorem in_507 : (Cond.static y_JM_abs) ∈ lw_ok := wok (List.mem_append_right _ (List.mem_of_getElem? (i := 507) (by decide +kernel))) rfl
set_option maxRecDepth 20000 in
theorem in_508 : (Cond.code y_JM_abs prog_9_method_59_code 1 (Option.some Jvm.ClassFile.FieldType.int)) ∈ lw_ok := wok (List.mem_append_right _ (List.mem_of_getElem? (i := 508) rfl)) rfl
theorem in_509 : (Cond.methodLink "LakeRelief$Relief" 123 y_RE_greatestDivisor) ∈ lw_ok := wok (List.mem_append_right _ (List.mem_of_getElem? (i := 509) (by decide +kernel))) rfl
theorem in_510 : (Cond.static y_RE_greatestDivisor) ∈ lw_ok := wok (List.mem_append_right _ (List.mem_of_getElem? (i := 510) (by decide +kernel))) rfl
set_option maxRecDepth 20000 in
theorem in_511 : (Cond.code y_RE_greatestDivisor prog_4_method_27_code 6 (Option.some Jvm.ClassFile.FieldType.int)) ∈ lw_ok := wok (List.mem_append_right _ (List.mem_of_getElem? (i := 511) rfl)) rfl
theorem in_512 : (Cond.methodLink "LakeReliefLaw" 70 y_LR_rise) ∈ lw_ok := wok (List.mem_append_right _ (List.mem_of_getElem? (i := 512) (by decide +kernel))) rfl
theorem in_513 : (Cond.instanceMethod y_LR_rise) ∈ lw_ok := wok (List.mem_append_right _ (List.mem_of_getElem? (i := 513) (by decide +kernel))) rfl
theorem in_514 : (Cond.selects "LakeRelief" y_LR_rise y_LR_rise) ∈ lw_ok := wok (List.mem_append_right _ (List.mem_of_getElem? (i := 514) (by decide +kernel))) rfl
set_option maxRecDepth 20000 in
theorem in_515 : (Cond.code y_LR_rise prog_1_method_15_code 2 (Option.some Jvm.ClassFile.FieldType.int)) ∈ lw_ok := wok (List.mem_append_right _ (List.mem_of_getElem? (i := 515) rfl)) rfl
theorem in_516 : (Cond.methodLink "LakeRelief" 185 y_LR_isSeaLevel) ∈ lw_ok := wok (List.mem_append_right _ (List.mem_of_getElem? (i := 516) (by decide +kernel))) rfl
theorem in_517 : (Cond.static y_LR_isSeaLevel) ∈ lw_ok := wok (List.mem_append_right _ (List.mem_of_getElem? (i := 517) (by decide +kernel))) rfl
set_option maxRecDepth 20000 in
theorem in_518 : (Cond.code y_LR_isSeaLevel prog_1_method_23_code 1 (Option.some Jvm.ClassFile.FieldType.boolean)) ∈ lw_ok := wok (List.mem_append_right _ (List.mem_of_getElem? (i := 518) rfl)) rfl
theorem in_519 : (Cond.constant "LakeRelief" 232 (1000001)) ∈ lw_ok := wok (List.mem_append_right _ (List.mem_of_getElem? (i := 519) (by decide +kernel))) rfl
theorem in_520 : (Cond.methodLink "LakeRelief" 188 y_RE_landLeftAt) ∈ lw_ok := wok (List.mem_append_right _ (List.mem_of_getElem? (i := 520) (by decide +kernel))) rfl
theorem in_521 : (Cond.instanceMethod y_RE_landLeftAt) ∈ lw_ok := wok (List.mem_append_right _ (List.mem_of_getElem? (i := 521) (by decide +kernel))) rfl
theorem in_522 : (Cond.selects "LakeRelief$Relief" y_RE_landLeftAt y_RE_landLeftAt) ∈ lw_ok := wok (List.mem_append_right _ (List.mem_of_getElem? (i := 522) (by decide +kernel))) rfl
set_option maxRecDepth 20000 in
theorem in_523 : (Cond.code y_RE_landLeftAt prog_4_method_28_code 6 (Option.some Jvm.ClassFile.FieldType.long)) ∈ lw_ok := wok (List.mem_append_right _ (List.mem_of_getElem? (i := 523) rfl)) rfl
theorem in_524 : (Cond.methodLink "LakeReliefLaw" 74 y_LR_islands) ∈ lw_ok := wok (List.mem_append_right _ (List.mem_of_getElem? (i := 524) (by decide +kernel))) rfl
theorem in_525 : (Cond.instanceMethod y_LR_islands) ∈ lw_ok := wok (List.mem_append_right _ (List.mem_of_getElem? (i := 525) (by decide +kernel))) rfl
theorem in_526 : (Cond.selects "LakeRelief" y_LR_islands y_LR_islands) ∈ lw_ok := wok (List.mem_append_right _ (List.mem_of_getElem? (i := 526) (by decide +kernel))) rfl
set_option maxRecDepth 20000 in
theorem in_527 : (Cond.code y_LR_islands prog_1_method_16_code 2 (Option.some Jvm.ClassFile.FieldType.int)) ∈ lw_ok := wok (List.mem_append_right _ (List.mem_of_getElem? (i := 527) rfl)) rfl
theorem in_528 : (Cond.methodLink "LakeRelief" 192 y_RE_piecesOf) ∈ lw_ok := wok (List.mem_append_right _ (List.mem_of_getElem? (i := 528) (by decide +kernel))) rfl
theorem in_529 : (Cond.instanceMethod y_RE_piecesOf) ∈ lw_ok := wok (List.mem_append_right _ (List.mem_of_getElem? (i := 529) (by decide +kernel))) rfl
theorem in_530 : (Cond.selects "LakeRelief$Relief" y_RE_piecesOf y_RE_piecesOf) ∈ lw_ok := wok (List.mem_append_right _ (List.mem_of_getElem? (i := 530) (by decide +kernel))) rfl
set_option maxRecDepth 20000 in
theorem in_531 : (Cond.code y_RE_piecesOf prog_4_method_29_code 7 (Option.some Jvm.ClassFile.FieldType.int)) ∈ lw_ok := wok (List.mem_append_right _ (List.mem_of_getElem? (i := 531) rfl)) rfl
theorem in_532 : (Cond.methodLink "LakeRelief$Relief" 126 y_RE_withoutPieceAt) ∈ lw_ok := wok (List.mem_append_right _ (List.mem_of_getElem? (i := 532) (by decide +kernel))) rfl
theorem in_534 : (Cond.instanceMethod y_RE_withoutPieceAt) ∈ lw_ok := wok (List.mem_append_right _ (List.mem_of_getElem? (i := 534) (by decide +kernel))) rfl
set_option maxRecDepth 20000 in
theorem in_535 : (Cond.code y_RE_withoutPieceAt prog_4_method_30_code 10 (Option.some Jvm.ClassFile.FieldType.long)) ∈ lw_ok := wok (List.mem_append_right _ (List.mem_of_getElem? (i := 535) rfl)) rfl
theorem in_536 : (Cond.constantLong "LakeRelief$Relief" 130 (-1)) ∈ lw_ok := wok (List.mem_append_right _ (List.mem_of_getElem? (i := 536) (by decide +kernel))) rfl
theorem in_537 : (Cond.methodLink "LakeReliefLaw" 78 y_LR_count) ∈ lw_ok := wok (List.mem_append_right _ (List.mem_of_getElem? (i := 537) (by decide +kernel))) rfl
theorem in_538 : (Cond.instanceMethod y_LR_count) ∈ lw_ok := wok (List.mem_append_right _ (List.mem_of_getElem? (i := 538) (by decide +kernel))) rfl
theorem in_539 : (Cond.selects "LakeRelief" y_LR_count y_LR_count) ∈ lw_ok := wok (List.mem_append_right _ (List.mem_of_getElem? (i := 539) (by decide +kernel))) rfl
set_option maxRecDepth 20000 in
theorem in_540 : (Cond.code y_LR_count prog_1_method_17_code 2 (Option.some Jvm.ClassFile.FieldType.long)) ∈ lw_ok := wok (List.mem_append_right _ (List.mem_of_getElem? (i := 540) rfl)) rfl
theorem in_541 : (Cond.constantLong "LakeRelief" 195 (-2)) ∈ lw_ok := wok (List.mem_append_right _ (List.mem_of_getElem? (i := 541) (by decide +kernel))) rfl
theorem in_542 : (Cond.methodLink "LakeRelief" 200 y_RE_hollowCount) ∈ lw_ok := wok (List.mem_append_right _ (List.mem_of_getElem? (i := 542) (by decide +kernel))) rfl
theorem in_543 : (Cond.instanceMethod y_RE_hollowCount) ∈ lw_ok := wok (List.mem_append_right _ (List.mem_of_getElem? (i := 543) (by decide +kernel))) rfl
theorem in_544 : (Cond.selects "LakeRelief$Relief" y_RE_hollowCount y_RE_hollowCount) ∈ lw_ok := wok (List.mem_append_right _ (List.mem_of_getElem? (i := 544) (by decide +kernel))) rfl
set_option maxRecDepth 20000 in
theorem in_545 : (Cond.code y_RE_hollowCount prog_4_method_21_code 3 (Option.some Jvm.ClassFile.FieldType.int)) ∈ lw_ok := wok (List.mem_append_right _ (List.mem_of_getElem? (i := 545) rfl)) rfl
theorem in_546 : (Cond.methodLink "LakeRelief" 207 y_LK_numberThere) ∈ lw_ok := wok (List.mem_append_right _ (List.mem_of_getElem? (i := 546) (by decide +kernel))) rfl
theorem in_547 : (Cond.instanceMethod y_LK_numberThere) ∈ lw_ok := wok (List.mem_append_right _ (List.mem_of_getElem? (i := 547) (by decide +kernel))) rfl
theorem in_548 : (Cond.selects "LakeRelief$Lakes" y_LK_numberThere y_LK_numberThere) ∈ lw_ok := wok (List.mem_append_right _ (List.mem_of_getElem? (i := 548) (by decide +kernel))) rfl
set_option maxRecDepth 20000 in
theorem in_549 : (Cond.code y_LK_numberThere prog_3_method_15_code 3 (Option.some Jvm.ClassFile.FieldType.int)) ∈ lw_ok := wok (List.mem_append_right _ (List.mem_of_getElem? (i := 549) rfl)) rfl
theorem in_550 : (Cond.methodLink "LakeRelief" 210 y_LK_waterThere) ∈ lw_ok := wok (List.mem_append_right _ (List.mem_of_getElem? (i := 550) (by decide +kernel))) rfl
theorem in_551 : (Cond.instanceMethod y_LK_waterThere) ∈ lw_ok := wok (List.mem_append_right _ (List.mem_of_getElem? (i := 551) (by decide +kernel))) rfl
theorem in_552 : (Cond.selects "LakeRelief$Lakes" y_LK_waterThere y_LK_waterThere) ∈ lw_ok := wok (List.mem_append_right _ (List.mem_of_getElem? (i := 552) (by decide +kernel))) rfl
set_option maxRecDepth 20000 in
theorem in_553 : (Cond.code y_LK_waterThere prog_3_method_16_code 4 (Option.some Jvm.ClassFile.FieldType.long)) ∈ lw_ok := wok (List.mem_append_right _ (List.mem_of_getElem? (i := 553) rfl)) rfl
theorem in_554 : (Cond.constantLong "LakeRelief" 220 (-1)) ∈ lw_ok := wok (List.mem_append_right _ (List.mem_of_getElem? (i := 554) (by decide +kernel))) rfl
theorem in_555 : (Cond.classLink "LakeReliefLaw" 10 "LakeReliefModel") ∈ lw_ok := wok (List.mem_append_right _ (List.mem_of_getElem? (i := 555) (by decide +kernel))) rfl
theorem in_556 : (Cond.instantiable "LakeReliefModel" 29) ∈ lw_ok := wok (List.mem_append_right _ (List.mem_of_getElem? (i := 556) (by decide +kernel))) rfl
theorem in_557 : (Cond.methodLink "LakeReliefLaw" 12 y_MO_init) ∈ lw_ok := wok (List.mem_append_right _ (List.mem_of_getElem? (i := 557) (by decide +kernel))) rfl
theorem in_558 : (Cond.instanceMethod y_MO_init) ∈ lw_ok := wok (List.mem_append_right _ (List.mem_of_getElem? (i := 558) (by decide +kernel))) rfl
set_option maxRecDepth 20000 in
theorem in_559 : (Cond.code y_MO_init prog_7_method_1_code 2 (Option.none : Option Jvm.ClassFile.FieldType)) ∈ lw_ok := wok (List.mem_append_right _ (List.mem_of_getElem? (i := 559) rfl)) rfl
theorem in_560 : (Cond.methodLink "LakeReliefModel" 1 (⟨"java/lang/Object", "<init>", "()V"⟩ : MethodName)) ∈ lw_ok := wok (List.mem_append_right _ (List.mem_of_getElem? (i := 560) (by decide +kernel))) rfl
theorem in_561 : (Cond.fieldLink "LakeReliefModel" 7 "LakeReliefModel" "kind" "[I") ∈ lw_ok := wok (List.mem_append_right _ (List.mem_of_getElem? (i := 561) (by decide +kernel))) rfl
theorem in_562 : (Cond.fieldLink "LakeReliefModel" 13 "LakeReliefModel" "size" "[I") ∈ lw_ok := wok (List.mem_append_right _ (List.mem_of_getElem? (i := 562) (by decide +kernel))) rfl
theorem in_563 : (Cond.fieldLink "LakeReliefModel" 16 "LakeReliefModel" "strips" "[I") ∈ lw_ok := wok (List.mem_append_right _ (List.mem_of_getElem? (i := 563) (by decide +kernel))) rfl
theorem in_564 : (Cond.fieldLink "LakeReliefModel" 156 "LakeReliefModel" "isLaid" "Z") ∈ lw_ok := wok (List.mem_append_right _ (List.mem_of_getElem? (i := 564) (by decide +kernel))) rfl
theorem in_565 : (Cond.fieldLink "LakeReliefModel" 98 "LakeReliefModel" "wide" "I") ∈ lw_ok := wok (List.mem_append_right _ (List.mem_of_getElem? (i := 565) (by decide +kernel))) rfl
theorem in_566 : (Cond.fieldLink "LakeReliefModel" 102 "LakeReliefModel" "fields" "I") ∈ lw_ok := wok (List.mem_append_right _ (List.mem_of_getElem? (i := 566) (by decide +kernel))) rfl
theorem in_567 : (Cond.fieldLink "LakeReliefModel" 19 "LakeReliefModel" "isSea" "[Z") ∈ lw_ok := wok (List.mem_append_right _ (List.mem_of_getElem? (i := 567) (by decide +kernel))) rfl
theorem in_568 : (Cond.fieldLink "LakeReliefModel" 23 "LakeReliefModel" "height" "[I") ∈ lw_ok := wok (List.mem_append_right _ (List.mem_of_getElem? (i := 568) (by decide +kernel))) rfl
theorem in_569 : (Cond.fieldLink "LakeReliefModel" 26 "LakeReliefModel" "down" "[I") ∈ lw_ok := wok (List.mem_append_right _ (List.mem_of_getElem? (i := 569) (by decide +kernel))) rfl
theorem in_570 : (Cond.fieldLink "LakeReliefModel" 29 "LakeReliefModel" "wayEnd" "[I") ∈ lw_ok := wok (List.mem_append_right _ (List.mem_of_getElem? (i := 570) (by decide +kernel))) rfl
theorem in_571 : (Cond.fieldLink "LakeReliefModel" 32 "LakeReliefModel" "fill" "[I") ∈ lw_ok := wok (List.mem_append_right _ (List.mem_of_getElem? (i := 571) (by decide +kernel))) rfl
theorem in_572 : (Cond.fieldLink "LakeReliefModel" 116 "LakeReliefModel" "lakes" "I") ∈ lw_ok := wok (List.mem_append_right _ (List.mem_of_getElem? (i := 572) (by decide +kernel))) rfl
theorem in_573 : (Cond.fieldLink "LakeReliefModel" 35 "LakeReliefModel" "isDouble" "[Z") ∈ lw_ok := wok (List.mem_append_right _ (List.mem_of_getElem? (i := 573) (by decide +kernel))) rfl
theorem in_574 : (Cond.fieldLink "LakeReliefModel" 38 "LakeReliefModel" "ground" "[J") ∈ lw_ok := wok (List.mem_append_right _ (List.mem_of_getElem? (i := 574) (by decide +kernel))) rfl
theorem in_575 : (Cond.fieldLink "LakeReliefModel" 42 "LakeReliefModel" "rim" "[I") ∈ lw_ok := wok (List.mem_append_right _ (List.mem_of_getElem? (i := 575) (by decide +kernel))) rfl
theorem in_576 : (Cond.fieldLink "LakeReliefModel" 45 "LakeReliefModel" "above" "[I") ∈ lw_ok := wok (List.mem_append_right _ (List.mem_of_getElem? (i := 576) (by decide +kernel))) rfl
theorem in_577 : (Cond.fieldLink "LakeReliefModel" 48 "LakeReliefModel" "first" "[I") ∈ lw_ok := wok (List.mem_append_right _ (List.mem_of_getElem? (i := 577) (by decide +kernel))) rfl
theorem in_578 : (Cond.fieldLink "LakeReliefModel" 51 "LakeReliefModel" "second" "[I") ∈ lw_ok := wok (List.mem_append_right _ (List.mem_of_getElem? (i := 578) (by decide +kernel))) rfl
theorem in_579 : (Cond.fieldLink "LakeReliefModel" 54 "LakeReliefModel" "isThere" "[Z") ∈ lw_ok := wok (List.mem_append_right _ (List.mem_of_getElem? (i := 579) (by decide +kernel))) rfl
theorem in_580 : (Cond.fieldLink "LakeReliefModel" 57 "LakeReliefModel" "water" "[I") ∈ lw_ok := wok (List.mem_append_right _ (List.mem_of_getElem? (i := 580) (by decide +kernel))) rfl
theorem in_581 : (Cond.fieldLink "LakeReliefModel" 173 "LakeReliefModel" "gone" "J") ∈ lw_ok := wok (List.mem_append_right _ (List.mem_of_getElem? (i := 581) (by decide +kernel))) rfl
theorem in_582 : (Cond.fieldLink "LakeReliefModel" 177 "LakeReliefModel" "poured" "J") ∈ lw_ok := wok (List.mem_append_right _ (List.mem_of_getElem? (i := 582) (by decide +kernel))) rfl
theorem in_583 : (Cond.fieldLink "LakeReliefModel" 60 "LakeReliefModel" "middle" "[I") ∈ lw_ok := wok (List.mem_append_right _ (List.mem_of_getElem? (i := 583) (by decide +kernel))) rfl
theorem in_584 : (Cond.fieldLink "LakeReliefModel" 63 "LakeReliefModel" "owner" "[I") ∈ lw_ok := wok (List.mem_append_right _ (List.mem_of_getElem? (i := 584) (by decide +kernel))) rfl
theorem in_585 : (Cond.fieldLink "LakeReliefModel" 66 "LakeReliefModel" "isUnder" "[Z") ∈ lw_ok := wok (List.mem_append_right _ (List.mem_of_getElem? (i := 585) (by decide +kernel))) rfl
theorem in_586 : (Cond.fieldLink "LakeReliefModel" 69 "LakeReliefModel" "near" "[I") ∈ lw_ok := wok (List.mem_append_right _ (List.mem_of_getElem? (i := 586) (by decide +kernel))) rfl
theorem in_587 : (Cond.fieldLink "LakeReliefModel" 119 "LakeReliefModel" "nearMany" "I") ∈ lw_ok := wok (List.mem_append_right _ (List.mem_of_getElem? (i := 587) (by decide +kernel))) rfl
theorem in_588 : (Cond.fieldLink "LakeReliefModel" 72 "LakeReliefModel" "heights" "[I") ∈ lw_ok := wok (List.mem_append_right _ (List.mem_of_getElem? (i := 588) (by decide +kernel))) rfl
theorem in_589 : (Cond.fieldLink "LakeReliefModel" 75 "LakeReliefModel" "island" "[I") ∈ lw_ok := wok (List.mem_append_right _ (List.mem_of_getElem? (i := 589) (by decide +kernel))) rfl
theorem in_651 : (Cond.methodLink "LakeReliefLaw" 17 y_MO_strip) ∈ lw_ok := wok (List.mem_append_right _ (List.mem_of_getElem? (i := 651) (by decide +kernel))) rfl
theorem in_652 : (Cond.instanceMethod y_MO_strip) ∈ lw_ok := wok (List.mem_append_right _ (List.mem_of_getElem? (i := 652) (by decide +kernel))) rfl
theorem in_653 : (Cond.selects "LakeReliefModel" y_MO_strip y_MO_strip) ∈ lw_ok := wok (List.mem_append_right _ (List.mem_of_getElem? (i := 653) (by decide +kernel))) rfl
set_option maxRecDepth 20000 in
theorem in_654 : (Cond.code y_MO_strip prog_7_method_4_code 5 (Option.some Jvm.ClassFile.FieldType.int)) ∈ lw_ok := wok (List.mem_append_right _ (List.mem_of_getElem? (i := 654) rfl)) rfl
theorem in_655 : (Cond.methodLink "LakeReliefModel" 84 y_MO_isStrip) ∈ lw_ok := wok (List.mem_append_right _ (List.mem_of_getElem? (i := 655) (by decide +kernel))) rfl
theorem in_656 : (Cond.static y_MO_isStrip) ∈ lw_ok := wok (List.mem_append_right _ (List.mem_of_getElem? (i := 656) (by decide +kernel))) rfl
set_option maxRecDepth 20000 in
theorem in_657 : (Cond.code y_MO_isStrip prog_7_method_3_code 1 (Option.some Jvm.ClassFile.FieldType.boolean)) ∈ lw_ok := wok (List.mem_append_right _ (List.mem_of_getElem? (i := 657) rfl)) rfl
theorem in_658 : (Cond.constantLong "LakeReliefModel" 78 (7)) ∈ lw_ok := wok (List.mem_append_right _ (List.mem_of_getElem? (i := 658) (by decide +kernel))) rfl
theorem in_659 : (Cond.methodLink "LakeReliefModel" 80 y_MO_in) ∈ lw_ok := wok (List.mem_append_right _ (List.mem_of_getElem? (i := 659) (by decide +kernel))) rfl
theorem in_660 : (Cond.static y_MO_in) ∈ lw_ok := wok (List.mem_append_right _ (List.mem_of_getElem? (i := 660) (by decide +kernel))) rfl
set_option maxRecDepth 20000 in
theorem in_661 : (Cond.code y_MO_in prog_7_method_2_code 6 (Option.some Jvm.ClassFile.FieldType.boolean)) ∈ lw_ok := wok (List.mem_append_right _ (List.mem_of_getElem? (i := 661) rfl)) rfl
theorem in_662 : (Cond.constantLong "LakeReliefModel" 88 (-1)) ∈ lw_ok := wok (List.mem_append_right _ (List.mem_of_getElem? (i := 662) (by decide +kernel))) rfl
theorem in_663 : (Cond.constantLong "LakeReliefModel" 90 (2)) ∈ lw_ok := wok (List.mem_append_right _ (List.mem_of_getElem? (i := 663) (by decide +kernel))) rfl
theorem in_664 : (Cond.methodLink "LakeReliefLaw" 21 y_MO_put) ∈ lw_ok := wok (List.mem_append_right _ (List.mem_of_getElem? (i := 664) (by decide +kernel))) rfl
theorem in_665 : (Cond.instanceMethod y_MO_put) ∈ lw_ok := wok (List.mem_append_right _ (List.mem_of_getElem? (i := 665) (by decide +kernel))) rfl
theorem in_666 : (Cond.selects "LakeReliefModel" y_MO_put y_MO_put) ∈ lw_ok := wok (List.mem_append_right _ (List.mem_of_getElem? (i := 666) (by decide +kernel))) rfl
set_option maxRecDepth 20000 in
theorem in_667 : (Cond.code y_MO_put prog_7_method_6_code 5 (Option.some Jvm.ClassFile.FieldType.int)) ∈ lw_ok := wok (List.mem_append_right _ (List.mem_of_getElem? (i := 667) rfl)) rfl
theorem in_668 : (Cond.methodLink "LakeReliefModel" 92 y_MO_against) ∈ lw_ok := wok (List.mem_append_right _ (List.mem_of_getElem? (i := 668) (by decide +kernel))) rfl
theorem in_670 : (Cond.instanceMethod y_MO_against) ∈ lw_ok := wok (List.mem_append_right _ (List.mem_of_getElem? (i := 670) (by decide +kernel))) rfl
set_option maxRecDepth 20000 in
theorem in_671 : (Cond.code y_MO_against prog_7_method_5_code 3 (Option.some Jvm.ClassFile.FieldType.int)) ∈ lw_ok := wok (List.mem_append_right _ (List.mem_of_getElem? (i := 671) rfl)) rfl
theorem in_672 : (Cond.methodLink "LakeReliefLaw" 26 y_MO_copy) ∈ lw_ok := wok (List.mem_append_right _ (List.mem_of_getElem? (i := 672) (by decide +kernel))) rfl
theorem in_673 : (Cond.instanceMethod y_MO_copy) ∈ lw_ok := wok (List.mem_append_right _ (List.mem_of_getElem? (i := 673) (by decide +kernel))) rfl
theorem in_674 : (Cond.selects "LakeReliefModel" y_MO_copy y_MO_copy) ∈ lw_ok := wok (List.mem_append_right _ (List.mem_of_getElem? (i := 674) (by decide +kernel))) rfl
set_option maxRecDepth 20000 in
theorem in_675 : (Cond.code y_MO_copy prog_7_method_7_code 7 (Option.some Jvm.ClassFile.FieldType.int)) ∈ lw_ok := wok (List.mem_append_right _ (List.mem_of_getElem? (i := 675) rfl)) rfl
theorem in_676 : (Cond.methodLink "LakeReliefLaw" 31 y_MO_told) ∈ lw_ok := wok (List.mem_append_right _ (List.mem_of_getElem? (i := 676) (by decide +kernel))) rfl
theorem in_677 : (Cond.instanceMethod y_MO_told) ∈ lw_ok := wok (List.mem_append_right _ (List.mem_of_getElem? (i := 677) (by decide +kernel))) rfl
theorem in_678 : (Cond.selects "LakeReliefModel" y_MO_told y_MO_told) ∈ lw_ok := wok (List.mem_append_right _ (List.mem_of_getElem? (i := 678) (by decide +kernel))) rfl
set_option maxRecDepth 20000 in
theorem in_679 : (Cond.code y_MO_told prog_7_method_8_code 4 (Option.some Jvm.ClassFile.FieldType.long)) ∈ lw_ok := wok (List.mem_append_right _ (List.mem_of_getElem? (i := 679) rfl)) rfl
theorem in_680 : (Cond.constantLong "LakeReliefModel" 96 (10000000000)) ∈ lw_ok := wok (List.mem_append_right _ (List.mem_of_getElem? (i := 680) (by decide +kernel))) rfl
theorem in_681 : (Cond.methodLink "LakeReliefLaw" 36 y_MO_lay) ∈ lw_ok := wok (List.mem_append_right _ (List.mem_of_getElem? (i := 681) (by decide +kernel))) rfl
theorem in_682 : (Cond.instanceMethod y_MO_lay) ∈ lw_ok := wok (List.mem_append_right _ (List.mem_of_getElem? (i := 682) (by decide +kernel))) rfl
theorem in_683 : (Cond.selects "LakeReliefModel" y_MO_lay y_MO_lay) ∈ lw_ok := wok (List.mem_append_right _ (List.mem_of_getElem? (i := 683) (by decide +kernel))) rfl
set_option maxRecDepth 20000 in
theorem in_684 : (Cond.code y_MO_lay prog_7_method_24_code 5 (Option.some Jvm.ClassFile.FieldType.int)) ∈ lw_ok := wok (List.mem_append_right _ (List.mem_of_getElem? (i := 684) rfl)) rfl
theorem in_685 : (Cond.constantLong "LakeReliefModel" 144 (8)) ∈ lw_ok := wok (List.mem_append_right _ (List.mem_of_getElem? (i := 685) (by decide +kernel))) rfl
theorem in_686 : (Cond.methodLink "LakeReliefModel" 146 y_MO_isPlace) ∈ lw_ok := wok (List.mem_append_right _ (List.mem_of_getElem? (i := 686) (by decide +kernel))) rfl
theorem in_688 : (Cond.instanceMethod y_MO_isPlace) ∈ lw_ok := wok (List.mem_append_right _ (List.mem_of_getElem? (i := 688) (by decide +kernel))) rfl
set_option maxRecDepth 20000 in
theorem in_689 : (Cond.code y_MO_isPlace prog_7_method_23_code 3 (Option.some Jvm.ClassFile.FieldType.boolean)) ∈ lw_ok := wok (List.mem_append_right _ (List.mem_of_getElem? (i := 689) rfl)) rfl
theorem in_690 : (Cond.methodLink "LakeReliefModel" 149 y_MO_stripAt) ∈ lw_ok := wok (List.mem_append_right _ (List.mem_of_getElem? (i := 690) (by decide +kernel))) rfl
theorem in_692 : (Cond.instanceMethod y_MO_stripAt) ∈ lw_ok := wok (List.mem_append_right _ (List.mem_of_getElem? (i := 692) (by decide +kernel))) rfl
set_option maxRecDepth 20000 in
theorem in_693 : (Cond.code y_MO_stripAt prog_7_method_22_code 3 (Option.some Jvm.ClassFile.FieldType.int)) ∈ lw_ok := wok (List.mem_append_right _ (List.mem_of_getElem? (i := 693) rfl)) rfl
theorem in_694 : (Cond.constantLong "LakeReliefModel" 152 (-1000000)) ∈ lw_ok := wok (List.mem_append_right _ (List.mem_of_getElem? (i := 694) (by decide +kernel))) rfl
theorem in_695 : (Cond.constantLong "LakeReliefModel" 154 (1000000)) ∈ lw_ok := wok (List.mem_append_right _ (List.mem_of_getElem? (i := 695) (by decide +kernel))) rfl
theorem in_696 : (Cond.methodLink "LakeReliefModel" 160 y_MO_layDown) ∈ lw_ok := wok (List.mem_append_right _ (List.mem_of_getElem? (i := 696) (by decide +kernel))) rfl
theorem in_698 : (Cond.instanceMethod y_MO_layDown) ∈ lw_ok := wok (List.mem_append_right _ (List.mem_of_getElem? (i := 698) (by decide +kernel))) rfl
set_option maxRecDepth 20000 in
theorem in_699 : (Cond.code y_MO_layDown prog_7_method_12_code 6 (Option.none : Option Jvm.ClassFile.FieldType)) ∈ lw_ok := wok (List.mem_append_right _ (List.mem_of_getElem? (i := 699) rfl)) rfl
theorem in_700 : (Cond.methodLink "LakeReliefModel" 105 y_MO_beside) ∈ lw_ok := wok (List.mem_append_right _ (List.mem_of_getElem? (i := 700) (by decide +kernel))) rfl
theorem in_702 : (Cond.instanceMethod y_MO_beside) ∈ lw_ok := wok (List.mem_append_right _ (List.mem_of_getElem? (i := 702) (by decide +kernel))) rfl
set_option maxRecDepth 20000 in
theorem in_703 : (Cond.code y_MO_beside prog_7_method_9_code 5 (Option.some Jvm.ClassFile.FieldType.int)) ∈ lw_ok := wok (List.mem_append_right _ (List.mem_of_getElem? (i := 703) rfl)) rfl
theorem in_704 : (Cond.methodLink "LakeReliefModel" 108 y_MO_isWet) ∈ lw_ok := wok (List.mem_append_right _ (List.mem_of_getElem? (i := 704) (by decide +kernel))) rfl
theorem in_706 : (Cond.instanceMethod y_MO_isWet) ∈ lw_ok := wok (List.mem_append_right _ (List.mem_of_getElem? (i := 706) (by decide +kernel))) rfl
set_option maxRecDepth 20000 in
theorem in_707 : (Cond.code y_MO_isWet prog_7_method_10_code 2 (Option.some Jvm.ClassFile.FieldType.boolean)) ∈ lw_ok := wok (List.mem_append_right _ (List.mem_of_getElem? (i := 707) rfl)) rfl
theorem in_708 : (Cond.methodLink "LakeReliefModel" 111 y_MO_isLower) ∈ lw_ok := wok (List.mem_append_right _ (List.mem_of_getElem? (i := 708) (by decide +kernel))) rfl
theorem in_710 : (Cond.instanceMethod y_MO_isLower) ∈ lw_ok := wok (List.mem_append_right _ (List.mem_of_getElem? (i := 710) (by decide +kernel))) rfl
set_option maxRecDepth 20000 in
theorem in_711 : (Cond.code y_MO_isLower prog_7_method_11_code 3 (Option.some Jvm.ClassFile.FieldType.boolean)) ∈ lw_ok := wok (List.mem_append_right _ (List.mem_of_getElem? (i := 711) rfl)) rfl
theorem in_712 : (Cond.methodLink "LakeReliefModel" 163 y_MO_endOf) ∈ lw_ok := wok (List.mem_append_right _ (List.mem_of_getElem? (i := 712) (by decide +kernel))) rfl
theorem in_714 : (Cond.instanceMethod y_MO_endOf) ∈ lw_ok := wok (List.mem_append_right _ (List.mem_of_getElem? (i := 714) (by decide +kernel))) rfl
set_option maxRecDepth 20000 in
theorem in_715 : (Cond.code y_MO_endOf prog_7_method_13_code 3 (Option.some Jvm.ClassFile.FieldType.int)) ∈ lw_ok := wok (List.mem_append_right _ (List.mem_of_getElem? (i := 715) rfl)) rfl
theorem in_716 : (Cond.methodLink "LakeReliefModel" 167 y_MO_layFill) ∈ lw_ok := wok (List.mem_append_right _ (List.mem_of_getElem? (i := 716) (by decide +kernel))) rfl
theorem in_718 : (Cond.instanceMethod y_MO_layFill) ∈ lw_ok := wok (List.mem_append_right _ (List.mem_of_getElem? (i := 718) (by decide +kernel))) rfl
set_option maxRecDepth 20000 in
theorem in_719 : (Cond.code y_MO_layFill prog_7_method_14_code 7 (Option.none : Option Jvm.ClassFile.FieldType)) ∈ lw_ok := wok (List.mem_append_right _ (List.mem_of_getElem? (i := 719) rfl)) rfl
theorem in_720 : (Cond.constant "LakeReliefModel" 115 (3000000)) ∈ lw_ok := wok (List.mem_append_right _ (List.mem_of_getElem? (i := 720) (by decide +kernel))) rfl
theorem in_721 : (Cond.methodLink "LakeReliefModel" 170 y_MO_layLakes) ∈ lw_ok := wok (List.mem_append_right _ (List.mem_of_getElem? (i := 721) (by decide +kernel))) rfl
theorem in_723 : (Cond.instanceMethod y_MO_layLakes) ∈ lw_ok := wok (List.mem_append_right _ (List.mem_of_getElem? (i := 723) (by decide +kernel))) rfl
set_option maxRecDepth 20000 in
theorem in_724 : (Cond.code y_MO_layLakes prog_7_method_21_code 4 (Option.none : Option Jvm.ClassFile.FieldType)) ∈ lw_ok := wok (List.mem_append_right _ (List.mem_of_getElem? (i := 724) rfl)) rfl
theorem in_725 : (Cond.methodLink "LakeReliefModel" 140 y_MO_goUnder) ∈ lw_ok := wok (List.mem_append_right _ (List.mem_of_getElem? (i := 725) (by decide +kernel))) rfl
theorem in_727 : (Cond.instanceMethod y_MO_goUnder) ∈ lw_ok := wok (List.mem_append_right _ (List.mem_of_getElem? (i := 727) (by decide +kernel))) rfl
set_option maxRecDepth 20000 in
theorem in_728 : (Cond.code y_MO_goUnder prog_7_method_20_code 5 (Option.none : Option Jvm.ClassFile.FieldType)) ∈ lw_ok := wok (List.mem_append_right _ (List.mem_of_getElem? (i := 728) rfl)) rfl
theorem in_729 : (Cond.methodLink "LakeReliefModel" 130 y_MO_lookBeside) ∈ lw_ok := wok (List.mem_append_right _ (List.mem_of_getElem? (i := 729) (by decide +kernel))) rfl
theorem in_731 : (Cond.instanceMethod y_MO_lookBeside) ∈ lw_ok := wok (List.mem_append_right _ (List.mem_of_getElem? (i := 731) (by decide +kernel))) rfl
set_option maxRecDepth 20000 in
theorem in_732 : (Cond.code y_MO_lookBeside prog_7_method_18_code 7 (Option.some Jvm.ClassFile.FieldType.boolean)) ∈ lw_ok := wok (List.mem_append_right _ (List.mem_of_getElem? (i := 732) rfl)) rfl
theorem in_733 : (Cond.methodLink "LakeReliefModel" 126 y_MO_becomes) ∈ lw_ok := wok (List.mem_append_right _ (List.mem_of_getElem? (i := 733) (by decide +kernel))) rfl
theorem in_735 : (Cond.instanceMethod y_MO_becomes) ∈ lw_ok := wok (List.mem_append_right _ (List.mem_of_getElem? (i := 735) (by decide +kernel))) rfl
set_option maxRecDepth 20000 in
theorem in_736 : (Cond.code y_MO_becomes prog_7_method_17_code 4 (Option.none : Option Jvm.ClassFile.FieldType)) ∈ lw_ok := wok (List.mem_append_right _ (List.mem_of_getElem? (i := 736) rfl)) rfl
theorem in_737 : (Cond.methodLink "LakeReliefModel" 122 y_MO_newLake) ∈ lw_ok := wok (List.mem_append_right _ (List.mem_of_getElem? (i := 737) (by decide +kernel))) rfl
theorem in_739 : (Cond.instanceMethod y_MO_newLake) ∈ lw_ok := wok (List.mem_append_right _ (List.mem_of_getElem? (i := 739) (by decide +kernel))) rfl
set_option maxRecDepth 20000 in
theorem in_740 : (Cond.code y_MO_newLake prog_7_method_15_code 2 (Option.some Jvm.ClassFile.FieldType.int)) ∈ lw_ok := wok (List.mem_append_right _ (List.mem_of_getElem? (i := 740) rfl)) rfl
theorem in_741 : (Cond.methodLink "LakeReliefModel" 133 y_MO_joins) ∈ lw_ok := wok (List.mem_append_right _ (List.mem_of_getElem? (i := 741) (by decide +kernel))) rfl
theorem in_743 : (Cond.instanceMethod y_MO_joins) ∈ lw_ok := wok (List.mem_append_right _ (List.mem_of_getElem? (i := 743) (by decide +kernel))) rfl
set_option maxRecDepth 20000 in
theorem in_744 : (Cond.code y_MO_joins prog_7_method_16_code 3 (Option.none : Option Jvm.ClassFile.FieldType)) ∈ lw_ok := wok (List.mem_append_right _ (List.mem_of_getElem? (i := 744) rfl)) rfl
theorem in_745 : (Cond.methodLink "LakeReliefModel" 136 y_MO_twice) ∈ lw_ok := wok (List.mem_append_right _ (List.mem_of_getElem? (i := 745) (by decide +kernel))) rfl
theorem in_747 : (Cond.instanceMethod y_MO_twice) ∈ lw_ok := wok (List.mem_append_right _ (List.mem_of_getElem? (i := 747) (by decide +kernel))) rfl
set_option maxRecDepth 20000 in
theorem in_748 : (Cond.code y_MO_twice prog_7_method_19_code 5 (Option.some Jvm.ClassFile.FieldType.int)) ∈ lw_ok := wok (List.mem_append_right _ (List.mem_of_getElem? (i := 748) rfl)) rfl
theorem in_749 : (Cond.methodLink "LakeReliefLaw" 40 y_MO_field) ∈ lw_ok := wok (List.mem_append_right _ (List.mem_of_getElem? (i := 749) (by decide +kernel))) rfl
theorem in_750 : (Cond.instanceMethod y_MO_field) ∈ lw_ok := wok (List.mem_append_right _ (List.mem_of_getElem? (i := 750) (by decide +kernel))) rfl
theorem in_751 : (Cond.selects "LakeReliefModel" y_MO_field y_MO_field) ∈ lw_ok := wok (List.mem_append_right _ (List.mem_of_getElem? (i := 751) (by decide +kernel))) rfl
set_option maxRecDepth 20000 in
theorem in_752 : (Cond.code y_MO_field prog_7_method_28_code 3 (Option.some Jvm.ClassFile.FieldType.int)) ∈ lw_ok := wok (List.mem_append_right _ (List.mem_of_getElem? (i := 752) rfl)) rfl
theorem in_753 : (Cond.constant "LakeReliefModel" 183 (-2000002)) ∈ lw_ok := wok (List.mem_append_right _ (List.mem_of_getElem? (i := 753) (by decide +kernel))) rfl
theorem in_754 : (Cond.methodLink "LakeReliefModel" 184 y_MO_isField) ∈ lw_ok := wok (List.mem_append_right _ (List.mem_of_getElem? (i := 754) (by decide +kernel))) rfl
theorem in_756 : (Cond.instanceMethod y_MO_isField) ∈ lw_ok := wok (List.mem_append_right _ (List.mem_of_getElem? (i := 756) (by decide +kernel))) rfl
set_option maxRecDepth 20000 in
theorem in_757 : (Cond.code y_MO_isField prog_7_method_25_code 2 (Option.some Jvm.ClassFile.FieldType.boolean)) ∈ lw_ok := wok (List.mem_append_right _ (List.mem_of_getElem? (i := 757) rfl)) rfl
theorem in_758 : (Cond.constantLong "LakeReliefModel" 187 (5)) ∈ lw_ok := wok (List.mem_append_right _ (List.mem_of_getElem? (i := 758) (by decide +kernel))) rfl
theorem in_759 : (Cond.constant "LakeReliefModel" 189 (-2000001)) ∈ lw_ok := wok (List.mem_append_right _ (List.mem_of_getElem? (i := 759) (by decide +kernel))) rfl
theorem in_760 : (Cond.methodLink "LakeReliefModel" 190 y_MO_lakeAt) ∈ lw_ok := wok (List.mem_append_right _ (List.mem_of_getElem? (i := 760) (by decide +kernel))) rfl
theorem in_762 : (Cond.instanceMethod y_MO_lakeAt) ∈ lw_ok := wok (List.mem_append_right _ (List.mem_of_getElem? (i := 762) (by decide +kernel))) rfl
set_option maxRecDepth 20000 in
theorem in_763 : (Cond.code y_MO_lakeAt prog_7_method_27_code 4 (Option.some Jvm.ClassFile.FieldType.int)) ∈ lw_ok := wok (List.mem_append_right _ (List.mem_of_getElem? (i := 763) rfl)) rfl
theorem in_764 : (Cond.methodLink "LakeReliefModel" 180 y_MO_isOf) ∈ lw_ok := wok (List.mem_append_right _ (List.mem_of_getElem? (i := 764) (by decide +kernel))) rfl
theorem in_766 : (Cond.instanceMethod y_MO_isOf) ∈ lw_ok := wok (List.mem_append_right _ (List.mem_of_getElem? (i := 766) (by decide +kernel))) rfl
set_option maxRecDepth 20000 in
theorem in_767 : (Cond.code y_MO_isOf prog_7_method_26_code 3 (Option.some Jvm.ClassFile.FieldType.boolean)) ∈ lw_ok := wok (List.mem_append_right _ (List.mem_of_getElem? (i := 767) rfl)) rfl
theorem in_768 : (Cond.methodLink "LakeReliefLaw" 45 y_MO_hollow) ∈ lw_ok := wok (List.mem_append_right _ (List.mem_of_getElem? (i := 768) (by decide +kernel))) rfl
theorem in_769 : (Cond.instanceMethod y_MO_hollow) ∈ lw_ok := wok (List.mem_append_right _ (List.mem_of_getElem? (i := 769) (by decide +kernel))) rfl
theorem in_770 : (Cond.selects "LakeReliefModel" y_MO_hollow y_MO_hollow) ∈ lw_ok := wok (List.mem_append_right _ (List.mem_of_getElem? (i := 770) (by decide +kernel))) rfl
set_option maxRecDepth 20000 in
theorem in_771 : (Cond.code y_MO_hollow prog_7_method_29_code 4 (Option.some Jvm.ClassFile.FieldType.int)) ∈ lw_ok := wok (List.mem_append_right _ (List.mem_of_getElem? (i := 771) rfl)) rfl
theorem in_772 : (Cond.methodLink "LakeReliefLaw" 49 y_MO_lake) ∈ lw_ok := wok (List.mem_append_right _ (List.mem_of_getElem? (i := 772) (by decide +kernel))) rfl
theorem in_773 : (Cond.instanceMethod y_MO_lake) ∈ lw_ok := wok (List.mem_append_right _ (List.mem_of_getElem? (i := 773) (by decide +kernel))) rfl
theorem in_774 : (Cond.selects "LakeReliefModel" y_MO_lake y_MO_lake) ∈ lw_ok := wok (List.mem_append_right _ (List.mem_of_getElem? (i := 774) (by decide +kernel))) rfl
set_option maxRecDepth 20000 in
theorem in_775 : (Cond.code y_MO_lake prog_7_method_35_code 3 (Option.some Jvm.ClassFile.FieldType.int)) ∈ lw_ok := wok (List.mem_append_right _ (List.mem_of_getElem? (i := 775) rfl)) rfl
theorem in_776 : (Cond.methodLink "LakeReliefModel" 196 y_MO_isLake) ∈ lw_ok := wok (List.mem_append_right _ (List.mem_of_getElem? (i := 776) (by decide +kernel))) rfl
theorem in_778 : (Cond.instanceMethod y_MO_isLake) ∈ lw_ok := wok (List.mem_append_right _ (List.mem_of_getElem? (i := 778) (by decide +kernel))) rfl
set_option maxRecDepth 20000 in
theorem in_779 : (Cond.code y_MO_isLake prog_7_method_30_code 2 (Option.some Jvm.ClassFile.FieldType.boolean)) ∈ lw_ok := wok (List.mem_append_right _ (List.mem_of_getElem? (i := 779) rfl)) rfl
theorem in_780 : (Cond.constantLong "LakeReliefModel" 199 (9)) ∈ lw_ok := wok (List.mem_append_right _ (List.mem_of_getElem? (i := 780) (by decide +kernel))) rfl
theorem in_781 : (Cond.methodLink "LakeReliefModel" 201 y_MO_lowest) ∈ lw_ok := wok (List.mem_append_right _ (List.mem_of_getElem? (i := 781) (by decide +kernel))) rfl
theorem in_783 : (Cond.instanceMethod y_MO_lowest) ∈ lw_ok := wok (List.mem_append_right _ (List.mem_of_getElem? (i := 783) (by decide +kernel))) rfl
set_option maxRecDepth 20000 in
theorem in_784 : (Cond.code y_MO_lowest prog_7_method_33_code 4 (Option.some Jvm.ClassFile.FieldType.int)) ∈ lw_ok := wok (List.mem_append_right _ (List.mem_of_getElem? (i := 784) rfl)) rfl
theorem in_785 : (Cond.methodLink "LakeReliefModel" 204 y_MO_groundSize) ∈ lw_ok := wok (List.mem_append_right _ (List.mem_of_getElem? (i := 785) (by decide +kernel))) rfl
theorem in_787 : (Cond.instanceMethod y_MO_groundSize) ∈ lw_ok := wok (List.mem_append_right _ (List.mem_of_getElem? (i := 787) (by decide +kernel))) rfl
set_option maxRecDepth 20000 in
theorem in_788 : (Cond.code y_MO_groundSize prog_7_method_34_code 4 (Option.some Jvm.ClassFile.FieldType.int)) ∈ lw_ok := wok (List.mem_append_right _ (List.mem_of_getElem? (i := 788) rfl)) rfl
theorem in_789 : (Cond.methodLink "LakeReliefModel" 207 y_MO_most) ∈ lw_ok := wok (List.mem_append_right _ (List.mem_of_getElem? (i := 789) (by decide +kernel))) rfl
theorem in_791 : (Cond.instanceMethod y_MO_most) ∈ lw_ok := wok (List.mem_append_right _ (List.mem_of_getElem? (i := 791) (by decide +kernel))) rfl
set_option maxRecDepth 20000 in
theorem in_792 : (Cond.code y_MO_most prog_7_method_32_code 2 (Option.some Jvm.ClassFile.FieldType.int)) ∈ lw_ok := wok (List.mem_append_right _ (List.mem_of_getElem? (i := 792) rfl)) rfl
theorem in_793 : (Cond.methodLink "LakeReliefModel" 193 y_MO_holdsTo) ∈ lw_ok := wok (List.mem_append_right _ (List.mem_of_getElem? (i := 793) (by decide +kernel))) rfl
theorem in_795 : (Cond.instanceMethod y_MO_holdsTo) ∈ lw_ok := wok (List.mem_append_right _ (List.mem_of_getElem? (i := 795) (by decide +kernel))) rfl
set_option maxRecDepth 20000 in
theorem in_796 : (Cond.code y_MO_holdsTo prog_7_method_31_code 5 (Option.some Jvm.ClassFile.FieldType.int)) ∈ lw_ok := wok (List.mem_append_right _ (List.mem_of_getElem? (i := 796) rfl)) rfl
theorem in_797 : (Cond.methodLink "LakeReliefLaw" 53 y_MO_ground) ∈ lw_ok := wok (List.mem_append_right _ (List.mem_of_getElem? (i := 797) (by decide +kernel))) rfl
theorem in_798 : (Cond.instanceMethod y_MO_ground) ∈ lw_ok := wok (List.mem_append_right _ (List.mem_of_getElem? (i := 798) (by decide +kernel))) rfl
theorem in_799 : (Cond.selects "LakeReliefModel" y_MO_ground y_MO_ground) ∈ lw_ok := wok (List.mem_append_right _ (List.mem_of_getElem? (i := 799) (by decide +kernel))) rfl
set_option maxRecDepth 20000 in
theorem in_800 : (Cond.code y_MO_ground prog_7_method_36_code 3 (Option.some Jvm.ClassFile.FieldType.int)) ∈ lw_ok := wok (List.mem_append_right _ (List.mem_of_getElem? (i := 800) rfl)) rfl
theorem in_801 : (Cond.methodLink "LakeReliefLaw" 57 y_MO_holds) ∈ lw_ok := wok (List.mem_append_right _ (List.mem_of_getElem? (i := 801) (by decide +kernel))) rfl
theorem in_802 : (Cond.instanceMethod y_MO_holds) ∈ lw_ok := wok (List.mem_append_right _ (List.mem_of_getElem? (i := 802) (by decide +kernel))) rfl
theorem in_803 : (Cond.selects "LakeReliefModel" y_MO_holds y_MO_holds) ∈ lw_ok := wok (List.mem_append_right _ (List.mem_of_getElem? (i := 803) (by decide +kernel))) rfl
set_option maxRecDepth 20000 in
theorem in_804 : (Cond.code y_MO_holds prog_7_method_38_code 4 (Option.some Jvm.ClassFile.FieldType.int)) ∈ lw_ok := wok (List.mem_append_right _ (List.mem_of_getElem? (i := 804) rfl)) rfl
theorem in_805 : (Cond.methodLink "LakeReliefModel" 211 y_MO_against0) ∈ lw_ok := wok (List.mem_append_right _ (List.mem_of_getElem? (i := 805) (by decide +kernel))) rfl
theorem in_807 : (Cond.instanceMethod y_MO_against0) ∈ lw_ok := wok (List.mem_append_right _ (List.mem_of_getElem? (i := 807) (by decide +kernel))) rfl
set_option maxRecDepth 20000 in
theorem in_808 : (Cond.code y_MO_against0 prog_7_method_37_code 3 (Option.some Jvm.ClassFile.FieldType.int)) ∈ lw_ok := wok (List.mem_append_right _ (List.mem_of_getElem? (i := 808) rfl)) rfl
theorem in_809 : (Cond.constant "LakeReliefModel" 210 (-1000000)) ∈ lw_ok := wok (List.mem_append_right _ (List.mem_of_getElem? (i := 809) (by decide +kernel))) rfl
theorem in_810 : (Cond.methodLink "LakeReliefLaw" 61 y_MO_area) ∈ lw_ok := wok (List.mem_append_right _ (List.mem_of_getElem? (i := 810) (by decide +kernel))) rfl
theorem in_811 : (Cond.instanceMethod y_MO_area) ∈ lw_ok := wok (List.mem_append_right _ (List.mem_of_getElem? (i := 811) (by decide +kernel))) rfl
theorem in_812 : (Cond.selects "LakeReliefModel" y_MO_area y_MO_area) ∈ lw_ok := wok (List.mem_append_right _ (List.mem_of_getElem? (i := 812) (by decide +kernel))) rfl
set_option maxRecDepth 20000 in
theorem in_813 : (Cond.code y_MO_area prog_7_method_39_code 6 (Option.some Jvm.ClassFile.FieldType.int)) ∈ lw_ok := wok (List.mem_append_right _ (List.mem_of_getElem? (i := 813) rfl)) rfl
theorem in_814 : (Cond.methodLink "LakeReliefLaw" 65 y_MO_pour) ∈ lw_ok := wok (List.mem_append_right _ (List.mem_of_getElem? (i := 814) (by decide +kernel))) rfl
theorem in_815 : (Cond.instanceMethod y_MO_pour) ∈ lw_ok := wok (List.mem_append_right _ (List.mem_of_getElem? (i := 815) (by decide +kernel))) rfl
theorem in_816 : (Cond.selects "LakeReliefModel" y_MO_pour y_MO_pour) ∈ lw_ok := wok (List.mem_append_right _ (List.mem_of_getElem? (i := 816) (by decide +kernel))) rfl
set_option maxRecDepth 20000 in
theorem in_817 : (Cond.code y_MO_pour prog_7_method_41_code 11 (Option.some Jvm.ClassFile.FieldType.int)) ∈ lw_ok := wok (List.mem_append_right _ (List.mem_of_getElem? (i := 817) rfl)) rfl
theorem in_818 : (Cond.methodLink "LakeReliefModel" 214 y_MO_over) ∈ lw_ok := wok (List.mem_append_right _ (List.mem_of_getElem? (i := 818) (by decide +kernel))) rfl
theorem in_820 : (Cond.instanceMethod y_MO_over) ∈ lw_ok := wok (List.mem_append_right _ (List.mem_of_getElem? (i := 820) (by decide +kernel))) rfl
set_option maxRecDepth 20000 in
theorem in_821 : (Cond.code y_MO_over prog_7_method_40_code 6 (Option.some Jvm.ClassFile.FieldType.int)) ∈ lw_ok := wok (List.mem_append_right _ (List.mem_of_getElem? (i := 821) rfl)) rfl
theorem in_822 : (Cond.methodLink "LakeReliefLaw" 69 y_MO_level) ∈ lw_ok := wok (List.mem_append_right _ (List.mem_of_getElem? (i := 822) (by decide +kernel))) rfl
theorem in_823 : (Cond.instanceMethod y_MO_level) ∈ lw_ok := wok (List.mem_append_right _ (List.mem_of_getElem? (i := 823) (by decide +kernel))) rfl
theorem in_824 : (Cond.selects "LakeReliefModel" y_MO_level y_MO_level) ∈ lw_ok := wok (List.mem_append_right _ (List.mem_of_getElem? (i := 824) (by decide +kernel))) rfl
set_option maxRecDepth 20000 in
theorem in_825 : (Cond.code y_MO_level prog_7_method_44_code 7 (Option.some Jvm.ClassFile.FieldType.int)) ∈ lw_ok := wok (List.mem_append_right _ (List.mem_of_getElem? (i := 825) rfl)) rfl
theorem in_826 : (Cond.methodLink "LakeReliefModel" 217 y_MO_layHeights) ∈ lw_ok := wok (List.mem_append_right _ (List.mem_of_getElem? (i := 826) (by decide +kernel))) rfl
theorem in_828 : (Cond.instanceMethod y_MO_layHeights) ∈ lw_ok := wok (List.mem_append_right _ (List.mem_of_getElem? (i := 828) (by decide +kernel))) rfl
set_option maxRecDepth 20000 in
theorem in_829 : (Cond.code y_MO_layHeights prog_7_method_43_code 5 (Option.some Jvm.ClassFile.FieldType.int)) ∈ lw_ok := wok (List.mem_append_right _ (List.mem_of_getElem? (i := 829) rfl)) rfl
theorem in_830 : (Cond.methodLink "LakeReliefModel" 220 y_MO_common) ∈ lw_ok := wok (List.mem_append_right _ (List.mem_of_getElem? (i := 830) (by decide +kernel))) rfl
theorem in_831 : (Cond.static y_MO_common) ∈ lw_ok := wok (List.mem_append_right _ (List.mem_of_getElem? (i := 831) (by decide +kernel))) rfl
set_option maxRecDepth 20000 in
theorem in_832 : (Cond.code y_MO_common prog_7_method_42_code 5 (Option.some Jvm.ClassFile.FieldType.int)) ∈ lw_ok := wok (List.mem_append_right _ (List.mem_of_getElem? (i := 832) rfl)) rfl
theorem in_833 : (Cond.methodLink "LakeReliefLaw" 73 y_MO_rise) ∈ lw_ok := wok (List.mem_append_right _ (List.mem_of_getElem? (i := 833) (by decide +kernel))) rfl
theorem in_834 : (Cond.instanceMethod y_MO_rise) ∈ lw_ok := wok (List.mem_append_right _ (List.mem_of_getElem? (i := 834) (by decide +kernel))) rfl
theorem in_835 : (Cond.selects "LakeReliefModel" y_MO_rise y_MO_rise) ∈ lw_ok := wok (List.mem_append_right _ (List.mem_of_getElem? (i := 835) (by decide +kernel))) rfl
set_option maxRecDepth 20000 in
theorem in_836 : (Cond.code y_MO_rise prog_7_method_45_code 4 (Option.some Jvm.ClassFile.FieldType.int)) ∈ lw_ok := wok (List.mem_append_right _ (List.mem_of_getElem? (i := 836) rfl)) rfl
theorem in_837 : (Cond.constantLong "LakeReliefModel" 223 (1000001)) ∈ lw_ok := wok (List.mem_append_right _ (List.mem_of_getElem? (i := 837) (by decide +kernel))) rfl
theorem in_838 : (Cond.methodLink "LakeReliefLaw" 77 y_MO_islands) ∈ lw_ok := wok (List.mem_append_right _ (List.mem_of_getElem? (i := 838) (by decide +kernel))) rfl
theorem in_839 : (Cond.instanceMethod y_MO_islands) ∈ lw_ok := wok (List.mem_append_right _ (List.mem_of_getElem? (i := 839) (by decide +kernel))) rfl
theorem in_840 : (Cond.selects "LakeReliefModel" y_MO_islands y_MO_islands) ∈ lw_ok := wok (List.mem_append_right _ (List.mem_of_getElem? (i := 840) (by decide +kernel))) rfl
set_option maxRecDepth 20000 in
theorem in_841 : (Cond.code y_MO_islands prog_7_method_46_code 6 (Option.some Jvm.ClassFile.FieldType.int)) ∈ lw_ok := wok (List.mem_append_right _ (List.mem_of_getElem? (i := 841) rfl)) rfl
theorem in_842 : (Cond.methodLink "LakeReliefLaw" 82 y_MO_count) ∈ lw_ok := wok (List.mem_append_right _ (List.mem_of_getElem? (i := 842) (by decide +kernel))) rfl
theorem in_843 : (Cond.instanceMethod y_MO_count) ∈ lw_ok := wok (List.mem_append_right _ (List.mem_of_getElem? (i := 843) (by decide +kernel))) rfl
theorem in_844 : (Cond.selects "LakeReliefModel" y_MO_count y_MO_count) ∈ lw_ok := wok (List.mem_append_right _ (List.mem_of_getElem? (i := 844) (by decide +kernel))) rfl
set_option maxRecDepth 20000 in
theorem in_845 : (Cond.code y_MO_count prog_7_method_47_code 5 (Option.some Jvm.ClassFile.FieldType.long)) ∈ lw_ok := wok (List.mem_append_right _ (List.mem_of_getElem? (i := 845) rfl)) rfl
theorem in_846 : (Cond.constantLong "LakeReliefModel" 225 (-2)) ∈ lw_ok := wok (List.mem_append_right _ (List.mem_of_getElem? (i := 846) (by decide +kernel))) rfl
theorem sp_0 : (Cond.selects "LakeRelief" y_LR_refusalOfPlace y_LR_refusalOfPlace) ∈ lw_ok := wok (List.mem_append_left _ (List.mem_of_getElem? (i := 0) (by decide +kernel))) rfl
theorem sp_1 : (Cond.selects "LakeRelief" y_LR_canBeLaid y_LR_canBeLaid) ∈ lw_ok := wok (List.mem_append_left _ (List.mem_of_getElem? (i := 1) (by decide +kernel))) rfl
theorem sp_2 : (Cond.selects "LakeRelief" y_LR_layLine y_LR_layLine) ∈ lw_ok := wok (List.mem_append_left _ (List.mem_of_getElem? (i := 2) (by decide +kernel))) rfl
theorem sp_3 : (Cond.selects "LakeRelief$Relief" y_RE_findNeighbours y_RE_findNeighbours) ∈ lw_ok := wok (List.mem_append_left _ (List.mem_of_getElem? (i := 3) (by decide +kernel))) rfl
theorem sp_4 : (Cond.selects "LakeRelief$Relief" y_RE_landOrSea y_RE_landOrSea) ∈ lw_ok := wok (List.mem_append_left _ (List.mem_of_getElem? (i := 4) (by decide +kernel))) rfl
theorem sp_5 : (Cond.selects "LakeRelief$Relief" y_RE_sortLand y_RE_sortLand) ∈ lw_ok := wok (List.mem_append_left _ (List.mem_of_getElem? (i := 5) (by decide +kernel))) rfl
theorem sp_6 : (Cond.selects "LakeRelief$Relief" y_RE_insertByHeight y_RE_insertByHeight) ∈ lw_ok := wok (List.mem_append_left _ (List.mem_of_getElem? (i := 6) (by decide +kernel))) rfl
theorem sp_7 : (Cond.selects "LakeRelief$Relief" y_RE_isLower y_RE_isLower) ∈ lw_ok := wok (List.mem_append_left _ (List.mem_of_getElem? (i := 7) (by decide +kernel))) rfl
theorem sp_8 : (Cond.selects "LakeRelief$Relief" y_RE_findWays y_RE_findWays) ∈ lw_ok := wok (List.mem_append_left _ (List.mem_of_getElem? (i := 8) (by decide +kernel))) rfl
theorem sp_9 : (Cond.selects "LakeRelief$Relief" y_RE_downOf y_RE_downOf) ∈ lw_ok := wok (List.mem_append_left _ (List.mem_of_getElem? (i := 9) (by decide +kernel))) rfl
theorem sp_10 : (Cond.selects "LakeRelief$Relief" y_RE_findFills y_RE_findFills) ∈ lw_ok := wok (List.mem_append_left _ (List.mem_of_getElem? (i := 10) (by decide +kernel))) rfl
theorem sp_11 : (Cond.selects "LakeRelief$Relief" y_RE_lowerFills y_RE_lowerFills) ∈ lw_ok := wok (List.mem_append_left _ (List.mem_of_getElem? (i := 11) (by decide +kernel))) rfl
theorem sp_12 : (Cond.selects "LakeRelief$Relief" y_RE_leastFillBeside y_RE_leastFillBeside) ∈ lw_ok := wok (List.mem_append_left _ (List.mem_of_getElem? (i := 12) (by decide +kernel))) rfl
theorem sp_13 : (Cond.selects "LakeRelief$Lakes" y_LK_goUnder y_LK_goUnder) ∈ lw_ok := wok (List.mem_append_left _ (List.mem_of_getElem? (i := 13) (by decide +kernel))) rfl
theorem sp_14 : (Cond.selects "LakeRelief$Lakes" y_LK_topsBeside y_LK_topsBeside) ∈ lw_ok := wok (List.mem_append_left _ (List.mem_of_getElem? (i := 14) (by decide +kernel))) rfl
theorem sp_15 : (Cond.selects "LakeRelief$Lakes" y_LK_topWith y_LK_topWith) ∈ lw_ok := wok (List.mem_append_left _ (List.mem_of_getElem? (i := 15) (by decide +kernel))) rfl
theorem sp_16 : (Cond.selects "LakeRelief$Lakes" y_LK_isBesideSeas y_LK_isBesideSeas) ∈ lw_ok := wok (List.mem_append_left _ (List.mem_of_getElem? (i := 16) (by decide +kernel))) rfl
theorem sp_17 : (Cond.selects "LakeRelief$Lakes" y_LK_spillToSea y_LK_spillToSea) ∈ lw_ok := wok (List.mem_append_left _ (List.mem_of_getElem? (i := 17) (by decide +kernel))) rfl
theorem sp_18 : (Cond.selects "LakeRelief$Lakes" y_LK_make y_LK_make) ∈ lw_ok := wok (List.mem_append_left _ (List.mem_of_getElem? (i := 18) (by decide +kernel))) rfl
theorem sp_19 : (Cond.selects "LakeRelief$Lakes" y_LK_joinAt y_LK_joinAt) ∈ lw_ok := wok (List.mem_append_left _ (List.mem_of_getElem? (i := 19) (by decide +kernel))) rfl
theorem sp_20 : (Cond.selects "LakeRelief$Lakes" y_LK_makeDouble y_LK_makeDouble) ∈ lw_ok := wok (List.mem_append_left _ (List.mem_of_getElem? (i := 20) (by decide +kernel))) rfl
theorem sp_21 : (Cond.selects "LakeRelief$Lakes" y_LK_measure y_LK_measure) ∈ lw_ok := wok (List.mem_append_left _ (List.mem_of_getElem? (i := 21) (by decide +kernel))) rfl
theorem sp_22 : (Cond.selects "LakeRelief$Relief" y_RE_isHollow y_RE_isHollow) ∈ lw_ok := wok (List.mem_append_left _ (List.mem_of_getElem? (i := 22) (by decide +kernel))) rfl
theorem sp_23 : (Cond.selects "LakeRelief$Lakes" y_LK_lakeBelow y_LK_lakeBelow) ∈ lw_ok := wok (List.mem_append_left _ (List.mem_of_getElem? (i := 23) (by decide +kernel))) rfl
theorem sp_24 : (Cond.selects "LakeRelief$Lakes" y_LK_runDown y_LK_runDown) ∈ lw_ok := wok (List.mem_append_left _ (List.mem_of_getElem? (i := 24) (by decide +kernel))) rfl
theorem sp_25 : (Cond.selects "LakeRelief$Lakes" y_LK_fillUp y_LK_fillUp) ∈ lw_ok := wok (List.mem_append_left _ (List.mem_of_getElem? (i := 25) (by decide +kernel))) rfl
theorem sp_26 : (Cond.selects "LakeRelief$Lakes" y_LK_next y_LK_next) ∈ lw_ok := wok (List.mem_append_left _ (List.mem_of_getElem? (i := 26) (by decide +kernel))) rfl
theorem sp_27 : (Cond.selects "LakeRelief$Lakes" y_LK_join y_LK_join) ∈ lw_ok := wok (List.mem_append_left _ (List.mem_of_getElem? (i := 27) (by decide +kernel))) rfl
theorem sp_28 : (Cond.selects "LakeRelief$Relief" y_RE_withoutPieceAt y_RE_withoutPieceAt) ∈ lw_ok := wok (List.mem_append_left _ (List.mem_of_getElem? (i := 28) (by decide +kernel))) rfl
theorem sp_29 : (Cond.selects "LakeReliefModel" y_MO_against y_MO_against) ∈ lw_ok := wok (List.mem_append_left _ (List.mem_of_getElem? (i := 29) (by decide +kernel))) rfl
theorem sp_30 : (Cond.selects "LakeReliefModel" y_MO_isPlace y_MO_isPlace) ∈ lw_ok := wok (List.mem_append_left _ (List.mem_of_getElem? (i := 30) (by decide +kernel))) rfl
theorem sp_31 : (Cond.selects "LakeReliefModel" y_MO_stripAt y_MO_stripAt) ∈ lw_ok := wok (List.mem_append_left _ (List.mem_of_getElem? (i := 31) (by decide +kernel))) rfl
theorem sp_32 : (Cond.selects "LakeReliefModel" y_MO_layDown y_MO_layDown) ∈ lw_ok := wok (List.mem_append_left _ (List.mem_of_getElem? (i := 32) (by decide +kernel))) rfl
theorem sp_33 : (Cond.selects "LakeReliefModel" y_MO_beside y_MO_beside) ∈ lw_ok := wok (List.mem_append_left _ (List.mem_of_getElem? (i := 33) (by decide +kernel))) rfl
theorem sp_34 : (Cond.selects "LakeReliefModel" y_MO_isWet y_MO_isWet) ∈ lw_ok := wok (List.mem_append_left _ (List.mem_of_getElem? (i := 34) (by decide +kernel))) rfl
theorem sp_35 : (Cond.selects "LakeReliefModel" y_MO_isLower y_MO_isLower) ∈ lw_ok := wok (List.mem_append_left _ (List.mem_of_getElem? (i := 35) (by decide +kernel))) rfl
theorem sp_36 : (Cond.selects "LakeReliefModel" y_MO_endOf y_MO_endOf) ∈ lw_ok := wok (List.mem_append_left _ (List.mem_of_getElem? (i := 36) (by decide +kernel))) rfl
theorem sp_37 : (Cond.selects "LakeReliefModel" y_MO_layFill y_MO_layFill) ∈ lw_ok := wok (List.mem_append_left _ (List.mem_of_getElem? (i := 37) (by decide +kernel))) rfl
theorem sp_38 : (Cond.selects "LakeReliefModel" y_MO_layLakes y_MO_layLakes) ∈ lw_ok := wok (List.mem_append_left _ (List.mem_of_getElem? (i := 38) (by decide +kernel))) rfl
theorem sp_39 : (Cond.selects "LakeReliefModel" y_MO_goUnder y_MO_goUnder) ∈ lw_ok := wok (List.mem_append_left _ (List.mem_of_getElem? (i := 39) (by decide +kernel))) rfl
theorem sp_40 : (Cond.selects "LakeReliefModel" y_MO_lookBeside y_MO_lookBeside) ∈ lw_ok := wok (List.mem_append_left _ (List.mem_of_getElem? (i := 40) (by decide +kernel))) rfl
theorem sp_41 : (Cond.selects "LakeReliefModel" y_MO_becomes y_MO_becomes) ∈ lw_ok := wok (List.mem_append_left _ (List.mem_of_getElem? (i := 41) (by decide +kernel))) rfl
theorem sp_42 : (Cond.selects "LakeReliefModel" y_MO_newLake y_MO_newLake) ∈ lw_ok := wok (List.mem_append_left _ (List.mem_of_getElem? (i := 42) (by decide +kernel))) rfl
theorem sp_43 : (Cond.selects "LakeReliefModel" y_MO_joins y_MO_joins) ∈ lw_ok := wok (List.mem_append_left _ (List.mem_of_getElem? (i := 43) (by decide +kernel))) rfl
theorem sp_44 : (Cond.selects "LakeReliefModel" y_MO_twice y_MO_twice) ∈ lw_ok := wok (List.mem_append_left _ (List.mem_of_getElem? (i := 44) (by decide +kernel))) rfl
theorem sp_45 : (Cond.selects "LakeReliefModel" y_MO_isField y_MO_isField) ∈ lw_ok := wok (List.mem_append_left _ (List.mem_of_getElem? (i := 45) (by decide +kernel))) rfl
theorem sp_46 : (Cond.selects "LakeReliefModel" y_MO_lakeAt y_MO_lakeAt) ∈ lw_ok := wok (List.mem_append_left _ (List.mem_of_getElem? (i := 46) (by decide +kernel))) rfl
theorem sp_47 : (Cond.selects "LakeReliefModel" y_MO_isOf y_MO_isOf) ∈ lw_ok := wok (List.mem_append_left _ (List.mem_of_getElem? (i := 47) (by decide +kernel))) rfl
theorem sp_48 : (Cond.selects "LakeReliefModel" y_MO_isLake y_MO_isLake) ∈ lw_ok := wok (List.mem_append_left _ (List.mem_of_getElem? (i := 48) (by decide +kernel))) rfl
theorem sp_49 : (Cond.selects "LakeReliefModel" y_MO_lowest y_MO_lowest) ∈ lw_ok := wok (List.mem_append_left _ (List.mem_of_getElem? (i := 49) (by decide +kernel))) rfl
theorem sp_50 : (Cond.selects "LakeReliefModel" y_MO_groundSize y_MO_groundSize) ∈ lw_ok := wok (List.mem_append_left _ (List.mem_of_getElem? (i := 50) (by decide +kernel))) rfl
theorem sp_51 : (Cond.selects "LakeReliefModel" y_MO_most y_MO_most) ∈ lw_ok := wok (List.mem_append_left _ (List.mem_of_getElem? (i := 51) (by decide +kernel))) rfl
theorem sp_52 : (Cond.selects "LakeReliefModel" y_MO_holdsTo y_MO_holdsTo) ∈ lw_ok := wok (List.mem_append_left _ (List.mem_of_getElem? (i := 52) (by decide +kernel))) rfl
theorem sp_53 : (Cond.selects "LakeReliefModel" y_MO_against0 y_MO_against0) ∈ lw_ok := wok (List.mem_append_left _ (List.mem_of_getElem? (i := 53) (by decide +kernel))) rfl
theorem sp_54 : (Cond.selects "LakeReliefModel" y_MO_over y_MO_over) ∈ lw_ok := wok (List.mem_append_left _ (List.mem_of_getElem? (i := 54) (by decide +kernel))) rfl
theorem sp_55 : (Cond.selects "LakeReliefModel" y_MO_layHeights y_MO_layHeights) ∈ lw_ok := wok (List.mem_append_left _ (List.mem_of_getElem? (i := 55) (by decide +kernel))) rfl
end
section
abbrev Mem : Type := (Nat → Nat → Int32) × (Nat → Nat → Int64)
def sI (μ : Mem) (q k : Nat) (x : Int32) : Mem := (fun a => if a = q then upd (μ.1 q) k x else μ.1 a, μ.2)
def sJ (μ : Mem) (q k : Nat) (x : Int64) : Mem := (μ.1, fun a => if a = q then vp_updL (μ.2 q) k x else μ.2 a)
def sR (μ : Mem) (q : Nat) (h : Nat → Int32) : Mem := (fun a => if a = q then h else μ.1 a, μ.2)
/-- the cells of the class, by number -/
def shC (adr : Nat → Nat) (cA : Nat → ClassId) (q : Nat) (f : Nat → Int32) (g : Nat → Int64) : va_E :=
  if q = 0 then .inr (4, [.ref (adr 1), .ref (adr 18), .ref (adr 26), .int (f 3)])
  else if q = 1 then .inl (cA 3, 8, .inr (.inr (.inr (.inr (fun j => some (adr (2 + j)))))))
  else if q < 10 then .inr (3, [.ref (adr (q + 8)), .int (f 1), .int (f 2)])
  else if q < 18 then .inl (cA 0, 12, .inl f)
  else if q = 18 then .inr (2, [.ref (adr 19), .ref (adr 20), .ref (adr 21), .ref (adr 22), .ref (adr 23), .ref (adr 24), .ref (adr 25), .int (f 7), .int (f 8), .int (f 9), .long (g 10)])
  else if q = 24 then .inl (cA 0, 256, .inl f)
  else if q < 26 then .inl (cA 0, 64, .inl f)
  else if q = 26 then .inr (1, [.ref (adr 27), .int (f 1), .long (g 2), .long (g 3), .ref (adr 18), .long (g 5)])
  else if q = 27 then .inl (cA 4, 35, .inr (.inr (.inr (.inr (fun j => some (adr (28 + j)))))))
  else .inr (0, [.long (g 0), .int (f 1), .int (f 2), .int (f 3), .int (f 4), .int (f 5), .int (f 6), .int (f 7)])
/-- the cells of the reference, by number -/
def shM (adr : Nat → Nat) (cA : Nat → ClassId) (q : Nat) (f : Nat → Int32) (g : Nat → Int64) : va_E :=
  if q = 63 then .inr (5, [.ref (adr 64), .ref (adr 65), .ref (adr 66), .int (f 3), .int (f 4), .int (f 5), .ref (adr 67), .ref (adr 68), .ref (adr 69), .ref (adr 70), .ref (adr 71), .int (f 11), .ref (adr 72), .ref (adr 73), .ref (adr 74), .ref (adr 75), .ref (adr 76), .ref (adr 77), .ref (adr 78), .ref (adr 79), .long (g 20), .long (g 21), .ref (adr 80), .ref (adr 81), .ref (adr 82), .ref (adr 83), .int (f 26), .ref (adr 84), .ref (adr 85)])
  else if q = 64 then .inl (cA 0, 8, .inl f)
  else if q = 65 then .inl (cA 0, 8, .inl f)
  else if q = 66 then .inl (cA 0, 96, .inl f)
  else if q = 67 then .inl (cA 1, 64, .inl f)
  else if q = 72 then .inl (cA 1, 64, .inl f)
  else if q = 73 then .inl (cA 2, 64, .inr (.inl g))
  else if q = 78 then .inl (cA 1, 64, .inl f)
  else if q = 80 then .inl (cA 0, 12, .inl f)
  else if q = 82 then .inl (cA 1, 64, .inl f)
  else if q = 83 then .inl (cA 0, 4, .inl f)
  else .inl (cA 0, 64, .inl f)
def wcell (adr : Nat → Nat) (cA : Nat → ClassId) (μ ν : Mem) (q : Nat) : va_E := if q < 63 then shC adr cA q (μ.1 q) (μ.2 q) else shM adr cA q (ν.1 q) (ν.2 q)
def wld (adr : Nat → Nat) (cA : Nat → ClassId) (μ ν : Mem) : va_W := (List.range 86).map (fun q => (adr q, wcell adr cA μ ν q))
section WLD
variable {adr : Nat → Nat} {cA : Nat → ClassId} {μ ν μ' ν' : Mem} {q : Nat} {e : va_E}
theorem wld_at (hq : q < 86) : (wld adr cA μ ν)[q]? = some (adr q, wcell adr cA μ ν q) := by
  unfold wld
  rw [List.getElem?_map, List.getElem?_range hq]
  rfl
theorem wld_no (hq : ¬ q < 86) : (wld adr cA μ ν)[q]? = none := by
  unfold wld
  rw [List.getElem?_map, List.getElem?_eq_none (by rw [List.length_range]; omega)]
  rfl
theorem wld_e (hq : q < 86) (h : wcell adr cA μ ν q = e) : (wld adr cA μ ν)[q]? = some (adr q, e) := by rw [wld_at hq, h]
theorem wld_set (hq : q < 86) (h : ∀ j, j ≠ q → wcell adr cA μ' ν' j = wcell adr cA μ ν j) (he : wcell adr cA μ' ν' q = e) : (wld adr cA μ ν).set q (adr q, e) = wld adr cA μ' ν' := by
  apply List.ext_getElem?
  intro i
  by_cases hi : i = q
  · subst hi
    rw [List.getElem?_set_self (by unfold wld; rw [List.length_map, List.length_range]; exact hq), wld_at hq, he]
  · rw [List.getElem?_set_ne (Ne.symm hi)]
    by_cases h8 : i < 86
    · rw [wld_at h8, wld_at h8, h i hi]
    · rw [wld_no h8, wld_no h8]
def AA (adr : Nat → Nat) : Nat → Prop := fun a => ∃ q, q < 86 ∧ a = adr q
theorem wld_D (hI : ∀ i j, i < 86 → j < 86 → adr i = adr j → i = j) : va_D (AA adr) (wld adr cA μ ν) := by
  have key : ∀ (k : Nat) (x : Nat × va_E), (wld adr cA μ ν)[k]? = some x → k < 86 ∧ x.1 = adr k := by
    intro k x hk
    by_cases h8 : k < 86
    · rw [wld_at h8] at hk
      cases hk
      exact ⟨h8, rfl⟩
    · rw [wld_no h8] at hk
      cases hk
  refine ⟨fun i j x y hi hj hxy => ?_, fun k x hk => ?_⟩
  · obtain ⟨h1, h2⟩ := key i x hi
    obtain ⟨h3, h4⟩ := key j y hj
    exact hI i j h1 h3 (by rw [← h2, ← h4, hxy])
  · obtain ⟨h1, h2⟩ := key k x hk
    exact ⟨k, h1, h2⟩
theorem wc_C {e : va_E} (hq : q < 63) (h : shC adr cA q (μ.1 q) (μ.2 q) = e) : wcell adr cA μ ν q = e := by unfold wcell; rw [if_pos hq, h]
theorem wc_M {e : va_E} (hq : ¬ q < 63) (h : shM adr cA q (ν.1 q) (ν.2 q) = e) : wcell adr cA μ ν q = e := by unfold wcell; rw [if_neg hq, h]
theorem sI_C {k : Nat} {x : Int32} : ∀ j, j ≠ q → wcell adr cA (sI μ q k x) ν j = wcell adr cA μ ν j := by
  intro j hj
  simp only [wcell, sI, if_neg hj]
theorem sJ_C {k : Nat} {x : Int64} : ∀ j, j ≠ q → wcell adr cA (sJ μ q k x) ν j = wcell adr cA μ ν j := by
  intro j hj
  simp only [wcell, sJ, if_neg hj]
theorem sR_C {h : Nat → Int32} : ∀ j, j ≠ q → wcell adr cA (sR μ q h) ν j = wcell adr cA μ ν j := by
  intro j hj
  simp only [wcell, sR, if_neg hj]
theorem sI_M {k : Nat} {x : Int32} : ∀ j, j ≠ q → wcell adr cA μ (sI ν q k x) j = wcell adr cA μ ν j := by
  intro j hj
  simp only [wcell, sI, if_neg hj]
theorem sJ_M {k : Nat} {x : Int64} : ∀ j, j ≠ q → wcell adr cA μ (sJ ν q k x) j = wcell adr cA μ ν j := by
  intro j hj
  simp only [wcell, sJ, if_neg hj]
theorem sI_q {k : Nat} {x : Int32} : (sI μ q k x).1 q = upd (μ.1 q) k x := if_pos rfl
theorem sJ_q {k : Nat} {x : Int64} : (sJ μ q k x).2 q = vp_updL (μ.2 q) k x := if_pos rfl
theorem sR_q {h : Nat → Int32} : (sR μ q h).1 q = h := if_pos rfl
theorem sh_ST {f : Nat → Int32} {g : Nat → Int64} {r : Nat} (hr : r < 8) : shC adr cA (2 + r) f g = .inr (3, [.ref (adr (10 + r)), .int (f 1), .int (f 2)]) := by
  unfold shC
  rw [if_neg (by omega), if_neg (by omega), if_pos (by omega), show 2 + r + 8 = 10 + r by omega]
theorem sh_PL {f : Nat → Int32} {g : Nat → Int64} {r : Nat} (hr : r < 8) : shC adr cA (10 + r) f g = .inl (cA 0, 12, .inl f) := by
  unfold shC
  rw [if_neg (by omega), if_neg (by omega), if_neg (by omega), if_pos (by omega)]
theorem sh_LA {f : Nat → Int32} {g : Nat → Int64} {r : Nat} : shC adr cA (28 + r) f g = .inr (0, [.long (g 0), .int (f 1), .int (f 2), .int (f 3), .int (f 4), .int (f 5), .int (f 6), .int (f 7)]) := by
  unfold shC
  rw [if_neg (by omega), if_neg (by omega), if_neg (by omega), if_neg (by omega), if_neg (by omega), if_neg (by omega), if_neg (by omega), if_neg (by omega), if_neg (by omega)]
end WLD
def tys (cA : Nat → ClassId) : List (ClassId × FieldType) := [(cA 0, .int), (cA 1, .boolean), (cA 2, .long), (cA 3, .object "LakeRelief$Strip"), (cA 4, .object "LakeRelief$Lake")]
def Nst (U : State) : Prop := va_Nw (.methodLinkNest "LakeRelief$Relief" 47 y_LR_only "LakeRelief") U ∧ va_Nw (.methodLinkNest "LakeRelief$Relief" 67 y_LR_isIn "LakeRelief") U ∧ va_Nw (.methodLinkNest "LakeRelief$Lakes" 123 y_LR_isIn "LakeRelief") U ∧ va_Nw (.methodLinkNest "LakeRelief$Lakes" 102 y_LR_only "LakeRelief") U
def Geo (D : va_G) (adr : Nat → Nat) (cA : Nat → ClassId) (U : State) : Prop := va_K D cls (tys cA) U ∧ (∀ i j, i < 86 → j < 86 → adr i = adr j → i = j) ∧ Nst U
def Wd (D : va_G) (adr : Nat → Nat) (cA : Nat → ClassId) (μ ν : Mem) (U : State) : Prop := va_P D cls (wld adr cA μ ν) U.heap ∧ Geo D adr cA U
section GEO
variable {D : va_G} {adr : Nat → Nat} {cA : Nat → ClassId} {μ ν : Mem} {s U : State}
theorem Nst.warm (hW : s.WarmedH U.vm) (h : Nst s) : Nst U := ⟨h.1.warmM hW, h.2.1.warmM hW, h.2.2.1.warmM hW, h.2.2.2.warmM hW⟩
theorem Nst.same (hv : s.vm = U.vm) (h : Nst s) : Nst U := ⟨h.1.same rfl hv, h.2.1.same rfl hv, h.2.2.1.same rfl hv, h.2.2.2.same rfl hv⟩
theorem Geo.warm (hW : s.WarmedH U.vm) (h : Geo D adr cA s) : Geo D adr cA U := ⟨va_K.moved hW.alike h.1, h.2.1, h.2.2.warm hW⟩
theorem Wd.blind {av : List Value} : FrameBlind (va_Pc av (Wd D adr cA μ ν)) := fun a U g mk q => ⟨q.1, q.2.1, va_K.moved (u := U) (U := U.calling g mk a) (Vm.Alike.refl U.vm) q.2.2.1, q.2.2.2.1, Nst.same (s := U) (U := U.calling g mk a) rfl q.2.2.2.2⟩
end GEO
theorem bool01 {x : Int32} (h : x &&& 1 = x) : x = 0 ∨ x = 1 := by
  have h1 := pk_and x (m := 1) 1 rfl
  rw [h] at h1
  rcases (show x.toBitVec.toNat % 2 ^ 1 = 0 ∨ x.toBitVec.toNat % 2 ^ 1 = 1 by omega) with h2 | h2
  · rw [h2] at h1; exact Or.inl h1
  · rw [h2] at h1; exact Or.inr h1
theorem fits_bool {x : Int32} (h : x &&& 1 = x) : fits .boolean (.int x) = true := by
  rcases bool01 h with h1 | h1 <;> subst h1 <;> rfl
section ROWS
variable {p : Program} {l : Launch} {e : Env} {R : Room} {s : State} {m : MethodId} {args : Array Value} {below : List Frame} {meth : Method} {c : Code} {H : Heap} {locs : List Loc} {cells slots : Nat} {Q : State → Prop}
variable {cc : ByteArray} {pc : Nat} {ls : Array Slot} {rest : List Value} {D : va_G} {adr : Nat → Nat} {cA : Nat → ClassId} {μ ν μ' ν' : Mem} {H0 : Heap} {own : String} {index : Nat}
theorem g_LA_fields (hx : p.tables.exec = Jvm.exec) (hb : c.code = cc) (hts : ∀ w ∈ lw_ok, w.before args s = true) (hown : s.vm.findClass own = some m.cls) (hG : Geo D adr cA s) (hP : va_P D cls (wld adr cA μ ν) H) {o : Nat} (ho : o < 35) (hlink : (Cond.fieldLink own index "LakeRelief$Lake" "fields" "J").before args s = true) (hdg : decode cc pc = .ok (.getfield index, 3)) (kk : W p l e R s m args below meth c H locs cells slots Q (F0 m (pc + 3) ls (.long (μ.2 (28 + o) 0) :: rest))) : W p l e R s m args below meth c H locs cells slots Q (F0 m pc ls (.ref (adr (28 + o)) :: rest)) :=
  va_get (D := D) (ci := 0) (C := R_LA) (T := T_LA) (N := 8) hx hb hts i_LA hown hG.1 hP (28 + o) (wld_e (by omega) (wc_C (by omega) (sh_LA))) rfl 0 (by decide) hlink (fun _ h => h) rfl hdg kk
theorem p_LA_fields (hx : p.tables.exec = Jvm.exec) (hb : c.code = cc) (hts : ∀ w ∈ lw_ok, w.before args s = true) (hown : s.vm.findClass own = some m.cls) (hG : Geo D adr cA s) (hP : va_P D cls (wld adr cA μ ν) H) (hS : va_S (AA adr) H0 H locs) {o : Nat} (ho : o < 35) (hlink : (Cond.fieldLink own index "LakeRelief$Lake" "fields" "J").before args s = true) {x : Int64} (hdg : decode cc pc = .ok (.putfield index, 3)) (kk : ∀ (H1 : Heap) (locs1 : List Loc), va_P D cls (wld adr cA (sJ μ (28 + o) 0 x) ν) H1 → va_S (AA adr) H0 H1 locs1 → W p l e R s m args below meth c H1 locs1 cells slots Q (F0 m (pc + 3) ls rest)) : W p l e R s m args below meth c H locs cells slots Q (F0 m pc ls (.long x :: .ref (adr (28 + o)) :: rest)) := by
  refine va_put (D := D) (ci := 0) (ty := .long) (C := R_LA) (T := T_LA) (N := 8) hx hb hts i_LA t_LA t_LA_ok n_LA hown hG.1 hP (wld_D hG.2.1) hS (28 + o) (wld_e (by omega) (wc_C (by omega) (sh_LA))) rfl 0 (by decide) hlink (fun _ h => h) rfl (by decide +kernel) rfl rfl (Nat.le_of_ble_eq_true rfl) hdg (fun H1 locs1 hP1 _ hS1 => kk H1 locs1 ?_ hS1)
  refine (wld_set (q := (28 + o)) (by omega) (sJ_C) (wc_C (by omega) ?_)) ▸ hP1
  rw [sJ_q, sh_LA]
  rfl
theorem g_LA_rim (hx : p.tables.exec = Jvm.exec) (hb : c.code = cc) (hts : ∀ w ∈ lw_ok, w.before args s = true) (hown : s.vm.findClass own = some m.cls) (hG : Geo D adr cA s) (hP : va_P D cls (wld adr cA μ ν) H) {o : Nat} (ho : o < 35) (hlink : (Cond.fieldLink own index "LakeRelief$Lake" "rim" "I").before args s = true) (hdg : decode cc pc = .ok (.getfield index, 3)) (kk : W p l e R s m args below meth c H locs cells slots Q (F0 m (pc + 3) ls (.int (μ.1 (28 + o) 1) :: rest))) : W p l e R s m args below meth c H locs cells slots Q (F0 m pc ls (.ref (adr (28 + o)) :: rest)) :=
  va_get (D := D) (ci := 0) (C := R_LA) (T := T_LA) (N := 8) hx hb hts i_LA hown hG.1 hP (28 + o) (wld_e (by omega) (wc_C (by omega) (sh_LA))) rfl 1 (by decide) hlink (fun _ h => h) rfl hdg kk
theorem p_LA_rim (hx : p.tables.exec = Jvm.exec) (hb : c.code = cc) (hts : ∀ w ∈ lw_ok, w.before args s = true) (hown : s.vm.findClass own = some m.cls) (hG : Geo D adr cA s) (hP : va_P D cls (wld adr cA μ ν) H) (hS : va_S (AA adr) H0 H locs) {o : Nat} (ho : o < 35) (hlink : (Cond.fieldLink own index "LakeRelief$Lake" "rim" "I").before args s = true) {x : Int32} (hdg : decode cc pc = .ok (.putfield index, 3)) (kk : ∀ (H1 : Heap) (locs1 : List Loc), va_P D cls (wld adr cA (sI μ (28 + o) 1 x) ν) H1 → va_S (AA adr) H0 H1 locs1 → W p l e R s m args below meth c H1 locs1 cells slots Q (F0 m (pc + 3) ls rest)) : W p l e R s m args below meth c H locs cells slots Q (F0 m pc ls (.int x :: .ref (adr (28 + o)) :: rest)) := by
  refine va_put (D := D) (ci := 0) (ty := .int) (C := R_LA) (T := T_LA) (N := 8) hx hb hts i_LA t_LA t_LA_ok n_LA hown hG.1 hP (wld_D hG.2.1) hS (28 + o) (wld_e (by omega) (wc_C (by omega) (sh_LA))) rfl 1 (by decide) hlink (fun _ h => h) rfl (by decide +kernel) rfl rfl (Nat.le_of_ble_eq_true rfl) hdg (fun H1 locs1 hP1 _ hS1 => kk H1 locs1 ?_ hS1)
  refine (wld_set (q := (28 + o)) (by omega) (sI_C) (wc_C (by omega) ?_)) ▸ hP1
  rw [sI_q, sh_LA]
  rfl
theorem g_LA_whole (hx : p.tables.exec = Jvm.exec) (hb : c.code = cc) (hts : ∀ w ∈ lw_ok, w.before args s = true) (hown : s.vm.findClass own = some m.cls) (hG : Geo D adr cA s) (hP : va_P D cls (wld adr cA μ ν) H) {o : Nat} (ho : o < 35) (hlink : (Cond.fieldLink own index "LakeRelief$Lake" "whole" "I").before args s = true) (hdg : decode cc pc = .ok (.getfield index, 3)) (kk : W p l e R s m args below meth c H locs cells slots Q (F0 m (pc + 3) ls (.int (μ.1 (28 + o) 2) :: rest))) : W p l e R s m args below meth c H locs cells slots Q (F0 m pc ls (.ref (adr (28 + o)) :: rest)) :=
  va_get (D := D) (ci := 0) (C := R_LA) (T := T_LA) (N := 8) hx hb hts i_LA hown hG.1 hP (28 + o) (wld_e (by omega) (wc_C (by omega) (sh_LA))) rfl 2 (by decide) hlink (fun _ h => h) rfl hdg kk
theorem p_LA_whole (hx : p.tables.exec = Jvm.exec) (hb : c.code = cc) (hts : ∀ w ∈ lw_ok, w.before args s = true) (hown : s.vm.findClass own = some m.cls) (hG : Geo D adr cA s) (hP : va_P D cls (wld adr cA μ ν) H) (hS : va_S (AA adr) H0 H locs) {o : Nat} (ho : o < 35) (hlink : (Cond.fieldLink own index "LakeRelief$Lake" "whole" "I").before args s = true) {x : Int32} (hdg : decode cc pc = .ok (.putfield index, 3)) (kk : ∀ (H1 : Heap) (locs1 : List Loc), va_P D cls (wld adr cA (sI μ (28 + o) 2 x) ν) H1 → va_S (AA adr) H0 H1 locs1 → W p l e R s m args below meth c H1 locs1 cells slots Q (F0 m (pc + 3) ls rest)) : W p l e R s m args below meth c H locs cells slots Q (F0 m pc ls (.int x :: .ref (adr (28 + o)) :: rest)) := by
  refine va_put (D := D) (ci := 0) (ty := .int) (C := R_LA) (T := T_LA) (N := 8) hx hb hts i_LA t_LA t_LA_ok n_LA hown hG.1 hP (wld_D hG.2.1) hS (28 + o) (wld_e (by omega) (wc_C (by omega) (sh_LA))) rfl 2 (by decide) hlink (fun _ h => h) rfl (by decide +kernel) rfl rfl (Nat.le_of_ble_eq_true rfl) hdg (fun H1 locs1 hP1 _ hS1 => kk H1 locs1 ?_ hS1)
  refine (wld_set (q := (28 + o)) (by omega) (sI_C) (wc_C (by omega) ?_)) ▸ hP1
  rw [sI_q, sh_LA]
  rfl
theorem g_LA_lesserPart (hx : p.tables.exec = Jvm.exec) (hb : c.code = cc) (hts : ∀ w ∈ lw_ok, w.before args s = true) (hown : s.vm.findClass own = some m.cls) (hG : Geo D adr cA s) (hP : va_P D cls (wld adr cA μ ν) H) {o : Nat} (ho : o < 35) (hlink : (Cond.fieldLink own index "LakeRelief$Lake" "lesserPart" "I").before args s = true) (hdg : decode cc pc = .ok (.getfield index, 3)) (kk : W p l e R s m args below meth c H locs cells slots Q (F0 m (pc + 3) ls (.int (μ.1 (28 + o) 3) :: rest))) : W p l e R s m args below meth c H locs cells slots Q (F0 m pc ls (.ref (adr (28 + o)) :: rest)) :=
  va_get (D := D) (ci := 0) (C := R_LA) (T := T_LA) (N := 8) hx hb hts i_LA hown hG.1 hP (28 + o) (wld_e (by omega) (wc_C (by omega) (sh_LA))) rfl 3 (by decide) hlink (fun _ h => h) rfl hdg kk
theorem p_LA_lesserPart (hx : p.tables.exec = Jvm.exec) (hb : c.code = cc) (hts : ∀ w ∈ lw_ok, w.before args s = true) (hown : s.vm.findClass own = some m.cls) (hG : Geo D adr cA s) (hP : va_P D cls (wld adr cA μ ν) H) (hS : va_S (AA adr) H0 H locs) {o : Nat} (ho : o < 35) (hlink : (Cond.fieldLink own index "LakeRelief$Lake" "lesserPart" "I").before args s = true) {x : Int32} (hdg : decode cc pc = .ok (.putfield index, 3)) (kk : ∀ (H1 : Heap) (locs1 : List Loc), va_P D cls (wld adr cA (sI μ (28 + o) 3 x) ν) H1 → va_S (AA adr) H0 H1 locs1 → W p l e R s m args below meth c H1 locs1 cells slots Q (F0 m (pc + 3) ls rest)) : W p l e R s m args below meth c H locs cells slots Q (F0 m pc ls (.int x :: .ref (adr (28 + o)) :: rest)) := by
  refine va_put (D := D) (ci := 0) (ty := .int) (C := R_LA) (T := T_LA) (N := 8) hx hb hts i_LA t_LA t_LA_ok n_LA hown hG.1 hP (wld_D hG.2.1) hS (28 + o) (wld_e (by omega) (wc_C (by omega) (sh_LA))) rfl 3 (by decide) hlink (fun _ h => h) rfl (by decide +kernel) rfl rfl (Nat.le_of_ble_eq_true rfl) hdg (fun H1 locs1 hP1 _ hS1 => kk H1 locs1 ?_ hS1)
  refine (wld_set (q := (28 + o)) (by omega) (sI_C) (wc_C (by omega) ?_)) ▸ hP1
  rw [sI_q, sh_LA]
  rfl
theorem g_LA_greaterPart (hx : p.tables.exec = Jvm.exec) (hb : c.code = cc) (hts : ∀ w ∈ lw_ok, w.before args s = true) (hown : s.vm.findClass own = some m.cls) (hG : Geo D adr cA s) (hP : va_P D cls (wld adr cA μ ν) H) {o : Nat} (ho : o < 35) (hlink : (Cond.fieldLink own index "LakeRelief$Lake" "greaterPart" "I").before args s = true) (hdg : decode cc pc = .ok (.getfield index, 3)) (kk : W p l e R s m args below meth c H locs cells slots Q (F0 m (pc + 3) ls (.int (μ.1 (28 + o) 4) :: rest))) : W p l e R s m args below meth c H locs cells slots Q (F0 m pc ls (.ref (adr (28 + o)) :: rest)) :=
  va_get (D := D) (ci := 0) (C := R_LA) (T := T_LA) (N := 8) hx hb hts i_LA hown hG.1 hP (28 + o) (wld_e (by omega) (wc_C (by omega) (sh_LA))) rfl 4 (by decide) hlink (fun _ h => h) rfl hdg kk
theorem p_LA_greaterPart (hx : p.tables.exec = Jvm.exec) (hb : c.code = cc) (hts : ∀ w ∈ lw_ok, w.before args s = true) (hown : s.vm.findClass own = some m.cls) (hG : Geo D adr cA s) (hP : va_P D cls (wld adr cA μ ν) H) (hS : va_S (AA adr) H0 H locs) {o : Nat} (ho : o < 35) (hlink : (Cond.fieldLink own index "LakeRelief$Lake" "greaterPart" "I").before args s = true) {x : Int32} (hdg : decode cc pc = .ok (.putfield index, 3)) (kk : ∀ (H1 : Heap) (locs1 : List Loc), va_P D cls (wld adr cA (sI μ (28 + o) 4 x) ν) H1 → va_S (AA adr) H0 H1 locs1 → W p l e R s m args below meth c H1 locs1 cells slots Q (F0 m (pc + 3) ls rest)) : W p l e R s m args below meth c H locs cells slots Q (F0 m pc ls (.int x :: .ref (adr (28 + o)) :: rest)) := by
  refine va_put (D := D) (ci := 0) (ty := .int) (C := R_LA) (T := T_LA) (N := 8) hx hb hts i_LA t_LA t_LA_ok n_LA hown hG.1 hP (wld_D hG.2.1) hS (28 + o) (wld_e (by omega) (wc_C (by omega) (sh_LA))) rfl 4 (by decide) hlink (fun _ h => h) rfl (by decide +kernel) rfl rfl (Nat.le_of_ble_eq_true rfl) hdg (fun H1 locs1 hP1 _ hS1 => kk H1 locs1 ?_ hS1)
  refine (wld_set (q := (28 + o)) (by omega) (sI_C) (wc_C (by omega) ?_)) ▸ hP1
  rw [sI_q, sh_LA]
  rfl
theorem g_LA_most (hx : p.tables.exec = Jvm.exec) (hb : c.code = cc) (hts : ∀ w ∈ lw_ok, w.before args s = true) (hown : s.vm.findClass own = some m.cls) (hG : Geo D adr cA s) (hP : va_P D cls (wld adr cA μ ν) H) {o : Nat} (ho : o < 35) (hlink : (Cond.fieldLink own index "LakeRelief$Lake" "most" "I").before args s = true) (hdg : decode cc pc = .ok (.getfield index, 3)) (kk : W p l e R s m args below meth c H locs cells slots Q (F0 m (pc + 3) ls (.int (μ.1 (28 + o) 5) :: rest))) : W p l e R s m args below meth c H locs cells slots Q (F0 m pc ls (.ref (adr (28 + o)) :: rest)) :=
  va_get (D := D) (ci := 0) (C := R_LA) (T := T_LA) (N := 8) hx hb hts i_LA hown hG.1 hP (28 + o) (wld_e (by omega) (wc_C (by omega) (sh_LA))) rfl 5 (by decide) hlink (fun _ h => h) rfl hdg kk
theorem p_LA_most (hx : p.tables.exec = Jvm.exec) (hb : c.code = cc) (hts : ∀ w ∈ lw_ok, w.before args s = true) (hown : s.vm.findClass own = some m.cls) (hG : Geo D adr cA s) (hP : va_P D cls (wld adr cA μ ν) H) (hS : va_S (AA adr) H0 H locs) {o : Nat} (ho : o < 35) (hlink : (Cond.fieldLink own index "LakeRelief$Lake" "most" "I").before args s = true) {x : Int32} (hdg : decode cc pc = .ok (.putfield index, 3)) (kk : ∀ (H1 : Heap) (locs1 : List Loc), va_P D cls (wld adr cA (sI μ (28 + o) 5 x) ν) H1 → va_S (AA adr) H0 H1 locs1 → W p l e R s m args below meth c H1 locs1 cells slots Q (F0 m (pc + 3) ls rest)) : W p l e R s m args below meth c H locs cells slots Q (F0 m pc ls (.int x :: .ref (adr (28 + o)) :: rest)) := by
  refine va_put (D := D) (ci := 0) (ty := .int) (C := R_LA) (T := T_LA) (N := 8) hx hb hts i_LA t_LA t_LA_ok n_LA hown hG.1 hP (wld_D hG.2.1) hS (28 + o) (wld_e (by omega) (wc_C (by omega) (sh_LA))) rfl 5 (by decide) hlink (fun _ h => h) rfl (by decide +kernel) rfl rfl (Nat.le_of_ble_eq_true rfl) hdg (fun H1 locs1 hP1 _ hS1 => kk H1 locs1 ?_ hS1)
  refine (wld_set (q := (28 + o)) (by omega) (sI_C) (wc_C (by omega) ?_)) ▸ hP1
  rw [sI_q, sh_LA]
  rfl
theorem g_LA_isThere (hx : p.tables.exec = Jvm.exec) (hb : c.code = cc) (hts : ∀ w ∈ lw_ok, w.before args s = true) (hown : s.vm.findClass own = some m.cls) (hG : Geo D adr cA s) (hP : va_P D cls (wld adr cA μ ν) H) {o : Nat} (ho : o < 35) (hlink : (Cond.fieldLink own index "LakeRelief$Lake" "isThere" "Z").before args s = true) (hdg : decode cc pc = .ok (.getfield index, 3)) (kk : W p l e R s m args below meth c H locs cells slots Q (F0 m (pc + 3) ls (.int (μ.1 (28 + o) 6) :: rest))) : W p l e R s m args below meth c H locs cells slots Q (F0 m pc ls (.ref (adr (28 + o)) :: rest)) :=
  va_get (D := D) (ci := 0) (C := R_LA) (T := T_LA) (N := 8) hx hb hts i_LA hown hG.1 hP (28 + o) (wld_e (by omega) (wc_C (by omega) (sh_LA))) rfl 6 (by decide) hlink (fun _ h => h) rfl hdg kk
theorem p_LA_isThere (hx : p.tables.exec = Jvm.exec) (hb : c.code = cc) (hts : ∀ w ∈ lw_ok, w.before args s = true) (hown : s.vm.findClass own = some m.cls) (hG : Geo D adr cA s) (hP : va_P D cls (wld adr cA μ ν) H) (hS : va_S (AA adr) H0 H locs) {o : Nat} (ho : o < 35) (hlink : (Cond.fieldLink own index "LakeRelief$Lake" "isThere" "Z").before args s = true) {x : Int32} (hz : x &&& 1 = x) (hdg : decode cc pc = .ok (.putfield index, 3)) (kk : ∀ (H1 : Heap) (locs1 : List Loc), va_P D cls (wld adr cA (sI μ (28 + o) 6 x) ν) H1 → va_S (AA adr) H0 H1 locs1 → W p l e R s m args below meth c H1 locs1 cells slots Q (F0 m (pc + 3) ls rest)) : W p l e R s m args below meth c H locs cells slots Q (F0 m pc ls (.int x :: .ref (adr (28 + o)) :: rest)) := by
  refine va_put (D := D) (ci := 0) (ty := .boolean) (C := R_LA) (T := T_LA) (N := 8) hx hb hts i_LA t_LA t_LA_ok n_LA hown hG.1 hP (wld_D hG.2.1) hS (28 + o) (wld_e (by omega) (wc_C (by omega) (sh_LA))) rfl 6 (by decide) hlink (fun _ h => h) rfl (by decide +kernel) (by show Value.int (x &&& 1) = _; rw [hz]) (fits_bool hz) (Nat.le_of_ble_eq_true rfl) hdg (fun H1 locs1 hP1 _ hS1 => kk H1 locs1 ?_ hS1)
  refine (wld_set (q := (28 + o)) (by omega) (sI_C) (wc_C (by omega) ?_)) ▸ hP1
  rw [sI_q, sh_LA]
  rfl
theorem g_LA_water (hx : p.tables.exec = Jvm.exec) (hb : c.code = cc) (hts : ∀ w ∈ lw_ok, w.before args s = true) (hown : s.vm.findClass own = some m.cls) (hG : Geo D adr cA s) (hP : va_P D cls (wld adr cA μ ν) H) {o : Nat} (ho : o < 35) (hlink : (Cond.fieldLink own index "LakeRelief$Lake" "water" "I").before args s = true) (hdg : decode cc pc = .ok (.getfield index, 3)) (kk : W p l e R s m args below meth c H locs cells slots Q (F0 m (pc + 3) ls (.int (μ.1 (28 + o) 7) :: rest))) : W p l e R s m args below meth c H locs cells slots Q (F0 m pc ls (.ref (adr (28 + o)) :: rest)) :=
  va_get (D := D) (ci := 0) (C := R_LA) (T := T_LA) (N := 8) hx hb hts i_LA hown hG.1 hP (28 + o) (wld_e (by omega) (wc_C (by omega) (sh_LA))) rfl 7 (by decide) hlink (fun _ h => h) rfl hdg kk
theorem p_LA_water (hx : p.tables.exec = Jvm.exec) (hb : c.code = cc) (hts : ∀ w ∈ lw_ok, w.before args s = true) (hown : s.vm.findClass own = some m.cls) (hG : Geo D adr cA s) (hP : va_P D cls (wld adr cA μ ν) H) (hS : va_S (AA adr) H0 H locs) {o : Nat} (ho : o < 35) (hlink : (Cond.fieldLink own index "LakeRelief$Lake" "water" "I").before args s = true) {x : Int32} (hdg : decode cc pc = .ok (.putfield index, 3)) (kk : ∀ (H1 : Heap) (locs1 : List Loc), va_P D cls (wld adr cA (sI μ (28 + o) 7 x) ν) H1 → va_S (AA adr) H0 H1 locs1 → W p l e R s m args below meth c H1 locs1 cells slots Q (F0 m (pc + 3) ls rest)) : W p l e R s m args below meth c H locs cells slots Q (F0 m pc ls (.int x :: .ref (adr (28 + o)) :: rest)) := by
  refine va_put (D := D) (ci := 0) (ty := .int) (C := R_LA) (T := T_LA) (N := 8) hx hb hts i_LA t_LA t_LA_ok n_LA hown hG.1 hP (wld_D hG.2.1) hS (28 + o) (wld_e (by omega) (wc_C (by omega) (sh_LA))) rfl 7 (by decide) hlink (fun _ h => h) rfl (by decide +kernel) rfl rfl (Nat.le_of_ble_eq_true rfl) hdg (fun H1 locs1 hP1 _ hS1 => kk H1 locs1 ?_ hS1)
  refine (wld_set (q := (28 + o)) (by omega) (sI_C) (wc_C (by omega) ?_)) ▸ hP1
  rw [sI_q, sh_LA]
  rfl
theorem g_LK_all (hx : p.tables.exec = Jvm.exec) (hb : c.code = cc) (hts : ∀ w ∈ lw_ok, w.before args s = true) (hown : s.vm.findClass own = some m.cls) (hG : Geo D adr cA s) (hP : va_P D cls (wld adr cA μ ν) H) (hlink : (Cond.fieldLink own index "LakeRelief$Lakes" "all" "[LLakeRelief$Lake;").before args s = true) (hdg : decode cc pc = .ok (.getfield index, 3)) (kk : W p l e R s m args below meth c H locs cells slots Q (F0 m (pc + 3) ls (.ref (adr 27) :: rest))) : W p l e R s m args below meth c H locs cells slots Q (F0 m pc ls (.ref (adr 26) :: rest)) :=
  va_get (D := D) (ci := 1) (C := R_LK) (T := T_LK) (N := 6) hx hb hts i_LK hown hG.1 hP 26 (wld_e (by decide) (wc_C (by decide) rfl)) rfl 0 (by decide) hlink (fun _ h => h) rfl hdg kk
theorem g_LK_number (hx : p.tables.exec = Jvm.exec) (hb : c.code = cc) (hts : ∀ w ∈ lw_ok, w.before args s = true) (hown : s.vm.findClass own = some m.cls) (hG : Geo D adr cA s) (hP : va_P D cls (wld adr cA μ ν) H) (hlink : (Cond.fieldLink own index "LakeRelief$Lakes" "number" "I").before args s = true) (hdg : decode cc pc = .ok (.getfield index, 3)) (kk : W p l e R s m args below meth c H locs cells slots Q (F0 m (pc + 3) ls (.int (μ.1 26 1) :: rest))) : W p l e R s m args below meth c H locs cells slots Q (F0 m pc ls (.ref (adr 26) :: rest)) :=
  va_get (D := D) (ci := 1) (C := R_LK) (T := T_LK) (N := 6) hx hb hts i_LK hown hG.1 hP 26 (wld_e (by decide) (wc_C (by decide) rfl)) rfl 1 (by decide) hlink (fun _ h => h) rfl hdg kk
theorem p_LK_number (hx : p.tables.exec = Jvm.exec) (hb : c.code = cc) (hts : ∀ w ∈ lw_ok, w.before args s = true) (hown : s.vm.findClass own = some m.cls) (hG : Geo D adr cA s) (hP : va_P D cls (wld adr cA μ ν) H) (hS : va_S (AA adr) H0 H locs) (hlink : (Cond.fieldLink own index "LakeRelief$Lakes" "number" "I").before args s = true) {x : Int32} (hdg : decode cc pc = .ok (.putfield index, 3)) (kk : ∀ (H1 : Heap) (locs1 : List Loc), va_P D cls (wld adr cA (sI μ 26 1 x) ν) H1 → va_S (AA adr) H0 H1 locs1 → W p l e R s m args below meth c H1 locs1 cells slots Q (F0 m (pc + 3) ls rest)) : W p l e R s m args below meth c H locs cells slots Q (F0 m pc ls (.int x :: .ref (adr 26) :: rest)) := by
  refine va_put (D := D) (ci := 1) (ty := .int) (C := R_LK) (T := T_LK) (N := 6) hx hb hts i_LK t_LK t_LK_ok n_LK hown hG.1 hP (wld_D hG.2.1) hS 26 (wld_e (by decide) (wc_C (by decide) rfl)) rfl 1 (by decide) hlink (fun _ h => h) rfl (by decide +kernel) rfl rfl (Nat.le_of_ble_eq_true rfl) hdg (fun H1 locs1 hP1 _ hS1 => kk H1 locs1 ?_ hS1)
  exact (wld_set (q := 26) (by decide) (sI_C) (wc_C (by decide) rfl)) ▸ hP1
theorem g_LK_gone (hx : p.tables.exec = Jvm.exec) (hb : c.code = cc) (hts : ∀ w ∈ lw_ok, w.before args s = true) (hown : s.vm.findClass own = some m.cls) (hG : Geo D adr cA s) (hP : va_P D cls (wld adr cA μ ν) H) (hlink : (Cond.fieldLink own index "LakeRelief$Lakes" "gone" "J").before args s = true) (hdg : decode cc pc = .ok (.getfield index, 3)) (kk : W p l e R s m args below meth c H locs cells slots Q (F0 m (pc + 3) ls (.long (μ.2 26 2) :: rest))) : W p l e R s m args below meth c H locs cells slots Q (F0 m pc ls (.ref (adr 26) :: rest)) :=
  va_get (D := D) (ci := 1) (C := R_LK) (T := T_LK) (N := 6) hx hb hts i_LK hown hG.1 hP 26 (wld_e (by decide) (wc_C (by decide) rfl)) rfl 2 (by decide) hlink (fun _ h => h) rfl hdg kk
theorem p_LK_gone (hx : p.tables.exec = Jvm.exec) (hb : c.code = cc) (hts : ∀ w ∈ lw_ok, w.before args s = true) (hown : s.vm.findClass own = some m.cls) (hG : Geo D adr cA s) (hP : va_P D cls (wld adr cA μ ν) H) (hS : va_S (AA adr) H0 H locs) (hlink : (Cond.fieldLink own index "LakeRelief$Lakes" "gone" "J").before args s = true) {x : Int64} (hdg : decode cc pc = .ok (.putfield index, 3)) (kk : ∀ (H1 : Heap) (locs1 : List Loc), va_P D cls (wld adr cA (sJ μ 26 2 x) ν) H1 → va_S (AA adr) H0 H1 locs1 → W p l e R s m args below meth c H1 locs1 cells slots Q (F0 m (pc + 3) ls rest)) : W p l e R s m args below meth c H locs cells slots Q (F0 m pc ls (.long x :: .ref (adr 26) :: rest)) := by
  refine va_put (D := D) (ci := 1) (ty := .long) (C := R_LK) (T := T_LK) (N := 6) hx hb hts i_LK t_LK t_LK_ok n_LK hown hG.1 hP (wld_D hG.2.1) hS 26 (wld_e (by decide) (wc_C (by decide) rfl)) rfl 2 (by decide) hlink (fun _ h => h) rfl (by decide +kernel) rfl rfl (Nat.le_of_ble_eq_true rfl) hdg (fun H1 locs1 hP1 _ hS1 => kk H1 locs1 ?_ hS1)
  exact (wld_set (q := 26) (by decide) (sJ_C) (wc_C (by decide) rfl)) ▸ hP1
theorem g_LK_poured (hx : p.tables.exec = Jvm.exec) (hb : c.code = cc) (hts : ∀ w ∈ lw_ok, w.before args s = true) (hown : s.vm.findClass own = some m.cls) (hG : Geo D adr cA s) (hP : va_P D cls (wld adr cA μ ν) H) (hlink : (Cond.fieldLink own index "LakeRelief$Lakes" "poured" "J").before args s = true) (hdg : decode cc pc = .ok (.getfield index, 3)) (kk : W p l e R s m args below meth c H locs cells slots Q (F0 m (pc + 3) ls (.long (μ.2 26 3) :: rest))) : W p l e R s m args below meth c H locs cells slots Q (F0 m pc ls (.ref (adr 26) :: rest)) :=
  va_get (D := D) (ci := 1) (C := R_LK) (T := T_LK) (N := 6) hx hb hts i_LK hown hG.1 hP 26 (wld_e (by decide) (wc_C (by decide) rfl)) rfl 3 (by decide) hlink (fun _ h => h) rfl hdg kk
theorem p_LK_poured (hx : p.tables.exec = Jvm.exec) (hb : c.code = cc) (hts : ∀ w ∈ lw_ok, w.before args s = true) (hown : s.vm.findClass own = some m.cls) (hG : Geo D adr cA s) (hP : va_P D cls (wld adr cA μ ν) H) (hS : va_S (AA adr) H0 H locs) (hlink : (Cond.fieldLink own index "LakeRelief$Lakes" "poured" "J").before args s = true) {x : Int64} (hdg : decode cc pc = .ok (.putfield index, 3)) (kk : ∀ (H1 : Heap) (locs1 : List Loc), va_P D cls (wld adr cA (sJ μ 26 3 x) ν) H1 → va_S (AA adr) H0 H1 locs1 → W p l e R s m args below meth c H1 locs1 cells slots Q (F0 m (pc + 3) ls rest)) : W p l e R s m args below meth c H locs cells slots Q (F0 m pc ls (.long x :: .ref (adr 26) :: rest)) := by
  refine va_put (D := D) (ci := 1) (ty := .long) (C := R_LK) (T := T_LK) (N := 6) hx hb hts i_LK t_LK t_LK_ok n_LK hown hG.1 hP (wld_D hG.2.1) hS 26 (wld_e (by decide) (wc_C (by decide) rfl)) rfl 3 (by decide) hlink (fun _ h => h) rfl (by decide +kernel) rfl rfl (Nat.le_of_ble_eq_true rfl) hdg (fun H1 locs1 hP1 _ hS1 => kk H1 locs1 ?_ hS1)
  exact (wld_set (q := 26) (by decide) (sJ_C) (wc_C (by decide) rfl)) ▸ hP1
theorem g_LK_relief (hx : p.tables.exec = Jvm.exec) (hb : c.code = cc) (hts : ∀ w ∈ lw_ok, w.before args s = true) (hown : s.vm.findClass own = some m.cls) (hG : Geo D adr cA s) (hP : va_P D cls (wld adr cA μ ν) H) (hlink : (Cond.fieldLink own index "LakeRelief$Lakes" "relief" "LLakeRelief$Relief;").before args s = true) (hdg : decode cc pc = .ok (.getfield index, 3)) (kk : W p l e R s m args below meth c H locs cells slots Q (F0 m (pc + 3) ls (.ref (adr 18) :: rest))) : W p l e R s m args below meth c H locs cells slots Q (F0 m pc ls (.ref (adr 26) :: rest)) :=
  va_get (D := D) (ci := 1) (C := R_LK) (T := T_LK) (N := 6) hx hb hts i_LK hown hG.1 hP 26 (wld_e (by decide) (wc_C (by decide) rfl)) rfl 4 (by decide) hlink (fun _ h => h) rfl hdg kk
theorem g_LK_seas (hx : p.tables.exec = Jvm.exec) (hb : c.code = cc) (hts : ∀ w ∈ lw_ok, w.before args s = true) (hown : s.vm.findClass own = some m.cls) (hG : Geo D adr cA s) (hP : va_P D cls (wld adr cA μ ν) H) (hlink : (Cond.fieldLink own index "LakeRelief$Lakes" "seas" "J").before args s = true) (hdg : decode cc pc = .ok (.getfield index, 3)) (kk : W p l e R s m args below meth c H locs cells slots Q (F0 m (pc + 3) ls (.long (μ.2 26 5) :: rest))) : W p l e R s m args below meth c H locs cells slots Q (F0 m pc ls (.ref (adr 26) :: rest)) :=
  va_get (D := D) (ci := 1) (C := R_LK) (T := T_LK) (N := 6) hx hb hts i_LK hown hG.1 hP 26 (wld_e (by decide) (wc_C (by decide) rfl)) rfl 5 (by decide) hlink (fun _ h => h) rfl hdg kk
theorem p_LK_seas (hx : p.tables.exec = Jvm.exec) (hb : c.code = cc) (hts : ∀ w ∈ lw_ok, w.before args s = true) (hown : s.vm.findClass own = some m.cls) (hG : Geo D adr cA s) (hP : va_P D cls (wld adr cA μ ν) H) (hS : va_S (AA adr) H0 H locs) (hlink : (Cond.fieldLink own index "LakeRelief$Lakes" "seas" "J").before args s = true) {x : Int64} (hdg : decode cc pc = .ok (.putfield index, 3)) (kk : ∀ (H1 : Heap) (locs1 : List Loc), va_P D cls (wld adr cA (sJ μ 26 5 x) ν) H1 → va_S (AA adr) H0 H1 locs1 → W p l e R s m args below meth c H1 locs1 cells slots Q (F0 m (pc + 3) ls rest)) : W p l e R s m args below meth c H locs cells slots Q (F0 m pc ls (.long x :: .ref (adr 26) :: rest)) := by
  refine va_put (D := D) (ci := 1) (ty := .long) (C := R_LK) (T := T_LK) (N := 6) hx hb hts i_LK t_LK t_LK_ok n_LK hown hG.1 hP (wld_D hG.2.1) hS 26 (wld_e (by decide) (wc_C (by decide) rfl)) rfl 5 (by decide) hlink (fun _ h => h) rfl (by decide +kernel) rfl rfl (Nat.le_of_ble_eq_true rfl) hdg (fun H1 locs1 hP1 _ hS1 => kk H1 locs1 ?_ hS1)
  exact (wld_set (q := 26) (by decide) (sJ_C) (wc_C (by decide) rfl)) ▸ hP1
theorem g_RE_height (hx : p.tables.exec = Jvm.exec) (hb : c.code = cc) (hts : ∀ w ∈ lw_ok, w.before args s = true) (hown : s.vm.findClass own = some m.cls) (hG : Geo D adr cA s) (hP : va_P D cls (wld adr cA μ ν) H) (hlink : (Cond.fieldLink own index "LakeRelief$Relief" "height" "[I").before args s = true) (hdg : decode cc pc = .ok (.getfield index, 3)) (kk : W p l e R s m args below meth c H locs cells slots Q (F0 m (pc + 3) ls (.ref (adr 19) :: rest))) : W p l e R s m args below meth c H locs cells slots Q (F0 m pc ls (.ref (adr 18) :: rest)) :=
  va_get (D := D) (ci := 2) (C := R_RE) (T := T_RE) (N := 11) hx hb hts i_RE hown hG.1 hP 18 (wld_e (by decide) (wc_C (by decide) rfl)) rfl 0 (by decide) hlink (fun _ h => h) rfl hdg kk
theorem g_RE_down (hx : p.tables.exec = Jvm.exec) (hb : c.code = cc) (hts : ∀ w ∈ lw_ok, w.before args s = true) (hown : s.vm.findClass own = some m.cls) (hG : Geo D adr cA s) (hP : va_P D cls (wld adr cA μ ν) H) (hlink : (Cond.fieldLink own index "LakeRelief$Relief" "down" "[I").before args s = true) (hdg : decode cc pc = .ok (.getfield index, 3)) (kk : W p l e R s m args below meth c H locs cells slots Q (F0 m (pc + 3) ls (.ref (adr 20) :: rest))) : W p l e R s m args below meth c H locs cells slots Q (F0 m pc ls (.ref (adr 18) :: rest)) :=
  va_get (D := D) (ci := 2) (C := R_RE) (T := T_RE) (N := 11) hx hb hts i_RE hown hG.1 hP 18 (wld_e (by decide) (wc_C (by decide) rfl)) rfl 1 (by decide) hlink (fun _ h => h) rfl hdg kk
theorem g_RE_wayEnd (hx : p.tables.exec = Jvm.exec) (hb : c.code = cc) (hts : ∀ w ∈ lw_ok, w.before args s = true) (hown : s.vm.findClass own = some m.cls) (hG : Geo D adr cA s) (hP : va_P D cls (wld adr cA μ ν) H) (hlink : (Cond.fieldLink own index "LakeRelief$Relief" "wayEnd" "[I").before args s = true) (hdg : decode cc pc = .ok (.getfield index, 3)) (kk : W p l e R s m args below meth c H locs cells slots Q (F0 m (pc + 3) ls (.ref (adr 21) :: rest))) : W p l e R s m args below meth c H locs cells slots Q (F0 m pc ls (.ref (adr 18) :: rest)) :=
  va_get (D := D) (ci := 2) (C := R_RE) (T := T_RE) (N := 11) hx hb hts i_RE hown hG.1 hP 18 (wld_e (by decide) (wc_C (by decide) rfl)) rfl 2 (by decide) hlink (fun _ h => h) rfl hdg kk
theorem g_RE_fill (hx : p.tables.exec = Jvm.exec) (hb : c.code = cc) (hts : ∀ w ∈ lw_ok, w.before args s = true) (hown : s.vm.findClass own = some m.cls) (hG : Geo D adr cA s) (hP : va_P D cls (wld adr cA μ ν) H) (hlink : (Cond.fieldLink own index "LakeRelief$Relief" "fill" "[I").before args s = true) (hdg : decode cc pc = .ok (.getfield index, 3)) (kk : W p l e R s m args below meth c H locs cells slots Q (F0 m (pc + 3) ls (.ref (adr 22) :: rest))) : W p l e R s m args below meth c H locs cells slots Q (F0 m pc ls (.ref (adr 18) :: rest)) :=
  va_get (D := D) (ci := 2) (C := R_RE) (T := T_RE) (N := 11) hx hb hts i_RE hown hG.1 hP 18 (wld_e (by decide) (wc_C (by decide) rfl)) rfl 3 (by decide) hlink (fun _ h => h) rfl hdg kk
theorem g_RE_order (hx : p.tables.exec = Jvm.exec) (hb : c.code = cc) (hts : ∀ w ∈ lw_ok, w.before args s = true) (hown : s.vm.findClass own = some m.cls) (hG : Geo D adr cA s) (hP : va_P D cls (wld adr cA μ ν) H) (hlink : (Cond.fieldLink own index "LakeRelief$Relief" "order" "[I").before args s = true) (hdg : decode cc pc = .ok (.getfield index, 3)) (kk : W p l e R s m args below meth c H locs cells slots Q (F0 m (pc + 3) ls (.ref (adr 23) :: rest))) : W p l e R s m args below meth c H locs cells slots Q (F0 m pc ls (.ref (adr 18) :: rest)) :=
  va_get (D := D) (ci := 2) (C := R_RE) (T := T_RE) (N := 11) hx hb hts i_RE hown hG.1 hP 18 (wld_e (by decide) (wc_C (by decide) rfl)) rfl 4 (by decide) hlink (fun _ h => h) rfl hdg kk
theorem g_RE_neighbours (hx : p.tables.exec = Jvm.exec) (hb : c.code = cc) (hts : ∀ w ∈ lw_ok, w.before args s = true) (hown : s.vm.findClass own = some m.cls) (hG : Geo D adr cA s) (hP : va_P D cls (wld adr cA μ ν) H) (hlink : (Cond.fieldLink own index "LakeRelief$Relief" "neighbours" "[I").before args s = true) (hdg : decode cc pc = .ok (.getfield index, 3)) (kk : W p l e R s m args below meth c H locs cells slots Q (F0 m (pc + 3) ls (.ref (adr 24) :: rest))) : W p l e R s m args below meth c H locs cells slots Q (F0 m pc ls (.ref (adr 18) :: rest)) :=
  va_get (D := D) (ci := 2) (C := R_RE) (T := T_RE) (N := 11) hx hb hts i_RE hown hG.1 hP 18 (wld_e (by decide) (wc_C (by decide) rfl)) rfl 5 (by decide) hlink (fun _ h => h) rfl hdg kk
theorem g_RE_waiting (hx : p.tables.exec = Jvm.exec) (hb : c.code = cc) (hts : ∀ w ∈ lw_ok, w.before args s = true) (hown : s.vm.findClass own = some m.cls) (hG : Geo D adr cA s) (hP : va_P D cls (wld adr cA μ ν) H) (hlink : (Cond.fieldLink own index "LakeRelief$Relief" "waiting" "[I").before args s = true) (hdg : decode cc pc = .ok (.getfield index, 3)) (kk : W p l e R s m args below meth c H locs cells slots Q (F0 m (pc + 3) ls (.ref (adr 25) :: rest))) : W p l e R s m args below meth c H locs cells slots Q (F0 m pc ls (.ref (adr 18) :: rest)) :=
  va_get (D := D) (ci := 2) (C := R_RE) (T := T_RE) (N := 11) hx hb hts i_RE hown hG.1 hP 18 (wld_e (by decide) (wc_C (by decide) rfl)) rfl 6 (by decide) hlink (fun _ h => h) rfl hdg kk
theorem g_RE_width (hx : p.tables.exec = Jvm.exec) (hb : c.code = cc) (hts : ∀ w ∈ lw_ok, w.before args s = true) (hown : s.vm.findClass own = some m.cls) (hG : Geo D adr cA s) (hP : va_P D cls (wld adr cA μ ν) H) (hlink : (Cond.fieldLink own index "LakeRelief$Relief" "width" "I").before args s = true) (hdg : decode cc pc = .ok (.getfield index, 3)) (kk : W p l e R s m args below meth c H locs cells slots Q (F0 m (pc + 3) ls (.int (μ.1 18 7) :: rest))) : W p l e R s m args below meth c H locs cells slots Q (F0 m pc ls (.ref (adr 18) :: rest)) :=
  va_get (D := D) (ci := 2) (C := R_RE) (T := T_RE) (N := 11) hx hb hts i_RE hown hG.1 hP 18 (wld_e (by decide) (wc_C (by decide) rfl)) rfl 7 (by decide) hlink (fun _ h => h) rfl hdg kk
theorem p_RE_width (hx : p.tables.exec = Jvm.exec) (hb : c.code = cc) (hts : ∀ w ∈ lw_ok, w.before args s = true) (hown : s.vm.findClass own = some m.cls) (hG : Geo D adr cA s) (hP : va_P D cls (wld adr cA μ ν) H) (hS : va_S (AA adr) H0 H locs) (hlink : (Cond.fieldLink own index "LakeRelief$Relief" "width" "I").before args s = true) {x : Int32} (hdg : decode cc pc = .ok (.putfield index, 3)) (kk : ∀ (H1 : Heap) (locs1 : List Loc), va_P D cls (wld adr cA (sI μ 18 7 x) ν) H1 → va_S (AA adr) H0 H1 locs1 → W p l e R s m args below meth c H1 locs1 cells slots Q (F0 m (pc + 3) ls rest)) : W p l e R s m args below meth c H locs cells slots Q (F0 m pc ls (.int x :: .ref (adr 18) :: rest)) := by
  refine va_put (D := D) (ci := 2) (ty := .int) (C := R_RE) (T := T_RE) (N := 11) hx hb hts i_RE t_RE t_RE_ok n_RE hown hG.1 hP (wld_D hG.2.1) hS 18 (wld_e (by decide) (wc_C (by decide) rfl)) rfl 7 (by decide) hlink (fun _ h => h) rfl (by decide +kernel) rfl rfl (Nat.le_of_ble_eq_true rfl) hdg (fun H1 locs1 hP1 _ hS1 => kk H1 locs1 ?_ hS1)
  exact (wld_set (q := 18) (by decide) (sI_C) (wc_C (by decide) rfl)) ▸ hP1
theorem g_RE_size (hx : p.tables.exec = Jvm.exec) (hb : c.code = cc) (hts : ∀ w ∈ lw_ok, w.before args s = true) (hown : s.vm.findClass own = some m.cls) (hG : Geo D adr cA s) (hP : va_P D cls (wld adr cA μ ν) H) (hlink : (Cond.fieldLink own index "LakeRelief$Relief" "size" "I").before args s = true) (hdg : decode cc pc = .ok (.getfield index, 3)) (kk : W p l e R s m args below meth c H locs cells slots Q (F0 m (pc + 3) ls (.int (μ.1 18 8) :: rest))) : W p l e R s m args below meth c H locs cells slots Q (F0 m pc ls (.ref (adr 18) :: rest)) :=
  va_get (D := D) (ci := 2) (C := R_RE) (T := T_RE) (N := 11) hx hb hts i_RE hown hG.1 hP 18 (wld_e (by decide) (wc_C (by decide) rfl)) rfl 8 (by decide) hlink (fun _ h => h) rfl hdg kk
theorem p_RE_size (hx : p.tables.exec = Jvm.exec) (hb : c.code = cc) (hts : ∀ w ∈ lw_ok, w.before args s = true) (hown : s.vm.findClass own = some m.cls) (hG : Geo D adr cA s) (hP : va_P D cls (wld adr cA μ ν) H) (hS : va_S (AA adr) H0 H locs) (hlink : (Cond.fieldLink own index "LakeRelief$Relief" "size" "I").before args s = true) {x : Int32} (hdg : decode cc pc = .ok (.putfield index, 3)) (kk : ∀ (H1 : Heap) (locs1 : List Loc), va_P D cls (wld adr cA (sI μ 18 8 x) ν) H1 → va_S (AA adr) H0 H1 locs1 → W p l e R s m args below meth c H1 locs1 cells slots Q (F0 m (pc + 3) ls rest)) : W p l e R s m args below meth c H locs cells slots Q (F0 m pc ls (.int x :: .ref (adr 18) :: rest)) := by
  refine va_put (D := D) (ci := 2) (ty := .int) (C := R_RE) (T := T_RE) (N := 11) hx hb hts i_RE t_RE t_RE_ok n_RE hown hG.1 hP (wld_D hG.2.1) hS 18 (wld_e (by decide) (wc_C (by decide) rfl)) rfl 8 (by decide) hlink (fun _ h => h) rfl (by decide +kernel) rfl rfl (Nat.le_of_ble_eq_true rfl) hdg (fun H1 locs1 hP1 _ hS1 => kk H1 locs1 ?_ hS1)
  exact (wld_set (q := 18) (by decide) (sI_C) (wc_C (by decide) rfl)) ▸ hP1
theorem g_RE_landCount (hx : p.tables.exec = Jvm.exec) (hb : c.code = cc) (hts : ∀ w ∈ lw_ok, w.before args s = true) (hown : s.vm.findClass own = some m.cls) (hG : Geo D adr cA s) (hP : va_P D cls (wld adr cA μ ν) H) (hlink : (Cond.fieldLink own index "LakeRelief$Relief" "landCount" "I").before args s = true) (hdg : decode cc pc = .ok (.getfield index, 3)) (kk : W p l e R s m args below meth c H locs cells slots Q (F0 m (pc + 3) ls (.int (μ.1 18 9) :: rest))) : W p l e R s m args below meth c H locs cells slots Q (F0 m pc ls (.ref (adr 18) :: rest)) :=
  va_get (D := D) (ci := 2) (C := R_RE) (T := T_RE) (N := 11) hx hb hts i_RE hown hG.1 hP 18 (wld_e (by decide) (wc_C (by decide) rfl)) rfl 9 (by decide) hlink (fun _ h => h) rfl hdg kk
theorem p_RE_landCount (hx : p.tables.exec = Jvm.exec) (hb : c.code = cc) (hts : ∀ w ∈ lw_ok, w.before args s = true) (hown : s.vm.findClass own = some m.cls) (hG : Geo D adr cA s) (hP : va_P D cls (wld adr cA μ ν) H) (hS : va_S (AA adr) H0 H locs) (hlink : (Cond.fieldLink own index "LakeRelief$Relief" "landCount" "I").before args s = true) {x : Int32} (hdg : decode cc pc = .ok (.putfield index, 3)) (kk : ∀ (H1 : Heap) (locs1 : List Loc), va_P D cls (wld adr cA (sI μ 18 9 x) ν) H1 → va_S (AA adr) H0 H1 locs1 → W p l e R s m args below meth c H1 locs1 cells slots Q (F0 m (pc + 3) ls rest)) : W p l e R s m args below meth c H locs cells slots Q (F0 m pc ls (.int x :: .ref (adr 18) :: rest)) := by
  refine va_put (D := D) (ci := 2) (ty := .int) (C := R_RE) (T := T_RE) (N := 11) hx hb hts i_RE t_RE t_RE_ok n_RE hown hG.1 hP (wld_D hG.2.1) hS 18 (wld_e (by decide) (wc_C (by decide) rfl)) rfl 9 (by decide) hlink (fun _ h => h) rfl (by decide +kernel) rfl rfl (Nat.le_of_ble_eq_true rfl) hdg (fun H1 locs1 hP1 _ hS1 => kk H1 locs1 ?_ hS1)
  exact (wld_set (q := 18) (by decide) (sI_C) (wc_C (by decide) rfl)) ▸ hP1
theorem g_RE_land (hx : p.tables.exec = Jvm.exec) (hb : c.code = cc) (hts : ∀ w ∈ lw_ok, w.before args s = true) (hown : s.vm.findClass own = some m.cls) (hG : Geo D adr cA s) (hP : va_P D cls (wld adr cA μ ν) H) (hlink : (Cond.fieldLink own index "LakeRelief$Relief" "land" "J").before args s = true) (hdg : decode cc pc = .ok (.getfield index, 3)) (kk : W p l e R s m args below meth c H locs cells slots Q (F0 m (pc + 3) ls (.long (μ.2 18 10) :: rest))) : W p l e R s m args below meth c H locs cells slots Q (F0 m pc ls (.ref (adr 18) :: rest)) :=
  va_get (D := D) (ci := 2) (C := R_RE) (T := T_RE) (N := 11) hx hb hts i_RE hown hG.1 hP 18 (wld_e (by decide) (wc_C (by decide) rfl)) rfl 10 (by decide) hlink (fun _ h => h) rfl hdg kk
theorem p_RE_land (hx : p.tables.exec = Jvm.exec) (hb : c.code = cc) (hts : ∀ w ∈ lw_ok, w.before args s = true) (hown : s.vm.findClass own = some m.cls) (hG : Geo D adr cA s) (hP : va_P D cls (wld adr cA μ ν) H) (hS : va_S (AA adr) H0 H locs) (hlink : (Cond.fieldLink own index "LakeRelief$Relief" "land" "J").before args s = true) {x : Int64} (hdg : decode cc pc = .ok (.putfield index, 3)) (kk : ∀ (H1 : Heap) (locs1 : List Loc), va_P D cls (wld adr cA (sJ μ 18 10 x) ν) H1 → va_S (AA adr) H0 H1 locs1 → W p l e R s m args below meth c H1 locs1 cells slots Q (F0 m (pc + 3) ls rest)) : W p l e R s m args below meth c H locs cells slots Q (F0 m pc ls (.long x :: .ref (adr 18) :: rest)) := by
  refine va_put (D := D) (ci := 2) (ty := .long) (C := R_RE) (T := T_RE) (N := 11) hx hb hts i_RE t_RE t_RE_ok n_RE hown hG.1 hP (wld_D hG.2.1) hS 18 (wld_e (by decide) (wc_C (by decide) rfl)) rfl 10 (by decide) hlink (fun _ h => h) rfl (by decide +kernel) rfl rfl (Nat.le_of_ble_eq_true rfl) hdg (fun H1 locs1 hP1 _ hS1 => kk H1 locs1 ?_ hS1)
  exact (wld_set (q := 18) (by decide) (sJ_C) (wc_C (by decide) rfl)) ▸ hP1
theorem g_ST_places (hx : p.tables.exec = Jvm.exec) (hb : c.code = cc) (hts : ∀ w ∈ lw_ok, w.before args s = true) (hown : s.vm.findClass own = some m.cls) (hG : Geo D adr cA s) (hP : va_P D cls (wld adr cA μ ν) H) {o : Nat} (ho : o < 8) (hlink : (Cond.fieldLink own index "LakeRelief$Strip" "places" "[I").before args s = true) (hdg : decode cc pc = .ok (.getfield index, 3)) (kk : W p l e R s m args below meth c H locs cells slots Q (F0 m (pc + 3) ls (.ref (adr (10 + o)) :: rest))) : W p l e R s m args below meth c H locs cells slots Q (F0 m pc ls (.ref (adr (2 + o)) :: rest)) :=
  va_get (D := D) (ci := 3) (C := R_ST) (T := T_ST) (N := 3) hx hb hts i_ST hown hG.1 hP (2 + o) (wld_e (by omega) (wc_C (by omega) (sh_ST ho))) rfl 0 (by decide) hlink (fun _ h => h) rfl hdg kk
theorem g_ST_kind (hx : p.tables.exec = Jvm.exec) (hb : c.code = cc) (hts : ∀ w ∈ lw_ok, w.before args s = true) (hown : s.vm.findClass own = some m.cls) (hG : Geo D adr cA s) (hP : va_P D cls (wld adr cA μ ν) H) {o : Nat} (ho : o < 8) (hlink : (Cond.fieldLink own index "LakeRelief$Strip" "kind" "I").before args s = true) (hdg : decode cc pc = .ok (.getfield index, 3)) (kk : W p l e R s m args below meth c H locs cells slots Q (F0 m (pc + 3) ls (.int (μ.1 (2 + o) 1) :: rest))) : W p l e R s m args below meth c H locs cells slots Q (F0 m pc ls (.ref (adr (2 + o)) :: rest)) :=
  va_get (D := D) (ci := 3) (C := R_ST) (T := T_ST) (N := 3) hx hb hts i_ST hown hG.1 hP (2 + o) (wld_e (by omega) (wc_C (by omega) (sh_ST ho))) rfl 1 (by decide) hlink (fun _ h => h) rfl hdg kk
theorem p_ST_kind (hx : p.tables.exec = Jvm.exec) (hb : c.code = cc) (hts : ∀ w ∈ lw_ok, w.before args s = true) (hown : s.vm.findClass own = some m.cls) (hG : Geo D adr cA s) (hP : va_P D cls (wld adr cA μ ν) H) (hS : va_S (AA adr) H0 H locs) {o : Nat} (ho : o < 8) (hlink : (Cond.fieldLink own index "LakeRelief$Strip" "kind" "I").before args s = true) {x : Int32} (hdg : decode cc pc = .ok (.putfield index, 3)) (kk : ∀ (H1 : Heap) (locs1 : List Loc), va_P D cls (wld adr cA (sI μ (2 + o) 1 x) ν) H1 → va_S (AA adr) H0 H1 locs1 → W p l e R s m args below meth c H1 locs1 cells slots Q (F0 m (pc + 3) ls rest)) : W p l e R s m args below meth c H locs cells slots Q (F0 m pc ls (.int x :: .ref (adr (2 + o)) :: rest)) := by
  refine va_put (D := D) (ci := 3) (ty := .int) (C := R_ST) (T := T_ST) (N := 3) hx hb hts i_ST t_ST t_ST_ok n_ST hown hG.1 hP (wld_D hG.2.1) hS (2 + o) (wld_e (by omega) (wc_C (by omega) (sh_ST ho))) rfl 1 (by decide) hlink (fun _ h => h) rfl (by decide +kernel) rfl rfl (Nat.le_of_ble_eq_true rfl) hdg (fun H1 locs1 hP1 _ hS1 => kk H1 locs1 ?_ hS1)
  refine (wld_set (q := (2 + o)) (by omega) (sI_C) (wc_C (by omega) ?_)) ▸ hP1
  rw [sI_q, sh_ST ho]
  rfl
theorem g_ST_length (hx : p.tables.exec = Jvm.exec) (hb : c.code = cc) (hts : ∀ w ∈ lw_ok, w.before args s = true) (hown : s.vm.findClass own = some m.cls) (hG : Geo D adr cA s) (hP : va_P D cls (wld adr cA μ ν) H) {o : Nat} (ho : o < 8) (hlink : (Cond.fieldLink own index "LakeRelief$Strip" "length" "I").before args s = true) (hdg : decode cc pc = .ok (.getfield index, 3)) (kk : W p l e R s m args below meth c H locs cells slots Q (F0 m (pc + 3) ls (.int (μ.1 (2 + o) 2) :: rest))) : W p l e R s m args below meth c H locs cells slots Q (F0 m pc ls (.ref (adr (2 + o)) :: rest)) :=
  va_get (D := D) (ci := 3) (C := R_ST) (T := T_ST) (N := 3) hx hb hts i_ST hown hG.1 hP (2 + o) (wld_e (by omega) (wc_C (by omega) (sh_ST ho))) rfl 2 (by decide) hlink (fun _ h => h) rfl hdg kk
theorem p_ST_length (hx : p.tables.exec = Jvm.exec) (hb : c.code = cc) (hts : ∀ w ∈ lw_ok, w.before args s = true) (hown : s.vm.findClass own = some m.cls) (hG : Geo D adr cA s) (hP : va_P D cls (wld adr cA μ ν) H) (hS : va_S (AA adr) H0 H locs) {o : Nat} (ho : o < 8) (hlink : (Cond.fieldLink own index "LakeRelief$Strip" "length" "I").before args s = true) {x : Int32} (hdg : decode cc pc = .ok (.putfield index, 3)) (kk : ∀ (H1 : Heap) (locs1 : List Loc), va_P D cls (wld adr cA (sI μ (2 + o) 2 x) ν) H1 → va_S (AA adr) H0 H1 locs1 → W p l e R s m args below meth c H1 locs1 cells slots Q (F0 m (pc + 3) ls rest)) : W p l e R s m args below meth c H locs cells slots Q (F0 m pc ls (.int x :: .ref (adr (2 + o)) :: rest)) := by
  refine va_put (D := D) (ci := 3) (ty := .int) (C := R_ST) (T := T_ST) (N := 3) hx hb hts i_ST t_ST t_ST_ok n_ST hown hG.1 hP (wld_D hG.2.1) hS (2 + o) (wld_e (by omega) (wc_C (by omega) (sh_ST ho))) rfl 2 (by decide) hlink (fun _ h => h) rfl (by decide +kernel) rfl rfl (Nat.le_of_ble_eq_true rfl) hdg (fun H1 locs1 hP1 _ hS1 => kk H1 locs1 ?_ hS1)
  refine (wld_set (q := (2 + o)) (by omega) (sI_C) (wc_C (by omega) ?_)) ▸ hP1
  rw [sI_q, sh_ST ho]
  rfl
theorem g_LR_strips (hx : p.tables.exec = Jvm.exec) (hb : c.code = cc) (hts : ∀ w ∈ lw_ok, w.before args s = true) (hown : s.vm.findClass own = some m.cls) (hG : Geo D adr cA s) (hP : va_P D cls (wld adr cA μ ν) H) (hlink : (Cond.fieldLink own index "LakeRelief" "strips" "[LLakeRelief$Strip;").before args s = true) (hdg : decode cc pc = .ok (.getfield index, 3)) (kk : W p l e R s m args below meth c H locs cells slots Q (F0 m (pc + 3) ls (.ref (adr 1) :: rest))) : W p l e R s m args below meth c H locs cells slots Q (F0 m pc ls (.ref (adr 0) :: rest)) :=
  va_get (D := D) (ci := 4) (C := R_LR) (T := T_LR) (N := 4) hx hb hts i_LR hown hG.1 hP 0 (wld_e (by decide) (wc_C (by decide) rfl)) rfl 0 (by decide) hlink (fun _ h => h) rfl hdg kk
theorem g_LR_relief (hx : p.tables.exec = Jvm.exec) (hb : c.code = cc) (hts : ∀ w ∈ lw_ok, w.before args s = true) (hown : s.vm.findClass own = some m.cls) (hG : Geo D adr cA s) (hP : va_P D cls (wld adr cA μ ν) H) (hlink : (Cond.fieldLink own index "LakeRelief" "relief" "LLakeRelief$Relief;").before args s = true) (hdg : decode cc pc = .ok (.getfield index, 3)) (kk : W p l e R s m args below meth c H locs cells slots Q (F0 m (pc + 3) ls (.ref (adr 18) :: rest))) : W p l e R s m args below meth c H locs cells slots Q (F0 m pc ls (.ref (adr 0) :: rest)) :=
  va_get (D := D) (ci := 4) (C := R_LR) (T := T_LR) (N := 4) hx hb hts i_LR hown hG.1 hP 0 (wld_e (by decide) (wc_C (by decide) rfl)) rfl 1 (by decide) hlink (fun _ h => h) rfl hdg kk
theorem g_LR_lakes (hx : p.tables.exec = Jvm.exec) (hb : c.code = cc) (hts : ∀ w ∈ lw_ok, w.before args s = true) (hown : s.vm.findClass own = some m.cls) (hG : Geo D adr cA s) (hP : va_P D cls (wld adr cA μ ν) H) (hlink : (Cond.fieldLink own index "LakeRelief" "lakes" "LLakeRelief$Lakes;").before args s = true) (hdg : decode cc pc = .ok (.getfield index, 3)) (kk : W p l e R s m args below meth c H locs cells slots Q (F0 m (pc + 3) ls (.ref (adr 26) :: rest))) : W p l e R s m args below meth c H locs cells slots Q (F0 m pc ls (.ref (adr 0) :: rest)) :=
  va_get (D := D) (ci := 4) (C := R_LR) (T := T_LR) (N := 4) hx hb hts i_LR hown hG.1 hP 0 (wld_e (by decide) (wc_C (by decide) rfl)) rfl 2 (by decide) hlink (fun _ h => h) rfl hdg kk
theorem g_LR_isLaid (hx : p.tables.exec = Jvm.exec) (hb : c.code = cc) (hts : ∀ w ∈ lw_ok, w.before args s = true) (hown : s.vm.findClass own = some m.cls) (hG : Geo D adr cA s) (hP : va_P D cls (wld adr cA μ ν) H) (hlink : (Cond.fieldLink own index "LakeRelief" "isLaid" "Z").before args s = true) (hdg : decode cc pc = .ok (.getfield index, 3)) (kk : W p l e R s m args below meth c H locs cells slots Q (F0 m (pc + 3) ls (.int (μ.1 0 3) :: rest))) : W p l e R s m args below meth c H locs cells slots Q (F0 m pc ls (.ref (adr 0) :: rest)) :=
  va_get (D := D) (ci := 4) (C := R_LR) (T := T_LR) (N := 4) hx hb hts i_LR hown hG.1 hP 0 (wld_e (by decide) (wc_C (by decide) rfl)) rfl 3 (by decide) hlink (fun _ h => h) rfl hdg kk
theorem p_LR_isLaid (hx : p.tables.exec = Jvm.exec) (hb : c.code = cc) (hts : ∀ w ∈ lw_ok, w.before args s = true) (hown : s.vm.findClass own = some m.cls) (hG : Geo D adr cA s) (hP : va_P D cls (wld adr cA μ ν) H) (hS : va_S (AA adr) H0 H locs) (hlink : (Cond.fieldLink own index "LakeRelief" "isLaid" "Z").before args s = true) {x : Int32} (hz : x &&& 1 = x) (hdg : decode cc pc = .ok (.putfield index, 3)) (kk : ∀ (H1 : Heap) (locs1 : List Loc), va_P D cls (wld adr cA (sI μ 0 3 x) ν) H1 → va_S (AA adr) H0 H1 locs1 → W p l e R s m args below meth c H1 locs1 cells slots Q (F0 m (pc + 3) ls rest)) : W p l e R s m args below meth c H locs cells slots Q (F0 m pc ls (.int x :: .ref (adr 0) :: rest)) := by
  refine va_put (D := D) (ci := 4) (ty := .boolean) (C := R_LR) (T := T_LR) (N := 4) hx hb hts i_LR t_LR t_LR_ok n_LR hown hG.1 hP (wld_D hG.2.1) hS 0 (wld_e (by decide) (wc_C (by decide) rfl)) rfl 3 (by decide) hlink (fun _ h => h) rfl (by decide +kernel) (by show Value.int (x &&& 1) = _; rw [hz]) (fits_bool hz) (Nat.le_of_ble_eq_true rfl) hdg (fun H1 locs1 hP1 _ hS1 => kk H1 locs1 ?_ hS1)
  exact (wld_set (q := 0) (by decide) (sI_C) (wc_C (by decide) rfl)) ▸ hP1
theorem g_MO_kind (hx : p.tables.exec = Jvm.exec) (hb : c.code = cc) (hts : ∀ w ∈ lw_ok, w.before args s = true) (hown : s.vm.findClass own = some m.cls) (hG : Geo D adr cA s) (hP : va_P D cls (wld adr cA μ ν) H) (hlink : (Cond.fieldLink own index "LakeReliefModel" "kind" "[I").before args s = true) (hdg : decode cc pc = .ok (.getfield index, 3)) (kk : W p l e R s m args below meth c H locs cells slots Q (F0 m (pc + 3) ls (.ref (adr 64) :: rest))) : W p l e R s m args below meth c H locs cells slots Q (F0 m pc ls (.ref (adr 63) :: rest)) :=
  va_get (D := D) (ci := 5) (C := R_MO) (T := T_MO) (N := 29) hx hb hts i_MO hown hG.1 hP 63 (wld_e (by decide) (wc_M (by decide) rfl)) rfl 0 (by decide) hlink (fun _ h => h) rfl hdg kk
theorem g_MO_size (hx : p.tables.exec = Jvm.exec) (hb : c.code = cc) (hts : ∀ w ∈ lw_ok, w.before args s = true) (hown : s.vm.findClass own = some m.cls) (hG : Geo D adr cA s) (hP : va_P D cls (wld adr cA μ ν) H) (hlink : (Cond.fieldLink own index "LakeReliefModel" "size" "[I").before args s = true) (hdg : decode cc pc = .ok (.getfield index, 3)) (kk : W p l e R s m args below meth c H locs cells slots Q (F0 m (pc + 3) ls (.ref (adr 65) :: rest))) : W p l e R s m args below meth c H locs cells slots Q (F0 m pc ls (.ref (adr 63) :: rest)) :=
  va_get (D := D) (ci := 5) (C := R_MO) (T := T_MO) (N := 29) hx hb hts i_MO hown hG.1 hP 63 (wld_e (by decide) (wc_M (by decide) rfl)) rfl 1 (by decide) hlink (fun _ h => h) rfl hdg kk
theorem g_MO_strips (hx : p.tables.exec = Jvm.exec) (hb : c.code = cc) (hts : ∀ w ∈ lw_ok, w.before args s = true) (hown : s.vm.findClass own = some m.cls) (hG : Geo D adr cA s) (hP : va_P D cls (wld adr cA μ ν) H) (hlink : (Cond.fieldLink own index "LakeReliefModel" "strips" "[I").before args s = true) (hdg : decode cc pc = .ok (.getfield index, 3)) (kk : W p l e R s m args below meth c H locs cells slots Q (F0 m (pc + 3) ls (.ref (adr 66) :: rest))) : W p l e R s m args below meth c H locs cells slots Q (F0 m pc ls (.ref (adr 63) :: rest)) :=
  va_get (D := D) (ci := 5) (C := R_MO) (T := T_MO) (N := 29) hx hb hts i_MO hown hG.1 hP 63 (wld_e (by decide) (wc_M (by decide) rfl)) rfl 2 (by decide) hlink (fun _ h => h) rfl hdg kk
theorem g_MO_isLaid (hx : p.tables.exec = Jvm.exec) (hb : c.code = cc) (hts : ∀ w ∈ lw_ok, w.before args s = true) (hown : s.vm.findClass own = some m.cls) (hG : Geo D adr cA s) (hP : va_P D cls (wld adr cA μ ν) H) (hlink : (Cond.fieldLink own index "LakeReliefModel" "isLaid" "Z").before args s = true) (hdg : decode cc pc = .ok (.getfield index, 3)) (kk : W p l e R s m args below meth c H locs cells slots Q (F0 m (pc + 3) ls (.int (ν.1 63 3) :: rest))) : W p l e R s m args below meth c H locs cells slots Q (F0 m pc ls (.ref (adr 63) :: rest)) :=
  va_get (D := D) (ci := 5) (C := R_MO) (T := T_MO) (N := 29) hx hb hts i_MO hown hG.1 hP 63 (wld_e (by decide) (wc_M (by decide) rfl)) rfl 3 (by decide) hlink (fun _ h => h) rfl hdg kk
theorem p_MO_isLaid (hx : p.tables.exec = Jvm.exec) (hb : c.code = cc) (hts : ∀ w ∈ lw_ok, w.before args s = true) (hown : s.vm.findClass own = some m.cls) (hG : Geo D adr cA s) (hP : va_P D cls (wld adr cA μ ν) H) (hS : va_S (AA adr) H0 H locs) (hlink : (Cond.fieldLink own index "LakeReliefModel" "isLaid" "Z").before args s = true) {x : Int32} (hz : x &&& 1 = x) (hdg : decode cc pc = .ok (.putfield index, 3)) (kk : ∀ (H1 : Heap) (locs1 : List Loc), va_P D cls (wld adr cA μ (sI ν 63 3 x)) H1 → va_S (AA adr) H0 H1 locs1 → W p l e R s m args below meth c H1 locs1 cells slots Q (F0 m (pc + 3) ls rest)) : W p l e R s m args below meth c H locs cells slots Q (F0 m pc ls (.int x :: .ref (adr 63) :: rest)) := by
  refine va_put (D := D) (ci := 5) (ty := .boolean) (C := R_MO) (T := T_MO) (N := 29) hx hb hts i_MO t_MO t_MO_ok n_MO hown hG.1 hP (wld_D hG.2.1) hS 63 (wld_e (by decide) (wc_M (by decide) rfl)) rfl 3 (by decide) hlink (fun _ h => h) rfl (by decide +kernel) (by show Value.int (x &&& 1) = _; rw [hz]) (fits_bool hz) (Nat.le_of_ble_eq_true rfl) hdg (fun H1 locs1 hP1 _ hS1 => kk H1 locs1 ?_ hS1)
  exact (wld_set (q := 63) (by decide) (sI_M) (wc_M (by decide) rfl)) ▸ hP1
theorem g_MO_wide (hx : p.tables.exec = Jvm.exec) (hb : c.code = cc) (hts : ∀ w ∈ lw_ok, w.before args s = true) (hown : s.vm.findClass own = some m.cls) (hG : Geo D adr cA s) (hP : va_P D cls (wld adr cA μ ν) H) (hlink : (Cond.fieldLink own index "LakeReliefModel" "wide" "I").before args s = true) (hdg : decode cc pc = .ok (.getfield index, 3)) (kk : W p l e R s m args below meth c H locs cells slots Q (F0 m (pc + 3) ls (.int (ν.1 63 4) :: rest))) : W p l e R s m args below meth c H locs cells slots Q (F0 m pc ls (.ref (adr 63) :: rest)) :=
  va_get (D := D) (ci := 5) (C := R_MO) (T := T_MO) (N := 29) hx hb hts i_MO hown hG.1 hP 63 (wld_e (by decide) (wc_M (by decide) rfl)) rfl 4 (by decide) hlink (fun _ h => h) rfl hdg kk
theorem p_MO_wide (hx : p.tables.exec = Jvm.exec) (hb : c.code = cc) (hts : ∀ w ∈ lw_ok, w.before args s = true) (hown : s.vm.findClass own = some m.cls) (hG : Geo D adr cA s) (hP : va_P D cls (wld adr cA μ ν) H) (hS : va_S (AA adr) H0 H locs) (hlink : (Cond.fieldLink own index "LakeReliefModel" "wide" "I").before args s = true) {x : Int32} (hdg : decode cc pc = .ok (.putfield index, 3)) (kk : ∀ (H1 : Heap) (locs1 : List Loc), va_P D cls (wld adr cA μ (sI ν 63 4 x)) H1 → va_S (AA adr) H0 H1 locs1 → W p l e R s m args below meth c H1 locs1 cells slots Q (F0 m (pc + 3) ls rest)) : W p l e R s m args below meth c H locs cells slots Q (F0 m pc ls (.int x :: .ref (adr 63) :: rest)) := by
  refine va_put (D := D) (ci := 5) (ty := .int) (C := R_MO) (T := T_MO) (N := 29) hx hb hts i_MO t_MO t_MO_ok n_MO hown hG.1 hP (wld_D hG.2.1) hS 63 (wld_e (by decide) (wc_M (by decide) rfl)) rfl 4 (by decide) hlink (fun _ h => h) rfl (by decide +kernel) rfl rfl (Nat.le_of_ble_eq_true rfl) hdg (fun H1 locs1 hP1 _ hS1 => kk H1 locs1 ?_ hS1)
  exact (wld_set (q := 63) (by decide) (sI_M) (wc_M (by decide) rfl)) ▸ hP1
theorem g_MO_fields (hx : p.tables.exec = Jvm.exec) (hb : c.code = cc) (hts : ∀ w ∈ lw_ok, w.before args s = true) (hown : s.vm.findClass own = some m.cls) (hG : Geo D adr cA s) (hP : va_P D cls (wld adr cA μ ν) H) (hlink : (Cond.fieldLink own index "LakeReliefModel" "fields" "I").before args s = true) (hdg : decode cc pc = .ok (.getfield index, 3)) (kk : W p l e R s m args below meth c H locs cells slots Q (F0 m (pc + 3) ls (.int (ν.1 63 5) :: rest))) : W p l e R s m args below meth c H locs cells slots Q (F0 m pc ls (.ref (adr 63) :: rest)) :=
  va_get (D := D) (ci := 5) (C := R_MO) (T := T_MO) (N := 29) hx hb hts i_MO hown hG.1 hP 63 (wld_e (by decide) (wc_M (by decide) rfl)) rfl 5 (by decide) hlink (fun _ h => h) rfl hdg kk
theorem p_MO_fields (hx : p.tables.exec = Jvm.exec) (hb : c.code = cc) (hts : ∀ w ∈ lw_ok, w.before args s = true) (hown : s.vm.findClass own = some m.cls) (hG : Geo D adr cA s) (hP : va_P D cls (wld adr cA μ ν) H) (hS : va_S (AA adr) H0 H locs) (hlink : (Cond.fieldLink own index "LakeReliefModel" "fields" "I").before args s = true) {x : Int32} (hdg : decode cc pc = .ok (.putfield index, 3)) (kk : ∀ (H1 : Heap) (locs1 : List Loc), va_P D cls (wld adr cA μ (sI ν 63 5 x)) H1 → va_S (AA adr) H0 H1 locs1 → W p l e R s m args below meth c H1 locs1 cells slots Q (F0 m (pc + 3) ls rest)) : W p l e R s m args below meth c H locs cells slots Q (F0 m pc ls (.int x :: .ref (adr 63) :: rest)) := by
  refine va_put (D := D) (ci := 5) (ty := .int) (C := R_MO) (T := T_MO) (N := 29) hx hb hts i_MO t_MO t_MO_ok n_MO hown hG.1 hP (wld_D hG.2.1) hS 63 (wld_e (by decide) (wc_M (by decide) rfl)) rfl 5 (by decide) hlink (fun _ h => h) rfl (by decide +kernel) rfl rfl (Nat.le_of_ble_eq_true rfl) hdg (fun H1 locs1 hP1 _ hS1 => kk H1 locs1 ?_ hS1)
  exact (wld_set (q := 63) (by decide) (sI_M) (wc_M (by decide) rfl)) ▸ hP1
theorem g_MO_isSea (hx : p.tables.exec = Jvm.exec) (hb : c.code = cc) (hts : ∀ w ∈ lw_ok, w.before args s = true) (hown : s.vm.findClass own = some m.cls) (hG : Geo D adr cA s) (hP : va_P D cls (wld adr cA μ ν) H) (hlink : (Cond.fieldLink own index "LakeReliefModel" "isSea" "[Z").before args s = true) (hdg : decode cc pc = .ok (.getfield index, 3)) (kk : W p l e R s m args below meth c H locs cells slots Q (F0 m (pc + 3) ls (.ref (adr 67) :: rest))) : W p l e R s m args below meth c H locs cells slots Q (F0 m pc ls (.ref (adr 63) :: rest)) :=
  va_get (D := D) (ci := 5) (C := R_MO) (T := T_MO) (N := 29) hx hb hts i_MO hown hG.1 hP 63 (wld_e (by decide) (wc_M (by decide) rfl)) rfl 6 (by decide) hlink (fun _ h => h) rfl hdg kk
theorem g_MO_height (hx : p.tables.exec = Jvm.exec) (hb : c.code = cc) (hts : ∀ w ∈ lw_ok, w.before args s = true) (hown : s.vm.findClass own = some m.cls) (hG : Geo D adr cA s) (hP : va_P D cls (wld adr cA μ ν) H) (hlink : (Cond.fieldLink own index "LakeReliefModel" "height" "[I").before args s = true) (hdg : decode cc pc = .ok (.getfield index, 3)) (kk : W p l e R s m args below meth c H locs cells slots Q (F0 m (pc + 3) ls (.ref (adr 68) :: rest))) : W p l e R s m args below meth c H locs cells slots Q (F0 m pc ls (.ref (adr 63) :: rest)) :=
  va_get (D := D) (ci := 5) (C := R_MO) (T := T_MO) (N := 29) hx hb hts i_MO hown hG.1 hP 63 (wld_e (by decide) (wc_M (by decide) rfl)) rfl 7 (by decide) hlink (fun _ h => h) rfl hdg kk
theorem g_MO_down (hx : p.tables.exec = Jvm.exec) (hb : c.code = cc) (hts : ∀ w ∈ lw_ok, w.before args s = true) (hown : s.vm.findClass own = some m.cls) (hG : Geo D adr cA s) (hP : va_P D cls (wld adr cA μ ν) H) (hlink : (Cond.fieldLink own index "LakeReliefModel" "down" "[I").before args s = true) (hdg : decode cc pc = .ok (.getfield index, 3)) (kk : W p l e R s m args below meth c H locs cells slots Q (F0 m (pc + 3) ls (.ref (adr 69) :: rest))) : W p l e R s m args below meth c H locs cells slots Q (F0 m pc ls (.ref (adr 63) :: rest)) :=
  va_get (D := D) (ci := 5) (C := R_MO) (T := T_MO) (N := 29) hx hb hts i_MO hown hG.1 hP 63 (wld_e (by decide) (wc_M (by decide) rfl)) rfl 8 (by decide) hlink (fun _ h => h) rfl hdg kk
theorem g_MO_wayEnd (hx : p.tables.exec = Jvm.exec) (hb : c.code = cc) (hts : ∀ w ∈ lw_ok, w.before args s = true) (hown : s.vm.findClass own = some m.cls) (hG : Geo D adr cA s) (hP : va_P D cls (wld adr cA μ ν) H) (hlink : (Cond.fieldLink own index "LakeReliefModel" "wayEnd" "[I").before args s = true) (hdg : decode cc pc = .ok (.getfield index, 3)) (kk : W p l e R s m args below meth c H locs cells slots Q (F0 m (pc + 3) ls (.ref (adr 70) :: rest))) : W p l e R s m args below meth c H locs cells slots Q (F0 m pc ls (.ref (adr 63) :: rest)) :=
  va_get (D := D) (ci := 5) (C := R_MO) (T := T_MO) (N := 29) hx hb hts i_MO hown hG.1 hP 63 (wld_e (by decide) (wc_M (by decide) rfl)) rfl 9 (by decide) hlink (fun _ h => h) rfl hdg kk
theorem g_MO_fill (hx : p.tables.exec = Jvm.exec) (hb : c.code = cc) (hts : ∀ w ∈ lw_ok, w.before args s = true) (hown : s.vm.findClass own = some m.cls) (hG : Geo D adr cA s) (hP : va_P D cls (wld adr cA μ ν) H) (hlink : (Cond.fieldLink own index "LakeReliefModel" "fill" "[I").before args s = true) (hdg : decode cc pc = .ok (.getfield index, 3)) (kk : W p l e R s m args below meth c H locs cells slots Q (F0 m (pc + 3) ls (.ref (adr 71) :: rest))) : W p l e R s m args below meth c H locs cells slots Q (F0 m pc ls (.ref (adr 63) :: rest)) :=
  va_get (D := D) (ci := 5) (C := R_MO) (T := T_MO) (N := 29) hx hb hts i_MO hown hG.1 hP 63 (wld_e (by decide) (wc_M (by decide) rfl)) rfl 10 (by decide) hlink (fun _ h => h) rfl hdg kk
theorem g_MO_lakes (hx : p.tables.exec = Jvm.exec) (hb : c.code = cc) (hts : ∀ w ∈ lw_ok, w.before args s = true) (hown : s.vm.findClass own = some m.cls) (hG : Geo D adr cA s) (hP : va_P D cls (wld adr cA μ ν) H) (hlink : (Cond.fieldLink own index "LakeReliefModel" "lakes" "I").before args s = true) (hdg : decode cc pc = .ok (.getfield index, 3)) (kk : W p l e R s m args below meth c H locs cells slots Q (F0 m (pc + 3) ls (.int (ν.1 63 11) :: rest))) : W p l e R s m args below meth c H locs cells slots Q (F0 m pc ls (.ref (adr 63) :: rest)) :=
  va_get (D := D) (ci := 5) (C := R_MO) (T := T_MO) (N := 29) hx hb hts i_MO hown hG.1 hP 63 (wld_e (by decide) (wc_M (by decide) rfl)) rfl 11 (by decide) hlink (fun _ h => h) rfl hdg kk
theorem p_MO_lakes (hx : p.tables.exec = Jvm.exec) (hb : c.code = cc) (hts : ∀ w ∈ lw_ok, w.before args s = true) (hown : s.vm.findClass own = some m.cls) (hG : Geo D adr cA s) (hP : va_P D cls (wld adr cA μ ν) H) (hS : va_S (AA adr) H0 H locs) (hlink : (Cond.fieldLink own index "LakeReliefModel" "lakes" "I").before args s = true) {x : Int32} (hdg : decode cc pc = .ok (.putfield index, 3)) (kk : ∀ (H1 : Heap) (locs1 : List Loc), va_P D cls (wld adr cA μ (sI ν 63 11 x)) H1 → va_S (AA adr) H0 H1 locs1 → W p l e R s m args below meth c H1 locs1 cells slots Q (F0 m (pc + 3) ls rest)) : W p l e R s m args below meth c H locs cells slots Q (F0 m pc ls (.int x :: .ref (adr 63) :: rest)) := by
  refine va_put (D := D) (ci := 5) (ty := .int) (C := R_MO) (T := T_MO) (N := 29) hx hb hts i_MO t_MO t_MO_ok n_MO hown hG.1 hP (wld_D hG.2.1) hS 63 (wld_e (by decide) (wc_M (by decide) rfl)) rfl 11 (by decide) hlink (fun _ h => h) rfl (by decide +kernel) rfl rfl (Nat.le_of_ble_eq_true rfl) hdg (fun H1 locs1 hP1 _ hS1 => kk H1 locs1 ?_ hS1)
  exact (wld_set (q := 63) (by decide) (sI_M) (wc_M (by decide) rfl)) ▸ hP1
theorem g_MO_isDouble (hx : p.tables.exec = Jvm.exec) (hb : c.code = cc) (hts : ∀ w ∈ lw_ok, w.before args s = true) (hown : s.vm.findClass own = some m.cls) (hG : Geo D adr cA s) (hP : va_P D cls (wld adr cA μ ν) H) (hlink : (Cond.fieldLink own index "LakeReliefModel" "isDouble" "[Z").before args s = true) (hdg : decode cc pc = .ok (.getfield index, 3)) (kk : W p l e R s m args below meth c H locs cells slots Q (F0 m (pc + 3) ls (.ref (adr 72) :: rest))) : W p l e R s m args below meth c H locs cells slots Q (F0 m pc ls (.ref (adr 63) :: rest)) :=
  va_get (D := D) (ci := 5) (C := R_MO) (T := T_MO) (N := 29) hx hb hts i_MO hown hG.1 hP 63 (wld_e (by decide) (wc_M (by decide) rfl)) rfl 12 (by decide) hlink (fun _ h => h) rfl hdg kk
theorem g_MO_ground (hx : p.tables.exec = Jvm.exec) (hb : c.code = cc) (hts : ∀ w ∈ lw_ok, w.before args s = true) (hown : s.vm.findClass own = some m.cls) (hG : Geo D adr cA s) (hP : va_P D cls (wld adr cA μ ν) H) (hlink : (Cond.fieldLink own index "LakeReliefModel" "ground" "[J").before args s = true) (hdg : decode cc pc = .ok (.getfield index, 3)) (kk : W p l e R s m args below meth c H locs cells slots Q (F0 m (pc + 3) ls (.ref (adr 73) :: rest))) : W p l e R s m args below meth c H locs cells slots Q (F0 m pc ls (.ref (adr 63) :: rest)) :=
  va_get (D := D) (ci := 5) (C := R_MO) (T := T_MO) (N := 29) hx hb hts i_MO hown hG.1 hP 63 (wld_e (by decide) (wc_M (by decide) rfl)) rfl 13 (by decide) hlink (fun _ h => h) rfl hdg kk
theorem g_MO_rim (hx : p.tables.exec = Jvm.exec) (hb : c.code = cc) (hts : ∀ w ∈ lw_ok, w.before args s = true) (hown : s.vm.findClass own = some m.cls) (hG : Geo D adr cA s) (hP : va_P D cls (wld adr cA μ ν) H) (hlink : (Cond.fieldLink own index "LakeReliefModel" "rim" "[I").before args s = true) (hdg : decode cc pc = .ok (.getfield index, 3)) (kk : W p l e R s m args below meth c H locs cells slots Q (F0 m (pc + 3) ls (.ref (adr 74) :: rest))) : W p l e R s m args below meth c H locs cells slots Q (F0 m pc ls (.ref (adr 63) :: rest)) :=
  va_get (D := D) (ci := 5) (C := R_MO) (T := T_MO) (N := 29) hx hb hts i_MO hown hG.1 hP 63 (wld_e (by decide) (wc_M (by decide) rfl)) rfl 14 (by decide) hlink (fun _ h => h) rfl hdg kk
theorem g_MO_above (hx : p.tables.exec = Jvm.exec) (hb : c.code = cc) (hts : ∀ w ∈ lw_ok, w.before args s = true) (hown : s.vm.findClass own = some m.cls) (hG : Geo D adr cA s) (hP : va_P D cls (wld adr cA μ ν) H) (hlink : (Cond.fieldLink own index "LakeReliefModel" "above" "[I").before args s = true) (hdg : decode cc pc = .ok (.getfield index, 3)) (kk : W p l e R s m args below meth c H locs cells slots Q (F0 m (pc + 3) ls (.ref (adr 75) :: rest))) : W p l e R s m args below meth c H locs cells slots Q (F0 m pc ls (.ref (adr 63) :: rest)) :=
  va_get (D := D) (ci := 5) (C := R_MO) (T := T_MO) (N := 29) hx hb hts i_MO hown hG.1 hP 63 (wld_e (by decide) (wc_M (by decide) rfl)) rfl 15 (by decide) hlink (fun _ h => h) rfl hdg kk
theorem g_MO_first (hx : p.tables.exec = Jvm.exec) (hb : c.code = cc) (hts : ∀ w ∈ lw_ok, w.before args s = true) (hown : s.vm.findClass own = some m.cls) (hG : Geo D adr cA s) (hP : va_P D cls (wld adr cA μ ν) H) (hlink : (Cond.fieldLink own index "LakeReliefModel" "first" "[I").before args s = true) (hdg : decode cc pc = .ok (.getfield index, 3)) (kk : W p l e R s m args below meth c H locs cells slots Q (F0 m (pc + 3) ls (.ref (adr 76) :: rest))) : W p l e R s m args below meth c H locs cells slots Q (F0 m pc ls (.ref (adr 63) :: rest)) :=
  va_get (D := D) (ci := 5) (C := R_MO) (T := T_MO) (N := 29) hx hb hts i_MO hown hG.1 hP 63 (wld_e (by decide) (wc_M (by decide) rfl)) rfl 16 (by decide) hlink (fun _ h => h) rfl hdg kk
theorem g_MO_second (hx : p.tables.exec = Jvm.exec) (hb : c.code = cc) (hts : ∀ w ∈ lw_ok, w.before args s = true) (hown : s.vm.findClass own = some m.cls) (hG : Geo D adr cA s) (hP : va_P D cls (wld adr cA μ ν) H) (hlink : (Cond.fieldLink own index "LakeReliefModel" "second" "[I").before args s = true) (hdg : decode cc pc = .ok (.getfield index, 3)) (kk : W p l e R s m args below meth c H locs cells slots Q (F0 m (pc + 3) ls (.ref (adr 77) :: rest))) : W p l e R s m args below meth c H locs cells slots Q (F0 m pc ls (.ref (adr 63) :: rest)) :=
  va_get (D := D) (ci := 5) (C := R_MO) (T := T_MO) (N := 29) hx hb hts i_MO hown hG.1 hP 63 (wld_e (by decide) (wc_M (by decide) rfl)) rfl 17 (by decide) hlink (fun _ h => h) rfl hdg kk
theorem g_MO_isThere (hx : p.tables.exec = Jvm.exec) (hb : c.code = cc) (hts : ∀ w ∈ lw_ok, w.before args s = true) (hown : s.vm.findClass own = some m.cls) (hG : Geo D adr cA s) (hP : va_P D cls (wld adr cA μ ν) H) (hlink : (Cond.fieldLink own index "LakeReliefModel" "isThere" "[Z").before args s = true) (hdg : decode cc pc = .ok (.getfield index, 3)) (kk : W p l e R s m args below meth c H locs cells slots Q (F0 m (pc + 3) ls (.ref (adr 78) :: rest))) : W p l e R s m args below meth c H locs cells slots Q (F0 m pc ls (.ref (adr 63) :: rest)) :=
  va_get (D := D) (ci := 5) (C := R_MO) (T := T_MO) (N := 29) hx hb hts i_MO hown hG.1 hP 63 (wld_e (by decide) (wc_M (by decide) rfl)) rfl 18 (by decide) hlink (fun _ h => h) rfl hdg kk
theorem g_MO_water (hx : p.tables.exec = Jvm.exec) (hb : c.code = cc) (hts : ∀ w ∈ lw_ok, w.before args s = true) (hown : s.vm.findClass own = some m.cls) (hG : Geo D adr cA s) (hP : va_P D cls (wld adr cA μ ν) H) (hlink : (Cond.fieldLink own index "LakeReliefModel" "water" "[I").before args s = true) (hdg : decode cc pc = .ok (.getfield index, 3)) (kk : W p l e R s m args below meth c H locs cells slots Q (F0 m (pc + 3) ls (.ref (adr 79) :: rest))) : W p l e R s m args below meth c H locs cells slots Q (F0 m pc ls (.ref (adr 63) :: rest)) :=
  va_get (D := D) (ci := 5) (C := R_MO) (T := T_MO) (N := 29) hx hb hts i_MO hown hG.1 hP 63 (wld_e (by decide) (wc_M (by decide) rfl)) rfl 19 (by decide) hlink (fun _ h => h) rfl hdg kk
theorem g_MO_gone (hx : p.tables.exec = Jvm.exec) (hb : c.code = cc) (hts : ∀ w ∈ lw_ok, w.before args s = true) (hown : s.vm.findClass own = some m.cls) (hG : Geo D adr cA s) (hP : va_P D cls (wld adr cA μ ν) H) (hlink : (Cond.fieldLink own index "LakeReliefModel" "gone" "J").before args s = true) (hdg : decode cc pc = .ok (.getfield index, 3)) (kk : W p l e R s m args below meth c H locs cells slots Q (F0 m (pc + 3) ls (.long (ν.2 63 20) :: rest))) : W p l e R s m args below meth c H locs cells slots Q (F0 m pc ls (.ref (adr 63) :: rest)) :=
  va_get (D := D) (ci := 5) (C := R_MO) (T := T_MO) (N := 29) hx hb hts i_MO hown hG.1 hP 63 (wld_e (by decide) (wc_M (by decide) rfl)) rfl 20 (by decide) hlink (fun _ h => h) rfl hdg kk
theorem p_MO_gone (hx : p.tables.exec = Jvm.exec) (hb : c.code = cc) (hts : ∀ w ∈ lw_ok, w.before args s = true) (hown : s.vm.findClass own = some m.cls) (hG : Geo D adr cA s) (hP : va_P D cls (wld adr cA μ ν) H) (hS : va_S (AA adr) H0 H locs) (hlink : (Cond.fieldLink own index "LakeReliefModel" "gone" "J").before args s = true) {x : Int64} (hdg : decode cc pc = .ok (.putfield index, 3)) (kk : ∀ (H1 : Heap) (locs1 : List Loc), va_P D cls (wld adr cA μ (sJ ν 63 20 x)) H1 → va_S (AA adr) H0 H1 locs1 → W p l e R s m args below meth c H1 locs1 cells slots Q (F0 m (pc + 3) ls rest)) : W p l e R s m args below meth c H locs cells slots Q (F0 m pc ls (.long x :: .ref (adr 63) :: rest)) := by
  refine va_put (D := D) (ci := 5) (ty := .long) (C := R_MO) (T := T_MO) (N := 29) hx hb hts i_MO t_MO t_MO_ok n_MO hown hG.1 hP (wld_D hG.2.1) hS 63 (wld_e (by decide) (wc_M (by decide) rfl)) rfl 20 (by decide) hlink (fun _ h => h) rfl (by decide +kernel) rfl rfl (Nat.le_of_ble_eq_true rfl) hdg (fun H1 locs1 hP1 _ hS1 => kk H1 locs1 ?_ hS1)
  exact (wld_set (q := 63) (by decide) (sJ_M) (wc_M (by decide) rfl)) ▸ hP1
theorem g_MO_poured (hx : p.tables.exec = Jvm.exec) (hb : c.code = cc) (hts : ∀ w ∈ lw_ok, w.before args s = true) (hown : s.vm.findClass own = some m.cls) (hG : Geo D adr cA s) (hP : va_P D cls (wld adr cA μ ν) H) (hlink : (Cond.fieldLink own index "LakeReliefModel" "poured" "J").before args s = true) (hdg : decode cc pc = .ok (.getfield index, 3)) (kk : W p l e R s m args below meth c H locs cells slots Q (F0 m (pc + 3) ls (.long (ν.2 63 21) :: rest))) : W p l e R s m args below meth c H locs cells slots Q (F0 m pc ls (.ref (adr 63) :: rest)) :=
  va_get (D := D) (ci := 5) (C := R_MO) (T := T_MO) (N := 29) hx hb hts i_MO hown hG.1 hP 63 (wld_e (by decide) (wc_M (by decide) rfl)) rfl 21 (by decide) hlink (fun _ h => h) rfl hdg kk
theorem p_MO_poured (hx : p.tables.exec = Jvm.exec) (hb : c.code = cc) (hts : ∀ w ∈ lw_ok, w.before args s = true) (hown : s.vm.findClass own = some m.cls) (hG : Geo D adr cA s) (hP : va_P D cls (wld adr cA μ ν) H) (hS : va_S (AA adr) H0 H locs) (hlink : (Cond.fieldLink own index "LakeReliefModel" "poured" "J").before args s = true) {x : Int64} (hdg : decode cc pc = .ok (.putfield index, 3)) (kk : ∀ (H1 : Heap) (locs1 : List Loc), va_P D cls (wld adr cA μ (sJ ν 63 21 x)) H1 → va_S (AA adr) H0 H1 locs1 → W p l e R s m args below meth c H1 locs1 cells slots Q (F0 m (pc + 3) ls rest)) : W p l e R s m args below meth c H locs cells slots Q (F0 m pc ls (.long x :: .ref (adr 63) :: rest)) := by
  refine va_put (D := D) (ci := 5) (ty := .long) (C := R_MO) (T := T_MO) (N := 29) hx hb hts i_MO t_MO t_MO_ok n_MO hown hG.1 hP (wld_D hG.2.1) hS 63 (wld_e (by decide) (wc_M (by decide) rfl)) rfl 21 (by decide) hlink (fun _ h => h) rfl (by decide +kernel) rfl rfl (Nat.le_of_ble_eq_true rfl) hdg (fun H1 locs1 hP1 _ hS1 => kk H1 locs1 ?_ hS1)
  exact (wld_set (q := 63) (by decide) (sJ_M) (wc_M (by decide) rfl)) ▸ hP1
theorem g_MO_middle (hx : p.tables.exec = Jvm.exec) (hb : c.code = cc) (hts : ∀ w ∈ lw_ok, w.before args s = true) (hown : s.vm.findClass own = some m.cls) (hG : Geo D adr cA s) (hP : va_P D cls (wld adr cA μ ν) H) (hlink : (Cond.fieldLink own index "LakeReliefModel" "middle" "[I").before args s = true) (hdg : decode cc pc = .ok (.getfield index, 3)) (kk : W p l e R s m args below meth c H locs cells slots Q (F0 m (pc + 3) ls (.ref (adr 80) :: rest))) : W p l e R s m args below meth c H locs cells slots Q (F0 m pc ls (.ref (adr 63) :: rest)) :=
  va_get (D := D) (ci := 5) (C := R_MO) (T := T_MO) (N := 29) hx hb hts i_MO hown hG.1 hP 63 (wld_e (by decide) (wc_M (by decide) rfl)) rfl 22 (by decide) hlink (fun _ h => h) rfl hdg kk
theorem g_MO_owner (hx : p.tables.exec = Jvm.exec) (hb : c.code = cc) (hts : ∀ w ∈ lw_ok, w.before args s = true) (hown : s.vm.findClass own = some m.cls) (hG : Geo D adr cA s) (hP : va_P D cls (wld adr cA μ ν) H) (hlink : (Cond.fieldLink own index "LakeReliefModel" "owner" "[I").before args s = true) (hdg : decode cc pc = .ok (.getfield index, 3)) (kk : W p l e R s m args below meth c H locs cells slots Q (F0 m (pc + 3) ls (.ref (adr 81) :: rest))) : W p l e R s m args below meth c H locs cells slots Q (F0 m pc ls (.ref (adr 63) :: rest)) :=
  va_get (D := D) (ci := 5) (C := R_MO) (T := T_MO) (N := 29) hx hb hts i_MO hown hG.1 hP 63 (wld_e (by decide) (wc_M (by decide) rfl)) rfl 23 (by decide) hlink (fun _ h => h) rfl hdg kk
theorem g_MO_isUnder (hx : p.tables.exec = Jvm.exec) (hb : c.code = cc) (hts : ∀ w ∈ lw_ok, w.before args s = true) (hown : s.vm.findClass own = some m.cls) (hG : Geo D adr cA s) (hP : va_P D cls (wld adr cA μ ν) H) (hlink : (Cond.fieldLink own index "LakeReliefModel" "isUnder" "[Z").before args s = true) (hdg : decode cc pc = .ok (.getfield index, 3)) (kk : W p l e R s m args below meth c H locs cells slots Q (F0 m (pc + 3) ls (.ref (adr 82) :: rest))) : W p l e R s m args below meth c H locs cells slots Q (F0 m pc ls (.ref (adr 63) :: rest)) :=
  va_get (D := D) (ci := 5) (C := R_MO) (T := T_MO) (N := 29) hx hb hts i_MO hown hG.1 hP 63 (wld_e (by decide) (wc_M (by decide) rfl)) rfl 24 (by decide) hlink (fun _ h => h) rfl hdg kk
theorem g_MO_near (hx : p.tables.exec = Jvm.exec) (hb : c.code = cc) (hts : ∀ w ∈ lw_ok, w.before args s = true) (hown : s.vm.findClass own = some m.cls) (hG : Geo D adr cA s) (hP : va_P D cls (wld adr cA μ ν) H) (hlink : (Cond.fieldLink own index "LakeReliefModel" "near" "[I").before args s = true) (hdg : decode cc pc = .ok (.getfield index, 3)) (kk : W p l e R s m args below meth c H locs cells slots Q (F0 m (pc + 3) ls (.ref (adr 83) :: rest))) : W p l e R s m args below meth c H locs cells slots Q (F0 m pc ls (.ref (adr 63) :: rest)) :=
  va_get (D := D) (ci := 5) (C := R_MO) (T := T_MO) (N := 29) hx hb hts i_MO hown hG.1 hP 63 (wld_e (by decide) (wc_M (by decide) rfl)) rfl 25 (by decide) hlink (fun _ h => h) rfl hdg kk
theorem g_MO_nearMany (hx : p.tables.exec = Jvm.exec) (hb : c.code = cc) (hts : ∀ w ∈ lw_ok, w.before args s = true) (hown : s.vm.findClass own = some m.cls) (hG : Geo D adr cA s) (hP : va_P D cls (wld adr cA μ ν) H) (hlink : (Cond.fieldLink own index "LakeReliefModel" "nearMany" "I").before args s = true) (hdg : decode cc pc = .ok (.getfield index, 3)) (kk : W p l e R s m args below meth c H locs cells slots Q (F0 m (pc + 3) ls (.int (ν.1 63 26) :: rest))) : W p l e R s m args below meth c H locs cells slots Q (F0 m pc ls (.ref (adr 63) :: rest)) :=
  va_get (D := D) (ci := 5) (C := R_MO) (T := T_MO) (N := 29) hx hb hts i_MO hown hG.1 hP 63 (wld_e (by decide) (wc_M (by decide) rfl)) rfl 26 (by decide) hlink (fun _ h => h) rfl hdg kk
theorem p_MO_nearMany (hx : p.tables.exec = Jvm.exec) (hb : c.code = cc) (hts : ∀ w ∈ lw_ok, w.before args s = true) (hown : s.vm.findClass own = some m.cls) (hG : Geo D adr cA s) (hP : va_P D cls (wld adr cA μ ν) H) (hS : va_S (AA adr) H0 H locs) (hlink : (Cond.fieldLink own index "LakeReliefModel" "nearMany" "I").before args s = true) {x : Int32} (hdg : decode cc pc = .ok (.putfield index, 3)) (kk : ∀ (H1 : Heap) (locs1 : List Loc), va_P D cls (wld adr cA μ (sI ν 63 26 x)) H1 → va_S (AA adr) H0 H1 locs1 → W p l e R s m args below meth c H1 locs1 cells slots Q (F0 m (pc + 3) ls rest)) : W p l e R s m args below meth c H locs cells slots Q (F0 m pc ls (.int x :: .ref (adr 63) :: rest)) := by
  refine va_put (D := D) (ci := 5) (ty := .int) (C := R_MO) (T := T_MO) (N := 29) hx hb hts i_MO t_MO t_MO_ok n_MO hown hG.1 hP (wld_D hG.2.1) hS 63 (wld_e (by decide) (wc_M (by decide) rfl)) rfl 26 (by decide) hlink (fun _ h => h) rfl (by decide +kernel) rfl rfl (Nat.le_of_ble_eq_true rfl) hdg (fun H1 locs1 hP1 _ hS1 => kk H1 locs1 ?_ hS1)
  exact (wld_set (q := 63) (by decide) (sI_M) (wc_M (by decide) rfl)) ▸ hP1
theorem g_MO_heights (hx : p.tables.exec = Jvm.exec) (hb : c.code = cc) (hts : ∀ w ∈ lw_ok, w.before args s = true) (hown : s.vm.findClass own = some m.cls) (hG : Geo D adr cA s) (hP : va_P D cls (wld adr cA μ ν) H) (hlink : (Cond.fieldLink own index "LakeReliefModel" "heights" "[I").before args s = true) (hdg : decode cc pc = .ok (.getfield index, 3)) (kk : W p l e R s m args below meth c H locs cells slots Q (F0 m (pc + 3) ls (.ref (adr 84) :: rest))) : W p l e R s m args below meth c H locs cells slots Q (F0 m pc ls (.ref (adr 63) :: rest)) :=
  va_get (D := D) (ci := 5) (C := R_MO) (T := T_MO) (N := 29) hx hb hts i_MO hown hG.1 hP 63 (wld_e (by decide) (wc_M (by decide) rfl)) rfl 27 (by decide) hlink (fun _ h => h) rfl hdg kk
theorem g_MO_island (hx : p.tables.exec = Jvm.exec) (hb : c.code = cc) (hts : ∀ w ∈ lw_ok, w.before args s = true) (hown : s.vm.findClass own = some m.cls) (hG : Geo D adr cA s) (hP : va_P D cls (wld adr cA μ ν) H) (hlink : (Cond.fieldLink own index "LakeReliefModel" "island" "[I").before args s = true) (hdg : decode cc pc = .ok (.getfield index, 3)) (kk : W p l e R s m args below meth c H locs cells slots Q (F0 m (pc + 3) ls (.ref (adr 85) :: rest))) : W p l e R s m args below meth c H locs cells slots Q (F0 m pc ls (.ref (adr 63) :: rest)) :=
  va_get (D := D) (ci := 5) (C := R_MO) (T := T_MO) (N := 29) hx hb hts i_MO hown hG.1 hP 63 (wld_e (by decide) (wc_M (by decide) rfl)) rfl 28 (by decide) hlink (fun _ h => h) rfl hdg kk
end ROWS
end
section
def FU : Nat := 1000000
/-- an index within, or nothing -/
def G {α : Type} (i : Int32) (n : Nat) (x : Option α) : Option α := if 0 ≤ i.toInt ∧ i.toInt < (n : Int) then x else none
/-- a divisor that is not 0, or nothing -/
def Zg {α : Type} (y : Int32) (x : Option α) : Option α := if y = 0 then none else x
/-- a boolean, or nothing -/
def Bg {α : Type} (y : Int32) (x : Option α) : Option α := if y &&& 1 = y then x else none
/-- what arraycopy wants, or nothing -/
def Cg {α : Type} (i j n : Int32) (x : Option α) : Option α := if ¬ i < 0 ∧ ¬ j < 0 ∧ ¬ n < 0 ∧ i.toNatClampNeg + n.toNatClampNeg ≤ 12 ∧ j.toNatClampNeg + n.toNatClampNeg ≤ 12 then x else none
theorem if_p {c : Prop} [Decidable c] {α : Type} {a b r : α} (h : c) (e : (if c then a else b) = r) : a = r := by rwa [if_pos h] at e
theorem if_n {c : Prop} [Decidable c] {α : Type} {a b r : α} (h : ¬ c) (e : (if c then a else b) = r) : b = r := by rwa [if_neg h] at e
theorem G_some {α : Type} {i : Int32} {n : Nat} {x : Option α} {r : α} (h : G i n x = some r) : vp_in i n ∧ x = some r := by
  unfold G at h
  by_cases c : 0 ≤ i.toInt ∧ i.toInt < (n : Int)
  · rw [if_pos c] at h; exact ⟨vp_in_iff.mpr c, h⟩
  · rw [if_neg c] at h; cases h
theorem Zg_some {α : Type} {y : Int32} {x : Option α} {r : α} (h : Zg y x = some r) : ¬ y = 0 ∧ x = some r := by
  unfold Zg at h
  by_cases c : y = 0
  · rw [if_pos c] at h; cases h
  · rw [if_neg c] at h; exact ⟨c, h⟩
theorem Bg_some {α : Type} {y : Int32} {x : Option α} {r : α} (h : Bg y x = some r) : y &&& 1 = y ∧ x = some r := by
  unfold Bg at h
  by_cases c : y &&& 1 = y
  · rw [if_pos c] at h; exact ⟨c, h⟩
  · rw [if_neg c] at h; cases h
theorem Cg_some {α : Type} {i j n : Int32} {x : Option α} {r : α} (h : Cg i j n x = some r) : (¬ i < 0 ∧ ¬ j < 0 ∧ ¬ n < 0 ∧ i.toNatClampNeg + n.toNatClampNeg ≤ 12 ∧ j.toNatClampNeg + n.toNatClampNeg ≤ 12) ∧ x = some r := by
  unfold Cg at h
  by_cases c : ¬ i < 0 ∧ ¬ j < 0 ∧ ¬ n < 0 ∧ i.toNatClampNeg + n.toNatClampNeg ≤ 12 ∧ j.toNatClampNeg + n.toNatClampNeg ≤ 12
  · rw [if_pos c] at h; exact ⟨c, h⟩
  · rw [if_neg c] at h; cases h
theorem B_some {α β : Type} {x : Option α} {f : α → Option β} {r : β} (h : x.bind f = some r) : ∃ v, x = some v ∧ f v = some r := by
  cases x with
  | none => cases h
  | some v => exact ⟨v, rfl, h⟩
theorem vin_lt {i : Int32} {n : Nat} (h : vp_in i n) : i.toNatClampNeg < n := Nat.not_le.mp fun q => h (Or.inr q)
theorem sw_ne {x : Int32} {k : Int} (h : ¬ x = Int32.ofInt k) (h1 : -2147483648 ≤ k) (h2 : k < 2147483648) : ¬ x.toInt = k := by
  intro e
  exact h (by rw [← e]; exact (Int32.ofInt_toInt x).symm)
section ROWS2
variable {p : Program} {l : Launch} {e : Env} {R : Room} {s : State} {m : MethodId} {args : Array Value} {below : List Frame} {meth : Method} {c : Code} {H : Heap} {locs : List Loc} {cells slots : Nat} {Q : State → Prop}
variable {cc : ByteArray} {pc : Nat} {ls : Array Slot} {rest : List Value} {D : va_G} {adr : Nat → Nat} {cA : Nat → ClassId} {μ ν μ' ν' : Mem} {H0 : Heap} {own : String} {index : Nat}
theorem r_iald (hx : p.tables.exec = Jvm.exec) (hb : c.code = cc) (hG : Geo D adr cA s) (hP : va_P D cls (wld adr cA μ ν) H) (q n : Nat) {f : Nat → Int32} (hq : q < 86) (hc : wcell adr cA μ ν q = .inl (cA 0, n, .inl f)) {i : Int32} (hin : vp_in i n) (hdg : decode cc pc = .ok (.iaload, 1))
    (kk : W p l e R s m args below meth c H locs cells slots Q (F0 m (pc + 1) ls (.int (f i.toNatClampNeg) :: rest))) : W p l e R s m args below meth c H locs cells slots Q (F0 m pc ls (.int i :: .ref (adr q) :: rest)) :=
  va_iald hx hb hG.1 hP q 0 (wld_e hq hc) rfl hin hdg kk
theorem r_zald (hx : p.tables.exec = Jvm.exec) (hb : c.code = cc) (hG : Geo D adr cA s) (hP : va_P D cls (wld adr cA μ ν) H) (q n : Nat) {f : Nat → Int32} (hq : q < 86) (hc : wcell adr cA μ ν q = .inl (cA 1, n, .inl f)) {i : Int32} (hin : vp_in i n) (hdg : decode cc pc = .ok (.baload, 1))
    (kk : W p l e R s m args below meth c H locs cells slots Q (F0 m (pc + 1) ls (.int (f i.toNatClampNeg) :: rest))) : W p l e R s m args below meth c H locs cells slots Q (F0 m pc ls (.int i :: .ref (adr q) :: rest)) :=
  va_zald hx hb hG.1 hP q 1 (wld_e hq hc) rfl hin hdg kk
theorem r_lald (hx : p.tables.exec = Jvm.exec) (hb : c.code = cc) (hG : Geo D adr cA s) (hP : va_P D cls (wld adr cA μ ν) H) (q n : Nat) {f : Nat → Int64} (hq : q < 86) (hc : wcell adr cA μ ν q = .inl (cA 2, n, .inr (.inl f))) {i : Int32} (hin : vp_in i n) (hdg : decode cc pc = .ok (.laload, 1))
    (kk : W p l e R s m args below meth c H locs cells slots Q (F0 m (pc + 1) ls (.long (f i.toNatClampNeg) :: rest))) : W p l e R s m args below meth c H locs cells slots Q (F0 m pc ls (.int i :: .ref (adr q) :: rest)) :=
  va_lald hx hb hG.1 hP q 2 (wld_e hq hc) rfl hin hdg kk
theorem r_aST (hx : p.tables.exec = Jvm.exec) (hb : c.code = cc) (hG : Geo D adr cA s) (hP : va_P D cls (wld adr cA μ ν) H) {i : Int32} (hin : vp_in i 8) (hdg : decode cc pc = .ok (.aaload, 1))
    (kk : W p l e R s m args below meth c H locs cells slots Q (F0 m (pc + 1) ls (.ref (adr (2 + i.toNatClampNeg)) :: rest))) : W p l e R s m args below meth c H locs cells slots Q (F0 m pc ls (.int i :: .ref (adr 1) :: rest)) :=
  va_aldq hx hb hG.1 hP 1 3 (n := 8) (f := fun j => some (adr (2 + j))) (wld_e (by decide) (wc_C (by decide) rfl)) rfl hin hdg kk
theorem r_aLA (hx : p.tables.exec = Jvm.exec) (hb : c.code = cc) (hG : Geo D adr cA s) (hP : va_P D cls (wld adr cA μ ν) H) {i : Int32} (hin : vp_in i 35) (hdg : decode cc pc = .ok (.aaload, 1))
    (kk : W p l e R s m args below meth c H locs cells slots Q (F0 m (pc + 1) ls (.ref (adr (28 + i.toNatClampNeg)) :: rest))) : W p l e R s m args below meth c H locs cells slots Q (F0 m pc ls (.int i :: .ref (adr 27) :: rest)) :=
  va_aldq hx hb hG.1 hP 27 4 (n := 35) (f := fun j => some (adr (28 + j))) (wld_e (by decide) (wc_C (by decide) rfl)) rfl hin hdg kk
theorem rC_iast (hx : p.tables.exec = Jvm.exec) (hb : c.code = cc) (hG : Geo D adr cA s) (hP : va_P D cls (wld adr cA μ ν) H) (hS : va_S (AA adr) H0 H locs) (q n : Nat) (hq : q < 63) (hc : ∀ f g, shC adr cA q f g = .inl (cA 0, n, .inl f)) {i x : Int32} (hin : vp_in i n) (hdg : decode cc pc = .ok (.iastore, 1))
    (kk : ∀ (H1 : Heap) (locs1 : List Loc), va_P D cls (wld adr cA (sI μ q i.toNatClampNeg x) ν) H1 → va_S (AA adr) H0 H1 locs1 → W p l e R s m args below meth c H1 locs1 cells slots Q (F0 m (pc + 1) ls rest)) : W p l e R s m args below meth c H locs cells slots Q (F0 m pc ls (.int x :: .int i :: .ref (adr q) :: rest)) := by
  refine va_iast hx hb hG.1 hP (wld_D hG.2.1) hS q 0 (n := n) (f := μ.1 q) (wld_e (by omega) (wc_C hq (hc _ _))) rfl hin hdg (fun H1 locs1 hP1 _ hS1 => kk H1 locs1 ?_ hS1)
  refine (wld_set (q := q) (by omega) (sI_C) (wc_C hq ?_)) ▸ hP1
  rw [hc, sI_q]
theorem rM_iast (hx : p.tables.exec = Jvm.exec) (hb : c.code = cc) (hG : Geo D adr cA s) (hP : va_P D cls (wld adr cA μ ν) H) (hS : va_S (AA adr) H0 H locs) (q n : Nat) (hq : ¬ q < 63) (hq2 : q < 86) (hc : ∀ f g, shM adr cA q f g = .inl (cA 0, n, .inl f)) {i x : Int32} (hin : vp_in i n) (hdg : decode cc pc = .ok (.iastore, 1))
    (kk : ∀ (H1 : Heap) (locs1 : List Loc), va_P D cls (wld adr cA μ (sI ν q i.toNatClampNeg x)) H1 → va_S (AA adr) H0 H1 locs1 → W p l e R s m args below meth c H1 locs1 cells slots Q (F0 m (pc + 1) ls rest)) : W p l e R s m args below meth c H locs cells slots Q (F0 m pc ls (.int x :: .int i :: .ref (adr q) :: rest)) := by
  refine va_iast hx hb hG.1 hP (wld_D hG.2.1) hS q 0 (n := n) (f := ν.1 q) (wld_e hq2 (wc_M hq (hc _ _))) rfl hin hdg (fun H1 locs1 hP1 _ hS1 => kk H1 locs1 ?_ hS1)
  refine (wld_set (q := q) hq2 (sI_M) (wc_M hq ?_)) ▸ hP1
  rw [hc, sI_q]
theorem rM_zast (hx : p.tables.exec = Jvm.exec) (hb : c.code = cc) (hG : Geo D adr cA s) (hP : va_P D cls (wld adr cA μ ν) H) (hS : va_S (AA adr) H0 H locs) (q n : Nat) (hq : ¬ q < 63) (hq2 : q < 86) (hc : ∀ f g, shM adr cA q f g = .inl (cA 1, n, .inl f)) {i x : Int32} (hin : vp_in i n) (hdg : decode cc pc = .ok (.bastore, 1))
    (kk : ∀ (H1 : Heap) (locs1 : List Loc), va_P D cls (wld adr cA μ (sI ν q i.toNatClampNeg (x &&& 1))) H1 → va_S (AA adr) H0 H1 locs1 → W p l e R s m args below meth c H1 locs1 cells slots Q (F0 m (pc + 1) ls rest)) : W p l e R s m args below meth c H locs cells slots Q (F0 m pc ls (.int x :: .int i :: .ref (adr q) :: rest)) := by
  refine va_zast hx hb hG.1 hP (wld_D hG.2.1) hS q 1 (n := n) (f := ν.1 q) (wld_e hq2 (wc_M hq (hc _ _))) rfl hin hdg (fun H1 locs1 hP1 _ hS1 => kk H1 locs1 ?_ hS1)
  refine (wld_set (q := q) hq2 (sI_M) (wc_M hq ?_)) ▸ hP1
  rw [hc, sI_q]
  rfl
theorem rM_last (hx : p.tables.exec = Jvm.exec) (hb : c.code = cc) (hG : Geo D adr cA s) (hP : va_P D cls (wld adr cA μ ν) H) (hS : va_S (AA adr) H0 H locs) (q n : Nat) (hq : ¬ q < 63) (hq2 : q < 86) (hc : ∀ f g, shM adr cA q f g = .inl (cA 2, n, .inr (.inl g))) {i : Int32} {x : Int64} (hin : vp_in i n) (hdg : decode cc pc = .ok (.lastore, 1))
    (kk : ∀ (H1 : Heap) (locs1 : List Loc), va_P D cls (wld adr cA μ (sJ ν q i.toNatClampNeg x)) H1 → va_S (AA adr) H0 H1 locs1 → W p l e R s m args below meth c H1 locs1 cells slots Q (F0 m (pc + 1) ls rest)) : W p l e R s m args below meth c H locs cells slots Q (F0 m pc ls (.long x :: .int i :: .ref (adr q) :: rest)) := by
  refine va_last hx hb hG.1 hP (wld_D hG.2.1) hS q 2 (n := n) (f := ν.2 q) (wld_e hq2 (wc_M hq (hc _ _))) rfl hin hdg (fun H1 locs1 hP1 _ hS1 => kk H1 locs1 ?_ hS1)
  refine (wld_set (q := q) hq2 (sJ_M) (wc_M hq ?_)) ▸ hP1
  rw [hc, sJ_q]
/-- arraycopy between the places of two strips -/
theorem r_copy (hx : p.tables.exec = Jvm.exec) (hb : c.code = cc) (hml : c.maxLocals = ls.size) (hts : ∀ w ∈ lw_ok, w.before args s = true) (hown : s.vm.findClass own = some m.cls) (hlink : (Cond.methodLink own index arraycopyName).before args s = true) (hG : Geo D adr cA s) (hP : va_P D cls (wld adr cA μ ν) H) (hS : va_S (AA adr) H0 H locs) {r t : Nat} (hr : r < 8) (ht : t < 8) {sp dp n : Int32}
    (hg : ¬ sp < 0 ∧ ¬ dp < 0 ∧ ¬ n < 0 ∧ sp.toNatClampNeg + n.toNatClampNeg ≤ 12 ∧ dp.toNatClampNeg + n.toNatClampNeg ≤ 12) (hnat : (Cond.native arraycopyName).before args s = true) (hstat : (Cond.static arraycopyName).before args s = true) (hini : (Cond.initialized "java/lang/System").before args s = true) (hframes : 1 ≤ R.frames) (hlocals : (rest.map fun v => v.category).sum + (nativeFrameWords "java/lang/System" "arraycopy" 5 + 11) ≤ R.locals) (hdg : decode cc pc = .ok (.invokestatic index, 3))
    (kk : ∀ (H1 : Heap) (locs1 : List Loc), va_P D cls (wld adr cA (sR μ (10 + t) (va_cpy (μ.1 (10 + r)) (μ.1 (10 + t)) sp.toNatClampNeg dp.toNatClampNeg n.toNatClampNeg)) ν) H1 → va_S (AA adr) H0 H1 locs1 → W p l e R s m args below meth c H1 locs1 cells slots Q (F0 m (pc + 3) ls rest)) : W p l e R s m args below meth c H locs cells slots Q (F0 m pc ls (.int n :: .int dp :: .ref (adr (10 + t)) :: .int sp :: .ref (adr (10 + r)) :: rest)) := by
  refine va_copyi hx hb hml hown hlink hnat hstat hini hG.1 hP (wld_D hG.2.1) hS (10 + r) (10 + t) 0 0 (n0 := 12) (n1 := 12) (f := μ.1 (10 + r)) (g := μ.1 (10 + t)) (ty := .int) (wld_e (by omega) (wc_C (by omega) (sh_PL hr))) (wld_e (by omega) (wc_C (by omega) (sh_PL ht))) rfl rfl rfl hg.1 hg.2.1 hg.2.2.1 hg.2.2.2.1 hg.2.2.2.2 (fun _ _ => rfl) hframes hlocals hdg (fun H1 locs1 hP1 _ hS1 => kk H1 locs1 ?_ hS1)
  refine (wld_set (q := 10 + t) (by omega) (sR_C) (wc_C (by omega) ?_)) ▸ hP1
  rw [sh_PL ht, sR_q]
/-- a receiver -/
theorem rc_o {q ci : Nat} {x : vw_C} {fs : List Value} (hG : Geo D adr cA s) (hP : va_P D cls (wld adr cA μ ν) H) (hq : q < 86) (hc : wcell adr cA μ ν q = .inr (ci, fs)) (hi : cls[ci]? = some x) : ∃ cell : Cell, H[adr q]? = some cell ∧ cell.vm.isStatics = false ∧ s.vm.findClass x.1 = some cell.cls := va_recv hG.1 hP hi (wld_e hq hc)
def QI (D : va_G) (adr : Nat → Nat) (cA : Nat → ClassId) (r0 : Int32) (μ ν : Mem) : Array Value → State → Outcome → State → Prop := va_Qi (fun (r : Int32) (u : Mem × Mem) => r = r0 ∧ u = (μ, ν)) (fun u U => Wd D adr cA u.1 u.2 U) (AA adr)
def QL (D : va_G) (adr : Nat → Nat) (cA : Nat → ClassId) (r0 : Int64) (μ ν : Mem) : Array Value → State → Outcome → State → Prop := va_Ql (fun (r : Int64) (u : Mem × Mem) => r = r0 ∧ u = (μ, ν)) (fun u U => Wd D adr cA u.1 u.2 U) (AA adr)
def QV (D : va_G) (adr : Nat → Nat) (cA : Nat → ClassId) (μ ν : Mem) : Array Value → State → Outcome → State → Prop := va_Qv (fun (u : Mem × Mem) => u = (μ, ν)) (fun u U => Wd D adr cA u.1 u.2 U) (AA adr)
def RunI (p : Program) (l : Launch) (e : Env) (R : Room) (s : State) (m : MethodId) (args : Array Value) (below : List Frame) (meth : Method) (c : Code) (H : Heap) (locs : List Loc) (D : va_G) (adr : Nat → Nat) (cA : Nat → ClassId) (r0 : Int32) (μ' ν' : Mem) (av : List Value) (pc : Nat) (ls : Array Slot) (st rest : List Value) : Prop := va_Run p l e R s m args below meth c H locs 0 0 0 0 (F0 m pc ls st) rest (QI D adr cA r0 μ' ν' av.toArray) (AA adr)
theorem ret_i (hx : p.tables.exec = Jvm.exec) (hb : c.code = cc) (hr : meth.sig.returnType = some .int) (hlocks : meth.locks = false) (hG : Geo D adr cA s) {r : Int32} (hdg : decode cc pc = .ok (.ireturn, 1)) (hP : va_P D cls (wld adr cA μ ν) H) (hS : va_S (AA adr) s.heap H locs) : W p l e R s m args below meth c H locs 0 0 (MQ below (QI D adr cA r μ ν) args s 0 0 (AA adr)) (F0 m pc ls [.int r]) :=
  W.iret (v := r) hx hb hr (fun t ht hW => ⟨⟨r, (μ, ν), rfl, ⟨rfl, rfl⟩, by rw [ht]; exact hP, hG.warm hW⟩, hS.F ht⟩) hS.2.2 hdg hlocks
theorem ret_z (hx : p.tables.exec = Jvm.exec) (hb : c.code = cc) (hr : meth.sig.returnType = some .boolean) (hlocks : meth.locks = false) (hG : Geo D adr cA s) {r : Int32} (hz : r &&& 1 = r) (hdg : decode cc pc = .ok (.ireturn, 1)) (hP : va_P D cls (wld adr cA μ ν) H) (hS : va_S (AA adr) s.heap H locs) : W p l e R s m args below meth c H locs 0 0 (MQ below (QI D adr cA r μ ν) args s 0 0 (AA adr)) (F0 m pc ls [.int r]) :=
  W.zret (v := r) hx hb hr (by show Value.int (r &&& 1) = _; rw [hz]) (fun t ht hW => ⟨⟨r, (μ, ν), rfl, ⟨rfl, rfl⟩, by rw [ht]; exact hP, hG.warm hW⟩, hS.F ht⟩) hS.2.2 hdg hlocks
theorem ret_l (hx : p.tables.exec = Jvm.exec) (hb : c.code = cc) (hr : meth.sig.returnType = some .long) (hlocks : meth.locks = false) (hG : Geo D adr cA s) {r : Int64} (hdg : decode cc pc = .ok (.lreturn, 1)) (hP : va_P D cls (wld adr cA μ ν) H) (hS : va_S (AA adr) s.heap H locs) : W p l e R s m args below meth c H locs 0 0 (MQ below (QL D adr cA r μ ν) args s 0 0 (AA adr)) (F0 m pc ls [.long r]) :=
  W.lret (v := r) hx hb hr (fun t ht hW => ⟨⟨r, (μ, ν), rfl, ⟨rfl, rfl⟩, by rw [ht]; exact hP, hG.warm hW⟩, hS.F ht⟩) hS.2.2 hdg hlocks
theorem ret_v (hx : p.tables.exec = Jvm.exec) (hb : c.code = cc) (hr : meth.sig.returnType = none) (hlocks : meth.locks = false) (hG : Geo D adr cA s) (hdg : decode cc pc = .ok (.return_, 1)) (hP : va_P D cls (wld adr cA μ ν) H) (hS : va_S (AA adr) s.heap H locs) : W p l e R s m args below meth c H locs 0 0 (MQ below (QV D adr cA μ ν) args s 0 0 (AA adr)) (F0 m pc ls []) :=
  W.vret hx hb hr (fun t ht hW => ⟨⟨(μ, ν), rfl, rfl, by rw [ht]; exact hP, hG.warm hW⟩, hS.F ht⟩) hS.2.2 hdg hlocks
variable {y : MethodName} {bytes : ByteArray} {maxL nL n : Nat} {ret : Option FieldType} {ws : List Cond} {rm : Room} {C : String} {b : Nat} {As : List Value} {Qc : Array Value → State → Outcome → State → Prop}
theorem kv (S : CallFix p m c cc nL s args lw_ok own) (cw : CallW R s args own C index y bytes maxL ret ws rm 0 0 n) (hM : Met l y ws rm (va_Pc (.ref b :: As) (Wd D adr cA μ ν)) Qc 0 0 (AA adr)) (hG : Geo D adr cA s) (hP : va_P D cls (wld adr cA μ ν) H) (hr : ∃ cell : Cell, H[b]? = some cell ∧ cell.vm.isStatics = false ∧ s.vm.findClass C = some cell.cls)
    (hn : As.length = n) (hsize : ls.size = nL) (hW : (rest.map fun v => v.category).sum ≤ 8) (hdg : decode cc pc = .ok (.invokevirtual index, 3)) : va_Run p l e R s m args below meth c H locs 0 0 0 0 (F0 m pc ls (As.reverse ++ .ref b :: rest)) rest (Qc (Value.ref b :: As).toArray) (AA adr) :=
  va_runV S hM cw ⟨Wd.blind, hr, fun U hU hW => ⟨rfl, by rw [hU]; exact hP, hG.warm hW⟩⟩ rfl hn hsize rfl (lv_room hW) hdg ⟨Nat.zero_le _, Nat.zero_le _⟩
theorem ks (S : CallFix p m c cc nL s args lw_ok own) (cw : CallB R s args own index y bytes maxL ret ws rm 0 0 n ∧ (Cond.static y).before args s = true) (hM : Met l y ws rm (va_Pc As (Wd D adr cA μ ν)) Qc 0 0 (AA adr)) (hG : Geo D adr cA s) (hP : va_P D cls (wld adr cA μ ν) H)
    (hn : As.length = n) (hsize : ls.size = nL) (hW : (rest.map fun v => v.category).sum ≤ 8) (hdg : decode cc pc = .ok (.invokestatic index, 3)) : va_Run p l e R s m args below meth c H locs 0 0 0 0 (F0 m pc ls (As.reverse ++ rest)) rest (Qc As.toArray) (AA adr) :=
  va_runS S hM cw ⟨Wd.blind, fun U hU hW => ⟨rfl, by rw [hU]; exact hP, hG.warm hW⟩⟩ rfl hn hsize rfl (lv_room hW) hdg ⟨Nat.zero_le _, Nat.zero_le _⟩
theorem kn {host : String} (S : CallFix p m c cc nL s args lw_ok own) (cw : va_CN R s args own index y host bytes maxL ret ws rm 0 0 n ∧ (Cond.static y).before args s = true ∧ True) (hM : Met l y ws rm (va_Pc As (Wd D adr cA μ ν)) Qc 0 0 (AA adr)) (hG : Geo D adr cA s) (hP : va_P D cls (wld adr cA μ ν) H)
    (hn : As.length = n) (hsize : ls.size = nL) (hW : (rest.map fun v => v.category).sum ≤ 8) (hdg : decode cc pc = .ok (.invokestatic index, 3)) : va_Run p l e R s m args below meth c H locs 0 0 0 0 (F0 m pc ls (As.reverse ++ rest)) rest (Qc As.toArray) (AA adr) :=
  va_runSN S hM cw ⟨Wd.blind, fun U hU hW => ⟨rfl, by rw [hU]; exact hP, hG.warm hW⟩⟩ rfl hn hsize rfl (lv_room hW) hdg ⟨Nat.zero_le _, Nat.zero_le _⟩
theorem ki {st : List Value} {av : List Value} {r0 : Int32} (hr : va_Run p l e R s m args below meth c H locs 0 0 0 0 (F0 m pc ls st) rest (QI D adr cA r0 μ' ν' av.toArray) (AA adr)) (hS : va_S (AA adr) H0 H locs)
    (kk : ∀ (H1 : Heap) (locs1 : List Loc), va_P D cls (wld adr cA μ' ν') H1 → va_S (AA adr) H0 H1 locs1 → W p l e R s m args below meth c H1 locs1 0 0 Q (F0 m (pc + 3) ls (.int r0 :: rest))) : W p l e R s m args below meth c H locs 0 0 Q (F0 m pc ls st) := by
  refine va_calli hr hS (fun _ _ h => h) (fun _ h => h) (fun r u t H1 locs1 ht hvm hp hB _ _ hS1 => ?_)
  obtain ⟨rfl, rfl⟩ := hp
  exact kk H1 locs1 (by rw [← ht]; exact hB.1) hS1
theorem kl {st : List Value} {av : List Value} {r0 : Int64} (hr : va_Run p l e R s m args below meth c H locs 0 0 0 0 (F0 m pc ls st) rest (QL D adr cA r0 μ' ν' av.toArray) (AA adr)) (hS : va_S (AA adr) H0 H locs)
    (kk : ∀ (H1 : Heap) (locs1 : List Loc), va_P D cls (wld adr cA μ' ν') H1 → va_S (AA adr) H0 H1 locs1 → W p l e R s m args below meth c H1 locs1 0 0 Q (F0 m (pc + 3) ls (.long r0 :: rest))) : W p l e R s m args below meth c H locs 0 0 Q (F0 m pc ls st) := by
  refine va_calll hr hS (fun _ _ h => h) (fun _ h => h) (fun r u t H1 locs1 ht hvm hp hB _ _ hS1 => ?_)
  obtain ⟨rfl, rfl⟩ := hp
  exact kk H1 locs1 (by rw [← ht]; exact hB.1) hS1
theorem kw {st : List Value} {av : List Value} (hr : va_Run p l e R s m args below meth c H locs 0 0 0 0 (F0 m pc ls st) rest (QV D adr cA μ' ν' av.toArray) (AA adr)) (hS : va_S (AA adr) H0 H locs)
    (kk : ∀ (H1 : Heap) (locs1 : List Loc), va_P D cls (wld adr cA μ' ν') H1 → va_S (AA adr) H0 H1 locs1 → W p l e R s m args below meth c H1 locs1 0 0 Q (F0 m (pc + 3) ls rest)) : W p l e R s m args below meth c H locs 0 0 Q (F0 m pc ls st) := by
  refine va_callv hr hS (fun _ _ h => h) (fun _ h => h) (fun u t H1 locs1 ht hvm hp hB _ _ hS1 => ?_)
  have hp : u = (μ', ν') := hp
  subst hp
  exact kk H1 locs1 (by rw [← ht]; exact hB.1) hS1
/-- what holds in a method's body -/
def Cx (cc : ByteArray) (nL : Nat) (own : String) (rt : Option FieldType) (p : Program) (s : State) (m : MethodId) (args : Array Value) (meth : Method) (c : Code) : Prop := p.tables.exec = Jvm.exec ∧ c.code = cc ∧ c.maxLocals = nL ∧ s.vm.findClass own = some m.cls ∧ (∀ w ∈ lw_ok, w.before args s = true) ∧ meth.sig.returnType = rt ∧ meth.locks = false
theorem met_of {av : List Value} (hy : plainName y.cls = true) (ho : y.cls = own) (hlen : (lg_sl av).length ≤ maxL)
    (body : ∀ (p : Program) (e : Env) (s : State) (m : MethodId) (below : List Frame) (meth : Method) (c : Code), Cx bytes maxL own ret p s m av.toArray meth c → Geo D adr cA s → va_P D cls (wld adr cA μ ν) s.heap → va_S (AA adr) s.heap s.heap [] → ∀ ls : Array Slot, lv_has ls maxL (lv_args 0 av) → W p l e rm s m av.toArray below meth c s.heap [] 0 0 (MQ below Qc av.toArray s 0 0 (AA adr)) (F0 m 0 ls [])) :
    Met l y (Cond.code y bytes maxL ret :: lw_ok) rm (va_Pc av (Wd D adr cA μ ν)) Qc 0 0 (AA adr) := by
  refine Met.ofW (cc := bytes) (maxL := maxL) (ret := ret) hy rfl ?_
  intro p e s m args below meth c s₁ B hml hv
  obtain ⟨rfl, hP, hG⟩ := hv
  have hts := atoms_spec (ws := Cond.code y bytes maxL ret :: lw_ok) B.pre
  have hown : s.vm.findClass own = some m.cls := by rw [← ho]; exact findClass_of_methodNamed B.named
  have hl := lv_entry av (n := maxL) hlen
  rw [lg_entry_eq]
  exact body p e s m below meth c ⟨B.exec, B.bytes, hml, hown, fun w hw => hts w (List.mem_cons_of_mem _ hw), B.returns, B.notSynchronized⟩ hG hP va_S.rf _ hl
end ROWS2
end
section
def f_LA_begin (μ : Mem) (o : Nat) (x1 : Int64) (x3 : Int32) (x4 : Int32) : Mem :=
  (sI (sI (sI (sI (sI (sI (sI (sJ μ (28 + o) 0 x1) (28 + o) 1 (-3)) (28 + o) 2 (-3)) (28 + o) 3 (if x4 < x3 then x4 else x3)) (28 + o) 4 (if x3 < x4 then x4 else x3)) (28 + o) 5 0) (28 + o) 6 0) (28 + o) 7 0)
def f_LA_isDouble (μ : Mem) (o : Nat) : Int32 :=
  if (μ.1 (28 + o) 3) = (-3) then (0) else (1)
def f_LA_isFull (μ : Mem) (o : Nat) : Int32 :=
  if (μ.1 (28 + o) 6) = 0 then (0) else (if (μ.1 (28 + o) 7) = (μ.1 (28 + o) 5) then (1) else (0))
def f_LA_spillAt (μ : Mem) (o : Nat) (x1 : Int32) (x2 : Int32) : Mem :=
  (sI (sI μ (28 + o) 1 x1) (28 + o) 2 x2)
def f_LA_appear (μ : Mem) (o : Nat) (x1 : Int32) : Mem :=
  (sI (sI μ (28 + o) 6 1) (28 + o) 7 x1)
def f_LA_vanish (μ : Mem) (o : Nat) : Mem :=
  (sI (sI μ (28 + o) 6 0) (28 + o) 7 0)
def f_LK_isLake (μ : Mem) (x1 : Int32) : Int32 :=
  if x1 < 0 then (0) else (if (μ.1 26 1) ≤ x1 then (0) else (1))
def f_RE_isField (μ : Mem) (x1 : Int32) : Int32 :=
  if x1 < 0 then (0) else (if (μ.1 18 8) ≤ x1 then (0) else (1))
def f_LR_isIn (x0 : Int64) (x2 : Int32) : Int32 :=
  if (lg_cmp ((x0.toUInt64 >>> (x2.toInt64.toUInt64 &&& Int64.toUInt64 63)).toInt64 &&& 1) 0) = 0 then (0) else (1)
def f_RE_isLand (μ : Mem) (x1 : Int32) : Int32 :=
  if (f_RE_isField μ x1) = 0 then (0) else (if (f_LR_isIn (μ.2 18 10) x1) = 0 then (0) else (1))
def f_LK_isLevelOf (μ : Mem) (x1 : Int32) (x2 : Int32) : Option (Int32) :=
  if (f_LK_isLake μ x1) = 0 then (some 0) else (G x1 35 (if (f_RE_isLand μ (μ.1 (28 + x1.toNatClampNeg) 1)) = 0 then (some 0) else (if x2 < (-1000000) then (some 0) else (G x1 35 (G (μ.1 (28 + x1.toNatClampNeg) 1) 64 (if (μ.1 19 (μ.1 (28 + x1.toNatClampNeg) 1).toNatClampNeg) < x2 then (some 0) else (some 1)))))))
def f_RE_beside (μ : Mem) (x1 : Int32) (x2 : Int32) : Option (Int32) :=
  if (f_RE_isField μ x1) = 0 then (some (-5)) else (G ((4 * x1) + x2) 256 (some (μ.1 24 ((4 * x1) + x2).toNatClampNeg)))
def f_LK_topWith_L2 (μ : Mem) (y1 : Int32) (K : Unit → Option (Int32)) : Nat → Int32 → Option (Int32)
  | 0, _ => none
  | n + 1, y2 =>
  if (μ.1 26 1) ≤ y2 then (K ()) else (G y2 35 (if (μ.1 (28 + y2.toNatClampNeg) 2) = (-3) then (if y1 = (-5) then (f_LK_topWith_L2 μ y1 K n (y2 + 1)) else (G y2 35 (if (f_LR_isIn (μ.2 (28 + y2.toNatClampNeg) 0) y1) = 0 then (f_LK_topWith_L2 μ y1 K n (y2 + 1)) else (some y2)))) else (f_LK_topWith_L2 μ y1 K n (y2 + 1))))
def f_LK_topWith (μ : Mem) (x1 : Int32) : Option (Int32) :=
  f_LK_topWith_L2 μ x1 (fun _ => some (-3)) FU 0
def f_LR_only (x0 : Int32) : Int64 :=
  ((1 : Int64) <<< (x0.toInt64 &&& 63))
def f_LK_topsBeside_L5 (μ : Mem) (y1 : Int32) : Nat → Int64 → Int32 → Option (Int64)
  | 0, _, _ => none
  | n + 1, y2, y4 =>
  if 4 ≤ y4 then (some y2) else ((f_RE_beside μ y1 y4).bind fun v1 => (f_LK_topWith μ v1).bind fun v2 => (if v2 = (-3) then (some y2) else (some (y2 ||| (f_LR_only v2)))).bind fun v3 => f_LK_topsBeside_L5 μ y1 n v3 (y4 + 1))
def f_LK_topsBeside (μ : Mem) (x1 : Int32) : Option (Int64) :=
  (f_LK_topsBeside_L5 μ x1 FU 0 0).bind fun v4 => some v4
def f_RE_isBesideSea_L2 (μ : Mem) (y1 : Int32) (K : Unit → Option (Int32)) : Nat → Int32 → Option (Int32)
  | 0, _ => none
  | n + 1, y2 =>
  if 4 ≤ y2 then (K ()) else ((f_RE_beside μ y1 y2).bind fun v1 => if v1 = (-5) then (some 1) else (f_RE_isBesideSea_L2 μ y1 K n (y2 + 1)))
def f_RE_isBesideSea (μ : Mem) (x1 : Int32) : Option (Int32) :=
  f_RE_isBesideSea_L2 μ x1 (fun _ => some 0) FU 0
def f_RE_isLower (μ : Mem) (x1 : Int32) (x2 : Int32) : Option (Int32) :=
  G x1 64 (G x2 64 (if (μ.1 19 x1.toNatClampNeg) < (μ.1 19 x2.toNatClampNeg) then (some 1) else (G x1 64 (G x2 64 (if (μ.1 19 x1.toNatClampNeg) = (μ.1 19 x2.toNatClampNeg) then (if x2 ≤ x1 then (some 0) else (some 1)) else (some 0))))))
def f_RE_lowestBeside_L7 (μ : Mem) (y1 : Int32) (y2 : Int64) : Nat → Int32 → Int32 → Option (Int32)
  | 0, _, _ => none
  | n + 1, y4, y5 =>
  if 4 ≤ y5 then (some y4) else ((f_RE_beside μ y1 y5).bind fun v1 => (if v1 = (-5) then (some y4) else (if (f_LR_isIn y2 v1) = 0 then (some y4) else (if y4 = (-3) then (some v1) else ((f_RE_isLower μ v1 y4).bind fun v3 => if v3 = 0 then (some y4) else (some v1))))).bind fun v2 => f_RE_lowestBeside_L7 μ y1 y2 n v2 (y5 + 1))
def f_RE_lowestBeside (μ : Mem) (x1 : Int32) (x2 : Int64) : Option (Int32) :=
  (f_RE_lowestBeside_L7 μ x1 x2 FU (-3) 0).bind fun v4 => some v4
def f_LK_isBesideSeas (μ : Mem) (x1 : Int32) : Option (Int32) :=
  (f_RE_isBesideSea μ x1).bind fun v1 => if v1 = 0 then ((f_RE_lowestBeside μ x1 (μ.2 26 5)).bind fun v2 => if v2 = (-3) then (some 0) else (some 1)) else (some 1)
def f_LK_spillToSea_L16 (y1 : Int64) (y3 : Int32) : Nat → Mem → Int32 → Option (Mem)
  | 0, _, _ => none
  | n + 1, μ, y4 =>
  if (μ.1 26 1) ≤ y4 then (some μ) else ((if (f_LR_isIn y1 y4) = 0 then (some μ) else (G y4 35 (G y4 35 (some (sJ (f_LA_spillAt μ y4.toNatClampNeg y3 (-5)) 26 5 (((f_LA_spillAt μ y4.toNatClampNeg y3 (-5)).2 26 5) ||| ((f_LA_spillAt μ y4.toNatClampNeg y3 (-5)).2 (28 + y4.toNatClampNeg) 0))))))).bind fun v1 => f_LK_spillToSea_L16 y1 y3 n v1 (y4 + 1))
def f_LK_spillToSea (μ : Mem) (x1 : Int64) (x3 : Int32) : Option (Mem) :=
  (f_LK_spillToSea_L16 x1 x3 FU (sJ μ 26 5 ((μ.2 26 5) ||| (f_LR_only x3))) 0).bind fun v4 => some v4
def f_LK_make (μ : Mem) (x1 : Int64) (x3 : Int32) (x4 : Int32) : Option (Int32 × Mem) :=
  if (μ.1 26 1) < 35 then (G (μ.1 26 1) 35 (some ((μ.1 26 1), (sI (f_LA_begin μ ((μ.1 26 1).toNatClampNeg) x1 x3 x4) 26 1 (((f_LA_begin μ ((μ.1 26 1).toNatClampNeg) x1 x3 x4).1 26 1) + 1))))) else (some ((-3), μ))
def f_LK_makeDouble (μ : Mem) (x1 : Int32) (x2 : Int32) (x3 : Int32) : Option (Int32 × Mem) :=
  if (f_LK_isLake μ x1) = 0 then (some ((-3), μ)) else (if (f_LK_isLake μ x2) = 0 then (some ((-3), μ)) else (G x1 35 (G x2 35 ((f_LK_make μ ((μ.2 (28 + x1.toNatClampNeg) 0) ||| (μ.2 (28 + x2.toNatClampNeg) 0)) x1 x2).bind fun v3 => G x1 35 (G x2 35 (some (v3.1, (f_LA_spillAt (f_LA_spillAt v3.2 x1.toNatClampNeg x3 v3.1) x2.toNatClampNeg x3 v3.1))))))))
def f_LK_joinAt_L13 (y1 : Int64) (y3 : Int32) (y5 : Int32) : Nat → Mem → Int32 → Int32 → Option (Int32 × Mem)
  | 0, _, _, _ => none
  | n + 1, μ, y4, y6 =>
  if y5 ≤ y6 then (some (y4, μ)) else ((if (f_LR_isIn y1 y6) = 0 then (some (y4, μ)) else ((if y4 = (-3) then (some (y6, μ)) else ((f_LK_makeDouble μ y4 y6 y3).bind fun v3 => some (v3.1, v3.2))).bind fun v2 => some (v2.1, v2.2))).bind fun v1 => f_LK_joinAt_L13 y1 y3 y5 n v1.2 v1.1 (y6 + 1))
def f_LK_joinAt (μ : Mem) (x1 : Int64) (x3 : Int32) : Option (Int32 × Mem) :=
  (f_LK_joinAt_L13 x1 x3 (μ.1 26 1) FU μ (-3) 0).bind fun v4 => some (v4.1, v4.2)
def f_LK_goUnder (μ : Mem) (x1 : Int32) : Option (Mem) :=
  (f_LK_topsBeside μ x1).bind fun v1 => (f_LK_isBesideSeas μ x1).bind fun v2 => if v2 = 0 then ((if (lg_cmp v1 0) = 0 then ((f_LK_make μ 0 (-3) (-3)).bind fun v5 => some (v5.1, v5.2)) else ((f_LK_joinAt μ v1 x1).bind fun v4 => some (v4.1, v4.2))).bind fun v3 => if (f_LK_isLake v3.2 v3.1) = 0 then (some v3.2) else (G v3.1 35 (some (sJ v3.2 (28 + v3.1.toNatClampNeg) 0 ((v3.2.2 (28 + v3.1.toNatClampNeg) 0) ||| (f_LR_only x1)))))) else ((f_LK_spillToSea μ v1 x1).bind fun v7 => some v7)
def f_RE_roomBelow_L6 (μ : Mem) (y1 : Int64) (y3 : Int32) : Nat → Int32 → Int32 → Option (Int32)
  | 0, _, _ => none
  | n + 1, y4, y5 =>
  if (μ.1 18 8) ≤ y5 then (some y4) else ((if (f_LR_isIn y1 y5) = 0 then (some y4) else (G y5 64 (if y3 ≤ (μ.1 19 y5.toNatClampNeg) then (some y4) else (G y5 64 (some (y4 + (y3 - (μ.1 19 y5.toNatClampNeg)))))))).bind fun v1 => f_RE_roomBelow_L6 μ y1 y3 n v1 (y5 + 1))
def f_RE_roomBelow (μ : Mem) (x1 : Int64) (x3 : Int32) : Option (Int32) :=
  (f_RE_roomBelow_L6 μ x1 x3 FU 0 0).bind fun v4 => some v4
def f_LK_measure (μ : Mem) (x1 : Nat) : Option (Mem) :=
  (if (f_RE_isLand μ (μ.1 (28 + x1) 1)) = 0 then (some μ) else (G (μ.1 (28 + x1) 1) 64 ((f_RE_roomBelow μ (μ.2 (28 + x1) 0) (μ.1 19 (μ.1 (28 + x1) 1).toNatClampNeg)).bind fun v3 => some (sI μ (28 + x1) 5 v3)))).bind fun v1 => if (f_LA_isDouble v1 x1) = 0 then (some (f_LA_appear v1 x1 0)) else (some v1)
def f_LK_come_L22  : Nat → Mem → Int32 → Option (Mem)
  | 0, _, _ => none
  | n + 1, μ, y1 =>
  if (μ.1 18 9) ≤ y1 then (some μ) else (G y1 64 ((f_LK_goUnder μ (μ.1 23 y1.toNatClampNeg)).bind fun v2 => f_LK_come_L22 n v2 (y1 + 1)))
def f_LK_come_L54  : Nat → Mem → Int32 → Option (Mem)
  | 0, _, _ => none
  | n + 1, μ, y1 =>
  if (μ.1 26 1) ≤ y1 then (some μ) else (G y1 35 ((f_LK_measure μ y1.toNatClampNeg).bind fun v5 => f_LK_come_L54 n v5 (y1 + 1)))
def f_LK_come (μ : Mem)  : Option (Mem) :=
  (f_LK_come_L22 FU (sJ (sJ (sJ (sI μ 26 1 0) 26 2 0) 26 3 0) 26 5 0) 0).bind fun v3 => (f_LK_come_L54 FU v3 0).bind fun v6 => some v6
def f_LK_thereWith_L2 (μ : Mem) (y1 : Int32) (K : Unit → Option (Int32)) : Nat → Int32 → Option (Int32)
  | 0, _ => none
  | n + 1, y2 =>
  if (μ.1 26 1) ≤ y2 then (K ()) else (G y2 35 (if (μ.1 (28 + y2.toNatClampNeg) 6) = 0 then (f_LK_thereWith_L2 μ y1 K n (y2 + 1)) else (G y2 35 (if (f_LR_isIn (μ.2 (28 + y2.toNatClampNeg) 0) y1) = 0 then (f_LK_thereWith_L2 μ y1 K n (y2 + 1)) else (some y2)))))
def f_LK_thereWith (μ : Mem) (x1 : Int32) : Option (Int32) :=
  f_LK_thereWith_L2 μ x1 (fun _ => some (-3)) FU 0
def f_LK_numberThere_L4 (μ : Mem)  : Nat → Int32 → Int32 → Option (Int32)
  | 0, _, _ => none
  | n + 1, y1, y2 =>
  if (μ.1 26 1) ≤ y2 then (some y1) else (G y2 35 ((if (μ.1 (28 + y2.toNatClampNeg) 6) = 0 then (some y1) else (some (y1 + 1))).bind fun v2 => f_LK_numberThere_L4 μ n v2 (y2 + 1)))
def f_LK_numberThere (μ : Mem)  : Option (Int32) :=
  (f_LK_numberThere_L4 μ FU 0 0).bind fun v3 => some v3
def f_LK_waterThere_L4 (μ : Mem)  : Nat → Int64 → Int32 → Option (Int64)
  | 0, _, _ => none
  | n + 1, y1, y3 =>
  if (μ.1 26 1) ≤ y3 then (some y1) else (G y3 35 ((if (μ.1 (28 + y3.toNatClampNeg) 6) = 0 then (some y1) else (G y3 35 (some (y1 + (μ.1 (28 + y3.toNatClampNeg) 7).toInt64)))).bind fun v2 => f_LK_waterThere_L4 μ n v2 (y3 + 1)))
def f_LK_waterThere (μ : Mem)  : Option (Int64) :=
  (f_LK_waterThere_L4 μ FU 0 0).bind fun v4 => some v4
def f_LK_lakeBelow (μ : Mem) (x1 : Int32) : Option (Int32) :=
  if (f_RE_isLand μ x1) = 0 then (some (-5)) else (G x1 64 (if (f_RE_isLand μ (μ.1 21 x1.toNatClampNeg)) = 0 then (some (-5)) else (G x1 64 ((f_LK_thereWith μ (μ.1 21 x1.toNatClampNeg)).bind fun v3 => some v3))))
def f_LK_fillUp (μ : Mem) (x1 : Nat) (x2 : Int32) : Int32 × Mem :=
  ((if ((μ.1 (28 + x1) 5) - (μ.1 (28 + x1) 7)) < x2 then ((μ.1 (28 + x1) 5) - (μ.1 (28 + x1) 7)) else x2), (sI μ (28 + x1) 7 ((μ.1 (28 + x1) 7) + (if ((μ.1 (28 + x1) 5) - (μ.1 (28 + x1) 7)) < x2 then ((μ.1 (28 + x1) 5) - (μ.1 (28 + x1) 7)) else x2))))
def f_LK_join (μ : Mem) (x1 : Nat) (x2 : Nat) (x3 : Nat) : Mem :=
  (f_LA_vanish (f_LA_vanish (f_LA_appear μ x3 ((μ.1 (28 + x1) 7) + (μ.1 (28 + x2) 7))) x1) x2)
def f_LK_next (μ : Mem) (x1 : Int32) : Option (Int32 × Mem) :=
  G x1 35 (if (f_LK_isLake μ (μ.1 (28 + x1.toNatClampNeg) 2)) = 0 then (some ((-5), μ)) else (G (μ.1 (28 + x1.toNatClampNeg) 2) 35 ((if (μ.1 (28 + (μ.1 (28 + x1.toNatClampNeg) 2).toNatClampNeg) 3) = x1 then (G (μ.1 (28 + x1.toNatClampNeg) 2) 35 (some (μ.1 (28 + (μ.1 (28 + x1.toNatClampNeg) 2).toNatClampNeg) 4))) else (G (μ.1 (28 + x1.toNatClampNeg) 2) 35 (some (μ.1 (28 + (μ.1 (28 + x1.toNatClampNeg) 2).toNatClampNeg) 3)))).bind fun v3 => if (f_LK_isLake μ v3) = 0 then (some ((-5), μ)) else (G v3 35 (if (f_LA_isFull μ v3.toNatClampNeg) = 0 then (G x1 35 (G v3 35 ((f_RE_lowestBeside μ (μ.1 (28 + x1.toNatClampNeg) 1) (μ.2 (28 + v3.toNatClampNeg) 0)).bind fun v9 => (f_LK_lakeBelow μ v9).bind fun v10 => some (v10, μ)))) else (G x1 35 (G v3 35 (G (μ.1 (28 + x1.toNatClampNeg) 2) 35 (some ((μ.1 (28 + x1.toNatClampNeg) 2), (f_LK_join μ x1.toNatClampNeg v3.toNatClampNeg ((μ.1 (28 + x1.toNatClampNeg) 2).toNatClampNeg))))))))))))
def f_LK_runDown_L8  : Nat → Mem → Int32 → Int32 → Int32 → Option (Int32 × Mem)
  | 0, _, _, _, _ => none
  | n + 1, μ, y3, y4, y5 =>
  if 35 < y5 then (some (y3, μ)) else (if y3 ≤ 0 then (some (y3, μ)) else (if (f_LK_isLake μ y4) = 0 then (some (y3, μ)) else (G y4 35 ((if (y3 - (f_LK_fillUp μ y4.toNatClampNeg y3).1) ≤ 0 then (some (y4, (f_LK_fillUp μ y4.toNatClampNeg y3).2)) else ((f_LK_next ((f_LK_fillUp μ y4.toNatClampNeg y3).2) y4).bind fun v3 => some (v3.1, v3.2))).bind fun v2 => f_LK_runDown_L8 n v2.2 (y3 - (f_LK_fillUp μ y4.toNatClampNeg y3).1) v2.1 (y5 + 1)))))
def f_LK_runDown (μ : Mem) (x1 : Int32) (x2 : Int32) : Option (Int32 × Mem) :=
  (f_LK_runDown_L8 FU μ x2 x1 0).bind fun v4 => some (v4.1, v4.2)
def f_LK_takeGrains (μ : Mem) (x1 : Int32) (x2 : Int32) : Option (Int32 × Mem) :=
  (f_LK_lakeBelow μ x1).bind fun v1 => (f_LK_runDown μ v1 x2).bind fun v2 => some (v2.1, (sJ (sJ v2.2 26 3 ((v2.2.2 26 3) + x2.toInt64)) 26 2 (((sJ v2.2 26 3 ((v2.2.2 26 3) + x2.toInt64)).2 26 2) + v2.1.toInt64)))
def f_RE_flood_L24  : Nat → Mem → Int32 → Option (Mem)
  | 0, _, _ => none
  | n + 1, μ, y3 =>
  if 64 ≤ y3 then (some μ) else (G y3 64 (G y3 64 (G y3 64 (G y3 64 (f_RE_flood_L24 n (sI (sI (sI (sI μ 19 y3.toNatClampNeg 0) 20 y3.toNatClampNeg (-5)) 21 y3.toNatClampNeg (-5)) 22 y3.toNatClampNeg 0) (y3 + 1))))))
def f_RE_flood (μ : Mem) (x1 : Int32) (x2 : Int32) : Option (Mem) :=
  (f_RE_flood_L24 FU (sJ (sI (sI (sI μ 18 7 x1) 18 8 (x1 * x2)) 18 9 0) 18 10 0) 0).bind fun v5 => some v5
def f_RE_raiseLand (μ : Mem) (x1 : Int32) (x2 : Int32) : Option (Mem) :=
  G x1 64 (some (sJ (sI μ 19 x1.toNatClampNeg x2) 18 10 (((sI μ 19 x1.toNatClampNeg x2).2 18 10) ||| (f_LR_only x1))))
def f_RE_landOrSea (μ : Mem) (x1 : Int32) : Int32 :=
  if (f_RE_isLand μ x1) = 0 then ((-5)) else (x1)
def f_RE_findNeighbours_L2  : Nat → Mem → Int32 → Option (Mem)
  | 0, _, _ => none
  | n + 1, μ, y1 =>
  if (μ.1 18 8) ≤ y1 then (some μ) else ((if (μ.1 18 7) ≤ 0 then (some 0) else (Zg (μ.1 18 7) (some (y1 - y1 / (μ.1 18 7) * (μ.1 18 7))))).bind fun v1 => G (4 * y1) 256 ((if v1 ≤ 0 then (some (-5)) else (some (f_RE_landOrSea (sI μ 24 (4 * y1).toNatClampNeg (f_RE_landOrSea μ (y1 - (μ.1 18 7)))) (y1 - 1)))).bind fun v4 => G ((4 * y1) + 1) 256 ((if (((sI (sI μ 24 (4 * y1).toNatClampNeg (f_RE_landOrSea μ (y1 - (μ.1 18 7)))) 24 ((4 * y1) + 1).toNatClampNeg v4).1 18 7) - 1) ≤ v1 then (some (-5)) else (some (f_RE_landOrSea (sI (sI μ 24 (4 * y1).toNatClampNeg (f_RE_landOrSea μ (y1 - (μ.1 18 7)))) 24 ((4 * y1) + 1).toNatClampNeg v4) (y1 + 1)))).bind fun v6 => G ((4 * y1) + 2) 256 (G ((4 * y1) + 3) 256 (f_RE_findNeighbours_L2 n (sI (sI (sI (sI μ 24 (4 * y1).toNatClampNeg (f_RE_landOrSea μ (y1 - (μ.1 18 7)))) 24 ((4 * y1) + 1).toNatClampNeg v4) 24 ((4 * y1) + 2).toNatClampNeg v6) 24 ((4 * y1) + 3).toNatClampNeg (f_RE_landOrSea (sI (sI (sI μ 24 (4 * y1).toNatClampNeg (f_RE_landOrSea μ (y1 - (μ.1 18 7)))) 24 ((4 * y1) + 1).toNatClampNeg v4) 24 ((4 * y1) + 2).toNatClampNeg v6) (y1 + ((sI (sI (sI μ 24 (4 * y1).toNatClampNeg (f_RE_landOrSea μ (y1 - (μ.1 18 7)))) 24 ((4 * y1) + 1).toNatClampNeg v4) 24 ((4 * y1) + 2).toNatClampNeg v6).1 18 7)))) (y1 + 1))))))
def f_RE_findNeighbours (μ : Mem)  : Option (Mem) :=
  (f_RE_findNeighbours_L2 FU μ 0).bind fun v9 => some v9
def f_RE_insertByHeight_L2 (y1 : Int32) : Nat → Mem → Int32 → Option (Int32 × Mem)
  | 0, _, _ => none
  | n + 1, μ, y3 =>
  if y3 ≤ 0 then (some (y3, μ)) else (G (y3 - 1) 64 ((f_RE_isLower μ y1 (μ.1 23 (y3 - 1).toNatClampNeg)).bind fun v2 => if v2 = 0 then (some (y3, μ)) else (G (y3 - 1) 64 (G y3 64 (f_RE_insertByHeight_L2 y1 n (sI μ 23 y3.toNatClampNeg (μ.1 23 (y3 - 1).toNatClampNeg)) (y3 + (-1)))))))
def f_RE_insertByHeight (μ : Mem) (x1 : Int32) (x2 : Int32) : Option (Mem) :=
  (f_RE_insertByHeight_L2 x1 FU μ x2).bind fun v5 => G v5.1 64 (some (sI v5.2 23 v5.1.toNatClampNeg x1))
def f_RE_sortLand_L2  : Nat → Mem → Int32 → Option (Mem)
  | 0, _, _ => none
  | n + 1, μ, y1 =>
  if (μ.1 18 8) ≤ y1 then (some μ) else ((if (f_RE_isLand μ y1) = 0 then (some μ) else ((f_RE_insertByHeight μ y1 (μ.1 18 9)).bind fun v2 => some (sI v2 18 9 ((v2.1 18 9) + 1)))).bind fun v1 => f_RE_sortLand_L2 n v1 (y1 + 1))
def f_RE_sortLand (μ : Mem)  : Option (Mem) :=
  (f_RE_sortLand_L2 FU μ 0).bind fun v3 => some v3
def f_RE_downOf (μ : Mem) (x1 : Int32) : Option (Int32) :=
  (f_RE_isBesideSea μ x1).bind fun v1 => if v1 = 0 then ((f_RE_lowestBeside μ x1 (μ.2 18 10)).bind fun v2 => if v2 = (-3) then (some (-3)) else ((f_RE_isLower μ x1 v2).bind fun v3 => if v3 = 0 then (some v2) else (some (-3)))) else (some (-5))
def f_RE_findWays_L2  : Nat → Mem → Int32 → Option (Mem)
  | 0, _, _ => none
  | n + 1, μ, y1 =>
  if (μ.1 18 9) ≤ y1 then (some μ) else (G y1 64 ((f_RE_downOf μ (μ.1 23 y1.toNatClampNeg)).bind fun v2 => G (μ.1 23 y1.toNatClampNeg) 64 ((if v2 = (-3) then (some (μ.1 23 y1.toNatClampNeg)) else (if v2 = (-5) then (some (-5)) else (G v2 64 (some ((sI μ 20 (μ.1 23 y1.toNatClampNeg).toNatClampNeg v2).1 21 v2.toNatClampNeg))))).bind fun v4 => G (μ.1 23 y1.toNatClampNeg) 64 (f_RE_findWays_L2 n (sI (sI μ 20 (μ.1 23 y1.toNatClampNeg).toNatClampNeg v2) 21 (μ.1 23 y1.toNatClampNeg).toNatClampNeg v4) (y1 + 1)))))
def f_RE_findWays (μ : Mem)  : Option (Mem) :=
  (f_RE_findWays_L2 FU μ 0).bind fun v7 => some v7
def f_RE_leastFillBeside_L5 (μ : Mem) (y1 : Int32) : Nat → Int32 → Int32 → Option (Int32)
  | 0, _, _ => none
  | n + 1, y2, y3 =>
  if 4 ≤ y3 then (some y2) else ((f_RE_beside μ y1 y3).bind fun v1 => (if v1 = (-5) then (some (-1000000)) else (G v1 64 (some (μ.1 22 v1.toNatClampNeg)))).bind fun v2 => f_RE_leastFillBeside_L5 μ y1 n (if v2 < y2 then v2 else y2) (y3 + 1))
def f_RE_leastFillBeside (μ : Mem) (x1 : Int32) : Option (Int32) :=
  (f_RE_leastFillBeside_L5 μ x1 FU 1000001 0).bind fun v4 => some v4
def f_RE_lowerFills_L4  : Nat → Mem → Int32 → Int32 → Option (Int32 × Mem)
  | 0, _, _, _ => none
  | n + 1, μ, y1, y2 =>
  if (μ.1 18 9) ≤ y2 then (some (y1, μ)) else (G y2 64 (G (μ.1 23 y2.toNatClampNeg) 64 ((f_RE_leastFillBeside μ (μ.1 23 y2.toNatClampNeg)).bind fun v3 => G (μ.1 23 y2.toNatClampNeg) 64 ((if (μ.1 22 (μ.1 23 y2.toNatClampNeg).toNatClampNeg) ≤ (if (μ.1 19 (μ.1 23 y2.toNatClampNeg).toNatClampNeg) < v3 then v3 else (μ.1 19 (μ.1 23 y2.toNatClampNeg).toNatClampNeg)) then (some (y1, μ)) else (G (μ.1 23 y2.toNatClampNeg) 64 (some (1, (sI μ 22 (μ.1 23 y2.toNatClampNeg).toNatClampNeg (if (μ.1 19 (μ.1 23 y2.toNatClampNeg).toNatClampNeg) < v3 then v3 else (μ.1 19 (μ.1 23 y2.toNatClampNeg).toNatClampNeg))))))).bind fun v5 => f_RE_lowerFills_L4 n v5.2 v5.1 (y2 + 1)))))
def f_RE_lowerFills (μ : Mem)  : Option (Int32 × Mem) :=
  (f_RE_lowerFills_L4 FU μ 0 0).bind fun v7 => Bg v7.1 (some (v7.1, v7.2))
def f_RE_findFills_L2  : Nat → Mem → Int32 → Option (Mem)
  | 0, _, _ => none
  | n + 1, μ, y1 =>
  if (μ.1 18 9) ≤ y1 then (some μ) else (G y1 64 (G (μ.1 23 y1.toNatClampNeg) 64 (f_RE_findFills_L2 n (sI μ 22 (μ.1 23 y1.toNatClampNeg).toNatClampNeg 1000001) (y1 + 1))))
def f_RE_findFills_L33  : Nat → Mem → Int32 → Int32 → Option (Mem)
  | 0, _, _, _ => none
  | n + 1, μ, y1, y2 =>
  if (μ.1 18 8) < y2 then (some μ) else (if y1 = 0 then (some μ) else ((f_RE_lowerFills μ).bind fun v4 => f_RE_findFills_L33 n v4.2 v4.1 (y2 + 1)))
def f_RE_findFills (μ : Mem)  : Option (Mem) :=
  (f_RE_findFills_L2 FU μ 0).bind fun v3 => (f_RE_findFills_L33 FU v3 1 0).bind fun v5 => some v5
def f_RE_survey (μ : Mem)  : Option (Mem) :=
  (f_RE_findNeighbours μ).bind fun v1 => (f_RE_sortLand v1).bind fun v2 => (f_RE_findWays v2).bind fun v3 => (f_RE_findFills v3).bind fun v4 => some v4
def f_RE_isHollow (μ : Mem) (x1 : Int32) : Option (Int32) :=
  if (f_RE_isLand μ x1) = 0 then (some 0) else (G x1 64 (if (μ.1 20 x1.toNatClampNeg) = (-3) then (some 1) else (some 0)))
def f_RE_hollowCount_L4 (μ : Mem)  : Nat → Int32 → Int32 → Option (Int32)
  | 0, _, _ => none
  | n + 1, y1, y2 =>
  if (μ.1 18 8) ≤ y2 then (some y1) else ((f_RE_isHollow μ y2).bind fun v1 => (if v1 = 0 then (some y1) else (some (y1 + 1))).bind fun v2 => f_RE_hollowCount_L4 μ n v2 (y2 + 1))
def f_RE_hollowCount (μ : Mem)  : Option (Int32) :=
  (f_RE_hollowCount_L4 μ FU 0 0).bind fun v3 => some v3
def f_RE_hollowAt_L4 (μ : Mem) (y1 : Int32) (K : Unit → Option (Int32)) : Nat → Int32 → Int32 → Option (Int32)
  | 0, _, _ => none
  | n + 1, y2, y3 =>
  if (μ.1 18 8) ≤ y3 then (K ()) else ((f_RE_isHollow μ y3).bind fun v1 => if v1 = 0 then (f_RE_hollowAt_L4 μ y1 K n y2 (y3 + 1)) else (if y2 = y1 then (some y3) else (f_RE_hollowAt_L4 μ y1 K n (y2 + 1) (y3 + 1))))
def f_RE_hollowAt (μ : Mem) (x1 : Int32) : Option (Int32) :=
  f_RE_hollowAt_L4 μ x1 (fun _ => some (-3)) FU 0 0
def f_RE_lowestOf_L2 (μ : Mem) (y1 : Int64) (K : Unit → Option (Int32)) : Nat → Int32 → Option (Int32)
  | 0, _ => none
  | n + 1, y3 =>
  if (μ.1 18 9) ≤ y3 then (K ()) else (G y3 64 (if (f_LR_isIn y1 (μ.1 23 y3.toNatClampNeg)) = 0 then (f_RE_lowestOf_L2 μ y1 K n (y3 + 1)) else (G y3 64 (some (μ.1 23 y3.toNatClampNeg)))))
def f_RE_lowestOf (μ : Mem) (x1 : Int64) : Option (Int32) :=
  f_RE_lowestOf_L2 μ x1 (fun _ => some (-3)) FU 0
def f_RE_countBelow_L6 (μ : Mem) (y1 : Int64) (y3 : Int32) : Nat → Int32 → Int32 → Option (Int32)
  | 0, _, _ => none
  | n + 1, y4, y5 =>
  if (μ.1 18 8) ≤ y5 then (some y4) else ((if (f_LR_isIn y1 y5) = 0 then (some y4) else (G y5 64 (if y3 ≤ (μ.1 19 y5.toNatClampNeg) then (some y4) else (some (y4 + 1))))).bind fun v1 => f_RE_countBelow_L6 μ y1 y3 n v1 (y5 + 1))
def f_RE_countBelow (μ : Mem) (x1 : Int64) (x3 : Int32) : Option (Int32) :=
  (f_RE_countBelow_L6 μ x1 x3 FU 0 0).bind fun v3 => some v3
def f_RE_greatestDivisor_L7  : Nat → Int32 → Int32 → Int32 → Option (Int32)
  | 0, _, _, _ => none
  | n + 1, y2, y3, y4 =>
  if 64 ≤ y4 then (some y2) else (if y3 = 0 then (some y2) else (Zg y3 (f_RE_greatestDivisor_L7 n y3 (y2 - y2 / y3 * y3) (y4 + 1))))
def f_RE_greatestDivisor (x0 : Int32) (x1 : Int32) : Option (Int32) :=
  (f_RE_greatestDivisor_L7 FU x0 x1 0).bind fun v2 => some v2
def f_RE_surface_L9 (μ : Mem) (y1 : Int64) (y4 : Int32) : Nat → Int32 → Int32 → Int32 → Option (Int32 × Int32)
  | 0, _, _, _ => none
  | n + 1, y5, y6, y7 =>
  if (μ.1 18 9) ≤ y7 then (some (y5, y6)) else (G y7 64 ((if (f_LR_isIn y1 (μ.1 23 y7.toNatClampNeg)) = 0 then (some (y5, y6)) else (if y6 = 0 then (G (μ.1 23 y7.toNatClampNeg) 64 (some ((y5 + (μ.1 19 (μ.1 23 y7.toNatClampNeg).toNatClampNeg)), (y6 + 1)))) else (G (μ.1 23 y7.toNatClampNeg) 64 (if (lg_cmp y5.toInt64 ((μ.1 19 (μ.1 23 y7.toNatClampNeg).toNatClampNeg).toInt64 * y6.toInt64)) ≤ 0 then (some (y5, y6)) else (G (μ.1 23 y7.toNatClampNeg) 64 (some ((y5 + (μ.1 19 (μ.1 23 y7.toNatClampNeg).toNatClampNeg)), (y6 + 1)))))))).bind fun v2 => f_RE_surface_L9 μ y1 y4 n v2.1 v2.2 (y7 + 1)))
def f_RE_surface (μ : Mem) (x1 : Int64) (x3 : Int32) (x4 : Int32) : Option (Int32) :=
  (f_RE_surface_L9 μ x1 x4 FU x3 0 0).bind fun v6 => (f_RE_greatestDivisor (if 0 ≤ v6.1 then v6.1 else 0 - v6.1) v6.2).bind fun v7 => if v7 = 0 then (if x4 = 0 then (some 1) else (some 0)) else ((if x4 = 0 then (some v6.2) else (some v6.1)).bind fun v8 => Zg v7 (some (v8 / v7)))
def f_RE_landLeftAt_L5 (μ : Mem) (y1 : Int32) : Nat → Int64 → Int32 → Option (Int64)
  | 0, _, _ => none
  | n + 1, y2, y4 =>
  if (μ.1 18 9) ≤ y4 then (some y2) else (G y4 64 (G (μ.1 23 y4.toNatClampNeg) 64 ((if (μ.1 22 (μ.1 23 y4.toNatClampNeg).toNatClampNeg) < y1 then (some y2) else (some (y2 ||| (f_LR_only (μ.1 23 y4.toNatClampNeg))))).bind fun v3 => f_RE_landLeftAt_L5 μ y1 n v3 (y4 + 1))))
def f_RE_landLeftAt (μ : Mem) (x1 : Int32) : Option (Int64) :=
  (f_RE_landLeftAt_L5 μ x1 FU 0 0).bind fun v4 => some v4
def f_RE_withoutPieceAt_L42 (y7 : Int32) : Nat → Mem → Int64 → Int32 → Int32 → Option (Int64 × Int32 × Mem)
  | 0, _, _, _, _ => none
  | n + 1, μ, y4, y6, y8 =>
  if 4 ≤ y8 then (some (y4, y6, μ)) else (G y7 64 ((f_RE_beside μ (μ.1 25 y7.toNatClampNeg) y8).bind fun v3 => (if v3 = (-5) then (some (y4, y6, μ)) else (if (f_LR_isIn y4 v3) = 0 then (some (y4, y6, μ)) else (if 64 ≤ y6 then (some (y4, y6, μ)) else (G y6 64 (some ((y4 &&& ((f_LR_only v3) ^^^ (-1))), (y6 + 1), (sI μ 25 y6.toNatClampNeg v3))))))).bind fun v4 => f_RE_withoutPieceAt_L42 y7 n v4.2.2 v4.1 v4.2.1 (y8 + 1)))
def f_RE_withoutPieceAt_L25  : Nat → Mem → Int64 → Int32 → Int32 → Option (Int64 × Mem)
  | 0, _, _, _, _ => none
  | n + 1, μ, y4, y6, y7 =>
  if y6 ≤ y7 then (some (y4, μ)) else (if 64 ≤ y7 then (some (y4, μ)) else ((f_RE_withoutPieceAt_L42 y7 FU μ y4 y6 0).bind fun v6 => f_RE_withoutPieceAt_L25 n v6.2.2 v6.1 v6.2.1 (y7 + 1)))
def f_RE_withoutPieceAt (μ : Mem) (x1 : Int32) (x2 : Int64) : Option (Int64 × Mem) :=
  G 0 64 ((f_RE_withoutPieceAt_L25 FU (sI μ 25 (0 : Int32).toNatClampNeg x1) (x2 &&& ((f_LR_only x1) ^^^ (-1))) 1 0).bind fun v7 => some (v7.1, v7.2))
def f_RE_piecesOf_L8  : Nat → Mem → Int64 → Int32 → Int32 → Option (Int32 × Mem)
  | 0, _, _, _, _ => none
  | n + 1, μ, y3, y5, y6 =>
  if (μ.1 18 8) ≤ y6 then (some (y5, μ)) else ((if (f_LR_isIn y3 y6) = 0 then (some (y3, y5, μ)) else ((f_RE_withoutPieceAt μ y6 y3).bind fun v2 => some (v2.1, (y5 + 1), v2.2))).bind fun v1 => f_RE_piecesOf_L8 n v1.2.2 v1.1 v1.2.1 (y6 + 1))
def f_RE_piecesOf (μ : Mem) (x1 : Int64) : Option (Int32 × Mem) :=
  (f_RE_piecesOf_L8 FU μ x1 0 0).bind fun v3 => some (v3.1, v3.2)
def f_ST_become_L12 (y0 : Nat) : Nat → Mem → Int32 → Option (Mem)
  | 0, _, _ => none
  | n + 1, μ, y3 =>
  if 12 ≤ y3 then (some μ) else (G y3 12 (f_ST_become_L12 y0 n (sI μ (10 + y0) y3.toNatClampNeg 0) (y3 + 1)))
def f_ST_become (μ : Mem) (o : Nat) (x1 : Int32) (x2 : Int32) : Option (Mem) :=
  (f_ST_become_L12 o FU (sI (sI μ (2 + o) 1 x1) (2 + o) 2 x2) 0).bind fun v2 => some v2
def f_ST_hasPlace (μ : Mem) (o : Nat) (x1 : Int32) : Int32 :=
  if x1 < 0 then (0) else (if (μ.1 (2 + o) 2) ≤ x1 then (0) else (1))
def f_ST_hasRun (μ : Mem) (o : Nat) (x1 : Int32) (x2 : Int32) : Int32 :=
  if x1 < 0 then (0) else (if x2 < 0 then (0) else (if (μ.1 (2 + o) 2) < x1 then (0) else (if ((μ.1 (2 + o) 2) - x1) < x2 then (0) else (1))))
def f_ST_keep (μ : Mem) (o : Nat) (x1 : Int32) (x2 : Int32) : Option (Mem) :=
  (if (μ.1 (2 + o) 1) = 0 then (some x2.toInt8.toInt32) else (if (μ.1 (2 + o) 1) = 1 then (some x2.toInt16.toInt32) else (some x2))).bind fun v1 => G x1 12 (some (sI μ (10 + o) x1.toNatClampNeg v1))
def f_LR_isStrip (x0 : Int32) : Int32 :=
  if x0 < 0 then (0) else (if 8 ≤ x0 then (0) else (1))
def f_LR_strip (μ : Mem) (x1 : Int32) (x2 : Int32) (x3 : Int32) : Option (Int32 × Mem) :=
  if (f_LR_isStrip x1) = 0 then (some ((-1), μ)) else (if x2 < (-1) then (some ((-1), μ)) else (if x2 ≤ 2 then (if x2 = (-1) then (G x1 8 ((f_ST_become μ x1.toNatClampNeg (-1) 0).bind fun v4 => some (0, v4))) else (if x3 ≤ 12 then (if 0 ≤ x3 then (G x1 8 ((f_ST_become μ x1.toNatClampNeg x2 x3).bind fun v2 => some (0, v2))) else (some ((-13), μ))) else (some ((-1), μ)))) else (some ((-1), μ))))
def f_LR_refusalOfPlace (μ : Mem) (x1 : Int32) (x2 : Int32) : Option (Int32) :=
  if (f_LR_isStrip x1) = 0 then (some (-1)) else (G x1 8 (if (μ.1 (2 + x1.toNatClampNeg) 1) = (-1) then (some (-11)) else (G x1 8 (if (f_ST_hasPlace μ x1.toNatClampNeg x2) = 0 then (some (-12)) else (some 0)))))
def f_LR_put (μ : Mem) (x1 : Int32) (x2 : Int32) (x3 : Int32) : Option (Int32 × Mem) :=
  (f_LR_refusalOfPlace μ x1 x2).bind fun v1 => if v1 = 0 then (G x1 8 ((f_ST_keep μ x1.toNatClampNeg x2 x3).bind fun v3 => some (0, v3))) else (some (v1, μ))
def f_LR_copy (μ : Mem) (x1 : Int32) (x2 : Int32) (x3 : Int32) (x4 : Int32) (x5 : Int32) : Option (Int32 × Mem) :=
  if (f_LR_isStrip x1) = 0 then (some ((-1), μ)) else (if (f_LR_isStrip x3) = 0 then (some ((-1), μ)) else (G x1 8 (G x3 8 (if (μ.1 (2 + x1.toNatClampNeg) 1) = (-1) then (some ((-11), μ)) else (if (μ.1 (2 + x3.toNatClampNeg) 1) = (-1) then (some ((-11), μ)) else (if (μ.1 (2 + x1.toNatClampNeg) 1) = (μ.1 (2 + x3.toNatClampNeg) 1) then (if (f_ST_hasRun μ x1.toNatClampNeg x2 x5) = 0 then (some ((-12), μ)) else (if (f_ST_hasRun μ x3.toNatClampNeg x4 x5) = 0 then (some ((-12), μ)) else (Cg x2 x4 x5 (some (0, (sR μ (10 + x3.toNatClampNeg) (va_cpy (μ.1 (10 + x1.toNatClampNeg)) (μ.1 (10 + x3.toNatClampNeg)) x2.toNatClampNeg x4.toNatClampNeg x5.toNatClampNeg))))))) else (some ((-14), μ))))))))
def f_LR_told (μ : Mem) (x1 : Int32) (x2 : Int32) : Option (Int64) :=
  (f_LR_refusalOfPlace μ x1 x2).bind fun v1 => if v1 = 0 then (G x1 8 (G x2 12 (some ((μ.1 (10 + x1.toNatClampNeg) x2.toNatClampNeg).toInt64)))) else (some (10000000000 - v1.toInt64))
def f_LR_isHeight (x0 : Int32) : Int32 :=
  if x0 < (-1000000) then (0) else (if 1000000 < x0 then (0) else (1))
def f_LR_canBeLaid_L10 (μ : Mem) (y1 : Int32) (y2 : Int32) (y3 : Int32) (K : Unit → Option (Int32)) : Nat → Int32 → Option (Int32)
  | 0, _ => none
  | n + 1, y4 =>
  if y1 ≤ y4 then (K ()) else (G y3 8 (if (f_ST_hasPlace μ y3.toNatClampNeg y4) = 0 then (f_LR_canBeLaid_L10 μ y1 y2 y3 K n (y4 + 1)) else (G y3 8 (G y4 12 (if (f_LR_isHeight (μ.1 (10 + y3.toNatClampNeg) y4.toNatClampNeg)) = 0 then (some 0) else (f_LR_canBeLaid_L10 μ y1 y2 y3 K n (y4 + 1)))))))
def f_LR_canBeLaid_L2 (μ : Mem) (y1 : Int32) (y2 : Int32) (K : Unit → Option (Int32)) : Nat → Int32 → Option (Int32)
  | 0, _ => none
  | n + 1, y3 =>
  if y2 ≤ y3 then (K ()) else (f_LR_canBeLaid_L10 μ y1 y2 y3 (fun _ => f_LR_canBeLaid_L2 μ y1 y2 K n (y3 + 1)) FU 0)
def f_LR_canBeLaid (μ : Mem) (x1 : Int32) (x2 : Int32) : Option (Int32) :=
  f_LR_canBeLaid_L2 μ x1 x2 (fun _ => some 1) FU 0
def f_LR_layLine_L2 (y1 : Int32) (y2 : Int32) : Nat → Mem → Int32 → Option (Mem)
  | 0, _, _ => none
  | n + 1, μ, y3 =>
  if y2 ≤ y3 then (some μ) else (G y1 8 ((if (f_ST_hasPlace μ y1.toNatClampNeg y3) = 0 then (some μ) else (G y1 8 (G y3 12 ((f_RE_raiseLand μ ((y2 * y1) + y3) (μ.1 (10 + y1.toNatClampNeg) y3.toNatClampNeg)).bind fun v5 => some v5)))).bind fun v2 => f_LR_layLine_L2 y1 y2 n v2 (y3 + 1)))
def f_LR_layLine (μ : Mem) (x1 : Int32) (x2 : Int32) : Option (Mem) :=
  (f_LR_layLine_L2 x1 x2 FU μ 0).bind fun v6 => some v6
def f_LR_lay_L44 (y1 : Int32) (y2 : Int32) : Nat → Mem → Int32 → Option (Mem)
  | 0, _, _ => none
  | n + 1, μ, y3 =>
  if y2 ≤ y3 then (some μ) else ((f_LR_layLine μ y3 y1).bind fun v3 => f_LR_lay_L44 y1 y2 n v3 (y3 + 1))
def f_LR_lay (μ : Mem) (x1 : Int32) (x2 : Int32) : Option (Int32 × Mem) :=
  if x1 < 1 then (some ((-1), μ)) else (if 8 < x1 then (some ((-1), μ)) else (if x2 < 1 then (some ((-1), μ)) else (if 8 < x2 then (some ((-1), μ)) else ((f_LR_canBeLaid μ x1 x2).bind fun v1 => if v1 = 0 then (some ((-1), μ)) else ((f_RE_flood μ x1 x2).bind fun v2 => (f_LR_lay_L44 x1 x2 FU v2 0).bind fun v4 => (f_RE_survey v4).bind fun v5 => (f_LK_come v5).bind fun v6 => some (((sI v6 0 3 1).1 18 9), (sI v6 0 3 1)))))))
def f_LR_field (μ : Mem) (x1 : Int32) (x2 : Int32) : Option (Int32) :=
  if (μ.1 0 3) = 0 then (some (-2000002)) else (if (f_RE_isField μ x1) = 0 then (some (-2000001)) else (if x2 < 0 then (some (-2000001)) else (if x2 ≤ 5 then (if (f_RE_isLand μ x1) = 0 then (if x2 = 0 then (some 1) else (if x2 = 5 then (some (-3)) else (some 0))) else (if x2 = 0 then (some 0) else (if x2 = 1 then (G x1 64 (some (μ.1 19 x1.toNatClampNeg))) else (if x2 = 2 then (G x1 64 (some (μ.1 20 x1.toNatClampNeg))) else (if x2 = 3 then (G x1 64 (some (μ.1 21 x1.toNatClampNeg))) else (if x2 = 4 then (G x1 64 (some (μ.1 22 x1.toNatClampNeg))) else ((f_LK_thereWith μ x1).bind fun v5 => some v5))))))) else (some (-2000001)))))
def f_LR_hollow (μ : Mem) (x1 : Int32) : Option (Int32) :=
  if (μ.1 0 3) = 0 then (some (-2)) else (if 0 ≤ x1 then ((f_RE_hollowAt μ x1).bind fun v1 => some v1) else (some (-1)))
def f_JL_bitCount (x0 : Int64) : Int32 :=
  (((((((((x0 - ((x0.toUInt64 >>> ((1 : Int32).toInt64.toUInt64 &&& Int64.toUInt64 63)).toInt64 &&& 6148914691236517205)) &&& 3689348814741910323) + (((x0 - ((x0.toUInt64 >>> ((1 : Int32).toInt64.toUInt64 &&& Int64.toUInt64 63)).toInt64 &&& 6148914691236517205)).toUInt64 >>> ((2 : Int32).toInt64.toUInt64 &&& Int64.toUInt64 63)).toInt64 &&& 3689348814741910323)) + ((((x0 - ((x0.toUInt64 >>> ((1 : Int32).toInt64.toUInt64 &&& Int64.toUInt64 63)).toInt64 &&& 6148914691236517205)) &&& 3689348814741910323) + (((x0 - ((x0.toUInt64 >>> ((1 : Int32).toInt64.toUInt64 &&& Int64.toUInt64 63)).toInt64 &&& 6148914691236517205)).toUInt64 >>> ((2 : Int32).toInt64.toUInt64 &&& Int64.toUInt64 63)).toInt64 &&& 3689348814741910323)).toUInt64 >>> ((4 : Int32).toInt64.toUInt64 &&& Int64.toUInt64 63)).toInt64) &&& 1085102592571150095) + ((((((x0 - ((x0.toUInt64 >>> ((1 : Int32).toInt64.toUInt64 &&& Int64.toUInt64 63)).toInt64 &&& 6148914691236517205)) &&& 3689348814741910323) + (((x0 - ((x0.toUInt64 >>> ((1 : Int32).toInt64.toUInt64 &&& Int64.toUInt64 63)).toInt64 &&& 6148914691236517205)).toUInt64 >>> ((2 : Int32).toInt64.toUInt64 &&& Int64.toUInt64 63)).toInt64 &&& 3689348814741910323)) + ((((x0 - ((x0.toUInt64 >>> ((1 : Int32).toInt64.toUInt64 &&& Int64.toUInt64 63)).toInt64 &&& 6148914691236517205)) &&& 3689348814741910323) + (((x0 - ((x0.toUInt64 >>> ((1 : Int32).toInt64.toUInt64 &&& Int64.toUInt64 63)).toInt64 &&& 6148914691236517205)).toUInt64 >>> ((2 : Int32).toInt64.toUInt64 &&& Int64.toUInt64 63)).toInt64 &&& 3689348814741910323)).toUInt64 >>> ((4 : Int32).toInt64.toUInt64 &&& Int64.toUInt64 63)).toInt64) &&& 1085102592571150095).toUInt64 >>> ((8 : Int32).toInt64.toUInt64 &&& Int64.toUInt64 63)).toInt64) + (((((((x0 - ((x0.toUInt64 >>> ((1 : Int32).toInt64.toUInt64 &&& Int64.toUInt64 63)).toInt64 &&& 6148914691236517205)) &&& 3689348814741910323) + (((x0 - ((x0.toUInt64 >>> ((1 : Int32).toInt64.toUInt64 &&& Int64.toUInt64 63)).toInt64 &&& 6148914691236517205)).toUInt64 >>> ((2 : Int32).toInt64.toUInt64 &&& Int64.toUInt64 63)).toInt64 &&& 3689348814741910323)) + ((((x0 - ((x0.toUInt64 >>> ((1 : Int32).toInt64.toUInt64 &&& Int64.toUInt64 63)).toInt64 &&& 6148914691236517205)) &&& 3689348814741910323) + (((x0 - ((x0.toUInt64 >>> ((1 : Int32).toInt64.toUInt64 &&& Int64.toUInt64 63)).toInt64 &&& 6148914691236517205)).toUInt64 >>> ((2 : Int32).toInt64.toUInt64 &&& Int64.toUInt64 63)).toInt64 &&& 3689348814741910323)).toUInt64 >>> ((4 : Int32).toInt64.toUInt64 &&& Int64.toUInt64 63)).toInt64) &&& 1085102592571150095) + ((((((x0 - ((x0.toUInt64 >>> ((1 : Int32).toInt64.toUInt64 &&& Int64.toUInt64 63)).toInt64 &&& 6148914691236517205)) &&& 3689348814741910323) + (((x0 - ((x0.toUInt64 >>> ((1 : Int32).toInt64.toUInt64 &&& Int64.toUInt64 63)).toInt64 &&& 6148914691236517205)).toUInt64 >>> ((2 : Int32).toInt64.toUInt64 &&& Int64.toUInt64 63)).toInt64 &&& 3689348814741910323)) + ((((x0 - ((x0.toUInt64 >>> ((1 : Int32).toInt64.toUInt64 &&& Int64.toUInt64 63)).toInt64 &&& 6148914691236517205)) &&& 3689348814741910323) + (((x0 - ((x0.toUInt64 >>> ((1 : Int32).toInt64.toUInt64 &&& Int64.toUInt64 63)).toInt64 &&& 6148914691236517205)).toUInt64 >>> ((2 : Int32).toInt64.toUInt64 &&& Int64.toUInt64 63)).toInt64 &&& 3689348814741910323)).toUInt64 >>> ((4 : Int32).toInt64.toUInt64 &&& Int64.toUInt64 63)).toInt64) &&& 1085102592571150095).toUInt64 >>> ((8 : Int32).toInt64.toUInt64 &&& Int64.toUInt64 63)).toInt64).toUInt64 >>> ((16 : Int32).toInt64.toUInt64 &&& Int64.toUInt64 63)).toInt64) + ((((((((x0 - ((x0.toUInt64 >>> ((1 : Int32).toInt64.toUInt64 &&& Int64.toUInt64 63)).toInt64 &&& 6148914691236517205)) &&& 3689348814741910323) + (((x0 - ((x0.toUInt64 >>> ((1 : Int32).toInt64.toUInt64 &&& Int64.toUInt64 63)).toInt64 &&& 6148914691236517205)).toUInt64 >>> ((2 : Int32).toInt64.toUInt64 &&& Int64.toUInt64 63)).toInt64 &&& 3689348814741910323)) + ((((x0 - ((x0.toUInt64 >>> ((1 : Int32).toInt64.toUInt64 &&& Int64.toUInt64 63)).toInt64 &&& 6148914691236517205)) &&& 3689348814741910323) + (((x0 - ((x0.toUInt64 >>> ((1 : Int32).toInt64.toUInt64 &&& Int64.toUInt64 63)).toInt64 &&& 6148914691236517205)).toUInt64 >>> ((2 : Int32).toInt64.toUInt64 &&& Int64.toUInt64 63)).toInt64 &&& 3689348814741910323)).toUInt64 >>> ((4 : Int32).toInt64.toUInt64 &&& Int64.toUInt64 63)).toInt64) &&& 1085102592571150095) + ((((((x0 - ((x0.toUInt64 >>> ((1 : Int32).toInt64.toUInt64 &&& Int64.toUInt64 63)).toInt64 &&& 6148914691236517205)) &&& 3689348814741910323) + (((x0 - ((x0.toUInt64 >>> ((1 : Int32).toInt64.toUInt64 &&& Int64.toUInt64 63)).toInt64 &&& 6148914691236517205)).toUInt64 >>> ((2 : Int32).toInt64.toUInt64 &&& Int64.toUInt64 63)).toInt64 &&& 3689348814741910323)) + ((((x0 - ((x0.toUInt64 >>> ((1 : Int32).toInt64.toUInt64 &&& Int64.toUInt64 63)).toInt64 &&& 6148914691236517205)) &&& 3689348814741910323) + (((x0 - ((x0.toUInt64 >>> ((1 : Int32).toInt64.toUInt64 &&& Int64.toUInt64 63)).toInt64 &&& 6148914691236517205)).toUInt64 >>> ((2 : Int32).toInt64.toUInt64 &&& Int64.toUInt64 63)).toInt64 &&& 3689348814741910323)).toUInt64 >>> ((4 : Int32).toInt64.toUInt64 &&& Int64.toUInt64 63)).toInt64) &&& 1085102592571150095).toUInt64 >>> ((8 : Int32).toInt64.toUInt64 &&& Int64.toUInt64 63)).toInt64) + (((((((x0 - ((x0.toUInt64 >>> ((1 : Int32).toInt64.toUInt64 &&& Int64.toUInt64 63)).toInt64 &&& 6148914691236517205)) &&& 3689348814741910323) + (((x0 - ((x0.toUInt64 >>> ((1 : Int32).toInt64.toUInt64 &&& Int64.toUInt64 63)).toInt64 &&& 6148914691236517205)).toUInt64 >>> ((2 : Int32).toInt64.toUInt64 &&& Int64.toUInt64 63)).toInt64 &&& 3689348814741910323)) + ((((x0 - ((x0.toUInt64 >>> ((1 : Int32).toInt64.toUInt64 &&& Int64.toUInt64 63)).toInt64 &&& 6148914691236517205)) &&& 3689348814741910323) + (((x0 - ((x0.toUInt64 >>> ((1 : Int32).toInt64.toUInt64 &&& Int64.toUInt64 63)).toInt64 &&& 6148914691236517205)).toUInt64 >>> ((2 : Int32).toInt64.toUInt64 &&& Int64.toUInt64 63)).toInt64 &&& 3689348814741910323)).toUInt64 >>> ((4 : Int32).toInt64.toUInt64 &&& Int64.toUInt64 63)).toInt64) &&& 1085102592571150095) + ((((((x0 - ((x0.toUInt64 >>> ((1 : Int32).toInt64.toUInt64 &&& Int64.toUInt64 63)).toInt64 &&& 6148914691236517205)) &&& 3689348814741910323) + (((x0 - ((x0.toUInt64 >>> ((1 : Int32).toInt64.toUInt64 &&& Int64.toUInt64 63)).toInt64 &&& 6148914691236517205)).toUInt64 >>> ((2 : Int32).toInt64.toUInt64 &&& Int64.toUInt64 63)).toInt64 &&& 3689348814741910323)) + ((((x0 - ((x0.toUInt64 >>> ((1 : Int32).toInt64.toUInt64 &&& Int64.toUInt64 63)).toInt64 &&& 6148914691236517205)) &&& 3689348814741910323) + (((x0 - ((x0.toUInt64 >>> ((1 : Int32).toInt64.toUInt64 &&& Int64.toUInt64 63)).toInt64 &&& 6148914691236517205)).toUInt64 >>> ((2 : Int32).toInt64.toUInt64 &&& Int64.toUInt64 63)).toInt64 &&& 3689348814741910323)).toUInt64 >>> ((4 : Int32).toInt64.toUInt64 &&& Int64.toUInt64 63)).toInt64) &&& 1085102592571150095).toUInt64 >>> ((8 : Int32).toInt64.toUInt64 &&& Int64.toUInt64 63)).toInt64).toUInt64 >>> ((16 : Int32).toInt64.toUInt64 &&& Int64.toUInt64 63)).toInt64).toUInt64 >>> ((32 : Int32).toInt64.toUInt64 &&& Int64.toUInt64 63)).toInt64).toInt32 &&& 127)
def f_LR_lake (μ : Mem) (x1 : Int32) (x2 : Int32) : Option (Int32) :=
  if (μ.1 0 3) = 0 then (some (-2000002)) else (if (f_LK_isLake μ x1) = 0 then (some (-2000001)) else (if x2 < 0 then (some (-2000001)) else (if x2 ≤ 9 then (G x1 35 (if x2 = 0 then (if (f_LA_isDouble μ x1.toNatClampNeg) = 0 then (some 0) else (some 1)) else (if x2 = 1 then ((f_RE_lowestOf μ (μ.2 (28 + x1.toNatClampNeg) 0)).bind fun v2 => some v2) else (if x2 = 2 then (some (μ.1 (28 + x1.toNatClampNeg) 1)) else (if x2 = 3 then (some (μ.1 (28 + x1.toNatClampNeg) 2)) else (if x2 = 4 then (some (μ.1 (28 + x1.toNatClampNeg) 3)) else (if x2 = 5 then (some (μ.1 (28 + x1.toNatClampNeg) 4)) else (if x2 = 6 then (some (f_JL_bitCount (μ.2 (28 + x1.toNatClampNeg) 0))) else (if x2 = 7 then (some (μ.1 (28 + x1.toNatClampNeg) 5)) else (if x2 = 8 then (if (μ.1 (28 + x1.toNatClampNeg) 6) = 0 then (some 0) else (some 1)) else (if (μ.1 (28 + x1.toNatClampNeg) 6) = 0 then (some 0) else (some (μ.1 (28 + x1.toNatClampNeg) 7))))))))))))) else (some (-2000001)))))
def f_LR_ground (μ : Mem) (x1 : Int32) (x2 : Int32) : Option (Int32) :=
  if (μ.1 0 3) = 0 then (some (-2)) else (if (f_LK_isLake μ x1) = 0 then (some (-1)) else (if (f_RE_isField μ x2) = 0 then (some (-1)) else (G x1 35 (if (f_LR_isIn (μ.2 (28 + x1.toNatClampNeg) 0) x2) = 0 then (some 0) else (some 1)))))
def f_LR_holds (μ : Mem) (x1 : Int32) (x2 : Int32) : Option (Int32) :=
  if (μ.1 0 3) = 0 then (some (-2)) else ((f_LK_isLevelOf μ x1 x2).bind fun v1 => if v1 = 0 then (some (-1)) else (G x1 35 ((f_RE_roomBelow μ (μ.2 (28 + x1.toNatClampNeg) 0) x2).bind fun v3 => some v3)))
def f_LR_area (μ : Mem) (x1 : Int32) (x2 : Int32) : Option (Int32) :=
  if (μ.1 0 3) = 0 then (some (-2)) else ((f_LK_isLevelOf μ x1 x2).bind fun v1 => if v1 = 0 then (some (-1)) else (G x1 35 ((f_RE_countBelow μ (μ.2 (28 + x1.toNatClampNeg) 0) x2).bind fun v3 => some v3)))
def f_LR_pour (μ : Mem) (x1 : Int32) (x2 : Int32) : Option (Int32 × Mem) :=
  if (μ.1 0 3) = 0 then (some ((-2), μ)) else (if (f_RE_isField μ x1) = 0 then (some ((-1), μ)) else (if x2 < 0 then (some ((-1), μ)) else (if x2 ≤ 1000000 then ((f_LK_takeGrains μ x1 x2).bind fun v1 => some (v1.1, v1.2)) else (some ((-1), μ)))))
def f_LR_level (μ : Mem) (x1 : Int32) (x2 : Int32) : Option (Int32) :=
  if (μ.1 0 3) = 0 then (some (-2000002)) else (if (f_LK_isLake μ x1) = 0 then (some (-2000001)) else (G x1 35 (if (μ.1 (28 + x1.toNatClampNeg) 6) = 0 then (some (-2000001)) else (if x2 < 0 then (some (-2000001)) else (if x2 ≤ 1 then (G x1 35 (G x1 35 ((if x2 = 0 then (some 1) else (some 0)).bind fun v4 => (f_RE_surface μ (μ.2 (28 + x1.toNatClampNeg) 0) (μ.1 (28 + x1.toNatClampNeg) 7) v4).bind fun v5 => some v5))) else (some (-2000001)))))))
def f_LR_isSeaLevel (x0 : Int32) : Int32 :=
  if x0 < (-1000000) then (0) else (if 1000001 < x0 then (0) else (1))
def f_LR_rise (μ : Mem) (x1 : Int32) : Option (Int32) :=
  if (μ.1 0 3) = 0 then (some (-2)) else (if (f_LR_isSeaLevel x1) = 0 then (some (-1)) else ((f_RE_landLeftAt μ x1).bind fun v1 => some ((μ.1 18 9) - (f_JL_bitCount v1))))
def f_LR_islands (μ : Mem) (x1 : Int32) : Option (Int32 × Mem) :=
  if (μ.1 0 3) = 0 then (some ((-2), μ)) else (if (f_LR_isSeaLevel x1) = 0 then (some ((-1), μ)) else ((f_RE_landLeftAt μ x1).bind fun v1 => (f_RE_piecesOf μ v1).bind fun v2 => some (v2.1, v2.2)))
def f_LR_count (μ : Mem) (x1 : Int32) : Option (Int64) :=
  if (μ.1 0 3) = 0 then (some (-2)) else (if x1 = 0 then (some ((μ.1 18 8).toInt64)) else (if x1 = 1 then (some ((μ.1 18 9).toInt64)) else (if x1 = 2 then ((f_RE_hollowCount μ).bind fun v1 => some v1.toInt64) else (if x1 = 3 then (some ((μ.1 26 1).toInt64)) else (if x1 = 4 then ((f_LK_numberThere μ).bind fun v2 => some v2.toInt64) else (if x1 = 5 then ((f_LK_waterThere μ).bind fun v3 => some v3) else (if x1 = 6 then (some (μ.2 26 2)) else (if x1 = 7 then (some (μ.2 26 3)) else (some (-1))))))))))
def f_MO_in (x0 : Int64) (x2 : Int64) (x4 : Int64) : Int32 :=
  if (lg_cmp x0 x2) < 0 then (0) else (if 0 < (lg_cmp x0 x4) then (0) else (1))
def f_MO_isStrip (x0 : Int32) : Option (Int32) :=
  Bg (f_MO_in x0.toInt64 0 7) (some (f_MO_in x0.toInt64 0 7))
def f_MO_strip_L69 (y1 : Int32) : Nat → Mem → Int32 → Option (Mem)
  | 0, _, _ => none
  | n + 1, ν, y4 =>
  if 12 ≤ y4 then (some ν) else (G ((12 * y1) + y4) 96 (f_MO_strip_L69 y1 n (sI ν 66 ((12 * y1) + y4).toNatClampNeg 0) (y4 + 1)))
def f_MO_strip (ν : Mem) (x1 : Int32) (x2 : Int32) (x3 : Int32) : Option (Int32 × Mem) :=
  (f_MO_isStrip x1).bind fun v1 => if v1 = 0 then (some ((-1), ν)) else (if (f_MO_in x2.toInt64 (-1) 2) = 0 then (some ((-1), ν)) else (if x2 < 0 then (if x2 < 0 then (G x1 8 ((if 0 ≤ x2 then (some x3) else (some 0)).bind fun v3 => G x1 8 ((f_MO_strip_L69 x1 FU (sI (sI ν 64 x1.toNatClampNeg x2) 65 x1.toNatClampNeg v3) 0).bind fun v6 => some (0, v6)))) else (if 0 ≤ x3 then (G x1 8 ((if 0 ≤ x2 then (some x3) else (some 0)).bind fun v8 => G x1 8 ((f_MO_strip_L69 x1 FU (sI (sI ν 64 x1.toNatClampNeg x2) 65 x1.toNatClampNeg v8) 0).bind fun v11 => some (0, v11)))) else (some ((-13), ν)))) else (if x3 ≤ 12 then (if x2 < 0 then (G x1 8 ((if 0 ≤ x2 then (some x3) else (some 0)).bind fun v13 => G x1 8 ((f_MO_strip_L69 x1 FU (sI (sI ν 64 x1.toNatClampNeg x2) 65 x1.toNatClampNeg v13) 0).bind fun v16 => some (0, v16)))) else (if 0 ≤ x3 then (G x1 8 ((if 0 ≤ x2 then (some x3) else (some 0)).bind fun v18 => G x1 8 ((f_MO_strip_L69 x1 FU (sI (sI ν 64 x1.toNatClampNeg x2) 65 x1.toNatClampNeg v18) 0).bind fun v21 => some (0, v21)))) else (some ((-13), ν)))) else (some ((-1), ν)))))
def f_MO_against (ν : Mem) (x1 : Int32) (x2 : Int32) : Option (Int32) :=
  (f_MO_isStrip x1).bind fun v1 => if v1 = 0 then (some (-1)) else (G x1 8 (if 0 ≤ (ν.1 64 x1.toNatClampNeg) then (G x1 8 (if (f_MO_in x2.toInt64 0 (((ν.1 65 x1.toNatClampNeg) - 1).toInt64)) = 0 then (some (-12)) else (some 0))) else (some (-11))))
def f_MO_put (ν : Mem) (x1 : Int32) (x2 : Int32) (x3 : Int32) : Option (Int32 × Mem) :=
  (f_MO_against ν x1 x2).bind fun v1 => (if v1 = 0 then (G x1 8 ((if (ν.1 64 x1.toNatClampNeg) = 0 then (some x3.toInt8.toInt32) else (G x1 8 (if (ν.1 64 x1.toNatClampNeg) = 1 then (some x3.toInt16.toInt32) else (some x3)))).bind fun v4 => G ((12 * x1) + x2) 96 (some (sI ν 66 ((12 * x1) + x2).toNatClampNeg v4)))) else (some ν)).bind fun v2 => some (v1, v2)
def f_MO_copy_L110 (y1 : Int32) (y2 : Int32) (y3 : Int32) (y4 : Int32) (y5 : Int32) : Nat → Mem → Int32 → Option (Mem)
  | 0, _, _ => none
  | n + 1, ν, y6 =>
  if y5 ≤ y6 then (some ν) else (G (((12 * y1) + y2) + y6) 96 (G y6 12 (f_MO_copy_L110 y1 y2 y3 y4 y5 n (sI ν 80 y6.toNatClampNeg (ν.1 66 (((12 * y1) + y2) + y6).toNatClampNeg)) (y6 + 1))))
def f_MO_copy_L147 (y3 : Int32) (y4 : Int32) (y5 : Int32) : Nat → Mem → Int32 → Option (Mem)
  | 0, _, _ => none
  | n + 1, ν, y6 =>
  if y5 ≤ y6 then (some ν) else (G y6 12 (G (((12 * y3) + y4) + y6) 96 (f_MO_copy_L147 y3 y4 y5 n (sI ν 66 (((12 * y3) + y4) + y6).toNatClampNeg (ν.1 80 y6.toNatClampNeg)) (y6 + 1))))
def f_MO_copy (ν : Mem) (x1 : Int32) (x2 : Int32) (x3 : Int32) (x4 : Int32) (x5 : Int32) : Option (Int32 × Mem) :=
  (f_MO_isStrip x1).bind fun v1 => if v1 = 0 then (some ((-1), ν)) else ((f_MO_isStrip x3).bind fun v2 => if v2 = 0 then (some ((-1), ν)) else (G x1 8 (if (ν.1 64 x1.toNatClampNeg) < 0 then (some ((-11), ν)) else (G x3 8 (if 0 ≤ (ν.1 64 x3.toNatClampNeg) then (G x1 8 (G x3 8 (if (ν.1 64 x1.toNatClampNeg) = (ν.1 64 x3.toNatClampNeg) then (if x5 < 0 then (some ((-12), ν)) else (if x2 < 0 then (some ((-12), ν)) else (if x4 < 0 then (some ((-12), ν)) else (G x1 8 (if 0 < (lg_cmp (x2.toInt64 + x5.toInt64) ((ν.1 65 x1.toNatClampNeg).toInt64)) then (some ((-12), ν)) else (G x3 8 (if (lg_cmp (x4.toInt64 + x5.toInt64) ((ν.1 65 x3.toNatClampNeg).toInt64)) ≤ 0 then ((f_MO_copy_L110 x1 x2 x3 x4 x5 FU ν 0).bind fun v11 => (f_MO_copy_L147 x3 x4 x5 FU v11 0).bind fun v14 => some (0, v14)) else (some ((-12), ν))))))))) else (some ((-14), ν))))) else (some ((-11), ν)))))))
def f_MO_told (ν : Mem) (x1 : Int32) (x2 : Int32) : Option (Int64) :=
  (f_MO_against ν x1 x2).bind fun v1 => if v1 = 0 then (G ((12 * x1) + x2) 96 (some ((ν.1 66 ((12 * x1) + x2).toNatClampNeg).toInt64))) else (some (10000000000 - v1.toInt64))
def f_MO_beside (ν : Mem) (x1 : Int32) (x2 : Int32) : Option (Int32) :=
  Zg (ν.1 63 4) (Zg (ν.1 63 4) (if x2 = 0 then (if (x1 / (ν.1 63 4)) ≤ 0 then (some 64) else (some (x1 - (ν.1 63 4)))) else (if x2 = 1 then (if (x1 - x1 / (ν.1 63 4) * (ν.1 63 4)) ≤ 0 then (some 64) else (some (x1 - 1))) else (if x2 = 2 then (if ((ν.1 63 4) - 1) ≤ (x1 - x1 / (ν.1 63 4) * (ν.1 63 4)) then (some 64) else (some (x1 + 1))) else (if (ν.1 63 5) ≤ (x1 + (ν.1 63 4)) then (some 64) else (some (x1 + (ν.1 63 4))))))))
def f_MO_isWet (ν : Mem) (x1 : Int32) : Option (Int32) :=
  if x1 = 64 then (some 1) else (G x1 64 (if (ν.1 67 x1.toNatClampNeg) = 0 then (some 0) else (some 1)))
def f_MO_isLower (ν : Mem) (x1 : Int32) (x2 : Int32) : Option (Int32) :=
  G x1 64 (G x2 64 (if (ν.1 68 x1.toNatClampNeg) = (ν.1 68 x2.toNatClampNeg) then (if x2 ≤ x1 then (some 0) else (some 1)) else (G x1 64 (G x2 64 (if (ν.1 68 x2.toNatClampNeg) ≤ (ν.1 68 x1.toNatClampNeg) then (some 0) else (some 1))))))
def f_MO_layDown_L7 (ν : Mem) (y1 : Int32) : Nat → Int32 → Int32 → Int32 → Option (Int32 × Int32)
  | 0, _, _, _ => none
  | n + 1, y2, y3, y4 =>
  if 4 ≤ y4 then (some (y2, y3)) else ((f_MO_beside ν y1 y4).bind fun v1 => (if y3 = 0 then ((f_MO_isWet ν v1).bind fun v3 => if v3 = 0 then (some 0) else (some 1)) else (some 1)).bind fun v2 => (f_MO_isWet ν v1).bind fun v4 => (if v4 = 0 then ((f_MO_isLower ν v1 y2).bind fun v6 => if v6 = 0 then (some y2) else (some v1)) else (some y2)).bind fun v5 => f_MO_layDown_L7 ν y1 n v5 v2 (y4 + 1))
def f_MO_layDown (ν : Mem) (x1 : Int32) : Option (Mem) :=
  (f_MO_layDown_L7 ν x1 FU x1 0 0).bind fun v7 => (if v7.2 = 0 then (if v7.1 = x1 then (some (-3)) else (some v7.1)) else (some (-5))).bind fun v8 => G x1 64 (some (sI ν 69 x1.toNatClampNeg v8))
def f_MO_endOf_L2 (ν : Mem)  : Nat → Int32 → Option (Int32)
  | 0, _ => none
  | n + 1, y2 =>
  if y2 < 0 then (some y2) else (G y2 64 (if (ν.1 69 y2.toNatClampNeg) < 0 then (some y2) else (G y2 64 (f_MO_endOf_L2 ν n (ν.1 69 y2.toNatClampNeg)))))
def f_MO_endOf (ν : Mem) (x1 : Int32) : Option (Int32) :=
  (f_MO_endOf_L2 ν FU x1).bind fun v3 => G v3 64 (if (ν.1 69 v3.toNatClampNeg) = (-5) then (some (-5)) else (some v3))
def f_MO_layFill_L2  : Nat → Mem → Int32 → Option (Mem)
  | 0, _, _ => none
  | n + 1, ν, y1 =>
  if (ν.1 63 5) ≤ y1 then (some ν) else (G y1 64 (f_MO_layFill_L2 n (sI ν 71 y1.toNatClampNeg 3000000) (y1 + 1)))
def f_MO_layFill_L52 (ν : Mem) (y1 : Int32) (y2 : Int32) : Nat → Int32 → Int32 → Option (Int32)
  | 0, _, _ => none
  | n + 1, y3, y4 =>
  if 4 ≤ y4 then (some y3) else (G y2 64 (if (ν.1 67 y2.toNatClampNeg) = 0 then ((f_MO_beside ν y2 y4).bind fun v5 => (f_MO_isWet ν v5).bind fun v6 => (if v6 = 0 then (G v5 64 (G y2 64 (if (ν.1 71 v5.toNatClampNeg) ≤ (ν.1 68 y2.toNatClampNeg) then (G y2 64 (some (ν.1 68 y2.toNatClampNeg))) else (G v5 64 (some (ν.1 71 v5.toNatClampNeg)))))) else (G y2 64 (some (ν.1 68 y2.toNatClampNeg)))).bind fun v7 => (if y3 ≤ v7 then (some y3) else (some v7)).bind fun v13 => f_MO_layFill_L52 ν y1 y2 n v13 (y4 + 1)) else (some y3)))
def f_MO_layFill_L34  : Nat → Mem → Int32 → Int32 → Option (Int32 × Mem)
  | 0, _, _, _ => none
  | n + 1, ν, y1, y2 =>
  if (ν.1 63 5) ≤ y2 then (some (y1, ν)) else (G y2 64 ((f_MO_layFill_L52 ν y1 y2 FU (ν.1 71 y2.toNatClampNeg) 0).bind fun v14 => (if y1 = 0 then (G y2 64 (if (ν.1 71 y2.toNatClampNeg) ≤ v14 then (some 0) else (some 1))) else (some 1)).bind fun v15 => G y2 64 (f_MO_layFill_L34 n (sI ν 71 y2.toNatClampNeg v14) v15 (y2 + 1))))
def f_MO_layFill_L26  : Nat → Mem → Int32 → Option (Mem)
  | 0, _, _ => none
  | n + 1, ν, y1 =>
  if y1 = 0 then (some ν) else ((f_MO_layFill_L34 FU ν 0 0).bind fun v18 => f_MO_layFill_L26 n v18.2 v18.1)
def f_MO_layFill (ν : Mem)  : Option (Mem) :=
  (f_MO_layFill_L2 FU ν 0).bind fun v2 => (f_MO_layFill_L26 FU v2 1).bind fun v19 => some v19
def f_MO_newLake (ν : Mem)  : Option (Int32 × Mem) :=
  G (ν.1 63 11) 64 (G (ν.1 63 11) 64 (G (ν.1 63 11) 64 (G (ν.1 63 11) 64 (G (ν.1 63 11) 64 (G (ν.1 63 11) 64 (G (ν.1 63 11) 64 (G (ν.1 63 11) 64 (some ((ν.1 63 11), (sI (sI (sI (sI (sI (sI (sJ (sI (sI ν 63 11 ((ν.1 63 11) + 1)) 72 (ν.1 63 11).toNatClampNeg (0 &&& 1)) 73 (ν.1 63 11).toNatClampNeg 0) 74 (ν.1 63 11).toNatClampNeg (-3)) 75 (ν.1 63 11).toNatClampNeg (-3)) 76 (ν.1 63 11).toNatClampNeg (-3)) 77 (ν.1 63 11).toNatClampNeg (-3)) 78 (ν.1 63 11).toNatClampNeg (0 &&& 1)) 79 (ν.1 63 11).toNatClampNeg 0))))))))))
def f_MO_joins (ν : Mem) (x1 : Int32) (x2 : Int32) : Option (Mem) :=
  G x1 64 (G x1 64 (G x2 64 (some (sI (sJ ν 73 x1.toNatClampNeg ((ν.2 73 x1.toNatClampNeg) ||| ((1 : Int64) <<< (x2.toInt64 &&& 63)))) 81 x2.toNatClampNeg x1))))
def f_MO_becomes_L2 (y1 : Int32) (y2 : Int32) : Nat → Mem → Int32 → Option (Mem)
  | 0, _, _ => none
  | n + 1, ν, y3 =>
  if (ν.1 63 5) ≤ y3 then (some ν) else (G y3 64 ((if (ν.1 82 y3.toNatClampNeg) = 0 then (some ν) else (G y3 64 (if (ν.1 81 y3.toNatClampNeg) = y1 then (G y3 64 (some (sI ν 81 y3.toNatClampNeg y2))) else (some ν)))).bind fun v2 => f_MO_becomes_L2 y1 y2 n v2 (y3 + 1)))
def f_MO_becomes (ν : Mem) (x1 : Int32) (x2 : Int32) : Option (Mem) :=
  (f_MO_becomes_L2 x1 x2 FU ν 0).bind fun v5 => some v5
def f_MO_lookBeside_L74 (ν : Mem) (y1 : Int32) (y2 : Int32) (y3 : Int32) (y4 : Int32) : Nat → Int32 → Int32 → Option (Int32)
  | 0, _, _ => none
  | n + 1, y5, y6 =>
  if (ν.1 63 26) ≤ y6 then (some y5) else ((if y5 = 0 then (G y6 4 (G y4 64 (if (ν.1 83 y6.toNatClampNeg) = (ν.1 81 y4.toNatClampNeg) then (some 1) else (some 0)))) else (some 1)).bind fun v6 => f_MO_lookBeside_L74 ν y1 y2 y3 y4 n v6 (y6 + 1))
def f_MO_lookBeside_L129 (y1 : Int32) (y2 : Int32) (y3 : Int32) (y4 : Int32) : Nat → Mem → Int32 → Option (Int32 × Mem)
  | 0, _, _ => none
  | n + 1, ν, y6 =>
  if y6 ≤ 0 then (some (y6, ν)) else (G (y6 - 1) 4 (G y4 64 (if (ν.1 83 (y6 - 1).toNatClampNeg) ≤ (ν.1 81 y4.toNatClampNeg) then (some (y6, ν)) else (G (y6 - 1) 4 (G y6 4 (f_MO_lookBeside_L129 y1 y2 y3 y4 n (sI ν 83 y6.toNatClampNeg (ν.1 83 (y6 - 1).toNatClampNeg)) (y6 + (-1))))))))
def f_MO_lookBeside_L9 (y1 : Int32) : Nat → Mem → Int32 → Int32 → Option (Int32 × Mem)
  | 0, _, _, _ => none
  | n + 1, ν, y2, y3 =>
  if 4 ≤ y3 then (some (y2, ν)) else ((f_MO_beside ν y1 y3).bind fun v1 => (f_MO_isWet ν v1).bind fun v2 => (if v2 = 0 then (G v1 64 (if (ν.1 82 v1.toNatClampNeg) = 0 then (G v1 64 (if (ν.1 82 v1.toNatClampNeg) = 0 then (some (y2, ν)) else ((f_MO_lookBeside_L74 ν y1 y2 y3 v1 FU 0 0).bind fun v9 => if v9 = 0 then ((f_MO_lookBeside_L129 y1 y2 y3 v1 FU ν (ν.1 63 26)).bind fun v14 => G v1 64 (G v14.1 4 (some (y2, (sI (sI v14.2 83 v14.1.toNatClampNeg (v14.2.1 81 v1.toNatClampNeg)) 63 26 (((sI v14.2 83 v14.1.toNatClampNeg (v14.2.1 81 v1.toNatClampNeg)).1 63 26) + 1)))))) else (some (y2, ν))))) else (G v1 64 (if (ν.1 81 v1.toNatClampNeg) = (-5) then (some (1, ν)) else (G v1 64 (if (ν.1 82 v1.toNatClampNeg) = 0 then (some (y2, ν)) else ((f_MO_lookBeside_L74 ν y1 y2 y3 v1 FU 0 0).bind fun v22 => if v22 = 0 then ((f_MO_lookBeside_L129 y1 y2 y3 v1 FU ν (ν.1 63 26)).bind fun v27 => G v1 64 (G v27.1 4 (some (y2, (sI (sI v27.2 83 v27.1.toNatClampNeg (v27.2.1 81 v1.toNatClampNeg)) 63 26 (((sI v27.2 83 v27.1.toNatClampNeg (v27.2.1 81 v1.toNatClampNeg)).1 63 26) + 1)))))) else (some (y2, ν))))))))) else (some (1, ν))).bind fun v3 => f_MO_lookBeside_L9 y1 n v3.2 v3.1 (y3 + 1))
def f_MO_lookBeside (ν : Mem) (x1 : Int32) : Option (Int32 × Mem) :=
  (f_MO_lookBeside_L9 x1 FU (sI ν 63 26 0) 0 0).bind fun v30 => Bg v30.1 (some (v30.1, v30.2))
def f_MO_twice (ν : Mem) (x1 : Int32) (x2 : Int32) (x3 : Int32) : Option (Int32 × Mem) :=
  (f_MO_newLake ν).bind fun v1 => G v1.1 64 ((if x2 ≤ x1 then (some x2) else (some x1)).bind fun v3 => G v1.1 64 ((if x2 ≤ x1 then (some x1) else (some x2)).bind fun v5 => G v1.1 64 (G x1 64 (G x2 64 (G v1.1 64 (G x1 64 (G x2 64 (G x1 64 (G x2 64 ((f_MO_becomes (sI (sI (sI (sI (sJ (sI (sI (sI v1.2 72 v1.1.toNatClampNeg (1 &&& 1)) 76 v1.1.toNatClampNeg v3) 77 v1.1.toNatClampNeg v5) 73 v1.1.toNatClampNeg (((sI (sI (sI v1.2 72 v1.1.toNatClampNeg (1 &&& 1)) 76 v1.1.toNatClampNeg v3) 77 v1.1.toNatClampNeg v5).2 73 x1.toNatClampNeg) ||| ((sI (sI (sI v1.2 72 v1.1.toNatClampNeg (1 &&& 1)) 76 v1.1.toNatClampNeg v3) 77 v1.1.toNatClampNeg v5).2 73 x2.toNatClampNeg))) 74 x1.toNatClampNeg x3) 74 x2.toNatClampNeg x3) 75 x1.toNatClampNeg v1.1) 75 x2.toNatClampNeg v1.1) x1 v1.1).bind fun v14 => (f_MO_becomes v14 x2 v1.1).bind fun v15 => some (v1.1, v15)))))))))))
def f_MO_goUnder_L103 (y1 : Int32) : Nat → Mem → Int32 → Int32 → Option (Int32 × Mem)
  | 0, _, _, _ => none
  | n + 1, ν, y3, y4 =>
  if (ν.1 63 26) ≤ y4 then (some (y3, ν)) else (G y4 4 ((f_MO_twice ν y3 (ν.1 83 y4.toNatClampNeg) y1).bind fun v5 => f_MO_goUnder_L103 y1 n v5.2 v5.1 (y4 + 1)))
def f_MO_goUnder_L12 (y1 : Int32) : Nat → Mem → Int32 → Option (Mem)
  | 0, _, _ => none
  | n + 1, ν, y3 =>
  if (ν.1 63 26) ≤ y3 then (some ν) else (G y3 4 (G (ν.1 83 y3.toNatClampNeg) 64 (G y3 4 (G ((sI ν 74 (ν.1 83 y3.toNatClampNeg).toNatClampNeg y1).1 83 y3.toNatClampNeg) 64 (G y3 4 ((f_MO_becomes (sI (sI ν 74 (ν.1 83 y3.toNatClampNeg).toNatClampNeg y1) 75 ((sI ν 74 (ν.1 83 y3.toNatClampNeg).toNatClampNeg y1).1 83 y3.toNatClampNeg).toNatClampNeg (-5)) ((sI (sI ν 74 (ν.1 83 y3.toNatClampNeg).toNatClampNeg y1) 75 ((sI ν 74 (ν.1 83 y3.toNatClampNeg).toNatClampNeg y1).1 83 y3.toNatClampNeg).toNatClampNeg (-5)).1 83 y3.toNatClampNeg) (-5)).bind fun v15 => f_MO_goUnder_L12 y1 n v15 (y3 + 1)))))))
def f_MO_goUnder (ν : Mem) (x1 : Int32) : Option (Mem) :=
  (f_MO_lookBeside ν x1).bind fun v1 => (if v1.1 = 0 then (if (v1.2.1 63 26) = 0 then ((f_MO_newLake v1.2).bind fun v8 => (f_MO_joins v8.2 v8.1 x1).bind fun v9 => some v9) else (G 0 4 ((f_MO_goUnder_L103 x1 FU v1.2 (v1.2.1 83 (0 : Int32).toNatClampNeg) 1).bind fun v6 => (f_MO_joins v6.2 v6.1 x1).bind fun v7 => some v7))) else ((f_MO_goUnder_L12 x1 FU v1.2 0).bind fun v16 => G x1 64 (some (sI v16 81 x1.toNatClampNeg (-5))))).bind fun v2 => G x1 64 (some (sI v2 82 x1.toNatClampNeg (1 &&& 1)))
def f_MO_layLakes_L7  : Nat → Mem → Int32 → Option (Mem)
  | 0, _, _ => none
  | n + 1, ν, y1 =>
  if (ν.1 63 5) ≤ y1 then (some ν) else (G y1 64 (G y1 64 (f_MO_layLakes_L7 n (sI (sI ν 82 y1.toNatClampNeg (0 &&& 1)) 81 y1.toNatClampNeg (-3)) (y1 + 1))))
def f_MO_layLakes_L51 (ν : Mem) (y1 : Int32) : Nat → Int32 → Int32 → Option (Int32)
  | 0, _, _ => none
  | n + 1, y2, y3 =>
  if (ν.1 63 5) ≤ y3 then (some y2) else (G y3 64 ((if (ν.1 67 y3.toNatClampNeg) = 0 then (G y3 64 (if (ν.1 82 y3.toNatClampNeg) = 0 then (if y2 = (-3) then (some y3) else ((f_MO_isLower ν y3 y2).bind fun v7 => if v7 = 0 then (some y2) else (some y3))) else (some y2))) else (some y2)).bind fun v5 => f_MO_layLakes_L51 ν y1 n v5 (y3 + 1)))
def f_MO_layLakes_L38  : Nat → Mem → Int32 → Option (Mem)
  | 0, _, _ => none
  | n + 1, ν, y1 =>
  if (ν.1 63 5) ≤ y1 then (some ν) else ((f_MO_layLakes_L51 ν y1 FU (-3) 0).bind fun v8 => (if v8 = (-3) then (some ν) else ((f_MO_goUnder ν v8).bind fun v10 => some v10)).bind fun v9 => f_MO_layLakes_L38 n v9 (y1 + 1))
def f_MO_layLakes_L119  : Nat → Mem → Int32 → Option (Mem)
  | 0, _, _ => none
  | n + 1, ν, y1 =>
  if (ν.1 63 11) ≤ y1 then (some ν) else (G y1 64 ((if (ν.1 72 y1.toNatClampNeg) = 0 then (some 1) else (some 0)).bind fun v13 => G y1 64 (f_MO_layLakes_L119 n (sI ν 78 y1.toNatClampNeg (v13 &&& 1)) (y1 + 1))))
def f_MO_layLakes (ν : Mem)  : Option (Mem) :=
  (f_MO_layLakes_L7 FU (sI ν 63 11 0) 0).bind fun v3 => (f_MO_layLakes_L38 FU v3 0).bind fun v11 => (f_MO_layLakes_L119 FU v11 0).bind fun v15 => some v15
def f_MO_stripAt (ν : Mem) (x1 : Int32) (x2 : Int32) : Option (Int32) :=
  G ((12 * x1) + x2) 96 (some (ν.1 66 ((12 * x1) + x2).toNatClampNeg))
def f_MO_isPlace (ν : Mem) (x1 : Int32) (x2 : Int32) : Option (Int32) :=
  G x1 8 (if (ν.1 64 x1.toNatClampNeg) < 0 then (some 0) else (G x1 8 (if (ν.1 65 x1.toNatClampNeg) ≤ x2 then (some 0) else (some 1))))
def f_MO_lay_L36 (ν : Mem) (y1 : Int32) (y2 : Int32) (y3 : Int32) (K : Unit → Option (Int32 × Mem)) : Nat → Int32 → Option (Int32 × Mem)
  | 0, _ => none
  | n + 1, y4 =>
  if y1 ≤ y4 then (K ()) else ((f_MO_isPlace ν y3 y4).bind fun v1 => if v1 = 0 then (f_MO_lay_L36 ν y1 y2 y3 K n (y4 + 1)) else ((f_MO_stripAt ν y3 y4).bind fun v2 => if (f_MO_in v2.toInt64 (-1000000) 1000000) = 0 then (some ((-1), ν)) else (f_MO_lay_L36 ν y1 y2 y3 K n (y4 + 1))))
def f_MO_lay_L28 (ν : Mem) (y1 : Int32) (y2 : Int32) (K : Unit → Option (Int32 × Mem)) : Nat → Int32 → Option (Int32 × Mem)
  | 0, _ => none
  | n + 1, y3 =>
  if y2 ≤ y3 then (K ()) else (f_MO_lay_L36 ν y1 y2 y3 (fun _ => f_MO_lay_L28 ν y1 y2 K n (y3 + 1)) FU 0)
def f_MO_lay_L108 (y1 : Int32) : Nat → Mem → Int32 → Int32 → Option (Int32 × Mem)
  | 0, _, _, _ => none
  | n + 1, ν, y3, y4 =>
  if (ν.1 63 5) ≤ y4 then (some (y3, ν)) else (Zg y1 (Zg y1 ((f_MO_isPlace ν (y4 / y1) (y4 - y4 / y1 * y1)).bind fun v7 => (if v7 = 0 then (some 1) else (some 0)).bind fun v8 => G y4 64 (G y4 64 ((if ((sI ν 67 y4.toNatClampNeg (v8 &&& 1)).1 67 y4.toNatClampNeg) = 0 then (Zg y1 (Zg y1 ((f_MO_stripAt (sI ν 67 y4.toNatClampNeg (v8 &&& 1)) (y4 / y1) (y4 - y4 / y1 * y1)).bind fun v14 => some v14))) else (some 0)).bind fun v11 => G y4 64 (G y4 64 ((if ((sI (sI ν 67 y4.toNatClampNeg (v8 &&& 1)) 68 y4.toNatClampNeg v11).1 67 y4.toNatClampNeg) = 0 then (some 1) else (some 0)).bind fun v17 => f_MO_lay_L108 y1 n (sI (sI ν 67 y4.toNatClampNeg (v8 &&& 1)) 68 y4.toNatClampNeg v11) (y3 + v17) (y4 + 1))))))))
def f_MO_lay_L204 (y3 : Int32) : Nat → Mem → Int32 → Option (Mem)
  | 0, _, _ => none
  | n + 1, ν, y4 =>
  if (ν.1 63 5) ≤ y4 then (some ν) else (G y4 64 ((if (ν.1 67 y4.toNatClampNeg) = 0 then ((f_MO_layDown ν y4).bind fun v21 => some v21) else (some ν)).bind fun v20 => f_MO_lay_L204 y3 n v20 (y4 + 1)))
def f_MO_lay_L238 (y3 : Int32) : Nat → Mem → Int32 → Option (Mem)
  | 0, _, _ => none
  | n + 1, ν, y4 =>
  if (ν.1 63 5) ≤ y4 then (some ν) else (G y4 64 ((if (ν.1 67 y4.toNatClampNeg) = 0 then ((f_MO_endOf ν y4).bind fun v25 => some v25) else (some (-5))).bind fun v24 => G y4 64 (f_MO_lay_L238 y3 n (sI ν 70 y4.toNatClampNeg v24) (y4 + 1))))
def f_MO_lay (ν : Mem) (x1 : Int32) (x2 : Int32) : Option (Int32 × Mem) :=
  if (f_MO_in x1.toInt64 1 8) = 0 then (some ((-1), ν)) else (if (f_MO_in x2.toInt64 1 8) = 0 then (some ((-1), ν)) else (f_MO_lay_L28 ν x1 x2 (fun _ => (f_MO_lay_L108 x1 FU (sI (sI (sI ν 63 3 1) 63 4 x1) 63 5 (x1 * x2)) 0 0).bind fun v18 => (f_MO_lay_L204 v18.1 FU v18.2 0).bind fun v22 => (f_MO_lay_L238 v18.1 FU v22 0).bind fun v27 => (f_MO_layFill v27).bind fun v28 => (f_MO_layLakes v28).bind fun v29 => some (v18.1, (sJ (sJ v29 63 20 0) 63 21 0))) FU 0))
def f_MO_isField (ν : Mem) (x1 : Int32) : Option (Int32) :=
  Bg (f_MO_in x1.toInt64 0 (((ν.1 63 5) - 1).toInt64)) (some (f_MO_in x1.toInt64 0 (((ν.1 63 5) - 1).toInt64)))
def f_MO_isOf (ν : Mem) (x1 : Int32) (x2 : Int32) : Option (Int32) :=
  G x1 64 (if (lg_cmp (((ν.2 73 x1.toNatClampNeg) >>> (x2.toInt64 &&& 63)) &&& 1) 1) = 0 then (some 1) else (some 0))
def f_MO_lakeAt_L5 (ν : Mem) (y1 : Int32) : Nat → Int32 → Int32 → Option (Int32)
  | 0, _, _ => none
  | n + 1, y2, y3 =>
  if (ν.1 63 11) ≤ y3 then (some y2) else (G y3 64 ((if (ν.1 78 y3.toNatClampNeg) = 0 then (some y2) else ((f_MO_isOf ν y3 y1).bind fun v3 => if v3 = 0 then (some y2) else (some y3))).bind fun v2 => f_MO_lakeAt_L5 ν y1 n v2 (y3 + 1)))
def f_MO_lakeAt (ν : Mem) (x1 : Int32) : Option (Int32) :=
  (f_MO_lakeAt_L5 ν x1 FU (-3) 0).bind fun v4 => some v4
def f_MO_field (ν : Mem) (x1 : Int32) (x2 : Int32) : Option (Int32) :=
  if (ν.1 63 3) = 0 then (some (-2000002)) else ((f_MO_isField ν x1).bind fun v1 => if v1 = 0 then (some (-2000001)) else (if (f_MO_in x2.toInt64 0 5) = 0 then (some (-2000001)) else (G x1 64 (if (ν.1 67 x1.toNatClampNeg) = 0 then (if x2 = 0 then (some 0) else (if x2 = 1 then (G x1 64 (some (ν.1 68 x1.toNatClampNeg))) else (if x2 = 2 then (G x1 64 (some (ν.1 69 x1.toNatClampNeg))) else (if x2 = 3 then (G x1 64 (some (ν.1 70 x1.toNatClampNeg))) else (if x2 = 4 then (G x1 64 (some (ν.1 71 x1.toNatClampNeg))) else ((f_MO_lakeAt ν x1).bind fun v7 => some v7)))))) else (if x2 = 0 then (some 1) else (if x2 = 5 then (some (-3)) else (some 0)))))))
def f_MO_hollow_L20 (ν : Mem)  (K : Unit → Option (Int32)) : Nat → Int32 → Int32 → Option (Int32)
  | 0, _, _ => none
  | n + 1, y2, y3 =>
  if (ν.1 63 5) ≤ y3 then (K ()) else (G y3 64 (if (ν.1 67 y3.toNatClampNeg) = 0 then (G y3 64 (if (ν.1 69 y3.toNatClampNeg) = (-3) then (if y2 = 0 then (some y3) else (f_MO_hollow_L20 ν K n (y2 + (-1)) (y3 + 1))) else (f_MO_hollow_L20 ν K n y2 (y3 + 1)))) else (f_MO_hollow_L20 ν K n y2 (y3 + 1))))
def f_MO_hollow (ν : Mem) (x1 : Int32) : Option (Int32) :=
  if (ν.1 63 3) = 0 then (some (-2)) else (if 0 ≤ x1 then (f_MO_hollow_L20 ν (fun _ => some (-3)) FU x1 0) else (some (-1)))
def f_MO_isLake (ν : Mem) (x1 : Int32) : Option (Int32) :=
  Bg (f_MO_in x1.toInt64 0 (((ν.1 63 11) - 1).toInt64)) (some (f_MO_in x1.toInt64 0 (((ν.1 63 11) - 1).toInt64)))
def f_MO_holdsTo_L5 (ν : Mem) (y1 : Int32) (y2 : Int32) : Nat → Int32 → Int32 → Option (Int32)
  | 0, _, _ => none
  | n + 1, y3, y4 =>
  if (ν.1 63 5) ≤ y4 then (some y3) else ((f_MO_isOf ν y1 y4).bind fun v1 => (if v1 = 0 then (some 0) else (G y4 64 (if y2 ≤ (ν.1 68 y4.toNatClampNeg) then (some 0) else (G y4 64 (some (y2 - (ν.1 68 y4.toNatClampNeg))))))).bind fun v2 => f_MO_holdsTo_L5 ν y1 y2 n (y3 + v2) (y4 + 1))
def f_MO_holdsTo (ν : Mem) (x1 : Int32) (x2 : Int32) : Option (Int32) :=
  (f_MO_holdsTo_L5 ν x1 x2 FU 0 0).bind fun v5 => some v5
def f_MO_most (ν : Mem) (x1 : Int32) : Option (Int32) :=
  G x1 64 (G (ν.1 74 x1.toNatClampNeg) 64 ((f_MO_holdsTo ν x1 (ν.1 68 (ν.1 74 x1.toNatClampNeg).toNatClampNeg)).bind fun v3 => some v3))
def f_MO_lowest_L5 (ν : Mem) (y1 : Int32) : Nat → Int32 → Int32 → Option (Int32)
  | 0, _, _ => none
  | n + 1, y2, y3 =>
  if (ν.1 63 5) ≤ y3 then (some y2) else ((f_MO_isOf ν y1 y3).bind fun v1 => (if v1 = 0 then (some y2) else (if y2 = (-3) then (some y3) else ((f_MO_isLower ν y3 y2).bind fun v3 => if v3 = 0 then (some y2) else (some y3)))).bind fun v2 => f_MO_lowest_L5 ν y1 n v2 (y3 + 1))
def f_MO_lowest (ν : Mem) (x1 : Int32) : Option (Int32) :=
  (f_MO_lowest_L5 ν x1 FU (-3) 0).bind fun v4 => some v4
def f_MO_groundSize_L4 (ν : Mem) (y1 : Int32) : Nat → Int32 → Int32 → Option (Int32)
  | 0, _, _ => none
  | n + 1, y2, y3 =>
  if (ν.1 63 5) ≤ y3 then (some y2) else ((f_MO_isOf ν y1 y3).bind fun v1 => (if v1 = 0 then (some 0) else (some 1)).bind fun v2 => f_MO_groundSize_L4 ν y1 n (y2 + v2) (y3 + 1))
def f_MO_groundSize (ν : Mem) (x1 : Int32) : Option (Int32) :=
  (f_MO_groundSize_L4 ν x1 FU 0 0).bind fun v3 => some v3
def f_MO_lake (ν : Mem) (x1 : Int32) (x2 : Int32) : Option (Int32) :=
  if (ν.1 63 3) = 0 then (some (-2000002)) else ((f_MO_isLake ν x1).bind fun v1 => if v1 = 0 then (some (-2000001)) else (if (f_MO_in x2.toInt64 0 9) = 0 then (some (-2000001)) else (if x2 = 0 then (G x1 64 (if (ν.1 72 x1.toNatClampNeg) = 0 then (some 0) else (some 1))) else (if x2 = 1 then ((f_MO_lowest ν x1).bind fun v3 => some v3) else (if x2 = 2 then (G x1 64 (some (ν.1 74 x1.toNatClampNeg))) else (if x2 = 3 then (G x1 64 (some (ν.1 75 x1.toNatClampNeg))) else (if x2 = 4 then (G x1 64 (some (ν.1 76 x1.toNatClampNeg))) else (if x2 = 5 then (G x1 64 (some (ν.1 77 x1.toNatClampNeg))) else (if x2 = 6 then ((f_MO_groundSize ν x1).bind fun v8 => some v8) else (if x2 = 7 then ((f_MO_most ν x1).bind fun v9 => some v9) else (if x2 = 8 then (G x1 64 (if (ν.1 78 x1.toNatClampNeg) = 0 then (some 0) else (some 1))) else (G x1 64 (if (ν.1 78 x1.toNatClampNeg) = 0 then (some 0) else (G x1 64 (some (ν.1 79 x1.toNatClampNeg))))))))))))))))
def f_MO_ground (ν : Mem) (x1 : Int32) (x2 : Int32) : Option (Int32) :=
  if (ν.1 63 3) = 0 then (some (-2)) else ((f_MO_isLake ν x1).bind fun v1 => if v1 = 0 then (some (-1)) else ((f_MO_isField ν x2).bind fun v2 => if v2 = 0 then (some (-1)) else ((f_MO_isOf ν x1 x2).bind fun v3 => if v3 = 0 then (some 0) else (some 1))))
def f_MO_against0 (ν : Mem) (x1 : Int32) (x2 : Int32) : Option (Int32) :=
  if (ν.1 63 3) = 0 then (some (-2)) else ((f_MO_isLake ν x1).bind fun v1 => if v1 = 0 then (some (-1)) else (if x2 < (-1000000) then (some (-1)) else (G x1 64 (G (ν.1 74 x1.toNatClampNeg) 64 (if x2 ≤ (ν.1 68 (ν.1 74 x1.toNatClampNeg).toNatClampNeg) then (some 0) else (some (-1)))))))
def f_MO_holds (ν : Mem) (x1 : Int32) (x2 : Int32) : Option (Int32) :=
  (f_MO_against0 ν x1 x2).bind fun v1 => if v1 = 0 then ((f_MO_holdsTo ν x1 x2).bind fun v2 => some v2) else (some v1)
def f_MO_area_L19 (ν : Mem) (y1 : Int32) (y2 : Int32) : Nat → Int32 → Int32 → Option (Int32)
  | 0, _, _ => none
  | n + 1, y4, y5 =>
  if (ν.1 63 5) ≤ y5 then (some y4) else ((f_MO_isOf ν y1 y5).bind fun v2 => (if v2 = 0 then (some 0) else (G y5 64 (if y2 ≤ (ν.1 68 y5.toNatClampNeg) then (some 0) else (some 1)))).bind fun v3 => f_MO_area_L19 ν y1 y2 n (y4 + v3) (y5 + 1))
def f_MO_area (ν : Mem) (x1 : Int32) (x2 : Int32) : Option (Int32) :=
  (f_MO_against0 ν x1 x2).bind fun v1 => if v1 = 0 then ((f_MO_area_L19 ν x1 x2 FU 0 0).bind fun v5 => some v5) else (some v1)
def f_MO_over_L47 (ν : Mem) (y1 : Int32) (y2 : Int32) : Nat → Int32 → Int32 → Option (Int32)
  | 0, _, _ => none
  | n + 1, y3, y4 =>
  if 4 ≤ y4 then (some y3) else (G y1 64 ((f_MO_beside ν (ν.1 74 y1.toNatClampNeg) y4).bind fun v9 => (if v9 = 64 then (some y3) else (G v9 64 (if (ν.1 67 v9.toNatClampNeg) = 0 then ((f_MO_isOf ν y2 v9).bind fun v12 => if v12 = 0 then (some y3) else (if y3 = (-3) then (some v9) else ((f_MO_isLower ν v9 y3).bind fun v13 => if v13 = 0 then (some y3) else (some v9)))) else (some y3)))).bind fun v10 => f_MO_over_L47 ν y1 y2 n v10 (y4 + 1)))
def f_MO_over (ν : Mem) (x1 : Int32) : Option (Int32) :=
  G x1 64 (G (ν.1 75 x1.toNatClampNeg) 64 ((if (ν.1 76 (ν.1 75 x1.toNatClampNeg).toNatClampNeg) = x1 then (G x1 64 (G (ν.1 75 x1.toNatClampNeg) 64 (some (ν.1 77 (ν.1 75 x1.toNatClampNeg).toNatClampNeg)))) else (G x1 64 (G (ν.1 75 x1.toNatClampNeg) 64 (some (ν.1 76 (ν.1 75 x1.toNatClampNeg).toNatClampNeg))))).bind fun v3 => (f_MO_over_L47 ν x1 v3 FU (-3) 0).bind fun v14 => some v14))
def f_MO_pour_L76  : Nat → Mem → Int32 → Int32 → Int32 → Int32 → Option (Int32 × Mem)
  | 0, _, _, _, _, _ => none
  | n + 1, ν, y3, y4, y5, y6 =>
  if y3 ≤ 0 then (some (y5, ν)) else (if y4 = (-5) then (f_MO_pour_L76 n ν 0 y4 y3 y6) else ((f_MO_most ν y6).bind fun v5 => G y6 64 ((if (v5 - (ν.1 79 y6.toNatClampNeg)) ≤ y3 then (some (v5 - (ν.1 79 y6.toNatClampNeg))) else (some y3)).bind fun v7 => G y6 64 (G y6 64 (if (y3 - v7) = 0 then (f_MO_pour_L76 n (sI ν 79 y6.toNatClampNeg ((ν.1 79 y6.toNatClampNeg) + v7)) (y3 - v7) y4 y5 y6) else (G y6 64 (if ((sI ν 79 y6.toNatClampNeg ((ν.1 79 y6.toNatClampNeg) + v7)).1 75 y6.toNatClampNeg) = (-5) then (f_MO_pour_L76 n (sI ν 79 y6.toNatClampNeg ((ν.1 79 y6.toNatClampNeg) + v7)) (y3 - v7) (-5) y5 y6) else (G y6 64 (G ((sI ν 79 y6.toNatClampNeg ((ν.1 79 y6.toNatClampNeg) + v7)).1 75 y6.toNatClampNeg) 64 ((if ((sI ν 79 y6.toNatClampNeg ((ν.1 79 y6.toNatClampNeg) + v7)).1 76 ((sI ν 79 y6.toNatClampNeg ((ν.1 79 y6.toNatClampNeg) + v7)).1 75 y6.toNatClampNeg).toNatClampNeg) = y6 then (G ((sI ν 79 y6.toNatClampNeg ((ν.1 79 y6.toNatClampNeg) + v7)).1 75 y6.toNatClampNeg) 64 (some ((sI ν 79 y6.toNatClampNeg ((ν.1 79 y6.toNatClampNeg) + v7)).1 77 ((sI ν 79 y6.toNatClampNeg ((ν.1 79 y6.toNatClampNeg) + v7)).1 75 y6.toNatClampNeg).toNatClampNeg))) else (G ((sI ν 79 y6.toNatClampNeg ((ν.1 79 y6.toNatClampNeg) + v7)).1 75 y6.toNatClampNeg) 64 (some ((sI ν 79 y6.toNatClampNeg ((ν.1 79 y6.toNatClampNeg) + v7)).1 76 ((sI ν 79 y6.toNatClampNeg ((ν.1 79 y6.toNatClampNeg) + v7)).1 75 y6.toNatClampNeg).toNatClampNeg)))).bind fun v13 => G v13 64 ((if ((sI ν 79 y6.toNatClampNeg ((ν.1 79 y6.toNatClampNeg) + v7)).1 78 v13.toNatClampNeg) = 0 then ((f_MO_over (sI ν 79 y6.toNatClampNeg ((ν.1 79 y6.toNatClampNeg) + v7)) y6).bind fun v18 => G v18 64 ((if ((sI ν 79 y6.toNatClampNeg ((ν.1 79 y6.toNatClampNeg) + v7)).1 70 v18.toNatClampNeg) = (-5) then (some (-3)) else ((f_MO_lakeAt (sI ν 79 y6.toNatClampNeg ((ν.1 79 y6.toNatClampNeg) + v7)) ((sI ν 79 y6.toNatClampNeg ((ν.1 79 y6.toNatClampNeg) + v7)).1 70 v18.toNatClampNeg)).bind fun v21 => some v21)).bind fun v20 => some (((sI ν 79 y6.toNatClampNeg ((ν.1 79 y6.toNatClampNeg) + v7)).1 70 v18.toNatClampNeg), v20, (sI ν 79 y6.toNatClampNeg ((ν.1 79 y6.toNatClampNeg) + v7))))) else (G v13 64 ((f_MO_most (sI ν 79 y6.toNatClampNeg ((ν.1 79 y6.toNatClampNeg) + v7)) v13).bind fun v23 => if ((sI ν 79 y6.toNatClampNeg ((ν.1 79 y6.toNatClampNeg) + v7)).1 79 v13.toNatClampNeg) = v23 then (G y6 64 (G v13 64 (G ((sI ν 79 y6.toNatClampNeg ((ν.1 79 y6.toNatClampNeg) + v7)).1 75 y6.toNatClampNeg) 64 (G y6 64 (G v13 64 (G ((sI ν 79 y6.toNatClampNeg ((ν.1 79 y6.toNatClampNeg) + v7)).1 75 y6.toNatClampNeg) 64 (G y6 64 (G v13 64 (some (y4, ((sI ν 79 y6.toNatClampNeg ((ν.1 79 y6.toNatClampNeg) + v7)).1 75 y6.toNatClampNeg), (sI (sI (sI (sI (sI (sI (sI ν 79 y6.toNatClampNeg ((ν.1 79 y6.toNatClampNeg) + v7)) 78 y6.toNatClampNeg (0 &&& 1)) 78 v13.toNatClampNeg (0 &&& 1)) 78 ((sI ν 79 y6.toNatClampNeg ((ν.1 79 y6.toNatClampNeg) + v7)).1 75 y6.toNatClampNeg).toNatClampNeg (1 &&& 1)) 79 ((sI ν 79 y6.toNatClampNeg ((ν.1 79 y6.toNatClampNeg) + v7)).1 75 y6.toNatClampNeg).toNatClampNeg (((sI (sI (sI (sI ν 79 y6.toNatClampNeg ((ν.1 79 y6.toNatClampNeg) + v7)) 78 y6.toNatClampNeg (0 &&& 1)) 78 v13.toNatClampNeg (0 &&& 1)) 78 ((sI ν 79 y6.toNatClampNeg ((ν.1 79 y6.toNatClampNeg) + v7)).1 75 y6.toNatClampNeg).toNatClampNeg (1 &&& 1)).1 79 y6.toNatClampNeg) + ((sI (sI (sI (sI ν 79 y6.toNatClampNeg ((ν.1 79 y6.toNatClampNeg) + v7)) 78 y6.toNatClampNeg (0 &&& 1)) 78 v13.toNatClampNeg (0 &&& 1)) 78 ((sI ν 79 y6.toNatClampNeg ((ν.1 79 y6.toNatClampNeg) + v7)).1 75 y6.toNatClampNeg).toNatClampNeg (1 &&& 1)).1 79 v13.toNatClampNeg))) 79 y6.toNatClampNeg 0) 79 v13.toNatClampNeg 0))))))))))) else ((f_MO_over (sI ν 79 y6.toNatClampNeg ((ν.1 79 y6.toNatClampNeg) + v7)) y6).bind fun v24 => G v24 64 ((if ((sI ν 79 y6.toNatClampNeg ((ν.1 79 y6.toNatClampNeg) + v7)).1 70 v24.toNatClampNeg) = (-5) then (some (-3)) else ((f_MO_lakeAt (sI ν 79 y6.toNatClampNeg ((ν.1 79 y6.toNatClampNeg) + v7)) ((sI ν 79 y6.toNatClampNeg ((ν.1 79 y6.toNatClampNeg) + v7)).1 70 v24.toNatClampNeg)).bind fun v27 => some v27)).bind fun v26 => some (((sI ν 79 y6.toNatClampNeg ((ν.1 79 y6.toNatClampNeg) + v7)).1 70 v24.toNatClampNeg), v26, (sI ν 79 y6.toNatClampNeg ((ν.1 79 y6.toNatClampNeg) + v7)))))))).bind fun v17 => f_MO_pour_L76 n v17.2.2 (y3 - v7) v17.1 y5 v17.2.1)))))))))))
def f_MO_pour (ν : Mem) (x1 : Int32) (x2 : Int32) : Option (Int32 × Mem) :=
  if (ν.1 63 3) = 0 then (some ((-2), ν)) else ((f_MO_isField ν x1).bind fun v1 => if v1 = 0 then (some ((-1), ν)) else (if (f_MO_in x2.toInt64 0 1000000) = 0 then (some ((-1), ν)) else (G x1 64 ((if ((sJ ν 63 21 ((ν.2 63 21) + x2.toInt64)).1 70 x1.toNatClampNeg) = (-5) then (some (-3)) else ((f_MO_lakeAt (sJ ν 63 21 ((ν.2 63 21) + x2.toInt64)) ((sJ ν 63 21 ((ν.2 63 21) + x2.toInt64)).1 70 x1.toNatClampNeg)).bind fun v4 => some v4)).bind fun v3 => (f_MO_pour_L76 FU (sJ ν 63 21 ((ν.2 63 21) + x2.toInt64)) x2 ((sJ ν 63 21 ((ν.2 63 21) + x2.toInt64)).1 70 x1.toNatClampNeg) 0 v3).bind fun v36 => some (v36.1, (sJ v36.2 63 20 ((v36.2.2 63 20) + v36.1.toInt64)))))))
def f_MO_common_L13  : Nat → Int32 → Int32 → Option (Int32)
  | 0, _, _ => none
  | n + 1, y2, y3 =>
  if y3 = 0 then (some y2) else (Zg y3 (f_MO_common_L13 n y3 (y2 - y2 / y3 * y3)))
def f_MO_common (x0 : Int32) (x1 : Int32) : Option (Int32) :=
  (if 0 ≤ x0 then (some x0) else (some (-x0))).bind fun v1 => (f_MO_common_L13 FU v1 x1).bind fun v3 => some v3
def f_MO_layHeights_L24 (y1 : Int32) (y2 : Int32) (y3 : Int32) : Nat → Mem → Int32 → Option (Int32 × Mem)
  | 0, _, _ => none
  | n + 1, ν, y4 =>
  if y4 ≤ 0 then (some (y4, ν)) else (G (y4 - 1) 64 (G y3 64 (if (ν.1 84 (y4 - 1).toNatClampNeg) ≤ (ν.1 68 y3.toNatClampNeg) then (some (y4, ν)) else (G (y4 - 1) 64 (G y4 64 (f_MO_layHeights_L24 y1 y2 y3 n (sI ν 84 y4.toNatClampNeg (ν.1 84 (y4 - 1).toNatClampNeg)) (y4 + (-1))))))))
def f_MO_layHeights_L4 (y1 : Int32) : Nat → Mem → Int32 → Int32 → Option (Int32 × Mem)
  | 0, _, _, _ => none
  | n + 1, ν, y2, y3 =>
  if (ν.1 63 5) ≤ y3 then (some (y2, ν)) else ((f_MO_isOf ν y1 y3).bind fun v1 => (if v1 = 0 then (some (y2, ν)) else ((f_MO_layHeights_L24 y1 y2 y3 FU ν y2).bind fun v7 => G y3 64 (G v7.1 64 (some ((y2 + 1), (sI v7.2 84 v7.1.toNatClampNeg (v7.2.1 68 y3.toNatClampNeg))))))).bind fun v2 => f_MO_layHeights_L4 y1 n v2.2 v2.1 (y3 + 1))
def f_MO_layHeights (ν : Mem) (x1 : Int32) : Option (Int32 × Mem) :=
  (f_MO_layHeights_L4 x1 FU ν 0 0).bind fun v10 => some (v10.1, v10.2)
def f_MO_level_L57 (ν : Mem) (y2 : Int32) (y3 : Int32) : Nat → Int32 → Int32 → Option (Int32 × Int32)
  | 0, _, _ => none
  | n + 1, y4, y5 =>
  G y5 64 (if y3 ≤ (y5 + 1) then (some ((y4 + (ν.1 84 y5.toNatClampNeg)), (y5 + 1))) else (G (y5 + 1) 64 (if 0 < (lg_cmp ((y4 + (ν.1 84 y5.toNatClampNeg)).toInt64) ((y5 + 1).toInt64 * (ν.1 84 (y5 + 1).toNatClampNeg).toInt64)) then (f_MO_level_L57 ν y2 y3 n (y4 + (ν.1 84 y5.toNatClampNeg)) (y5 + 1)) else (some ((y4 + (ν.1 84 y5.toNatClampNeg)), (y5 + 1))))))
def f_MO_level (ν : Mem) (x1 : Int32) (x2 : Int32) : Option (Int32 × Mem) :=
  if (ν.1 63 3) = 0 then (some ((-2000002), ν)) else ((f_MO_isLake ν x1).bind fun v1 => if v1 = 0 then (some ((-2000001), ν)) else (G x1 64 (if (ν.1 78 x1.toNatClampNeg) = 0 then (some ((-2000001), ν)) else (if (f_MO_in x2.toInt64 0 1) = 0 then (some ((-2000001), ν)) else ((f_MO_layHeights ν x1).bind fun v3 => G x1 64 ((f_MO_level_L57 v3.2 x2 v3.1 FU (v3.2.1 79 x1.toNatClampNeg) 0).bind fun v7 => (f_MO_common v7.1 v7.2).bind fun v8 => if x2 = 0 then (Zg v8 (some ((v7.1 / v8), v3.2))) else (Zg v8 (some ((v7.2 / v8), v3.2)))))))))
def f_MO_rise_L30 (ν : Mem) (y1 : Int32) : Nat → Int32 → Int32 → Option (Int32)
  | 0, _, _ => none
  | n + 1, y2, y3 =>
  if (ν.1 63 5) ≤ y3 then (some y2) else (G y3 64 ((if (ν.1 67 y3.toNatClampNeg) = 0 then (G y3 64 (if y1 ≤ (ν.1 71 y3.toNatClampNeg) then (some 0) else (some 1))) else (some 0)).bind fun v2 => f_MO_rise_L30 ν y1 n (y2 + v2) (y3 + 1)))
def f_MO_rise (ν : Mem) (x1 : Int32) : Option (Int32) :=
  if (ν.1 63 3) = 0 then (some (-2)) else (if (f_MO_in x1.toInt64 (-1000000) 1000001) = 0 then (some (-1)) else ((f_MO_rise_L30 ν x1 FU 0 0).bind fun v4 => some v4))
def f_MO_islands_L28 (y1 : Int32) : Nat → Mem → Int32 → Option (Mem)
  | 0, _, _ => none
  | n + 1, ν, y2 =>
  if (ν.1 63 5) ≤ y2 then (some ν) else (G y2 64 ((if (ν.1 67 y2.toNatClampNeg) = 0 then (G y2 64 (if y1 ≤ (ν.1 71 y2.toNatClampNeg) then (some y2) else (some (-3)))) else (some (-3))).bind fun v2 => G y2 64 (f_MO_islands_L28 y1 n (sI ν 85 y2.toNatClampNeg v2) (y2 + 1))))
def f_MO_islands_L94 (y3 : Int32) : Nat → Mem → Int32 → Int32 → Option (Int32 × Mem)
  | 0, _, _, _ => none
  | n + 1, ν, y2, y4 =>
  if 4 ≤ y4 then (some (y2, ν)) else (G y3 64 (if (ν.1 85 y3.toNatClampNeg) < 0 then (some (y2, ν)) else ((f_MO_beside ν y3 y4).bind fun v7 => (if v7 = 64 then (some (y2, ν)) else (G v7 64 (if (ν.1 85 v7.toNatClampNeg) < 0 then (some (y2, ν)) else (G v7 64 (G y3 64 (if (ν.1 85 y3.toNatClampNeg) ≤ (ν.1 85 v7.toNatClampNeg) then (some (y2, ν)) else (G v7 64 (G y3 64 (some (1, (sI ν 85 y3.toNatClampNeg (ν.1 85 v7.toNatClampNeg)))))))))))).bind fun v8 => f_MO_islands_L94 y3 n v8.2 v8.1 (y4 + 1))))
def f_MO_islands_L83  : Nat → Mem → Int32 → Int32 → Option (Int32 × Mem)
  | 0, _, _, _ => none
  | n + 1, ν, y2, y3 =>
  if (ν.1 63 5) ≤ y3 then (some (y2, ν)) else ((f_MO_islands_L94 y3 FU ν y2 0).bind fun v14 => f_MO_islands_L83 n v14.2 v14.1 (y3 + 1))
def f_MO_islands_L75  : Nat → Mem → Int32 → Option (Mem)
  | 0, _, _ => none
  | n + 1, ν, y2 =>
  if y2 = 0 then (some ν) else ((f_MO_islands_L83 FU ν 0 0).bind fun v15 => f_MO_islands_L75 n v15.2 v15.1)
def f_MO_islands_L186 (ν : Mem)  : Nat → Int32 → Int32 → Option (Int32)
  | 0, _, _ => none
  | n + 1, y3, y4 =>
  if (ν.1 63 5) ≤ y4 then (some y3) else (G y4 64 ((if (ν.1 85 y4.toNatClampNeg) = y4 then (some 1) else (some 0)).bind fun v18 => f_MO_islands_L186 ν n (y3 + v18) (y4 + 1)))
def f_MO_islands (ν : Mem) (x1 : Int32) : Option (Int32 × Mem) :=
  if (ν.1 63 3) = 0 then (some ((-2), ν)) else (if (f_MO_in x1.toInt64 (-1000000) 1000001) = 0 then (some ((-1), ν)) else ((f_MO_islands_L28 x1 FU ν 0).bind fun v5 => (f_MO_islands_L75 FU v5 1).bind fun v16 => (f_MO_islands_L186 v16 FU 0 0).bind fun v19 => some (v19, v16)))
def f_MO_count_L69 (ν : Mem) (y1 : Int32) : Nat → Int64 → Int32 → Option (Int64)
  | 0, _, _ => none
  | n + 1, y2, y4 =>
  if (ν.1 63 5) ≤ y4 then (some y2) else (G y4 64 ((if (ν.1 67 y4.toNatClampNeg) = 0 then (if y1 = 1 then (some 1) else (G y4 64 (if (ν.1 69 y4.toNatClampNeg) = (-3) then (some 1) else (some 0)))) else (some 0)).bind fun v2 => f_MO_count_L69 ν y1 n (y2 + v2) (y4 + 1)))
def f_MO_count_L130 (ν : Mem) (y1 : Int32) : Nat → Int64 → Int32 → Option (Int64)
  | 0, _, _ => none
  | n + 1, y2, y4 =>
  if (ν.1 63 11) ≤ y4 then (some y2) else (G y4 64 ((if (ν.1 78 y4.toNatClampNeg) = 0 then (some 0) else (if y1 = 4 then (some 1) else (G y4 64 (some ((ν.1 79 y4.toNatClampNeg).toInt64))))).bind fun v10 => f_MO_count_L130 ν y1 n (y2 + v10) (y4 + 1)))
def f_MO_count (ν : Mem) (x1 : Int32) : Option (Int64) :=
  if (ν.1 63 3) = 0 then (some (-2)) else (if x1 = 0 then (some ((ν.1 63 5).toInt64)) else (if x1 = 1 then ((f_MO_count_L69 ν x1 FU 0 0).bind fun v4 => some v4) else (if x1 = 2 then ((f_MO_count_L69 ν x1 FU 0 0).bind fun v8 => some v8) else (if x1 = 3 then (some ((ν.1 63 11).toInt64)) else (if x1 = 4 then ((f_MO_count_L130 ν x1 FU 0 0).bind fun v12 => some v12) else (if x1 = 5 then ((f_MO_count_L130 ν x1 FU 0 0).bind fun v16 => some v16) else (if x1 = 6 then (some (ν.2 63 20)) else (if x1 = 7 then (some (ν.2 63 21)) else (some (-1))))))))))
end
section
def rm_LA_begin : Room := { frames := 1, cells := 0, slots := 0, locals := 21 }
def rm_LA_isDouble : Room := { frames := 0, cells := 0, slots := 0, locals := 0 }
def rm_LA_isFull : Room := { frames := 0, cells := 0, slots := 0, locals := 0 }
def rm_LA_spillAt : Room := { frames := 0, cells := 0, slots := 0, locals := 0 }
def rm_LA_appear : Room := { frames := 0, cells := 0, slots := 0, locals := 0 }
def rm_LA_vanish : Room := { frames := 0, cells := 0, slots := 0, locals := 0 }
def rm_LK_isLake : Room := { frames := 0, cells := 0, slots := 0, locals := 0 }
def rm_RE_isField : Room := { frames := 0, cells := 0, slots := 0, locals := 0 }
def rm_LR_isIn : Room := { frames := 0, cells := 0, slots := 0, locals := 0 }
def rm_RE_isLand : Room := { frames := 1, cells := 0, slots := 0, locals := 22 }
def rm_LK_isLevelOf : Room := { frames := 2, cells := 0, slots := 0, locals := 43 }
def rm_RE_beside : Room := { frames := 1, cells := 0, slots := 0, locals := 21 }
def rm_LK_topWith : Room := { frames := 1, cells := 0, slots := 0, locals := 22 }
def rm_LR_only : Room := { frames := 0, cells := 0, slots := 0, locals := 0 }
def rm_LK_topsBeside : Room := { frames := 2, cells := 0, slots := 0, locals := 44 }
def rm_RE_isBesideSea : Room := { frames := 2, cells := 0, slots := 0, locals := 43 }
def rm_RE_isLower : Room := { frames := 0, cells := 0, slots := 0, locals := 0 }
def rm_RE_lowestBeside : Room := { frames := 2, cells := 0, slots := 0, locals := 43 }
def rm_LK_isBesideSeas : Room := { frames := 3, cells := 0, slots := 0, locals := 69 }
def rm_LK_spillToSea : Room := { frames := 1, cells := 0, slots := 0, locals := 22 }
def rm_LK_make : Room := { frames := 2, cells := 0, slots := 0, locals := 45 }
def rm_LK_makeDouble : Room := { frames := 3, cells := 0, slots := 0, locals := 70 }
def rm_LK_joinAt : Room := { frames := 4, cells := 0, slots := 0, locals := 94 }
def rm_LK_goUnder : Room := { frames := 5, cells := 0, slots := 0, locals := 120 }
def rm_RE_roomBelow : Room := { frames := 1, cells := 0, slots := 0, locals := 22 }
def rm_LK_measure : Room := { frames := 2, cells := 0, slots := 0, locals := 47 }
def rm_LK_come : Room := { frames := 6, cells := 0, slots := 0, locals := 144 }
def rm_LK_thereWith : Room := { frames := 1, cells := 0, slots := 0, locals := 22 }
def rm_LK_numberThere : Room := { frames := 0, cells := 0, slots := 0, locals := 0 }
def rm_LK_waterThere : Room := { frames := 0, cells := 0, slots := 0, locals := 0 }
def rm_LK_lakeBelow : Room := { frames := 2, cells := 0, slots := 0, locals := 44 }
def rm_LK_fillUp : Room := { frames := 1, cells := 0, slots := 0, locals := 21 }
def rm_LK_join : Room := { frames := 1, cells := 0, slots := 0, locals := 21 }
def rm_LK_next : Room := { frames := 3, cells := 0, slots := 0, locals := 69 }
def rm_LK_runDown : Room := { frames := 4, cells := 0, slots := 0, locals := 92 }
def rm_LK_takeGrains : Room := { frames := 5, cells := 0, slots := 0, locals := 117 }
def rm_RE_flood : Room := { frames := 0, cells := 0, slots := 0, locals := 0 }
def rm_RE_raiseLand : Room := { frames := 1, cells := 0, slots := 0, locals := 20 }
def rm_RE_landOrSea : Room := { frames := 2, cells := 0, slots := 0, locals := 43 }
def rm_RE_findNeighbours : Room := { frames := 3, cells := 0, slots := 0, locals := 64 }
def rm_RE_insertByHeight : Room := { frames := 1, cells := 0, slots := 0, locals := 22 }
def rm_RE_sortLand : Room := { frames := 2, cells := 0, slots := 0, locals := 45 }
def rm_RE_downOf : Room := { frames := 3, cells := 0, slots := 0, locals := 69 }
def rm_RE_findWays : Room := { frames := 4, cells := 0, slots := 0, locals := 91 }
def rm_RE_leastFillBeside : Room := { frames := 2, cells := 0, slots := 0, locals := 43 }
def rm_RE_lowerFills : Room := { frames := 3, cells := 0, slots := 0, locals := 67 }
def rm_RE_findFills : Room := { frames := 4, cells := 0, slots := 0, locals := 91 }
def rm_RE_survey : Room := { frames := 5, cells := 0, slots := 0, locals := 114 }
def rm_RE_isHollow : Room := { frames := 2, cells := 0, slots := 0, locals := 43 }
def rm_RE_hollowCount : Room := { frames := 3, cells := 0, slots := 0, locals := 64 }
def rm_RE_hollowAt : Room := { frames := 3, cells := 0, slots := 0, locals := 64 }
def rm_RE_lowestOf : Room := { frames := 1, cells := 0, slots := 0, locals := 22 }
def rm_RE_countBelow : Room := { frames := 1, cells := 0, slots := 0, locals := 22 }
def rm_RE_greatestDivisor : Room := { frames := 0, cells := 0, slots := 0, locals := 0 }
def rm_RE_surface : Room := { frames := 1, cells := 0, slots := 0, locals := 25 }
def rm_RE_landLeftAt : Room := { frames := 1, cells := 0, slots := 0, locals := 20 }
def rm_RE_withoutPieceAt : Room := { frames := 2, cells := 0, slots := 0, locals := 43 }
def rm_RE_piecesOf : Room := { frames := 3, cells := 0, slots := 0, locals := 72 }
def rm_ST_become : Room := { frames := 0, cells := 0, slots := 0, locals := 0 }
def rm_ST_hasPlace : Room := { frames := 0, cells := 0, slots := 0, locals := 0 }
def rm_ST_hasRun : Room := { frames := 0, cells := 0, slots := 0, locals := 0 }
def rm_ST_keep : Room := { frames := 0, cells := 0, slots := 0, locals := 0 }
def rm_LR_isStrip : Room := { frames := 0, cells := 0, slots := 0, locals := 0 }
def rm_LR_strip : Room := { frames := 1, cells := 0, slots := 0, locals := 23 }
def rm_LR_refusalOfPlace : Room := { frames := 1, cells := 0, slots := 0, locals := 21 }
def rm_LR_put : Room := { frames := 2, cells := 0, slots := 0, locals := 43 }
def rm_LR_copy : Room := { frames := 1, cells := 0, slots := 0, locals := 26 }
def rm_LR_told : Room := { frames := 2, cells := 0, slots := 0, locals := 43 }
def rm_LR_isHeight : Room := { frames := 0, cells := 0, slots := 0, locals := 0 }
def rm_LR_canBeLaid : Room := { frames := 1, cells := 0, slots := 0, locals := 21 }
def rm_LR_layLine : Room := { frames := 2, cells := 0, slots := 0, locals := 42 }
def rm_LR_lay : Room := { frames := 7, cells := 0, slots := 0, locals := 165 }
def rm_LR_field : Room := { frames := 2, cells := 0, slots := 0, locals := 44 }
def rm_LR_hollow : Room := { frames := 4, cells := 0, slots := 0, locals := 87 }
def rm_JL_bitCount : Room := { frames := 0, cells := 0, slots := 0, locals := 0 }
def rm_LR_lake : Room := { frames := 2, cells := 0, slots := 0, locals := 45 }
def rm_LR_ground : Room := { frames := 1, cells := 0, slots := 0, locals := 22 }
def rm_LR_holds : Room := { frames := 3, cells := 0, slots := 0, locals := 65 }
def rm_LR_area : Room := { frames := 3, cells := 0, slots := 0, locals := 65 }
def rm_LR_pour : Room := { frames := 6, cells := 0, slots := 0, locals := 140 }
def rm_LR_level : Room := { frames := 2, cells := 0, slots := 0, locals := 53 }
def rm_LR_isSeaLevel : Room := { frames := 0, cells := 0, slots := 0, locals := 0 }
def rm_LR_rise : Room := { frames := 2, cells := 0, slots := 0, locals := 45 }
def rm_LR_islands : Room := { frames := 4, cells := 0, slots := 0, locals := 98 }
def rm_LR_count : Room := { frames := 4, cells := 0, slots := 0, locals := 86 }
def rm_MO_in : Room := { frames := 0, cells := 0, slots := 0, locals := 0 }
def rm_MO_isStrip : Room := { frames := 1, cells := 0, slots := 0, locals := 25 }
def rm_MO_strip : Room := { frames := 2, cells := 0, slots := 0, locals := 45 }
def rm_MO_against : Room := { frames := 2, cells := 0, slots := 0, locals := 45 }
def rm_MO_put : Room := { frames := 3, cells := 0, slots := 0, locals := 67 }
def rm_MO_copy : Room := { frames := 2, cells := 0, slots := 0, locals := 45 }
def rm_MO_told : Room := { frames := 3, cells := 0, slots := 0, locals := 67 }
def rm_MO_beside : Room := { frames := 0, cells := 0, slots := 0, locals := 0 }
def rm_MO_isWet : Room := { frames := 0, cells := 0, slots := 0, locals := 0 }
def rm_MO_isLower : Room := { frames := 0, cells := 0, slots := 0, locals := 0 }
def rm_MO_layDown : Room := { frames := 1, cells := 0, slots := 0, locals := 24 }
def rm_MO_endOf : Room := { frames := 0, cells := 0, slots := 0, locals := 0 }
def rm_MO_layFill : Room := { frames := 1, cells := 0, slots := 0, locals := 24 }
def rm_MO_newLake : Room := { frames := 0, cells := 0, slots := 0, locals := 0 }
def rm_MO_joins : Room := { frames := 0, cells := 0, slots := 0, locals := 0 }
def rm_MO_becomes : Room := { frames := 0, cells := 0, slots := 0, locals := 0 }
def rm_MO_lookBeside : Room := { frames := 1, cells := 0, slots := 0, locals := 24 }
def rm_MO_twice : Room := { frames := 1, cells := 0, slots := 0, locals := 23 }
def rm_MO_goUnder : Room := { frames := 2, cells := 0, slots := 0, locals := 50 }
def rm_MO_layLakes : Room := { frames := 3, cells := 0, slots := 0, locals := 74 }
def rm_MO_stripAt : Room := { frames := 0, cells := 0, slots := 0, locals := 0 }
def rm_MO_isPlace : Room := { frames := 0, cells := 0, slots := 0, locals := 0 }
def rm_MO_lay : Room := { frames := 4, cells := 0, slots := 0, locals := 97 }
def rm_MO_isField : Room := { frames := 1, cells := 0, slots := 0, locals := 25 }
def rm_MO_isOf : Room := { frames := 0, cells := 0, slots := 0, locals := 0 }
def rm_MO_lakeAt : Room := { frames := 1, cells := 0, slots := 0, locals := 22 }
def rm_MO_field : Room := { frames := 2, cells := 0, slots := 0, locals := 46 }
def rm_MO_hollow : Room := { frames := 0, cells := 0, slots := 0, locals := 0 }
def rm_MO_isLake : Room := { frames := 1, cells := 0, slots := 0, locals := 25 }
def rm_MO_holdsTo : Room := { frames := 1, cells := 0, slots := 0, locals := 22 }
def rm_MO_most : Room := { frames := 2, cells := 0, slots := 0, locals := 46 }
def rm_MO_lowest : Room := { frames := 1, cells := 0, slots := 0, locals := 22 }
def rm_MO_groundSize : Room := { frames := 1, cells := 0, slots := 0, locals := 22 }
def rm_MO_lake : Room := { frames := 3, cells := 0, slots := 0, locals := 67 }
def rm_MO_ground : Room := { frames := 2, cells := 0, slots := 0, locals := 46 }
def rm_MO_against0 : Room := { frames := 2, cells := 0, slots := 0, locals := 46 }
def rm_MO_holds : Room := { frames := 3, cells := 0, slots := 0, locals := 68 }
def rm_MO_area : Room := { frames := 3, cells := 0, slots := 0, locals := 68 }
def rm_MO_over : Room := { frames := 1, cells := 0, slots := 0, locals := 24 }
def rm_MO_pour : Room := { frames := 3, cells := 0, slots := 0, locals := 67 }
def rm_MO_common : Room := { frames := 0, cells := 0, slots := 0, locals := 0 }
def rm_MO_layHeights : Room := { frames := 1, cells := 0, slots := 0, locals := 22 }
def rm_MO_level : Room := { frames := 2, cells := 0, slots := 0, locals := 46 }
def rm_MO_rise : Room := { frames := 1, cells := 0, slots := 0, locals := 25 }
def rm_MO_islands : Room := { frames := 1, cells := 0, slots := 0, locals := 25 }
def rm_MO_count : Room := { frames := 0, cells := 0, slots := 0, locals := 0 }
section CW
variable {R : Room} {s : State} {args : Array Value} {D : va_G} {adr : Nat → Nat} {cA : Nat → ClassId}
theorem cw_LR_36 (hts : ∀ w ∈ lw_ok, w.before args s = true) (hR : rm_LR_isStrip.frames + 1 ≤ R.frames ∧ 8 + (1 + 11) + rm_LR_isStrip.locals ≤ R.locals) : CallB R s args "LakeRelief" 36 y_LR_isStrip prog_1_method_18_code 1 (Option.some Jvm.ClassFile.FieldType.boolean) (Cond.code y_LR_isStrip prog_1_method_18_code 1 (Option.some Jvm.ClassFile.FieldType.boolean) :: lw_ok) rm_LR_isStrip 0 0 1 ∧ (Cond.static y_LR_isStrip).before args s = true := ⟨(callB_of 1 hts (ok_in in_194) rfl rfl rfl (hts _ in_1) (hts _ in_192) (by decide +kernel) hR), hts _ in_193⟩
theorem cw_LR_40 (hts : ∀ w ∈ lw_ok, w.before args s = true) (hR : rm_ST_become.frames + 1 ≤ R.frames ∧ 8 + (4 + 11) + rm_ST_become.locals ≤ R.locals) : CallW R s args "LakeRelief" "LakeRelief$Strip" 40 y_ST_become prog_5_method_2_code 4 (Option.none : Option Jvm.ClassFile.FieldType) (Cond.code y_ST_become prog_5_method_2_code 4 (Option.none : Option Jvm.ClassFile.FieldType) :: lw_ok) rm_ST_become 0 0 2 := ⟨(callB_of 2 hts (ok_in in_198) rfl rfl rfl (hts _ in_2) (hts _ in_195) (by decide +kernel) hR), hts _ in_196, hts _ in_197⟩
theorem cw_LR_44 (hts : ∀ w ∈ lw_ok, w.before args s = true) (hR : rm_LR_refusalOfPlace.frames + 1 ≤ R.frames ∧ 8 + (3 + 11) + rm_LR_refusalOfPlace.locals ≤ R.locals) : CallW R s args "LakeRelief" "LakeRelief" 44 y_LR_refusalOfPlace prog_1_method_19_code 3 (Option.some Jvm.ClassFile.FieldType.int) (Cond.code y_LR_refusalOfPlace prog_1_method_19_code 3 (Option.some Jvm.ClassFile.FieldType.int) :: lw_ok) rm_LR_refusalOfPlace 0 0 2 := ⟨(callB_of 2 hts (ok_in in_206) rfl rfl rfl (hts _ in_1) (hts _ in_203) (by decide +kernel) hR), hts _ in_205, hts _ sp_0⟩
theorem cw_LR_48 (hts : ∀ w ∈ lw_ok, w.before args s = true) (hR : rm_ST_keep.frames + 1 ≤ R.frames ∧ 8 + (3 + 11) + rm_ST_keep.locals ≤ R.locals) : CallW R s args "LakeRelief" "LakeRelief$Strip" 48 y_ST_keep prog_5_method_5_code 3 (Option.none : Option Jvm.ClassFile.FieldType) (Cond.code y_ST_keep prog_5_method_5_code 3 (Option.none : Option Jvm.ClassFile.FieldType) :: lw_ok) rm_ST_keep 0 0 2 := ⟨(callB_of 2 hts (ok_in in_214) rfl rfl rfl (hts _ in_2) (hts _ in_211) (by decide +kernel) hR), hts _ in_212, hts _ in_213⟩
theorem cw_LR_55 (hts : ∀ w ∈ lw_ok, w.before args s = true) (hR : rm_ST_hasRun.frames + 1 ≤ R.frames ∧ 8 + (3 + 11) + rm_ST_hasRun.locals ≤ R.locals) : CallW R s args "LakeRelief" "LakeRelief$Strip" 55 y_ST_hasRun prog_5_method_4_code 3 (Option.some Jvm.ClassFile.FieldType.boolean) (Cond.code y_ST_hasRun prog_5_method_4_code 3 (Option.some Jvm.ClassFile.FieldType.boolean) :: lw_ok) rm_ST_hasRun 0 0 2 := ⟨(callB_of 2 hts (ok_in in_222) rfl rfl rfl (hts _ in_2) (hts _ in_219) (by decide +kernel) hR), hts _ in_220, hts _ in_221⟩
theorem cw_LR_71 (hts : ∀ w ∈ lw_ok, w.before args s = true) (hR : rm_LR_canBeLaid.frames + 1 ≤ R.frames ∧ 8 + (5 + 11) + rm_LR_canBeLaid.locals ≤ R.locals) : CallW R s args "LakeRelief" "LakeRelief" 71 y_LR_canBeLaid prog_1_method_20_code 5 (Option.some Jvm.ClassFile.FieldType.boolean) (Cond.code y_LR_canBeLaid prog_1_method_20_code 5 (Option.some Jvm.ClassFile.FieldType.boolean) :: lw_ok) rm_LR_canBeLaid 0 0 2 := ⟨(callB_of 2 hts (ok_in in_238) rfl rfl rfl (hts _ in_1) (hts _ in_235) (by decide +kernel) hR), hts _ in_237, hts _ sp_1⟩
theorem cw_LR_74 (hts : ∀ w ∈ lw_ok, w.before args s = true) (hR : rm_RE_flood.frames + 1 ≤ R.frames ∧ 8 + (4 + 11) + rm_RE_flood.locals ≤ R.locals) : CallW R s args "LakeRelief" "LakeRelief$Relief" 74 y_RE_flood prog_4_method_2_code 4 (Option.none : Option Jvm.ClassFile.FieldType) (Cond.code y_RE_flood prog_4_method_2_code 4 (Option.none : Option Jvm.ClassFile.FieldType) :: lw_ok) rm_RE_flood 0 0 2 := ⟨(callB_of 2 hts (ok_in in_247) rfl rfl rfl (hts _ in_3) (hts _ in_244) (by decide +kernel) hR), hts _ in_245, hts _ in_246⟩
theorem cw_LR_77 (hts : ∀ w ∈ lw_ok, w.before args s = true) (hR : rm_LR_layLine.frames + 1 ≤ R.frames ∧ 8 + (4 + 11) + rm_LR_layLine.locals ≤ R.locals) : CallW R s args "LakeRelief" "LakeRelief" 77 y_LR_layLine prog_1_method_21_code 4 (Option.none : Option Jvm.ClassFile.FieldType) (Cond.code y_LR_layLine prog_1_method_21_code 4 (Option.none : Option Jvm.ClassFile.FieldType) :: lw_ok) rm_LR_layLine 0 0 2 := ⟨(callB_of 2 hts (ok_in in_251) rfl rfl rfl (hts _ in_1) (hts _ in_248) (by decide +kernel) hR), hts _ in_250, hts _ sp_2⟩
theorem cw_LR_80 (hts : ∀ w ∈ lw_ok, w.before args s = true) (hR : rm_RE_survey.frames + 1 ≤ R.frames ∧ 8 + (1 + 11) + rm_RE_survey.locals ≤ R.locals) : CallW R s args "LakeRelief" "LakeRelief$Relief" 80 y_RE_survey prog_4_method_4_code 1 (Option.none : Option Jvm.ClassFile.FieldType) (Cond.code y_RE_survey prog_4_method_4_code 1 (Option.none : Option Jvm.ClassFile.FieldType) :: lw_ok) rm_RE_survey 0 0 0 := ⟨(callB_of 0 hts (ok_in in_262) rfl rfl rfl (hts _ in_3) (hts _ in_259) (by decide +kernel) hR), hts _ in_260, hts _ in_261⟩
theorem cw_LR_83 (hts : ∀ w ∈ lw_ok, w.before args s = true) (hR : rm_LK_come.frames + 1 ≤ R.frames ∧ 8 + (2 + 11) + rm_LK_come.locals ≤ R.locals) : CallW R s args "LakeRelief" "LakeRelief$Lakes" 83 y_LK_come prog_3_method_4_code 2 (Option.none : Option Jvm.ClassFile.FieldType) (Cond.code y_LK_come prog_3_method_4_code 2 (Option.none : Option Jvm.ClassFile.FieldType) :: lw_ok) rm_LK_come 0 0 0 := ⟨(callB_of 0 hts (ok_in in_333) rfl rfl rfl (hts _ in_4) (hts _ in_330) (by decide +kernel) hR), hts _ in_331, hts _ in_332⟩
theorem cw_LR_90 (hts : ∀ w ∈ lw_ok, w.before args s = true) (hR : rm_RE_isField.frames + 1 ≤ R.frames ∧ 8 + (2 + 11) + rm_RE_isField.locals ≤ R.locals) : CallW R s args "LakeRelief" "LakeRelief$Relief" 90 y_RE_isField prog_4_method_5_code 2 (Option.some Jvm.ClassFile.FieldType.boolean) (Cond.code y_RE_isField prog_4_method_5_code 2 (Option.some Jvm.ClassFile.FieldType.boolean) :: lw_ok) rm_RE_isField 0 0 1 := ⟨(callB_of 1 hts (ok_in in_278) rfl rfl rfl (hts _ in_3) (hts _ in_402) (by decide +kernel) hR), hts _ in_276, hts _ in_277⟩
theorem cw_LR_94 (hts : ∀ w ∈ lw_ok, w.before args s = true) (hR : rm_RE_isLand.frames + 1 ≤ R.frames ∧ 8 + (2 + 11) + rm_RE_isLand.locals ≤ R.locals) : CallW R s args "LakeRelief" "LakeRelief$Relief" 94 y_RE_isLand prog_4_method_6_code 2 (Option.some Jvm.ClassFile.FieldType.boolean) (Cond.code y_RE_isLand prog_4_method_6_code 2 (Option.some Jvm.ClassFile.FieldType.boolean) :: lw_ok) rm_RE_isLand 0 0 1 := ⟨(callB_of 1 hts (ok_in in_274) rfl rfl rfl (hts _ in_3) (hts _ in_404) (by decide +kernel) hR), hts _ in_272, hts _ in_273⟩
theorem cw_LR_109 (hts : ∀ w ∈ lw_ok, w.before args s = true) (hR : rm_LK_thereWith.frames + 1 ≤ R.frames ∧ 8 + (3 + 11) + rm_LK_thereWith.locals ≤ R.locals) : CallW R s args "LakeRelief" "LakeRelief$Lakes" 109 y_LK_thereWith prog_3_method_14_code 3 (Option.some Jvm.ClassFile.FieldType.int) (Cond.code y_LK_thereWith prog_3_method_14_code 3 (Option.some Jvm.ClassFile.FieldType.int) :: lw_ok) rm_LK_thereWith 0 0 1 := ⟨(callB_of 1 hts (ok_in in_408) rfl rfl rfl (hts _ in_4) (hts _ in_405) (by decide +kernel) hR), hts _ in_406, hts _ in_407⟩
theorem cw_LR_113 (hts : ∀ w ∈ lw_ok, w.before args s = true) (hR : rm_RE_hollowAt.frames + 1 ≤ R.frames ∧ 8 + (4 + 11) + rm_RE_hollowAt.locals ≤ R.locals) : CallW R s args "LakeRelief" "LakeRelief$Relief" 113 y_RE_hollowAt prog_4_method_22_code 4 (Option.some Jvm.ClassFile.FieldType.int) (Cond.code y_RE_hollowAt prog_4_method_22_code 4 (Option.some Jvm.ClassFile.FieldType.int) :: lw_ok) rm_RE_hollowAt 0 0 1 := ⟨(callB_of 1 hts (ok_in in_416) rfl rfl rfl (hts _ in_3) (hts _ in_413) (by decide +kernel) hR), hts _ in_414, hts _ in_415⟩
theorem cw_LR_116 (hts : ∀ w ∈ lw_ok, w.before args s = true) (hR : rm_LK_isLake.frames + 1 ≤ R.frames ∧ 8 + (2 + 11) + rm_LK_isLake.locals ≤ R.locals) : CallW R s args "LakeRelief" "LakeRelief$Lakes" 116 y_LK_isLake prog_3_method_2_code 2 (Option.some Jvm.ClassFile.FieldType.boolean) (Cond.code y_LK_isLake prog_3_method_2_code 2 (Option.some Jvm.ClassFile.FieldType.boolean) :: lw_ok) rm_LK_isLake 0 0 1 := ⟨(callB_of 1 hts (ok_in in_379) rfl rfl rfl (hts _ in_4) (hts _ in_425) (by decide +kernel) hR), hts _ in_377, hts _ in_378⟩
theorem cw_LR_123 (hts : ∀ w ∈ lw_ok, w.before args s = true) (hR : rm_LA_isDouble.frames + 1 ≤ R.frames ∧ 8 + (1 + 11) + rm_LA_isDouble.locals ≤ R.locals) : CallW R s args "LakeRelief" "LakeRelief$Lake" 123 y_LA_isDouble prog_2_method_3_code 1 (Option.some Jvm.ClassFile.FieldType.boolean) (Cond.code y_LA_isDouble prog_2_method_3_code 1 (Option.some Jvm.ClassFile.FieldType.boolean) :: lw_ok) rm_LA_isDouble 0 0 0 := ⟨(callB_of 0 hts (ok_in in_392) rfl rfl rfl (hts _ in_5) (hts _ in_426) (by decide +kernel) hR), hts _ in_390, hts _ in_391⟩
theorem cw_LR_133 (hts : ∀ w ∈ lw_ok, w.before args s = true) (hR : rm_RE_lowestOf.frames + 1 ≤ R.frames ∧ 8 + (4 + 11) + rm_RE_lowestOf.locals ≤ R.locals) : CallW R s args "LakeRelief" "LakeRelief$Relief" 133 y_RE_lowestOf prog_4_method_23_code 4 (Option.some Jvm.ClassFile.FieldType.int) (Cond.code y_RE_lowestOf prog_4_method_23_code 4 (Option.some Jvm.ClassFile.FieldType.int) :: lw_ok) rm_RE_lowestOf 0 0 1 := ⟨(callB_of 1 hts (ok_in in_430) rfl rfl rfl (hts _ in_3) (hts _ in_427) (by decide +kernel) hR), hts _ in_428, hts _ in_429⟩
theorem cw_LR_149 (hts : ∀ w ∈ lw_ok, w.before args s = true) (hR : rm_JL_bitCount.frames + 1 ≤ R.frames ∧ 8 + (2 + 11) + rm_JL_bitCount.locals ≤ R.locals) : CallB R s args "LakeRelief" 149 y_JL_bitCount prog_8_method_50_code 2 (Option.some Jvm.ClassFile.FieldType.int) (Cond.code y_JL_bitCount prog_8_method_50_code 2 (Option.some Jvm.ClassFile.FieldType.int) :: lw_ok) rm_JL_bitCount 0 0 1 ∧ (Cond.static y_JL_bitCount).before args s = true := ⟨(callB_of 1 hts (ok_in in_433) rfl rfl rfl (hts _ in_9) (hts _ in_431) (by decide +kernel) hR), hts _ in_432⟩
theorem cw_LR_163 (hts : ∀ w ∈ lw_ok, w.before args s = true) (hR : rm_LR_isIn.frames + 1 ≤ R.frames ∧ 8 + (3 + 11) + rm_LR_isIn.locals ≤ R.locals) : CallB R s args "LakeRelief" 163 y_LR_isIn prog_1_method_24_code 3 (Option.some Jvm.ClassFile.FieldType.boolean) (Cond.code y_LR_isIn prog_1_method_24_code 3 (Option.some Jvm.ClassFile.FieldType.boolean) :: lw_ok) rm_LR_isIn 0 0 2 ∧ (Cond.static y_LR_isIn).before args s = true := ⟨(callB_of 2 hts (ok_in in_281) rfl rfl rfl (hts _ in_1) (hts _ in_441) (by decide +kernel) hR), hts _ in_280⟩
theorem cw_LR_167 (hts : ∀ w ∈ lw_ok, w.before args s = true) (hR : rm_LK_isLevelOf.frames + 1 ≤ R.frames ∧ 8 + (3 + 11) + rm_LK_isLevelOf.locals ≤ R.locals) : CallW R s args "LakeRelief" "LakeRelief$Lakes" 167 y_LK_isLevelOf prog_3_method_3_code 3 (Option.some Jvm.ClassFile.FieldType.boolean) (Cond.code y_LK_isLevelOf prog_3_method_3_code 3 (Option.some Jvm.ClassFile.FieldType.boolean) :: lw_ok) rm_LK_isLevelOf 0 0 2 := ⟨(callB_of 2 hts (ok_in in_449) rfl rfl rfl (hts _ in_4) (hts _ in_446) (by decide +kernel) hR), hts _ in_447, hts _ in_448⟩
theorem cw_LR_170 (hts : ∀ w ∈ lw_ok, w.before args s = true) (hR : rm_RE_roomBelow.frames + 1 ≤ R.frames ∧ 8 + (6 + 11) + rm_RE_roomBelow.locals ≤ R.locals) : CallW R s args "LakeRelief" "LakeRelief$Relief" 170 y_RE_roomBelow prog_4_method_24_code 6 (Option.some Jvm.ClassFile.FieldType.int) (Cond.code y_RE_roomBelow prog_4_method_24_code 6 (Option.some Jvm.ClassFile.FieldType.int) :: lw_ok) rm_RE_roomBelow 0 0 2 := ⟨(callB_of 2 hts (ok_in in_388) rfl rfl rfl (hts _ in_3) (hts _ in_451) (by decide +kernel) hR), hts _ in_386, hts _ in_387⟩
theorem cw_LR_174 (hts : ∀ w ∈ lw_ok, w.before args s = true) (hR : rm_RE_countBelow.frames + 1 ≤ R.frames ∧ 8 + (6 + 11) + rm_RE_countBelow.locals ≤ R.locals) : CallW R s args "LakeRelief" "LakeRelief$Relief" 174 y_RE_countBelow prog_4_method_25_code 6 (Option.some Jvm.ClassFile.FieldType.int) (Cond.code y_RE_countBelow prog_4_method_25_code 6 (Option.some Jvm.ClassFile.FieldType.int) :: lw_ok) rm_RE_countBelow 0 0 2 := ⟨(callB_of 2 hts (ok_in in_459) rfl rfl rfl (hts _ in_3) (hts _ in_456) (by decide +kernel) hR), hts _ in_457, hts _ in_458⟩
theorem cw_LR_178 (hts : ∀ w ∈ lw_ok, w.before args s = true) (hR : rm_LK_takeGrains.frames + 1 ≤ R.frames ∧ 8 + (4 + 11) + rm_LK_takeGrains.locals ≤ R.locals) : CallW R s args "LakeRelief" "LakeRelief$Lakes" 178 y_LK_takeGrains prog_3_method_17_code 4 (Option.some Jvm.ClassFile.FieldType.int) (Cond.code y_LK_takeGrains prog_3_method_17_code 4 (Option.some Jvm.ClassFile.FieldType.int) :: lw_ok) rm_LK_takeGrains 0 0 2 := ⟨(callB_of 2 hts (ok_in in_467) rfl rfl rfl (hts _ in_4) (hts _ in_464) (by decide +kernel) hR), hts _ in_465, hts _ in_466⟩
theorem cw_LR_181 (hts : ∀ w ∈ lw_ok, w.before args s = true) (hR : rm_RE_surface.frames + 1 ≤ R.frames ∧ 8 + (9 + 11) + rm_RE_surface.locals ≤ R.locals) : CallW R s args "LakeRelief" "LakeRelief$Relief" 181 y_RE_surface prog_4_method_26_code 9 (Option.some Jvm.ClassFile.FieldType.int) (Cond.code y_RE_surface prog_4_method_26_code 9 (Option.some Jvm.ClassFile.FieldType.int) :: lw_ok) rm_RE_surface 0 0 3 := ⟨(callB_of 3 hts (ok_in in_505) rfl rfl rfl (hts _ in_3) (hts _ in_502) (by decide +kernel) hR), hts _ in_503, hts _ in_504⟩
theorem cw_LR_185 (hts : ∀ w ∈ lw_ok, w.before args s = true) (hR : rm_LR_isSeaLevel.frames + 1 ≤ R.frames ∧ 8 + (1 + 11) + rm_LR_isSeaLevel.locals ≤ R.locals) : CallB R s args "LakeRelief" 185 y_LR_isSeaLevel prog_1_method_23_code 1 (Option.some Jvm.ClassFile.FieldType.boolean) (Cond.code y_LR_isSeaLevel prog_1_method_23_code 1 (Option.some Jvm.ClassFile.FieldType.boolean) :: lw_ok) rm_LR_isSeaLevel 0 0 1 ∧ (Cond.static y_LR_isSeaLevel).before args s = true := ⟨(callB_of 1 hts (ok_in in_518) rfl rfl rfl (hts _ in_1) (hts _ in_516) (by decide +kernel) hR), hts _ in_517⟩
theorem cw_LR_188 (hts : ∀ w ∈ lw_ok, w.before args s = true) (hR : rm_RE_landLeftAt.frames + 1 ≤ R.frames ∧ 8 + (6 + 11) + rm_RE_landLeftAt.locals ≤ R.locals) : CallW R s args "LakeRelief" "LakeRelief$Relief" 188 y_RE_landLeftAt prog_4_method_28_code 6 (Option.some Jvm.ClassFile.FieldType.long) (Cond.code y_RE_landLeftAt prog_4_method_28_code 6 (Option.some Jvm.ClassFile.FieldType.long) :: lw_ok) rm_RE_landLeftAt 0 0 1 := ⟨(callB_of 1 hts (ok_in in_523) rfl rfl rfl (hts _ in_3) (hts _ in_520) (by decide +kernel) hR), hts _ in_521, hts _ in_522⟩
theorem cw_LR_192 (hts : ∀ w ∈ lw_ok, w.before args s = true) (hR : rm_RE_piecesOf.frames + 1 ≤ R.frames ∧ 8 + (7 + 11) + rm_RE_piecesOf.locals ≤ R.locals) : CallW R s args "LakeRelief" "LakeRelief$Relief" 192 y_RE_piecesOf prog_4_method_29_code 7 (Option.some Jvm.ClassFile.FieldType.int) (Cond.code y_RE_piecesOf prog_4_method_29_code 7 (Option.some Jvm.ClassFile.FieldType.int) :: lw_ok) rm_RE_piecesOf 0 0 1 := ⟨(callB_of 1 hts (ok_in in_531) rfl rfl rfl (hts _ in_3) (hts _ in_528) (by decide +kernel) hR), hts _ in_529, hts _ in_530⟩
theorem cw_LR_200 (hts : ∀ w ∈ lw_ok, w.before args s = true) (hR : rm_RE_hollowCount.frames + 1 ≤ R.frames ∧ 8 + (3 + 11) + rm_RE_hollowCount.locals ≤ R.locals) : CallW R s args "LakeRelief" "LakeRelief$Relief" 200 y_RE_hollowCount prog_4_method_21_code 3 (Option.some Jvm.ClassFile.FieldType.int) (Cond.code y_RE_hollowCount prog_4_method_21_code 3 (Option.some Jvm.ClassFile.FieldType.int) :: lw_ok) rm_RE_hollowCount 0 0 0 := ⟨(callB_of 0 hts (ok_in in_545) rfl rfl rfl (hts _ in_3) (hts _ in_542) (by decide +kernel) hR), hts _ in_543, hts _ in_544⟩
theorem cw_LR_207 (hts : ∀ w ∈ lw_ok, w.before args s = true) (hR : rm_LK_numberThere.frames + 1 ≤ R.frames ∧ 8 + (3 + 11) + rm_LK_numberThere.locals ≤ R.locals) : CallW R s args "LakeRelief" "LakeRelief$Lakes" 207 y_LK_numberThere prog_3_method_15_code 3 (Option.some Jvm.ClassFile.FieldType.int) (Cond.code y_LK_numberThere prog_3_method_15_code 3 (Option.some Jvm.ClassFile.FieldType.int) :: lw_ok) rm_LK_numberThere 0 0 0 := ⟨(callB_of 0 hts (ok_in in_549) rfl rfl rfl (hts _ in_4) (hts _ in_546) (by decide +kernel) hR), hts _ in_547, hts _ in_548⟩
theorem cw_LR_210 (hts : ∀ w ∈ lw_ok, w.before args s = true) (hR : rm_LK_waterThere.frames + 1 ≤ R.frames ∧ 8 + (4 + 11) + rm_LK_waterThere.locals ≤ R.locals) : CallW R s args "LakeRelief" "LakeRelief$Lakes" 210 y_LK_waterThere prog_3_method_16_code 4 (Option.some Jvm.ClassFile.FieldType.long) (Cond.code y_LK_waterThere prog_3_method_16_code 4 (Option.some Jvm.ClassFile.FieldType.long) :: lw_ok) rm_LK_waterThere 0 0 0 := ⟨(callB_of 0 hts (ok_in in_553) rfl rfl rfl (hts _ in_4) (hts _ in_550) (by decide +kernel) hR), hts _ in_551, hts _ in_552⟩
theorem cw_LR_222 (hts : ∀ w ∈ lw_ok, w.before args s = true) (hR : rm_ST_hasPlace.frames + 1 ≤ R.frames ∧ 8 + (2 + 11) + rm_ST_hasPlace.locals ≤ R.locals) : CallW R s args "LakeRelief" "LakeRelief$Strip" 222 y_ST_hasPlace prog_5_method_3_code 2 (Option.some Jvm.ClassFile.FieldType.boolean) (Cond.code y_ST_hasPlace prog_5_method_3_code 2 (Option.some Jvm.ClassFile.FieldType.boolean) :: lw_ok) rm_ST_hasPlace 0 0 1 := ⟨(callB_of 1 hts (ok_in in_210) rfl rfl rfl (hts _ in_2) (hts _ in_207) (by decide +kernel) hR), hts _ in_208, hts _ in_209⟩
theorem cw_LR_225 (hts : ∀ w ∈ lw_ok, w.before args s = true) (hR : rm_LR_isHeight.frames + 1 ≤ R.frames ∧ 8 + (1 + 11) + rm_LR_isHeight.locals ≤ R.locals) : CallB R s args "LakeRelief" 225 y_LR_isHeight prog_1_method_22_code 1 (Option.some Jvm.ClassFile.FieldType.boolean) (Cond.code y_LR_isHeight prog_1_method_22_code 1 (Option.some Jvm.ClassFile.FieldType.boolean) :: lw_ok) rm_LR_isHeight 0 0 1 ∧ (Cond.static y_LR_isHeight).before args s = true := ⟨(callB_of 1 hts (ok_in in_241) rfl rfl rfl (hts _ in_1) (hts _ in_239) (by decide +kernel) hR), hts _ in_240⟩
theorem cw_LR_228 (hts : ∀ w ∈ lw_ok, w.before args s = true) (hR : rm_RE_raiseLand.frames + 1 ≤ R.frames ∧ 8 + (3 + 11) + rm_RE_raiseLand.locals ≤ R.locals) : CallW R s args "LakeRelief" "LakeRelief$Relief" 228 y_RE_raiseLand prog_4_method_3_code 3 (Option.none : Option Jvm.ClassFile.FieldType) (Cond.code y_RE_raiseLand prog_4_method_3_code 3 (Option.none : Option Jvm.ClassFile.FieldType) :: lw_ok) rm_RE_raiseLand 0 0 2 := ⟨(callB_of 2 hts (ok_in in_255) rfl rfl rfl (hts _ in_3) (hts _ in_252) (by decide +kernel) hR), hts _ in_253, hts _ in_254⟩
theorem cw_LA_9 (hts : ∀ w ∈ lw_ok, w.before args s = true) (hR : rm_LA_begin.frames + 1 ≤ R.frames ∧ 8 + (5 + 11) + rm_LA_begin.locals ≤ R.locals) : CallW R s args "LakeRelief$Lake" "LakeRelief$Lake" 9 y_LA_begin prog_2_method_2_code 5 (Option.none : Option Jvm.ClassFile.FieldType) (Cond.code y_LA_begin prog_2_method_2_code 5 (Option.none : Option Jvm.ClassFile.FieldType) :: lw_ok) rm_LA_begin 0 0 3 := ⟨(callB_of 3 hts (ok_in in_104) rfl rfl rfl (hts _ in_5) (hts _ in_101) (by decide +kernel) hR), hts _ in_102, hts _ in_103⟩
theorem cw_LK_36 (hts : ∀ w ∈ lw_ok, w.before args s = true) (hR : rm_LK_isLake.frames + 1 ≤ R.frames ∧ 8 + (2 + 11) + rm_LK_isLake.locals ≤ R.locals) : CallW R s args "LakeRelief$Lakes" "LakeRelief$Lakes" 36 y_LK_isLake prog_3_method_2_code 2 (Option.some Jvm.ClassFile.FieldType.boolean) (Cond.code y_LK_isLake prog_3_method_2_code 2 (Option.some Jvm.ClassFile.FieldType.boolean) :: lw_ok) rm_LK_isLake 0 0 1 := ⟨(callB_of 1 hts (ok_in in_379) rfl rfl rfl (hts _ in_4) (hts _ in_376) (by decide +kernel) hR), hts _ in_377, hts _ in_378⟩
theorem cw_LK_43 (hts : ∀ w ∈ lw_ok, w.before args s = true) (hR : rm_RE_isLand.frames + 1 ≤ R.frames ∧ 8 + (2 + 11) + rm_RE_isLand.locals ≤ R.locals) : CallW R s args "LakeRelief$Lakes" "LakeRelief$Relief" 43 y_RE_isLand prog_4_method_6_code 2 (Option.some Jvm.ClassFile.FieldType.boolean) (Cond.code y_RE_isLand prog_4_method_6_code 2 (Option.some Jvm.ClassFile.FieldType.boolean) :: lw_ok) rm_RE_isLand 0 0 1 := ⟨(callB_of 1 hts (ok_in in_274) rfl rfl rfl (hts _ in_3) (hts _ in_384) (by decide +kernel) hR), hts _ in_272, hts _ in_273⟩
theorem cw_LK_59 (hts : ∀ w ∈ lw_ok, w.before args s = true) (hR : rm_LK_goUnder.frames + 1 ≤ R.frames ∧ 8 + (5 + 11) + rm_LK_goUnder.locals ≤ R.locals) : CallW R s args "LakeRelief$Lakes" "LakeRelief$Lakes" 59 y_LK_goUnder prog_3_method_6_code 5 (Option.none : Option Jvm.ClassFile.FieldType) (Cond.code y_LK_goUnder prog_3_method_6_code 5 (Option.none : Option Jvm.ClassFile.FieldType) :: lw_ok) rm_LK_goUnder 0 0 1 := ⟨(callB_of 1 hts (ok_in in_337) rfl rfl rfl (hts _ in_4) (hts _ in_334) (by decide +kernel) hR), hts _ in_336, hts _ sp_13⟩
theorem cw_LK_63 (hts : ∀ w ∈ lw_ok, w.before args s = true) (hR : rm_LK_measure.frames + 1 ≤ R.frames ∧ 8 + (2 + 11) + rm_LK_measure.locals ≤ R.locals) : CallW R s args "LakeRelief$Lakes" "LakeRelief$Lakes" 63 y_LK_measure prog_3_method_5_code 2 (Option.none : Option Jvm.ClassFile.FieldType) (Cond.code y_LK_measure prog_3_method_5_code 2 (Option.none : Option Jvm.ClassFile.FieldType) :: lw_ok) rm_LK_measure 0 0 1 := ⟨(callB_of 1 hts (ok_in in_383) rfl rfl rfl (hts _ in_4) (hts _ in_380) (by decide +kernel) hR), hts _ in_382, hts _ sp_21⟩
theorem cw_LK_70 (hts : ∀ w ∈ lw_ok, w.before args s = true) (hR : rm_RE_roomBelow.frames + 1 ≤ R.frames ∧ 8 + (6 + 11) + rm_RE_roomBelow.locals ≤ R.locals) : CallW R s args "LakeRelief$Lakes" "LakeRelief$Relief" 70 y_RE_roomBelow prog_4_method_24_code 6 (Option.some Jvm.ClassFile.FieldType.int) (Cond.code y_RE_roomBelow prog_4_method_24_code 6 (Option.some Jvm.ClassFile.FieldType.int) :: lw_ok) rm_RE_roomBelow 0 0 2 := ⟨(callB_of 2 hts (ok_in in_388) rfl rfl rfl (hts _ in_3) (hts _ in_385) (by decide +kernel) hR), hts _ in_386, hts _ in_387⟩
theorem cw_LK_77 (hts : ∀ w ∈ lw_ok, w.before args s = true) (hR : rm_LA_isDouble.frames + 1 ≤ R.frames ∧ 8 + (1 + 11) + rm_LA_isDouble.locals ≤ R.locals) : CallW R s args "LakeRelief$Lakes" "LakeRelief$Lake" 77 y_LA_isDouble prog_2_method_3_code 1 (Option.some Jvm.ClassFile.FieldType.boolean) (Cond.code y_LA_isDouble prog_2_method_3_code 1 (Option.some Jvm.ClassFile.FieldType.boolean) :: lw_ok) rm_LA_isDouble 0 0 0 := ⟨(callB_of 0 hts (ok_in in_392) rfl rfl rfl (hts _ in_5) (hts _ in_389) (by decide +kernel) hR), hts _ in_390, hts _ in_391⟩
theorem cw_LK_81 (hts : ∀ w ∈ lw_ok, w.before args s = true) (hR : rm_LA_appear.frames + 1 ≤ R.frames ∧ 8 + (2 + 11) + rm_LA_appear.locals ≤ R.locals) : CallW R s args "LakeRelief$Lakes" "LakeRelief$Lake" 81 y_LA_appear prog_2_method_6_code 2 (Option.none : Option Jvm.ClassFile.FieldType) (Cond.code y_LA_appear prog_2_method_6_code 2 (Option.none : Option Jvm.ClassFile.FieldType) :: lw_ok) rm_LA_appear 0 0 1 := ⟨(callB_of 1 hts (ok_in in_396) rfl rfl rfl (hts _ in_5) (hts _ in_393) (by decide +kernel) hR), hts _ in_394, hts _ in_395⟩
theorem cw_LK_84 (hts : ∀ w ∈ lw_ok, w.before args s = true) (hR : rm_LK_topsBeside.frames + 1 ≤ R.frames ∧ 8 + (6 + 11) + rm_LK_topsBeside.locals ≤ R.locals) : CallW R s args "LakeRelief$Lakes" "LakeRelief$Lakes" 84 y_LK_topsBeside prog_3_method_8_code 6 (Option.some Jvm.ClassFile.FieldType.long) (Cond.code y_LK_topsBeside prog_3_method_8_code 6 (Option.some Jvm.ClassFile.FieldType.long) :: lw_ok) rm_LK_topsBeside 0 0 1 := ⟨(callB_of 1 hts (ok_in in_341) rfl rfl rfl (hts _ in_4) (hts _ in_338) (by decide +kernel) hR), hts _ in_340, hts _ sp_14⟩
theorem cw_LK_88 (hts : ∀ w ∈ lw_ok, w.before args s = true) (hR : rm_LK_isBesideSeas.frames + 1 ≤ R.frames ∧ 8 + (2 + 11) + rm_LK_isBesideSeas.locals ≤ R.locals) : CallW R s args "LakeRelief$Lakes" "LakeRelief$Lakes" 88 y_LK_isBesideSeas prog_3_method_7_code 2 (Option.some Jvm.ClassFile.FieldType.boolean) (Cond.code y_LK_isBesideSeas prog_3_method_7_code 2 (Option.some Jvm.ClassFile.FieldType.boolean) :: lw_ok) rm_LK_isBesideSeas 0 0 1 := ⟨(callB_of 1 hts (ok_in in_352) rfl rfl rfl (hts _ in_4) (hts _ in_349) (by decide +kernel) hR), hts _ in_351, hts _ sp_16⟩
theorem cw_LK_91 (hts : ∀ w ∈ lw_ok, w.before args s = true) (hR : rm_LK_spillToSea.frames + 1 ≤ R.frames ∧ 8 + (5 + 11) + rm_LK_spillToSea.locals ≤ R.locals) : CallW R s args "LakeRelief$Lakes" "LakeRelief$Lakes" 91 y_LK_spillToSea prog_3_method_10_code 5 (Option.none : Option Jvm.ClassFile.FieldType) (Cond.code y_LK_spillToSea prog_3_method_10_code 5 (Option.none : Option Jvm.ClassFile.FieldType) :: lw_ok) rm_LK_spillToSea 0 0 2 := ⟨(callB_of 2 hts (ok_in in_358) rfl rfl rfl (hts _ in_4) (hts _ in_355) (by decide +kernel) hR), hts _ in_357, hts _ sp_17⟩
theorem cw_LK_95 (hts : ∀ w ∈ lw_ok, w.before args s = true) (hR : rm_LK_make.frames + 1 ≤ R.frames ∧ 8 + (6 + 11) + rm_LK_make.locals ≤ R.locals) : CallW R s args "LakeRelief$Lakes" "LakeRelief$Lakes" 95 y_LK_make prog_3_method_13_code 6 (Option.some Jvm.ClassFile.FieldType.int) (Cond.code y_LK_make prog_3_method_13_code 6 (Option.some Jvm.ClassFile.FieldType.int) :: lw_ok) rm_LK_make 0 0 3 := ⟨(callB_of 3 hts (ok_in in_366) rfl rfl rfl (hts _ in_4) (hts _ in_363) (by decide +kernel) hR), hts _ in_365, hts _ sp_18⟩
theorem cw_LK_99 (hts : ∀ w ∈ lw_ok, w.before args s = true) (hR : rm_LK_joinAt.frames + 1 ≤ R.frames ∧ 8 + (7 + 11) + rm_LK_joinAt.locals ≤ R.locals) : CallW R s args "LakeRelief$Lakes" "LakeRelief$Lakes" 99 y_LK_joinAt prog_3_method_11_code 7 (Option.some Jvm.ClassFile.FieldType.int) (Cond.code y_LK_joinAt prog_3_method_11_code 7 (Option.some Jvm.ClassFile.FieldType.int) :: lw_ok) rm_LK_joinAt 0 0 2 := ⟨(callB_of 2 hts (ok_in in_371) rfl rfl rfl (hts _ in_4) (hts _ in_368) (by decide +kernel) hR), hts _ in_370, hts _ sp_19⟩
theorem cw_LK_102 (hts : ∀ w ∈ lw_ok, w.before args s = true) (hG : Geo D adr cA s) (hR : rm_LR_only.frames + 1 ≤ R.frames ∧ 8 + (1 + 11) + rm_LR_only.locals ≤ R.locals) : va_CN R s args "LakeRelief$Lakes" 102 y_LR_only "LakeRelief" prog_1_method_25_code 1 (Option.some Jvm.ClassFile.FieldType.long) (Cond.code y_LR_only prog_1_method_25_code 1 (Option.some Jvm.ClassFile.FieldType.long) :: lw_ok) rm_LR_only 0 0 1 ∧ (Cond.static y_LR_only).before args s = true ∧ True := ⟨va_cnB 1 hts (ok_in in_258) rfl rfl rfl (hG.2.2.2.2.2) (hts _ in_1) (by decide +kernel) hR, hts _ in_257, trivial⟩
theorem cw_LK_105 (hts : ∀ w ∈ lw_ok, w.before args s = true) (hR : rm_RE_isBesideSea.frames + 1 ≤ R.frames ∧ 8 + (3 + 11) + rm_RE_isBesideSea.locals ≤ R.locals) : CallW R s args "LakeRelief$Lakes" "LakeRelief$Relief" 105 y_RE_isBesideSea prog_4_method_13_code 3 (Option.some Jvm.ClassFile.FieldType.boolean) (Cond.code y_RE_isBesideSea prog_4_method_13_code 3 (Option.some Jvm.ClassFile.FieldType.boolean) :: lw_ok) rm_RE_isBesideSea 0 0 1 := ⟨(callB_of 1 hts (ok_in in_305) rfl rfl rfl (hts _ in_3) (hts _ in_353) (by decide +kernel) hR), hts _ in_303, hts _ in_304⟩
theorem cw_LK_108 (hts : ∀ w ∈ lw_ok, w.before args s = true) (hR : rm_RE_lowestBeside.frames + 1 ≤ R.frames ∧ 8 + (7 + 11) + rm_RE_lowestBeside.locals ≤ R.locals) : CallW R s args "LakeRelief$Lakes" "LakeRelief$Relief" 108 y_RE_lowestBeside prog_4_method_14_code 7 (Option.some Jvm.ClassFile.FieldType.int) (Cond.code y_RE_lowestBeside prog_4_method_14_code 7 (Option.some Jvm.ClassFile.FieldType.int) :: lw_ok) rm_RE_lowestBeside 0 0 2 := ⟨(callB_of 2 hts (ok_in in_313) rfl rfl rfl (hts _ in_3) (hts _ in_354) (by decide +kernel) hR), hts _ in_311, hts _ in_312⟩
theorem cw_LK_112 (hts : ∀ w ∈ lw_ok, w.before args s = true) (hR : rm_RE_beside.frames + 1 ≤ R.frames ∧ 8 + (3 + 11) + rm_RE_beside.locals ≤ R.locals) : CallW R s args "LakeRelief$Lakes" "LakeRelief$Relief" 112 y_RE_beside prog_4_method_12_code 3 (Option.some Jvm.ClassFile.FieldType.int) (Cond.code y_RE_beside prog_4_method_12_code 3 (Option.some Jvm.ClassFile.FieldType.int) :: lw_ok) rm_RE_beside 0 0 2 := ⟨(callB_of 2 hts (ok_in in_309) rfl rfl rfl (hts _ in_3) (hts _ in_342) (by decide +kernel) hR), hts _ in_307, hts _ in_308⟩
theorem cw_LK_116 (hts : ∀ w ∈ lw_ok, w.before args s = true) (hR : rm_LK_topWith.frames + 1 ≤ R.frames ∧ 8 + (3 + 11) + rm_LK_topWith.locals ≤ R.locals) : CallW R s args "LakeRelief$Lakes" "LakeRelief$Lakes" 116 y_LK_topWith prog_3_method_9_code 3 (Option.some Jvm.ClassFile.FieldType.int) (Cond.code y_LK_topWith prog_3_method_9_code 3 (Option.some Jvm.ClassFile.FieldType.int) :: lw_ok) rm_LK_topWith 0 0 1 := ⟨(callB_of 1 hts (ok_in in_346) rfl rfl rfl (hts _ in_4) (hts _ in_343) (by decide +kernel) hR), hts _ in_345, hts _ sp_15⟩
theorem cw_LK_123 (hts : ∀ w ∈ lw_ok, w.before args s = true) (hG : Geo D adr cA s) (hR : rm_LR_isIn.frames + 1 ≤ R.frames ∧ 8 + (3 + 11) + rm_LR_isIn.locals ≤ R.locals) : va_CN R s args "LakeRelief$Lakes" 123 y_LR_isIn "LakeRelief" prog_1_method_24_code 3 (Option.some Jvm.ClassFile.FieldType.boolean) (Cond.code y_LR_isIn prog_1_method_24_code 3 (Option.some Jvm.ClassFile.FieldType.boolean) :: lw_ok) rm_LR_isIn 0 0 2 ∧ (Cond.static y_LR_isIn).before args s = true ∧ True := ⟨va_cnB 2 hts (ok_in in_281) rfl rfl rfl (hG.2.2.2.2.1) (hts _ in_1) (by decide +kernel) hR, hts _ in_280, trivial⟩
theorem cw_LK_127 (hts : ∀ w ∈ lw_ok, w.before args s = true) (hR : rm_LA_spillAt.frames + 1 ≤ R.frames ∧ 8 + (3 + 11) + rm_LA_spillAt.locals ≤ R.locals) : CallW R s args "LakeRelief$Lakes" "LakeRelief$Lake" 127 y_LA_spillAt prog_2_method_5_code 3 (Option.none : Option Jvm.ClassFile.FieldType) (Cond.code y_LA_spillAt prog_2_method_5_code 3 (Option.none : Option Jvm.ClassFile.FieldType) :: lw_ok) rm_LA_spillAt 0 0 2 := ⟨(callB_of 2 hts (ok_in in_362) rfl rfl rfl (hts _ in_5) (hts _ in_359) (by decide +kernel) hR), hts _ in_360, hts _ in_361⟩
theorem cw_LK_131 (hts : ∀ w ∈ lw_ok, w.before args s = true) (hR : rm_LK_makeDouble.frames + 1 ≤ R.frames ∧ 8 + (5 + 11) + rm_LK_makeDouble.locals ≤ R.locals) : CallW R s args "LakeRelief$Lakes" "LakeRelief$Lakes" 131 y_LK_makeDouble prog_3_method_12_code 5 (Option.some Jvm.ClassFile.FieldType.int) (Cond.code y_LK_makeDouble prog_3_method_12_code 5 (Option.some Jvm.ClassFile.FieldType.int) :: lw_ok) rm_LK_makeDouble 0 0 3 := ⟨(callB_of 3 hts (ok_in in_375) rfl rfl rfl (hts _ in_4) (hts _ in_372) (by decide +kernel) hR), hts _ in_374, hts _ sp_20⟩
theorem cw_LK_135 (hts : ∀ w ∈ lw_ok, w.before args s = true) (hR : rm_LA_begin.frames + 1 ≤ R.frames ∧ 8 + (5 + 11) + rm_LA_begin.locals ≤ R.locals) : CallW R s args "LakeRelief$Lakes" "LakeRelief$Lake" 135 y_LA_begin prog_2_method_2_code 5 (Option.none : Option Jvm.ClassFile.FieldType) (Cond.code y_LA_begin prog_2_method_2_code 5 (Option.none : Option Jvm.ClassFile.FieldType) :: lw_ok) rm_LA_begin 0 0 3 := ⟨(callB_of 3 hts (ok_in in_104) rfl rfl rfl (hts _ in_5) (hts _ in_367) (by decide +kernel) hR), hts _ in_102, hts _ in_103⟩
theorem cw_LK_146 (hts : ∀ w ∈ lw_ok, w.before args s = true) (hR : rm_LK_lakeBelow.frames + 1 ≤ R.frames ∧ 8 + (2 + 11) + rm_LK_lakeBelow.locals ≤ R.locals) : CallW R s args "LakeRelief$Lakes" "LakeRelief$Lakes" 146 y_LK_lakeBelow prog_3_method_18_code 2 (Option.some Jvm.ClassFile.FieldType.int) (Cond.code y_LK_lakeBelow prog_3_method_18_code 2 (Option.some Jvm.ClassFile.FieldType.int) :: lw_ok) rm_LK_lakeBelow 0 0 1 := ⟨(callB_of 1 hts (ok_in in_471) rfl rfl rfl (hts _ in_4) (hts _ in_468) (by decide +kernel) hR), hts _ in_470, hts _ sp_23⟩
theorem cw_LK_149 (hts : ∀ w ∈ lw_ok, w.before args s = true) (hR : rm_LK_runDown.frames + 1 ≤ R.frames ∧ 8 + (6 + 11) + rm_LK_runDown.locals ≤ R.locals) : CallW R s args "LakeRelief$Lakes" "LakeRelief$Lakes" 149 y_LK_runDown prog_3_method_19_code 6 (Option.some Jvm.ClassFile.FieldType.int) (Cond.code y_LK_runDown prog_3_method_19_code 6 (Option.some Jvm.ClassFile.FieldType.int) :: lw_ok) rm_LK_runDown 0 0 2 := ⟨(callB_of 2 hts (ok_in in_476) rfl rfl rfl (hts _ in_4) (hts _ in_473) (by decide +kernel) hR), hts _ in_475, hts _ sp_24⟩
theorem cw_LK_155 (hts : ∀ w ∈ lw_ok, w.before args s = true) (hR : rm_LK_thereWith.frames + 1 ≤ R.frames ∧ 8 + (3 + 11) + rm_LK_thereWith.locals ≤ R.locals) : CallW R s args "LakeRelief$Lakes" "LakeRelief$Lakes" 155 y_LK_thereWith prog_3_method_14_code 3 (Option.some Jvm.ClassFile.FieldType.int) (Cond.code y_LK_thereWith prog_3_method_14_code 3 (Option.some Jvm.ClassFile.FieldType.int) :: lw_ok) rm_LK_thereWith 0 0 1 := ⟨(callB_of 1 hts (ok_in in_408) rfl rfl rfl (hts _ in_4) (hts _ in_472) (by decide +kernel) hR), hts _ in_406, hts _ in_407⟩
theorem cw_LK_158 (hts : ∀ w ∈ lw_ok, w.before args s = true) (hR : rm_LK_fillUp.frames + 1 ≤ R.frames ∧ 8 + (4 + 11) + rm_LK_fillUp.locals ≤ R.locals) : CallW R s args "LakeRelief$Lakes" "LakeRelief$Lakes" 158 y_LK_fillUp prog_3_method_20_code 4 (Option.some Jvm.ClassFile.FieldType.int) (Cond.code y_LK_fillUp prog_3_method_20_code 4 (Option.some Jvm.ClassFile.FieldType.int) :: lw_ok) rm_LK_fillUp 0 0 2 := ⟨(callB_of 2 hts (ok_in in_480) rfl rfl rfl (hts _ in_4) (hts _ in_477) (by decide +kernel) hR), hts _ in_479, hts _ sp_25⟩
theorem cw_LK_162 (hts : ∀ w ∈ lw_ok, w.before args s = true) (hR : rm_LK_next.frames + 1 ≤ R.frames ∧ 8 + (4 + 11) + rm_LK_next.locals ≤ R.locals) : CallW R s args "LakeRelief$Lakes" "LakeRelief$Lakes" 162 y_LK_next prog_3_method_21_code 4 (Option.some Jvm.ClassFile.FieldType.int) (Cond.code y_LK_next prog_3_method_21_code 4 (Option.some Jvm.ClassFile.FieldType.int) :: lw_ok) rm_LK_next 0 0 1 := ⟨(callB_of 1 hts (ok_in in_485) rfl rfl rfl (hts _ in_4) (hts _ in_482) (by decide +kernel) hR), hts _ in_484, hts _ sp_26⟩
theorem cw_LK_176 (hts : ∀ w ∈ lw_ok, w.before args s = true) (hR : rm_LA_isFull.frames + 1 ≤ R.frames ∧ 8 + (1 + 11) + rm_LA_isFull.locals ≤ R.locals) : CallW R s args "LakeRelief$Lakes" "LakeRelief$Lake" 176 y_LA_isFull prog_2_method_4_code 1 (Option.some Jvm.ClassFile.FieldType.boolean) (Cond.code y_LA_isFull prog_2_method_4_code 1 (Option.some Jvm.ClassFile.FieldType.boolean) :: lw_ok) rm_LA_isFull 0 0 0 := ⟨(callB_of 0 hts (ok_in in_489) rfl rfl rfl (hts _ in_5) (hts _ in_486) (by decide +kernel) hR), hts _ in_487, hts _ in_488⟩
theorem cw_LK_179 (hts : ∀ w ∈ lw_ok, w.before args s = true) (hR : rm_LK_join.frames + 1 ≤ R.frames ∧ 8 + (4 + 11) + rm_LK_join.locals ≤ R.locals) : CallW R s args "LakeRelief$Lakes" "LakeRelief$Lakes" 179 y_LK_join prog_3_method_22_code 4 (Option.none : Option Jvm.ClassFile.FieldType) (Cond.code y_LK_join prog_3_method_22_code 4 (Option.none : Option Jvm.ClassFile.FieldType) :: lw_ok) rm_LK_join 0 0 3 := ⟨(callB_of 3 hts (ok_in in_493) rfl rfl rfl (hts _ in_4) (hts _ in_490) (by decide +kernel) hR), hts _ in_492, hts _ sp_27⟩
theorem cw_LK_183 (hts : ∀ w ∈ lw_ok, w.before args s = true) (hR : rm_LA_vanish.frames + 1 ≤ R.frames ∧ 8 + (1 + 11) + rm_LA_vanish.locals ≤ R.locals) : CallW R s args "LakeRelief$Lakes" "LakeRelief$Lake" 183 y_LA_vanish prog_2_method_7_code 1 (Option.none : Option Jvm.ClassFile.FieldType) (Cond.code y_LA_vanish prog_2_method_7_code 1 (Option.none : Option Jvm.ClassFile.FieldType) :: lw_ok) rm_LA_vanish 0 0 0 := ⟨(callB_of 0 hts (ok_in in_497) rfl rfl rfl (hts _ in_5) (hts _ in_494) (by decide +kernel) hR), hts _ in_495, hts _ in_496⟩
theorem cw_RE_47 (hts : ∀ w ∈ lw_ok, w.before args s = true) (hG : Geo D adr cA s) (hR : rm_LR_only.frames + 1 ≤ R.frames ∧ 8 + (1 + 11) + rm_LR_only.locals ≤ R.locals) : va_CN R s args "LakeRelief$Relief" 47 y_LR_only "LakeRelief" prog_1_method_25_code 1 (Option.some Jvm.ClassFile.FieldType.long) (Cond.code y_LR_only prog_1_method_25_code 1 (Option.some Jvm.ClassFile.FieldType.long) :: lw_ok) rm_LR_only 0 0 1 ∧ (Cond.static y_LR_only).before args s = true ∧ True := ⟨va_cnB 1 hts (ok_in in_258) rfl rfl rfl (hG.2.2.1) (hts _ in_1) (by decide +kernel) hR, hts _ in_257, trivial⟩
theorem cw_RE_51 (hts : ∀ w ∈ lw_ok, w.before args s = true) (hR : rm_RE_findNeighbours.frames + 1 ≤ R.frames ∧ 8 + (4 + 11) + rm_RE_findNeighbours.locals ≤ R.locals) : CallW R s args "LakeRelief$Relief" "LakeRelief$Relief" 51 y_RE_findNeighbours prog_4_method_8_code 4 (Option.none : Option Jvm.ClassFile.FieldType) (Cond.code y_RE_findNeighbours prog_4_method_8_code 4 (Option.none : Option Jvm.ClassFile.FieldType) :: lw_ok) rm_RE_findNeighbours 0 0 0 := ⟨(callB_of 0 hts (ok_in in_266) rfl rfl rfl (hts _ in_3) (hts _ in_263) (by decide +kernel) hR), hts _ in_265, hts _ sp_3⟩
theorem cw_RE_54 (hts : ∀ w ∈ lw_ok, w.before args s = true) (hR : rm_RE_sortLand.frames + 1 ≤ R.frames ∧ 8 + (2 + 11) + rm_RE_sortLand.locals ≤ R.locals) : CallW R s args "LakeRelief$Relief" "LakeRelief$Relief" 54 y_RE_sortLand prog_4_method_10_code 2 (Option.none : Option Jvm.ClassFile.FieldType) (Cond.code y_RE_sortLand prog_4_method_10_code 2 (Option.none : Option Jvm.ClassFile.FieldType) :: lw_ok) rm_RE_sortLand 0 0 0 := ⟨(callB_of 0 hts (ok_in in_285) rfl rfl rfl (hts _ in_3) (hts _ in_282) (by decide +kernel) hR), hts _ in_284, hts _ sp_5⟩
theorem cw_RE_57 (hts : ∀ w ∈ lw_ok, w.before args s = true) (hR : rm_RE_findWays.frames + 1 ≤ R.frames ∧ 8 + (4 + 11) + rm_RE_findWays.locals ≤ R.locals) : CallW R s args "LakeRelief$Relief" "LakeRelief$Relief" 57 y_RE_findWays prog_4_method_15_code 4 (Option.none : Option Jvm.ClassFile.FieldType) (Cond.code y_RE_findWays prog_4_method_15_code 4 (Option.none : Option Jvm.ClassFile.FieldType) :: lw_ok) rm_RE_findWays 0 0 0 := ⟨(callB_of 0 hts (ok_in in_297) rfl rfl rfl (hts _ in_3) (hts _ in_294) (by decide +kernel) hR), hts _ in_296, hts _ sp_8⟩
theorem cw_RE_60 (hts : ∀ w ∈ lw_ok, w.before args s = true) (hR : rm_RE_findFills.frames + 1 ≤ R.frames ∧ 8 + (3 + 11) + rm_RE_findFills.locals ≤ R.locals) : CallW R s args "LakeRelief$Relief" "LakeRelief$Relief" 60 y_RE_findFills prog_4_method_17_code 3 (Option.none : Option Jvm.ClassFile.FieldType) (Cond.code y_RE_findFills prog_4_method_17_code 3 (Option.none : Option Jvm.ClassFile.FieldType) :: lw_ok) rm_RE_findFills 0 0 0 := ⟨(callB_of 0 hts (ok_in in_317) rfl rfl rfl (hts _ in_3) (hts _ in_314) (by decide +kernel) hR), hts _ in_316, hts _ sp_10⟩
theorem cw_RE_63 (hts : ∀ w ∈ lw_ok, w.before args s = true) (hR : rm_RE_isField.frames + 1 ≤ R.frames ∧ 8 + (2 + 11) + rm_RE_isField.locals ≤ R.locals) : CallW R s args "LakeRelief$Relief" "LakeRelief$Relief" 63 y_RE_isField prog_4_method_5_code 2 (Option.some Jvm.ClassFile.FieldType.boolean) (Cond.code y_RE_isField prog_4_method_5_code 2 (Option.some Jvm.ClassFile.FieldType.boolean) :: lw_ok) rm_RE_isField 0 0 1 := ⟨(callB_of 1 hts (ok_in in_278) rfl rfl rfl (hts _ in_3) (hts _ in_275) (by decide +kernel) hR), hts _ in_276, hts _ in_277⟩
theorem cw_RE_67 (hts : ∀ w ∈ lw_ok, w.before args s = true) (hG : Geo D adr cA s) (hR : rm_LR_isIn.frames + 1 ≤ R.frames ∧ 8 + (3 + 11) + rm_LR_isIn.locals ≤ R.locals) : va_CN R s args "LakeRelief$Relief" 67 y_LR_isIn "LakeRelief" prog_1_method_24_code 3 (Option.some Jvm.ClassFile.FieldType.boolean) (Cond.code y_LR_isIn prog_1_method_24_code 3 (Option.some Jvm.ClassFile.FieldType.boolean) :: lw_ok) rm_LR_isIn 0 0 2 ∧ (Cond.static y_LR_isIn).before args s = true ∧ True := ⟨va_cnB 2 hts (ok_in in_281) rfl rfl rfl (hG.2.2.2.1) (hts _ in_1) (by decide +kernel) hR, hts _ in_280, trivial⟩
theorem cw_RE_71 (hts : ∀ w ∈ lw_ok, w.before args s = true) (hR : rm_RE_landOrSea.frames + 1 ≤ R.frames ∧ 8 + (2 + 11) + rm_RE_landOrSea.locals ≤ R.locals) : CallW R s args "LakeRelief$Relief" "LakeRelief$Relief" 71 y_RE_landOrSea prog_4_method_9_code 2 (Option.some Jvm.ClassFile.FieldType.int) (Cond.code y_RE_landOrSea prog_4_method_9_code 2 (Option.some Jvm.ClassFile.FieldType.int) :: lw_ok) rm_RE_landOrSea 0 0 1 := ⟨(callB_of 1 hts (ok_in in_270) rfl rfl rfl (hts _ in_3) (hts _ in_267) (by decide +kernel) hR), hts _ in_269, hts _ sp_4⟩
theorem cw_RE_75 (hts : ∀ w ∈ lw_ok, w.before args s = true) (hR : rm_RE_isLand.frames + 1 ≤ R.frames ∧ 8 + (2 + 11) + rm_RE_isLand.locals ≤ R.locals) : CallW R s args "LakeRelief$Relief" "LakeRelief$Relief" 75 y_RE_isLand prog_4_method_6_code 2 (Option.some Jvm.ClassFile.FieldType.boolean) (Cond.code y_RE_isLand prog_4_method_6_code 2 (Option.some Jvm.ClassFile.FieldType.boolean) :: lw_ok) rm_RE_isLand 0 0 1 := ⟨(callB_of 1 hts (ok_in in_274) rfl rfl rfl (hts _ in_3) (hts _ in_271) (by decide +kernel) hR), hts _ in_272, hts _ in_273⟩
theorem cw_RE_78 (hts : ∀ w ∈ lw_ok, w.before args s = true) (hR : rm_RE_insertByHeight.frames + 1 ≤ R.frames ∧ 8 + (4 + 11) + rm_RE_insertByHeight.locals ≤ R.locals) : CallW R s args "LakeRelief$Relief" "LakeRelief$Relief" 78 y_RE_insertByHeight prog_4_method_11_code 4 (Option.none : Option Jvm.ClassFile.FieldType) (Cond.code y_RE_insertByHeight prog_4_method_11_code 4 (Option.none : Option Jvm.ClassFile.FieldType) :: lw_ok) rm_RE_insertByHeight 0 0 2 := ⟨(callB_of 2 hts (ok_in in_289) rfl rfl rfl (hts _ in_3) (hts _ in_286) (by decide +kernel) hR), hts _ in_288, hts _ sp_6⟩
theorem cw_RE_82 (hts : ∀ w ∈ lw_ok, w.before args s = true) (hR : rm_RE_isLower.frames + 1 ≤ R.frames ∧ 8 + (3 + 11) + rm_RE_isLower.locals ≤ R.locals) : CallW R s args "LakeRelief$Relief" "LakeRelief$Relief" 82 y_RE_isLower prog_4_method_7_code 3 (Option.some Jvm.ClassFile.FieldType.boolean) (Cond.code y_RE_isLower prog_4_method_7_code 3 (Option.some Jvm.ClassFile.FieldType.boolean) :: lw_ok) rm_RE_isLower 0 0 2 := ⟨(callB_of 2 hts (ok_in in_293) rfl rfl rfl (hts _ in_3) (hts _ in_290) (by decide +kernel) hR), hts _ in_292, hts _ sp_7⟩
theorem cw_RE_86 (hts : ∀ w ∈ lw_ok, w.before args s = true) (hR : rm_RE_beside.frames + 1 ≤ R.frames ∧ 8 + (3 + 11) + rm_RE_beside.locals ≤ R.locals) : CallW R s args "LakeRelief$Relief" "LakeRelief$Relief" 86 y_RE_beside prog_4_method_12_code 3 (Option.some Jvm.ClassFile.FieldType.int) (Cond.code y_RE_beside prog_4_method_12_code 3 (Option.some Jvm.ClassFile.FieldType.int) :: lw_ok) rm_RE_beside 0 0 2 := ⟨(callB_of 2 hts (ok_in in_309) rfl rfl rfl (hts _ in_3) (hts _ in_306) (by decide +kernel) hR), hts _ in_307, hts _ in_308⟩
theorem cw_RE_90 (hts : ∀ w ∈ lw_ok, w.before args s = true) (hR : rm_RE_downOf.frames + 1 ≤ R.frames ∧ 8 + (3 + 11) + rm_RE_downOf.locals ≤ R.locals) : CallW R s args "LakeRelief$Relief" "LakeRelief$Relief" 90 y_RE_downOf prog_4_method_16_code 3 (Option.some Jvm.ClassFile.FieldType.int) (Cond.code y_RE_downOf prog_4_method_16_code 3 (Option.some Jvm.ClassFile.FieldType.int) :: lw_ok) rm_RE_downOf 0 0 1 := ⟨(callB_of 1 hts (ok_in in_301) rfl rfl rfl (hts _ in_3) (hts _ in_298) (by decide +kernel) hR), hts _ in_300, hts _ sp_9⟩
theorem cw_RE_93 (hts : ∀ w ∈ lw_ok, w.before args s = true) (hR : rm_RE_isBesideSea.frames + 1 ≤ R.frames ∧ 8 + (3 + 11) + rm_RE_isBesideSea.locals ≤ R.locals) : CallW R s args "LakeRelief$Relief" "LakeRelief$Relief" 93 y_RE_isBesideSea prog_4_method_13_code 3 (Option.some Jvm.ClassFile.FieldType.boolean) (Cond.code y_RE_isBesideSea prog_4_method_13_code 3 (Option.some Jvm.ClassFile.FieldType.boolean) :: lw_ok) rm_RE_isBesideSea 0 0 1 := ⟨(callB_of 1 hts (ok_in in_305) rfl rfl rfl (hts _ in_3) (hts _ in_302) (by decide +kernel) hR), hts _ in_303, hts _ in_304⟩
theorem cw_RE_96 (hts : ∀ w ∈ lw_ok, w.before args s = true) (hR : rm_RE_lowestBeside.frames + 1 ≤ R.frames ∧ 8 + (7 + 11) + rm_RE_lowestBeside.locals ≤ R.locals) : CallW R s args "LakeRelief$Relief" "LakeRelief$Relief" 96 y_RE_lowestBeside prog_4_method_14_code 7 (Option.some Jvm.ClassFile.FieldType.int) (Cond.code y_RE_lowestBeside prog_4_method_14_code 7 (Option.some Jvm.ClassFile.FieldType.int) :: lw_ok) rm_RE_lowestBeside 0 0 2 := ⟨(callB_of 2 hts (ok_in in_313) rfl rfl rfl (hts _ in_3) (hts _ in_310) (by decide +kernel) hR), hts _ in_311, hts _ in_312⟩
theorem cw_RE_101 (hts : ∀ w ∈ lw_ok, w.before args s = true) (hR : rm_RE_lowerFills.frames + 1 ≤ R.frames ∧ 8 + (5 + 11) + rm_RE_lowerFills.locals ≤ R.locals) : CallW R s args "LakeRelief$Relief" "LakeRelief$Relief" 101 y_RE_lowerFills prog_4_method_18_code 5 (Option.some Jvm.ClassFile.FieldType.boolean) (Cond.code y_RE_lowerFills prog_4_method_18_code 5 (Option.some Jvm.ClassFile.FieldType.boolean) :: lw_ok) rm_RE_lowerFills 0 0 0 := ⟨(callB_of 0 hts (ok_in in_322) rfl rfl rfl (hts _ in_3) (hts _ in_319) (by decide +kernel) hR), hts _ in_321, hts _ sp_11⟩
theorem cw_RE_105 (hts : ∀ w ∈ lw_ok, w.before args s = true) (hR : rm_RE_leastFillBeside.frames + 1 ≤ R.frames ∧ 8 + (5 + 11) + rm_RE_leastFillBeside.locals ≤ R.locals) : CallW R s args "LakeRelief$Relief" "LakeRelief$Relief" 105 y_RE_leastFillBeside prog_4_method_19_code 5 (Option.some Jvm.ClassFile.FieldType.int) (Cond.code y_RE_leastFillBeside prog_4_method_19_code 5 (Option.some Jvm.ClassFile.FieldType.int) :: lw_ok) rm_RE_leastFillBeside 0 0 1 := ⟨(callB_of 1 hts (ok_in in_326) rfl rfl rfl (hts _ in_3) (hts _ in_323) (by decide +kernel) hR), hts _ in_325, hts _ sp_12⟩
theorem cw_RE_117 (hts : ∀ w ∈ lw_ok, w.before args s = true) (hR : rm_RE_isHollow.frames + 1 ≤ R.frames ∧ 8 + (2 + 11) + rm_RE_isHollow.locals ≤ R.locals) : CallW R s args "LakeRelief$Relief" "LakeRelief$Relief" 117 y_RE_isHollow prog_4_method_20_code 2 (Option.some Jvm.ClassFile.FieldType.boolean) (Cond.code y_RE_isHollow prog_4_method_20_code 2 (Option.some Jvm.ClassFile.FieldType.boolean) :: lw_ok) rm_RE_isHollow 0 0 1 := ⟨(callB_of 1 hts (ok_in in_420) rfl rfl rfl (hts _ in_3) (hts _ in_417) (by decide +kernel) hR), hts _ in_419, hts _ sp_22⟩
theorem cw_RE_123 (hts : ∀ w ∈ lw_ok, w.before args s = true) (hR : rm_RE_greatestDivisor.frames + 1 ≤ R.frames ∧ 8 + (6 + 11) + rm_RE_greatestDivisor.locals ≤ R.locals) : CallB R s args "LakeRelief$Relief" 123 y_RE_greatestDivisor prog_4_method_27_code 6 (Option.some Jvm.ClassFile.FieldType.int) (Cond.code y_RE_greatestDivisor prog_4_method_27_code 6 (Option.some Jvm.ClassFile.FieldType.int) :: lw_ok) rm_RE_greatestDivisor 0 0 2 ∧ (Cond.static y_RE_greatestDivisor).before args s = true := ⟨(callB_of 2 hts (ok_in in_511) rfl rfl rfl (hts _ in_3) (hts _ in_509) (by decide +kernel) hR), hts _ in_510⟩
theorem cw_RE_126 (hts : ∀ w ∈ lw_ok, w.before args s = true) (hR : rm_RE_withoutPieceAt.frames + 1 ≤ R.frames ∧ 8 + (10 + 11) + rm_RE_withoutPieceAt.locals ≤ R.locals) : CallW R s args "LakeRelief$Relief" "LakeRelief$Relief" 126 y_RE_withoutPieceAt prog_4_method_30_code 10 (Option.some Jvm.ClassFile.FieldType.long) (Cond.code y_RE_withoutPieceAt prog_4_method_30_code 10 (Option.some Jvm.ClassFile.FieldType.long) :: lw_ok) rm_RE_withoutPieceAt 0 0 2 := ⟨(callB_of 2 hts (ok_in in_535) rfl rfl rfl (hts _ in_3) (hts _ in_532) (by decide +kernel) hR), hts _ in_534, hts _ sp_28⟩
theorem cw_LG_13 (hts : ∀ w ∈ lw_ok, w.before args s = true) (hR : rm_LR_strip.frames + 1 ≤ R.frames ∧ 8 + (4 + 11) + rm_LR_strip.locals ≤ R.locals) : CallW R s args "LakeReliefLaw" "LakeRelief" 13 y_LR_strip prog_1_method_2_code 4 (Option.some Jvm.ClassFile.FieldType.int) (Cond.code y_LR_strip prog_1_method_2_code 4 (Option.some Jvm.ClassFile.FieldType.int) :: lw_ok) rm_LR_strip 0 0 3 := ⟨(callB_of 3 hts (ok_in in_191) rfl rfl rfl (hts _ in_1) (hts _ in_188) (by decide +kernel) hR), hts _ in_189, hts _ in_190⟩
theorem cw_LG_17 (hts : ∀ w ∈ lw_ok, w.before args s = true) (hR : rm_MO_strip.frames + 1 ≤ R.frames ∧ 8 + (5 + 11) + rm_MO_strip.locals ≤ R.locals) : CallW R s args "LakeReliefLaw" "LakeReliefModel" 17 y_MO_strip prog_7_method_4_code 5 (Option.some Jvm.ClassFile.FieldType.int) (Cond.code y_MO_strip prog_7_method_4_code 5 (Option.some Jvm.ClassFile.FieldType.int) :: lw_ok) rm_MO_strip 0 0 3 := ⟨(callB_of 3 hts (ok_in in_654) rfl rfl rfl (hts _ in_7) (hts _ in_651) (by decide +kernel) hR), hts _ in_652, hts _ in_653⟩
theorem cw_LG_18 (hts : ∀ w ∈ lw_ok, w.before args s = true) (hR : rm_LR_put.frames + 1 ≤ R.frames ∧ 8 + (5 + 11) + rm_LR_put.locals ≤ R.locals) : CallW R s args "LakeReliefLaw" "LakeRelief" 18 y_LR_put prog_1_method_3_code 5 (Option.some Jvm.ClassFile.FieldType.int) (Cond.code y_LR_put prog_1_method_3_code 5 (Option.some Jvm.ClassFile.FieldType.int) :: lw_ok) rm_LR_put 0 0 3 := ⟨(callB_of 3 hts (ok_in in_202) rfl rfl rfl (hts _ in_1) (hts _ in_199) (by decide +kernel) hR), hts _ in_200, hts _ in_201⟩
theorem cw_LG_21 (hts : ∀ w ∈ lw_ok, w.before args s = true) (hR : rm_MO_put.frames + 1 ≤ R.frames ∧ 8 + (5 + 11) + rm_MO_put.locals ≤ R.locals) : CallW R s args "LakeReliefLaw" "LakeReliefModel" 21 y_MO_put prog_7_method_6_code 5 (Option.some Jvm.ClassFile.FieldType.int) (Cond.code y_MO_put prog_7_method_6_code 5 (Option.some Jvm.ClassFile.FieldType.int) :: lw_ok) rm_MO_put 0 0 3 := ⟨(callB_of 3 hts (ok_in in_667) rfl rfl rfl (hts _ in_7) (hts _ in_664) (by decide +kernel) hR), hts _ in_665, hts _ in_666⟩
theorem cw_LG_22 (hts : ∀ w ∈ lw_ok, w.before args s = true) (hR : rm_LR_copy.frames + 1 ≤ R.frames ∧ 8 + (8 + 11) + rm_LR_copy.locals ≤ R.locals) : CallW R s args "LakeReliefLaw" "LakeRelief" 22 y_LR_copy prog_1_method_4_code 8 (Option.some Jvm.ClassFile.FieldType.int) (Cond.code y_LR_copy prog_1_method_4_code 8 (Option.some Jvm.ClassFile.FieldType.int) :: lw_ok) rm_LR_copy 0 0 5 := ⟨(callB_of 5 hts (ok_in in_218) rfl rfl rfl (hts _ in_1) (hts _ in_215) (by decide +kernel) hR), hts _ in_216, hts _ in_217⟩
theorem cw_LG_26 (hts : ∀ w ∈ lw_ok, w.before args s = true) (hR : rm_MO_copy.frames + 1 ≤ R.frames ∧ 8 + (7 + 11) + rm_MO_copy.locals ≤ R.locals) : CallW R s args "LakeReliefLaw" "LakeReliefModel" 26 y_MO_copy prog_7_method_7_code 7 (Option.some Jvm.ClassFile.FieldType.int) (Cond.code y_MO_copy prog_7_method_7_code 7 (Option.some Jvm.ClassFile.FieldType.int) :: lw_ok) rm_MO_copy 0 0 5 := ⟨(callB_of 5 hts (ok_in in_675) rfl rfl rfl (hts _ in_7) (hts _ in_672) (by decide +kernel) hR), hts _ in_673, hts _ in_674⟩
theorem cw_LG_27 (hts : ∀ w ∈ lw_ok, w.before args s = true) (hR : rm_LR_told.frames + 1 ≤ R.frames ∧ 8 + (4 + 11) + rm_LR_told.locals ≤ R.locals) : CallW R s args "LakeReliefLaw" "LakeRelief" 27 y_LR_told prog_1_method_5_code 4 (Option.some Jvm.ClassFile.FieldType.long) (Cond.code y_LR_told prog_1_method_5_code 4 (Option.some Jvm.ClassFile.FieldType.long) :: lw_ok) rm_LR_told 0 0 2 := ⟨(callB_of 2 hts (ok_in in_229) rfl rfl rfl (hts _ in_1) (hts _ in_226) (by decide +kernel) hR), hts _ in_227, hts _ in_228⟩
theorem cw_LG_31 (hts : ∀ w ∈ lw_ok, w.before args s = true) (hR : rm_MO_told.frames + 1 ≤ R.frames ∧ 8 + (4 + 11) + rm_MO_told.locals ≤ R.locals) : CallW R s args "LakeReliefLaw" "LakeReliefModel" 31 y_MO_told prog_7_method_8_code 4 (Option.some Jvm.ClassFile.FieldType.long) (Cond.code y_MO_told prog_7_method_8_code 4 (Option.some Jvm.ClassFile.FieldType.long) :: lw_ok) rm_MO_told 0 0 2 := ⟨(callB_of 2 hts (ok_in in_679) rfl rfl rfl (hts _ in_7) (hts _ in_676) (by decide +kernel) hR), hts _ in_677, hts _ in_678⟩
theorem cw_LG_32 (hts : ∀ w ∈ lw_ok, w.before args s = true) (hR : rm_LR_lay.frames + 1 ≤ R.frames ∧ 8 + (4 + 11) + rm_LR_lay.locals ≤ R.locals) : CallW R s args "LakeReliefLaw" "LakeRelief" 32 y_LR_lay prog_1_method_6_code 4 (Option.some Jvm.ClassFile.FieldType.int) (Cond.code y_LR_lay prog_1_method_6_code 4 (Option.some Jvm.ClassFile.FieldType.int) :: lw_ok) rm_LR_lay 0 0 2 := ⟨(callB_of 2 hts (ok_in in_234) rfl rfl rfl (hts _ in_1) (hts _ in_231) (by decide +kernel) hR), hts _ in_232, hts _ in_233⟩
theorem cw_LG_36 (hts : ∀ w ∈ lw_ok, w.before args s = true) (hR : rm_MO_lay.frames + 1 ≤ R.frames ∧ 8 + (5 + 11) + rm_MO_lay.locals ≤ R.locals) : CallW R s args "LakeReliefLaw" "LakeReliefModel" 36 y_MO_lay prog_7_method_24_code 5 (Option.some Jvm.ClassFile.FieldType.int) (Cond.code y_MO_lay prog_7_method_24_code 5 (Option.some Jvm.ClassFile.FieldType.int) :: lw_ok) rm_MO_lay 0 0 2 := ⟨(callB_of 2 hts (ok_in in_684) rfl rfl rfl (hts _ in_7) (hts _ in_681) (by decide +kernel) hR), hts _ in_682, hts _ in_683⟩
theorem cw_LG_37 (hts : ∀ w ∈ lw_ok, w.before args s = true) (hR : rm_LR_field.frames + 1 ≤ R.frames ∧ 8 + (3 + 11) + rm_LR_field.locals ≤ R.locals) : CallW R s args "LakeReliefLaw" "LakeRelief" 37 y_LR_field prog_1_method_7_code 3 (Option.some Jvm.ClassFile.FieldType.int) (Cond.code y_LR_field prog_1_method_7_code 3 (Option.some Jvm.ClassFile.FieldType.int) :: lw_ok) rm_LR_field 0 0 2 := ⟨(callB_of 2 hts (ok_in in_400) rfl rfl rfl (hts _ in_1) (hts _ in_397) (by decide +kernel) hR), hts _ in_398, hts _ in_399⟩
theorem cw_LG_40 (hts : ∀ w ∈ lw_ok, w.before args s = true) (hR : rm_MO_field.frames + 1 ≤ R.frames ∧ 8 + (3 + 11) + rm_MO_field.locals ≤ R.locals) : CallW R s args "LakeReliefLaw" "LakeReliefModel" 40 y_MO_field prog_7_method_28_code 3 (Option.some Jvm.ClassFile.FieldType.int) (Cond.code y_MO_field prog_7_method_28_code 3 (Option.some Jvm.ClassFile.FieldType.int) :: lw_ok) rm_MO_field 0 0 2 := ⟨(callB_of 2 hts (ok_in in_752) rfl rfl rfl (hts _ in_7) (hts _ in_749) (by decide +kernel) hR), hts _ in_750, hts _ in_751⟩
theorem cw_LG_41 (hts : ∀ w ∈ lw_ok, w.before args s = true) (hR : rm_LR_hollow.frames + 1 ≤ R.frames ∧ 8 + (2 + 11) + rm_LR_hollow.locals ≤ R.locals) : CallW R s args "LakeReliefLaw" "LakeRelief" 41 y_LR_hollow prog_1_method_8_code 2 (Option.some Jvm.ClassFile.FieldType.int) (Cond.code y_LR_hollow prog_1_method_8_code 2 (Option.some Jvm.ClassFile.FieldType.int) :: lw_ok) rm_LR_hollow 0 0 1 := ⟨(callB_of 1 hts (ok_in in_412) rfl rfl rfl (hts _ in_1) (hts _ in_409) (by decide +kernel) hR), hts _ in_410, hts _ in_411⟩
theorem cw_LG_45 (hts : ∀ w ∈ lw_ok, w.before args s = true) (hR : rm_MO_hollow.frames + 1 ≤ R.frames ∧ 8 + (4 + 11) + rm_MO_hollow.locals ≤ R.locals) : CallW R s args "LakeReliefLaw" "LakeReliefModel" 45 y_MO_hollow prog_7_method_29_code 4 (Option.some Jvm.ClassFile.FieldType.int) (Cond.code y_MO_hollow prog_7_method_29_code 4 (Option.some Jvm.ClassFile.FieldType.int) :: lw_ok) rm_MO_hollow 0 0 1 := ⟨(callB_of 1 hts (ok_in in_771) rfl rfl rfl (hts _ in_7) (hts _ in_768) (by decide +kernel) hR), hts _ in_769, hts _ in_770⟩
theorem cw_LG_46 (hts : ∀ w ∈ lw_ok, w.before args s = true) (hR : rm_LR_lake.frames + 1 ≤ R.frames ∧ 8 + (4 + 11) + rm_LR_lake.locals ≤ R.locals) : CallW R s args "LakeReliefLaw" "LakeRelief" 46 y_LR_lake prog_1_method_9_code 4 (Option.some Jvm.ClassFile.FieldType.int) (Cond.code y_LR_lake prog_1_method_9_code 4 (Option.some Jvm.ClassFile.FieldType.int) :: lw_ok) rm_LR_lake 0 0 2 := ⟨(callB_of 2 hts (ok_in in_424) rfl rfl rfl (hts _ in_1) (hts _ in_421) (by decide +kernel) hR), hts _ in_422, hts _ in_423⟩
theorem cw_LG_49 (hts : ∀ w ∈ lw_ok, w.before args s = true) (hR : rm_MO_lake.frames + 1 ≤ R.frames ∧ 8 + (3 + 11) + rm_MO_lake.locals ≤ R.locals) : CallW R s args "LakeReliefLaw" "LakeReliefModel" 49 y_MO_lake prog_7_method_35_code 3 (Option.some Jvm.ClassFile.FieldType.int) (Cond.code y_MO_lake prog_7_method_35_code 3 (Option.some Jvm.ClassFile.FieldType.int) :: lw_ok) rm_MO_lake 0 0 2 := ⟨(callB_of 2 hts (ok_in in_775) rfl rfl rfl (hts _ in_7) (hts _ in_772) (by decide +kernel) hR), hts _ in_773, hts _ in_774⟩
theorem cw_LG_50 (hts : ∀ w ∈ lw_ok, w.before args s = true) (hR : rm_LR_ground.frames + 1 ≤ R.frames ∧ 8 + (3 + 11) + rm_LR_ground.locals ≤ R.locals) : CallW R s args "LakeReliefLaw" "LakeRelief" 50 y_LR_ground prog_1_method_10_code 3 (Option.some Jvm.ClassFile.FieldType.int) (Cond.code y_LR_ground prog_1_method_10_code 3 (Option.some Jvm.ClassFile.FieldType.int) :: lw_ok) rm_LR_ground 0 0 2 := ⟨(callB_of 2 hts (ok_in in_440) rfl rfl rfl (hts _ in_1) (hts _ in_437) (by decide +kernel) hR), hts _ in_438, hts _ in_439⟩
theorem cw_LG_53 (hts : ∀ w ∈ lw_ok, w.before args s = true) (hR : rm_MO_ground.frames + 1 ≤ R.frames ∧ 8 + (3 + 11) + rm_MO_ground.locals ≤ R.locals) : CallW R s args "LakeReliefLaw" "LakeReliefModel" 53 y_MO_ground prog_7_method_36_code 3 (Option.some Jvm.ClassFile.FieldType.int) (Cond.code y_MO_ground prog_7_method_36_code 3 (Option.some Jvm.ClassFile.FieldType.int) :: lw_ok) rm_MO_ground 0 0 2 := ⟨(callB_of 2 hts (ok_in in_800) rfl rfl rfl (hts _ in_7) (hts _ in_797) (by decide +kernel) hR), hts _ in_798, hts _ in_799⟩
theorem cw_LG_54 (hts : ∀ w ∈ lw_ok, w.before args s = true) (hR : rm_LR_holds.frames + 1 ≤ R.frames ∧ 8 + (3 + 11) + rm_LR_holds.locals ≤ R.locals) : CallW R s args "LakeReliefLaw" "LakeRelief" 54 y_LR_holds prog_1_method_11_code 3 (Option.some Jvm.ClassFile.FieldType.int) (Cond.code y_LR_holds prog_1_method_11_code 3 (Option.some Jvm.ClassFile.FieldType.int) :: lw_ok) rm_LR_holds 0 0 2 := ⟨(callB_of 2 hts (ok_in in_445) rfl rfl rfl (hts _ in_1) (hts _ in_442) (by decide +kernel) hR), hts _ in_443, hts _ in_444⟩
theorem cw_LG_57 (hts : ∀ w ∈ lw_ok, w.before args s = true) (hR : rm_MO_holds.frames + 1 ≤ R.frames ∧ 8 + (4 + 11) + rm_MO_holds.locals ≤ R.locals) : CallW R s args "LakeReliefLaw" "LakeReliefModel" 57 y_MO_holds prog_7_method_38_code 4 (Option.some Jvm.ClassFile.FieldType.int) (Cond.code y_MO_holds prog_7_method_38_code 4 (Option.some Jvm.ClassFile.FieldType.int) :: lw_ok) rm_MO_holds 0 0 2 := ⟨(callB_of 2 hts (ok_in in_804) rfl rfl rfl (hts _ in_7) (hts _ in_801) (by decide +kernel) hR), hts _ in_802, hts _ in_803⟩
theorem cw_LG_58 (hts : ∀ w ∈ lw_ok, w.before args s = true) (hR : rm_LR_area.frames + 1 ≤ R.frames ∧ 8 + (3 + 11) + rm_LR_area.locals ≤ R.locals) : CallW R s args "LakeReliefLaw" "LakeRelief" 58 y_LR_area prog_1_method_12_code 3 (Option.some Jvm.ClassFile.FieldType.int) (Cond.code y_LR_area prog_1_method_12_code 3 (Option.some Jvm.ClassFile.FieldType.int) :: lw_ok) rm_LR_area 0 0 2 := ⟨(callB_of 2 hts (ok_in in_455) rfl rfl rfl (hts _ in_1) (hts _ in_452) (by decide +kernel) hR), hts _ in_453, hts _ in_454⟩
theorem cw_LG_61 (hts : ∀ w ∈ lw_ok, w.before args s = true) (hR : rm_MO_area.frames + 1 ≤ R.frames ∧ 8 + (6 + 11) + rm_MO_area.locals ≤ R.locals) : CallW R s args "LakeReliefLaw" "LakeReliefModel" 61 y_MO_area prog_7_method_39_code 6 (Option.some Jvm.ClassFile.FieldType.int) (Cond.code y_MO_area prog_7_method_39_code 6 (Option.some Jvm.ClassFile.FieldType.int) :: lw_ok) rm_MO_area 0 0 2 := ⟨(callB_of 2 hts (ok_in in_813) rfl rfl rfl (hts _ in_7) (hts _ in_810) (by decide +kernel) hR), hts _ in_811, hts _ in_812⟩
theorem cw_LG_62 (hts : ∀ w ∈ lw_ok, w.before args s = true) (hR : rm_LR_pour.frames + 1 ≤ R.frames ∧ 8 + (3 + 11) + rm_LR_pour.locals ≤ R.locals) : CallW R s args "LakeReliefLaw" "LakeRelief" 62 y_LR_pour prog_1_method_13_code 3 (Option.some Jvm.ClassFile.FieldType.int) (Cond.code y_LR_pour prog_1_method_13_code 3 (Option.some Jvm.ClassFile.FieldType.int) :: lw_ok) rm_LR_pour 0 0 2 := ⟨(callB_of 2 hts (ok_in in_463) rfl rfl rfl (hts _ in_1) (hts _ in_460) (by decide +kernel) hR), hts _ in_461, hts _ in_462⟩
theorem cw_LG_65 (hts : ∀ w ∈ lw_ok, w.before args s = true) (hR : rm_MO_pour.frames + 1 ≤ R.frames ∧ 8 + (11 + 11) + rm_MO_pour.locals ≤ R.locals) : CallW R s args "LakeReliefLaw" "LakeReliefModel" 65 y_MO_pour prog_7_method_41_code 11 (Option.some Jvm.ClassFile.FieldType.int) (Cond.code y_MO_pour prog_7_method_41_code 11 (Option.some Jvm.ClassFile.FieldType.int) :: lw_ok) rm_MO_pour 0 0 2 := ⟨(callB_of 2 hts (ok_in in_817) rfl rfl rfl (hts _ in_7) (hts _ in_814) (by decide +kernel) hR), hts _ in_815, hts _ in_816⟩
theorem cw_LG_66 (hts : ∀ w ∈ lw_ok, w.before args s = true) (hR : rm_LR_level.frames + 1 ≤ R.frames ∧ 8 + (3 + 11) + rm_LR_level.locals ≤ R.locals) : CallW R s args "LakeReliefLaw" "LakeRelief" 66 y_LR_level prog_1_method_14_code 3 (Option.some Jvm.ClassFile.FieldType.int) (Cond.code y_LR_level prog_1_method_14_code 3 (Option.some Jvm.ClassFile.FieldType.int) :: lw_ok) rm_LR_level 0 0 2 := ⟨(callB_of 2 hts (ok_in in_501) rfl rfl rfl (hts _ in_1) (hts _ in_498) (by decide +kernel) hR), hts _ in_499, hts _ in_500⟩
theorem cw_LG_69 (hts : ∀ w ∈ lw_ok, w.before args s = true) (hR : rm_MO_level.frames + 1 ≤ R.frames ∧ 8 + (7 + 11) + rm_MO_level.locals ≤ R.locals) : CallW R s args "LakeReliefLaw" "LakeReliefModel" 69 y_MO_level prog_7_method_44_code 7 (Option.some Jvm.ClassFile.FieldType.int) (Cond.code y_MO_level prog_7_method_44_code 7 (Option.some Jvm.ClassFile.FieldType.int) :: lw_ok) rm_MO_level 0 0 2 := ⟨(callB_of 2 hts (ok_in in_825) rfl rfl rfl (hts _ in_7) (hts _ in_822) (by decide +kernel) hR), hts _ in_823, hts _ in_824⟩
theorem cw_LG_70 (hts : ∀ w ∈ lw_ok, w.before args s = true) (hR : rm_LR_rise.frames + 1 ≤ R.frames ∧ 8 + (2 + 11) + rm_LR_rise.locals ≤ R.locals) : CallW R s args "LakeReliefLaw" "LakeRelief" 70 y_LR_rise prog_1_method_15_code 2 (Option.some Jvm.ClassFile.FieldType.int) (Cond.code y_LR_rise prog_1_method_15_code 2 (Option.some Jvm.ClassFile.FieldType.int) :: lw_ok) rm_LR_rise 0 0 1 := ⟨(callB_of 1 hts (ok_in in_515) rfl rfl rfl (hts _ in_1) (hts _ in_512) (by decide +kernel) hR), hts _ in_513, hts _ in_514⟩
theorem cw_LG_73 (hts : ∀ w ∈ lw_ok, w.before args s = true) (hR : rm_MO_rise.frames + 1 ≤ R.frames ∧ 8 + (4 + 11) + rm_MO_rise.locals ≤ R.locals) : CallW R s args "LakeReliefLaw" "LakeReliefModel" 73 y_MO_rise prog_7_method_45_code 4 (Option.some Jvm.ClassFile.FieldType.int) (Cond.code y_MO_rise prog_7_method_45_code 4 (Option.some Jvm.ClassFile.FieldType.int) :: lw_ok) rm_MO_rise 0 0 1 := ⟨(callB_of 1 hts (ok_in in_836) rfl rfl rfl (hts _ in_7) (hts _ in_833) (by decide +kernel) hR), hts _ in_834, hts _ in_835⟩
theorem cw_LG_74 (hts : ∀ w ∈ lw_ok, w.before args s = true) (hR : rm_LR_islands.frames + 1 ≤ R.frames ∧ 8 + (2 + 11) + rm_LR_islands.locals ≤ R.locals) : CallW R s args "LakeReliefLaw" "LakeRelief" 74 y_LR_islands prog_1_method_16_code 2 (Option.some Jvm.ClassFile.FieldType.int) (Cond.code y_LR_islands prog_1_method_16_code 2 (Option.some Jvm.ClassFile.FieldType.int) :: lw_ok) rm_LR_islands 0 0 1 := ⟨(callB_of 1 hts (ok_in in_527) rfl rfl rfl (hts _ in_1) (hts _ in_524) (by decide +kernel) hR), hts _ in_525, hts _ in_526⟩
theorem cw_LG_77 (hts : ∀ w ∈ lw_ok, w.before args s = true) (hR : rm_MO_islands.frames + 1 ≤ R.frames ∧ 8 + (6 + 11) + rm_MO_islands.locals ≤ R.locals) : CallW R s args "LakeReliefLaw" "LakeReliefModel" 77 y_MO_islands prog_7_method_46_code 6 (Option.some Jvm.ClassFile.FieldType.int) (Cond.code y_MO_islands prog_7_method_46_code 6 (Option.some Jvm.ClassFile.FieldType.int) :: lw_ok) rm_MO_islands 0 0 1 := ⟨(callB_of 1 hts (ok_in in_841) rfl rfl rfl (hts _ in_7) (hts _ in_838) (by decide +kernel) hR), hts _ in_839, hts _ in_840⟩
theorem cw_LG_78 (hts : ∀ w ∈ lw_ok, w.before args s = true) (hR : rm_LR_count.frames + 1 ≤ R.frames ∧ 8 + (2 + 11) + rm_LR_count.locals ≤ R.locals) : CallW R s args "LakeReliefLaw" "LakeRelief" 78 y_LR_count prog_1_method_17_code 2 (Option.some Jvm.ClassFile.FieldType.long) (Cond.code y_LR_count prog_1_method_17_code 2 (Option.some Jvm.ClassFile.FieldType.long) :: lw_ok) rm_LR_count 0 0 1 := ⟨(callB_of 1 hts (ok_in in_540) rfl rfl rfl (hts _ in_1) (hts _ in_537) (by decide +kernel) hR), hts _ in_538, hts _ in_539⟩
theorem cw_LG_82 (hts : ∀ w ∈ lw_ok, w.before args s = true) (hR : rm_MO_count.frames + 1 ≤ R.frames ∧ 8 + (5 + 11) + rm_MO_count.locals ≤ R.locals) : CallW R s args "LakeReliefLaw" "LakeReliefModel" 82 y_MO_count prog_7_method_47_code 5 (Option.some Jvm.ClassFile.FieldType.long) (Cond.code y_MO_count prog_7_method_47_code 5 (Option.some Jvm.ClassFile.FieldType.long) :: lw_ok) rm_MO_count 0 0 1 := ⟨(callB_of 1 hts (ok_in in_845) rfl rfl rfl (hts _ in_7) (hts _ in_842) (by decide +kernel) hR), hts _ in_843, hts _ in_844⟩
theorem cw_MO_80 (hts : ∀ w ∈ lw_ok, w.before args s = true) (hR : rm_MO_in.frames + 1 ≤ R.frames ∧ 8 + (6 + 11) + rm_MO_in.locals ≤ R.locals) : CallB R s args "LakeReliefModel" 80 y_MO_in prog_7_method_2_code 6 (Option.some Jvm.ClassFile.FieldType.boolean) (Cond.code y_MO_in prog_7_method_2_code 6 (Option.some Jvm.ClassFile.FieldType.boolean) :: lw_ok) rm_MO_in 0 0 3 ∧ (Cond.static y_MO_in).before args s = true := ⟨(callB_of 3 hts (ok_in in_661) rfl rfl rfl (hts _ in_7) (hts _ in_659) (by decide +kernel) hR), hts _ in_660⟩
theorem cw_MO_84 (hts : ∀ w ∈ lw_ok, w.before args s = true) (hR : rm_MO_isStrip.frames + 1 ≤ R.frames ∧ 8 + (1 + 11) + rm_MO_isStrip.locals ≤ R.locals) : CallB R s args "LakeReliefModel" 84 y_MO_isStrip prog_7_method_3_code 1 (Option.some Jvm.ClassFile.FieldType.boolean) (Cond.code y_MO_isStrip prog_7_method_3_code 1 (Option.some Jvm.ClassFile.FieldType.boolean) :: lw_ok) rm_MO_isStrip 0 0 1 ∧ (Cond.static y_MO_isStrip).before args s = true := ⟨(callB_of 1 hts (ok_in in_657) rfl rfl rfl (hts _ in_7) (hts _ in_655) (by decide +kernel) hR), hts _ in_656⟩
theorem cw_MO_92 (hts : ∀ w ∈ lw_ok, w.before args s = true) (hR : rm_MO_against.frames + 1 ≤ R.frames ∧ 8 + (3 + 11) + rm_MO_against.locals ≤ R.locals) : CallW R s args "LakeReliefModel" "LakeReliefModel" 92 y_MO_against prog_7_method_5_code 3 (Option.some Jvm.ClassFile.FieldType.int) (Cond.code y_MO_against prog_7_method_5_code 3 (Option.some Jvm.ClassFile.FieldType.int) :: lw_ok) rm_MO_against 0 0 2 := ⟨(callB_of 2 hts (ok_in in_671) rfl rfl rfl (hts _ in_7) (hts _ in_668) (by decide +kernel) hR), hts _ in_670, hts _ sp_29⟩
theorem cw_MO_105 (hts : ∀ w ∈ lw_ok, w.before args s = true) (hR : rm_MO_beside.frames + 1 ≤ R.frames ∧ 8 + (5 + 11) + rm_MO_beside.locals ≤ R.locals) : CallW R s args "LakeReliefModel" "LakeReliefModel" 105 y_MO_beside prog_7_method_9_code 5 (Option.some Jvm.ClassFile.FieldType.int) (Cond.code y_MO_beside prog_7_method_9_code 5 (Option.some Jvm.ClassFile.FieldType.int) :: lw_ok) rm_MO_beside 0 0 2 := ⟨(callB_of 2 hts (ok_in in_703) rfl rfl rfl (hts _ in_7) (hts _ in_700) (by decide +kernel) hR), hts _ in_702, hts _ sp_33⟩
theorem cw_MO_108 (hts : ∀ w ∈ lw_ok, w.before args s = true) (hR : rm_MO_isWet.frames + 1 ≤ R.frames ∧ 8 + (2 + 11) + rm_MO_isWet.locals ≤ R.locals) : CallW R s args "LakeReliefModel" "LakeReliefModel" 108 y_MO_isWet prog_7_method_10_code 2 (Option.some Jvm.ClassFile.FieldType.boolean) (Cond.code y_MO_isWet prog_7_method_10_code 2 (Option.some Jvm.ClassFile.FieldType.boolean) :: lw_ok) rm_MO_isWet 0 0 1 := ⟨(callB_of 1 hts (ok_in in_707) rfl rfl rfl (hts _ in_7) (hts _ in_704) (by decide +kernel) hR), hts _ in_706, hts _ sp_34⟩
theorem cw_MO_111 (hts : ∀ w ∈ lw_ok, w.before args s = true) (hR : rm_MO_isLower.frames + 1 ≤ R.frames ∧ 8 + (3 + 11) + rm_MO_isLower.locals ≤ R.locals) : CallW R s args "LakeReliefModel" "LakeReliefModel" 111 y_MO_isLower prog_7_method_11_code 3 (Option.some Jvm.ClassFile.FieldType.boolean) (Cond.code y_MO_isLower prog_7_method_11_code 3 (Option.some Jvm.ClassFile.FieldType.boolean) :: lw_ok) rm_MO_isLower 0 0 2 := ⟨(callB_of 2 hts (ok_in in_711) rfl rfl rfl (hts _ in_7) (hts _ in_708) (by decide +kernel) hR), hts _ in_710, hts _ sp_35⟩
theorem cw_MO_122 (hts : ∀ w ∈ lw_ok, w.before args s = true) (hR : rm_MO_newLake.frames + 1 ≤ R.frames ∧ 8 + (2 + 11) + rm_MO_newLake.locals ≤ R.locals) : CallW R s args "LakeReliefModel" "LakeReliefModel" 122 y_MO_newLake prog_7_method_15_code 2 (Option.some Jvm.ClassFile.FieldType.int) (Cond.code y_MO_newLake prog_7_method_15_code 2 (Option.some Jvm.ClassFile.FieldType.int) :: lw_ok) rm_MO_newLake 0 0 0 := ⟨(callB_of 0 hts (ok_in in_740) rfl rfl rfl (hts _ in_7) (hts _ in_737) (by decide +kernel) hR), hts _ in_739, hts _ sp_42⟩
theorem cw_MO_126 (hts : ∀ w ∈ lw_ok, w.before args s = true) (hR : rm_MO_becomes.frames + 1 ≤ R.frames ∧ 8 + (4 + 11) + rm_MO_becomes.locals ≤ R.locals) : CallW R s args "LakeReliefModel" "LakeReliefModel" 126 y_MO_becomes prog_7_method_17_code 4 (Option.none : Option Jvm.ClassFile.FieldType) (Cond.code y_MO_becomes prog_7_method_17_code 4 (Option.none : Option Jvm.ClassFile.FieldType) :: lw_ok) rm_MO_becomes 0 0 2 := ⟨(callB_of 2 hts (ok_in in_736) rfl rfl rfl (hts _ in_7) (hts _ in_733) (by decide +kernel) hR), hts _ in_735, hts _ sp_41⟩
theorem cw_MO_130 (hts : ∀ w ∈ lw_ok, w.before args s = true) (hR : rm_MO_lookBeside.frames + 1 ≤ R.frames ∧ 8 + (7 + 11) + rm_MO_lookBeside.locals ≤ R.locals) : CallW R s args "LakeReliefModel" "LakeReliefModel" 130 y_MO_lookBeside prog_7_method_18_code 7 (Option.some Jvm.ClassFile.FieldType.boolean) (Cond.code y_MO_lookBeside prog_7_method_18_code 7 (Option.some Jvm.ClassFile.FieldType.boolean) :: lw_ok) rm_MO_lookBeside 0 0 1 := ⟨(callB_of 1 hts (ok_in in_732) rfl rfl rfl (hts _ in_7) (hts _ in_729) (by decide +kernel) hR), hts _ in_731, hts _ sp_40⟩
theorem cw_MO_133 (hts : ∀ w ∈ lw_ok, w.before args s = true) (hR : rm_MO_joins.frames + 1 ≤ R.frames ∧ 8 + (3 + 11) + rm_MO_joins.locals ≤ R.locals) : CallW R s args "LakeReliefModel" "LakeReliefModel" 133 y_MO_joins prog_7_method_16_code 3 (Option.none : Option Jvm.ClassFile.FieldType) (Cond.code y_MO_joins prog_7_method_16_code 3 (Option.none : Option Jvm.ClassFile.FieldType) :: lw_ok) rm_MO_joins 0 0 2 := ⟨(callB_of 2 hts (ok_in in_744) rfl rfl rfl (hts _ in_7) (hts _ in_741) (by decide +kernel) hR), hts _ in_743, hts _ sp_43⟩
theorem cw_MO_136 (hts : ∀ w ∈ lw_ok, w.before args s = true) (hR : rm_MO_twice.frames + 1 ≤ R.frames ∧ 8 + (5 + 11) + rm_MO_twice.locals ≤ R.locals) : CallW R s args "LakeReliefModel" "LakeReliefModel" 136 y_MO_twice prog_7_method_19_code 5 (Option.some Jvm.ClassFile.FieldType.int) (Cond.code y_MO_twice prog_7_method_19_code 5 (Option.some Jvm.ClassFile.FieldType.int) :: lw_ok) rm_MO_twice 0 0 3 := ⟨(callB_of 3 hts (ok_in in_748) rfl rfl rfl (hts _ in_7) (hts _ in_745) (by decide +kernel) hR), hts _ in_747, hts _ sp_44⟩
theorem cw_MO_140 (hts : ∀ w ∈ lw_ok, w.before args s = true) (hR : rm_MO_goUnder.frames + 1 ≤ R.frames ∧ 8 + (5 + 11) + rm_MO_goUnder.locals ≤ R.locals) : CallW R s args "LakeReliefModel" "LakeReliefModel" 140 y_MO_goUnder prog_7_method_20_code 5 (Option.none : Option Jvm.ClassFile.FieldType) (Cond.code y_MO_goUnder prog_7_method_20_code 5 (Option.none : Option Jvm.ClassFile.FieldType) :: lw_ok) rm_MO_goUnder 0 0 1 := ⟨(callB_of 1 hts (ok_in in_728) rfl rfl rfl (hts _ in_7) (hts _ in_725) (by decide +kernel) hR), hts _ in_727, hts _ sp_39⟩
theorem cw_MO_146 (hts : ∀ w ∈ lw_ok, w.before args s = true) (hR : rm_MO_isPlace.frames + 1 ≤ R.frames ∧ 8 + (3 + 11) + rm_MO_isPlace.locals ≤ R.locals) : CallW R s args "LakeReliefModel" "LakeReliefModel" 146 y_MO_isPlace prog_7_method_23_code 3 (Option.some Jvm.ClassFile.FieldType.boolean) (Cond.code y_MO_isPlace prog_7_method_23_code 3 (Option.some Jvm.ClassFile.FieldType.boolean) :: lw_ok) rm_MO_isPlace 0 0 2 := ⟨(callB_of 2 hts (ok_in in_689) rfl rfl rfl (hts _ in_7) (hts _ in_686) (by decide +kernel) hR), hts _ in_688, hts _ sp_30⟩
theorem cw_MO_149 (hts : ∀ w ∈ lw_ok, w.before args s = true) (hR : rm_MO_stripAt.frames + 1 ≤ R.frames ∧ 8 + (3 + 11) + rm_MO_stripAt.locals ≤ R.locals) : CallW R s args "LakeReliefModel" "LakeReliefModel" 149 y_MO_stripAt prog_7_method_22_code 3 (Option.some Jvm.ClassFile.FieldType.int) (Cond.code y_MO_stripAt prog_7_method_22_code 3 (Option.some Jvm.ClassFile.FieldType.int) :: lw_ok) rm_MO_stripAt 0 0 2 := ⟨(callB_of 2 hts (ok_in in_693) rfl rfl rfl (hts _ in_7) (hts _ in_690) (by decide +kernel) hR), hts _ in_692, hts _ sp_31⟩
theorem cw_MO_160 (hts : ∀ w ∈ lw_ok, w.before args s = true) (hR : rm_MO_layDown.frames + 1 ≤ R.frames ∧ 8 + (6 + 11) + rm_MO_layDown.locals ≤ R.locals) : CallW R s args "LakeReliefModel" "LakeReliefModel" 160 y_MO_layDown prog_7_method_12_code 6 (Option.none : Option Jvm.ClassFile.FieldType) (Cond.code y_MO_layDown prog_7_method_12_code 6 (Option.none : Option Jvm.ClassFile.FieldType) :: lw_ok) rm_MO_layDown 0 0 1 := ⟨(callB_of 1 hts (ok_in in_699) rfl rfl rfl (hts _ in_7) (hts _ in_696) (by decide +kernel) hR), hts _ in_698, hts _ sp_32⟩
theorem cw_MO_163 (hts : ∀ w ∈ lw_ok, w.before args s = true) (hR : rm_MO_endOf.frames + 1 ≤ R.frames ∧ 8 + (3 + 11) + rm_MO_endOf.locals ≤ R.locals) : CallW R s args "LakeReliefModel" "LakeReliefModel" 163 y_MO_endOf prog_7_method_13_code 3 (Option.some Jvm.ClassFile.FieldType.int) (Cond.code y_MO_endOf prog_7_method_13_code 3 (Option.some Jvm.ClassFile.FieldType.int) :: lw_ok) rm_MO_endOf 0 0 1 := ⟨(callB_of 1 hts (ok_in in_715) rfl rfl rfl (hts _ in_7) (hts _ in_712) (by decide +kernel) hR), hts _ in_714, hts _ sp_36⟩
theorem cw_MO_167 (hts : ∀ w ∈ lw_ok, w.before args s = true) (hR : rm_MO_layFill.frames + 1 ≤ R.frames ∧ 8 + (7 + 11) + rm_MO_layFill.locals ≤ R.locals) : CallW R s args "LakeReliefModel" "LakeReliefModel" 167 y_MO_layFill prog_7_method_14_code 7 (Option.none : Option Jvm.ClassFile.FieldType) (Cond.code y_MO_layFill prog_7_method_14_code 7 (Option.none : Option Jvm.ClassFile.FieldType) :: lw_ok) rm_MO_layFill 0 0 0 := ⟨(callB_of 0 hts (ok_in in_719) rfl rfl rfl (hts _ in_7) (hts _ in_716) (by decide +kernel) hR), hts _ in_718, hts _ sp_37⟩
theorem cw_MO_170 (hts : ∀ w ∈ lw_ok, w.before args s = true) (hR : rm_MO_layLakes.frames + 1 ≤ R.frames ∧ 8 + (4 + 11) + rm_MO_layLakes.locals ≤ R.locals) : CallW R s args "LakeReliefModel" "LakeReliefModel" 170 y_MO_layLakes prog_7_method_21_code 4 (Option.none : Option Jvm.ClassFile.FieldType) (Cond.code y_MO_layLakes prog_7_method_21_code 4 (Option.none : Option Jvm.ClassFile.FieldType) :: lw_ok) rm_MO_layLakes 0 0 0 := ⟨(callB_of 0 hts (ok_in in_724) rfl rfl rfl (hts _ in_7) (hts _ in_721) (by decide +kernel) hR), hts _ in_723, hts _ sp_38⟩
theorem cw_MO_180 (hts : ∀ w ∈ lw_ok, w.before args s = true) (hR : rm_MO_isOf.frames + 1 ≤ R.frames ∧ 8 + (3 + 11) + rm_MO_isOf.locals ≤ R.locals) : CallW R s args "LakeReliefModel" "LakeReliefModel" 180 y_MO_isOf prog_7_method_26_code 3 (Option.some Jvm.ClassFile.FieldType.boolean) (Cond.code y_MO_isOf prog_7_method_26_code 3 (Option.some Jvm.ClassFile.FieldType.boolean) :: lw_ok) rm_MO_isOf 0 0 2 := ⟨(callB_of 2 hts (ok_in in_767) rfl rfl rfl (hts _ in_7) (hts _ in_764) (by decide +kernel) hR), hts _ in_766, hts _ sp_47⟩
theorem cw_MO_184 (hts : ∀ w ∈ lw_ok, w.before args s = true) (hR : rm_MO_isField.frames + 1 ≤ R.frames ∧ 8 + (2 + 11) + rm_MO_isField.locals ≤ R.locals) : CallW R s args "LakeReliefModel" "LakeReliefModel" 184 y_MO_isField prog_7_method_25_code 2 (Option.some Jvm.ClassFile.FieldType.boolean) (Cond.code y_MO_isField prog_7_method_25_code 2 (Option.some Jvm.ClassFile.FieldType.boolean) :: lw_ok) rm_MO_isField 0 0 1 := ⟨(callB_of 1 hts (ok_in in_757) rfl rfl rfl (hts _ in_7) (hts _ in_754) (by decide +kernel) hR), hts _ in_756, hts _ sp_45⟩
theorem cw_MO_190 (hts : ∀ w ∈ lw_ok, w.before args s = true) (hR : rm_MO_lakeAt.frames + 1 ≤ R.frames ∧ 8 + (4 + 11) + rm_MO_lakeAt.locals ≤ R.locals) : CallW R s args "LakeReliefModel" "LakeReliefModel" 190 y_MO_lakeAt prog_7_method_27_code 4 (Option.some Jvm.ClassFile.FieldType.int) (Cond.code y_MO_lakeAt prog_7_method_27_code 4 (Option.some Jvm.ClassFile.FieldType.int) :: lw_ok) rm_MO_lakeAt 0 0 1 := ⟨(callB_of 1 hts (ok_in in_763) rfl rfl rfl (hts _ in_7) (hts _ in_760) (by decide +kernel) hR), hts _ in_762, hts _ sp_46⟩
theorem cw_MO_193 (hts : ∀ w ∈ lw_ok, w.before args s = true) (hR : rm_MO_holdsTo.frames + 1 ≤ R.frames ∧ 8 + (5 + 11) + rm_MO_holdsTo.locals ≤ R.locals) : CallW R s args "LakeReliefModel" "LakeReliefModel" 193 y_MO_holdsTo prog_7_method_31_code 5 (Option.some Jvm.ClassFile.FieldType.int) (Cond.code y_MO_holdsTo prog_7_method_31_code 5 (Option.some Jvm.ClassFile.FieldType.int) :: lw_ok) rm_MO_holdsTo 0 0 2 := ⟨(callB_of 2 hts (ok_in in_796) rfl rfl rfl (hts _ in_7) (hts _ in_793) (by decide +kernel) hR), hts _ in_795, hts _ sp_52⟩
theorem cw_MO_196 (hts : ∀ w ∈ lw_ok, w.before args s = true) (hR : rm_MO_isLake.frames + 1 ≤ R.frames ∧ 8 + (2 + 11) + rm_MO_isLake.locals ≤ R.locals) : CallW R s args "LakeReliefModel" "LakeReliefModel" 196 y_MO_isLake prog_7_method_30_code 2 (Option.some Jvm.ClassFile.FieldType.boolean) (Cond.code y_MO_isLake prog_7_method_30_code 2 (Option.some Jvm.ClassFile.FieldType.boolean) :: lw_ok) rm_MO_isLake 0 0 1 := ⟨(callB_of 1 hts (ok_in in_779) rfl rfl rfl (hts _ in_7) (hts _ in_776) (by decide +kernel) hR), hts _ in_778, hts _ sp_48⟩
theorem cw_MO_201 (hts : ∀ w ∈ lw_ok, w.before args s = true) (hR : rm_MO_lowest.frames + 1 ≤ R.frames ∧ 8 + (4 + 11) + rm_MO_lowest.locals ≤ R.locals) : CallW R s args "LakeReliefModel" "LakeReliefModel" 201 y_MO_lowest prog_7_method_33_code 4 (Option.some Jvm.ClassFile.FieldType.int) (Cond.code y_MO_lowest prog_7_method_33_code 4 (Option.some Jvm.ClassFile.FieldType.int) :: lw_ok) rm_MO_lowest 0 0 1 := ⟨(callB_of 1 hts (ok_in in_784) rfl rfl rfl (hts _ in_7) (hts _ in_781) (by decide +kernel) hR), hts _ in_783, hts _ sp_49⟩
theorem cw_MO_204 (hts : ∀ w ∈ lw_ok, w.before args s = true) (hR : rm_MO_groundSize.frames + 1 ≤ R.frames ∧ 8 + (4 + 11) + rm_MO_groundSize.locals ≤ R.locals) : CallW R s args "LakeReliefModel" "LakeReliefModel" 204 y_MO_groundSize prog_7_method_34_code 4 (Option.some Jvm.ClassFile.FieldType.int) (Cond.code y_MO_groundSize prog_7_method_34_code 4 (Option.some Jvm.ClassFile.FieldType.int) :: lw_ok) rm_MO_groundSize 0 0 1 := ⟨(callB_of 1 hts (ok_in in_788) rfl rfl rfl (hts _ in_7) (hts _ in_785) (by decide +kernel) hR), hts _ in_787, hts _ sp_50⟩
theorem cw_MO_207 (hts : ∀ w ∈ lw_ok, w.before args s = true) (hR : rm_MO_most.frames + 1 ≤ R.frames ∧ 8 + (2 + 11) + rm_MO_most.locals ≤ R.locals) : CallW R s args "LakeReliefModel" "LakeReliefModel" 207 y_MO_most prog_7_method_32_code 2 (Option.some Jvm.ClassFile.FieldType.int) (Cond.code y_MO_most prog_7_method_32_code 2 (Option.some Jvm.ClassFile.FieldType.int) :: lw_ok) rm_MO_most 0 0 1 := ⟨(callB_of 1 hts (ok_in in_792) rfl rfl rfl (hts _ in_7) (hts _ in_789) (by decide +kernel) hR), hts _ in_791, hts _ sp_51⟩
theorem cw_MO_211 (hts : ∀ w ∈ lw_ok, w.before args s = true) (hR : rm_MO_against0.frames + 1 ≤ R.frames ∧ 8 + (3 + 11) + rm_MO_against0.locals ≤ R.locals) : CallW R s args "LakeReliefModel" "LakeReliefModel" 211 y_MO_against0 prog_7_method_37_code 3 (Option.some Jvm.ClassFile.FieldType.int) (Cond.code y_MO_against0 prog_7_method_37_code 3 (Option.some Jvm.ClassFile.FieldType.int) :: lw_ok) rm_MO_against0 0 0 2 := ⟨(callB_of 2 hts (ok_in in_808) rfl rfl rfl (hts _ in_7) (hts _ in_805) (by decide +kernel) hR), hts _ in_807, hts _ sp_53⟩
theorem cw_MO_214 (hts : ∀ w ∈ lw_ok, w.before args s = true) (hR : rm_MO_over.frames + 1 ≤ R.frames ∧ 8 + (6 + 11) + rm_MO_over.locals ≤ R.locals) : CallW R s args "LakeReliefModel" "LakeReliefModel" 214 y_MO_over prog_7_method_40_code 6 (Option.some Jvm.ClassFile.FieldType.int) (Cond.code y_MO_over prog_7_method_40_code 6 (Option.some Jvm.ClassFile.FieldType.int) :: lw_ok) rm_MO_over 0 0 1 := ⟨(callB_of 1 hts (ok_in in_821) rfl rfl rfl (hts _ in_7) (hts _ in_818) (by decide +kernel) hR), hts _ in_820, hts _ sp_54⟩
theorem cw_MO_217 (hts : ∀ w ∈ lw_ok, w.before args s = true) (hR : rm_MO_layHeights.frames + 1 ≤ R.frames ∧ 8 + (5 + 11) + rm_MO_layHeights.locals ≤ R.locals) : CallW R s args "LakeReliefModel" "LakeReliefModel" 217 y_MO_layHeights prog_7_method_43_code 5 (Option.some Jvm.ClassFile.FieldType.int) (Cond.code y_MO_layHeights prog_7_method_43_code 5 (Option.some Jvm.ClassFile.FieldType.int) :: lw_ok) rm_MO_layHeights 0 0 1 := ⟨(callB_of 1 hts (ok_in in_829) rfl rfl rfl (hts _ in_7) (hts _ in_826) (by decide +kernel) hR), hts _ in_828, hts _ sp_55⟩
theorem cw_MO_220 (hts : ∀ w ∈ lw_ok, w.before args s = true) (hR : rm_MO_common.frames + 1 ≤ R.frames ∧ 8 + (5 + 11) + rm_MO_common.locals ≤ R.locals) : CallB R s args "LakeReliefModel" 220 y_MO_common prog_7_method_42_code 5 (Option.some Jvm.ClassFile.FieldType.int) (Cond.code y_MO_common prog_7_method_42_code 5 (Option.some Jvm.ClassFile.FieldType.int) :: lw_ok) rm_MO_common 0 0 2 ∧ (Cond.static y_MO_common).before args s = true := ⟨(callB_of 2 hts (ok_in in_832) rfl rfl rfl (hts _ in_7) (hts _ in_830) (by decide +kernel) hR), hts _ in_831⟩
end CW
end
