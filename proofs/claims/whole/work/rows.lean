section
/-- a private method of a class that the tables say can be made, by its rows of tables_1 -/
def lw_okq (q : MethodName × Nat) : Prop := (q.1.cls ≠ "java/lang/invoke/MethodHandle" ∧ q.1.cls ≠ "java/lang/invoke/VarHandle") ∧ Cond.instantiable q.1.cls q.2 ∈ tables_1 ∧ Cond.privateMethod q.1 ∈ tables_1 ∧ Cond.instanceMethod q.1 ∈ tables_1
theorem lw_p0 : lw_okq (⟨"LakeRelief", "refusalOfPlace", "(II)I"⟩, 4) := ⟨⟨by decide +kernel, by decide +kernel⟩, List.mem_of_getElem? (i := 11) (by decide +kernel), List.mem_of_getElem? (i := 204) (by decide +kernel), List.mem_of_getElem? (i := 205) (by decide +kernel)⟩
theorem lw_p1 : lw_okq (⟨"LakeRelief", "canBeLaid", "(II)Z"⟩, 4) := ⟨⟨by decide +kernel, by decide +kernel⟩, List.mem_of_getElem? (i := 11) (by decide +kernel), List.mem_of_getElem? (i := 236) (by decide +kernel), List.mem_of_getElem? (i := 237) (by decide +kernel)⟩
theorem lw_p2 : lw_okq (⟨"LakeRelief", "layLine", "(II)V"⟩, 4) := ⟨⟨by decide +kernel, by decide +kernel⟩, List.mem_of_getElem? (i := 11) (by decide +kernel), List.mem_of_getElem? (i := 249) (by decide +kernel), List.mem_of_getElem? (i := 250) (by decide +kernel)⟩
theorem lw_p3 : lw_okq (⟨"LakeRelief$Relief", "findNeighbours", "()V"⟩, 11) := ⟨⟨by decide +kernel, by decide +kernel⟩, List.mem_of_getElem? (i := 39) (by decide +kernel), List.mem_of_getElem? (i := 264) (by decide +kernel), List.mem_of_getElem? (i := 265) (by decide +kernel)⟩
theorem lw_p4 : lw_okq (⟨"LakeRelief$Relief", "landOrSea", "(I)I"⟩, 11) := ⟨⟨by decide +kernel, by decide +kernel⟩, List.mem_of_getElem? (i := 39) (by decide +kernel), List.mem_of_getElem? (i := 268) (by decide +kernel), List.mem_of_getElem? (i := 269) (by decide +kernel)⟩
theorem lw_p5 : lw_okq (⟨"LakeRelief$Relief", "sortLand", "()V"⟩, 11) := ⟨⟨by decide +kernel, by decide +kernel⟩, List.mem_of_getElem? (i := 39) (by decide +kernel), List.mem_of_getElem? (i := 283) (by decide +kernel), List.mem_of_getElem? (i := 284) (by decide +kernel)⟩
theorem lw_p6 : lw_okq (⟨"LakeRelief$Relief", "insertByHeight", "(II)V"⟩, 11) := ⟨⟨by decide +kernel, by decide +kernel⟩, List.mem_of_getElem? (i := 39) (by decide +kernel), List.mem_of_getElem? (i := 287) (by decide +kernel), List.mem_of_getElem? (i := 288) (by decide +kernel)⟩
theorem lw_p7 : lw_okq (⟨"LakeRelief$Relief", "isLower", "(II)Z"⟩, 11) := ⟨⟨by decide +kernel, by decide +kernel⟩, List.mem_of_getElem? (i := 39) (by decide +kernel), List.mem_of_getElem? (i := 291) (by decide +kernel), List.mem_of_getElem? (i := 292) (by decide +kernel)⟩
theorem lw_p8 : lw_okq (⟨"LakeRelief$Relief", "findWays", "()V"⟩, 11) := ⟨⟨by decide +kernel, by decide +kernel⟩, List.mem_of_getElem? (i := 39) (by decide +kernel), List.mem_of_getElem? (i := 295) (by decide +kernel), List.mem_of_getElem? (i := 296) (by decide +kernel)⟩
theorem lw_p9 : lw_okq (⟨"LakeRelief$Relief", "downOf", "(I)I"⟩, 11) := ⟨⟨by decide +kernel, by decide +kernel⟩, List.mem_of_getElem? (i := 39) (by decide +kernel), List.mem_of_getElem? (i := 299) (by decide +kernel), List.mem_of_getElem? (i := 300) (by decide +kernel)⟩
theorem lw_p10 : lw_okq (⟨"LakeRelief$Relief", "findFills", "()V"⟩, 11) := ⟨⟨by decide +kernel, by decide +kernel⟩, List.mem_of_getElem? (i := 39) (by decide +kernel), List.mem_of_getElem? (i := 315) (by decide +kernel), List.mem_of_getElem? (i := 316) (by decide +kernel)⟩
theorem lw_p11 : lw_okq (⟨"LakeRelief$Relief", "lowerFills", "()Z"⟩, 11) := ⟨⟨by decide +kernel, by decide +kernel⟩, List.mem_of_getElem? (i := 39) (by decide +kernel), List.mem_of_getElem? (i := 320) (by decide +kernel), List.mem_of_getElem? (i := 321) (by decide +kernel)⟩
theorem lw_p12 : lw_okq (⟨"LakeRelief$Relief", "leastFillBeside", "(I)I"⟩, 11) := ⟨⟨by decide +kernel, by decide +kernel⟩, List.mem_of_getElem? (i := 39) (by decide +kernel), List.mem_of_getElem? (i := 324) (by decide +kernel), List.mem_of_getElem? (i := 325) (by decide +kernel)⟩
theorem lw_p13 : lw_okq (⟨"LakeRelief$Lakes", "goUnder", "(I)V"⟩, 6) := ⟨⟨by decide +kernel, by decide +kernel⟩, List.mem_of_getElem? (i := 89) (by decide +kernel), List.mem_of_getElem? (i := 335) (by decide +kernel), List.mem_of_getElem? (i := 336) (by decide +kernel)⟩
theorem lw_p14 : lw_okq (⟨"LakeRelief$Lakes", "topsBeside", "(I)J"⟩, 6) := ⟨⟨by decide +kernel, by decide +kernel⟩, List.mem_of_getElem? (i := 89) (by decide +kernel), List.mem_of_getElem? (i := 339) (by decide +kernel), List.mem_of_getElem? (i := 340) (by decide +kernel)⟩
theorem lw_p15 : lw_okq (⟨"LakeRelief$Lakes", "topWith", "(I)I"⟩, 6) := ⟨⟨by decide +kernel, by decide +kernel⟩, List.mem_of_getElem? (i := 89) (by decide +kernel), List.mem_of_getElem? (i := 344) (by decide +kernel), List.mem_of_getElem? (i := 345) (by decide +kernel)⟩
def lw_privs_1 : List (MethodName × Nat) := [(⟨"LakeRelief", "refusalOfPlace", "(II)I"⟩, 4), (⟨"LakeRelief", "canBeLaid", "(II)Z"⟩, 4), (⟨"LakeRelief", "layLine", "(II)V"⟩, 4), (⟨"LakeRelief$Relief", "findNeighbours", "()V"⟩, 11), (⟨"LakeRelief$Relief", "landOrSea", "(I)I"⟩, 11), (⟨"LakeRelief$Relief", "sortLand", "()V"⟩, 11), (⟨"LakeRelief$Relief", "insertByHeight", "(II)V"⟩, 11), (⟨"LakeRelief$Relief", "isLower", "(II)Z"⟩, 11), (⟨"LakeRelief$Relief", "findWays", "()V"⟩, 11), (⟨"LakeRelief$Relief", "downOf", "(I)I"⟩, 11), (⟨"LakeRelief$Relief", "findFills", "()V"⟩, 11), (⟨"LakeRelief$Relief", "lowerFills", "()Z"⟩, 11), (⟨"LakeRelief$Relief", "leastFillBeside", "(I)I"⟩, 11), (⟨"LakeRelief$Lakes", "goUnder", "(I)V"⟩, 6), (⟨"LakeRelief$Lakes", "topsBeside", "(I)J"⟩, 6), (⟨"LakeRelief$Lakes", "topWith", "(I)I"⟩, 6)]
theorem lw_r1 : ∀ q ∈ lw_privs_1, lw_okq q := List.forall_mem_cons.mpr ⟨lw_p0, List.forall_mem_cons.mpr ⟨lw_p1, List.forall_mem_cons.mpr ⟨lw_p2, List.forall_mem_cons.mpr ⟨lw_p3, List.forall_mem_cons.mpr ⟨lw_p4, List.forall_mem_cons.mpr ⟨lw_p5, List.forall_mem_cons.mpr ⟨lw_p6, List.forall_mem_cons.mpr ⟨lw_p7, List.forall_mem_cons.mpr ⟨lw_p8, List.forall_mem_cons.mpr ⟨lw_p9, List.forall_mem_cons.mpr ⟨lw_p10, List.forall_mem_cons.mpr ⟨lw_p11, List.forall_mem_cons.mpr ⟨lw_p12, List.forall_mem_cons.mpr ⟨lw_p13, List.forall_mem_cons.mpr ⟨lw_p14, List.forall_mem_cons.mpr ⟨lw_p15, fun _ h => absurd h List.not_mem_nil⟩⟩⟩⟩⟩⟩⟩⟩⟩⟩⟩⟩⟩⟩⟩⟩
theorem lw_p16 : lw_okq (⟨"LakeRelief$Lakes", "isBesideSeas", "(I)Z"⟩, 6) := ⟨⟨by decide +kernel, by decide +kernel⟩, List.mem_of_getElem? (i := 89) (by decide +kernel), List.mem_of_getElem? (i := 350) (by decide +kernel), List.mem_of_getElem? (i := 351) (by decide +kernel)⟩
theorem lw_p17 : lw_okq (⟨"LakeRelief$Lakes", "spillToSea", "(JI)V"⟩, 6) := ⟨⟨by decide +kernel, by decide +kernel⟩, List.mem_of_getElem? (i := 89) (by decide +kernel), List.mem_of_getElem? (i := 356) (by decide +kernel), List.mem_of_getElem? (i := 357) (by decide +kernel)⟩
theorem lw_p18 : lw_okq (⟨"LakeRelief$Lakes", "make", "(JII)I"⟩, 6) := ⟨⟨by decide +kernel, by decide +kernel⟩, List.mem_of_getElem? (i := 89) (by decide +kernel), List.mem_of_getElem? (i := 364) (by decide +kernel), List.mem_of_getElem? (i := 365) (by decide +kernel)⟩
theorem lw_p19 : lw_okq (⟨"LakeRelief$Lakes", "joinAt", "(JI)I"⟩, 6) := ⟨⟨by decide +kernel, by decide +kernel⟩, List.mem_of_getElem? (i := 89) (by decide +kernel), List.mem_of_getElem? (i := 369) (by decide +kernel), List.mem_of_getElem? (i := 370) (by decide +kernel)⟩
theorem lw_p20 : lw_okq (⟨"LakeRelief$Lakes", "makeDouble", "(III)I"⟩, 6) := ⟨⟨by decide +kernel, by decide +kernel⟩, List.mem_of_getElem? (i := 89) (by decide +kernel), List.mem_of_getElem? (i := 373) (by decide +kernel), List.mem_of_getElem? (i := 374) (by decide +kernel)⟩
theorem lw_p21 : lw_okq (⟨"LakeRelief$Lakes", "measure", "(LLakeRelief$Lake;)V"⟩, 6) := ⟨⟨by decide +kernel, by decide +kernel⟩, List.mem_of_getElem? (i := 89) (by decide +kernel), List.mem_of_getElem? (i := 381) (by decide +kernel), List.mem_of_getElem? (i := 382) (by decide +kernel)⟩
theorem lw_p22 : lw_okq (⟨"LakeRelief$Relief", "isHollow", "(I)Z"⟩, 11) := ⟨⟨by decide +kernel, by decide +kernel⟩, List.mem_of_getElem? (i := 39) (by decide +kernel), List.mem_of_getElem? (i := 418) (by decide +kernel), List.mem_of_getElem? (i := 419) (by decide +kernel)⟩
theorem lw_p23 : lw_okq (⟨"LakeRelief$Lakes", "lakeBelow", "(I)I"⟩, 6) := ⟨⟨by decide +kernel, by decide +kernel⟩, List.mem_of_getElem? (i := 89) (by decide +kernel), List.mem_of_getElem? (i := 469) (by decide +kernel), List.mem_of_getElem? (i := 470) (by decide +kernel)⟩
theorem lw_p24 : lw_okq (⟨"LakeRelief$Lakes", "runDown", "(II)I"⟩, 6) := ⟨⟨by decide +kernel, by decide +kernel⟩, List.mem_of_getElem? (i := 89) (by decide +kernel), List.mem_of_getElem? (i := 474) (by decide +kernel), List.mem_of_getElem? (i := 475) (by decide +kernel)⟩
theorem lw_p25 : lw_okq (⟨"LakeRelief$Lakes", "fillUp", "(LLakeRelief$Lake;I)I"⟩, 6) := ⟨⟨by decide +kernel, by decide +kernel⟩, List.mem_of_getElem? (i := 89) (by decide +kernel), List.mem_of_getElem? (i := 478) (by decide +kernel), List.mem_of_getElem? (i := 479) (by decide +kernel)⟩
theorem lw_p26 : lw_okq (⟨"LakeRelief$Lakes", "next", "(I)I"⟩, 6) := ⟨⟨by decide +kernel, by decide +kernel⟩, List.mem_of_getElem? (i := 89) (by decide +kernel), List.mem_of_getElem? (i := 483) (by decide +kernel), List.mem_of_getElem? (i := 484) (by decide +kernel)⟩
theorem lw_p27 : lw_okq (⟨"LakeRelief$Lakes", "join", "(LLakeRelief$Lake;LLakeRelief$Lake;LLakeRelief$Lake;)V"⟩, 6) := ⟨⟨by decide +kernel, by decide +kernel⟩, List.mem_of_getElem? (i := 89) (by decide +kernel), List.mem_of_getElem? (i := 491) (by decide +kernel), List.mem_of_getElem? (i := 492) (by decide +kernel)⟩
theorem lw_p28 : lw_okq (⟨"LakeRelief$Relief", "withoutPieceAt", "(IJ)J"⟩, 11) := ⟨⟨by decide +kernel, by decide +kernel⟩, List.mem_of_getElem? (i := 39) (by decide +kernel), List.mem_of_getElem? (i := 533) (by decide +kernel), List.mem_of_getElem? (i := 534) (by decide +kernel)⟩
theorem lw_p29 : lw_okq (⟨"LakeReliefModel", "against", "(II)I"⟩, 29) := ⟨⟨by decide +kernel, by decide +kernel⟩, List.mem_of_getElem? (i := 556) (by decide +kernel), List.mem_of_getElem? (i := 669) (by decide +kernel), List.mem_of_getElem? (i := 670) (by decide +kernel)⟩
theorem lw_p30 : lw_okq (⟨"LakeReliefModel", "isPlace", "(II)Z"⟩, 29) := ⟨⟨by decide +kernel, by decide +kernel⟩, List.mem_of_getElem? (i := 556) (by decide +kernel), List.mem_of_getElem? (i := 687) (by decide +kernel), List.mem_of_getElem? (i := 688) (by decide +kernel)⟩
theorem lw_p31 : lw_okq (⟨"LakeReliefModel", "stripAt", "(II)I"⟩, 29) := ⟨⟨by decide +kernel, by decide +kernel⟩, List.mem_of_getElem? (i := 556) (by decide +kernel), List.mem_of_getElem? (i := 691) (by decide +kernel), List.mem_of_getElem? (i := 692) (by decide +kernel)⟩
def lw_privs_2 : List (MethodName × Nat) := [(⟨"LakeRelief$Lakes", "isBesideSeas", "(I)Z"⟩, 6), (⟨"LakeRelief$Lakes", "spillToSea", "(JI)V"⟩, 6), (⟨"LakeRelief$Lakes", "make", "(JII)I"⟩, 6), (⟨"LakeRelief$Lakes", "joinAt", "(JI)I"⟩, 6), (⟨"LakeRelief$Lakes", "makeDouble", "(III)I"⟩, 6), (⟨"LakeRelief$Lakes", "measure", "(LLakeRelief$Lake;)V"⟩, 6), (⟨"LakeRelief$Relief", "isHollow", "(I)Z"⟩, 11), (⟨"LakeRelief$Lakes", "lakeBelow", "(I)I"⟩, 6), (⟨"LakeRelief$Lakes", "runDown", "(II)I"⟩, 6), (⟨"LakeRelief$Lakes", "fillUp", "(LLakeRelief$Lake;I)I"⟩, 6), (⟨"LakeRelief$Lakes", "next", "(I)I"⟩, 6), (⟨"LakeRelief$Lakes", "join", "(LLakeRelief$Lake;LLakeRelief$Lake;LLakeRelief$Lake;)V"⟩, 6), (⟨"LakeRelief$Relief", "withoutPieceAt", "(IJ)J"⟩, 11), (⟨"LakeReliefModel", "against", "(II)I"⟩, 29), (⟨"LakeReliefModel", "isPlace", "(II)Z"⟩, 29), (⟨"LakeReliefModel", "stripAt", "(II)I"⟩, 29)]
theorem lw_r2 : ∀ q ∈ lw_privs_2, lw_okq q := List.forall_mem_cons.mpr ⟨lw_p16, List.forall_mem_cons.mpr ⟨lw_p17, List.forall_mem_cons.mpr ⟨lw_p18, List.forall_mem_cons.mpr ⟨lw_p19, List.forall_mem_cons.mpr ⟨lw_p20, List.forall_mem_cons.mpr ⟨lw_p21, List.forall_mem_cons.mpr ⟨lw_p22, List.forall_mem_cons.mpr ⟨lw_p23, List.forall_mem_cons.mpr ⟨lw_p24, List.forall_mem_cons.mpr ⟨lw_p25, List.forall_mem_cons.mpr ⟨lw_p26, List.forall_mem_cons.mpr ⟨lw_p27, List.forall_mem_cons.mpr ⟨lw_p28, List.forall_mem_cons.mpr ⟨lw_p29, List.forall_mem_cons.mpr ⟨lw_p30, List.forall_mem_cons.mpr ⟨lw_p31, fun _ h => absurd h List.not_mem_nil⟩⟩⟩⟩⟩⟩⟩⟩⟩⟩⟩⟩⟩⟩⟩⟩
theorem lw_p32 : lw_okq (⟨"LakeReliefModel", "layDown", "(I)V"⟩, 29) := ⟨⟨by decide +kernel, by decide +kernel⟩, List.mem_of_getElem? (i := 556) (by decide +kernel), List.mem_of_getElem? (i := 697) (by decide +kernel), List.mem_of_getElem? (i := 698) (by decide +kernel)⟩
theorem lw_p33 : lw_okq (⟨"LakeReliefModel", "beside", "(II)I"⟩, 29) := ⟨⟨by decide +kernel, by decide +kernel⟩, List.mem_of_getElem? (i := 556) (by decide +kernel), List.mem_of_getElem? (i := 701) (by decide +kernel), List.mem_of_getElem? (i := 702) (by decide +kernel)⟩
theorem lw_p34 : lw_okq (⟨"LakeReliefModel", "isWet", "(I)Z"⟩, 29) := ⟨⟨by decide +kernel, by decide +kernel⟩, List.mem_of_getElem? (i := 556) (by decide +kernel), List.mem_of_getElem? (i := 705) (by decide +kernel), List.mem_of_getElem? (i := 706) (by decide +kernel)⟩
theorem lw_p35 : lw_okq (⟨"LakeReliefModel", "isLower", "(II)Z"⟩, 29) := ⟨⟨by decide +kernel, by decide +kernel⟩, List.mem_of_getElem? (i := 556) (by decide +kernel), List.mem_of_getElem? (i := 709) (by decide +kernel), List.mem_of_getElem? (i := 710) (by decide +kernel)⟩
theorem lw_p36 : lw_okq (⟨"LakeReliefModel", "endOf", "(I)I"⟩, 29) := ⟨⟨by decide +kernel, by decide +kernel⟩, List.mem_of_getElem? (i := 556) (by decide +kernel), List.mem_of_getElem? (i := 713) (by decide +kernel), List.mem_of_getElem? (i := 714) (by decide +kernel)⟩
theorem lw_p37 : lw_okq (⟨"LakeReliefModel", "layFill", "()V"⟩, 29) := ⟨⟨by decide +kernel, by decide +kernel⟩, List.mem_of_getElem? (i := 556) (by decide +kernel), List.mem_of_getElem? (i := 717) (by decide +kernel), List.mem_of_getElem? (i := 718) (by decide +kernel)⟩
theorem lw_p38 : lw_okq (⟨"LakeReliefModel", "layLakes", "()V"⟩, 29) := ⟨⟨by decide +kernel, by decide +kernel⟩, List.mem_of_getElem? (i := 556) (by decide +kernel), List.mem_of_getElem? (i := 722) (by decide +kernel), List.mem_of_getElem? (i := 723) (by decide +kernel)⟩
theorem lw_p39 : lw_okq (⟨"LakeReliefModel", "goUnder", "(I)V"⟩, 29) := ⟨⟨by decide +kernel, by decide +kernel⟩, List.mem_of_getElem? (i := 556) (by decide +kernel), List.mem_of_getElem? (i := 726) (by decide +kernel), List.mem_of_getElem? (i := 727) (by decide +kernel)⟩
theorem lw_p40 : lw_okq (⟨"LakeReliefModel", "lookBeside", "(I)Z"⟩, 29) := ⟨⟨by decide +kernel, by decide +kernel⟩, List.mem_of_getElem? (i := 556) (by decide +kernel), List.mem_of_getElem? (i := 730) (by decide +kernel), List.mem_of_getElem? (i := 731) (by decide +kernel)⟩
theorem lw_p41 : lw_okq (⟨"LakeReliefModel", "becomes", "(II)V"⟩, 29) := ⟨⟨by decide +kernel, by decide +kernel⟩, List.mem_of_getElem? (i := 556) (by decide +kernel), List.mem_of_getElem? (i := 734) (by decide +kernel), List.mem_of_getElem? (i := 735) (by decide +kernel)⟩
theorem lw_p42 : lw_okq (⟨"LakeReliefModel", "newLake", "()I"⟩, 29) := ⟨⟨by decide +kernel, by decide +kernel⟩, List.mem_of_getElem? (i := 556) (by decide +kernel), List.mem_of_getElem? (i := 738) (by decide +kernel), List.mem_of_getElem? (i := 739) (by decide +kernel)⟩
theorem lw_p43 : lw_okq (⟨"LakeReliefModel", "joins", "(II)V"⟩, 29) := ⟨⟨by decide +kernel, by decide +kernel⟩, List.mem_of_getElem? (i := 556) (by decide +kernel), List.mem_of_getElem? (i := 742) (by decide +kernel), List.mem_of_getElem? (i := 743) (by decide +kernel)⟩
theorem lw_p44 : lw_okq (⟨"LakeReliefModel", "twice", "(III)I"⟩, 29) := ⟨⟨by decide +kernel, by decide +kernel⟩, List.mem_of_getElem? (i := 556) (by decide +kernel), List.mem_of_getElem? (i := 746) (by decide +kernel), List.mem_of_getElem? (i := 747) (by decide +kernel)⟩
theorem lw_p45 : lw_okq (⟨"LakeReliefModel", "isField", "(I)Z"⟩, 29) := ⟨⟨by decide +kernel, by decide +kernel⟩, List.mem_of_getElem? (i := 556) (by decide +kernel), List.mem_of_getElem? (i := 755) (by decide +kernel), List.mem_of_getElem? (i := 756) (by decide +kernel)⟩
theorem lw_p46 : lw_okq (⟨"LakeReliefModel", "lakeAt", "(I)I"⟩, 29) := ⟨⟨by decide +kernel, by decide +kernel⟩, List.mem_of_getElem? (i := 556) (by decide +kernel), List.mem_of_getElem? (i := 761) (by decide +kernel), List.mem_of_getElem? (i := 762) (by decide +kernel)⟩
theorem lw_p47 : lw_okq (⟨"LakeReliefModel", "isOf", "(II)Z"⟩, 29) := ⟨⟨by decide +kernel, by decide +kernel⟩, List.mem_of_getElem? (i := 556) (by decide +kernel), List.mem_of_getElem? (i := 765) (by decide +kernel), List.mem_of_getElem? (i := 766) (by decide +kernel)⟩
def lw_privs_3 : List (MethodName × Nat) := [(⟨"LakeReliefModel", "layDown", "(I)V"⟩, 29), (⟨"LakeReliefModel", "beside", "(II)I"⟩, 29), (⟨"LakeReliefModel", "isWet", "(I)Z"⟩, 29), (⟨"LakeReliefModel", "isLower", "(II)Z"⟩, 29), (⟨"LakeReliefModel", "endOf", "(I)I"⟩, 29), (⟨"LakeReliefModel", "layFill", "()V"⟩, 29), (⟨"LakeReliefModel", "layLakes", "()V"⟩, 29), (⟨"LakeReliefModel", "goUnder", "(I)V"⟩, 29), (⟨"LakeReliefModel", "lookBeside", "(I)Z"⟩, 29), (⟨"LakeReliefModel", "becomes", "(II)V"⟩, 29), (⟨"LakeReliefModel", "newLake", "()I"⟩, 29), (⟨"LakeReliefModel", "joins", "(II)V"⟩, 29), (⟨"LakeReliefModel", "twice", "(III)I"⟩, 29), (⟨"LakeReliefModel", "isField", "(I)Z"⟩, 29), (⟨"LakeReliefModel", "lakeAt", "(I)I"⟩, 29), (⟨"LakeReliefModel", "isOf", "(II)Z"⟩, 29)]
theorem lw_r3 : ∀ q ∈ lw_privs_3, lw_okq q := List.forall_mem_cons.mpr ⟨lw_p32, List.forall_mem_cons.mpr ⟨lw_p33, List.forall_mem_cons.mpr ⟨lw_p34, List.forall_mem_cons.mpr ⟨lw_p35, List.forall_mem_cons.mpr ⟨lw_p36, List.forall_mem_cons.mpr ⟨lw_p37, List.forall_mem_cons.mpr ⟨lw_p38, List.forall_mem_cons.mpr ⟨lw_p39, List.forall_mem_cons.mpr ⟨lw_p40, List.forall_mem_cons.mpr ⟨lw_p41, List.forall_mem_cons.mpr ⟨lw_p42, List.forall_mem_cons.mpr ⟨lw_p43, List.forall_mem_cons.mpr ⟨lw_p44, List.forall_mem_cons.mpr ⟨lw_p45, List.forall_mem_cons.mpr ⟨lw_p46, List.forall_mem_cons.mpr ⟨lw_p47, fun _ h => absurd h List.not_mem_nil⟩⟩⟩⟩⟩⟩⟩⟩⟩⟩⟩⟩⟩⟩⟩⟩
theorem lw_p48 : lw_okq (⟨"LakeReliefModel", "isLake", "(I)Z"⟩, 29) := ⟨⟨by decide +kernel, by decide +kernel⟩, List.mem_of_getElem? (i := 556) (by decide +kernel), List.mem_of_getElem? (i := 777) (by decide +kernel), List.mem_of_getElem? (i := 778) (by decide +kernel)⟩
theorem lw_p49 : lw_okq (⟨"LakeReliefModel", "lowest", "(I)I"⟩, 29) := ⟨⟨by decide +kernel, by decide +kernel⟩, List.mem_of_getElem? (i := 556) (by decide +kernel), List.mem_of_getElem? (i := 782) (by decide +kernel), List.mem_of_getElem? (i := 783) (by decide +kernel)⟩
theorem lw_p50 : lw_okq (⟨"LakeReliefModel", "groundSize", "(I)I"⟩, 29) := ⟨⟨by decide +kernel, by decide +kernel⟩, List.mem_of_getElem? (i := 556) (by decide +kernel), List.mem_of_getElem? (i := 786) (by decide +kernel), List.mem_of_getElem? (i := 787) (by decide +kernel)⟩
theorem lw_p51 : lw_okq (⟨"LakeReliefModel", "most", "(I)I"⟩, 29) := ⟨⟨by decide +kernel, by decide +kernel⟩, List.mem_of_getElem? (i := 556) (by decide +kernel), List.mem_of_getElem? (i := 790) (by decide +kernel), List.mem_of_getElem? (i := 791) (by decide +kernel)⟩
theorem lw_p52 : lw_okq (⟨"LakeReliefModel", "holdsTo", "(II)I"⟩, 29) := ⟨⟨by decide +kernel, by decide +kernel⟩, List.mem_of_getElem? (i := 556) (by decide +kernel), List.mem_of_getElem? (i := 794) (by decide +kernel), List.mem_of_getElem? (i := 795) (by decide +kernel)⟩
theorem lw_p53 : lw_okq (⟨"LakeReliefModel", "against0", "(II)I"⟩, 29) := ⟨⟨by decide +kernel, by decide +kernel⟩, List.mem_of_getElem? (i := 556) (by decide +kernel), List.mem_of_getElem? (i := 806) (by decide +kernel), List.mem_of_getElem? (i := 807) (by decide +kernel)⟩
theorem lw_p54 : lw_okq (⟨"LakeReliefModel", "over", "(I)I"⟩, 29) := ⟨⟨by decide +kernel, by decide +kernel⟩, List.mem_of_getElem? (i := 556) (by decide +kernel), List.mem_of_getElem? (i := 819) (by decide +kernel), List.mem_of_getElem? (i := 820) (by decide +kernel)⟩
theorem lw_p55 : lw_okq (⟨"LakeReliefModel", "layHeights", "(I)I"⟩, 29) := ⟨⟨by decide +kernel, by decide +kernel⟩, List.mem_of_getElem? (i := 556) (by decide +kernel), List.mem_of_getElem? (i := 827) (by decide +kernel), List.mem_of_getElem? (i := 828) (by decide +kernel)⟩
def lw_privs_4 : List (MethodName × Nat) := [(⟨"LakeReliefModel", "isLake", "(I)Z"⟩, 29), (⟨"LakeReliefModel", "lowest", "(I)I"⟩, 29), (⟨"LakeReliefModel", "groundSize", "(I)I"⟩, 29), (⟨"LakeReliefModel", "most", "(I)I"⟩, 29), (⟨"LakeReliefModel", "holdsTo", "(II)I"⟩, 29), (⟨"LakeReliefModel", "against0", "(II)I"⟩, 29), (⟨"LakeReliefModel", "over", "(I)I"⟩, 29), (⟨"LakeReliefModel", "layHeights", "(I)I"⟩, 29)]
theorem lw_r4 : ∀ q ∈ lw_privs_4, lw_okq q := List.forall_mem_cons.mpr ⟨lw_p48, List.forall_mem_cons.mpr ⟨lw_p49, List.forall_mem_cons.mpr ⟨lw_p50, List.forall_mem_cons.mpr ⟨lw_p51, List.forall_mem_cons.mpr ⟨lw_p52, List.forall_mem_cons.mpr ⟨lw_p53, List.forall_mem_cons.mpr ⟨lw_p54, List.forall_mem_cons.mpr ⟨lw_p55, fun _ h => absurd h List.not_mem_nil⟩⟩⟩⟩⟩⟩⟩⟩
def lw_privs : List (MethodName × Nat) := lw_privs_1 ++ (lw_privs_2 ++ (lw_privs_3 ++ (lw_privs_4)))
def lw_tbl : List Cond := k2_sels lw_privs ++ tables_1
theorem lw_privs_ok : ∀ q ∈ lw_privs, lw_okq q := by
  show ∀ q ∈ lw_privs_1 ++ (lw_privs_2 ++ (lw_privs_3 ++ (lw_privs_4))), lw_okq q
  exact List.forall_mem_append.mpr ⟨lw_r1, List.forall_mem_append.mpr ⟨lw_r2, List.forall_mem_append.mpr ⟨lw_r3, lw_r4⟩⟩⟩
end
section
def R_LA : String := "LakeRelief$Lake"
def T_LA : u_T := fun k => match k with
  | 0 => ("LakeRelief$Lake", "fields", "J", false)
  | 1 => ("LakeRelief$Lake", "rim", "I", false)
  | 2 => ("LakeRelief$Lake", "whole", "I", false)
  | 3 => ("LakeRelief$Lake", "lesserPart", "I", false)
  | 4 => ("LakeRelief$Lake", "greaterPart", "I", false)
  | 5 => ("LakeRelief$Lake", "most", "I", false)
  | 6 => ("LakeRelief$Lake", "isThere", "Z", false)
  | _ => ("LakeRelief$Lake", "water", "I", false)
def t_LA : Nat → FieldType := fun k => match k with
  | 0 => .long
  | 1 => .int
  | 2 => .int
  | 3 => .int
  | 4 => .int
  | 5 => .int
  | 6 => .boolean
  | _ => .int
theorem n_LA : ∀ a, a < 8 → ∀ b, b < 8 → a ≠ b → (T_LA a).2.1 ≠ (T_LA b).2.1 := by decide +kernel
theorem t_LA_ok : ∀ k, k < 8 → parseFieldDescriptor (T_LA k).2.2.1 = some (t_LA k) := by decide +kernel
theorem i0_LA : ∀ w ∈ u_ws R_LA T_LA 8, w ∈ lw_tbl := by decide +kernel
theorem i_LA : ∀ w ∈ u_ws R_LA T_LA 8, w ∈ lw_tbl.filter goodWord := fun w h => List.mem_filter.mpr ⟨i0_LA w h, List.all_eq_true.mp (by decide +kernel : (u_ws R_LA T_LA 8).all goodWord = true) w h⟩
def R_LK : String := "LakeRelief$Lakes"
def T_LK : u_T := fun k => match k with
  | 0 => ("LakeRelief$Lakes", "all", "[LLakeRelief$Lake;", true)
  | 1 => ("LakeRelief$Lakes", "number", "I", false)
  | 2 => ("LakeRelief$Lakes", "gone", "J", false)
  | 3 => ("LakeRelief$Lakes", "poured", "J", false)
  | 4 => ("LakeRelief$Lakes", "relief", "LLakeRelief$Relief;", true)
  | _ => ("LakeRelief$Lakes", "seas", "J", false)
def t_LK : Nat → FieldType := fun k => match k with
  | 0 => .array (.object "LakeRelief$Lake")
  | 1 => .int
  | 2 => .long
  | 3 => .long
  | 4 => .object "LakeRelief$Relief"
  | _ => .long
theorem n_LK : ∀ a, a < 6 → ∀ b, b < 6 → a ≠ b → (T_LK a).2.1 ≠ (T_LK b).2.1 := by decide +kernel
theorem t_LK_ok : ∀ k, k < 6 → parseFieldDescriptor (T_LK k).2.2.1 = some (t_LK k) := by decide +kernel
theorem i0_LK : ∀ w ∈ u_ws R_LK T_LK 6, w ∈ lw_tbl := by decide +kernel
theorem i_LK : ∀ w ∈ u_ws R_LK T_LK 6, w ∈ lw_tbl.filter goodWord := fun w h => List.mem_filter.mpr ⟨i0_LK w h, List.all_eq_true.mp (by decide +kernel : (u_ws R_LK T_LK 6).all goodWord = true) w h⟩
def R_RE : String := "LakeRelief$Relief"
def T_RE : u_T := fun k => match k with
  | 0 => ("LakeRelief$Relief", "height", "[I", true)
  | 1 => ("LakeRelief$Relief", "down", "[I", true)
  | 2 => ("LakeRelief$Relief", "wayEnd", "[I", true)
  | 3 => ("LakeRelief$Relief", "fill", "[I", true)
  | 4 => ("LakeRelief$Relief", "order", "[I", true)
  | 5 => ("LakeRelief$Relief", "neighbours", "[I", true)
  | 6 => ("LakeRelief$Relief", "waiting", "[I", true)
  | 7 => ("LakeRelief$Relief", "width", "I", false)
  | 8 => ("LakeRelief$Relief", "size", "I", false)
  | 9 => ("LakeRelief$Relief", "landCount", "I", false)
  | _ => ("LakeRelief$Relief", "land", "J", false)
def t_RE : Nat → FieldType := fun k => match k with
  | 0 => .array .int
  | 1 => .array .int
  | 2 => .array .int
  | 3 => .array .int
  | 4 => .array .int
  | 5 => .array .int
  | 6 => .array .int
  | 7 => .int
  | 8 => .int
  | 9 => .int
  | _ => .long
theorem n_RE : ∀ a, a < 11 → ∀ b, b < 11 → a ≠ b → (T_RE a).2.1 ≠ (T_RE b).2.1 := by decide +kernel
theorem t_RE_ok : ∀ k, k < 11 → parseFieldDescriptor (T_RE k).2.2.1 = some (t_RE k) := by decide +kernel
theorem i0_RE : ∀ w ∈ u_ws R_RE T_RE 11, w ∈ lw_tbl := by decide +kernel
theorem i_RE : ∀ w ∈ u_ws R_RE T_RE 11, w ∈ lw_tbl.filter goodWord := fun w h => List.mem_filter.mpr ⟨i0_RE w h, List.all_eq_true.mp (by decide +kernel : (u_ws R_RE T_RE 11).all goodWord = true) w h⟩
def R_ST : String := "LakeRelief$Strip"
def T_ST : u_T := fun k => match k with
  | 0 => ("LakeRelief$Strip", "places", "[I", true)
  | 1 => ("LakeRelief$Strip", "kind", "I", false)
  | _ => ("LakeRelief$Strip", "length", "I", false)
def t_ST : Nat → FieldType := fun k => match k with
  | 0 => .array .int
  | 1 => .int
  | _ => .int
theorem n_ST : ∀ a, a < 3 → ∀ b, b < 3 → a ≠ b → (T_ST a).2.1 ≠ (T_ST b).2.1 := by decide +kernel
theorem t_ST_ok : ∀ k, k < 3 → parseFieldDescriptor (T_ST k).2.2.1 = some (t_ST k) := by decide +kernel
theorem i0_ST : ∀ w ∈ u_ws R_ST T_ST 3, w ∈ lw_tbl := by decide +kernel
theorem i_ST : ∀ w ∈ u_ws R_ST T_ST 3, w ∈ lw_tbl.filter goodWord := fun w h => List.mem_filter.mpr ⟨i0_ST w h, List.all_eq_true.mp (by decide +kernel : (u_ws R_ST T_ST 3).all goodWord = true) w h⟩
def R_LR : String := "LakeRelief"
def T_LR : u_T := fun k => match k with
  | 0 => ("LakeRelief", "strips", "[LLakeRelief$Strip;", true)
  | 1 => ("LakeRelief", "relief", "LLakeRelief$Relief;", true)
  | 2 => ("LakeRelief", "lakes", "LLakeRelief$Lakes;", true)
  | _ => ("LakeRelief", "isLaid", "Z", false)
def t_LR : Nat → FieldType := fun k => match k with
  | 0 => .array (.object "LakeRelief$Strip")
  | 1 => .object "LakeRelief$Relief"
  | 2 => .object "LakeRelief$Lakes"
  | _ => .boolean
theorem n_LR : ∀ a, a < 4 → ∀ b, b < 4 → a ≠ b → (T_LR a).2.1 ≠ (T_LR b).2.1 := by decide +kernel
theorem t_LR_ok : ∀ k, k < 4 → parseFieldDescriptor (T_LR k).2.2.1 = some (t_LR k) := by decide +kernel
theorem i0_LR : ∀ w ∈ u_ws R_LR T_LR 4, w ∈ lw_tbl := by decide +kernel
theorem i_LR : ∀ w ∈ u_ws R_LR T_LR 4, w ∈ lw_tbl.filter goodWord := fun w h => List.mem_filter.mpr ⟨i0_LR w h, List.all_eq_true.mp (by decide +kernel : (u_ws R_LR T_LR 4).all goodWord = true) w h⟩
def R_MO : String := "LakeReliefModel"
def T_MO : u_T := fun k => match k with
  | 0 => ("LakeReliefModel", "kind", "[I", true)
  | 1 => ("LakeReliefModel", "size", "[I", true)
  | 2 => ("LakeReliefModel", "strips", "[I", true)
  | 3 => ("LakeReliefModel", "isLaid", "Z", false)
  | 4 => ("LakeReliefModel", "wide", "I", false)
  | 5 => ("LakeReliefModel", "fields", "I", false)
  | 6 => ("LakeReliefModel", "isSea", "[Z", true)
  | 7 => ("LakeReliefModel", "height", "[I", true)
  | 8 => ("LakeReliefModel", "down", "[I", true)
  | 9 => ("LakeReliefModel", "wayEnd", "[I", true)
  | 10 => ("LakeReliefModel", "fill", "[I", true)
  | 11 => ("LakeReliefModel", "lakes", "I", false)
  | 12 => ("LakeReliefModel", "isDouble", "[Z", true)
  | 13 => ("LakeReliefModel", "ground", "[J", true)
  | 14 => ("LakeReliefModel", "rim", "[I", true)
  | 15 => ("LakeReliefModel", "above", "[I", true)
  | 16 => ("LakeReliefModel", "first", "[I", true)
  | 17 => ("LakeReliefModel", "second", "[I", true)
  | 18 => ("LakeReliefModel", "isThere", "[Z", true)
  | 19 => ("LakeReliefModel", "water", "[I", true)
  | 20 => ("LakeReliefModel", "gone", "J", false)
  | 21 => ("LakeReliefModel", "poured", "J", false)
  | 22 => ("LakeReliefModel", "middle", "[I", true)
  | 23 => ("LakeReliefModel", "owner", "[I", true)
  | 24 => ("LakeReliefModel", "isUnder", "[Z", true)
  | 25 => ("LakeReliefModel", "near", "[I", true)
  | 26 => ("LakeReliefModel", "nearMany", "I", false)
  | 27 => ("LakeReliefModel", "heights", "[I", true)
  | _ => ("LakeReliefModel", "island", "[I", true)
def t_MO : Nat → FieldType := fun k => match k with
  | 0 => .array .int
  | 1 => .array .int
  | 2 => .array .int
  | 3 => .boolean
  | 4 => .int
  | 5 => .int
  | 6 => .array .boolean
  | 7 => .array .int
  | 8 => .array .int
  | 9 => .array .int
  | 10 => .array .int
  | 11 => .int
  | 12 => .array .boolean
  | 13 => .array .long
  | 14 => .array .int
  | 15 => .array .int
  | 16 => .array .int
  | 17 => .array .int
  | 18 => .array .boolean
  | 19 => .array .int
  | 20 => .long
  | 21 => .long
  | 22 => .array .int
  | 23 => .array .int
  | 24 => .array .boolean
  | 25 => .array .int
  | 26 => .int
  | 27 => .array .int
  | _ => .array .int
theorem n_MO : ∀ a, a < 29 → ∀ b, b < 29 → a ≠ b → (T_MO a).2.1 ≠ (T_MO b).2.1 := by decide +kernel
theorem t_MO_ok : ∀ k, k < 29 → parseFieldDescriptor (T_MO k).2.2.1 = some (t_MO k) := by decide +kernel
theorem i0_MO : ∀ w ∈ u_ws R_MO T_MO 29, w ∈ lw_tbl := by decide +kernel
theorem i_MO : ∀ w ∈ u_ws R_MO T_MO 29, w ∈ lw_tbl.filter goodWord := fun w h => List.mem_filter.mpr ⟨i0_MO w h, List.all_eq_true.mp (by decide +kernel : (u_ws R_MO T_MO 29).all goodWord = true) w h⟩
abbrev cls : List vw_C := [(R_LA, T_LA, 8), (R_LK, T_LK, 6), (R_RE, T_RE, 11), (R_ST, T_ST, 3), (R_LR, T_LR, 4), (R_MO, T_MO, 29)]
def y_LA_init : MethodName := ⟨"LakeRelief$Lake", "<init>", "()V"⟩
def y_LA_begin : MethodName := ⟨"LakeRelief$Lake", "begin", "(JII)V"⟩
def y_LA_isDouble : MethodName := ⟨"LakeRelief$Lake", "isDouble", "()Z"⟩
def y_LA_isFull : MethodName := ⟨"LakeRelief$Lake", "isFull", "()Z"⟩
def y_LA_spillAt : MethodName := ⟨"LakeRelief$Lake", "spillAt", "(II)V"⟩
def y_LA_appear : MethodName := ⟨"LakeRelief$Lake", "appear", "(I)V"⟩
def y_LA_vanish : MethodName := ⟨"LakeRelief$Lake", "vanish", "()V"⟩
def y_LK_init : MethodName := ⟨"LakeRelief$Lakes", "<init>", "(LLakeRelief$Relief;)V"⟩
def y_LK_isLake : MethodName := ⟨"LakeRelief$Lakes", "isLake", "(I)Z"⟩
def y_LK_isLevelOf : MethodName := ⟨"LakeRelief$Lakes", "isLevelOf", "(II)Z"⟩
def y_LK_come : MethodName := ⟨"LakeRelief$Lakes", "come", "()V"⟩
def y_LK_measure : MethodName := ⟨"LakeRelief$Lakes", "measure", "(LLakeRelief$Lake;)V"⟩
def y_LK_goUnder : MethodName := ⟨"LakeRelief$Lakes", "goUnder", "(I)V"⟩
def y_LK_isBesideSeas : MethodName := ⟨"LakeRelief$Lakes", "isBesideSeas", "(I)Z"⟩
def y_LK_topsBeside : MethodName := ⟨"LakeRelief$Lakes", "topsBeside", "(I)J"⟩
def y_LK_topWith : MethodName := ⟨"LakeRelief$Lakes", "topWith", "(I)I"⟩
def y_LK_spillToSea : MethodName := ⟨"LakeRelief$Lakes", "spillToSea", "(JI)V"⟩
def y_LK_joinAt : MethodName := ⟨"LakeRelief$Lakes", "joinAt", "(JI)I"⟩
def y_LK_makeDouble : MethodName := ⟨"LakeRelief$Lakes", "makeDouble", "(III)I"⟩
def y_LK_make : MethodName := ⟨"LakeRelief$Lakes", "make", "(JII)I"⟩
def y_LK_thereWith : MethodName := ⟨"LakeRelief$Lakes", "thereWith", "(I)I"⟩
def y_LK_numberThere : MethodName := ⟨"LakeRelief$Lakes", "numberThere", "()I"⟩
def y_LK_waterThere : MethodName := ⟨"LakeRelief$Lakes", "waterThere", "()J"⟩
def y_LK_takeGrains : MethodName := ⟨"LakeRelief$Lakes", "takeGrains", "(II)I"⟩
def y_LK_lakeBelow : MethodName := ⟨"LakeRelief$Lakes", "lakeBelow", "(I)I"⟩
def y_LK_runDown : MethodName := ⟨"LakeRelief$Lakes", "runDown", "(II)I"⟩
def y_LK_fillUp : MethodName := ⟨"LakeRelief$Lakes", "fillUp", "(LLakeRelief$Lake;I)I"⟩
def y_LK_next : MethodName := ⟨"LakeRelief$Lakes", "next", "(I)I"⟩
def y_LK_join : MethodName := ⟨"LakeRelief$Lakes", "join", "(LLakeRelief$Lake;LLakeRelief$Lake;LLakeRelief$Lake;)V"⟩
def y_RE_init : MethodName := ⟨"LakeRelief$Relief", "<init>", "()V"⟩
def y_RE_flood : MethodName := ⟨"LakeRelief$Relief", "flood", "(II)V"⟩
def y_RE_raiseLand : MethodName := ⟨"LakeRelief$Relief", "raiseLand", "(II)V"⟩
def y_RE_survey : MethodName := ⟨"LakeRelief$Relief", "survey", "()V"⟩
def y_RE_isField : MethodName := ⟨"LakeRelief$Relief", "isField", "(I)Z"⟩
def y_RE_isLand : MethodName := ⟨"LakeRelief$Relief", "isLand", "(I)Z"⟩
def y_RE_isLower : MethodName := ⟨"LakeRelief$Relief", "isLower", "(II)Z"⟩
def y_RE_findNeighbours : MethodName := ⟨"LakeRelief$Relief", "findNeighbours", "()V"⟩
def y_RE_landOrSea : MethodName := ⟨"LakeRelief$Relief", "landOrSea", "(I)I"⟩
def y_RE_sortLand : MethodName := ⟨"LakeRelief$Relief", "sortLand", "()V"⟩
def y_RE_insertByHeight : MethodName := ⟨"LakeRelief$Relief", "insertByHeight", "(II)V"⟩
def y_RE_beside : MethodName := ⟨"LakeRelief$Relief", "beside", "(II)I"⟩
def y_RE_isBesideSea : MethodName := ⟨"LakeRelief$Relief", "isBesideSea", "(I)Z"⟩
def y_RE_lowestBeside : MethodName := ⟨"LakeRelief$Relief", "lowestBeside", "(IJ)I"⟩
def y_RE_findWays : MethodName := ⟨"LakeRelief$Relief", "findWays", "()V"⟩
def y_RE_downOf : MethodName := ⟨"LakeRelief$Relief", "downOf", "(I)I"⟩
def y_RE_findFills : MethodName := ⟨"LakeRelief$Relief", "findFills", "()V"⟩
def y_RE_lowerFills : MethodName := ⟨"LakeRelief$Relief", "lowerFills", "()Z"⟩
def y_RE_leastFillBeside : MethodName := ⟨"LakeRelief$Relief", "leastFillBeside", "(I)I"⟩
def y_RE_isHollow : MethodName := ⟨"LakeRelief$Relief", "isHollow", "(I)Z"⟩
def y_RE_hollowCount : MethodName := ⟨"LakeRelief$Relief", "hollowCount", "()I"⟩
def y_RE_hollowAt : MethodName := ⟨"LakeRelief$Relief", "hollowAt", "(I)I"⟩
def y_RE_lowestOf : MethodName := ⟨"LakeRelief$Relief", "lowestOf", "(J)I"⟩
def y_RE_roomBelow : MethodName := ⟨"LakeRelief$Relief", "roomBelow", "(JI)I"⟩
def y_RE_countBelow : MethodName := ⟨"LakeRelief$Relief", "countBelow", "(JI)I"⟩
def y_RE_surface : MethodName := ⟨"LakeRelief$Relief", "surface", "(JIZ)I"⟩
def y_RE_greatestDivisor : MethodName := ⟨"LakeRelief$Relief", "greatestDivisor", "(II)I"⟩
def y_RE_landLeftAt : MethodName := ⟨"LakeRelief$Relief", "landLeftAt", "(I)J"⟩
def y_RE_piecesOf : MethodName := ⟨"LakeRelief$Relief", "piecesOf", "(J)I"⟩
def y_RE_withoutPieceAt : MethodName := ⟨"LakeRelief$Relief", "withoutPieceAt", "(IJ)J"⟩
def y_ST_init : MethodName := ⟨"LakeRelief$Strip", "<init>", "()V"⟩
def y_ST_become : MethodName := ⟨"LakeRelief$Strip", "become", "(II)V"⟩
def y_ST_hasPlace : MethodName := ⟨"LakeRelief$Strip", "hasPlace", "(I)Z"⟩
def y_ST_hasRun : MethodName := ⟨"LakeRelief$Strip", "hasRun", "(II)Z"⟩
def y_ST_keep : MethodName := ⟨"LakeRelief$Strip", "keep", "(II)V"⟩
def y_LR_init : MethodName := ⟨"LakeRelief", "<init>", "()V"⟩
def y_LR_strip : MethodName := ⟨"LakeRelief", "strip", "(III)I"⟩
def y_LR_put : MethodName := ⟨"LakeRelief", "put", "(III)I"⟩
def y_LR_copy : MethodName := ⟨"LakeRelief", "copy", "(IIIII)I"⟩
def y_LR_told : MethodName := ⟨"LakeRelief", "told", "(II)J"⟩
def y_LR_lay : MethodName := ⟨"LakeRelief", "lay", "(II)I"⟩
def y_LR_field : MethodName := ⟨"LakeRelief", "field", "(II)I"⟩
def y_LR_hollow : MethodName := ⟨"LakeRelief", "hollow", "(I)I"⟩
def y_LR_lake : MethodName := ⟨"LakeRelief", "lake", "(II)I"⟩
def y_LR_ground : MethodName := ⟨"LakeRelief", "ground", "(II)I"⟩
def y_LR_holds : MethodName := ⟨"LakeRelief", "holds", "(II)I"⟩
def y_LR_area : MethodName := ⟨"LakeRelief", "area", "(II)I"⟩
def y_LR_pour : MethodName := ⟨"LakeRelief", "pour", "(II)I"⟩
def y_LR_level : MethodName := ⟨"LakeRelief", "level", "(II)I"⟩
def y_LR_rise : MethodName := ⟨"LakeRelief", "rise", "(I)I"⟩
def y_LR_islands : MethodName := ⟨"LakeRelief", "islands", "(I)I"⟩
def y_LR_count : MethodName := ⟨"LakeRelief", "count", "(I)J"⟩
def y_LR_isStrip : MethodName := ⟨"LakeRelief", "isStrip", "(I)Z"⟩
def y_LR_refusalOfPlace : MethodName := ⟨"LakeRelief", "refusalOfPlace", "(II)I"⟩
def y_LR_canBeLaid : MethodName := ⟨"LakeRelief", "canBeLaid", "(II)Z"⟩
def y_LR_layLine : MethodName := ⟨"LakeRelief", "layLine", "(II)V"⟩
def y_LR_isHeight : MethodName := ⟨"LakeRelief", "isHeight", "(I)Z"⟩
def y_LR_isSeaLevel : MethodName := ⟨"LakeRelief", "isSeaLevel", "(I)Z"⟩
def y_LR_isIn : MethodName := ⟨"LakeRelief", "isIn", "(JI)Z"⟩
def y_LR_only : MethodName := ⟨"LakeRelief", "only", "(I)J"⟩
def y_MO_init : MethodName := ⟨"LakeReliefModel", "<init>", "()V"⟩
def y_MO_in : MethodName := ⟨"LakeReliefModel", "in", "(JJJ)Z"⟩
def y_MO_isStrip : MethodName := ⟨"LakeReliefModel", "isStrip", "(I)Z"⟩
def y_MO_strip : MethodName := ⟨"LakeReliefModel", "strip", "(III)I"⟩
def y_MO_against : MethodName := ⟨"LakeReliefModel", "against", "(II)I"⟩
def y_MO_put : MethodName := ⟨"LakeReliefModel", "put", "(III)I"⟩
def y_MO_copy : MethodName := ⟨"LakeReliefModel", "copy", "(IIIII)I"⟩
def y_MO_told : MethodName := ⟨"LakeReliefModel", "told", "(II)J"⟩
def y_MO_beside : MethodName := ⟨"LakeReliefModel", "beside", "(II)I"⟩
def y_MO_isWet : MethodName := ⟨"LakeReliefModel", "isWet", "(I)Z"⟩
def y_MO_isLower : MethodName := ⟨"LakeReliefModel", "isLower", "(II)Z"⟩
def y_MO_layDown : MethodName := ⟨"LakeReliefModel", "layDown", "(I)V"⟩
def y_MO_endOf : MethodName := ⟨"LakeReliefModel", "endOf", "(I)I"⟩
def y_MO_layFill : MethodName := ⟨"LakeReliefModel", "layFill", "()V"⟩
def y_MO_newLake : MethodName := ⟨"LakeReliefModel", "newLake", "()I"⟩
def y_MO_joins : MethodName := ⟨"LakeReliefModel", "joins", "(II)V"⟩
def y_MO_becomes : MethodName := ⟨"LakeReliefModel", "becomes", "(II)V"⟩
def y_MO_lookBeside : MethodName := ⟨"LakeReliefModel", "lookBeside", "(I)Z"⟩
def y_MO_twice : MethodName := ⟨"LakeReliefModel", "twice", "(III)I"⟩
def y_MO_goUnder : MethodName := ⟨"LakeReliefModel", "goUnder", "(I)V"⟩
def y_MO_layLakes : MethodName := ⟨"LakeReliefModel", "layLakes", "()V"⟩
def y_MO_stripAt : MethodName := ⟨"LakeReliefModel", "stripAt", "(II)I"⟩
def y_MO_isPlace : MethodName := ⟨"LakeReliefModel", "isPlace", "(II)Z"⟩
def y_MO_lay : MethodName := ⟨"LakeReliefModel", "lay", "(II)I"⟩
def y_MO_isField : MethodName := ⟨"LakeReliefModel", "isField", "(I)Z"⟩
def y_MO_isOf : MethodName := ⟨"LakeReliefModel", "isOf", "(II)Z"⟩
def y_MO_lakeAt : MethodName := ⟨"LakeReliefModel", "lakeAt", "(I)I"⟩
def y_MO_field : MethodName := ⟨"LakeReliefModel", "field", "(II)I"⟩
def y_MO_hollow : MethodName := ⟨"LakeReliefModel", "hollow", "(I)I"⟩
def y_MO_isLake : MethodName := ⟨"LakeReliefModel", "isLake", "(I)Z"⟩
def y_MO_holdsTo : MethodName := ⟨"LakeReliefModel", "holdsTo", "(II)I"⟩
def y_MO_most : MethodName := ⟨"LakeReliefModel", "most", "(I)I"⟩
def y_MO_lowest : MethodName := ⟨"LakeReliefModel", "lowest", "(I)I"⟩
def y_MO_groundSize : MethodName := ⟨"LakeReliefModel", "groundSize", "(I)I"⟩
def y_MO_lake : MethodName := ⟨"LakeReliefModel", "lake", "(II)I"⟩
def y_MO_ground : MethodName := ⟨"LakeReliefModel", "ground", "(II)I"⟩
def y_MO_against0 : MethodName := ⟨"LakeReliefModel", "against0", "(II)I"⟩
def y_MO_holds : MethodName := ⟨"LakeReliefModel", "holds", "(II)I"⟩
def y_MO_area : MethodName := ⟨"LakeReliefModel", "area", "(II)I"⟩
def y_MO_over : MethodName := ⟨"LakeReliefModel", "over", "(I)I"⟩
def y_MO_pour : MethodName := ⟨"LakeReliefModel", "pour", "(II)I"⟩
def y_MO_common : MethodName := ⟨"LakeReliefModel", "common", "(II)I"⟩
def y_MO_layHeights : MethodName := ⟨"LakeReliefModel", "layHeights", "(I)I"⟩
def y_MO_level : MethodName := ⟨"LakeReliefModel", "level", "(II)I"⟩
def y_MO_rise : MethodName := ⟨"LakeReliefModel", "rise", "(I)I"⟩
def y_MO_islands : MethodName := ⟨"LakeReliefModel", "islands", "(I)I"⟩
def y_MO_count : MethodName := ⟨"LakeReliefModel", "count", "(I)J"⟩
def y_JL_bitCount : MethodName := ⟨"java/lang/Long", "bitCount", "(J)I"⟩
def y_JM_abs : MethodName := ⟨"java/lang/Math", "abs", "(I)I"⟩
def y_JM_max : MethodName := ⟨"java/lang/Math", "max", "(II)I"⟩
def y_JM_min : MethodName := ⟨"java/lang/Math", "min", "(II)I"⟩
end
section
def lw_ok : List Cond := lw_tbl.filter goodWord
theorem wok {w : Cond} (h : w ∈ lw_tbl) (g : goodWord w = true) : w ∈ lw_ok := List.mem_filter.mpr ⟨h, g⟩
theorem ok_good : ∀ w ∈ lw_ok, ((w.onTables && w.keeps) = true ∨ ∃ ty, w = .arrayClass ty) := fun w hw => good_of_word (List.mem_filter.mp hw).2
theorem ok_in {y : MethodName} {b : ByteArray} {n : Nat} {r : Option FieldType} (h : Cond.code y b n r ∈ lw_ok) : GoodIn lw_ok (Cond.code y b n r :: lw_ok) := fun w hw => (List.mem_cons.mp hw).elim (fun e => by rw [e]; exact ⟨h, ok_good _ h⟩) (fun h2 => ⟨h2, ok_good _ h2⟩)
theorem in_0 : (Cond.initialized "LakeReliefLaw") ∈ lw_ok := wok (List.mem_append_right _ (List.mem_of_getElem? (i := 0) (by decide +kernel))) rfl
theorem in_1 : (Cond.initialized "LakeRelief") ∈ lw_ok := wok (List.mem_append_right _ (List.mem_of_getElem? (i := 1) (by decide +kernel))) rfl
theorem in_2 : (Cond.initialized "LakeRelief$Strip") ∈ lw_ok := wok (List.mem_append_right _ (List.mem_of_getElem? (i := 2) (by decide +kernel))) rfl
theorem in_3 : (Cond.initialized "LakeRelief$Relief") ∈ lw_ok := wok (List.mem_append_right _ (List.mem_of_getElem? (i := 3) (by decide +kernel))) rfl
theorem in_4 : (Cond.initialized "LakeRelief$Lakes") ∈ lw_ok := wok (List.mem_append_right _ (List.mem_of_getElem? (i := 4) (by decide +kernel))) rfl
theorem in_5 : (Cond.initialized "LakeRelief$Lake") ∈ lw_ok := wok (List.mem_append_right _ (List.mem_of_getElem? (i := 5) (by decide +kernel))) rfl
theorem in_6 : (Cond.initialized "java/lang/Math") ∈ lw_ok := wok (List.mem_append_right _ (List.mem_of_getElem? (i := 6) (by decide +kernel))) rfl
theorem in_7 : (Cond.initialized "LakeReliefModel") ∈ lw_ok := wok (List.mem_append_right _ (List.mem_of_getElem? (i := 7) (by decide +kernel))) rfl
theorem in_8 : (Cond.initialized "java/lang/System") ∈ lw_ok := wok (List.mem_append_right _ (List.mem_of_getElem? (i := 8) (by decide +kernel))) rfl
theorem in_9 : (Cond.initialized "java/lang/Long") ∈ lw_ok := wok (List.mem_append_right _ (List.mem_of_getElem? (i := 9) (by decide +kernel))) rfl
theorem in_10 : (Cond.classLink "LakeReliefLaw" 7 "LakeRelief") ∈ lw_ok := wok (List.mem_append_right _ (List.mem_of_getElem? (i := 10) (by decide +kernel))) rfl
theorem in_11 : (Cond.instantiable "LakeRelief" 4) ∈ lw_ok := wok (List.mem_append_right _ (List.mem_of_getElem? (i := 11) (by decide +kernel))) rfl
theorem in_12 : (Cond.methodLink "LakeReliefLaw" 9 y_LR_init) ∈ lw_ok := wok (List.mem_append_right _ (List.mem_of_getElem? (i := 12) (by decide +kernel))) rfl
theorem in_13 : (Cond.instanceMethod y_LR_init) ∈ lw_ok := wok (List.mem_append_right _ (List.mem_of_getElem? (i := 13) (by decide +kernel))) rfl
set_option maxRecDepth 20000 in
theorem in_14 : (Cond.code y_LR_init prog_1_method_1_code 2 (Option.none : Option Jvm.ClassFile.FieldType)) ∈ lw_ok := wok (List.mem_append_right _ (List.mem_of_getElem? (i := 14) rfl)) rfl
theorem in_15 : (Cond.methodLink "LakeRelief" 1 (⟨"java/lang/Object", "<init>", "()V"⟩ : MethodName)) ∈ lw_ok := wok (List.mem_append_right _ (List.mem_of_getElem? (i := 15) (by decide +kernel))) rfl
theorem in_16 : (Cond.instanceMethod (⟨"java/lang/Object", "<init>", "()V"⟩ : MethodName)) ∈ lw_ok := wok (List.mem_append_right _ (List.mem_of_getElem? (i := 16) (by decide +kernel))) rfl
set_option maxRecDepth 20000 in
theorem in_17 : (Cond.code (⟨"java/lang/Object", "<init>", "()V"⟩ : MethodName) object_method_1_code 1 (Option.none : Option Jvm.ClassFile.FieldType)) ∈ lw_ok := wok (List.mem_append_right _ (List.mem_of_getElem? (i := 17) rfl)) rfl
theorem in_18 : (Cond.classLink "LakeRelief" 9 "LakeRelief$Strip") ∈ lw_ok := wok (List.mem_append_right _ (List.mem_of_getElem? (i := 18) (by decide +kernel))) rfl
theorem in_20 : (Cond.instantiable "LakeRelief$Strip" 3) ∈ lw_ok := wok (List.mem_append_right _ (List.mem_of_getElem? (i := 20) (by decide +kernel))) rfl
theorem in_21 : (Cond.methodLink "LakeRelief" 15 y_ST_init) ∈ lw_ok := wok (List.mem_append_right _ (List.mem_of_getElem? (i := 21) (by decide +kernel))) rfl
theorem in_22 : (Cond.instanceMethod y_ST_init) ∈ lw_ok := wok (List.mem_append_right _ (List.mem_of_getElem? (i := 22) (by decide +kernel))) rfl
set_option maxRecDepth 20000 in
theorem in_23 : (Cond.code y_ST_init prog_5_method_1_code 1 (Option.none : Option Jvm.ClassFile.FieldType)) ∈ lw_ok := wok (List.mem_append_right _ (List.mem_of_getElem? (i := 23) rfl)) rfl
theorem in_24 : (Cond.methodLink "LakeRelief$Strip" 3 (⟨"java/lang/Object", "<init>", "()V"⟩ : MethodName)) ∈ lw_ok := wok (List.mem_append_right _ (List.mem_of_getElem? (i := 24) (by decide +kernel))) rfl
theorem in_25 : (Cond.fieldLink "LakeRelief$Strip" 9 "LakeRelief$Strip" "places" "[I") ∈ lw_ok := wok (List.mem_append_right _ (List.mem_of_getElem? (i := 25) (by decide +kernel))) rfl
theorem in_26 : (Cond.fieldLink "LakeRelief" 59 "LakeRelief$Strip" "places" "[I") ∈ lw_ok := wok (List.mem_append_right _ (List.mem_of_getElem? (i := 26) (by decide +kernel))) rfl
theorem in_27 : (Cond.fieldLink "LakeRelief$Strip" 15 "LakeRelief$Strip" "kind" "I") ∈ lw_ok := wok (List.mem_append_right _ (List.mem_of_getElem? (i := 27) (by decide +kernel))) rfl
theorem in_28 : (Cond.fieldLink "LakeRelief" 51 "LakeRelief$Strip" "kind" "I") ∈ lw_ok := wok (List.mem_append_right _ (List.mem_of_getElem? (i := 28) (by decide +kernel))) rfl
theorem in_29 : (Cond.fieldLink "LakeRelief$Strip" 19 "LakeRelief$Strip" "length" "I") ∈ lw_ok := wok (List.mem_append_right _ (List.mem_of_getElem? (i := 29) (by decide +kernel))) rfl
theorem in_38 : (Cond.classLink "LakeRelief" 16 "LakeRelief$Relief") ∈ lw_ok := wok (List.mem_append_right _ (List.mem_of_getElem? (i := 38) (by decide +kernel))) rfl
theorem in_39 : (Cond.instantiable "LakeRelief$Relief" 11) ∈ lw_ok := wok (List.mem_append_right _ (List.mem_of_getElem? (i := 39) (by decide +kernel))) rfl
theorem in_40 : (Cond.methodLink "LakeRelief" 18 y_RE_init) ∈ lw_ok := wok (List.mem_append_right _ (List.mem_of_getElem? (i := 40) (by decide +kernel))) rfl
theorem in_41 : (Cond.instanceMethod y_RE_init) ∈ lw_ok := wok (List.mem_append_right _ (List.mem_of_getElem? (i := 41) (by decide +kernel))) rfl
set_option maxRecDepth 20000 in
theorem in_42 : (Cond.code y_RE_init prog_4_method_1_code 1 (Option.none : Option Jvm.ClassFile.FieldType)) ∈ lw_ok := wok (List.mem_append_right _ (List.mem_of_getElem? (i := 42) rfl)) rfl
theorem in_43 : (Cond.methodLink "LakeRelief$Relief" 3 (⟨"java/lang/Object", "<init>", "()V"⟩ : MethodName)) ∈ lw_ok := wok (List.mem_append_right _ (List.mem_of_getElem? (i := 43) (by decide +kernel))) rfl
theorem in_44 : (Cond.fieldLink "LakeRelief$Relief" 9 "LakeRelief$Relief" "height" "[I") ∈ lw_ok := wok (List.mem_append_right _ (List.mem_of_getElem? (i := 44) (by decide +kernel))) rfl
theorem in_45 : (Cond.fieldLink "LakeRelief$Lakes" 49 "LakeRelief$Relief" "height" "[I") ∈ lw_ok := wok (List.mem_append_right _ (List.mem_of_getElem? (i := 45) (by decide +kernel))) rfl
theorem in_46 : (Cond.fieldLink "LakeRelief" 97 "LakeRelief$Relief" "height" "[I") ∈ lw_ok := wok (List.mem_append_right _ (List.mem_of_getElem? (i := 46) (by decide +kernel))) rfl
theorem in_47 : (Cond.fieldLink "LakeRelief$Relief" 15 "LakeRelief$Relief" "down" "[I") ∈ lw_ok := wok (List.mem_append_right _ (List.mem_of_getElem? (i := 47) (by decide +kernel))) rfl
theorem in_48 : (Cond.fieldLink "LakeRelief" 100 "LakeRelief$Relief" "down" "[I") ∈ lw_ok := wok (List.mem_append_right _ (List.mem_of_getElem? (i := 48) (by decide +kernel))) rfl
theorem in_49 : (Cond.fieldLink "LakeRelief$Relief" 18 "LakeRelief$Relief" "wayEnd" "[I") ∈ lw_ok := wok (List.mem_append_right _ (List.mem_of_getElem? (i := 49) (by decide +kernel))) rfl
theorem in_50 : (Cond.fieldLink "LakeRelief" 103 "LakeRelief$Relief" "wayEnd" "[I") ∈ lw_ok := wok (List.mem_append_right _ (List.mem_of_getElem? (i := 50) (by decide +kernel))) rfl
theorem in_51 : (Cond.fieldLink "LakeRelief$Lakes" 152 "LakeRelief$Relief" "wayEnd" "[I") ∈ lw_ok := wok (List.mem_append_right _ (List.mem_of_getElem? (i := 51) (by decide +kernel))) rfl
theorem in_52 : (Cond.fieldLink "LakeRelief$Relief" 21 "LakeRelief$Relief" "fill" "[I") ∈ lw_ok := wok (List.mem_append_right _ (List.mem_of_getElem? (i := 52) (by decide +kernel))) rfl
theorem in_53 : (Cond.fieldLink "LakeRelief" 106 "LakeRelief$Relief" "fill" "[I") ∈ lw_ok := wok (List.mem_append_right _ (List.mem_of_getElem? (i := 53) (by decide +kernel))) rfl
theorem in_54 : (Cond.fieldLink "LakeRelief$Relief" 24 "LakeRelief$Relief" "order" "[I") ∈ lw_ok := wok (List.mem_append_right _ (List.mem_of_getElem? (i := 54) (by decide +kernel))) rfl
theorem in_55 : (Cond.fieldLink "LakeRelief$Lakes" 56 "LakeRelief$Relief" "order" "[I") ∈ lw_ok := wok (List.mem_append_right _ (List.mem_of_getElem? (i := 55) (by decide +kernel))) rfl
theorem in_56 : (Cond.fieldLink "LakeRelief$Relief" 27 "LakeRelief$Relief" "neighbours" "[I") ∈ lw_ok := wok (List.mem_append_right _ (List.mem_of_getElem? (i := 56) (by decide +kernel))) rfl
theorem in_57 : (Cond.fieldLink "LakeRelief$Relief" 30 "LakeRelief$Relief" "waiting" "[I") ∈ lw_ok := wok (List.mem_append_right _ (List.mem_of_getElem? (i := 57) (by decide +kernel))) rfl
theorem in_58 : (Cond.fieldLink "LakeRelief$Relief" 33 "LakeRelief$Relief" "width" "I") ∈ lw_ok := wok (List.mem_append_right _ (List.mem_of_getElem? (i := 58) (by decide +kernel))) rfl
theorem in_59 : (Cond.fieldLink "LakeRelief$Relief" 37 "LakeRelief$Relief" "size" "I") ∈ lw_ok := wok (List.mem_append_right _ (List.mem_of_getElem? (i := 59) (by decide +kernel))) rfl
theorem in_60 : (Cond.fieldLink "LakeRelief" 197 "LakeRelief$Relief" "size" "I") ∈ lw_ok := wok (List.mem_append_right _ (List.mem_of_getElem? (i := 60) (by decide +kernel))) rfl
theorem in_61 : (Cond.fieldLink "LakeRelief$Relief" 40 "LakeRelief$Relief" "landCount" "I") ∈ lw_ok := wok (List.mem_append_right _ (List.mem_of_getElem? (i := 61) (by decide +kernel))) rfl
theorem in_62 : (Cond.fieldLink "LakeRelief$Lakes" 53 "LakeRelief$Relief" "landCount" "I") ∈ lw_ok := wok (List.mem_append_right _ (List.mem_of_getElem? (i := 62) (by decide +kernel))) rfl
theorem in_63 : (Cond.fieldLink "LakeRelief" 86 "LakeRelief$Relief" "landCount" "I") ∈ lw_ok := wok (List.mem_append_right _ (List.mem_of_getElem? (i := 63) (by decide +kernel))) rfl
theorem in_64 : (Cond.fieldLink "LakeRelief$Relief" 43 "LakeRelief$Relief" "land" "J") ∈ lw_ok := wok (List.mem_append_right _ (List.mem_of_getElem? (i := 64) (by decide +kernel))) rfl
theorem in_88 : (Cond.classLink "LakeRelief" 23 "LakeRelief$Lakes") ∈ lw_ok := wok (List.mem_append_right _ (List.mem_of_getElem? (i := 88) (by decide +kernel))) rfl
theorem in_89 : (Cond.instantiable "LakeRelief$Lakes" 6) ∈ lw_ok := wok (List.mem_append_right _ (List.mem_of_getElem? (i := 89) (by decide +kernel))) rfl
theorem in_90 : (Cond.methodLink "LakeRelief" 25 y_LK_init) ∈ lw_ok := wok (List.mem_append_right _ (List.mem_of_getElem? (i := 90) (by decide +kernel))) rfl
theorem in_91 : (Cond.instanceMethod y_LK_init) ∈ lw_ok := wok (List.mem_append_right _ (List.mem_of_getElem? (i := 91) (by decide +kernel))) rfl
set_option maxRecDepth 20000 in
theorem in_92 : (Cond.code y_LK_init prog_3_method_1_code 3 (Option.none : Option Jvm.ClassFile.FieldType)) ∈ lw_ok := wok (List.mem_append_right _ (List.mem_of_getElem? (i := 92) rfl)) rfl
theorem in_93 : (Cond.methodLink "LakeRelief$Lakes" 3 (⟨"java/lang/Object", "<init>", "()V"⟩ : MethodName)) ∈ lw_ok := wok (List.mem_append_right _ (List.mem_of_getElem? (i := 93) (by decide +kernel))) rfl
theorem in_94 : (Cond.classLink "LakeRelief$Lakes" 15 "LakeRelief$Lake") ∈ lw_ok := wok (List.mem_append_right _ (List.mem_of_getElem? (i := 94) (by decide +kernel))) rfl
theorem in_96 : (Cond.instantiable "LakeRelief$Lake" 8) ∈ lw_ok := wok (List.mem_append_right _ (List.mem_of_getElem? (i := 96) (by decide +kernel))) rfl
theorem in_97 : (Cond.methodLink "LakeRelief$Lakes" 21 y_LA_init) ∈ lw_ok := wok (List.mem_append_right _ (List.mem_of_getElem? (i := 97) (by decide +kernel))) rfl
theorem in_98 : (Cond.instanceMethod y_LA_init) ∈ lw_ok := wok (List.mem_append_right _ (List.mem_of_getElem? (i := 98) (by decide +kernel))) rfl
set_option maxRecDepth 20000 in
theorem in_99 : (Cond.code y_LA_init prog_2_method_1_code 1 (Option.none : Option Jvm.ClassFile.FieldType)) ∈ lw_ok := wok (List.mem_append_right _ (List.mem_of_getElem? (i := 99) rfl)) rfl
theorem in_100 : (Cond.methodLink "LakeRelief$Lake" 3 (⟨"java/lang/Object", "<init>", "()V"⟩ : MethodName)) ∈ lw_ok := wok (List.mem_append_right _ (List.mem_of_getElem? (i := 100) (by decide +kernel))) rfl
theorem in_101 : (Cond.methodLink "LakeRelief$Lake" 9 y_LA_begin) ∈ lw_ok := wok (List.mem_append_right _ (List.mem_of_getElem? (i := 101) (by decide +kernel))) rfl
theorem in_102 : (Cond.instanceMethod y_LA_begin) ∈ lw_ok := wok (List.mem_append_right _ (List.mem_of_getElem? (i := 102) (by decide +kernel))) rfl
theorem in_103 : (Cond.selects "LakeRelief$Lake" y_LA_begin y_LA_begin) ∈ lw_ok := wok (List.mem_append_right _ (List.mem_of_getElem? (i := 103) (by decide +kernel))) rfl
set_option maxRecDepth 20000 in
theorem in_104 : (Cond.code y_LA_begin prog_2_method_2_code 5 (Option.none : Option Jvm.ClassFile.FieldType)) ∈ lw_ok := wok (List.mem_append_right _ (List.mem_of_getElem? (i := 104) rfl)) rfl
theorem in_105 : (Cond.methodLink "LakeRelief$Lake" 26 y_JM_min) ∈ lw_ok := wok (List.mem_append_right _ (List.mem_of_getElem? (i := 105) (by decide +kernel))) rfl
theorem in_106 : (Cond.static y_JM_min) ∈ lw_ok := wok (List.mem_append_right _ (List.mem_of_getElem? (i := 106) (by decide +kernel))) rfl
set_option maxRecDepth 20000 in
theorem in_107 : (Cond.code y_JM_min prog_9_method_69_code 2 (Option.some Jvm.ClassFile.FieldType.int)) ∈ lw_ok := wok (List.mem_append_right _ (List.mem_of_getElem? (i := 107) rfl)) rfl
theorem in_108 : (Cond.methodLink "LakeRelief$Lake" 35 y_JM_max) ∈ lw_ok := wok (List.mem_append_right _ (List.mem_of_getElem? (i := 108) (by decide +kernel))) rfl
theorem in_109 : (Cond.static y_JM_max) ∈ lw_ok := wok (List.mem_append_right _ (List.mem_of_getElem? (i := 109) (by decide +kernel))) rfl
set_option maxRecDepth 20000 in
theorem in_110 : (Cond.code y_JM_max prog_9_method_65_code 2 (Option.some Jvm.ClassFile.FieldType.int)) ∈ lw_ok := wok (List.mem_append_right _ (List.mem_of_getElem? (i := 110) rfl)) rfl
theorem in_111 : (Cond.fieldLink "LakeRelief$Lake" 15 "LakeRelief$Lake" "fields" "J") ∈ lw_ok := wok (List.mem_append_right _ (List.mem_of_getElem? (i := 111) (by decide +kernel))) rfl
theorem in_112 : (Cond.fieldLink "LakeRelief$Lakes" 67 "LakeRelief$Lake" "fields" "J") ∈ lw_ok := wok (List.mem_append_right _ (List.mem_of_getElem? (i := 112) (by decide +kernel))) rfl
theorem in_113 : (Cond.fieldLink "LakeRelief" 129 "LakeRelief$Lake" "fields" "J") ∈ lw_ok := wok (List.mem_append_right _ (List.mem_of_getElem? (i := 113) (by decide +kernel))) rfl
theorem in_114 : (Cond.fieldLink "LakeRelief$Lake" 19 "LakeRelief$Lake" "rim" "I") ∈ lw_ok := wok (List.mem_append_right _ (List.mem_of_getElem? (i := 114) (by decide +kernel))) rfl
theorem in_115 : (Cond.fieldLink "LakeRelief$Lakes" 40 "LakeRelief$Lake" "rim" "I") ∈ lw_ok := wok (List.mem_append_right _ (List.mem_of_getElem? (i := 115) (by decide +kernel))) rfl
theorem in_116 : (Cond.fieldLink "LakeRelief" 137 "LakeRelief$Lake" "rim" "I") ∈ lw_ok := wok (List.mem_append_right _ (List.mem_of_getElem? (i := 116) (by decide +kernel))) rfl
theorem in_117 : (Cond.fieldLink "LakeRelief$Lake" 23 "LakeRelief$Lake" "whole" "I") ∈ lw_ok := wok (List.mem_append_right _ (List.mem_of_getElem? (i := 117) (by decide +kernel))) rfl
theorem in_118 : (Cond.fieldLink "LakeRelief$Lakes" 120 "LakeRelief$Lake" "whole" "I") ∈ lw_ok := wok (List.mem_append_right _ (List.mem_of_getElem? (i := 118) (by decide +kernel))) rfl
theorem in_119 : (Cond.fieldLink "LakeRelief" 140 "LakeRelief$Lake" "whole" "I") ∈ lw_ok := wok (List.mem_append_right _ (List.mem_of_getElem? (i := 119) (by decide +kernel))) rfl
theorem in_120 : (Cond.fieldLink "LakeRelief$Lake" 32 "LakeRelief$Lake" "lesserPart" "I") ∈ lw_ok := wok (List.mem_append_right _ (List.mem_of_getElem? (i := 120) (by decide +kernel))) rfl
theorem in_121 : (Cond.fieldLink "LakeRelief" 143 "LakeRelief$Lake" "lesserPart" "I") ∈ lw_ok := wok (List.mem_append_right _ (List.mem_of_getElem? (i := 121) (by decide +kernel))) rfl
theorem in_122 : (Cond.fieldLink "LakeRelief$Lakes" 170 "LakeRelief$Lake" "lesserPart" "I") ∈ lw_ok := wok (List.mem_append_right _ (List.mem_of_getElem? (i := 122) (by decide +kernel))) rfl
theorem in_123 : (Cond.fieldLink "LakeRelief$Lake" 38 "LakeRelief$Lake" "greaterPart" "I") ∈ lw_ok := wok (List.mem_append_right _ (List.mem_of_getElem? (i := 123) (by decide +kernel))) rfl
theorem in_124 : (Cond.fieldLink "LakeRelief" 146 "LakeRelief$Lake" "greaterPart" "I") ∈ lw_ok := wok (List.mem_append_right _ (List.mem_of_getElem? (i := 124) (by decide +kernel))) rfl
theorem in_125 : (Cond.fieldLink "LakeRelief$Lakes" 173 "LakeRelief$Lake" "greaterPart" "I") ∈ lw_ok := wok (List.mem_append_right _ (List.mem_of_getElem? (i := 125) (by decide +kernel))) rfl
theorem in_126 : (Cond.fieldLink "LakeRelief$Lake" 41 "LakeRelief$Lake" "most" "I") ∈ lw_ok := wok (List.mem_append_right _ (List.mem_of_getElem? (i := 126) (by decide +kernel))) rfl
theorem in_127 : (Cond.fieldLink "LakeRelief$Lakes" 74 "LakeRelief$Lake" "most" "I") ∈ lw_ok := wok (List.mem_append_right _ (List.mem_of_getElem? (i := 127) (by decide +kernel))) rfl
theorem in_128 : (Cond.fieldLink "LakeRelief" 154 "LakeRelief$Lake" "most" "I") ∈ lw_ok := wok (List.mem_append_right _ (List.mem_of_getElem? (i := 128) (by decide +kernel))) rfl
theorem in_129 : (Cond.fieldLink "LakeRelief$Lake" 44 "LakeRelief$Lake" "isThere" "Z") ∈ lw_ok := wok (List.mem_append_right _ (List.mem_of_getElem? (i := 129) (by decide +kernel))) rfl
theorem in_130 : (Cond.fieldLink "LakeRelief" 157 "LakeRelief$Lake" "isThere" "Z") ∈ lw_ok := wok (List.mem_append_right _ (List.mem_of_getElem? (i := 130) (by decide +kernel))) rfl
theorem in_131 : (Cond.fieldLink "LakeRelief$Lakes" 139 "LakeRelief$Lake" "isThere" "Z") ∈ lw_ok := wok (List.mem_append_right _ (List.mem_of_getElem? (i := 131) (by decide +kernel))) rfl
theorem in_132 : (Cond.fieldLink "LakeRelief$Lake" 48 "LakeRelief$Lake" "water" "I") ∈ lw_ok := wok (List.mem_append_right _ (List.mem_of_getElem? (i := 132) (by decide +kernel))) rfl
theorem in_133 : (Cond.fieldLink "LakeRelief" 160 "LakeRelief$Lake" "water" "I") ∈ lw_ok := wok (List.mem_append_right _ (List.mem_of_getElem? (i := 133) (by decide +kernel))) rfl
theorem in_134 : (Cond.fieldLink "LakeRelief$Lakes" 143 "LakeRelief$Lake" "water" "I") ∈ lw_ok := wok (List.mem_append_right _ (List.mem_of_getElem? (i := 134) (by decide +kernel))) rfl
theorem in_152 : (Cond.fieldLink "LakeRelief$Lakes" 17 "LakeRelief$Lakes" "all" "[LLakeRelief$Lake;") ∈ lw_ok := wok (List.mem_append_right _ (List.mem_of_getElem? (i := 152) (by decide +kernel))) rfl
theorem in_153 : (Cond.fieldLink "LakeRelief" 119 "LakeRelief$Lakes" "all" "[LLakeRelief$Lake;") ∈ lw_ok := wok (List.mem_append_right _ (List.mem_of_getElem? (i := 153) (by decide +kernel))) rfl
theorem in_154 : (Cond.fieldLink "LakeRelief$Lakes" 22 "LakeRelief$Lakes" "number" "I") ∈ lw_ok := wok (List.mem_append_right _ (List.mem_of_getElem? (i := 154) (by decide +kernel))) rfl
theorem in_155 : (Cond.fieldLink "LakeRelief" 204 "LakeRelief$Lakes" "number" "I") ∈ lw_ok := wok (List.mem_append_right _ (List.mem_of_getElem? (i := 155) (by decide +kernel))) rfl
theorem in_156 : (Cond.fieldLink "LakeRelief$Lakes" 26 "LakeRelief$Lakes" "gone" "J") ∈ lw_ok := wok (List.mem_append_right _ (List.mem_of_getElem? (i := 156) (by decide +kernel))) rfl
theorem in_157 : (Cond.fieldLink "LakeRelief" 214 "LakeRelief$Lakes" "gone" "J") ∈ lw_ok := wok (List.mem_append_right _ (List.mem_of_getElem? (i := 157) (by decide +kernel))) rfl
theorem in_158 : (Cond.fieldLink "LakeRelief$Lakes" 30 "LakeRelief$Lakes" "poured" "J") ∈ lw_ok := wok (List.mem_append_right _ (List.mem_of_getElem? (i := 158) (by decide +kernel))) rfl
theorem in_159 : (Cond.fieldLink "LakeRelief" 217 "LakeRelief$Lakes" "poured" "J") ∈ lw_ok := wok (List.mem_append_right _ (List.mem_of_getElem? (i := 159) (by decide +kernel))) rfl
theorem in_160 : (Cond.fieldLink "LakeRelief$Lakes" 9 "LakeRelief$Lakes" "relief" "LLakeRelief$Relief;") ∈ lw_ok := wok (List.mem_append_right _ (List.mem_of_getElem? (i := 160) (by decide +kernel))) rfl
theorem in_161 : (Cond.fieldLink "LakeRelief$Lakes" 33 "LakeRelief$Lakes" "seas" "J") ∈ lw_ok := wok (List.mem_append_right _ (List.mem_of_getElem? (i := 161) (by decide +kernel))) rfl
theorem in_175 : (Cond.fieldLink "LakeRelief" 11 "LakeRelief" "strips" "[LLakeRelief$Strip;") ∈ lw_ok := wok (List.mem_append_right _ (List.mem_of_getElem? (i := 175) (by decide +kernel))) rfl
theorem in_176 : (Cond.fieldLink "LakeRelief" 19 "LakeRelief" "relief" "LLakeRelief$Relief;") ∈ lw_ok := wok (List.mem_append_right _ (List.mem_of_getElem? (i := 176) (by decide +kernel))) rfl
theorem in_177 : (Cond.fieldLink "LakeRelief" 28 "LakeRelief" "lakes" "LLakeRelief$Lakes;") ∈ lw_ok := wok (List.mem_append_right _ (List.mem_of_getElem? (i := 177) (by decide +kernel))) rfl
theorem in_178 : (Cond.fieldLink "LakeRelief" 32 "LakeRelief" "isLaid" "Z") ∈ lw_ok := wok (List.mem_append_right _ (List.mem_of_getElem? (i := 178) (by decide +kernel))) rfl
theorem in_188 : (Cond.methodLink "LakeReliefLaw" 13 y_LR_strip) ∈ lw_ok := wok (List.mem_append_right _ (List.mem_of_getElem? (i := 188) (by decide +kernel))) rfl
theorem in_189 : (Cond.instanceMethod y_LR_strip) ∈ lw_ok := wok (List.mem_append_right _ (List.mem_of_getElem? (i := 189) (by decide +kernel))) rfl
theorem in_190 : (Cond.selects "LakeRelief" y_LR_strip y_LR_strip) ∈ lw_ok := wok (List.mem_append_right _ (List.mem_of_getElem? (i := 190) (by decide +kernel))) rfl
set_option maxRecDepth 20000 in
theorem in_191 : (Cond.code y_LR_strip prog_1_method_2_code 4 (Option.some Jvm.ClassFile.FieldType.int)) ∈ lw_ok := wok (List.mem_append_right _ (List.mem_of_getElem? (i := 191) rfl)) rfl
theorem in_192 : (Cond.methodLink "LakeRelief" 36 y_LR_isStrip) ∈ lw_ok := wok (List.mem_append_right _ (List.mem_of_getElem? (i := 192) (by decide +kernel))) rfl
theorem in_193 : (Cond.static y_LR_isStrip) ∈ lw_ok := wok (List.mem_append_right _ (List.mem_of_getElem? (i := 193) (by decide +kernel))) rfl
set_option maxRecDepth 20000 in
theorem in_194 : (Cond.code y_LR_isStrip prog_1_method_18_code 1 (Option.some Jvm.ClassFile.FieldType.boolean)) ∈ lw_ok := wok (List.mem_append_right _ (List.mem_of_getElem? (i := 194) rfl)) rfl
theorem in_195 : (Cond.methodLink "LakeRelief" 40 y_ST_become) ∈ lw_ok := wok (List.mem_append_right _ (List.mem_of_getElem? (i := 195) (by decide +kernel))) rfl
theorem in_196 : (Cond.instanceMethod y_ST_become) ∈ lw_ok := wok (List.mem_append_right _ (List.mem_of_getElem? (i := 196) (by decide +kernel))) rfl
theorem in_197 : (Cond.selects "LakeRelief$Strip" y_ST_become y_ST_become) ∈ lw_ok := wok (List.mem_append_right _ (List.mem_of_getElem? (i := 197) (by decide +kernel))) rfl
set_option maxRecDepth 20000 in
theorem in_198 : (Cond.code y_ST_become prog_5_method_2_code 4 (Option.none : Option Jvm.ClassFile.FieldType)) ∈ lw_ok := wok (List.mem_append_right _ (List.mem_of_getElem? (i := 198) rfl)) rfl
theorem in_199 : (Cond.methodLink "LakeReliefLaw" 18 y_LR_put) ∈ lw_ok := wok (List.mem_append_right _ (List.mem_of_getElem? (i := 199) (by decide +kernel))) rfl
theorem in_200 : (Cond.instanceMethod y_LR_put) ∈ lw_ok := wok (List.mem_append_right _ (List.mem_of_getElem? (i := 200) (by decide +kernel))) rfl
theorem in_201 : (Cond.selects "LakeRelief" y_LR_put y_LR_put) ∈ lw_ok := wok (List.mem_append_right _ (List.mem_of_getElem? (i := 201) (by decide +kernel))) rfl
set_option maxRecDepth 20000 in
theorem in_202 : (Cond.code y_LR_put prog_1_method_3_code 5 (Option.some Jvm.ClassFile.FieldType.int)) ∈ lw_ok := wok (List.mem_append_right _ (List.mem_of_getElem? (i := 202) rfl)) rfl
theorem in_203 : (Cond.methodLink "LakeRelief" 44 y_LR_refusalOfPlace) ∈ lw_ok := wok (List.mem_append_right _ (List.mem_of_getElem? (i := 203) (by decide +kernel))) rfl
theorem in_205 : (Cond.instanceMethod y_LR_refusalOfPlace) ∈ lw_ok := wok (List.mem_append_right _ (List.mem_of_getElem? (i := 205) (by decide +kernel))) rfl
set_option maxRecDepth 20000 in
theorem in_206 : (Cond.code y_LR_refusalOfPlace prog_1_method_19_code 3 (Option.some Jvm.ClassFile.FieldType.int)) ∈ lw_ok := wok (List.mem_append_right _ (List.mem_of_getElem? (i := 206) rfl)) rfl
theorem in_207 : (Cond.methodLink "LakeRelief" 222 y_ST_hasPlace) ∈ lw_ok := wok (List.mem_append_right _ (List.mem_of_getElem? (i := 207) (by decide +kernel))) rfl
theorem in_208 : (Cond.instanceMethod y_ST_hasPlace) ∈ lw_ok := wok (List.mem_append_right _ (List.mem_of_getElem? (i := 208) (by decide +kernel))) rfl
theorem in_209 : (Cond.selects "LakeRelief$Strip" y_ST_hasPlace y_ST_hasPlace) ∈ lw_ok := wok (List.mem_append_right _ (List.mem_of_getElem? (i := 209) (by decide +kernel))) rfl
set_option maxRecDepth 20000 in
theorem in_210 : (Cond.code y_ST_hasPlace prog_5_method_3_code 2 (Option.some Jvm.ClassFile.FieldType.boolean)) ∈ lw_ok := wok (List.mem_append_right _ (List.mem_of_getElem? (i := 210) rfl)) rfl
theorem in_211 : (Cond.methodLink "LakeRelief" 48 y_ST_keep) ∈ lw_ok := wok (List.mem_append_right _ (List.mem_of_getElem? (i := 211) (by decide +kernel))) rfl
theorem in_212 : (Cond.instanceMethod y_ST_keep) ∈ lw_ok := wok (List.mem_append_right _ (List.mem_of_getElem? (i := 212) (by decide +kernel))) rfl
theorem in_213 : (Cond.selects "LakeRelief$Strip" y_ST_keep y_ST_keep) ∈ lw_ok := wok (List.mem_append_right _ (List.mem_of_getElem? (i := 213) (by decide +kernel))) rfl
set_option maxRecDepth 20000 in
theorem in_214 : (Cond.code y_ST_keep prog_5_method_5_code 3 (Option.none : Option Jvm.ClassFile.FieldType)) ∈ lw_ok := wok (List.mem_append_right _ (List.mem_of_getElem? (i := 214) rfl)) rfl
theorem in_215 : (Cond.methodLink "LakeReliefLaw" 22 y_LR_copy) ∈ lw_ok := wok (List.mem_append_right _ (List.mem_of_getElem? (i := 215) (by decide +kernel))) rfl
theorem in_216 : (Cond.instanceMethod y_LR_copy) ∈ lw_ok := wok (List.mem_append_right _ (List.mem_of_getElem? (i := 216) (by decide +kernel))) rfl
theorem in_217 : (Cond.selects "LakeRelief" y_LR_copy y_LR_copy) ∈ lw_ok := wok (List.mem_append_right _ (List.mem_of_getElem? (i := 217) (by decide +kernel))) rfl
set_option maxRecDepth 20000 in
theorem in_218 : (Cond.code y_LR_copy prog_1_method_4_code 8 (Option.some Jvm.ClassFile.FieldType.int)) ∈ lw_ok := wok (List.mem_append_right _ (List.mem_of_getElem? (i := 218) rfl)) rfl
theorem in_219 : (Cond.methodLink "LakeRelief" 55 y_ST_hasRun) ∈ lw_ok := wok (List.mem_append_right _ (List.mem_of_getElem? (i := 219) (by decide +kernel))) rfl
theorem in_220 : (Cond.instanceMethod y_ST_hasRun) ∈ lw_ok := wok (List.mem_append_right _ (List.mem_of_getElem? (i := 220) (by decide +kernel))) rfl
theorem in_221 : (Cond.selects "LakeRelief$Strip" y_ST_hasRun y_ST_hasRun) ∈ lw_ok := wok (List.mem_append_right _ (List.mem_of_getElem? (i := 221) (by decide +kernel))) rfl
set_option maxRecDepth 20000 in
theorem in_222 : (Cond.code y_ST_hasRun prog_5_method_4_code 3 (Option.some Jvm.ClassFile.FieldType.boolean)) ∈ lw_ok := wok (List.mem_append_right _ (List.mem_of_getElem? (i := 222) rfl)) rfl
theorem in_223 : (Cond.methodLink "LakeRelief" 63 (⟨"java/lang/System", "arraycopy", "(Ljava/lang/Object;ILjava/lang/Object;II)V"⟩ : MethodName)) ∈ lw_ok := wok (List.mem_append_right _ (List.mem_of_getElem? (i := 223) (by decide +kernel))) rfl
theorem in_224 : (Cond.static (⟨"java/lang/System", "arraycopy", "(Ljava/lang/Object;ILjava/lang/Object;II)V"⟩ : MethodName)) ∈ lw_ok := wok (List.mem_append_right _ (List.mem_of_getElem? (i := 224) (by decide +kernel))) rfl
theorem in_225 : (Cond.native (⟨"java/lang/System", "arraycopy", "(Ljava/lang/Object;ILjava/lang/Object;II)V"⟩ : MethodName)) ∈ lw_ok := wok (List.mem_append_right _ (List.mem_of_getElem? (i := 225) (by decide +kernel))) rfl
theorem in_226 : (Cond.methodLink "LakeReliefLaw" 27 y_LR_told) ∈ lw_ok := wok (List.mem_append_right _ (List.mem_of_getElem? (i := 226) (by decide +kernel))) rfl
theorem in_227 : (Cond.instanceMethod y_LR_told) ∈ lw_ok := wok (List.mem_append_right _ (List.mem_of_getElem? (i := 227) (by decide +kernel))) rfl
theorem in_228 : (Cond.selects "LakeRelief" y_LR_told y_LR_told) ∈ lw_ok := wok (List.mem_append_right _ (List.mem_of_getElem? (i := 228) (by decide +kernel))) rfl
set_option maxRecDepth 20000 in
theorem in_229 : (Cond.code y_LR_told prog_1_method_5_code 4 (Option.some Jvm.ClassFile.FieldType.long)) ∈ lw_ok := wok (List.mem_append_right _ (List.mem_of_getElem? (i := 229) rfl)) rfl
theorem in_230 : (Cond.constantLong "LakeRelief" 69 (10000000000)) ∈ lw_ok := wok (List.mem_append_right _ (List.mem_of_getElem? (i := 230) (by decide +kernel))) rfl
theorem in_231 : (Cond.methodLink "LakeReliefLaw" 32 y_LR_lay) ∈ lw_ok := wok (List.mem_append_right _ (List.mem_of_getElem? (i := 231) (by decide +kernel))) rfl
theorem in_232 : (Cond.instanceMethod y_LR_lay) ∈ lw_ok := wok (List.mem_append_right _ (List.mem_of_getElem? (i := 232) (by decide +kernel))) rfl
theorem in_233 : (Cond.selects "LakeRelief" y_LR_lay y_LR_lay) ∈ lw_ok := wok (List.mem_append_right _ (List.mem_of_getElem? (i := 233) (by decide +kernel))) rfl
set_option maxRecDepth 20000 in
theorem in_234 : (Cond.code y_LR_lay prog_1_method_6_code 4 (Option.some Jvm.ClassFile.FieldType.int)) ∈ lw_ok := wok (List.mem_append_right _ (List.mem_of_getElem? (i := 234) rfl)) rfl
theorem in_235 : (Cond.methodLink "LakeRelief" 71 y_LR_canBeLaid) ∈ lw_ok := wok (List.mem_append_right _ (List.mem_of_getElem? (i := 235) (by decide +kernel))) rfl
theorem in_237 : (Cond.instanceMethod y_LR_canBeLaid) ∈ lw_ok := wok (List.mem_append_right _ (List.mem_of_getElem? (i := 237) (by decide +kernel))) rfl
set_option maxRecDepth 20000 in
theorem in_238 : (Cond.code y_LR_canBeLaid prog_1_method_20_code 5 (Option.some Jvm.ClassFile.FieldType.boolean)) ∈ lw_ok := wok (List.mem_append_right _ (List.mem_of_getElem? (i := 238) rfl)) rfl
theorem in_239 : (Cond.methodLink "LakeRelief" 225 y_LR_isHeight) ∈ lw_ok := wok (List.mem_append_right _ (List.mem_of_getElem? (i := 239) (by decide +kernel))) rfl
theorem in_240 : (Cond.static y_LR_isHeight) ∈ lw_ok := wok (List.mem_append_right _ (List.mem_of_getElem? (i := 240) (by decide +kernel))) rfl
set_option maxRecDepth 20000 in
theorem in_241 : (Cond.code y_LR_isHeight prog_1_method_22_code 1 (Option.some Jvm.ClassFile.FieldType.boolean)) ∈ lw_ok := wok (List.mem_append_right _ (List.mem_of_getElem? (i := 241) rfl)) rfl
theorem in_242 : (Cond.constant "LakeRelief" 231 (-1000000)) ∈ lw_ok := wok (List.mem_append_right _ (List.mem_of_getElem? (i := 242) (by decide +kernel))) rfl
theorem in_243 : (Cond.constant "LakeRelief" 177 (1000000)) ∈ lw_ok := wok (List.mem_append_right _ (List.mem_of_getElem? (i := 243) (by decide +kernel))) rfl
theorem in_244 : (Cond.methodLink "LakeRelief" 74 y_RE_flood) ∈ lw_ok := wok (List.mem_append_right _ (List.mem_of_getElem? (i := 244) (by decide +kernel))) rfl
theorem in_245 : (Cond.instanceMethod y_RE_flood) ∈ lw_ok := wok (List.mem_append_right _ (List.mem_of_getElem? (i := 245) (by decide +kernel))) rfl
theorem in_246 : (Cond.selects "LakeRelief$Relief" y_RE_flood y_RE_flood) ∈ lw_ok := wok (List.mem_append_right _ (List.mem_of_getElem? (i := 246) (by decide +kernel))) rfl
set_option maxRecDepth 20000 in
theorem in_247 : (Cond.code y_RE_flood prog_4_method_2_code 4 (Option.none : Option Jvm.ClassFile.FieldType)) ∈ lw_ok := wok (List.mem_append_right _ (List.mem_of_getElem? (i := 247) rfl)) rfl
theorem in_248 : (Cond.methodLink "LakeRelief" 77 y_LR_layLine) ∈ lw_ok := wok (List.mem_append_right _ (List.mem_of_getElem? (i := 248) (by decide +kernel))) rfl
theorem in_250 : (Cond.instanceMethod y_LR_layLine) ∈ lw_ok := wok (List.mem_append_right _ (List.mem_of_getElem? (i := 250) (by decide +kernel))) rfl
set_option maxRecDepth 20000 in
theorem in_251 : (Cond.code y_LR_layLine prog_1_method_21_code 4 (Option.none : Option Jvm.ClassFile.FieldType)) ∈ lw_ok := wok (List.mem_append_right _ (List.mem_of_getElem? (i := 251) rfl)) rfl
theorem in_252 : (Cond.methodLink "LakeRelief" 228 y_RE_raiseLand) ∈ lw_ok := wok (List.mem_append_right _ (List.mem_of_getElem? (i := 252) (by decide +kernel))) rfl
theorem in_253 : (Cond.instanceMethod y_RE_raiseLand) ∈ lw_ok := wok (List.mem_append_right _ (List.mem_of_getElem? (i := 253) (by decide +kernel))) rfl
theorem in_254 : (Cond.selects "LakeRelief$Relief" y_RE_raiseLand y_RE_raiseLand) ∈ lw_ok := wok (List.mem_append_right _ (List.mem_of_getElem? (i := 254) (by decide +kernel))) rfl
set_option maxRecDepth 20000 in
theorem in_255 : (Cond.code y_RE_raiseLand prog_4_method_3_code 3 (Option.none : Option Jvm.ClassFile.FieldType)) ∈ lw_ok := wok (List.mem_append_right _ (List.mem_of_getElem? (i := 255) rfl)) rfl
theorem in_256 : (Cond.methodLinkNest "LakeRelief$Relief" 47 y_LR_only "LakeRelief") ∈ lw_tbl := List.mem_append_right _ (List.mem_of_getElem? (i := 256) (by decide +kernel))
theorem in_257 : (Cond.static y_LR_only) ∈ lw_ok := wok (List.mem_append_right _ (List.mem_of_getElem? (i := 257) (by decide +kernel))) rfl
set_option maxRecDepth 20000 in
theorem in_258 : (Cond.code y_LR_only prog_1_method_25_code 1 (Option.some Jvm.ClassFile.FieldType.long)) ∈ lw_ok := wok (List.mem_append_right _ (List.mem_of_getElem? (i := 258) rfl)) rfl
theorem in_259 : (Cond.methodLink "LakeRelief" 80 y_RE_survey) ∈ lw_ok := wok (List.mem_append_right _ (List.mem_of_getElem? (i := 259) (by decide +kernel))) rfl
theorem in_260 : (Cond.instanceMethod y_RE_survey) ∈ lw_ok := wok (List.mem_append_right _ (List.mem_of_getElem? (i := 260) (by decide +kernel))) rfl
theorem in_261 : (Cond.selects "LakeRelief$Relief" y_RE_survey y_RE_survey) ∈ lw_ok := wok (List.mem_append_right _ (List.mem_of_getElem? (i := 261) (by decide +kernel))) rfl
set_option maxRecDepth 20000 in
theorem in_262 : (Cond.code y_RE_survey prog_4_method_4_code 1 (Option.none : Option Jvm.ClassFile.FieldType)) ∈ lw_ok := wok (List.mem_append_right _ (List.mem_of_getElem? (i := 262) rfl)) rfl
theorem in_263 : (Cond.methodLink "LakeRelief$Relief" 51 y_RE_findNeighbours) ∈ lw_ok := wok (List.mem_append_right _ (List.mem_of_getElem? (i := 263) (by decide +kernel))) rfl
theorem in_265 : (Cond.instanceMethod y_RE_findNeighbours) ∈ lw_ok := wok (List.mem_append_right _ (List.mem_of_getElem? (i := 265) (by decide +kernel))) rfl
set_option maxRecDepth 20000 in
theorem in_266 : (Cond.code y_RE_findNeighbours prog_4_method_8_code 4 (Option.none : Option Jvm.ClassFile.FieldType)) ∈ lw_ok := wok (List.mem_append_right _ (List.mem_of_getElem? (i := 266) rfl)) rfl
theorem in_267 : (Cond.methodLink "LakeRelief$Relief" 71 y_RE_landOrSea) ∈ lw_ok := wok (List.mem_append_right _ (List.mem_of_getElem? (i := 267) (by decide +kernel))) rfl
theorem in_269 : (Cond.instanceMethod y_RE_landOrSea) ∈ lw_ok := wok (List.mem_append_right _ (List.mem_of_getElem? (i := 269) (by decide +kernel))) rfl
set_option maxRecDepth 20000 in
theorem in_270 : (Cond.code y_RE_landOrSea prog_4_method_9_code 2 (Option.some Jvm.ClassFile.FieldType.int)) ∈ lw_ok := wok (List.mem_append_right _ (List.mem_of_getElem? (i := 270) rfl)) rfl
theorem in_271 : (Cond.methodLink "LakeRelief$Relief" 75 y_RE_isLand) ∈ lw_ok := wok (List.mem_append_right _ (List.mem_of_getElem? (i := 271) (by decide +kernel))) rfl
theorem in_272 : (Cond.instanceMethod y_RE_isLand) ∈ lw_ok := wok (List.mem_append_right _ (List.mem_of_getElem? (i := 272) (by decide +kernel))) rfl
theorem in_273 : (Cond.selects "LakeRelief$Relief" y_RE_isLand y_RE_isLand) ∈ lw_ok := wok (List.mem_append_right _ (List.mem_of_getElem? (i := 273) (by decide +kernel))) rfl
set_option maxRecDepth 20000 in
theorem in_274 : (Cond.code y_RE_isLand prog_4_method_6_code 2 (Option.some Jvm.ClassFile.FieldType.boolean)) ∈ lw_ok := wok (List.mem_append_right _ (List.mem_of_getElem? (i := 274) rfl)) rfl
theorem in_275 : (Cond.methodLink "LakeRelief$Relief" 63 y_RE_isField) ∈ lw_ok := wok (List.mem_append_right _ (List.mem_of_getElem? (i := 275) (by decide +kernel))) rfl
theorem in_276 : (Cond.instanceMethod y_RE_isField) ∈ lw_ok := wok (List.mem_append_right _ (List.mem_of_getElem? (i := 276) (by decide +kernel))) rfl
theorem in_277 : (Cond.selects "LakeRelief$Relief" y_RE_isField y_RE_isField) ∈ lw_ok := wok (List.mem_append_right _ (List.mem_of_getElem? (i := 277) (by decide +kernel))) rfl
set_option maxRecDepth 20000 in
theorem in_278 : (Cond.code y_RE_isField prog_4_method_5_code 2 (Option.some Jvm.ClassFile.FieldType.boolean)) ∈ lw_ok := wok (List.mem_append_right _ (List.mem_of_getElem? (i := 278) rfl)) rfl
theorem in_279 : (Cond.methodLinkNest "LakeRelief$Relief" 67 y_LR_isIn "LakeRelief") ∈ lw_tbl := List.mem_append_right _ (List.mem_of_getElem? (i := 279) (by decide +kernel))
theorem in_280 : (Cond.static y_LR_isIn) ∈ lw_ok := wok (List.mem_append_right _ (List.mem_of_getElem? (i := 280) (by decide +kernel))) rfl
set_option maxRecDepth 20000 in
theorem in_281 : (Cond.code y_LR_isIn prog_1_method_24_code 3 (Option.some Jvm.ClassFile.FieldType.boolean)) ∈ lw_ok := wok (List.mem_append_right _ (List.mem_of_getElem? (i := 281) rfl)) rfl
theorem in_282 : (Cond.methodLink "LakeRelief$Relief" 54 y_RE_sortLand) ∈ lw_ok := wok (List.mem_append_right _ (List.mem_of_getElem? (i := 282) (by decide +kernel))) rfl
theorem in_284 : (Cond.instanceMethod y_RE_sortLand) ∈ lw_ok := wok (List.mem_append_right _ (List.mem_of_getElem? (i := 284) (by decide +kernel))) rfl
set_option maxRecDepth 20000 in
theorem in_285 : (Cond.code y_RE_sortLand prog_4_method_10_code 2 (Option.none : Option Jvm.ClassFile.FieldType)) ∈ lw_ok := wok (List.mem_append_right _ (List.mem_of_getElem? (i := 285) rfl)) rfl
theorem in_286 : (Cond.methodLink "LakeRelief$Relief" 78 y_RE_insertByHeight) ∈ lw_ok := wok (List.mem_append_right _ (List.mem_of_getElem? (i := 286) (by decide +kernel))) rfl
theorem in_288 : (Cond.instanceMethod y_RE_insertByHeight) ∈ lw_ok := wok (List.mem_append_right _ (List.mem_of_getElem? (i := 288) (by decide +kernel))) rfl
set_option maxRecDepth 20000 in
theorem in_289 : (Cond.code y_RE_insertByHeight prog_4_method_11_code 4 (Option.none : Option Jvm.ClassFile.FieldType)) ∈ lw_ok := wok (List.mem_append_right _ (List.mem_of_getElem? (i := 289) rfl)) rfl
theorem in_290 : (Cond.methodLink "LakeRelief$Relief" 82 y_RE_isLower) ∈ lw_ok := wok (List.mem_append_right _ (List.mem_of_getElem? (i := 290) (by decide +kernel))) rfl
theorem in_292 : (Cond.instanceMethod y_RE_isLower) ∈ lw_ok := wok (List.mem_append_right _ (List.mem_of_getElem? (i := 292) (by decide +kernel))) rfl
set_option maxRecDepth 20000 in
theorem in_293 : (Cond.code y_RE_isLower prog_4_method_7_code 3 (Option.some Jvm.ClassFile.FieldType.boolean)) ∈ lw_ok := wok (List.mem_append_right _ (List.mem_of_getElem? (i := 293) rfl)) rfl
theorem in_294 : (Cond.methodLink "LakeRelief$Relief" 57 y_RE_findWays) ∈ lw_ok := wok (List.mem_append_right _ (List.mem_of_getElem? (i := 294) (by decide +kernel))) rfl
theorem in_296 : (Cond.instanceMethod y_RE_findWays) ∈ lw_ok := wok (List.mem_append_right _ (List.mem_of_getElem? (i := 296) (by decide +kernel))) rfl
set_option maxRecDepth 20000 in
theorem in_297 : (Cond.code y_RE_findWays prog_4_method_15_code 4 (Option.none : Option Jvm.ClassFile.FieldType)) ∈ lw_ok := wok (List.mem_append_right _ (List.mem_of_getElem? (i := 297) rfl)) rfl
theorem in_298 : (Cond.methodLink "LakeRelief$Relief" 90 y_RE_downOf) ∈ lw_ok := wok (List.mem_append_right _ (List.mem_of_getElem? (i := 298) (by decide +kernel))) rfl
theorem in_300 : (Cond.instanceMethod y_RE_downOf) ∈ lw_ok := wok (List.mem_append_right _ (List.mem_of_getElem? (i := 300) (by decide +kernel))) rfl
set_option maxRecDepth 20000 in
theorem in_301 : (Cond.code y_RE_downOf prog_4_method_16_code 3 (Option.some Jvm.ClassFile.FieldType.int)) ∈ lw_ok := wok (List.mem_append_right _ (List.mem_of_getElem? (i := 301) rfl)) rfl
theorem in_302 : (Cond.methodLink "LakeRelief$Relief" 93 y_RE_isBesideSea) ∈ lw_ok := wok (List.mem_append_right _ (List.mem_of_getElem? (i := 302) (by decide +kernel))) rfl
theorem in_303 : (Cond.instanceMethod y_RE_isBesideSea) ∈ lw_ok := wok (List.mem_append_right _ (List.mem_of_getElem? (i := 303) (by decide +kernel))) rfl
theorem in_304 : (Cond.selects "LakeRelief$Relief" y_RE_isBesideSea y_RE_isBesideSea) ∈ lw_ok := wok (List.mem_append_right _ (List.mem_of_getElem? (i := 304) (by decide +kernel))) rfl
set_option maxRecDepth 20000 in
theorem in_305 : (Cond.code y_RE_isBesideSea prog_4_method_13_code 3 (Option.some Jvm.ClassFile.FieldType.boolean)) ∈ lw_ok := wok (List.mem_append_right _ (List.mem_of_getElem? (i := 305) rfl)) rfl
theorem in_306 : (Cond.methodLink "LakeRelief$Relief" 86 y_RE_beside) ∈ lw_ok := wok (List.mem_append_right _ (List.mem_of_getElem? (i := 306) (by decide +kernel))) rfl
theorem in_307 : (Cond.instanceMethod y_RE_beside) ∈ lw_ok := wok (List.mem_append_right _ (List.mem_of_getElem? (i := 307) (by decide +kernel))) rfl
theorem in_308 : (Cond.selects "LakeRelief$Relief" y_RE_beside y_RE_beside) ∈ lw_ok := wok (List.mem_append_right _ (List.mem_of_getElem? (i := 308) (by decide +kernel))) rfl
set_option maxRecDepth 20000 in
theorem in_309 : (Cond.code y_RE_beside prog_4_method_12_code 3 (Option.some Jvm.ClassFile.FieldType.int)) ∈ lw_ok := wok (List.mem_append_right _ (List.mem_of_getElem? (i := 309) rfl)) rfl
theorem in_310 : (Cond.methodLink "LakeRelief$Relief" 96 y_RE_lowestBeside) ∈ lw_ok := wok (List.mem_append_right _ (List.mem_of_getElem? (i := 310) (by decide +kernel))) rfl
theorem in_311 : (Cond.instanceMethod y_RE_lowestBeside) ∈ lw_ok := wok (List.mem_append_right _ (List.mem_of_getElem? (i := 311) (by decide +kernel))) rfl
theorem in_312 : (Cond.selects "LakeRelief$Relief" y_RE_lowestBeside y_RE_lowestBeside) ∈ lw_ok := wok (List.mem_append_right _ (List.mem_of_getElem? (i := 312) (by decide +kernel))) rfl
set_option maxRecDepth 20000 in
theorem in_313 : (Cond.code y_RE_lowestBeside prog_4_method_14_code 7 (Option.some Jvm.ClassFile.FieldType.int)) ∈ lw_ok := wok (List.mem_append_right _ (List.mem_of_getElem? (i := 313) rfl)) rfl
theorem in_314 : (Cond.methodLink "LakeRelief$Relief" 60 y_RE_findFills) ∈ lw_ok := wok (List.mem_append_right _ (List.mem_of_getElem? (i := 314) (by decide +kernel))) rfl
theorem in_316 : (Cond.instanceMethod y_RE_findFills) ∈ lw_ok := wok (List.mem_append_right _ (List.mem_of_getElem? (i := 316) (by decide +kernel))) rfl
set_option maxRecDepth 20000 in
theorem in_317 : (Cond.code y_RE_findFills prog_4_method_17_code 3 (Option.none : Option Jvm.ClassFile.FieldType)) ∈ lw_ok := wok (List.mem_append_right _ (List.mem_of_getElem? (i := 317) rfl)) rfl
theorem in_318 : (Cond.constant "LakeRelief$Relief" 100 (1000001)) ∈ lw_ok := wok (List.mem_append_right _ (List.mem_of_getElem? (i := 318) (by decide +kernel))) rfl
theorem in_319 : (Cond.methodLink "LakeRelief$Relief" 101 y_RE_lowerFills) ∈ lw_ok := wok (List.mem_append_right _ (List.mem_of_getElem? (i := 319) (by decide +kernel))) rfl
theorem in_321 : (Cond.instanceMethod y_RE_lowerFills) ∈ lw_ok := wok (List.mem_append_right _ (List.mem_of_getElem? (i := 321) (by decide +kernel))) rfl
set_option maxRecDepth 20000 in
theorem in_322 : (Cond.code y_RE_lowerFills prog_4_method_18_code 5 (Option.some Jvm.ClassFile.FieldType.boolean)) ∈ lw_ok := wok (List.mem_append_right _ (List.mem_of_getElem? (i := 322) rfl)) rfl
theorem in_323 : (Cond.methodLink "LakeRelief$Relief" 105 y_RE_leastFillBeside) ∈ lw_ok := wok (List.mem_append_right _ (List.mem_of_getElem? (i := 323) (by decide +kernel))) rfl
theorem in_325 : (Cond.instanceMethod y_RE_leastFillBeside) ∈ lw_ok := wok (List.mem_append_right _ (List.mem_of_getElem? (i := 325) (by decide +kernel))) rfl
set_option maxRecDepth 20000 in
theorem in_326 : (Cond.code y_RE_leastFillBeside prog_4_method_19_code 5 (Option.some Jvm.ClassFile.FieldType.int)) ∈ lw_ok := wok (List.mem_append_right _ (List.mem_of_getElem? (i := 326) rfl)) rfl
theorem in_327 : (Cond.constant "LakeRelief$Relief" 113 (-1000000)) ∈ lw_ok := wok (List.mem_append_right _ (List.mem_of_getElem? (i := 327) (by decide +kernel))) rfl
theorem in_328 : (Cond.methodLink "LakeRelief$Relief" 114 y_JM_min) ∈ lw_ok := wok (List.mem_append_right _ (List.mem_of_getElem? (i := 328) (by decide +kernel))) rfl
theorem in_329 : (Cond.methodLink "LakeRelief$Relief" 108 y_JM_max) ∈ lw_ok := wok (List.mem_append_right _ (List.mem_of_getElem? (i := 329) (by decide +kernel))) rfl
theorem in_330 : (Cond.methodLink "LakeRelief" 83 y_LK_come) ∈ lw_ok := wok (List.mem_append_right _ (List.mem_of_getElem? (i := 330) (by decide +kernel))) rfl
theorem in_331 : (Cond.instanceMethod y_LK_come) ∈ lw_ok := wok (List.mem_append_right _ (List.mem_of_getElem? (i := 331) (by decide +kernel))) rfl
theorem in_332 : (Cond.selects "LakeRelief$Lakes" y_LK_come y_LK_come) ∈ lw_ok := wok (List.mem_append_right _ (List.mem_of_getElem? (i := 332) (by decide +kernel))) rfl
set_option maxRecDepth 20000 in
theorem in_333 : (Cond.code y_LK_come prog_3_method_4_code 2 (Option.none : Option Jvm.ClassFile.FieldType)) ∈ lw_ok := wok (List.mem_append_right _ (List.mem_of_getElem? (i := 333) rfl)) rfl
theorem in_334 : (Cond.methodLink "LakeRelief$Lakes" 59 y_LK_goUnder) ∈ lw_ok := wok (List.mem_append_right _ (List.mem_of_getElem? (i := 334) (by decide +kernel))) rfl
theorem in_336 : (Cond.instanceMethod y_LK_goUnder) ∈ lw_ok := wok (List.mem_append_right _ (List.mem_of_getElem? (i := 336) (by decide +kernel))) rfl
set_option maxRecDepth 20000 in
theorem in_337 : (Cond.code y_LK_goUnder prog_3_method_6_code 5 (Option.none : Option Jvm.ClassFile.FieldType)) ∈ lw_ok := wok (List.mem_append_right _ (List.mem_of_getElem? (i := 337) rfl)) rfl
theorem in_338 : (Cond.methodLink "LakeRelief$Lakes" 84 y_LK_topsBeside) ∈ lw_ok := wok (List.mem_append_right _ (List.mem_of_getElem? (i := 338) (by decide +kernel))) rfl
theorem in_340 : (Cond.instanceMethod y_LK_topsBeside) ∈ lw_ok := wok (List.mem_append_right _ (List.mem_of_getElem? (i := 340) (by decide +kernel))) rfl
set_option maxRecDepth 20000 in
theorem in_341 : (Cond.code y_LK_topsBeside prog_3_method_8_code 6 (Option.some Jvm.ClassFile.FieldType.long)) ∈ lw_ok := wok (List.mem_append_right _ (List.mem_of_getElem? (i := 341) rfl)) rfl
theorem in_342 : (Cond.methodLink "LakeRelief$Lakes" 112 y_RE_beside) ∈ lw_ok := wok (List.mem_append_right _ (List.mem_of_getElem? (i := 342) (by decide +kernel))) rfl
theorem in_343 : (Cond.methodLink "LakeRelief$Lakes" 116 y_LK_topWith) ∈ lw_ok := wok (List.mem_append_right _ (List.mem_of_getElem? (i := 343) (by decide +kernel))) rfl
theorem in_345 : (Cond.instanceMethod y_LK_topWith) ∈ lw_ok := wok (List.mem_append_right _ (List.mem_of_getElem? (i := 345) (by decide +kernel))) rfl
set_option maxRecDepth 20000 in
theorem in_346 : (Cond.code y_LK_topWith prog_3_method_9_code 3 (Option.some Jvm.ClassFile.FieldType.int)) ∈ lw_ok := wok (List.mem_append_right _ (List.mem_of_getElem? (i := 346) rfl)) rfl
theorem in_347 : (Cond.methodLinkNest "LakeRelief$Lakes" 123 y_LR_isIn "LakeRelief") ∈ lw_tbl := List.mem_append_right _ (List.mem_of_getElem? (i := 347) (by decide +kernel))
theorem in_348 : (Cond.methodLinkNest "LakeRelief$Lakes" 102 y_LR_only "LakeRelief") ∈ lw_tbl := List.mem_append_right _ (List.mem_of_getElem? (i := 348) (by decide +kernel))
theorem in_349 : (Cond.methodLink "LakeRelief$Lakes" 88 y_LK_isBesideSeas) ∈ lw_ok := wok (List.mem_append_right _ (List.mem_of_getElem? (i := 349) (by decide +kernel))) rfl
theorem in_351 : (Cond.instanceMethod y_LK_isBesideSeas) ∈ lw_ok := wok (List.mem_append_right _ (List.mem_of_getElem? (i := 351) (by decide +kernel))) rfl
set_option maxRecDepth 20000 in
theorem in_352 : (Cond.code y_LK_isBesideSeas prog_3_method_7_code 2 (Option.some Jvm.ClassFile.FieldType.boolean)) ∈ lw_ok := wok (List.mem_append_right _ (List.mem_of_getElem? (i := 352) rfl)) rfl
theorem in_353 : (Cond.methodLink "LakeRelief$Lakes" 105 y_RE_isBesideSea) ∈ lw_ok := wok (List.mem_append_right _ (List.mem_of_getElem? (i := 353) (by decide +kernel))) rfl
theorem in_354 : (Cond.methodLink "LakeRelief$Lakes" 108 y_RE_lowestBeside) ∈ lw_ok := wok (List.mem_append_right _ (List.mem_of_getElem? (i := 354) (by decide +kernel))) rfl
theorem in_355 : (Cond.methodLink "LakeRelief$Lakes" 91 y_LK_spillToSea) ∈ lw_ok := wok (List.mem_append_right _ (List.mem_of_getElem? (i := 355) (by decide +kernel))) rfl
theorem in_357 : (Cond.instanceMethod y_LK_spillToSea) ∈ lw_ok := wok (List.mem_append_right _ (List.mem_of_getElem? (i := 357) (by decide +kernel))) rfl
set_option maxRecDepth 20000 in
theorem in_358 : (Cond.code y_LK_spillToSea prog_3_method_10_code 5 (Option.none : Option Jvm.ClassFile.FieldType)) ∈ lw_ok := wok (List.mem_append_right _ (List.mem_of_getElem? (i := 358) rfl)) rfl
theorem in_359 : (Cond.methodLink "LakeRelief$Lakes" 127 y_LA_spillAt) ∈ lw_ok := wok (List.mem_append_right _ (List.mem_of_getElem? (i := 359) (by decide +kernel))) rfl
theorem in_360 : (Cond.instanceMethod y_LA_spillAt) ∈ lw_ok := wok (List.mem_append_right _ (List.mem_of_getElem? (i := 360) (by decide +kernel))) rfl
theorem in_361 : (Cond.selects "LakeRelief$Lake" y_LA_spillAt y_LA_spillAt) ∈ lw_ok := wok (List.mem_append_right _ (List.mem_of_getElem? (i := 361) (by decide +kernel))) rfl
set_option maxRecDepth 20000 in
theorem in_362 : (Cond.code y_LA_spillAt prog_2_method_5_code 3 (Option.none : Option Jvm.ClassFile.FieldType)) ∈ lw_ok := wok (List.mem_append_right _ (List.mem_of_getElem? (i := 362) rfl)) rfl
theorem in_363 : (Cond.methodLink "LakeRelief$Lakes" 95 y_LK_make) ∈ lw_ok := wok (List.mem_append_right _ (List.mem_of_getElem? (i := 363) (by decide +kernel))) rfl
theorem in_365 : (Cond.instanceMethod y_LK_make) ∈ lw_ok := wok (List.mem_append_right _ (List.mem_of_getElem? (i := 365) (by decide +kernel))) rfl
set_option maxRecDepth 20000 in
theorem in_366 : (Cond.code y_LK_make prog_3_method_13_code 6 (Option.some Jvm.ClassFile.FieldType.int)) ∈ lw_ok := wok (List.mem_append_right _ (List.mem_of_getElem? (i := 366) rfl)) rfl
theorem in_367 : (Cond.methodLink "LakeRelief$Lakes" 135 y_LA_begin) ∈ lw_ok := wok (List.mem_append_right _ (List.mem_of_getElem? (i := 367) (by decide +kernel))) rfl
theorem in_368 : (Cond.methodLink "LakeRelief$Lakes" 99 y_LK_joinAt) ∈ lw_ok := wok (List.mem_append_right _ (List.mem_of_getElem? (i := 368) (by decide +kernel))) rfl
theorem in_370 : (Cond.instanceMethod y_LK_joinAt) ∈ lw_ok := wok (List.mem_append_right _ (List.mem_of_getElem? (i := 370) (by decide +kernel))) rfl
set_option maxRecDepth 20000 in
theorem in_371 : (Cond.code y_LK_joinAt prog_3_method_11_code 7 (Option.some Jvm.ClassFile.FieldType.int)) ∈ lw_ok := wok (List.mem_append_right _ (List.mem_of_getElem? (i := 371) rfl)) rfl
theorem in_372 : (Cond.methodLink "LakeRelief$Lakes" 131 y_LK_makeDouble) ∈ lw_ok := wok (List.mem_append_right _ (List.mem_of_getElem? (i := 372) (by decide +kernel))) rfl
theorem in_374 : (Cond.instanceMethod y_LK_makeDouble) ∈ lw_ok := wok (List.mem_append_right _ (List.mem_of_getElem? (i := 374) (by decide +kernel))) rfl
set_option maxRecDepth 20000 in
theorem in_375 : (Cond.code y_LK_makeDouble prog_3_method_12_code 5 (Option.some Jvm.ClassFile.FieldType.int)) ∈ lw_ok := wok (List.mem_append_right _ (List.mem_of_getElem? (i := 375) rfl)) rfl
theorem in_376 : (Cond.methodLink "LakeRelief$Lakes" 36 y_LK_isLake) ∈ lw_ok := wok (List.mem_append_right _ (List.mem_of_getElem? (i := 376) (by decide +kernel))) rfl
theorem in_377 : (Cond.instanceMethod y_LK_isLake) ∈ lw_ok := wok (List.mem_append_right _ (List.mem_of_getElem? (i := 377) (by decide +kernel))) rfl
theorem in_378 : (Cond.selects "LakeRelief$Lakes" y_LK_isLake y_LK_isLake) ∈ lw_ok := wok (List.mem_append_right _ (List.mem_of_getElem? (i := 378) (by decide +kernel))) rfl
set_option maxRecDepth 20000 in
theorem in_379 : (Cond.code y_LK_isLake prog_3_method_2_code 2 (Option.some Jvm.ClassFile.FieldType.boolean)) ∈ lw_ok := wok (List.mem_append_right _ (List.mem_of_getElem? (i := 379) rfl)) rfl
theorem in_380 : (Cond.methodLink "LakeRelief$Lakes" 63 y_LK_measure) ∈ lw_ok := wok (List.mem_append_right _ (List.mem_of_getElem? (i := 380) (by decide +kernel))) rfl
theorem in_382 : (Cond.instanceMethod y_LK_measure) ∈ lw_ok := wok (List.mem_append_right _ (List.mem_of_getElem? (i := 382) (by decide +kernel))) rfl
set_option maxRecDepth 20000 in
theorem in_383 : (Cond.code y_LK_measure prog_3_method_5_code 2 (Option.none : Option Jvm.ClassFile.FieldType)) ∈ lw_ok := wok (List.mem_append_right _ (List.mem_of_getElem? (i := 383) rfl)) rfl
theorem in_384 : (Cond.methodLink "LakeRelief$Lakes" 43 y_RE_isLand) ∈ lw_ok := wok (List.mem_append_right _ (List.mem_of_getElem? (i := 384) (by decide +kernel))) rfl
theorem in_385 : (Cond.methodLink "LakeRelief$Lakes" 70 y_RE_roomBelow) ∈ lw_ok := wok (List.mem_append_right _ (List.mem_of_getElem? (i := 385) (by decide +kernel))) rfl
theorem in_386 : (Cond.instanceMethod y_RE_roomBelow) ∈ lw_ok := wok (List.mem_append_right _ (List.mem_of_getElem? (i := 386) (by decide +kernel))) rfl
theorem in_387 : (Cond.selects "LakeRelief$Relief" y_RE_roomBelow y_RE_roomBelow) ∈ lw_ok := wok (List.mem_append_right _ (List.mem_of_getElem? (i := 387) (by decide +kernel))) rfl
set_option maxRecDepth 20000 in
theorem in_388 : (Cond.code y_RE_roomBelow prog_4_method_24_code 6 (Option.some Jvm.ClassFile.FieldType.int)) ∈ lw_ok := wok (List.mem_append_right _ (List.mem_of_getElem? (i := 388) rfl)) rfl
theorem in_389 : (Cond.methodLink "LakeRelief$Lakes" 77 y_LA_isDouble) ∈ lw_ok := wok (List.mem_append_right _ (List.mem_of_getElem? (i := 389) (by decide +kernel))) rfl
theorem in_390 : (Cond.instanceMethod y_LA_isDouble) ∈ lw_ok := wok (List.mem_append_right _ (List.mem_of_getElem? (i := 390) (by decide +kernel))) rfl
theorem in_391 : (Cond.selects "LakeRelief$Lake" y_LA_isDouble y_LA_isDouble) ∈ lw_ok := wok (List.mem_append_right _ (List.mem_of_getElem? (i := 391) (by decide +kernel))) rfl
set_option maxRecDepth 20000 in
theorem in_392 : (Cond.code y_LA_isDouble prog_2_method_3_code 1 (Option.some Jvm.ClassFile.FieldType.boolean)) ∈ lw_ok := wok (List.mem_append_right _ (List.mem_of_getElem? (i := 392) rfl)) rfl
theorem in_393 : (Cond.methodLink "LakeRelief$Lakes" 81 y_LA_appear) ∈ lw_ok := wok (List.mem_append_right _ (List.mem_of_getElem? (i := 393) (by decide +kernel))) rfl
theorem in_394 : (Cond.instanceMethod y_LA_appear) ∈ lw_ok := wok (List.mem_append_right _ (List.mem_of_getElem? (i := 394) (by decide +kernel))) rfl
theorem in_395 : (Cond.selects "LakeRelief$Lake" y_LA_appear y_LA_appear) ∈ lw_ok := wok (List.mem_append_right _ (List.mem_of_getElem? (i := 395) (by decide +kernel))) rfl
set_option maxRecDepth 20000 in
theorem in_396 : (Cond.code y_LA_appear prog_2_method_6_code 2 (Option.none : Option Jvm.ClassFile.FieldType)) ∈ lw_ok := wok (List.mem_append_right _ (List.mem_of_getElem? (i := 396) rfl)) rfl
theorem in_397 : (Cond.methodLink "LakeReliefLaw" 37 y_LR_field) ∈ lw_ok := wok (List.mem_append_right _ (List.mem_of_getElem? (i := 397) (by decide +kernel))) rfl
theorem in_398 : (Cond.instanceMethod y_LR_field) ∈ lw_ok := wok (List.mem_append_right _ (List.mem_of_getElem? (i := 398) (by decide +kernel))) rfl
theorem in_399 : (Cond.selects "LakeRelief" y_LR_field y_LR_field) ∈ lw_ok := wok (List.mem_append_right _ (List.mem_of_getElem? (i := 399) (by decide +kernel))) rfl
set_option maxRecDepth 20000 in
theorem in_400 : (Cond.code y_LR_field prog_1_method_7_code 3 (Option.some Jvm.ClassFile.FieldType.int)) ∈ lw_ok := wok (List.mem_append_right _ (List.mem_of_getElem? (i := 400) rfl)) rfl
theorem in_401 : (Cond.constant "LakeRelief" 89 (-2000002)) ∈ lw_ok := wok (List.mem_append_right _ (List.mem_of_getElem? (i := 401) (by decide +kernel))) rfl
theorem in_402 : (Cond.methodLink "LakeRelief" 90 y_RE_isField) ∈ lw_ok := wok (List.mem_append_right _ (List.mem_of_getElem? (i := 402) (by decide +kernel))) rfl
theorem in_403 : (Cond.constant "LakeRelief" 93 (-2000001)) ∈ lw_ok := wok (List.mem_append_right _ (List.mem_of_getElem? (i := 403) (by decide +kernel))) rfl
theorem in_404 : (Cond.methodLink "LakeRelief" 94 y_RE_isLand) ∈ lw_ok := wok (List.mem_append_right _ (List.mem_of_getElem? (i := 404) (by decide +kernel))) rfl
theorem in_405 : (Cond.methodLink "LakeRelief" 109 y_LK_thereWith) ∈ lw_ok := wok (List.mem_append_right _ (List.mem_of_getElem? (i := 405) (by decide +kernel))) rfl
theorem in_406 : (Cond.instanceMethod y_LK_thereWith) ∈ lw_ok := wok (List.mem_append_right _ (List.mem_of_getElem? (i := 406) (by decide +kernel))) rfl
theorem in_407 : (Cond.selects "LakeRelief$Lakes" y_LK_thereWith y_LK_thereWith) ∈ lw_ok := wok (List.mem_append_right _ (List.mem_of_getElem? (i := 407) (by decide +kernel))) rfl
set_option maxRecDepth 20000 in
theorem in_408 : (Cond.code y_LK_thereWith prog_3_method_14_code 3 (Option.some Jvm.ClassFile.FieldType.int)) ∈ lw_ok := wok (List.mem_append_right _ (List.mem_of_getElem? (i := 408) rfl)) rfl
theorem in_409 : (Cond.methodLink "LakeReliefLaw" 41 y_LR_hollow) ∈ lw_ok := wok (List.mem_append_right _ (List.mem_of_getElem? (i := 409) (by decide +kernel))) rfl
theorem in_410 : (Cond.instanceMethod y_LR_hollow) ∈ lw_ok := wok (List.mem_append_right _ (List.mem_of_getElem? (i := 410) (by decide +kernel))) rfl
theorem in_411 : (Cond.selects "LakeRelief" y_LR_hollow y_LR_hollow) ∈ lw_ok := wok (List.mem_append_right _ (List.mem_of_getElem? (i := 411) (by decide +kernel))) rfl
set_option maxRecDepth 20000 in
theorem in_412 : (Cond.code y_LR_hollow prog_1_method_8_code 2 (Option.some Jvm.ClassFile.FieldType.int)) ∈ lw_ok := wok (List.mem_append_right _ (List.mem_of_getElem? (i := 412) rfl)) rfl
theorem in_413 : (Cond.methodLink "LakeRelief" 113 y_RE_hollowAt) ∈ lw_ok := wok (List.mem_append_right _ (List.mem_of_getElem? (i := 413) (by decide +kernel))) rfl
theorem in_414 : (Cond.instanceMethod y_RE_hollowAt) ∈ lw_ok := wok (List.mem_append_right _ (List.mem_of_getElem? (i := 414) (by decide +kernel))) rfl
theorem in_415 : (Cond.selects "LakeRelief$Relief" y_RE_hollowAt y_RE_hollowAt) ∈ lw_ok := wok (List.mem_append_right _ (List.mem_of_getElem? (i := 415) (by decide +kernel))) rfl
set_option maxRecDepth 20000 in
theorem in_416 : (Cond.code y_RE_hollowAt prog_4_method_22_code 4 (Option.some Jvm.ClassFile.FieldType.int)) ∈ lw_ok := wok (List.mem_append_right _ (List.mem_of_getElem? (i := 416) rfl)) rfl
theorem in_417 : (Cond.methodLink "LakeRelief$Relief" 117 y_RE_isHollow) ∈ lw_ok := wok (List.mem_append_right _ (List.mem_of_getElem? (i := 417) (by decide +kernel))) rfl
theorem in_419 : (Cond.instanceMethod y_RE_isHollow) ∈ lw_ok := wok (List.mem_append_right _ (List.mem_of_getElem? (i := 419) (by decide +kernel))) rfl
set_option maxRecDepth 20000 in
theorem in_420 : (Cond.code y_RE_isHollow prog_4_method_20_code 2 (Option.some Jvm.ClassFile.FieldType.boolean)) ∈ lw_ok := wok (List.mem_append_right _ (List.mem_of_getElem? (i := 420) rfl)) rfl
theorem in_421 : (Cond.methodLink "LakeReliefLaw" 46 y_LR_lake) ∈ lw_ok := wok (List.mem_append_right _ (List.mem_of_getElem? (i := 421) (by decide +kernel))) rfl
theorem in_422 : (Cond.instanceMethod y_LR_lake) ∈ lw_ok := wok (List.mem_append_right _ (List.mem_of_getElem? (i := 422) (by decide +kernel))) rfl
theorem in_423 : (Cond.selects "LakeRelief" y_LR_lake y_LR_lake) ∈ lw_ok := wok (List.mem_append_right _ (List.mem_of_getElem? (i := 423) (by decide +kernel))) rfl
set_option maxRecDepth 20000 in
theorem in_424 : (Cond.code y_LR_lake prog_1_method_9_code 4 (Option.some Jvm.ClassFile.FieldType.int)) ∈ lw_ok := wok (List.mem_append_right _ (List.mem_of_getElem? (i := 424) rfl)) rfl
theorem in_425 : (Cond.methodLink "LakeRelief" 116 y_LK_isLake) ∈ lw_ok := wok (List.mem_append_right _ (List.mem_of_getElem? (i := 425) (by decide +kernel))) rfl
theorem in_426 : (Cond.methodLink "LakeRelief" 123 y_LA_isDouble) ∈ lw_ok := wok (List.mem_append_right _ (List.mem_of_getElem? (i := 426) (by decide +kernel))) rfl
theorem in_427 : (Cond.methodLink "LakeRelief" 133 y_RE_lowestOf) ∈ lw_ok := wok (List.mem_append_right _ (List.mem_of_getElem? (i := 427) (by decide +kernel))) rfl
theorem in_428 : (Cond.instanceMethod y_RE_lowestOf) ∈ lw_ok := wok (List.mem_append_right _ (List.mem_of_getElem? (i := 428) (by decide +kernel))) rfl
theorem in_429 : (Cond.selects "LakeRelief$Relief" y_RE_lowestOf y_RE_lowestOf) ∈ lw_ok := wok (List.mem_append_right _ (List.mem_of_getElem? (i := 429) (by decide +kernel))) rfl
set_option maxRecDepth 20000 in
theorem in_430 : (Cond.code y_RE_lowestOf prog_4_method_23_code 4 (Option.some Jvm.ClassFile.FieldType.int)) ∈ lw_ok := wok (List.mem_append_right _ (List.mem_of_getElem? (i := 430) rfl)) rfl
theorem in_431 : (Cond.methodLink "LakeRelief" 149 y_JL_bitCount) ∈ lw_ok := wok (List.mem_append_right _ (List.mem_of_getElem? (i := 431) (by decide +kernel))) rfl
theorem in_432 : (Cond.static y_JL_bitCount) ∈ lw_ok := wok (List.mem_append_right _ (List.mem_of_getElem? (i := 432) (by decide +kernel))) rfl
set_option maxRecDepth 20000 in
theorem in_433 : (Cond.code y_JL_bitCount prog_8_method_50_code 2 (Option.some Jvm.ClassFile.FieldType.int)) ∈ lw_ok := wok (List.mem_append_right _ (List.mem_of_getElem? (i := 433) rfl)) rfl
theorem in_434 : (Cond.constantLong "java/lang/Long" 314 (6148914691236517205)) ∈ lw_ok := wok (List.mem_append_right _ (List.mem_of_getElem? (i := 434) (by decide +kernel))) rfl
theorem in_435 : (Cond.constantLong "java/lang/Long" 316 (3689348814741910323)) ∈ lw_ok := wok (List.mem_append_right _ (List.mem_of_getElem? (i := 435) (by decide +kernel))) rfl
theorem in_436 : (Cond.constantLong "java/lang/Long" 318 (1085102592571150095)) ∈ lw_ok := wok (List.mem_append_right _ (List.mem_of_getElem? (i := 436) (by decide +kernel))) rfl
theorem in_437 : (Cond.methodLink "LakeReliefLaw" 50 y_LR_ground) ∈ lw_ok := wok (List.mem_append_right _ (List.mem_of_getElem? (i := 437) (by decide +kernel))) rfl
theorem in_438 : (Cond.instanceMethod y_LR_ground) ∈ lw_ok := wok (List.mem_append_right _ (List.mem_of_getElem? (i := 438) (by decide +kernel))) rfl
theorem in_439 : (Cond.selects "LakeRelief" y_LR_ground y_LR_ground) ∈ lw_ok := wok (List.mem_append_right _ (List.mem_of_getElem? (i := 439) (by decide +kernel))) rfl
set_option maxRecDepth 20000 in
theorem in_440 : (Cond.code y_LR_ground prog_1_method_10_code 3 (Option.some Jvm.ClassFile.FieldType.int)) ∈ lw_ok := wok (List.mem_append_right _ (List.mem_of_getElem? (i := 440) rfl)) rfl
theorem in_441 : (Cond.methodLink "LakeRelief" 163 y_LR_isIn) ∈ lw_ok := wok (List.mem_append_right _ (List.mem_of_getElem? (i := 441) (by decide +kernel))) rfl
theorem in_442 : (Cond.methodLink "LakeReliefLaw" 54 y_LR_holds) ∈ lw_ok := wok (List.mem_append_right _ (List.mem_of_getElem? (i := 442) (by decide +kernel))) rfl
theorem in_443 : (Cond.instanceMethod y_LR_holds) ∈ lw_ok := wok (List.mem_append_right _ (List.mem_of_getElem? (i := 443) (by decide +kernel))) rfl
theorem in_444 : (Cond.selects "LakeRelief" y_LR_holds y_LR_holds) ∈ lw_ok := wok (List.mem_append_right _ (List.mem_of_getElem? (i := 444) (by decide +kernel))) rfl
set_option maxRecDepth 20000 in
theorem in_445 : (Cond.code y_LR_holds prog_1_method_11_code 3 (Option.some Jvm.ClassFile.FieldType.int)) ∈ lw_ok := wok (List.mem_append_right _ (List.mem_of_getElem? (i := 445) rfl)) rfl
theorem in_446 : (Cond.methodLink "LakeRelief" 167 y_LK_isLevelOf) ∈ lw_ok := wok (List.mem_append_right _ (List.mem_of_getElem? (i := 446) (by decide +kernel))) rfl
theorem in_447 : (Cond.instanceMethod y_LK_isLevelOf) ∈ lw_ok := wok (List.mem_append_right _ (List.mem_of_getElem? (i := 447) (by decide +kernel))) rfl
theorem in_448 : (Cond.selects "LakeRelief$Lakes" y_LK_isLevelOf y_LK_isLevelOf) ∈ lw_ok := wok (List.mem_append_right _ (List.mem_of_getElem? (i := 448) (by decide +kernel))) rfl
set_option maxRecDepth 20000 in
theorem in_449 : (Cond.code y_LK_isLevelOf prog_3_method_3_code 3 (Option.some Jvm.ClassFile.FieldType.boolean)) ∈ lw_ok := wok (List.mem_append_right _ (List.mem_of_getElem? (i := 449) rfl)) rfl
theorem in_450 : (Cond.constant "LakeRelief$Lakes" 48 (-1000000)) ∈ lw_ok := wok (List.mem_append_right _ (List.mem_of_getElem? (i := 450) (by decide +kernel))) rfl
theorem in_451 : (Cond.methodLink "LakeRelief" 170 y_RE_roomBelow) ∈ lw_ok := wok (List.mem_append_right _ (List.mem_of_getElem? (i := 451) (by decide +kernel))) rfl
theorem in_452 : (Cond.methodLink "LakeReliefLaw" 58 y_LR_area) ∈ lw_ok := wok (List.mem_append_right _ (List.mem_of_getElem? (i := 452) (by decide +kernel))) rfl
theorem in_453 : (Cond.instanceMethod y_LR_area) ∈ lw_ok := wok (List.mem_append_right _ (List.mem_of_getElem? (i := 453) (by decide +kernel))) rfl
theorem in_454 : (Cond.selects "LakeRelief" y_LR_area y_LR_area) ∈ lw_ok := wok (List.mem_append_right _ (List.mem_of_getElem? (i := 454) (by decide +kernel))) rfl
set_option maxRecDepth 20000 in
theorem in_455 : (Cond.code y_LR_area prog_1_method_12_code 3 (Option.some Jvm.ClassFile.FieldType.int)) ∈ lw_ok := wok (List.mem_append_right _ (List.mem_of_getElem? (i := 455) rfl)) rfl
theorem in_456 : (Cond.methodLink "LakeRelief" 174 y_RE_countBelow) ∈ lw_ok := wok (List.mem_append_right _ (List.mem_of_getElem? (i := 456) (by decide +kernel))) rfl
theorem in_457 : (Cond.instanceMethod y_RE_countBelow) ∈ lw_ok := wok (List.mem_append_right _ (List.mem_of_getElem? (i := 457) (by decide +kernel))) rfl
theorem in_458 : (Cond.selects "LakeRelief$Relief" y_RE_countBelow y_RE_countBelow) ∈ lw_ok := wok (List.mem_append_right _ (List.mem_of_getElem? (i := 458) (by decide +kernel))) rfl
set_option maxRecDepth 20000 in
theorem in_459 : (Cond.code y_RE_countBelow prog_4_method_25_code 6 (Option.some Jvm.ClassFile.FieldType.int)) ∈ lw_ok := wok (List.mem_append_right _ (List.mem_of_getElem? (i := 459) rfl)) rfl
theorem in_460 : (Cond.methodLink "LakeReliefLaw" 62 y_LR_pour) ∈ lw_ok := wok (List.mem_append_right _ (List.mem_of_getElem? (i := 460) (by decide +kernel))) rfl
theorem in_461 : (Cond.instanceMethod y_LR_pour) ∈ lw_ok := wok (List.mem_append_right _ (List.mem_of_getElem? (i := 461) (by decide +kernel))) rfl
theorem in_462 : (Cond.selects "LakeRelief" y_LR_pour y_LR_pour) ∈ lw_ok := wok (List.mem_append_right _ (List.mem_of_getElem? (i := 462) (by decide +kernel))) rfl
set_option maxRecDepth 20000 in
theorem in_463 : (Cond.code y_LR_pour prog_1_method_13_code 3 (Option.some Jvm.ClassFile.FieldType.int)) ∈ lw_ok := wok (List.mem_append_right _ (List.mem_of_getElem? (i := 463) rfl)) rfl
theorem in_464 : (Cond.methodLink "LakeRelief" 178 y_LK_takeGrains) ∈ lw_ok := wok (List.mem_append_right _ (List.mem_of_getElem? (i := 464) (by decide +kernel))) rfl
theorem in_465 : (Cond.instanceMethod y_LK_takeGrains) ∈ lw_ok := wok (List.mem_append_right _ (List.mem_of_getElem? (i := 465) (by decide +kernel))) rfl
theorem in_466 : (Cond.selects "LakeRelief$Lakes" y_LK_takeGrains y_LK_takeGrains) ∈ lw_ok := wok (List.mem_append_right _ (List.mem_of_getElem? (i := 466) (by decide +kernel))) rfl
set_option maxRecDepth 20000 in
theorem in_467 : (Cond.code y_LK_takeGrains prog_3_method_17_code 4 (Option.some Jvm.ClassFile.FieldType.int)) ∈ lw_ok := wok (List.mem_append_right _ (List.mem_of_getElem? (i := 467) rfl)) rfl
theorem in_468 : (Cond.methodLink "LakeRelief$Lakes" 146 y_LK_lakeBelow) ∈ lw_ok := wok (List.mem_append_right _ (List.mem_of_getElem? (i := 468) (by decide +kernel))) rfl
theorem in_470 : (Cond.instanceMethod y_LK_lakeBelow) ∈ lw_ok := wok (List.mem_append_right _ (List.mem_of_getElem? (i := 470) (by decide +kernel))) rfl
set_option maxRecDepth 20000 in
theorem in_471 : (Cond.code y_LK_lakeBelow prog_3_method_18_code 2 (Option.some Jvm.ClassFile.FieldType.int)) ∈ lw_ok := wok (List.mem_append_right _ (List.mem_of_getElem? (i := 471) rfl)) rfl
theorem in_472 : (Cond.methodLink "LakeRelief$Lakes" 155 y_LK_thereWith) ∈ lw_ok := wok (List.mem_append_right _ (List.mem_of_getElem? (i := 472) (by decide +kernel))) rfl
theorem in_473 : (Cond.methodLink "LakeRelief$Lakes" 149 y_LK_runDown) ∈ lw_ok := wok (List.mem_append_right _ (List.mem_of_getElem? (i := 473) (by decide +kernel))) rfl
theorem in_475 : (Cond.instanceMethod y_LK_runDown) ∈ lw_ok := wok (List.mem_append_right _ (List.mem_of_getElem? (i := 475) (by decide +kernel))) rfl
set_option maxRecDepth 20000 in
theorem in_476 : (Cond.code y_LK_runDown prog_3_method_19_code 6 (Option.some Jvm.ClassFile.FieldType.int)) ∈ lw_ok := wok (List.mem_append_right _ (List.mem_of_getElem? (i := 476) rfl)) rfl
theorem in_477 : (Cond.methodLink "LakeRelief$Lakes" 158 y_LK_fillUp) ∈ lw_ok := wok (List.mem_append_right _ (List.mem_of_getElem? (i := 477) (by decide +kernel))) rfl
theorem in_479 : (Cond.instanceMethod y_LK_fillUp) ∈ lw_ok := wok (List.mem_append_right _ (List.mem_of_getElem? (i := 479) (by decide +kernel))) rfl
set_option maxRecDepth 20000 in
theorem in_480 : (Cond.code y_LK_fillUp prog_3_method_20_code 4 (Option.some Jvm.ClassFile.FieldType.int)) ∈ lw_ok := wok (List.mem_append_right _ (List.mem_of_getElem? (i := 480) rfl)) rfl
theorem in_481 : (Cond.methodLink "LakeRelief$Lakes" 165 y_JM_min) ∈ lw_ok := wok (List.mem_append_right _ (List.mem_of_getElem? (i := 481) (by decide +kernel))) rfl
theorem in_482 : (Cond.methodLink "LakeRelief$Lakes" 162 y_LK_next) ∈ lw_ok := wok (List.mem_append_right _ (List.mem_of_getElem? (i := 482) (by decide +kernel))) rfl
theorem in_484 : (Cond.instanceMethod y_LK_next) ∈ lw_ok := wok (List.mem_append_right _ (List.mem_of_getElem? (i := 484) (by decide +kernel))) rfl
set_option maxRecDepth 20000 in
theorem in_485 : (Cond.code y_LK_next prog_3_method_21_code 4 (Option.some Jvm.ClassFile.FieldType.int)) ∈ lw_ok := wok (List.mem_append_right _ (List.mem_of_getElem? (i := 485) rfl)) rfl
theorem in_486 : (Cond.methodLink "LakeRelief$Lakes" 176 y_LA_isFull) ∈ lw_ok := wok (List.mem_append_right _ (List.mem_of_getElem? (i := 486) (by decide +kernel))) rfl
theorem in_487 : (Cond.instanceMethod y_LA_isFull) ∈ lw_ok := wok (List.mem_append_right _ (List.mem_of_getElem? (i := 487) (by decide +kernel))) rfl
theorem in_488 : (Cond.selects "LakeRelief$Lake" y_LA_isFull y_LA_isFull) ∈ lw_ok := wok (List.mem_append_right _ (List.mem_of_getElem? (i := 488) (by decide +kernel))) rfl
set_option maxRecDepth 20000 in
theorem in_489 : (Cond.code y_LA_isFull prog_2_method_4_code 1 (Option.some Jvm.ClassFile.FieldType.boolean)) ∈ lw_ok := wok (List.mem_append_right _ (List.mem_of_getElem? (i := 489) rfl)) rfl
theorem in_490 : (Cond.methodLink "LakeRelief$Lakes" 179 y_LK_join) ∈ lw_ok := wok (List.mem_append_right _ (List.mem_of_getElem? (i := 490) (by decide +kernel))) rfl
theorem in_492 : (Cond.instanceMethod y_LK_join) ∈ lw_ok := wok (List.mem_append_right _ (List.mem_of_getElem? (i := 492) (by decide +kernel))) rfl
set_option maxRecDepth 20000 in
theorem in_493 : (Cond.code y_LK_join prog_3_method_22_code 4 (Option.none : Option Jvm.ClassFile.FieldType)) ∈ lw_ok := wok (List.mem_append_right _ (List.mem_of_getElem? (i := 493) rfl)) rfl
theorem in_494 : (Cond.methodLink "LakeRelief$Lakes" 183 y_LA_vanish) ∈ lw_ok := wok (List.mem_append_right _ (List.mem_of_getElem? (i := 494) (by decide +kernel))) rfl
theorem in_495 : (Cond.instanceMethod y_LA_vanish) ∈ lw_ok := wok (List.mem_append_right _ (List.mem_of_getElem? (i := 495) (by decide +kernel))) rfl
theorem in_496 : (Cond.selects "LakeRelief$Lake" y_LA_vanish y_LA_vanish) ∈ lw_ok := wok (List.mem_append_right _ (List.mem_of_getElem? (i := 496) (by decide +kernel))) rfl
set_option maxRecDepth 20000 in
theorem in_497 : (Cond.code y_LA_vanish prog_2_method_7_code 1 (Option.none : Option Jvm.ClassFile.FieldType)) ∈ lw_ok := wok (List.mem_append_right _ (List.mem_of_getElem? (i := 497) rfl)) rfl
theorem in_498 : (Cond.methodLink "LakeReliefLaw" 66 y_LR_level) ∈ lw_ok := wok (List.mem_append_right _ (List.mem_of_getElem? (i := 498) (by decide +kernel))) rfl
theorem in_499 : (Cond.instanceMethod y_LR_level) ∈ lw_ok := wok (List.mem_append_right _ (List.mem_of_getElem? (i := 499) (by decide +kernel))) rfl
theorem in_500 : (Cond.selects "LakeRelief" y_LR_level y_LR_level) ∈ lw_ok := wok (List.mem_append_right _ (List.mem_of_getElem? (i := 500) (by decide +kernel))) rfl
set_option maxRecDepth 20000 in
theorem in_501 : (Cond.code y_LR_level prog_1_method_14_code 3 (Option.some Jvm.ClassFile.FieldType.int)) ∈ lw_ok := wok (List.mem_append_right _ (List.mem_of_getElem? (i := 501) rfl)) rfl
theorem in_502 : (Cond.methodLink "LakeRelief" 181 y_RE_surface) ∈ lw_ok := wok (List.mem_append_right _ (List.mem_of_getElem? (i := 502) (by decide +kernel))) rfl
theorem in_503 : (Cond.instanceMethod y_RE_surface) ∈ lw_ok := wok (List.mem_append_right _ (List.mem_of_getElem? (i := 503) (by decide +kernel))) rfl
theorem in_504 : (Cond.selects "LakeRelief$Relief" y_RE_surface y_RE_surface) ∈ lw_ok := wok (List.mem_append_right _ (List.mem_of_getElem? (i := 504) (by decide +kernel))) rfl
set_option maxRecDepth 20000 in
theorem in_505 : (Cond.code y_RE_surface prog_4_method_26_code 9 (Option.some Jvm.ClassFile.FieldType.int)) ∈ lw_ok := wok (List.mem_append_right _ (List.mem_of_getElem? (i := 505) rfl)) rfl
theorem in_506 : (Cond.methodLink "LakeRelief$Relief" 120 y_JM_abs) ∈ lw_ok := wok (List.mem_append_right _ (List.mem_of_getElem? (i := 506) (by decide +kernel))) rfl
theorem in_507 : (Cond.static y_JM_abs) ∈ lw_ok := wok (List.mem_append_right _ (List.mem_of_getElem? (i := 507) (by decide +kernel))) rfl
set_option maxRecDepth 20000 in
theorem in_508 : (Cond.code y_JM_abs prog_9_method_59_code 1 (Option.some Jvm.ClassFile.FieldType.int)) ∈ lw_ok := wok (List.mem_append_right _ (List.mem_of_getElem? (i := 508) rfl)) rfl
theorem in_509 : (Cond.methodLink "LakeRelief$Relief" 123 y_RE_greatestDivisor) ∈ lw_ok := wok (List.mem_append_right _ (List.mem_of_getElem? (i := 509) (by decide +kernel))) rfl
theorem in_510 : (Cond.static y_RE_greatestDivisor) ∈ lw_ok := wok (List.mem_append_right _ (List.mem_of_getElem? (i := 510) (by decide +kernel))) rfl
set_option maxRecDepth 20000 in
theorem in_511 : (Cond.code y_RE_greatestDivisor prog_4_method_27_code 6 (Option.some Jvm.ClassFile.FieldType.int)) ∈ lw_ok := wok (List.mem_append_right _ (List.mem_of_getElem? (i := 511) rfl)) rfl
theorem in_512 : (Cond.methodLink "LakeReliefLaw" 70 y_LR_rise) ∈ lw_ok := wok (List.mem_append_right _ (List.mem_of_getElem? (i := 512) (by decide +kernel))) rfl
theorem in_513 : (Cond.instanceMethod y_LR_rise) ∈ lw_ok := wok (List.mem_append_right _ (List.mem_of_getElem? (i := 513) (by decide +kernel))) rfl
theorem in_514 : (Cond.selects "LakeRelief" y_LR_rise y_LR_rise) ∈ lw_ok := wok (List.mem_append_right _ (List.mem_of_getElem? (i := 514) (by decide +kernel))) rfl
set_option maxRecDepth 20000 in
theorem in_515 : (Cond.code y_LR_rise prog_1_method_15_code 2 (Option.some Jvm.ClassFile.FieldType.int)) ∈ lw_ok := wok (List.mem_append_right _ (List.mem_of_getElem? (i := 515) rfl)) rfl
theorem in_516 : (Cond.methodLink "LakeRelief" 185 y_LR_isSeaLevel) ∈ lw_ok := wok (List.mem_append_right _ (List.mem_of_getElem? (i := 516) (by decide +kernel))) rfl
theorem in_517 : (Cond.static y_LR_isSeaLevel) ∈ lw_ok := wok (List.mem_append_right _ (List.mem_of_getElem? (i := 517) (by decide +kernel))) rfl
set_option maxRecDepth 20000 in
theorem in_518 : (Cond.code y_LR_isSeaLevel prog_1_method_23_code 1 (Option.some Jvm.ClassFile.FieldType.boolean)) ∈ lw_ok := wok (List.mem_append_right _ (List.mem_of_getElem? (i := 518) rfl)) rfl
theorem in_519 : (Cond.constant "LakeRelief" 232 (1000001)) ∈ lw_ok := wok (List.mem_append_right _ (List.mem_of_getElem? (i := 519) (by decide +kernel))) rfl
theorem in_520 : (Cond.methodLink "LakeRelief" 188 y_RE_landLeftAt) ∈ lw_ok := wok (List.mem_append_right _ (List.mem_of_getElem? (i := 520) (by decide +kernel))) rfl
theorem in_521 : (Cond.instanceMethod y_RE_landLeftAt) ∈ lw_ok := wok (List.mem_append_right _ (List.mem_of_getElem? (i := 521) (by decide +kernel))) rfl
theorem in_522 : (Cond.selects "LakeRelief$Relief" y_RE_landLeftAt y_RE_landLeftAt) ∈ lw_ok := wok (List.mem_append_right _ (List.mem_of_getElem? (i := 522) (by decide +kernel))) rfl
set_option maxRecDepth 20000 in
theorem in_523 : (Cond.code y_RE_landLeftAt prog_4_method_28_code 6 (Option.some Jvm.ClassFile.FieldType.long)) ∈ lw_ok := wok (List.mem_append_right _ (List.mem_of_getElem? (i := 523) rfl)) rfl
theorem in_524 : (Cond.methodLink "LakeReliefLaw" 74 y_LR_islands) ∈ lw_ok := wok (List.mem_append_right _ (List.mem_of_getElem? (i := 524) (by decide +kernel))) rfl
theorem in_525 : (Cond.instanceMethod y_LR_islands) ∈ lw_ok := wok (List.mem_append_right _ (List.mem_of_getElem? (i := 525) (by decide +kernel))) rfl
theorem in_526 : (Cond.selects "LakeRelief" y_LR_islands y_LR_islands) ∈ lw_ok := wok (List.mem_append_right _ (List.mem_of_getElem? (i := 526) (by decide +kernel))) rfl
set_option maxRecDepth 20000 in
theorem in_527 : (Cond.code y_LR_islands prog_1_method_16_code 2 (Option.some Jvm.ClassFile.FieldType.int)) ∈ lw_ok := wok (List.mem_append_right _ (List.mem_of_getElem? (i := 527) rfl)) rfl
theorem in_528 : (Cond.methodLink "LakeRelief" 192 y_RE_piecesOf) ∈ lw_ok := wok (List.mem_append_right _ (List.mem_of_getElem? (i := 528) (by decide +kernel))) rfl
theorem in_529 : (Cond.instanceMethod y_RE_piecesOf) ∈ lw_ok := wok (List.mem_append_right _ (List.mem_of_getElem? (i := 529) (by decide +kernel))) rfl
theorem in_530 : (Cond.selects "LakeRelief$Relief" y_RE_piecesOf y_RE_piecesOf) ∈ lw_ok := wok (List.mem_append_right _ (List.mem_of_getElem? (i := 530) (by decide +kernel))) rfl
set_option maxRecDepth 20000 in
theorem in_531 : (Cond.code y_RE_piecesOf prog_4_method_29_code 7 (Option.some Jvm.ClassFile.FieldType.int)) ∈ lw_ok := wok (List.mem_append_right _ (List.mem_of_getElem? (i := 531) rfl)) rfl
theorem in_532 : (Cond.methodLink "LakeRelief$Relief" 126 y_RE_withoutPieceAt) ∈ lw_ok := wok (List.mem_append_right _ (List.mem_of_getElem? (i := 532) (by decide +kernel))) rfl
theorem in_534 : (Cond.instanceMethod y_RE_withoutPieceAt) ∈ lw_ok := wok (List.mem_append_right _ (List.mem_of_getElem? (i := 534) (by decide +kernel))) rfl
set_option maxRecDepth 20000 in
theorem in_535 : (Cond.code y_RE_withoutPieceAt prog_4_method_30_code 10 (Option.some Jvm.ClassFile.FieldType.long)) ∈ lw_ok := wok (List.mem_append_right _ (List.mem_of_getElem? (i := 535) rfl)) rfl
theorem in_536 : (Cond.constantLong "LakeRelief$Relief" 130 (-1)) ∈ lw_ok := wok (List.mem_append_right _ (List.mem_of_getElem? (i := 536) (by decide +kernel))) rfl
theorem in_537 : (Cond.methodLink "LakeReliefLaw" 78 y_LR_count) ∈ lw_ok := wok (List.mem_append_right _ (List.mem_of_getElem? (i := 537) (by decide +kernel))) rfl
theorem in_538 : (Cond.instanceMethod y_LR_count) ∈ lw_ok := wok (List.mem_append_right _ (List.mem_of_getElem? (i := 538) (by decide +kernel))) rfl
theorem in_539 : (Cond.selects "LakeRelief" y_LR_count y_LR_count) ∈ lw_ok := wok (List.mem_append_right _ (List.mem_of_getElem? (i := 539) (by decide +kernel))) rfl
set_option maxRecDepth 20000 in
theorem in_540 : (Cond.code y_LR_count prog_1_method_17_code 2 (Option.some Jvm.ClassFile.FieldType.long)) ∈ lw_ok := wok (List.mem_append_right _ (List.mem_of_getElem? (i := 540) rfl)) rfl
theorem in_541 : (Cond.constantLong "LakeRelief" 195 (-2)) ∈ lw_ok := wok (List.mem_append_right _ (List.mem_of_getElem? (i := 541) (by decide +kernel))) rfl
theorem in_542 : (Cond.methodLink "LakeRelief" 200 y_RE_hollowCount) ∈ lw_ok := wok (List.mem_append_right _ (List.mem_of_getElem? (i := 542) (by decide +kernel))) rfl
theorem in_543 : (Cond.instanceMethod y_RE_hollowCount) ∈ lw_ok := wok (List.mem_append_right _ (List.mem_of_getElem? (i := 543) (by decide +kernel))) rfl
theorem in_544 : (Cond.selects "LakeRelief$Relief" y_RE_hollowCount y_RE_hollowCount) ∈ lw_ok := wok (List.mem_append_right _ (List.mem_of_getElem? (i := 544) (by decide +kernel))) rfl
set_option maxRecDepth 20000 in
theorem in_545 : (Cond.code y_RE_hollowCount prog_4_method_21_code 3 (Option.some Jvm.ClassFile.FieldType.int)) ∈ lw_ok := wok (List.mem_append_right _ (List.mem_of_getElem? (i := 545) rfl)) rfl
theorem in_546 : (Cond.methodLink "LakeRelief" 207 y_LK_numberThere) ∈ lw_ok := wok (List.mem_append_right _ (List.mem_of_getElem? (i := 546) (by decide +kernel))) rfl
theorem in_547 : (Cond.instanceMethod y_LK_numberThere) ∈ lw_ok := wok (List.mem_append_right _ (List.mem_of_getElem? (i := 547) (by decide +kernel))) rfl
theorem in_548 : (Cond.selects "LakeRelief$Lakes" y_LK_numberThere y_LK_numberThere) ∈ lw_ok := wok (List.mem_append_right _ (List.mem_of_getElem? (i := 548) (by decide +kernel))) rfl
set_option maxRecDepth 20000 in
theorem in_549 : (Cond.code y_LK_numberThere prog_3_method_15_code 3 (Option.some Jvm.ClassFile.FieldType.int)) ∈ lw_ok := wok (List.mem_append_right _ (List.mem_of_getElem? (i := 549) rfl)) rfl
theorem in_550 : (Cond.methodLink "LakeRelief" 210 y_LK_waterThere) ∈ lw_ok := wok (List.mem_append_right _ (List.mem_of_getElem? (i := 550) (by decide +kernel))) rfl
theorem in_551 : (Cond.instanceMethod y_LK_waterThere) ∈ lw_ok := wok (List.mem_append_right _ (List.mem_of_getElem? (i := 551) (by decide +kernel))) rfl
theorem in_552 : (Cond.selects "LakeRelief$Lakes" y_LK_waterThere y_LK_waterThere) ∈ lw_ok := wok (List.mem_append_right _ (List.mem_of_getElem? (i := 552) (by decide +kernel))) rfl
set_option maxRecDepth 20000 in
theorem in_553 : (Cond.code y_LK_waterThere prog_3_method_16_code 4 (Option.some Jvm.ClassFile.FieldType.long)) ∈ lw_ok := wok (List.mem_append_right _ (List.mem_of_getElem? (i := 553) rfl)) rfl
theorem in_554 : (Cond.constantLong "LakeRelief" 220 (-1)) ∈ lw_ok := wok (List.mem_append_right _ (List.mem_of_getElem? (i := 554) (by decide +kernel))) rfl
theorem in_555 : (Cond.classLink "LakeReliefLaw" 10 "LakeReliefModel") ∈ lw_ok := wok (List.mem_append_right _ (List.mem_of_getElem? (i := 555) (by decide +kernel))) rfl
theorem in_556 : (Cond.instantiable "LakeReliefModel" 29) ∈ lw_ok := wok (List.mem_append_right _ (List.mem_of_getElem? (i := 556) (by decide +kernel))) rfl
theorem in_557 : (Cond.methodLink "LakeReliefLaw" 12 y_MO_init) ∈ lw_ok := wok (List.mem_append_right _ (List.mem_of_getElem? (i := 557) (by decide +kernel))) rfl
theorem in_558 : (Cond.instanceMethod y_MO_init) ∈ lw_ok := wok (List.mem_append_right _ (List.mem_of_getElem? (i := 558) (by decide +kernel))) rfl
set_option maxRecDepth 20000 in
theorem in_559 : (Cond.code y_MO_init prog_7_method_1_code 2 (Option.none : Option Jvm.ClassFile.FieldType)) ∈ lw_ok := wok (List.mem_append_right _ (List.mem_of_getElem? (i := 559) rfl)) rfl
theorem in_560 : (Cond.methodLink "LakeReliefModel" 1 (⟨"java/lang/Object", "<init>", "()V"⟩ : MethodName)) ∈ lw_ok := wok (List.mem_append_right _ (List.mem_of_getElem? (i := 560) (by decide +kernel))) rfl
theorem in_561 : (Cond.fieldLink "LakeReliefModel" 7 "LakeReliefModel" "kind" "[I") ∈ lw_ok := wok (List.mem_append_right _ (List.mem_of_getElem? (i := 561) (by decide +kernel))) rfl
theorem in_562 : (Cond.fieldLink "LakeReliefModel" 13 "LakeReliefModel" "size" "[I") ∈ lw_ok := wok (List.mem_append_right _ (List.mem_of_getElem? (i := 562) (by decide +kernel))) rfl
theorem in_563 : (Cond.fieldLink "LakeReliefModel" 16 "LakeReliefModel" "strips" "[I") ∈ lw_ok := wok (List.mem_append_right _ (List.mem_of_getElem? (i := 563) (by decide +kernel))) rfl
theorem in_564 : (Cond.fieldLink "LakeReliefModel" 156 "LakeReliefModel" "isLaid" "Z") ∈ lw_ok := wok (List.mem_append_right _ (List.mem_of_getElem? (i := 564) (by decide +kernel))) rfl
theorem in_565 : (Cond.fieldLink "LakeReliefModel" 98 "LakeReliefModel" "wide" "I") ∈ lw_ok := wok (List.mem_append_right _ (List.mem_of_getElem? (i := 565) (by decide +kernel))) rfl
theorem in_566 : (Cond.fieldLink "LakeReliefModel" 102 "LakeReliefModel" "fields" "I") ∈ lw_ok := wok (List.mem_append_right _ (List.mem_of_getElem? (i := 566) (by decide +kernel))) rfl
theorem in_567 : (Cond.fieldLink "LakeReliefModel" 19 "LakeReliefModel" "isSea" "[Z") ∈ lw_ok := wok (List.mem_append_right _ (List.mem_of_getElem? (i := 567) (by decide +kernel))) rfl
theorem in_568 : (Cond.fieldLink "LakeReliefModel" 23 "LakeReliefModel" "height" "[I") ∈ lw_ok := wok (List.mem_append_right _ (List.mem_of_getElem? (i := 568) (by decide +kernel))) rfl
theorem in_569 : (Cond.fieldLink "LakeReliefModel" 26 "LakeReliefModel" "down" "[I") ∈ lw_ok := wok (List.mem_append_right _ (List.mem_of_getElem? (i := 569) (by decide +kernel))) rfl
theorem in_570 : (Cond.fieldLink "LakeReliefModel" 29 "LakeReliefModel" "wayEnd" "[I") ∈ lw_ok := wok (List.mem_append_right _ (List.mem_of_getElem? (i := 570) (by decide +kernel))) rfl
theorem in_571 : (Cond.fieldLink "LakeReliefModel" 32 "LakeReliefModel" "fill" "[I") ∈ lw_ok := wok (List.mem_append_right _ (List.mem_of_getElem? (i := 571) (by decide +kernel))) rfl
theorem in_572 : (Cond.fieldLink "LakeReliefModel" 116 "LakeReliefModel" "lakes" "I") ∈ lw_ok := wok (List.mem_append_right _ (List.mem_of_getElem? (i := 572) (by decide +kernel))) rfl
theorem in_573 : (Cond.fieldLink "LakeReliefModel" 35 "LakeReliefModel" "isDouble" "[Z") ∈ lw_ok := wok (List.mem_append_right _ (List.mem_of_getElem? (i := 573) (by decide +kernel))) rfl
theorem in_574 : (Cond.fieldLink "LakeReliefModel" 38 "LakeReliefModel" "ground" "[J") ∈ lw_ok := wok (List.mem_append_right _ (List.mem_of_getElem? (i := 574) (by decide +kernel))) rfl
theorem in_575 : (Cond.fieldLink "LakeReliefModel" 42 "LakeReliefModel" "rim" "[I") ∈ lw_ok := wok (List.mem_append_right _ (List.mem_of_getElem? (i := 575) (by decide +kernel))) rfl
theorem in_576 : (Cond.fieldLink "LakeReliefModel" 45 "LakeReliefModel" "above" "[I") ∈ lw_ok := wok (List.mem_append_right _ (List.mem_of_getElem? (i := 576) (by decide +kernel))) rfl
theorem in_577 : (Cond.fieldLink "LakeReliefModel" 48 "LakeReliefModel" "first" "[I") ∈ lw_ok := wok (List.mem_append_right _ (List.mem_of_getElem? (i := 577) (by decide +kernel))) rfl
theorem in_578 : (Cond.fieldLink "LakeReliefModel" 51 "LakeReliefModel" "second" "[I") ∈ lw_ok := wok (List.mem_append_right _ (List.mem_of_getElem? (i := 578) (by decide +kernel))) rfl
theorem in_579 : (Cond.fieldLink "LakeReliefModel" 54 "LakeReliefModel" "isThere" "[Z") ∈ lw_ok := wok (List.mem_append_right _ (List.mem_of_getElem? (i := 579) (by decide +kernel))) rfl
theorem in_580 : (Cond.fieldLink "LakeReliefModel" 57 "LakeReliefModel" "water" "[I") ∈ lw_ok := wok (List.mem_append_right _ (List.mem_of_getElem? (i := 580) (by decide +kernel))) rfl
theorem in_581 : (Cond.fieldLink "LakeReliefModel" 173 "LakeReliefModel" "gone" "J") ∈ lw_ok := wok (List.mem_append_right _ (List.mem_of_getElem? (i := 581) (by decide +kernel))) rfl
theorem in_582 : (Cond.fieldLink "LakeReliefModel" 177 "LakeReliefModel" "poured" "J") ∈ lw_ok := wok (List.mem_append_right _ (List.mem_of_getElem? (i := 582) (by decide +kernel))) rfl
theorem in_583 : (Cond.fieldLink "LakeReliefModel" 60 "LakeReliefModel" "middle" "[I") ∈ lw_ok := wok (List.mem_append_right _ (List.mem_of_getElem? (i := 583) (by decide +kernel))) rfl
theorem in_584 : (Cond.fieldLink "LakeReliefModel" 63 "LakeReliefModel" "owner" "[I") ∈ lw_ok := wok (List.mem_append_right _ (List.mem_of_getElem? (i := 584) (by decide +kernel))) rfl
theorem in_585 : (Cond.fieldLink "LakeReliefModel" 66 "LakeReliefModel" "isUnder" "[Z") ∈ lw_ok := wok (List.mem_append_right _ (List.mem_of_getElem? (i := 585) (by decide +kernel))) rfl
theorem in_586 : (Cond.fieldLink "LakeReliefModel" 69 "LakeReliefModel" "near" "[I") ∈ lw_ok := wok (List.mem_append_right _ (List.mem_of_getElem? (i := 586) (by decide +kernel))) rfl
theorem in_587 : (Cond.fieldLink "LakeReliefModel" 119 "LakeReliefModel" "nearMany" "I") ∈ lw_ok := wok (List.mem_append_right _ (List.mem_of_getElem? (i := 587) (by decide +kernel))) rfl
theorem in_588 : (Cond.fieldLink "LakeReliefModel" 72 "LakeReliefModel" "heights" "[I") ∈ lw_ok := wok (List.mem_append_right _ (List.mem_of_getElem? (i := 588) (by decide +kernel))) rfl
theorem in_589 : (Cond.fieldLink "LakeReliefModel" 75 "LakeReliefModel" "island" "[I") ∈ lw_ok := wok (List.mem_append_right _ (List.mem_of_getElem? (i := 589) (by decide +kernel))) rfl
theorem in_651 : (Cond.methodLink "LakeReliefLaw" 17 y_MO_strip) ∈ lw_ok := wok (List.mem_append_right _ (List.mem_of_getElem? (i := 651) (by decide +kernel))) rfl
theorem in_652 : (Cond.instanceMethod y_MO_strip) ∈ lw_ok := wok (List.mem_append_right _ (List.mem_of_getElem? (i := 652) (by decide +kernel))) rfl
theorem in_653 : (Cond.selects "LakeReliefModel" y_MO_strip y_MO_strip) ∈ lw_ok := wok (List.mem_append_right _ (List.mem_of_getElem? (i := 653) (by decide +kernel))) rfl
set_option maxRecDepth 20000 in
theorem in_654 : (Cond.code y_MO_strip prog_7_method_4_code 5 (Option.some Jvm.ClassFile.FieldType.int)) ∈ lw_ok := wok (List.mem_append_right _ (List.mem_of_getElem? (i := 654) rfl)) rfl
theorem in_655 : (Cond.methodLink "LakeReliefModel" 84 y_MO_isStrip) ∈ lw_ok := wok (List.mem_append_right _ (List.mem_of_getElem? (i := 655) (by decide +kernel))) rfl
theorem in_656 : (Cond.static y_MO_isStrip) ∈ lw_ok := wok (List.mem_append_right _ (List.mem_of_getElem? (i := 656) (by decide +kernel))) rfl
set_option maxRecDepth 20000 in
theorem in_657 : (Cond.code y_MO_isStrip prog_7_method_3_code 1 (Option.some Jvm.ClassFile.FieldType.boolean)) ∈ lw_ok := wok (List.mem_append_right _ (List.mem_of_getElem? (i := 657) rfl)) rfl
theorem in_658 : (Cond.constantLong "LakeReliefModel" 78 (7)) ∈ lw_ok := wok (List.mem_append_right _ (List.mem_of_getElem? (i := 658) (by decide +kernel))) rfl
theorem in_659 : (Cond.methodLink "LakeReliefModel" 80 y_MO_in) ∈ lw_ok := wok (List.mem_append_right _ (List.mem_of_getElem? (i := 659) (by decide +kernel))) rfl
theorem in_660 : (Cond.static y_MO_in) ∈ lw_ok := wok (List.mem_append_right _ (List.mem_of_getElem? (i := 660) (by decide +kernel))) rfl
set_option maxRecDepth 20000 in
theorem in_661 : (Cond.code y_MO_in prog_7_method_2_code 6 (Option.some Jvm.ClassFile.FieldType.boolean)) ∈ lw_ok := wok (List.mem_append_right _ (List.mem_of_getElem? (i := 661) rfl)) rfl
theorem in_662 : (Cond.constantLong "LakeReliefModel" 88 (-1)) ∈ lw_ok := wok (List.mem_append_right _ (List.mem_of_getElem? (i := 662) (by decide +kernel))) rfl
theorem in_663 : (Cond.constantLong "LakeReliefModel" 90 (2)) ∈ lw_ok := wok (List.mem_append_right _ (List.mem_of_getElem? (i := 663) (by decide +kernel))) rfl
theorem in_664 : (Cond.methodLink "LakeReliefLaw" 21 y_MO_put) ∈ lw_ok := wok (List.mem_append_right _ (List.mem_of_getElem? (i := 664) (by decide +kernel))) rfl
theorem in_665 : (Cond.instanceMethod y_MO_put) ∈ lw_ok := wok (List.mem_append_right _ (List.mem_of_getElem? (i := 665) (by decide +kernel))) rfl
theorem in_666 : (Cond.selects "LakeReliefModel" y_MO_put y_MO_put) ∈ lw_ok := wok (List.mem_append_right _ (List.mem_of_getElem? (i := 666) (by decide +kernel))) rfl
set_option maxRecDepth 20000 in
theorem in_667 : (Cond.code y_MO_put prog_7_method_6_code 5 (Option.some Jvm.ClassFile.FieldType.int)) ∈ lw_ok := wok (List.mem_append_right _ (List.mem_of_getElem? (i := 667) rfl)) rfl
theorem in_668 : (Cond.methodLink "LakeReliefModel" 92 y_MO_against) ∈ lw_ok := wok (List.mem_append_right _ (List.mem_of_getElem? (i := 668) (by decide +kernel))) rfl
theorem in_670 : (Cond.instanceMethod y_MO_against) ∈ lw_ok := wok (List.mem_append_right _ (List.mem_of_getElem? (i := 670) (by decide +kernel))) rfl
set_option maxRecDepth 20000 in
theorem in_671 : (Cond.code y_MO_against prog_7_method_5_code 3 (Option.some Jvm.ClassFile.FieldType.int)) ∈ lw_ok := wok (List.mem_append_right _ (List.mem_of_getElem? (i := 671) rfl)) rfl
theorem in_672 : (Cond.methodLink "LakeReliefLaw" 26 y_MO_copy) ∈ lw_ok := wok (List.mem_append_right _ (List.mem_of_getElem? (i := 672) (by decide +kernel))) rfl
theorem in_673 : (Cond.instanceMethod y_MO_copy) ∈ lw_ok := wok (List.mem_append_right _ (List.mem_of_getElem? (i := 673) (by decide +kernel))) rfl
theorem in_674 : (Cond.selects "LakeReliefModel" y_MO_copy y_MO_copy) ∈ lw_ok := wok (List.mem_append_right _ (List.mem_of_getElem? (i := 674) (by decide +kernel))) rfl
set_option maxRecDepth 20000 in
theorem in_675 : (Cond.code y_MO_copy prog_7_method_7_code 7 (Option.some Jvm.ClassFile.FieldType.int)) ∈ lw_ok := wok (List.mem_append_right _ (List.mem_of_getElem? (i := 675) rfl)) rfl
theorem in_676 : (Cond.methodLink "LakeReliefLaw" 31 y_MO_told) ∈ lw_ok := wok (List.mem_append_right _ (List.mem_of_getElem? (i := 676) (by decide +kernel))) rfl
theorem in_677 : (Cond.instanceMethod y_MO_told) ∈ lw_ok := wok (List.mem_append_right _ (List.mem_of_getElem? (i := 677) (by decide +kernel))) rfl
theorem in_678 : (Cond.selects "LakeReliefModel" y_MO_told y_MO_told) ∈ lw_ok := wok (List.mem_append_right _ (List.mem_of_getElem? (i := 678) (by decide +kernel))) rfl
set_option maxRecDepth 20000 in
theorem in_679 : (Cond.code y_MO_told prog_7_method_8_code 4 (Option.some Jvm.ClassFile.FieldType.long)) ∈ lw_ok := wok (List.mem_append_right _ (List.mem_of_getElem? (i := 679) rfl)) rfl
theorem in_680 : (Cond.constantLong "LakeReliefModel" 96 (10000000000)) ∈ lw_ok := wok (List.mem_append_right _ (List.mem_of_getElem? (i := 680) (by decide +kernel))) rfl
theorem in_681 : (Cond.methodLink "LakeReliefLaw" 36 y_MO_lay) ∈ lw_ok := wok (List.mem_append_right _ (List.mem_of_getElem? (i := 681) (by decide +kernel))) rfl
theorem in_682 : (Cond.instanceMethod y_MO_lay) ∈ lw_ok := wok (List.mem_append_right _ (List.mem_of_getElem? (i := 682) (by decide +kernel))) rfl
theorem in_683 : (Cond.selects "LakeReliefModel" y_MO_lay y_MO_lay) ∈ lw_ok := wok (List.mem_append_right _ (List.mem_of_getElem? (i := 683) (by decide +kernel))) rfl
set_option maxRecDepth 20000 in
theorem in_684 : (Cond.code y_MO_lay prog_7_method_24_code 5 (Option.some Jvm.ClassFile.FieldType.int)) ∈ lw_ok := wok (List.mem_append_right _ (List.mem_of_getElem? (i := 684) rfl)) rfl
theorem in_685 : (Cond.constantLong "LakeReliefModel" 144 (8)) ∈ lw_ok := wok (List.mem_append_right _ (List.mem_of_getElem? (i := 685) (by decide +kernel))) rfl
theorem in_686 : (Cond.methodLink "LakeReliefModel" 146 y_MO_isPlace) ∈ lw_ok := wok (List.mem_append_right _ (List.mem_of_getElem? (i := 686) (by decide +kernel))) rfl
theorem in_688 : (Cond.instanceMethod y_MO_isPlace) ∈ lw_ok := wok (List.mem_append_right _ (List.mem_of_getElem? (i := 688) (by decide +kernel))) rfl
set_option maxRecDepth 20000 in
theorem in_689 : (Cond.code y_MO_isPlace prog_7_method_23_code 3 (Option.some Jvm.ClassFile.FieldType.boolean)) ∈ lw_ok := wok (List.mem_append_right _ (List.mem_of_getElem? (i := 689) rfl)) rfl
theorem in_690 : (Cond.methodLink "LakeReliefModel" 149 y_MO_stripAt) ∈ lw_ok := wok (List.mem_append_right _ (List.mem_of_getElem? (i := 690) (by decide +kernel))) rfl
theorem in_692 : (Cond.instanceMethod y_MO_stripAt) ∈ lw_ok := wok (List.mem_append_right _ (List.mem_of_getElem? (i := 692) (by decide +kernel))) rfl
set_option maxRecDepth 20000 in
theorem in_693 : (Cond.code y_MO_stripAt prog_7_method_22_code 3 (Option.some Jvm.ClassFile.FieldType.int)) ∈ lw_ok := wok (List.mem_append_right _ (List.mem_of_getElem? (i := 693) rfl)) rfl
theorem in_694 : (Cond.constantLong "LakeReliefModel" 152 (-1000000)) ∈ lw_ok := wok (List.mem_append_right _ (List.mem_of_getElem? (i := 694) (by decide +kernel))) rfl
theorem in_695 : (Cond.constantLong "LakeReliefModel" 154 (1000000)) ∈ lw_ok := wok (List.mem_append_right _ (List.mem_of_getElem? (i := 695) (by decide +kernel))) rfl
theorem in_696 : (Cond.methodLink "LakeReliefModel" 160 y_MO_layDown) ∈ lw_ok := wok (List.mem_append_right _ (List.mem_of_getElem? (i := 696) (by decide +kernel))) rfl
theorem in_698 : (Cond.instanceMethod y_MO_layDown) ∈ lw_ok := wok (List.mem_append_right _ (List.mem_of_getElem? (i := 698) (by decide +kernel))) rfl
set_option maxRecDepth 20000 in
theorem in_699 : (Cond.code y_MO_layDown prog_7_method_12_code 6 (Option.none : Option Jvm.ClassFile.FieldType)) ∈ lw_ok := wok (List.mem_append_right _ (List.mem_of_getElem? (i := 699) rfl)) rfl
theorem in_700 : (Cond.methodLink "LakeReliefModel" 105 y_MO_beside) ∈ lw_ok := wok (List.mem_append_right _ (List.mem_of_getElem? (i := 700) (by decide +kernel))) rfl
theorem in_702 : (Cond.instanceMethod y_MO_beside) ∈ lw_ok := wok (List.mem_append_right _ (List.mem_of_getElem? (i := 702) (by decide +kernel))) rfl
set_option maxRecDepth 20000 in
theorem in_703 : (Cond.code y_MO_beside prog_7_method_9_code 5 (Option.some Jvm.ClassFile.FieldType.int)) ∈ lw_ok := wok (List.mem_append_right _ (List.mem_of_getElem? (i := 703) rfl)) rfl
theorem in_704 : (Cond.methodLink "LakeReliefModel" 108 y_MO_isWet) ∈ lw_ok := wok (List.mem_append_right _ (List.mem_of_getElem? (i := 704) (by decide +kernel))) rfl
theorem in_706 : (Cond.instanceMethod y_MO_isWet) ∈ lw_ok := wok (List.mem_append_right _ (List.mem_of_getElem? (i := 706) (by decide +kernel))) rfl
set_option maxRecDepth 20000 in
theorem in_707 : (Cond.code y_MO_isWet prog_7_method_10_code 2 (Option.some Jvm.ClassFile.FieldType.boolean)) ∈ lw_ok := wok (List.mem_append_right _ (List.mem_of_getElem? (i := 707) rfl)) rfl
theorem in_708 : (Cond.methodLink "LakeReliefModel" 111 y_MO_isLower) ∈ lw_ok := wok (List.mem_append_right _ (List.mem_of_getElem? (i := 708) (by decide +kernel))) rfl
theorem in_710 : (Cond.instanceMethod y_MO_isLower) ∈ lw_ok := wok (List.mem_append_right _ (List.mem_of_getElem? (i := 710) (by decide +kernel))) rfl
set_option maxRecDepth 20000 in
theorem in_711 : (Cond.code y_MO_isLower prog_7_method_11_code 3 (Option.some Jvm.ClassFile.FieldType.boolean)) ∈ lw_ok := wok (List.mem_append_right _ (List.mem_of_getElem? (i := 711) rfl)) rfl
theorem in_712 : (Cond.methodLink "LakeReliefModel" 163 y_MO_endOf) ∈ lw_ok := wok (List.mem_append_right _ (List.mem_of_getElem? (i := 712) (by decide +kernel))) rfl
theorem in_714 : (Cond.instanceMethod y_MO_endOf) ∈ lw_ok := wok (List.mem_append_right _ (List.mem_of_getElem? (i := 714) (by decide +kernel))) rfl
set_option maxRecDepth 20000 in
theorem in_715 : (Cond.code y_MO_endOf prog_7_method_13_code 3 (Option.some Jvm.ClassFile.FieldType.int)) ∈ lw_ok := wok (List.mem_append_right _ (List.mem_of_getElem? (i := 715) rfl)) rfl
theorem in_716 : (Cond.methodLink "LakeReliefModel" 167 y_MO_layFill) ∈ lw_ok := wok (List.mem_append_right _ (List.mem_of_getElem? (i := 716) (by decide +kernel))) rfl
theorem in_718 : (Cond.instanceMethod y_MO_layFill) ∈ lw_ok := wok (List.mem_append_right _ (List.mem_of_getElem? (i := 718) (by decide +kernel))) rfl
set_option maxRecDepth 20000 in
theorem in_719 : (Cond.code y_MO_layFill prog_7_method_14_code 7 (Option.none : Option Jvm.ClassFile.FieldType)) ∈ lw_ok := wok (List.mem_append_right _ (List.mem_of_getElem? (i := 719) rfl)) rfl
theorem in_720 : (Cond.constant "LakeReliefModel" 115 (3000000)) ∈ lw_ok := wok (List.mem_append_right _ (List.mem_of_getElem? (i := 720) (by decide +kernel))) rfl
theorem in_721 : (Cond.methodLink "LakeReliefModel" 170 y_MO_layLakes) ∈ lw_ok := wok (List.mem_append_right _ (List.mem_of_getElem? (i := 721) (by decide +kernel))) rfl
theorem in_723 : (Cond.instanceMethod y_MO_layLakes) ∈ lw_ok := wok (List.mem_append_right _ (List.mem_of_getElem? (i := 723) (by decide +kernel))) rfl
set_option maxRecDepth 20000 in
theorem in_724 : (Cond.code y_MO_layLakes prog_7_method_21_code 4 (Option.none : Option Jvm.ClassFile.FieldType)) ∈ lw_ok := wok (List.mem_append_right _ (List.mem_of_getElem? (i := 724) rfl)) rfl
theorem in_725 : (Cond.methodLink "LakeReliefModel" 140 y_MO_goUnder) ∈ lw_ok := wok (List.mem_append_right _ (List.mem_of_getElem? (i := 725) (by decide +kernel))) rfl
theorem in_727 : (Cond.instanceMethod y_MO_goUnder) ∈ lw_ok := wok (List.mem_append_right _ (List.mem_of_getElem? (i := 727) (by decide +kernel))) rfl
set_option maxRecDepth 20000 in
theorem in_728 : (Cond.code y_MO_goUnder prog_7_method_20_code 5 (Option.none : Option Jvm.ClassFile.FieldType)) ∈ lw_ok := wok (List.mem_append_right _ (List.mem_of_getElem? (i := 728) rfl)) rfl
theorem in_729 : (Cond.methodLink "LakeReliefModel" 130 y_MO_lookBeside) ∈ lw_ok := wok (List.mem_append_right _ (List.mem_of_getElem? (i := 729) (by decide +kernel))) rfl
theorem in_731 : (Cond.instanceMethod y_MO_lookBeside) ∈ lw_ok := wok (List.mem_append_right _ (List.mem_of_getElem? (i := 731) (by decide +kernel))) rfl
set_option maxRecDepth 20000 in
theorem in_732 : (Cond.code y_MO_lookBeside prog_7_method_18_code 7 (Option.some Jvm.ClassFile.FieldType.boolean)) ∈ lw_ok := wok (List.mem_append_right _ (List.mem_of_getElem? (i := 732) rfl)) rfl
theorem in_733 : (Cond.methodLink "LakeReliefModel" 126 y_MO_becomes) ∈ lw_ok := wok (List.mem_append_right _ (List.mem_of_getElem? (i := 733) (by decide +kernel))) rfl
theorem in_735 : (Cond.instanceMethod y_MO_becomes) ∈ lw_ok := wok (List.mem_append_right _ (List.mem_of_getElem? (i := 735) (by decide +kernel))) rfl
set_option maxRecDepth 20000 in
theorem in_736 : (Cond.code y_MO_becomes prog_7_method_17_code 4 (Option.none : Option Jvm.ClassFile.FieldType)) ∈ lw_ok := wok (List.mem_append_right _ (List.mem_of_getElem? (i := 736) rfl)) rfl
theorem in_737 : (Cond.methodLink "LakeReliefModel" 122 y_MO_newLake) ∈ lw_ok := wok (List.mem_append_right _ (List.mem_of_getElem? (i := 737) (by decide +kernel))) rfl
theorem in_739 : (Cond.instanceMethod y_MO_newLake) ∈ lw_ok := wok (List.mem_append_right _ (List.mem_of_getElem? (i := 739) (by decide +kernel))) rfl
set_option maxRecDepth 20000 in
theorem in_740 : (Cond.code y_MO_newLake prog_7_method_15_code 2 (Option.some Jvm.ClassFile.FieldType.int)) ∈ lw_ok := wok (List.mem_append_right _ (List.mem_of_getElem? (i := 740) rfl)) rfl
theorem in_741 : (Cond.methodLink "LakeReliefModel" 133 y_MO_joins) ∈ lw_ok := wok (List.mem_append_right _ (List.mem_of_getElem? (i := 741) (by decide +kernel))) rfl
theorem in_743 : (Cond.instanceMethod y_MO_joins) ∈ lw_ok := wok (List.mem_append_right _ (List.mem_of_getElem? (i := 743) (by decide +kernel))) rfl
set_option maxRecDepth 20000 in
theorem in_744 : (Cond.code y_MO_joins prog_7_method_16_code 3 (Option.none : Option Jvm.ClassFile.FieldType)) ∈ lw_ok := wok (List.mem_append_right _ (List.mem_of_getElem? (i := 744) rfl)) rfl
theorem in_745 : (Cond.methodLink "LakeReliefModel" 136 y_MO_twice) ∈ lw_ok := wok (List.mem_append_right _ (List.mem_of_getElem? (i := 745) (by decide +kernel))) rfl
theorem in_747 : (Cond.instanceMethod y_MO_twice) ∈ lw_ok := wok (List.mem_append_right _ (List.mem_of_getElem? (i := 747) (by decide +kernel))) rfl
set_option maxRecDepth 20000 in
theorem in_748 : (Cond.code y_MO_twice prog_7_method_19_code 5 (Option.some Jvm.ClassFile.FieldType.int)) ∈ lw_ok := wok (List.mem_append_right _ (List.mem_of_getElem? (i := 748) rfl)) rfl
theorem in_749 : (Cond.methodLink "LakeReliefLaw" 40 y_MO_field) ∈ lw_ok := wok (List.mem_append_right _ (List.mem_of_getElem? (i := 749) (by decide +kernel))) rfl
theorem in_750 : (Cond.instanceMethod y_MO_field) ∈ lw_ok := wok (List.mem_append_right _ (List.mem_of_getElem? (i := 750) (by decide +kernel))) rfl
theorem in_751 : (Cond.selects "LakeReliefModel" y_MO_field y_MO_field) ∈ lw_ok := wok (List.mem_append_right _ (List.mem_of_getElem? (i := 751) (by decide +kernel))) rfl
set_option maxRecDepth 20000 in
theorem in_752 : (Cond.code y_MO_field prog_7_method_28_code 3 (Option.some Jvm.ClassFile.FieldType.int)) ∈ lw_ok := wok (List.mem_append_right _ (List.mem_of_getElem? (i := 752) rfl)) rfl
theorem in_753 : (Cond.constant "LakeReliefModel" 183 (-2000002)) ∈ lw_ok := wok (List.mem_append_right _ (List.mem_of_getElem? (i := 753) (by decide +kernel))) rfl
theorem in_754 : (Cond.methodLink "LakeReliefModel" 184 y_MO_isField) ∈ lw_ok := wok (List.mem_append_right _ (List.mem_of_getElem? (i := 754) (by decide +kernel))) rfl
theorem in_756 : (Cond.instanceMethod y_MO_isField) ∈ lw_ok := wok (List.mem_append_right _ (List.mem_of_getElem? (i := 756) (by decide +kernel))) rfl
set_option maxRecDepth 20000 in
theorem in_757 : (Cond.code y_MO_isField prog_7_method_25_code 2 (Option.some Jvm.ClassFile.FieldType.boolean)) ∈ lw_ok := wok (List.mem_append_right _ (List.mem_of_getElem? (i := 757) rfl)) rfl
theorem in_758 : (Cond.constantLong "LakeReliefModel" 187 (5)) ∈ lw_ok := wok (List.mem_append_right _ (List.mem_of_getElem? (i := 758) (by decide +kernel))) rfl
theorem in_759 : (Cond.constant "LakeReliefModel" 189 (-2000001)) ∈ lw_ok := wok (List.mem_append_right _ (List.mem_of_getElem? (i := 759) (by decide +kernel))) rfl
theorem in_760 : (Cond.methodLink "LakeReliefModel" 190 y_MO_lakeAt) ∈ lw_ok := wok (List.mem_append_right _ (List.mem_of_getElem? (i := 760) (by decide +kernel))) rfl
theorem in_762 : (Cond.instanceMethod y_MO_lakeAt) ∈ lw_ok := wok (List.mem_append_right _ (List.mem_of_getElem? (i := 762) (by decide +kernel))) rfl
set_option maxRecDepth 20000 in
theorem in_763 : (Cond.code y_MO_lakeAt prog_7_method_27_code 4 (Option.some Jvm.ClassFile.FieldType.int)) ∈ lw_ok := wok (List.mem_append_right _ (List.mem_of_getElem? (i := 763) rfl)) rfl
theorem in_764 : (Cond.methodLink "LakeReliefModel" 180 y_MO_isOf) ∈ lw_ok := wok (List.mem_append_right _ (List.mem_of_getElem? (i := 764) (by decide +kernel))) rfl
theorem in_766 : (Cond.instanceMethod y_MO_isOf) ∈ lw_ok := wok (List.mem_append_right _ (List.mem_of_getElem? (i := 766) (by decide +kernel))) rfl
set_option maxRecDepth 20000 in
theorem in_767 : (Cond.code y_MO_isOf prog_7_method_26_code 3 (Option.some Jvm.ClassFile.FieldType.boolean)) ∈ lw_ok := wok (List.mem_append_right _ (List.mem_of_getElem? (i := 767) rfl)) rfl
theorem in_768 : (Cond.methodLink "LakeReliefLaw" 45 y_MO_hollow) ∈ lw_ok := wok (List.mem_append_right _ (List.mem_of_getElem? (i := 768) (by decide +kernel))) rfl
theorem in_769 : (Cond.instanceMethod y_MO_hollow) ∈ lw_ok := wok (List.mem_append_right _ (List.mem_of_getElem? (i := 769) (by decide +kernel))) rfl
theorem in_770 : (Cond.selects "LakeReliefModel" y_MO_hollow y_MO_hollow) ∈ lw_ok := wok (List.mem_append_right _ (List.mem_of_getElem? (i := 770) (by decide +kernel))) rfl
set_option maxRecDepth 20000 in
theorem in_771 : (Cond.code y_MO_hollow prog_7_method_29_code 4 (Option.some Jvm.ClassFile.FieldType.int)) ∈ lw_ok := wok (List.mem_append_right _ (List.mem_of_getElem? (i := 771) rfl)) rfl
theorem in_772 : (Cond.methodLink "LakeReliefLaw" 49 y_MO_lake) ∈ lw_ok := wok (List.mem_append_right _ (List.mem_of_getElem? (i := 772) (by decide +kernel))) rfl
theorem in_773 : (Cond.instanceMethod y_MO_lake) ∈ lw_ok := wok (List.mem_append_right _ (List.mem_of_getElem? (i := 773) (by decide +kernel))) rfl
theorem in_774 : (Cond.selects "LakeReliefModel" y_MO_lake y_MO_lake) ∈ lw_ok := wok (List.mem_append_right _ (List.mem_of_getElem? (i := 774) (by decide +kernel))) rfl
set_option maxRecDepth 20000 in
theorem in_775 : (Cond.code y_MO_lake prog_7_method_35_code 3 (Option.some Jvm.ClassFile.FieldType.int)) ∈ lw_ok := wok (List.mem_append_right _ (List.mem_of_getElem? (i := 775) rfl)) rfl
theorem in_776 : (Cond.methodLink "LakeReliefModel" 196 y_MO_isLake) ∈ lw_ok := wok (List.mem_append_right _ (List.mem_of_getElem? (i := 776) (by decide +kernel))) rfl
theorem in_778 : (Cond.instanceMethod y_MO_isLake) ∈ lw_ok := wok (List.mem_append_right _ (List.mem_of_getElem? (i := 778) (by decide +kernel))) rfl
set_option maxRecDepth 20000 in
theorem in_779 : (Cond.code y_MO_isLake prog_7_method_30_code 2 (Option.some Jvm.ClassFile.FieldType.boolean)) ∈ lw_ok := wok (List.mem_append_right _ (List.mem_of_getElem? (i := 779) rfl)) rfl
theorem in_780 : (Cond.constantLong "LakeReliefModel" 199 (9)) ∈ lw_ok := wok (List.mem_append_right _ (List.mem_of_getElem? (i := 780) (by decide +kernel))) rfl
theorem in_781 : (Cond.methodLink "LakeReliefModel" 201 y_MO_lowest) ∈ lw_ok := wok (List.mem_append_right _ (List.mem_of_getElem? (i := 781) (by decide +kernel))) rfl
theorem in_783 : (Cond.instanceMethod y_MO_lowest) ∈ lw_ok := wok (List.mem_append_right _ (List.mem_of_getElem? (i := 783) (by decide +kernel))) rfl
set_option maxRecDepth 20000 in
theorem in_784 : (Cond.code y_MO_lowest prog_7_method_33_code 4 (Option.some Jvm.ClassFile.FieldType.int)) ∈ lw_ok := wok (List.mem_append_right _ (List.mem_of_getElem? (i := 784) rfl)) rfl
theorem in_785 : (Cond.methodLink "LakeReliefModel" 204 y_MO_groundSize) ∈ lw_ok := wok (List.mem_append_right _ (List.mem_of_getElem? (i := 785) (by decide +kernel))) rfl
theorem in_787 : (Cond.instanceMethod y_MO_groundSize) ∈ lw_ok := wok (List.mem_append_right _ (List.mem_of_getElem? (i := 787) (by decide +kernel))) rfl
set_option maxRecDepth 20000 in
theorem in_788 : (Cond.code y_MO_groundSize prog_7_method_34_code 4 (Option.some Jvm.ClassFile.FieldType.int)) ∈ lw_ok := wok (List.mem_append_right _ (List.mem_of_getElem? (i := 788) rfl)) rfl
theorem in_789 : (Cond.methodLink "LakeReliefModel" 207 y_MO_most) ∈ lw_ok := wok (List.mem_append_right _ (List.mem_of_getElem? (i := 789) (by decide +kernel))) rfl
theorem in_791 : (Cond.instanceMethod y_MO_most) ∈ lw_ok := wok (List.mem_append_right _ (List.mem_of_getElem? (i := 791) (by decide +kernel))) rfl
set_option maxRecDepth 20000 in
theorem in_792 : (Cond.code y_MO_most prog_7_method_32_code 2 (Option.some Jvm.ClassFile.FieldType.int)) ∈ lw_ok := wok (List.mem_append_right _ (List.mem_of_getElem? (i := 792) rfl)) rfl
theorem in_793 : (Cond.methodLink "LakeReliefModel" 193 y_MO_holdsTo) ∈ lw_ok := wok (List.mem_append_right _ (List.mem_of_getElem? (i := 793) (by decide +kernel))) rfl
theorem in_795 : (Cond.instanceMethod y_MO_holdsTo) ∈ lw_ok := wok (List.mem_append_right _ (List.mem_of_getElem? (i := 795) (by decide +kernel))) rfl
set_option maxRecDepth 20000 in
theorem in_796 : (Cond.code y_MO_holdsTo prog_7_method_31_code 5 (Option.some Jvm.ClassFile.FieldType.int)) ∈ lw_ok := wok (List.mem_append_right _ (List.mem_of_getElem? (i := 796) rfl)) rfl
theorem in_797 : (Cond.methodLink "LakeReliefLaw" 53 y_MO_ground) ∈ lw_ok := wok (List.mem_append_right _ (List.mem_of_getElem? (i := 797) (by decide +kernel))) rfl
theorem in_798 : (Cond.instanceMethod y_MO_ground) ∈ lw_ok := wok (List.mem_append_right _ (List.mem_of_getElem? (i := 798) (by decide +kernel))) rfl
theorem in_799 : (Cond.selects "LakeReliefModel" y_MO_ground y_MO_ground) ∈ lw_ok := wok (List.mem_append_right _ (List.mem_of_getElem? (i := 799) (by decide +kernel))) rfl
set_option maxRecDepth 20000 in
theorem in_800 : (Cond.code y_MO_ground prog_7_method_36_code 3 (Option.some Jvm.ClassFile.FieldType.int)) ∈ lw_ok := wok (List.mem_append_right _ (List.mem_of_getElem? (i := 800) rfl)) rfl
theorem in_801 : (Cond.methodLink "LakeReliefLaw" 57 y_MO_holds) ∈ lw_ok := wok (List.mem_append_right _ (List.mem_of_getElem? (i := 801) (by decide +kernel))) rfl
theorem in_802 : (Cond.instanceMethod y_MO_holds) ∈ lw_ok := wok (List.mem_append_right _ (List.mem_of_getElem? (i := 802) (by decide +kernel))) rfl
theorem in_803 : (Cond.selects "LakeReliefModel" y_MO_holds y_MO_holds) ∈ lw_ok := wok (List.mem_append_right _ (List.mem_of_getElem? (i := 803) (by decide +kernel))) rfl
set_option maxRecDepth 20000 in
theorem in_804 : (Cond.code y_MO_holds prog_7_method_38_code 4 (Option.some Jvm.ClassFile.FieldType.int)) ∈ lw_ok := wok (List.mem_append_right _ (List.mem_of_getElem? (i := 804) rfl)) rfl
theorem in_805 : (Cond.methodLink "LakeReliefModel" 211 y_MO_against0) ∈ lw_ok := wok (List.mem_append_right _ (List.mem_of_getElem? (i := 805) (by decide +kernel))) rfl
theorem in_807 : (Cond.instanceMethod y_MO_against0) ∈ lw_ok := wok (List.mem_append_right _ (List.mem_of_getElem? (i := 807) (by decide +kernel))) rfl
set_option maxRecDepth 20000 in
theorem in_808 : (Cond.code y_MO_against0 prog_7_method_37_code 3 (Option.some Jvm.ClassFile.FieldType.int)) ∈ lw_ok := wok (List.mem_append_right _ (List.mem_of_getElem? (i := 808) rfl)) rfl
theorem in_809 : (Cond.constant "LakeReliefModel" 210 (-1000000)) ∈ lw_ok := wok (List.mem_append_right _ (List.mem_of_getElem? (i := 809) (by decide +kernel))) rfl
theorem in_810 : (Cond.methodLink "LakeReliefLaw" 61 y_MO_area) ∈ lw_ok := wok (List.mem_append_right _ (List.mem_of_getElem? (i := 810) (by decide +kernel))) rfl
theorem in_811 : (Cond.instanceMethod y_MO_area) ∈ lw_ok := wok (List.mem_append_right _ (List.mem_of_getElem? (i := 811) (by decide +kernel))) rfl
theorem in_812 : (Cond.selects "LakeReliefModel" y_MO_area y_MO_area) ∈ lw_ok := wok (List.mem_append_right _ (List.mem_of_getElem? (i := 812) (by decide +kernel))) rfl
set_option maxRecDepth 20000 in
theorem in_813 : (Cond.code y_MO_area prog_7_method_39_code 6 (Option.some Jvm.ClassFile.FieldType.int)) ∈ lw_ok := wok (List.mem_append_right _ (List.mem_of_getElem? (i := 813) rfl)) rfl
theorem in_814 : (Cond.methodLink "LakeReliefLaw" 65 y_MO_pour) ∈ lw_ok := wok (List.mem_append_right _ (List.mem_of_getElem? (i := 814) (by decide +kernel))) rfl
theorem in_815 : (Cond.instanceMethod y_MO_pour) ∈ lw_ok := wok (List.mem_append_right _ (List.mem_of_getElem? (i := 815) (by decide +kernel))) rfl
theorem in_816 : (Cond.selects "LakeReliefModel" y_MO_pour y_MO_pour) ∈ lw_ok := wok (List.mem_append_right _ (List.mem_of_getElem? (i := 816) (by decide +kernel))) rfl
set_option maxRecDepth 20000 in
theorem in_817 : (Cond.code y_MO_pour prog_7_method_41_code 11 (Option.some Jvm.ClassFile.FieldType.int)) ∈ lw_ok := wok (List.mem_append_right _ (List.mem_of_getElem? (i := 817) rfl)) rfl
theorem in_818 : (Cond.methodLink "LakeReliefModel" 214 y_MO_over) ∈ lw_ok := wok (List.mem_append_right _ (List.mem_of_getElem? (i := 818) (by decide +kernel))) rfl
theorem in_820 : (Cond.instanceMethod y_MO_over) ∈ lw_ok := wok (List.mem_append_right _ (List.mem_of_getElem? (i := 820) (by decide +kernel))) rfl
set_option maxRecDepth 20000 in
theorem in_821 : (Cond.code y_MO_over prog_7_method_40_code 6 (Option.some Jvm.ClassFile.FieldType.int)) ∈ lw_ok := wok (List.mem_append_right _ (List.mem_of_getElem? (i := 821) rfl)) rfl
theorem in_822 : (Cond.methodLink "LakeReliefLaw" 69 y_MO_level) ∈ lw_ok := wok (List.mem_append_right _ (List.mem_of_getElem? (i := 822) (by decide +kernel))) rfl
theorem in_823 : (Cond.instanceMethod y_MO_level) ∈ lw_ok := wok (List.mem_append_right _ (List.mem_of_getElem? (i := 823) (by decide +kernel))) rfl
theorem in_824 : (Cond.selects "LakeReliefModel" y_MO_level y_MO_level) ∈ lw_ok := wok (List.mem_append_right _ (List.mem_of_getElem? (i := 824) (by decide +kernel))) rfl
set_option maxRecDepth 20000 in
theorem in_825 : (Cond.code y_MO_level prog_7_method_44_code 7 (Option.some Jvm.ClassFile.FieldType.int)) ∈ lw_ok := wok (List.mem_append_right _ (List.mem_of_getElem? (i := 825) rfl)) rfl
theorem in_826 : (Cond.methodLink "LakeReliefModel" 217 y_MO_layHeights) ∈ lw_ok := wok (List.mem_append_right _ (List.mem_of_getElem? (i := 826) (by decide +kernel))) rfl
theorem in_828 : (Cond.instanceMethod y_MO_layHeights) ∈ lw_ok := wok (List.mem_append_right _ (List.mem_of_getElem? (i := 828) (by decide +kernel))) rfl
set_option maxRecDepth 20000 in
theorem in_829 : (Cond.code y_MO_layHeights prog_7_method_43_code 5 (Option.some Jvm.ClassFile.FieldType.int)) ∈ lw_ok := wok (List.mem_append_right _ (List.mem_of_getElem? (i := 829) rfl)) rfl
theorem in_830 : (Cond.methodLink "LakeReliefModel" 220 y_MO_common) ∈ lw_ok := wok (List.mem_append_right _ (List.mem_of_getElem? (i := 830) (by decide +kernel))) rfl
theorem in_831 : (Cond.static y_MO_common) ∈ lw_ok := wok (List.mem_append_right _ (List.mem_of_getElem? (i := 831) (by decide +kernel))) rfl
set_option maxRecDepth 20000 in
theorem in_832 : (Cond.code y_MO_common prog_7_method_42_code 5 (Option.some Jvm.ClassFile.FieldType.int)) ∈ lw_ok := wok (List.mem_append_right _ (List.mem_of_getElem? (i := 832) rfl)) rfl
theorem in_833 : (Cond.methodLink "LakeReliefLaw" 73 y_MO_rise) ∈ lw_ok := wok (List.mem_append_right _ (List.mem_of_getElem? (i := 833) (by decide +kernel))) rfl
theorem in_834 : (Cond.instanceMethod y_MO_rise) ∈ lw_ok := wok (List.mem_append_right _ (List.mem_of_getElem? (i := 834) (by decide +kernel))) rfl
theorem in_835 : (Cond.selects "LakeReliefModel" y_MO_rise y_MO_rise) ∈ lw_ok := wok (List.mem_append_right _ (List.mem_of_getElem? (i := 835) (by decide +kernel))) rfl
set_option maxRecDepth 20000 in
theorem in_836 : (Cond.code y_MO_rise prog_7_method_45_code 4 (Option.some Jvm.ClassFile.FieldType.int)) ∈ lw_ok := wok (List.mem_append_right _ (List.mem_of_getElem? (i := 836) rfl)) rfl
theorem in_837 : (Cond.constantLong "LakeReliefModel" 223 (1000001)) ∈ lw_ok := wok (List.mem_append_right _ (List.mem_of_getElem? (i := 837) (by decide +kernel))) rfl
theorem in_838 : (Cond.methodLink "LakeReliefLaw" 77 y_MO_islands) ∈ lw_ok := wok (List.mem_append_right _ (List.mem_of_getElem? (i := 838) (by decide +kernel))) rfl
theorem in_839 : (Cond.instanceMethod y_MO_islands) ∈ lw_ok := wok (List.mem_append_right _ (List.mem_of_getElem? (i := 839) (by decide +kernel))) rfl
theorem in_840 : (Cond.selects "LakeReliefModel" y_MO_islands y_MO_islands) ∈ lw_ok := wok (List.mem_append_right _ (List.mem_of_getElem? (i := 840) (by decide +kernel))) rfl
set_option maxRecDepth 20000 in
theorem in_841 : (Cond.code y_MO_islands prog_7_method_46_code 6 (Option.some Jvm.ClassFile.FieldType.int)) ∈ lw_ok := wok (List.mem_append_right _ (List.mem_of_getElem? (i := 841) rfl)) rfl
theorem in_842 : (Cond.methodLink "LakeReliefLaw" 82 y_MO_count) ∈ lw_ok := wok (List.mem_append_right _ (List.mem_of_getElem? (i := 842) (by decide +kernel))) rfl
theorem in_843 : (Cond.instanceMethod y_MO_count) ∈ lw_ok := wok (List.mem_append_right _ (List.mem_of_getElem? (i := 843) (by decide +kernel))) rfl
theorem in_844 : (Cond.selects "LakeReliefModel" y_MO_count y_MO_count) ∈ lw_ok := wok (List.mem_append_right _ (List.mem_of_getElem? (i := 844) (by decide +kernel))) rfl
set_option maxRecDepth 20000 in
theorem in_845 : (Cond.code y_MO_count prog_7_method_47_code 5 (Option.some Jvm.ClassFile.FieldType.long)) ∈ lw_ok := wok (List.mem_append_right _ (List.mem_of_getElem? (i := 845) rfl)) rfl
theorem in_846 : (Cond.constantLong "LakeReliefModel" 225 (-2)) ∈ lw_ok := wok (List.mem_append_right _ (List.mem_of_getElem? (i := 846) (by decide +kernel))) rfl
theorem sp_0 : (Cond.selects "LakeRelief" y_LR_refusalOfPlace y_LR_refusalOfPlace) ∈ lw_ok := wok (List.mem_append_left _ (List.mem_of_getElem? (i := 0) (by decide +kernel))) rfl
theorem sp_1 : (Cond.selects "LakeRelief" y_LR_canBeLaid y_LR_canBeLaid) ∈ lw_ok := wok (List.mem_append_left _ (List.mem_of_getElem? (i := 1) (by decide +kernel))) rfl
theorem sp_2 : (Cond.selects "LakeRelief" y_LR_layLine y_LR_layLine) ∈ lw_ok := wok (List.mem_append_left _ (List.mem_of_getElem? (i := 2) (by decide +kernel))) rfl
theorem sp_3 : (Cond.selects "LakeRelief$Relief" y_RE_findNeighbours y_RE_findNeighbours) ∈ lw_ok := wok (List.mem_append_left _ (List.mem_of_getElem? (i := 3) (by decide +kernel))) rfl
theorem sp_4 : (Cond.selects "LakeRelief$Relief" y_RE_landOrSea y_RE_landOrSea) ∈ lw_ok := wok (List.mem_append_left _ (List.mem_of_getElem? (i := 4) (by decide +kernel))) rfl
theorem sp_5 : (Cond.selects "LakeRelief$Relief" y_RE_sortLand y_RE_sortLand) ∈ lw_ok := wok (List.mem_append_left _ (List.mem_of_getElem? (i := 5) (by decide +kernel))) rfl
theorem sp_6 : (Cond.selects "LakeRelief$Relief" y_RE_insertByHeight y_RE_insertByHeight) ∈ lw_ok := wok (List.mem_append_left _ (List.mem_of_getElem? (i := 6) (by decide +kernel))) rfl
theorem sp_7 : (Cond.selects "LakeRelief$Relief" y_RE_isLower y_RE_isLower) ∈ lw_ok := wok (List.mem_append_left _ (List.mem_of_getElem? (i := 7) (by decide +kernel))) rfl
theorem sp_8 : (Cond.selects "LakeRelief$Relief" y_RE_findWays y_RE_findWays) ∈ lw_ok := wok (List.mem_append_left _ (List.mem_of_getElem? (i := 8) (by decide +kernel))) rfl
theorem sp_9 : (Cond.selects "LakeRelief$Relief" y_RE_downOf y_RE_downOf) ∈ lw_ok := wok (List.mem_append_left _ (List.mem_of_getElem? (i := 9) (by decide +kernel))) rfl
theorem sp_10 : (Cond.selects "LakeRelief$Relief" y_RE_findFills y_RE_findFills) ∈ lw_ok := wok (List.mem_append_left _ (List.mem_of_getElem? (i := 10) (by decide +kernel))) rfl
theorem sp_11 : (Cond.selects "LakeRelief$Relief" y_RE_lowerFills y_RE_lowerFills) ∈ lw_ok := wok (List.mem_append_left _ (List.mem_of_getElem? (i := 11) (by decide +kernel))) rfl
theorem sp_12 : (Cond.selects "LakeRelief$Relief" y_RE_leastFillBeside y_RE_leastFillBeside) ∈ lw_ok := wok (List.mem_append_left _ (List.mem_of_getElem? (i := 12) (by decide +kernel))) rfl
theorem sp_13 : (Cond.selects "LakeRelief$Lakes" y_LK_goUnder y_LK_goUnder) ∈ lw_ok := wok (List.mem_append_left _ (List.mem_of_getElem? (i := 13) (by decide +kernel))) rfl
theorem sp_14 : (Cond.selects "LakeRelief$Lakes" y_LK_topsBeside y_LK_topsBeside) ∈ lw_ok := wok (List.mem_append_left _ (List.mem_of_getElem? (i := 14) (by decide +kernel))) rfl
theorem sp_15 : (Cond.selects "LakeRelief$Lakes" y_LK_topWith y_LK_topWith) ∈ lw_ok := wok (List.mem_append_left _ (List.mem_of_getElem? (i := 15) (by decide +kernel))) rfl
theorem sp_16 : (Cond.selects "LakeRelief$Lakes" y_LK_isBesideSeas y_LK_isBesideSeas) ∈ lw_ok := wok (List.mem_append_left _ (List.mem_of_getElem? (i := 16) (by decide +kernel))) rfl
theorem sp_17 : (Cond.selects "LakeRelief$Lakes" y_LK_spillToSea y_LK_spillToSea) ∈ lw_ok := wok (List.mem_append_left _ (List.mem_of_getElem? (i := 17) (by decide +kernel))) rfl
theorem sp_18 : (Cond.selects "LakeRelief$Lakes" y_LK_make y_LK_make) ∈ lw_ok := wok (List.mem_append_left _ (List.mem_of_getElem? (i := 18) (by decide +kernel))) rfl
theorem sp_19 : (Cond.selects "LakeRelief$Lakes" y_LK_joinAt y_LK_joinAt) ∈ lw_ok := wok (List.mem_append_left _ (List.mem_of_getElem? (i := 19) (by decide +kernel))) rfl
theorem sp_20 : (Cond.selects "LakeRelief$Lakes" y_LK_makeDouble y_LK_makeDouble) ∈ lw_ok := wok (List.mem_append_left _ (List.mem_of_getElem? (i := 20) (by decide +kernel))) rfl
theorem sp_21 : (Cond.selects "LakeRelief$Lakes" y_LK_measure y_LK_measure) ∈ lw_ok := wok (List.mem_append_left _ (List.mem_of_getElem? (i := 21) (by decide +kernel))) rfl
theorem sp_22 : (Cond.selects "LakeRelief$Relief" y_RE_isHollow y_RE_isHollow) ∈ lw_ok := wok (List.mem_append_left _ (List.mem_of_getElem? (i := 22) (by decide +kernel))) rfl
theorem sp_23 : (Cond.selects "LakeRelief$Lakes" y_LK_lakeBelow y_LK_lakeBelow) ∈ lw_ok := wok (List.mem_append_left _ (List.mem_of_getElem? (i := 23) (by decide +kernel))) rfl
theorem sp_24 : (Cond.selects "LakeRelief$Lakes" y_LK_runDown y_LK_runDown) ∈ lw_ok := wok (List.mem_append_left _ (List.mem_of_getElem? (i := 24) (by decide +kernel))) rfl
theorem sp_25 : (Cond.selects "LakeRelief$Lakes" y_LK_fillUp y_LK_fillUp) ∈ lw_ok := wok (List.mem_append_left _ (List.mem_of_getElem? (i := 25) (by decide +kernel))) rfl
theorem sp_26 : (Cond.selects "LakeRelief$Lakes" y_LK_next y_LK_next) ∈ lw_ok := wok (List.mem_append_left _ (List.mem_of_getElem? (i := 26) (by decide +kernel))) rfl
theorem sp_27 : (Cond.selects "LakeRelief$Lakes" y_LK_join y_LK_join) ∈ lw_ok := wok (List.mem_append_left _ (List.mem_of_getElem? (i := 27) (by decide +kernel))) rfl
theorem sp_28 : (Cond.selects "LakeRelief$Relief" y_RE_withoutPieceAt y_RE_withoutPieceAt) ∈ lw_ok := wok (List.mem_append_left _ (List.mem_of_getElem? (i := 28) (by decide +kernel))) rfl
theorem sp_29 : (Cond.selects "LakeReliefModel" y_MO_against y_MO_against) ∈ lw_ok := wok (List.mem_append_left _ (List.mem_of_getElem? (i := 29) (by decide +kernel))) rfl
theorem sp_30 : (Cond.selects "LakeReliefModel" y_MO_isPlace y_MO_isPlace) ∈ lw_ok := wok (List.mem_append_left _ (List.mem_of_getElem? (i := 30) (by decide +kernel))) rfl
theorem sp_31 : (Cond.selects "LakeReliefModel" y_MO_stripAt y_MO_stripAt) ∈ lw_ok := wok (List.mem_append_left _ (List.mem_of_getElem? (i := 31) (by decide +kernel))) rfl
theorem sp_32 : (Cond.selects "LakeReliefModel" y_MO_layDown y_MO_layDown) ∈ lw_ok := wok (List.mem_append_left _ (List.mem_of_getElem? (i := 32) (by decide +kernel))) rfl
theorem sp_33 : (Cond.selects "LakeReliefModel" y_MO_beside y_MO_beside) ∈ lw_ok := wok (List.mem_append_left _ (List.mem_of_getElem? (i := 33) (by decide +kernel))) rfl
theorem sp_34 : (Cond.selects "LakeReliefModel" y_MO_isWet y_MO_isWet) ∈ lw_ok := wok (List.mem_append_left _ (List.mem_of_getElem? (i := 34) (by decide +kernel))) rfl
theorem sp_35 : (Cond.selects "LakeReliefModel" y_MO_isLower y_MO_isLower) ∈ lw_ok := wok (List.mem_append_left _ (List.mem_of_getElem? (i := 35) (by decide +kernel))) rfl
theorem sp_36 : (Cond.selects "LakeReliefModel" y_MO_endOf y_MO_endOf) ∈ lw_ok := wok (List.mem_append_left _ (List.mem_of_getElem? (i := 36) (by decide +kernel))) rfl
theorem sp_37 : (Cond.selects "LakeReliefModel" y_MO_layFill y_MO_layFill) ∈ lw_ok := wok (List.mem_append_left _ (List.mem_of_getElem? (i := 37) (by decide +kernel))) rfl
theorem sp_38 : (Cond.selects "LakeReliefModel" y_MO_layLakes y_MO_layLakes) ∈ lw_ok := wok (List.mem_append_left _ (List.mem_of_getElem? (i := 38) (by decide +kernel))) rfl
theorem sp_39 : (Cond.selects "LakeReliefModel" y_MO_goUnder y_MO_goUnder) ∈ lw_ok := wok (List.mem_append_left _ (List.mem_of_getElem? (i := 39) (by decide +kernel))) rfl
theorem sp_40 : (Cond.selects "LakeReliefModel" y_MO_lookBeside y_MO_lookBeside) ∈ lw_ok := wok (List.mem_append_left _ (List.mem_of_getElem? (i := 40) (by decide +kernel))) rfl
theorem sp_41 : (Cond.selects "LakeReliefModel" y_MO_becomes y_MO_becomes) ∈ lw_ok := wok (List.mem_append_left _ (List.mem_of_getElem? (i := 41) (by decide +kernel))) rfl
theorem sp_42 : (Cond.selects "LakeReliefModel" y_MO_newLake y_MO_newLake) ∈ lw_ok := wok (List.mem_append_left _ (List.mem_of_getElem? (i := 42) (by decide +kernel))) rfl
theorem sp_43 : (Cond.selects "LakeReliefModel" y_MO_joins y_MO_joins) ∈ lw_ok := wok (List.mem_append_left _ (List.mem_of_getElem? (i := 43) (by decide +kernel))) rfl
theorem sp_44 : (Cond.selects "LakeReliefModel" y_MO_twice y_MO_twice) ∈ lw_ok := wok (List.mem_append_left _ (List.mem_of_getElem? (i := 44) (by decide +kernel))) rfl
theorem sp_45 : (Cond.selects "LakeReliefModel" y_MO_isField y_MO_isField) ∈ lw_ok := wok (List.mem_append_left _ (List.mem_of_getElem? (i := 45) (by decide +kernel))) rfl
theorem sp_46 : (Cond.selects "LakeReliefModel" y_MO_lakeAt y_MO_lakeAt) ∈ lw_ok := wok (List.mem_append_left _ (List.mem_of_getElem? (i := 46) (by decide +kernel))) rfl
theorem sp_47 : (Cond.selects "LakeReliefModel" y_MO_isOf y_MO_isOf) ∈ lw_ok := wok (List.mem_append_left _ (List.mem_of_getElem? (i := 47) (by decide +kernel))) rfl
theorem sp_48 : (Cond.selects "LakeReliefModel" y_MO_isLake y_MO_isLake) ∈ lw_ok := wok (List.mem_append_left _ (List.mem_of_getElem? (i := 48) (by decide +kernel))) rfl
theorem sp_49 : (Cond.selects "LakeReliefModel" y_MO_lowest y_MO_lowest) ∈ lw_ok := wok (List.mem_append_left _ (List.mem_of_getElem? (i := 49) (by decide +kernel))) rfl
theorem sp_50 : (Cond.selects "LakeReliefModel" y_MO_groundSize y_MO_groundSize) ∈ lw_ok := wok (List.mem_append_left _ (List.mem_of_getElem? (i := 50) (by decide +kernel))) rfl
theorem sp_51 : (Cond.selects "LakeReliefModel" y_MO_most y_MO_most) ∈ lw_ok := wok (List.mem_append_left _ (List.mem_of_getElem? (i := 51) (by decide +kernel))) rfl
theorem sp_52 : (Cond.selects "LakeReliefModel" y_MO_holdsTo y_MO_holdsTo) ∈ lw_ok := wok (List.mem_append_left _ (List.mem_of_getElem? (i := 52) (by decide +kernel))) rfl
theorem sp_53 : (Cond.selects "LakeReliefModel" y_MO_against0 y_MO_against0) ∈ lw_ok := wok (List.mem_append_left _ (List.mem_of_getElem? (i := 53) (by decide +kernel))) rfl
theorem sp_54 : (Cond.selects "LakeReliefModel" y_MO_over y_MO_over) ∈ lw_ok := wok (List.mem_append_left _ (List.mem_of_getElem? (i := 54) (by decide +kernel))) rfl
theorem sp_55 : (Cond.selects "LakeReliefModel" y_MO_layHeights y_MO_layHeights) ∈ lw_ok := wok (List.mem_append_left _ (List.mem_of_getElem? (i := 55) (by decide +kernel))) rfl
end
section
abbrev Mem : Type := (Nat → Nat → Int32) × (Nat → Nat → Int64)
def sI (μ : Mem) (q k : Nat) (x : Int32) : Mem := (fun a => if a = q then upd (μ.1 q) k x else μ.1 a, μ.2)
def sJ (μ : Mem) (q k : Nat) (x : Int64) : Mem := (μ.1, fun a => if a = q then vp_updL (μ.2 q) k x else μ.2 a)
def sR (μ : Mem) (q : Nat) (h : Nat → Int32) : Mem := (fun a => if a = q then h else μ.1 a, μ.2)
/-- the cells of the class, by number -/
def shC (adr : Nat → Nat) (cA : Nat → ClassId) (q : Nat) (f : Nat → Int32) (g : Nat → Int64) : va_E :=
  if q = 0 then .inr (4, [.ref (adr 1), .ref (adr 18), .ref (adr 26), .int (f 3)])
  else if q = 1 then .inl (cA 3, 8, .inr (.inr (.inr (.inr (fun j => some (adr (2 + j)))))))
  else if q < 10 then .inr (3, [.ref (adr (q + 8)), .int (f 1), .int (f 2)])
  else if q < 18 then .inl (cA 0, 12, .inl f)
  else if q = 18 then .inr (2, [.ref (adr 19), .ref (adr 20), .ref (adr 21), .ref (adr 22), .ref (adr 23), .ref (adr 24), .ref (adr 25), .int (f 7), .int (f 8), .int (f 9), .long (g 10)])
  else if q = 24 then .inl (cA 0, 256, .inl f)
  else if q < 26 then .inl (cA 0, 64, .inl f)
  else if q = 26 then .inr (1, [.ref (adr 27), .int (f 1), .long (g 2), .long (g 3), .ref (adr 18), .long (g 5)])
  else if q = 27 then .inl (cA 4, 35, .inr (.inr (.inr (.inr (fun j => some (adr (28 + j)))))))
  else .inr (0, [.long (g 0), .int (f 1), .int (f 2), .int (f 3), .int (f 4), .int (f 5), .int (f 6), .int (f 7)])
/-- the cells of the reference, by number -/
def shM (adr : Nat → Nat) (cA : Nat → ClassId) (q : Nat) (f : Nat → Int32) (g : Nat → Int64) : va_E :=
  if q = 63 then .inr (5, [.ref (adr 64), .ref (adr 65), .ref (adr 66), .int (f 3), .int (f 4), .int (f 5), .ref (adr 67), .ref (adr 68), .ref (adr 69), .ref (adr 70), .ref (adr 71), .int (f 11), .ref (adr 72), .ref (adr 73), .ref (adr 74), .ref (adr 75), .ref (adr 76), .ref (adr 77), .ref (adr 78), .ref (adr 79), .long (g 20), .long (g 21), .ref (adr 80), .ref (adr 81), .ref (adr 82), .ref (adr 83), .int (f 26), .ref (adr 84), .ref (adr 85)])
  else if q = 64 then .inl (cA 0, 8, .inl f)
  else if q = 65 then .inl (cA 0, 8, .inl f)
  else if q = 66 then .inl (cA 0, 96, .inl f)
  else if q = 67 then .inl (cA 1, 64, .inl f)
  else if q = 72 then .inl (cA 1, 64, .inl f)
  else if q = 73 then .inl (cA 2, 64, .inr (.inl g))
  else if q = 78 then .inl (cA 1, 64, .inl f)
  else if q = 80 then .inl (cA 0, 12, .inl f)
  else if q = 82 then .inl (cA 1, 64, .inl f)
  else if q = 83 then .inl (cA 0, 4, .inl f)
  else .inl (cA 0, 64, .inl f)
def wcell (adr : Nat → Nat) (cA : Nat → ClassId) (μ ν : Mem) (q : Nat) : va_E := if q < 63 then shC adr cA q (μ.1 q) (μ.2 q) else shM adr cA q (ν.1 q) (ν.2 q)
def wld (adr : Nat → Nat) (cA : Nat → ClassId) (μ ν : Mem) : va_W := (List.range 86).map (fun q => (adr q, wcell adr cA μ ν q))
section WLD
variable {adr : Nat → Nat} {cA : Nat → ClassId} {μ ν μ' ν' : Mem} {q : Nat} {e : va_E}
theorem wld_at (hq : q < 86) : (wld adr cA μ ν)[q]? = some (adr q, wcell adr cA μ ν q) := by
  unfold wld
  rw [List.getElem?_map, List.getElem?_range hq]
  rfl
theorem wld_no (hq : ¬ q < 86) : (wld adr cA μ ν)[q]? = none := by
  unfold wld
  rw [List.getElem?_map, List.getElem?_eq_none (by rw [List.length_range]; omega)]
  rfl
theorem wld_e (hq : q < 86) (h : wcell adr cA μ ν q = e) : (wld adr cA μ ν)[q]? = some (adr q, e) := by rw [wld_at hq, h]
theorem wld_set (hq : q < 86) (h : ∀ j, j ≠ q → wcell adr cA μ' ν' j = wcell adr cA μ ν j) (he : wcell adr cA μ' ν' q = e) : (wld adr cA μ ν).set q (adr q, e) = wld adr cA μ' ν' := by
  apply List.ext_getElem?
  intro i
  by_cases hi : i = q
  · subst hi
    rw [List.getElem?_set_self (by unfold wld; rw [List.length_map, List.length_range]; exact hq), wld_at hq, he]
  · rw [List.getElem?_set_ne (Ne.symm hi)]
    by_cases h8 : i < 86
    · rw [wld_at h8, wld_at h8, h i hi]
    · rw [wld_no h8, wld_no h8]
def AA (adr : Nat → Nat) : Nat → Prop := fun a => ∃ q, q < 86 ∧ a = adr q
theorem wld_D (hI : ∀ i j, i < 86 → j < 86 → adr i = adr j → i = j) : va_D (AA adr) (wld adr cA μ ν) := by
  have key : ∀ (k : Nat) (x : Nat × va_E), (wld adr cA μ ν)[k]? = some x → k < 86 ∧ x.1 = adr k := by
    intro k x hk
    by_cases h8 : k < 86
    · rw [wld_at h8] at hk
      cases hk
      exact ⟨h8, rfl⟩
    · rw [wld_no h8] at hk
      cases hk
  refine ⟨fun i j x y hi hj hxy => ?_, fun k x hk => ?_⟩
  · obtain ⟨h1, h2⟩ := key i x hi
    obtain ⟨h3, h4⟩ := key j y hj
    exact hI i j h1 h3 (by rw [← h2, ← h4, hxy])
  · obtain ⟨h1, h2⟩ := key k x hk
    exact ⟨k, h1, h2⟩
theorem wc_C {e : va_E} (hq : q < 63) (h : shC adr cA q (μ.1 q) (μ.2 q) = e) : wcell adr cA μ ν q = e := by unfold wcell; rw [if_pos hq, h]
theorem wc_M {e : va_E} (hq : ¬ q < 63) (h : shM adr cA q (ν.1 q) (ν.2 q) = e) : wcell adr cA μ ν q = e := by unfold wcell; rw [if_neg hq, h]
theorem sI_C {k : Nat} {x : Int32} : ∀ j, j ≠ q → wcell adr cA (sI μ q k x) ν j = wcell adr cA μ ν j := by
  intro j hj
  simp only [wcell, sI, if_neg hj]
theorem sJ_C {k : Nat} {x : Int64} : ∀ j, j ≠ q → wcell adr cA (sJ μ q k x) ν j = wcell adr cA μ ν j := by
  intro j hj
  simp only [wcell, sJ, if_neg hj]
theorem sR_C {h : Nat → Int32} : ∀ j, j ≠ q → wcell adr cA (sR μ q h) ν j = wcell adr cA μ ν j := by
  intro j hj
  simp only [wcell, sR, if_neg hj]
theorem sI_M {k : Nat} {x : Int32} : ∀ j, j ≠ q → wcell adr cA μ (sI ν q k x) j = wcell adr cA μ ν j := by
  intro j hj
  simp only [wcell, sI, if_neg hj]
theorem sJ_M {k : Nat} {x : Int64} : ∀ j, j ≠ q → wcell adr cA μ (sJ ν q k x) j = wcell adr cA μ ν j := by
  intro j hj
  simp only [wcell, sJ, if_neg hj]
theorem sI_q {k : Nat} {x : Int32} : (sI μ q k x).1 q = upd (μ.1 q) k x := if_pos rfl
theorem sJ_q {k : Nat} {x : Int64} : (sJ μ q k x).2 q = vp_updL (μ.2 q) k x := if_pos rfl
theorem sR_q {h : Nat → Int32} : (sR μ q h).1 q = h := if_pos rfl
theorem sh_ST {f : Nat → Int32} {g : Nat → Int64} {r : Nat} (hr : r < 8) : shC adr cA (2 + r) f g = .inr (3, [.ref (adr (10 + r)), .int (f 1), .int (f 2)]) := by
  unfold shC
  rw [if_neg (by omega), if_neg (by omega), if_pos (by omega), show 2 + r + 8 = 10 + r by omega]
theorem sh_PL {f : Nat → Int32} {g : Nat → Int64} {r : Nat} (hr : r < 8) : shC adr cA (10 + r) f g = .inl (cA 0, 12, .inl f) := by
  unfold shC
  rw [if_neg (by omega), if_neg (by omega), if_neg (by omega), if_pos (by omega)]
theorem sh_LA {f : Nat → Int32} {g : Nat → Int64} {r : Nat} : shC adr cA (28 + r) f g = .inr (0, [.long (g 0), .int (f 1), .int (f 2), .int (f 3), .int (f 4), .int (f 5), .int (f 6), .int (f 7)]) := by
  unfold shC
  rw [if_neg (by omega), if_neg (by omega), if_neg (by omega), if_neg (by omega), if_neg (by omega), if_neg (by omega), if_neg (by omega), if_neg (by omega), if_neg (by omega)]
end WLD
def tys (cA : Nat → ClassId) : List (ClassId × FieldType) := [(cA 0, .int), (cA 1, .boolean), (cA 2, .long), (cA 3, .object "LakeRelief$Strip"), (cA 4, .object "LakeRelief$Lake")]
def Nst (U : State) : Prop := va_Nw (.methodLinkNest "LakeRelief$Relief" 47 y_LR_only "LakeRelief") U ∧ va_Nw (.methodLinkNest "LakeRelief$Relief" 67 y_LR_isIn "LakeRelief") U ∧ va_Nw (.methodLinkNest "LakeRelief$Lakes" 123 y_LR_isIn "LakeRelief") U ∧ va_Nw (.methodLinkNest "LakeRelief$Lakes" 102 y_LR_only "LakeRelief") U
def Geo (D : va_G) (adr : Nat → Nat) (cA : Nat → ClassId) (U : State) : Prop := va_K D cls (tys cA) U ∧ (∀ i j, i < 86 → j < 86 → adr i = adr j → i = j) ∧ Nst U
def Wd (D : va_G) (adr : Nat → Nat) (cA : Nat → ClassId) (μ ν : Mem) (U : State) : Prop := va_P D cls (wld adr cA μ ν) U.heap ∧ Geo D adr cA U
section GEO
variable {D : va_G} {adr : Nat → Nat} {cA : Nat → ClassId} {μ ν : Mem} {s U : State}
theorem Nst.warm (hW : s.WarmedH U.vm) (h : Nst s) : Nst U := ⟨h.1.warmM hW, h.2.1.warmM hW, h.2.2.1.warmM hW, h.2.2.2.warmM hW⟩
theorem Nst.same (hv : s.vm = U.vm) (h : Nst s) : Nst U := ⟨h.1.same rfl hv, h.2.1.same rfl hv, h.2.2.1.same rfl hv, h.2.2.2.same rfl hv⟩
theorem Geo.warm (hW : s.WarmedH U.vm) (h : Geo D adr cA s) : Geo D adr cA U := ⟨va_K.moved hW.alike h.1, h.2.1, h.2.2.warm hW⟩
theorem Wd.blind {av : List Value} : FrameBlind (va_Pc av (Wd D adr cA μ ν)) := fun a U g mk q => ⟨q.1, q.2.1, va_K.moved (u := U) (U := U.calling g mk a) (Vm.Alike.refl U.vm) q.2.2.1, q.2.2.2.1, Nst.same (s := U) (U := U.calling g mk a) rfl q.2.2.2.2⟩
end GEO
theorem bool01 {x : Int32} (h : x &&& 1 = x) : x = 0 ∨ x = 1 := by
  have h1 := pk_and x (m := 1) 1 rfl
  rw [h] at h1
  rcases (show x.toBitVec.toNat % 2 ^ 1 = 0 ∨ x.toBitVec.toNat % 2 ^ 1 = 1 by omega) with h2 | h2
  · rw [h2] at h1; exact Or.inl h1
  · rw [h2] at h1; exact Or.inr h1
theorem fits_bool {x : Int32} (h : x &&& 1 = x) : fits .boolean (.int x) = true := by
  rcases bool01 h with h1 | h1 <;> subst h1 <;> rfl
section ROWS
variable {p : Program} {l : Launch} {e : Env} {R : Room} {s : State} {m : MethodId} {args : Array Value} {below : List Frame} {meth : Method} {c : Code} {H : Heap} {locs : List Loc} {cells slots : Nat} {Q : State → Prop}
variable {cc : ByteArray} {pc : Nat} {ls : Array Slot} {rest : List Value} {D : va_G} {adr : Nat → Nat} {cA : Nat → ClassId} {μ ν μ' ν' : Mem} {H0 : Heap} {own : String} {index : Nat}
theorem g_LA_fields (hx : p.tables.exec = Jvm.exec) (hb : c.code = cc) (hts : ∀ w ∈ lw_ok, w.before args s = true) (hown : s.vm.findClass own = some m.cls) (hG : Geo D adr cA s) (hP : va_P D cls (wld adr cA μ ν) H) {o : Nat} (ho : o < 35) (hlink : (Cond.fieldLink own index "LakeRelief$Lake" "fields" "J").before args s = true) (hdg : decode cc pc = .ok (.getfield index, 3)) (kk : W p l e R s m args below meth c H locs cells slots Q (F0 m (pc + 3) ls (.long (μ.2 (28 + o) 0) :: rest))) : W p l e R s m args below meth c H locs cells slots Q (F0 m pc ls (.ref (adr (28 + o)) :: rest)) :=
  va_get (D := D) (ci := 0) (C := R_LA) (T := T_LA) (N := 8) hx hb hts i_LA hown hG.1 hP (28 + o) (wld_e (by omega) (wc_C (by omega) (sh_LA))) rfl 0 (by decide) hlink (fun _ h => h) rfl hdg kk
theorem p_LA_fields (hx : p.tables.exec = Jvm.exec) (hb : c.code = cc) (hts : ∀ w ∈ lw_ok, w.before args s = true) (hown : s.vm.findClass own = some m.cls) (hG : Geo D adr cA s) (hP : va_P D cls (wld adr cA μ ν) H) (hS : va_S (AA adr) H0 H locs) {o : Nat} (ho : o < 35) (hlink : (Cond.fieldLink own index "LakeRelief$Lake" "fields" "J").before args s = true) {x : Int64} (hdg : decode cc pc = .ok (.putfield index, 3)) (kk : ∀ (H1 : Heap) (locs1 : List Loc), va_P D cls (wld adr cA (sJ μ (28 + o) 0 x) ν) H1 → va_S (AA adr) H0 H1 locs1 → W p l e R s m args below meth c H1 locs1 cells slots Q (F0 m (pc + 3) ls rest)) : W p l e R s m args below meth c H locs cells slots Q (F0 m pc ls (.long x :: .ref (adr (28 + o)) :: rest)) := by
  refine va_put (D := D) (ci := 0) (ty := .long) (C := R_LA) (T := T_LA) (N := 8) hx hb hts i_LA t_LA t_LA_ok n_LA hown hG.1 hP (wld_D hG.2.1) hS (28 + o) (wld_e (by omega) (wc_C (by omega) (sh_LA))) rfl 0 (by decide) hlink (fun _ h => h) rfl (by decide +kernel) rfl rfl (Nat.le_of_ble_eq_true rfl) hdg (fun H1 locs1 hP1 _ hS1 => kk H1 locs1 ?_ hS1)
  refine (wld_set (q := (28 + o)) (by omega) (sJ_C) (wc_C (by omega) ?_)) ▸ hP1
  rw [sJ_q, sh_LA]
  rfl
theorem g_LA_rim (hx : p.tables.exec = Jvm.exec) (hb : c.code = cc) (hts : ∀ w ∈ lw_ok, w.before args s = true) (hown : s.vm.findClass own = some m.cls) (hG : Geo D adr cA s) (hP : va_P D cls (wld adr cA μ ν) H) {o : Nat} (ho : o < 35) (hlink : (Cond.fieldLink own index "LakeRelief$Lake" "rim" "I").before args s = true) (hdg : decode cc pc = .ok (.getfield index, 3)) (kk : W p l e R s m args below meth c H locs cells slots Q (F0 m (pc + 3) ls (.int (μ.1 (28 + o) 1) :: rest))) : W p l e R s m args below meth c H locs cells slots Q (F0 m pc ls (.ref (adr (28 + o)) :: rest)) :=
  va_get (D := D) (ci := 0) (C := R_LA) (T := T_LA) (N := 8) hx hb hts i_LA hown hG.1 hP (28 + o) (wld_e (by omega) (wc_C (by omega) (sh_LA))) rfl 1 (by decide) hlink (fun _ h => h) rfl hdg kk
theorem p_LA_rim (hx : p.tables.exec = Jvm.exec) (hb : c.code = cc) (hts : ∀ w ∈ lw_ok, w.before args s = true) (hown : s.vm.findClass own = some m.cls) (hG : Geo D adr cA s) (hP : va_P D cls (wld adr cA μ ν) H) (hS : va_S (AA adr) H0 H locs) {o : Nat} (ho : o < 35) (hlink : (Cond.fieldLink own index "LakeRelief$Lake" "rim" "I").before args s = true) {x : Int32} (hdg : decode cc pc = .ok (.putfield index, 3)) (kk : ∀ (H1 : Heap) (locs1 : List Loc), va_P D cls (wld adr cA (sI μ (28 + o) 1 x) ν) H1 → va_S (AA adr) H0 H1 locs1 → W p l e R s m args below meth c H1 locs1 cells slots Q (F0 m (pc + 3) ls rest)) : W p l e R s m args below meth c H locs cells slots Q (F0 m pc ls (.int x :: .ref (adr (28 + o)) :: rest)) := by
  refine va_put (D := D) (ci := 0) (ty := .int) (C := R_LA) (T := T_LA) (N := 8) hx hb hts i_LA t_LA t_LA_ok n_LA hown hG.1 hP (wld_D hG.2.1) hS (28 + o) (wld_e (by omega) (wc_C (by omega) (sh_LA))) rfl 1 (by decide) hlink (fun _ h => h) rfl (by decide +kernel) rfl rfl (Nat.le_of_ble_eq_true rfl) hdg (fun H1 locs1 hP1 _ hS1 => kk H1 locs1 ?_ hS1)
  refine (wld_set (q := (28 + o)) (by omega) (sI_C) (wc_C (by omega) ?_)) ▸ hP1
  rw [sI_q, sh_LA]
  rfl
theorem g_LA_whole (hx : p.tables.exec = Jvm.exec) (hb : c.code = cc) (hts : ∀ w ∈ lw_ok, w.before args s = true) (hown : s.vm.findClass own = some m.cls) (hG : Geo D adr cA s) (hP : va_P D cls (wld adr cA μ ν) H) {o : Nat} (ho : o < 35) (hlink : (Cond.fieldLink own index "LakeRelief$Lake" "whole" "I").before args s = true) (hdg : decode cc pc = .ok (.getfield index, 3)) (kk : W p l e R s m args below meth c H locs cells slots Q (F0 m (pc + 3) ls (.int (μ.1 (28 + o) 2) :: rest))) : W p l e R s m args below meth c H locs cells slots Q (F0 m pc ls (.ref (adr (28 + o)) :: rest)) :=
  va_get (D := D) (ci := 0) (C := R_LA) (T := T_LA) (N := 8) hx hb hts i_LA hown hG.1 hP (28 + o) (wld_e (by omega) (wc_C (by omega) (sh_LA))) rfl 2 (by decide) hlink (fun _ h => h) rfl hdg kk
theorem p_LA_whole (hx : p.tables.exec = Jvm.exec) (hb : c.code = cc) (hts : ∀ w ∈ lw_ok, w.before args s = true) (hown : s.vm.findClass own = some m.cls) (hG : Geo D adr cA s) (hP : va_P D cls (wld adr cA μ ν) H) (hS : va_S (AA adr) H0 H locs) {o : Nat} (ho : o < 35) (hlink : (Cond.fieldLink own index "LakeRelief$Lake" "whole" "I").before args s = true) {x : Int32} (hdg : decode cc pc = .ok (.putfield index, 3)) (kk : ∀ (H1 : Heap) (locs1 : List Loc), va_P D cls (wld adr cA (sI μ (28 + o) 2 x) ν) H1 → va_S (AA adr) H0 H1 locs1 → W p l e R s m args below meth c H1 locs1 cells slots Q (F0 m (pc + 3) ls rest)) : W p l e R s m args below meth c H locs cells slots Q (F0 m pc ls (.int x :: .ref (adr (28 + o)) :: rest)) := by
  refine va_put (D := D) (ci := 0) (ty := .int) (C := R_LA) (T := T_LA) (N := 8) hx hb hts i_LA t_LA t_LA_ok n_LA hown hG.1 hP (wld_D hG.2.1) hS (28 + o) (wld_e (by omega) (wc_C (by omega) (sh_LA))) rfl 2 (by decide) hlink (fun _ h => h) rfl (by decide +kernel) rfl rfl (Nat.le_of_ble_eq_true rfl) hdg (fun H1 locs1 hP1 _ hS1 => kk H1 locs1 ?_ hS1)
  refine (wld_set (q := (28 + o)) (by omega) (sI_C) (wc_C (by omega) ?_)) ▸ hP1
  rw [sI_q, sh_LA]
  rfl
theorem g_LA_lesserPart (hx : p.tables.exec = Jvm.exec) (hb : c.code = cc) (hts : ∀ w ∈ lw_ok, w.before args s = true) (hown : s.vm.findClass own = some m.cls) (hG : Geo D adr cA s) (hP : va_P D cls (wld adr cA μ ν) H) {o : Nat} (ho : o < 35) (hlink : (Cond.fieldLink own index "LakeRelief$Lake" "lesserPart" "I").before args s = true) (hdg : decode cc pc = .ok (.getfield index, 3)) (kk : W p l e R s m args below meth c H locs cells slots Q (F0 m (pc + 3) ls (.int (μ.1 (28 + o) 3) :: rest))) : W p l e R s m args below meth c H locs cells slots Q (F0 m pc ls (.ref (adr (28 + o)) :: rest)) :=
  va_get (D := D) (ci := 0) (C := R_LA) (T := T_LA) (N := 8) hx hb hts i_LA hown hG.1 hP (28 + o) (wld_e (by omega) (wc_C (by omega) (sh_LA))) rfl 3 (by decide) hlink (fun _ h => h) rfl hdg kk
theorem p_LA_lesserPart (hx : p.tables.exec = Jvm.exec) (hb : c.code = cc) (hts : ∀ w ∈ lw_ok, w.before args s = true) (hown : s.vm.findClass own = some m.cls) (hG : Geo D adr cA s) (hP : va_P D cls (wld adr cA μ ν) H) (hS : va_S (AA adr) H0 H locs) {o : Nat} (ho : o < 35) (hlink : (Cond.fieldLink own index "LakeRelief$Lake" "lesserPart" "I").before args s = true) {x : Int32} (hdg : decode cc pc = .ok (.putfield index, 3)) (kk : ∀ (H1 : Heap) (locs1 : List Loc), va_P D cls (wld adr cA (sI μ (28 + o) 3 x) ν) H1 → va_S (AA adr) H0 H1 locs1 → W p l e R s m args below meth c H1 locs1 cells slots Q (F0 m (pc + 3) ls rest)) : W p l e R s m args below meth c H locs cells slots Q (F0 m pc ls (.int x :: .ref (adr (28 + o)) :: rest)) := by
  refine va_put (D := D) (ci := 0) (ty := .int) (C := R_LA) (T := T_LA) (N := 8) hx hb hts i_LA t_LA t_LA_ok n_LA hown hG.1 hP (wld_D hG.2.1) hS (28 + o) (wld_e (by omega) (wc_C (by omega) (sh_LA))) rfl 3 (by decide) hlink (fun _ h => h) rfl (by decide +kernel) rfl rfl (Nat.le_of_ble_eq_true rfl) hdg (fun H1 locs1 hP1 _ hS1 => kk H1 locs1 ?_ hS1)
  refine (wld_set (q := (28 + o)) (by omega) (sI_C) (wc_C (by omega) ?_)) ▸ hP1
  rw [sI_q, sh_LA]
  rfl
theorem g_LA_greaterPart (hx : p.tables.exec = Jvm.exec) (hb : c.code = cc) (hts : ∀ w ∈ lw_ok, w.before args s = true) (hown : s.vm.findClass own = some m.cls) (hG : Geo D adr cA s) (hP : va_P D cls (wld adr cA μ ν) H) {o : Nat} (ho : o < 35) (hlink : (Cond.fieldLink own index "LakeRelief$Lake" "greaterPart" "I").before args s = true) (hdg : decode cc pc = .ok (.getfield index, 3)) (kk : W p l e R s m args below meth c H locs cells slots Q (F0 m (pc + 3) ls (.int (μ.1 (28 + o) 4) :: rest))) : W p l e R s m args below meth c H locs cells slots Q (F0 m pc ls (.ref (adr (28 + o)) :: rest)) :=
  va_get (D := D) (ci := 0) (C := R_LA) (T := T_LA) (N := 8) hx hb hts i_LA hown hG.1 hP (28 + o) (wld_e (by omega) (wc_C (by omega) (sh_LA))) rfl 4 (by decide) hlink (fun _ h => h) rfl hdg kk
theorem p_LA_greaterPart (hx : p.tables.exec = Jvm.exec) (hb : c.code = cc) (hts : ∀ w ∈ lw_ok, w.before args s = true) (hown : s.vm.findClass own = some m.cls) (hG : Geo D adr cA s) (hP : va_P D cls (wld adr cA μ ν) H) (hS : va_S (AA adr) H0 H locs) {o : Nat} (ho : o < 35) (hlink : (Cond.fieldLink own index "LakeRelief$Lake" "greaterPart" "I").before args s = true) {x : Int32} (hdg : decode cc pc = .ok (.putfield index, 3)) (kk : ∀ (H1 : Heap) (locs1 : List Loc), va_P D cls (wld adr cA (sI μ (28 + o) 4 x) ν) H1 → va_S (AA adr) H0 H1 locs1 → W p l e R s m args below meth c H1 locs1 cells slots Q (F0 m (pc + 3) ls rest)) : W p l e R s m args below meth c H locs cells slots Q (F0 m pc ls (.int x :: .ref (adr (28 + o)) :: rest)) := by
  refine va_put (D := D) (ci := 0) (ty := .int) (C := R_LA) (T := T_LA) (N := 8) hx hb hts i_LA t_LA t_LA_ok n_LA hown hG.1 hP (wld_D hG.2.1) hS (28 + o) (wld_e (by omega) (wc_C (by omega) (sh_LA))) rfl 4 (by decide) hlink (fun _ h => h) rfl (by decide +kernel) rfl rfl (Nat.le_of_ble_eq_true rfl) hdg (fun H1 locs1 hP1 _ hS1 => kk H1 locs1 ?_ hS1)
  refine (wld_set (q := (28 + o)) (by omega) (sI_C) (wc_C (by omega) ?_)) ▸ hP1
  rw [sI_q, sh_LA]
  rfl
theorem g_LA_most (hx : p.tables.exec = Jvm.exec) (hb : c.code = cc) (hts : ∀ w ∈ lw_ok, w.before args s = true) (hown : s.vm.findClass own = some m.cls) (hG : Geo D adr cA s) (hP : va_P D cls (wld adr cA μ ν) H) {o : Nat} (ho : o < 35) (hlink : (Cond.fieldLink own index "LakeRelief$Lake" "most" "I").before args s = true) (hdg : decode cc pc = .ok (.getfield index, 3)) (kk : W p l e R s m args below meth c H locs cells slots Q (F0 m (pc + 3) ls (.int (μ.1 (28 + o) 5) :: rest))) : W p l e R s m args below meth c H locs cells slots Q (F0 m pc ls (.ref (adr (28 + o)) :: rest)) :=
  va_get (D := D) (ci := 0) (C := R_LA) (T := T_LA) (N := 8) hx hb hts i_LA hown hG.1 hP (28 + o) (wld_e (by omega) (wc_C (by omega) (sh_LA))) rfl 5 (by decide) hlink (fun _ h => h) rfl hdg kk
theorem p_LA_most (hx : p.tables.exec = Jvm.exec) (hb : c.code = cc) (hts : ∀ w ∈ lw_ok, w.before args s = true) (hown : s.vm.findClass own = some m.cls) (hG : Geo D adr cA s) (hP : va_P D cls (wld adr cA μ ν) H) (hS : va_S (AA adr) H0 H locs) {o : Nat} (ho : o < 35) (hlink : (Cond.fieldLink own index "LakeRelief$Lake" "most" "I").before args s = true) {x : Int32} (hdg : decode cc pc = .ok (.putfield index, 3)) (kk : ∀ (H1 : Heap) (locs1 : List Loc), va_P D cls (wld adr cA (sI μ (28 + o) 5 x) ν) H1 → va_S (AA adr) H0 H1 locs1 → W p l e R s m args below meth c H1 locs1 cells slots Q (F0 m (pc + 3) ls rest)) : W p l e R s m args below meth c H locs cells slots Q (F0 m pc ls (.int x :: .ref (adr (28 + o)) :: rest)) := by
  refine va_put (D := D) (ci := 0) (ty := .int) (C := R_LA) (T := T_LA) (N := 8) hx hb hts i_LA t_LA t_LA_ok n_LA hown hG.1 hP (wld_D hG.2.1) hS (28 + o) (wld_e (by omega) (wc_C (by omega) (sh_LA))) rfl 5 (by decide) hlink (fun _ h => h) rfl (by decide +kernel) rfl rfl (Nat.le_of_ble_eq_true rfl) hdg (fun H1 locs1 hP1 _ hS1 => kk H1 locs1 ?_ hS1)
  refine (wld_set (q := (28 + o)) (by omega) (sI_C) (wc_C (by omega) ?_)) ▸ hP1
  rw [sI_q, sh_LA]
  rfl
theorem g_LA_isThere (hx : p.tables.exec = Jvm.exec) (hb : c.code = cc) (hts : ∀ w ∈ lw_ok, w.before args s = true) (hown : s.vm.findClass own = some m.cls) (hG : Geo D adr cA s) (hP : va_P D cls (wld adr cA μ ν) H) {o : Nat} (ho : o < 35) (hlink : (Cond.fieldLink own index "LakeRelief$Lake" "isThere" "Z").before args s = true) (hdg : decode cc pc = .ok (.getfield index, 3)) (kk : W p l e R s m args below meth c H locs cells slots Q (F0 m (pc + 3) ls (.int (μ.1 (28 + o) 6) :: rest))) : W p l e R s m args below meth c H locs cells slots Q (F0 m pc ls (.ref (adr (28 + o)) :: rest)) :=
  va_get (D := D) (ci := 0) (C := R_LA) (T := T_LA) (N := 8) hx hb hts i_LA hown hG.1 hP (28 + o) (wld_e (by omega) (wc_C (by omega) (sh_LA))) rfl 6 (by decide) hlink (fun _ h => h) rfl hdg kk
theorem p_LA_isThere (hx : p.tables.exec = Jvm.exec) (hb : c.code = cc) (hts : ∀ w ∈ lw_ok, w.before args s = true) (hown : s.vm.findClass own = some m.cls) (hG : Geo D adr cA s) (hP : va_P D cls (wld adr cA μ ν) H) (hS : va_S (AA adr) H0 H locs) {o : Nat} (ho : o < 35) (hlink : (Cond.fieldLink own index "LakeRelief$Lake" "isThere" "Z").before args s = true) {x : Int32} (hz : x &&& 1 = x) (hdg : decode cc pc = .ok (.putfield index, 3)) (kk : ∀ (H1 : Heap) (locs1 : List Loc), va_P D cls (wld adr cA (sI μ (28 + o) 6 x) ν) H1 → va_S (AA adr) H0 H1 locs1 → W p l e R s m args below meth c H1 locs1 cells slots Q (F0 m (pc + 3) ls rest)) : W p l e R s m args below meth c H locs cells slots Q (F0 m pc ls (.int x :: .ref (adr (28 + o)) :: rest)) := by
  refine va_put (D := D) (ci := 0) (ty := .boolean) (C := R_LA) (T := T_LA) (N := 8) hx hb hts i_LA t_LA t_LA_ok n_LA hown hG.1 hP (wld_D hG.2.1) hS (28 + o) (wld_e (by omega) (wc_C (by omega) (sh_LA))) rfl 6 (by decide) hlink (fun _ h => h) rfl (by decide +kernel) (by show Value.int (x &&& 1) = _; rw [hz]) (fits_bool hz) (Nat.le_of_ble_eq_true rfl) hdg (fun H1 locs1 hP1 _ hS1 => kk H1 locs1 ?_ hS1)
  refine (wld_set (q := (28 + o)) (by omega) (sI_C) (wc_C (by omega) ?_)) ▸ hP1
  rw [sI_q, sh_LA]
  rfl
theorem g_LA_water (hx : p.tables.exec = Jvm.exec) (hb : c.code = cc) (hts : ∀ w ∈ lw_ok, w.before args s = true) (hown : s.vm.findClass own = some m.cls) (hG : Geo D adr cA s) (hP : va_P D cls (wld adr cA μ ν) H) {o : Nat} (ho : o < 35) (hlink : (Cond.fieldLink own index "LakeRelief$Lake" "water" "I").before args s = true) (hdg : decode cc pc = .ok (.getfield index, 3)) (kk : W p l e R s m args below meth c H locs cells slots Q (F0 m (pc + 3) ls (.int (μ.1 (28 + o) 7) :: rest))) : W p l e R s m args below meth c H locs cells slots Q (F0 m pc ls (.ref (adr (28 + o)) :: rest)) :=
  va_get (D := D) (ci := 0) (C := R_LA) (T := T_LA) (N := 8) hx hb hts i_LA hown hG.1 hP (28 + o) (wld_e (by omega) (wc_C (by omega) (sh_LA))) rfl 7 (by decide) hlink (fun _ h => h) rfl hdg kk
theorem p_LA_water (hx : p.tables.exec = Jvm.exec) (hb : c.code = cc) (hts : ∀ w ∈ lw_ok, w.before args s = true) (hown : s.vm.findClass own = some m.cls) (hG : Geo D adr cA s) (hP : va_P D cls (wld adr cA μ ν) H) (hS : va_S (AA adr) H0 H locs) {o : Nat} (ho : o < 35) (hlink : (Cond.fieldLink own index "LakeRelief$Lake" "water" "I").before args s = true) {x : Int32} (hdg : decode cc pc = .ok (.putfield index, 3)) (kk : ∀ (H1 : Heap) (locs1 : List Loc), va_P D cls (wld adr cA (sI μ (28 + o) 7 x) ν) H1 → va_S (AA adr) H0 H1 locs1 → W p l e R s m args below meth c H1 locs1 cells slots Q (F0 m (pc + 3) ls rest)) : W p l e R s m args below meth c H locs cells slots Q (F0 m pc ls (.int x :: .ref (adr (28 + o)) :: rest)) := by
  refine va_put (D := D) (ci := 0) (ty := .int) (C := R_LA) (T := T_LA) (N := 8) hx hb hts i_LA t_LA t_LA_ok n_LA hown hG.1 hP (wld_D hG.2.1) hS (28 + o) (wld_e (by omega) (wc_C (by omega) (sh_LA))) rfl 7 (by decide) hlink (fun _ h => h) rfl (by decide +kernel) rfl rfl (Nat.le_of_ble_eq_true rfl) hdg (fun H1 locs1 hP1 _ hS1 => kk H1 locs1 ?_ hS1)
  refine (wld_set (q := (28 + o)) (by omega) (sI_C) (wc_C (by omega) ?_)) ▸ hP1
  rw [sI_q, sh_LA]
  rfl
theorem g_LK_all (hx : p.tables.exec = Jvm.exec) (hb : c.code = cc) (hts : ∀ w ∈ lw_ok, w.before args s = true) (hown : s.vm.findClass own = some m.cls) (hG : Geo D adr cA s) (hP : va_P D cls (wld adr cA μ ν) H) (hlink : (Cond.fieldLink own index "LakeRelief$Lakes" "all" "[LLakeRelief$Lake;").before args s = true) (hdg : decode cc pc = .ok (.getfield index, 3)) (kk : W p l e R s m args below meth c H locs cells slots Q (F0 m (pc + 3) ls (.ref (adr 27) :: rest))) : W p l e R s m args below meth c H locs cells slots Q (F0 m pc ls (.ref (adr 26) :: rest)) :=
  va_get (D := D) (ci := 1) (C := R_LK) (T := T_LK) (N := 6) hx hb hts i_LK hown hG.1 hP 26 (wld_e (by decide) (wc_C (by decide) rfl)) rfl 0 (by decide) hlink (fun _ h => h) rfl hdg kk
theorem g_LK_number (hx : p.tables.exec = Jvm.exec) (hb : c.code = cc) (hts : ∀ w ∈ lw_ok, w.before args s = true) (hown : s.vm.findClass own = some m.cls) (hG : Geo D adr cA s) (hP : va_P D cls (wld adr cA μ ν) H) (hlink : (Cond.fieldLink own index "LakeRelief$Lakes" "number" "I").before args s = true) (hdg : decode cc pc = .ok (.getfield index, 3)) (kk : W p l e R s m args below meth c H locs cells slots Q (F0 m (pc + 3) ls (.int (μ.1 26 1) :: rest))) : W p l e R s m args below meth c H locs cells slots Q (F0 m pc ls (.ref (adr 26) :: rest)) :=
  va_get (D := D) (ci := 1) (C := R_LK) (T := T_LK) (N := 6) hx hb hts i_LK hown hG.1 hP 26 (wld_e (by decide) (wc_C (by decide) rfl)) rfl 1 (by decide) hlink (fun _ h => h) rfl hdg kk
theorem p_LK_number (hx : p.tables.exec = Jvm.exec) (hb : c.code = cc) (hts : ∀ w ∈ lw_ok, w.before args s = true) (hown : s.vm.findClass own = some m.cls) (hG : Geo D adr cA s) (hP : va_P D cls (wld adr cA μ ν) H) (hS : va_S (AA adr) H0 H locs) (hlink : (Cond.fieldLink own index "LakeRelief$Lakes" "number" "I").before args s = true) {x : Int32} (hdg : decode cc pc = .ok (.putfield index, 3)) (kk : ∀ (H1 : Heap) (locs1 : List Loc), va_P D cls (wld adr cA (sI μ 26 1 x) ν) H1 → va_S (AA adr) H0 H1 locs1 → W p l e R s m args below meth c H1 locs1 cells slots Q (F0 m (pc + 3) ls rest)) : W p l e R s m args below meth c H locs cells slots Q (F0 m pc ls (.int x :: .ref (adr 26) :: rest)) := by
  refine va_put (D := D) (ci := 1) (ty := .int) (C := R_LK) (T := T_LK) (N := 6) hx hb hts i_LK t_LK t_LK_ok n_LK hown hG.1 hP (wld_D hG.2.1) hS 26 (wld_e (by decide) (wc_C (by decide) rfl)) rfl 1 (by decide) hlink (fun _ h => h) rfl (by decide +kernel) rfl rfl (Nat.le_of_ble_eq_true rfl) hdg (fun H1 locs1 hP1 _ hS1 => kk H1 locs1 ?_ hS1)
  exact (wld_set (q := 26) (by decide) (sI_C) (wc_C (by decide) rfl)) ▸ hP1
theorem g_LK_gone (hx : p.tables.exec = Jvm.exec) (hb : c.code = cc) (hts : ∀ w ∈ lw_ok, w.before args s = true) (hown : s.vm.findClass own = some m.cls) (hG : Geo D adr cA s) (hP : va_P D cls (wld adr cA μ ν) H) (hlink : (Cond.fieldLink own index "LakeRelief$Lakes" "gone" "J").before args s = true) (hdg : decode cc pc = .ok (.getfield index, 3)) (kk : W p l e R s m args below meth c H locs cells slots Q (F0 m (pc + 3) ls (.long (μ.2 26 2) :: rest))) : W p l e R s m args below meth c H locs cells slots Q (F0 m pc ls (.ref (adr 26) :: rest)) :=
  va_get (D := D) (ci := 1) (C := R_LK) (T := T_LK) (N := 6) hx hb hts i_LK hown hG.1 hP 26 (wld_e (by decide) (wc_C (by decide) rfl)) rfl 2 (by decide) hlink (fun _ h => h) rfl hdg kk
theorem p_LK_gone (hx : p.tables.exec = Jvm.exec) (hb : c.code = cc) (hts : ∀ w ∈ lw_ok, w.before args s = true) (hown : s.vm.findClass own = some m.cls) (hG : Geo D adr cA s) (hP : va_P D cls (wld adr cA μ ν) H) (hS : va_S (AA adr) H0 H locs) (hlink : (Cond.fieldLink own index "LakeRelief$Lakes" "gone" "J").before args s = true) {x : Int64} (hdg : decode cc pc = .ok (.putfield index, 3)) (kk : ∀ (H1 : Heap) (locs1 : List Loc), va_P D cls (wld adr cA (sJ μ 26 2 x) ν) H1 → va_S (AA adr) H0 H1 locs1 → W p l e R s m args below meth c H1 locs1 cells slots Q (F0 m (pc + 3) ls rest)) : W p l e R s m args below meth c H locs cells slots Q (F0 m pc ls (.long x :: .ref (adr 26) :: rest)) := by
  refine va_put (D := D) (ci := 1) (ty := .long) (C := R_LK) (T := T_LK) (N := 6) hx hb hts i_LK t_LK t_LK_ok n_LK hown hG.1 hP (wld_D hG.2.1) hS 26 (wld_e (by decide) (wc_C (by decide) rfl)) rfl 2 (by decide) hlink (fun _ h => h) rfl (by decide +kernel) rfl rfl (Nat.le_of_ble_eq_true rfl) hdg (fun H1 locs1 hP1 _ hS1 => kk H1 locs1 ?_ hS1)
  exact (wld_set (q := 26) (by decide) (sJ_C) (wc_C (by decide) rfl)) ▸ hP1
theorem g_LK_poured (hx : p.tables.exec = Jvm.exec) (hb : c.code = cc) (hts : ∀ w ∈ lw_ok, w.before args s = true) (hown : s.vm.findClass own = some m.cls) (hG : Geo D adr cA s) (hP : va_P D cls (wld adr cA μ ν) H) (hlink : (Cond.fieldLink own index "LakeRelief$Lakes" "poured" "J").before args s = true) (hdg : decode cc pc = .ok (.getfield index, 3)) (kk : W p l e R s m args below meth c H locs cells slots Q (F0 m (pc + 3) ls (.long (μ.2 26 3) :: rest))) : W p l e R s m args below meth c H locs cells slots Q (F0 m pc ls (.ref (adr 26) :: rest)) :=
  va_get (D := D) (ci := 1) (C := R_LK) (T := T_LK) (N := 6) hx hb hts i_LK hown hG.1 hP 26 (wld_e (by decide) (wc_C (by decide) rfl)) rfl 3 (by decide) hlink (fun _ h => h) rfl hdg kk
theorem p_LK_poured (hx : p.tables.exec = Jvm.exec) (hb : c.code = cc) (hts : ∀ w ∈ lw_ok, w.before args s = true) (hown : s.vm.findClass own = some m.cls) (hG : Geo D adr cA s) (hP : va_P D cls (wld adr cA μ ν) H) (hS : va_S (AA adr) H0 H locs) (hlink : (Cond.fieldLink own index "LakeRelief$Lakes" "poured" "J").before args s = true) {x : Int64} (hdg : decode cc pc = .ok (.putfield index, 3)) (kk : ∀ (H1 : Heap) (locs1 : List Loc), va_P D cls (wld adr cA (sJ μ 26 3 x) ν) H1 → va_S (AA adr) H0 H1 locs1 → W p l e R s m args below meth c H1 locs1 cells slots Q (F0 m (pc + 3) ls rest)) : W p l e R s m args below meth c H locs cells slots Q (F0 m pc ls (.long x :: .ref (adr 26) :: rest)) := by
  refine va_put (D := D) (ci := 1) (ty := .long) (C := R_LK) (T := T_LK) (N := 6) hx hb hts i_LK t_LK t_LK_ok n_LK hown hG.1 hP (wld_D hG.2.1) hS 26 (wld_e (by decide) (wc_C (by decide) rfl)) rfl 3 (by decide) hlink (fun _ h => h) rfl (by decide +kernel) rfl rfl (Nat.le_of_ble_eq_true rfl) hdg (fun H1 locs1 hP1 _ hS1 => kk H1 locs1 ?_ hS1)
  exact (wld_set (q := 26) (by decide) (sJ_C) (wc_C (by decide) rfl)) ▸ hP1
theorem g_LK_relief (hx : p.tables.exec = Jvm.exec) (hb : c.code = cc) (hts : ∀ w ∈ lw_ok, w.before args s = true) (hown : s.vm.findClass own = some m.cls) (hG : Geo D adr cA s) (hP : va_P D cls (wld adr cA μ ν) H) (hlink : (Cond.fieldLink own index "LakeRelief$Lakes" "relief" "LLakeRelief$Relief;").before args s = true) (hdg : decode cc pc = .ok (.getfield index, 3)) (kk : W p l e R s m args below meth c H locs cells slots Q (F0 m (pc + 3) ls (.ref (adr 18) :: rest))) : W p l e R s m args below meth c H locs cells slots Q (F0 m pc ls (.ref (adr 26) :: rest)) :=
  va_get (D := D) (ci := 1) (C := R_LK) (T := T_LK) (N := 6) hx hb hts i_LK hown hG.1 hP 26 (wld_e (by decide) (wc_C (by decide) rfl)) rfl 4 (by decide) hlink (fun _ h => h) rfl hdg kk
theorem g_LK_seas (hx : p.tables.exec = Jvm.exec) (hb : c.code = cc) (hts : ∀ w ∈ lw_ok, w.before args s = true) (hown : s.vm.findClass own = some m.cls) (hG : Geo D adr cA s) (hP : va_P D cls (wld adr cA μ ν) H) (hlink : (Cond.fieldLink own index "LakeRelief$Lakes" "seas" "J").before args s = true) (hdg : decode cc pc = .ok (.getfield index, 3)) (kk : W p l e R s m args below meth c H locs cells slots Q (F0 m (pc + 3) ls (.long (μ.2 26 5) :: rest))) : W p l e R s m args below meth c H locs cells slots Q (F0 m pc ls (.ref (adr 26) :: rest)) :=
  va_get (D := D) (ci := 1) (C := R_LK) (T := T_LK) (N := 6) hx hb hts i_LK hown hG.1 hP 26 (wld_e (by decide) (wc_C (by decide) rfl)) rfl 5 (by decide) hlink (fun _ h => h) rfl hdg kk
theorem p_LK_seas (hx : p.tables.exec = Jvm.exec) (hb : c.code = cc) (hts : ∀ w ∈ lw_ok, w.before args s = true) (hown : s.vm.findClass own = some m.cls) (hG : Geo D adr cA s) (hP : va_P D cls (wld adr cA μ ν) H) (hS : va_S (AA adr) H0 H locs) (hlink : (Cond.fieldLink own index "LakeRelief$Lakes" "seas" "J").before args s = true) {x : Int64} (hdg : decode cc pc = .ok (.putfield index, 3)) (kk : ∀ (H1 : Heap) (locs1 : List Loc), va_P D cls (wld adr cA (sJ μ 26 5 x) ν) H1 → va_S (AA adr) H0 H1 locs1 → W p l e R s m args below meth c H1 locs1 cells slots Q (F0 m (pc + 3) ls rest)) : W p l e R s m args below meth c H locs cells slots Q (F0 m pc ls (.long x :: .ref (adr 26) :: rest)) := by
  refine va_put (D := D) (ci := 1) (ty := .long) (C := R_LK) (T := T_LK) (N := 6) hx hb hts i_LK t_LK t_LK_ok n_LK hown hG.1 hP (wld_D hG.2.1) hS 26 (wld_e (by decide) (wc_C (by decide) rfl)) rfl 5 (by decide) hlink (fun _ h => h) rfl (by decide +kernel) rfl rfl (Nat.le_of_ble_eq_true rfl) hdg (fun H1 locs1 hP1 _ hS1 => kk H1 locs1 ?_ hS1)
  exact (wld_set (q := 26) (by decide) (sJ_C) (wc_C (by decide) rfl)) ▸ hP1
theorem g_RE_height (hx : p.tables.exec = Jvm.exec) (hb : c.code = cc) (hts : ∀ w ∈ lw_ok, w.before args s = true) (hown : s.vm.findClass own = some m.cls) (hG : Geo D adr cA s) (hP : va_P D cls (wld adr cA μ ν) H) (hlink : (Cond.fieldLink own index "LakeRelief$Relief" "height" "[I").before args s = true) (hdg : decode cc pc = .ok (.getfield index, 3)) (kk : W p l e R s m args below meth c H locs cells slots Q (F0 m (pc + 3) ls (.ref (adr 19) :: rest))) : W p l e R s m args below meth c H locs cells slots Q (F0 m pc ls (.ref (adr 18) :: rest)) :=
  va_get (D := D) (ci := 2) (C := R_RE) (T := T_RE) (N := 11) hx hb hts i_RE hown hG.1 hP 18 (wld_e (by decide) (wc_C (by decide) rfl)) rfl 0 (by decide) hlink (fun _ h => h) rfl hdg kk
theorem g_RE_down (hx : p.tables.exec = Jvm.exec) (hb : c.code = cc) (hts : ∀ w ∈ lw_ok, w.before args s = true) (hown : s.vm.findClass own = some m.cls) (hG : Geo D adr cA s) (hP : va_P D cls (wld adr cA μ ν) H) (hlink : (Cond.fieldLink own index "LakeRelief$Relief" "down" "[I").before args s = true) (hdg : decode cc pc = .ok (.getfield index, 3)) (kk : W p l e R s m args below meth c H locs cells slots Q (F0 m (pc + 3) ls (.ref (adr 20) :: rest))) : W p l e R s m args below meth c H locs cells slots Q (F0 m pc ls (.ref (adr 18) :: rest)) :=
  va_get (D := D) (ci := 2) (C := R_RE) (T := T_RE) (N := 11) hx hb hts i_RE hown hG.1 hP 18 (wld_e (by decide) (wc_C (by decide) rfl)) rfl 1 (by decide) hlink (fun _ h => h) rfl hdg kk
theorem g_RE_wayEnd (hx : p.tables.exec = Jvm.exec) (hb : c.code = cc) (hts : ∀ w ∈ lw_ok, w.before args s = true) (hown : s.vm.findClass own = some m.cls) (hG : Geo D adr cA s) (hP : va_P D cls (wld adr cA μ ν) H) (hlink : (Cond.fieldLink own index "LakeRelief$Relief" "wayEnd" "[I").before args s = true) (hdg : decode cc pc = .ok (.getfield index, 3)) (kk : W p l e R s m args below meth c H locs cells slots Q (F0 m (pc + 3) ls (.ref (adr 21) :: rest))) : W p l e R s m args below meth c H locs cells slots Q (F0 m pc ls (.ref (adr 18) :: rest)) :=
  va_get (D := D) (ci := 2) (C := R_RE) (T := T_RE) (N := 11) hx hb hts i_RE hown hG.1 hP 18 (wld_e (by decide) (wc_C (by decide) rfl)) rfl 2 (by decide) hlink (fun _ h => h) rfl hdg kk
theorem g_RE_fill (hx : p.tables.exec = Jvm.exec) (hb : c.code = cc) (hts : ∀ w ∈ lw_ok, w.before args s = true) (hown : s.vm.findClass own = some m.cls) (hG : Geo D adr cA s) (hP : va_P D cls (wld adr cA μ ν) H) (hlink : (Cond.fieldLink own index "LakeRelief$Relief" "fill" "[I").before args s = true) (hdg : decode cc pc = .ok (.getfield index, 3)) (kk : W p l e R s m args below meth c H locs cells slots Q (F0 m (pc + 3) ls (.ref (adr 22) :: rest))) : W p l e R s m args below meth c H locs cells slots Q (F0 m pc ls (.ref (adr 18) :: rest)) :=
  va_get (D := D) (ci := 2) (C := R_RE) (T := T_RE) (N := 11) hx hb hts i_RE hown hG.1 hP 18 (wld_e (by decide) (wc_C (by decide) rfl)) rfl 3 (by decide) hlink (fun _ h => h) rfl hdg kk
theorem g_RE_order (hx : p.tables.exec = Jvm.exec) (hb : c.code = cc) (hts : ∀ w ∈ lw_ok, w.before args s = true) (hown : s.vm.findClass own = some m.cls) (hG : Geo D adr cA s) (hP : va_P D cls (wld adr cA μ ν) H) (hlink : (Cond.fieldLink own index "LakeRelief$Relief" "order" "[I").before args s = true) (hdg : decode cc pc = .ok (.getfield index, 3)) (kk : W p l e R s m args below meth c H locs cells slots Q (F0 m (pc + 3) ls (.ref (adr 23) :: rest))) : W p l e R s m args below meth c H locs cells slots Q (F0 m pc ls (.ref (adr 18) :: rest)) :=
  va_get (D := D) (ci := 2) (C := R_RE) (T := T_RE) (N := 11) hx hb hts i_RE hown hG.1 hP 18 (wld_e (by decide) (wc_C (by decide) rfl)) rfl 4 (by decide) hlink (fun _ h => h) rfl hdg kk
theorem g_RE_neighbours (hx : p.tables.exec = Jvm.exec) (hb : c.code = cc) (hts : ∀ w ∈ lw_ok, w.before args s = true) (hown : s.vm.findClass own = some m.cls) (hG : Geo D adr cA s) (hP : va_P D cls (wld adr cA μ ν) H) (hlink : (Cond.fieldLink own index "LakeRelief$Relief" "neighbours" "[I").before args s = true) (hdg : decode cc pc = .ok (.getfield index, 3)) (kk : W p l e R s m args below meth c H locs cells slots Q (F0 m (pc + 3) ls (.ref (adr 24) :: rest))) : W p l e R s m args below meth c H locs cells slots Q (F0 m pc ls (.ref (adr 18) :: rest)) :=
  va_get (D := D) (ci := 2) (C := R_RE) (T := T_RE) (N := 11) hx hb hts i_RE hown hG.1 hP 18 (wld_e (by decide) (wc_C (by decide) rfl)) rfl 5 (by decide) hlink (fun _ h => h) rfl hdg kk
theorem g_RE_waiting (hx : p.tables.exec = Jvm.exec) (hb : c.code = cc) (hts : ∀ w ∈ lw_ok, w.before args s = true) (hown : s.vm.findClass own = some m.cls) (hG : Geo D adr cA s) (hP : va_P D cls (wld adr cA μ ν) H) (hlink : (Cond.fieldLink own index "LakeRelief$Relief" "waiting" "[I").before args s = true) (hdg : decode cc pc = .ok (.getfield index, 3)) (kk : W p l e R s m args below meth c H locs cells slots Q (F0 m (pc + 3) ls (.ref (adr 25) :: rest))) : W p l e R s m args below meth c H locs cells slots Q (F0 m pc ls (.ref (adr 18) :: rest)) :=
  va_get (D := D) (ci := 2) (C := R_RE) (T := T_RE) (N := 11) hx hb hts i_RE hown hG.1 hP 18 (wld_e (by decide) (wc_C (by decide) rfl)) rfl 6 (by decide) hlink (fun _ h => h) rfl hdg kk
theorem g_RE_width (hx : p.tables.exec = Jvm.exec) (hb : c.code = cc) (hts : ∀ w ∈ lw_ok, w.before args s = true) (hown : s.vm.findClass own = some m.cls) (hG : Geo D adr cA s) (hP : va_P D cls (wld adr cA μ ν) H) (hlink : (Cond.fieldLink own index "LakeRelief$Relief" "width" "I").before args s = true) (hdg : decode cc pc = .ok (.getfield index, 3)) (kk : W p l e R s m args below meth c H locs cells slots Q (F0 m (pc + 3) ls (.int (μ.1 18 7) :: rest))) : W p l e R s m args below meth c H locs cells slots Q (F0 m pc ls (.ref (adr 18) :: rest)) :=
  va_get (D := D) (ci := 2) (C := R_RE) (T := T_RE) (N := 11) hx hb hts i_RE hown hG.1 hP 18 (wld_e (by decide) (wc_C (by decide) rfl)) rfl 7 (by decide) hlink (fun _ h => h) rfl hdg kk
theorem p_RE_width (hx : p.tables.exec = Jvm.exec) (hb : c.code = cc) (hts : ∀ w ∈ lw_ok, w.before args s = true) (hown : s.vm.findClass own = some m.cls) (hG : Geo D adr cA s) (hP : va_P D cls (wld adr cA μ ν) H) (hS : va_S (AA adr) H0 H locs) (hlink : (Cond.fieldLink own index "LakeRelief$Relief" "width" "I").before args s = true) {x : Int32} (hdg : decode cc pc = .ok (.putfield index, 3)) (kk : ∀ (H1 : Heap) (locs1 : List Loc), va_P D cls (wld adr cA (sI μ 18 7 x) ν) H1 → va_S (AA adr) H0 H1 locs1 → W p l e R s m args below meth c H1 locs1 cells slots Q (F0 m (pc + 3) ls rest)) : W p l e R s m args below meth c H locs cells slots Q (F0 m pc ls (.int x :: .ref (adr 18) :: rest)) := by
  refine va_put (D := D) (ci := 2) (ty := .int) (C := R_RE) (T := T_RE) (N := 11) hx hb hts i_RE t_RE t_RE_ok n_RE hown hG.1 hP (wld_D hG.2.1) hS 18 (wld_e (by decide) (wc_C (by decide) rfl)) rfl 7 (by decide) hlink (fun _ h => h) rfl (by decide +kernel) rfl rfl (Nat.le_of_ble_eq_true rfl) hdg (fun H1 locs1 hP1 _ hS1 => kk H1 locs1 ?_ hS1)
  exact (wld_set (q := 18) (by decide) (sI_C) (wc_C (by decide) rfl)) ▸ hP1
theorem g_RE_size (hx : p.tables.exec = Jvm.exec) (hb : c.code = cc) (hts : ∀ w ∈ lw_ok, w.before args s = true) (hown : s.vm.findClass own = some m.cls) (hG : Geo D adr cA s) (hP : va_P D cls (wld adr cA μ ν) H) (hlink : (Cond.fieldLink own index "LakeRelief$Relief" "size" "I").before args s = true) (hdg : decode cc pc = .ok (.getfield index, 3)) (kk : W p l e R s m args below meth c H locs cells slots Q (F0 m (pc + 3) ls (.int (μ.1 18 8) :: rest))) : W p l e R s m args below meth c H locs cells slots Q (F0 m pc ls (.ref (adr 18) :: rest)) :=
  va_get (D := D) (ci := 2) (C := R_RE) (T := T_RE) (N := 11) hx hb hts i_RE hown hG.1 hP 18 (wld_e (by decide) (wc_C (by decide) rfl)) rfl 8 (by decide) hlink (fun _ h => h) rfl hdg kk
theorem p_RE_size (hx : p.tables.exec = Jvm.exec) (hb : c.code = cc) (hts : ∀ w ∈ lw_ok, w.before args s = true) (hown : s.vm.findClass own = some m.cls) (hG : Geo D adr cA s) (hP : va_P D cls (wld adr cA μ ν) H) (hS : va_S (AA adr) H0 H locs) (hlink : (Cond.fieldLink own index "LakeRelief$Relief" "size" "I").before args s = true) {x : Int32} (hdg : decode cc pc = .ok (.putfield index, 3)) (kk : ∀ (H1 : Heap) (locs1 : List Loc), va_P D cls (wld adr cA (sI μ 18 8 x) ν) H1 → va_S (AA adr) H0 H1 locs1 → W p l e R s m args below meth c H1 locs1 cells slots Q (F0 m (pc + 3) ls rest)) : W p l e R s m args below meth c H locs cells slots Q (F0 m pc ls (.int x :: .ref (adr 18) :: rest)) := by
  refine va_put (D := D) (ci := 2) (ty := .int) (C := R_RE) (T := T_RE) (N := 11) hx hb hts i_RE t_RE t_RE_ok n_RE hown hG.1 hP (wld_D hG.2.1) hS 18 (wld_e (by decide) (wc_C (by decide) rfl)) rfl 8 (by decide) hlink (fun _ h => h) rfl (by decide +kernel) rfl rfl (Nat.le_of_ble_eq_true rfl) hdg (fun H1 locs1 hP1 _ hS1 => kk H1 locs1 ?_ hS1)
  exact (wld_set (q := 18) (by decide) (sI_C) (wc_C (by decide) rfl)) ▸ hP1
theorem g_RE_landCount (hx : p.tables.exec = Jvm.exec) (hb : c.code = cc) (hts : ∀ w ∈ lw_ok, w.before args s = true) (hown : s.vm.findClass own = some m.cls) (hG : Geo D adr cA s) (hP : va_P D cls (wld adr cA μ ν) H) (hlink : (Cond.fieldLink own index "LakeRelief$Relief" "landCount" "I").before args s = true) (hdg : decode cc pc = .ok (.getfield index, 3)) (kk : W p l e R s m args below meth c H locs cells slots Q (F0 m (pc + 3) ls (.int (μ.1 18 9) :: rest))) : W p l e R s m args below meth c H locs cells slots Q (F0 m pc ls (.ref (adr 18) :: rest)) :=
  va_get (D := D) (ci := 2) (C := R_RE) (T := T_RE) (N := 11) hx hb hts i_RE hown hG.1 hP 18 (wld_e (by decide) (wc_C (by decide) rfl)) rfl 9 (by decide) hlink (fun _ h => h) rfl hdg kk
theorem p_RE_landCount (hx : p.tables.exec = Jvm.exec) (hb : c.code = cc) (hts : ∀ w ∈ lw_ok, w.before args s = true) (hown : s.vm.findClass own = some m.cls) (hG : Geo D adr cA s) (hP : va_P D cls (wld adr cA μ ν) H) (hS : va_S (AA adr) H0 H locs) (hlink : (Cond.fieldLink own index "LakeRelief$Relief" "landCount" "I").before args s = true) {x : Int32} (hdg : decode cc pc = .ok (.putfield index, 3)) (kk : ∀ (H1 : Heap) (locs1 : List Loc), va_P D cls (wld adr cA (sI μ 18 9 x) ν) H1 → va_S (AA adr) H0 H1 locs1 → W p l e R s m args below meth c H1 locs1 cells slots Q (F0 m (pc + 3) ls rest)) : W p l e R s m args below meth c H locs cells slots Q (F0 m pc ls (.int x :: .ref (adr 18) :: rest)) := by
  refine va_put (D := D) (ci := 2) (ty := .int) (C := R_RE) (T := T_RE) (N := 11) hx hb hts i_RE t_RE t_RE_ok n_RE hown hG.1 hP (wld_D hG.2.1) hS 18 (wld_e (by decide) (wc_C (by decide) rfl)) rfl 9 (by decide) hlink (fun _ h => h) rfl (by decide +kernel) rfl rfl (Nat.le_of_ble_eq_true rfl) hdg (fun H1 locs1 hP1 _ hS1 => kk H1 locs1 ?_ hS1)
  exact (wld_set (q := 18) (by decide) (sI_C) (wc_C (by decide) rfl)) ▸ hP1
theorem g_RE_land (hx : p.tables.exec = Jvm.exec) (hb : c.code = cc) (hts : ∀ w ∈ lw_ok, w.before args s = true) (hown : s.vm.findClass own = some m.cls) (hG : Geo D adr cA s) (hP : va_P D cls (wld adr cA μ ν) H) (hlink : (Cond.fieldLink own index "LakeRelief$Relief" "land" "J").before args s = true) (hdg : decode cc pc = .ok (.getfield index, 3)) (kk : W p l e R s m args below meth c H locs cells slots Q (F0 m (pc + 3) ls (.long (μ.2 18 10) :: rest))) : W p l e R s m args below meth c H locs cells slots Q (F0 m pc ls (.ref (adr 18) :: rest)) :=
  va_get (D := D) (ci := 2) (C := R_RE) (T := T_RE) (N := 11) hx hb hts i_RE hown hG.1 hP 18 (wld_e (by decide) (wc_C (by decide) rfl)) rfl 10 (by decide) hlink (fun _ h => h) rfl hdg kk
theorem p_RE_land (hx : p.tables.exec = Jvm.exec) (hb : c.code = cc) (hts : ∀ w ∈ lw_ok, w.before args s = true) (hown : s.vm.findClass own = some m.cls) (hG : Geo D adr cA s) (hP : va_P D cls (wld adr cA μ ν) H) (hS : va_S (AA adr) H0 H locs) (hlink : (Cond.fieldLink own index "LakeRelief$Relief" "land" "J").before args s = true) {x : Int64} (hdg : decode cc pc = .ok (.putfield index, 3)) (kk : ∀ (H1 : Heap) (locs1 : List Loc), va_P D cls (wld adr cA (sJ μ 18 10 x) ν) H1 → va_S (AA adr) H0 H1 locs1 → W p l e R s m args below meth c H1 locs1 cells slots Q (F0 m (pc + 3) ls rest)) : W p l e R s m args below meth c H locs cells slots Q (F0 m pc ls (.long x :: .ref (adr 18) :: rest)) := by
  refine va_put (D := D) (ci := 2) (ty := .long) (C := R_RE) (T := T_RE) (N := 11) hx hb hts i_RE t_RE t_RE_ok n_RE hown hG.1 hP (wld_D hG.2.1) hS 18 (wld_e (by decide) (wc_C (by decide) rfl)) rfl 10 (by decide) hlink (fun _ h => h) rfl (by decide +kernel) rfl rfl (Nat.le_of_ble_eq_true rfl) hdg (fun H1 locs1 hP1 _ hS1 => kk H1 locs1 ?_ hS1)
  exact (wld_set (q := 18) (by decide) (sJ_C) (wc_C (by decide) rfl)) ▸ hP1
theorem g_ST_places (hx : p.tables.exec = Jvm.exec) (hb : c.code = cc) (hts : ∀ w ∈ lw_ok, w.before args s = true) (hown : s.vm.findClass own = some m.cls) (hG : Geo D adr cA s) (hP : va_P D cls (wld adr cA μ ν) H) {o : Nat} (ho : o < 8) (hlink : (Cond.fieldLink own index "LakeRelief$Strip" "places" "[I").before args s = true) (hdg : decode cc pc = .ok (.getfield index, 3)) (kk : W p l e R s m args below meth c H locs cells slots Q (F0 m (pc + 3) ls (.ref (adr (10 + o)) :: rest))) : W p l e R s m args below meth c H locs cells slots Q (F0 m pc ls (.ref (adr (2 + o)) :: rest)) :=
  va_get (D := D) (ci := 3) (C := R_ST) (T := T_ST) (N := 3) hx hb hts i_ST hown hG.1 hP (2 + o) (wld_e (by omega) (wc_C (by omega) (sh_ST ho))) rfl 0 (by decide) hlink (fun _ h => h) rfl hdg kk
theorem g_ST_kind (hx : p.tables.exec = Jvm.exec) (hb : c.code = cc) (hts : ∀ w ∈ lw_ok, w.before args s = true) (hown : s.vm.findClass own = some m.cls) (hG : Geo D adr cA s) (hP : va_P D cls (wld adr cA μ ν) H) {o : Nat} (ho : o < 8) (hlink : (Cond.fieldLink own index "LakeRelief$Strip" "kind" "I").before args s = true) (hdg : decode cc pc = .ok (.getfield index, 3)) (kk : W p l e R s m args below meth c H locs cells slots Q (F0 m (pc + 3) ls (.int (μ.1 (2 + o) 1) :: rest))) : W p l e R s m args below meth c H locs cells slots Q (F0 m pc ls (.ref (adr (2 + o)) :: rest)) :=
  va_get (D := D) (ci := 3) (C := R_ST) (T := T_ST) (N := 3) hx hb hts i_ST hown hG.1 hP (2 + o) (wld_e (by omega) (wc_C (by omega) (sh_ST ho))) rfl 1 (by decide) hlink (fun _ h => h) rfl hdg kk
theorem p_ST_kind (hx : p.tables.exec = Jvm.exec) (hb : c.code = cc) (hts : ∀ w ∈ lw_ok, w.before args s = true) (hown : s.vm.findClass own = some m.cls) (hG : Geo D adr cA s) (hP : va_P D cls (wld adr cA μ ν) H) (hS : va_S (AA adr) H0 H locs) {o : Nat} (ho : o < 8) (hlink : (Cond.fieldLink own index "LakeRelief$Strip" "kind" "I").before args s = true) {x : Int32} (hdg : decode cc pc = .ok (.putfield index, 3)) (kk : ∀ (H1 : Heap) (locs1 : List Loc), va_P D cls (wld adr cA (sI μ (2 + o) 1 x) ν) H1 → va_S (AA adr) H0 H1 locs1 → W p l e R s m args below meth c H1 locs1 cells slots Q (F0 m (pc + 3) ls rest)) : W p l e R s m args below meth c H locs cells slots Q (F0 m pc ls (.int x :: .ref (adr (2 + o)) :: rest)) := by
  refine va_put (D := D) (ci := 3) (ty := .int) (C := R_ST) (T := T_ST) (N := 3) hx hb hts i_ST t_ST t_ST_ok n_ST hown hG.1 hP (wld_D hG.2.1) hS (2 + o) (wld_e (by omega) (wc_C (by omega) (sh_ST ho))) rfl 1 (by decide) hlink (fun _ h => h) rfl (by decide +kernel) rfl rfl (Nat.le_of_ble_eq_true rfl) hdg (fun H1 locs1 hP1 _ hS1 => kk H1 locs1 ?_ hS1)
  refine (wld_set (q := (2 + o)) (by omega) (sI_C) (wc_C (by omega) ?_)) ▸ hP1
  rw [sI_q, sh_ST ho]
  rfl
theorem g_ST_length (hx : p.tables.exec = Jvm.exec) (hb : c.code = cc) (hts : ∀ w ∈ lw_ok, w.before args s = true) (hown : s.vm.findClass own = some m.cls) (hG : Geo D adr cA s) (hP : va_P D cls (wld adr cA μ ν) H) {o : Nat} (ho : o < 8) (hlink : (Cond.fieldLink own index "LakeRelief$Strip" "length" "I").before args s = true) (hdg : decode cc pc = .ok (.getfield index, 3)) (kk : W p l e R s m args below meth c H locs cells slots Q (F0 m (pc + 3) ls (.int (μ.1 (2 + o) 2) :: rest))) : W p l e R s m args below meth c H locs cells slots Q (F0 m pc ls (.ref (adr (2 + o)) :: rest)) :=
  va_get (D := D) (ci := 3) (C := R_ST) (T := T_ST) (N := 3) hx hb hts i_ST hown hG.1 hP (2 + o) (wld_e (by omega) (wc_C (by omega) (sh_ST ho))) rfl 2 (by decide) hlink (fun _ h => h) rfl hdg kk
theorem p_ST_length (hx : p.tables.exec = Jvm.exec) (hb : c.code = cc) (hts : ∀ w ∈ lw_ok, w.before args s = true) (hown : s.vm.findClass own = some m.cls) (hG : Geo D adr cA s) (hP : va_P D cls (wld adr cA μ ν) H) (hS : va_S (AA adr) H0 H locs) {o : Nat} (ho : o < 8) (hlink : (Cond.fieldLink own index "LakeRelief$Strip" "length" "I").before args s = true) {x : Int32} (hdg : decode cc pc = .ok (.putfield index, 3)) (kk : ∀ (H1 : Heap) (locs1 : List Loc), va_P D cls (wld adr cA (sI μ (2 + o) 2 x) ν) H1 → va_S (AA adr) H0 H1 locs1 → W p l e R s m args below meth c H1 locs1 cells slots Q (F0 m (pc + 3) ls rest)) : W p l e R s m args below meth c H locs cells slots Q (F0 m pc ls (.int x :: .ref (adr (2 + o)) :: rest)) := by
  refine va_put (D := D) (ci := 3) (ty := .int) (C := R_ST) (T := T_ST) (N := 3) hx hb hts i_ST t_ST t_ST_ok n_ST hown hG.1 hP (wld_D hG.2.1) hS (2 + o) (wld_e (by omega) (wc_C (by omega) (sh_ST ho))) rfl 2 (by decide) hlink (fun _ h => h) rfl (by decide +kernel) rfl rfl (Nat.le_of_ble_eq_true rfl) hdg (fun H1 locs1 hP1 _ hS1 => kk H1 locs1 ?_ hS1)
  refine (wld_set (q := (2 + o)) (by omega) (sI_C) (wc_C (by omega) ?_)) ▸ hP1
  rw [sI_q, sh_ST ho]
  rfl
theorem g_LR_strips (hx : p.tables.exec = Jvm.exec) (hb : c.code = cc) (hts : ∀ w ∈ lw_ok, w.before args s = true) (hown : s.vm.findClass own = some m.cls) (hG : Geo D adr cA s) (hP : va_P D cls (wld adr cA μ ν) H) (hlink : (Cond.fieldLink own index "LakeRelief" "strips" "[LLakeRelief$Strip;").before args s = true) (hdg : decode cc pc = .ok (.getfield index, 3)) (kk : W p l e R s m args below meth c H locs cells slots Q (F0 m (pc + 3) ls (.ref (adr 1) :: rest))) : W p l e R s m args below meth c H locs cells slots Q (F0 m pc ls (.ref (adr 0) :: rest)) :=
  va_get (D := D) (ci := 4) (C := R_LR) (T := T_LR) (N := 4) hx hb hts i_LR hown hG.1 hP 0 (wld_e (by decide) (wc_C (by decide) rfl)) rfl 0 (by decide) hlink (fun _ h => h) rfl hdg kk
theorem g_LR_relief (hx : p.tables.exec = Jvm.exec) (hb : c.code = cc) (hts : ∀ w ∈ lw_ok, w.before args s = true) (hown : s.vm.findClass own = some m.cls) (hG : Geo D adr cA s) (hP : va_P D cls (wld adr cA μ ν) H) (hlink : (Cond.fieldLink own index "LakeRelief" "relief" "LLakeRelief$Relief;").before args s = true) (hdg : decode cc pc = .ok (.getfield index, 3)) (kk : W p l e R s m args below meth c H locs cells slots Q (F0 m (pc + 3) ls (.ref (adr 18) :: rest))) : W p l e R s m args below meth c H locs cells slots Q (F0 m pc ls (.ref (adr 0) :: rest)) :=
  va_get (D := D) (ci := 4) (C := R_LR) (T := T_LR) (N := 4) hx hb hts i_LR hown hG.1 hP 0 (wld_e (by decide) (wc_C (by decide) rfl)) rfl 1 (by decide) hlink (fun _ h => h) rfl hdg kk
theorem g_LR_lakes (hx : p.tables.exec = Jvm.exec) (hb : c.code = cc) (hts : ∀ w ∈ lw_ok, w.before args s = true) (hown : s.vm.findClass own = some m.cls) (hG : Geo D adr cA s) (hP : va_P D cls (wld adr cA μ ν) H) (hlink : (Cond.fieldLink own index "LakeRelief" "lakes" "LLakeRelief$Lakes;").before args s = true) (hdg : decode cc pc = .ok (.getfield index, 3)) (kk : W p l e R s m args below meth c H locs cells slots Q (F0 m (pc + 3) ls (.ref (adr 26) :: rest))) : W p l e R s m args below meth c H locs cells slots Q (F0 m pc ls (.ref (adr 0) :: rest)) :=
  va_get (D := D) (ci := 4) (C := R_LR) (T := T_LR) (N := 4) hx hb hts i_LR hown hG.1 hP 0 (wld_e (by decide) (wc_C (by decide) rfl)) rfl 2 (by decide) hlink (fun _ h => h) rfl hdg kk
theorem g_LR_isLaid (hx : p.tables.exec = Jvm.exec) (hb : c.code = cc) (hts : ∀ w ∈ lw_ok, w.before args s = true) (hown : s.vm.findClass own = some m.cls) (hG : Geo D adr cA s) (hP : va_P D cls (wld adr cA μ ν) H) (hlink : (Cond.fieldLink own index "LakeRelief" "isLaid" "Z").before args s = true) (hdg : decode cc pc = .ok (.getfield index, 3)) (kk : W p l e R s m args below meth c H locs cells slots Q (F0 m (pc + 3) ls (.int (μ.1 0 3) :: rest))) : W p l e R s m args below meth c H locs cells slots Q (F0 m pc ls (.ref (adr 0) :: rest)) :=
  va_get (D := D) (ci := 4) (C := R_LR) (T := T_LR) (N := 4) hx hb hts i_LR hown hG.1 hP 0 (wld_e (by decide) (wc_C (by decide) rfl)) rfl 3 (by decide) hlink (fun _ h => h) rfl hdg kk
theorem p_LR_isLaid (hx : p.tables.exec = Jvm.exec) (hb : c.code = cc) (hts : ∀ w ∈ lw_ok, w.before args s = true) (hown : s.vm.findClass own = some m.cls) (hG : Geo D adr cA s) (hP : va_P D cls (wld adr cA μ ν) H) (hS : va_S (AA adr) H0 H locs) (hlink : (Cond.fieldLink own index "LakeRelief" "isLaid" "Z").before args s = true) {x : Int32} (hz : x &&& 1 = x) (hdg : decode cc pc = .ok (.putfield index, 3)) (kk : ∀ (H1 : Heap) (locs1 : List Loc), va_P D cls (wld adr cA (sI μ 0 3 x) ν) H1 → va_S (AA adr) H0 H1 locs1 → W p l e R s m args below meth c H1 locs1 cells slots Q (F0 m (pc + 3) ls rest)) : W p l e R s m args below meth c H locs cells slots Q (F0 m pc ls (.int x :: .ref (adr 0) :: rest)) := by
  refine va_put (D := D) (ci := 4) (ty := .boolean) (C := R_LR) (T := T_LR) (N := 4) hx hb hts i_LR t_LR t_LR_ok n_LR hown hG.1 hP (wld_D hG.2.1) hS 0 (wld_e (by decide) (wc_C (by decide) rfl)) rfl 3 (by decide) hlink (fun _ h => h) rfl (by decide +kernel) (by show Value.int (x &&& 1) = _; rw [hz]) (fits_bool hz) (Nat.le_of_ble_eq_true rfl) hdg (fun H1 locs1 hP1 _ hS1 => kk H1 locs1 ?_ hS1)
  exact (wld_set (q := 0) (by decide) (sI_C) (wc_C (by decide) rfl)) ▸ hP1
theorem g_MO_kind (hx : p.tables.exec = Jvm.exec) (hb : c.code = cc) (hts : ∀ w ∈ lw_ok, w.before args s = true) (hown : s.vm.findClass own = some m.cls) (hG : Geo D adr cA s) (hP : va_P D cls (wld adr cA μ ν) H) (hlink : (Cond.fieldLink own index "LakeReliefModel" "kind" "[I").before args s = true) (hdg : decode cc pc = .ok (.getfield index, 3)) (kk : W p l e R s m args below meth c H locs cells slots Q (F0 m (pc + 3) ls (.ref (adr 64) :: rest))) : W p l e R s m args below meth c H locs cells slots Q (F0 m pc ls (.ref (adr 63) :: rest)) :=
  va_get (D := D) (ci := 5) (C := R_MO) (T := T_MO) (N := 29) hx hb hts i_MO hown hG.1 hP 63 (wld_e (by decide) (wc_M (by decide) rfl)) rfl 0 (by decide) hlink (fun _ h => h) rfl hdg kk
theorem g_MO_size (hx : p.tables.exec = Jvm.exec) (hb : c.code = cc) (hts : ∀ w ∈ lw_ok, w.before args s = true) (hown : s.vm.findClass own = some m.cls) (hG : Geo D adr cA s) (hP : va_P D cls (wld adr cA μ ν) H) (hlink : (Cond.fieldLink own index "LakeReliefModel" "size" "[I").before args s = true) (hdg : decode cc pc = .ok (.getfield index, 3)) (kk : W p l e R s m args below meth c H locs cells slots Q (F0 m (pc + 3) ls (.ref (adr 65) :: rest))) : W p l e R s m args below meth c H locs cells slots Q (F0 m pc ls (.ref (adr 63) :: rest)) :=
  va_get (D := D) (ci := 5) (C := R_MO) (T := T_MO) (N := 29) hx hb hts i_MO hown hG.1 hP 63 (wld_e (by decide) (wc_M (by decide) rfl)) rfl 1 (by decide) hlink (fun _ h => h) rfl hdg kk
theorem g_MO_strips (hx : p.tables.exec = Jvm.exec) (hb : c.code = cc) (hts : ∀ w ∈ lw_ok, w.before args s = true) (hown : s.vm.findClass own = some m.cls) (hG : Geo D adr cA s) (hP : va_P D cls (wld adr cA μ ν) H) (hlink : (Cond.fieldLink own index "LakeReliefModel" "strips" "[I").before args s = true) (hdg : decode cc pc = .ok (.getfield index, 3)) (kk : W p l e R s m args below meth c H locs cells slots Q (F0 m (pc + 3) ls (.ref (adr 66) :: rest))) : W p l e R s m args below meth c H locs cells slots Q (F0 m pc ls (.ref (adr 63) :: rest)) :=
  va_get (D := D) (ci := 5) (C := R_MO) (T := T_MO) (N := 29) hx hb hts i_MO hown hG.1 hP 63 (wld_e (by decide) (wc_M (by decide) rfl)) rfl 2 (by decide) hlink (fun _ h => h) rfl hdg kk
theorem g_MO_isLaid (hx : p.tables.exec = Jvm.exec) (hb : c.code = cc) (hts : ∀ w ∈ lw_ok, w.before args s = true) (hown : s.vm.findClass own = some m.cls) (hG : Geo D adr cA s) (hP : va_P D cls (wld adr cA μ ν) H) (hlink : (Cond.fieldLink own index "LakeReliefModel" "isLaid" "Z").before args s = true) (hdg : decode cc pc = .ok (.getfield index, 3)) (kk : W p l e R s m args below meth c H locs cells slots Q (F0 m (pc + 3) ls (.int (ν.1 63 3) :: rest))) : W p l e R s m args below meth c H locs cells slots Q (F0 m pc ls (.ref (adr 63) :: rest)) :=
  va_get (D := D) (ci := 5) (C := R_MO) (T := T_MO) (N := 29) hx hb hts i_MO hown hG.1 hP 63 (wld_e (by decide) (wc_M (by decide) rfl)) rfl 3 (by decide) hlink (fun _ h => h) rfl hdg kk
theorem p_MO_isLaid (hx : p.tables.exec = Jvm.exec) (hb : c.code = cc) (hts : ∀ w ∈ lw_ok, w.before args s = true) (hown : s.vm.findClass own = some m.cls) (hG : Geo D adr cA s) (hP : va_P D cls (wld adr cA μ ν) H) (hS : va_S (AA adr) H0 H locs) (hlink : (Cond.fieldLink own index "LakeReliefModel" "isLaid" "Z").before args s = true) {x : Int32} (hz : x &&& 1 = x) (hdg : decode cc pc = .ok (.putfield index, 3)) (kk : ∀ (H1 : Heap) (locs1 : List Loc), va_P D cls (wld adr cA μ (sI ν 63 3 x)) H1 → va_S (AA adr) H0 H1 locs1 → W p l e R s m args below meth c H1 locs1 cells slots Q (F0 m (pc + 3) ls rest)) : W p l e R s m args below meth c H locs cells slots Q (F0 m pc ls (.int x :: .ref (adr 63) :: rest)) := by
  refine va_put (D := D) (ci := 5) (ty := .boolean) (C := R_MO) (T := T_MO) (N := 29) hx hb hts i_MO t_MO t_MO_ok n_MO hown hG.1 hP (wld_D hG.2.1) hS 63 (wld_e (by decide) (wc_M (by decide) rfl)) rfl 3 (by decide) hlink (fun _ h => h) rfl (by decide +kernel) (by show Value.int (x &&& 1) = _; rw [hz]) (fits_bool hz) (Nat.le_of_ble_eq_true rfl) hdg (fun H1 locs1 hP1 _ hS1 => kk H1 locs1 ?_ hS1)
  exact (wld_set (q := 63) (by decide) (sI_M) (wc_M (by decide) rfl)) ▸ hP1
theorem g_MO_wide (hx : p.tables.exec = Jvm.exec) (hb : c.code = cc) (hts : ∀ w ∈ lw_ok, w.before args s = true) (hown : s.vm.findClass own = some m.cls) (hG : Geo D adr cA s) (hP : va_P D cls (wld adr cA μ ν) H) (hlink : (Cond.fieldLink own index "LakeReliefModel" "wide" "I").before args s = true) (hdg : decode cc pc = .ok (.getfield index, 3)) (kk : W p l e R s m args below meth c H locs cells slots Q (F0 m (pc + 3) ls (.int (ν.1 63 4) :: rest))) : W p l e R s m args below meth c H locs cells slots Q (F0 m pc ls (.ref (adr 63) :: rest)) :=
  va_get (D := D) (ci := 5) (C := R_MO) (T := T_MO) (N := 29) hx hb hts i_MO hown hG.1 hP 63 (wld_e (by decide) (wc_M (by decide) rfl)) rfl 4 (by decide) hlink (fun _ h => h) rfl hdg kk
theorem p_MO_wide (hx : p.tables.exec = Jvm.exec) (hb : c.code = cc) (hts : ∀ w ∈ lw_ok, w.before args s = true) (hown : s.vm.findClass own = some m.cls) (hG : Geo D adr cA s) (hP : va_P D cls (wld adr cA μ ν) H) (hS : va_S (AA adr) H0 H locs) (hlink : (Cond.fieldLink own index "LakeReliefModel" "wide" "I").before args s = true) {x : Int32} (hdg : decode cc pc = .ok (.putfield index, 3)) (kk : ∀ (H1 : Heap) (locs1 : List Loc), va_P D cls (wld adr cA μ (sI ν 63 4 x)) H1 → va_S (AA adr) H0 H1 locs1 → W p l e R s m args below meth c H1 locs1 cells slots Q (F0 m (pc + 3) ls rest)) : W p l e R s m args below meth c H locs cells slots Q (F0 m pc ls (.int x :: .ref (adr 63) :: rest)) := by
  refine va_put (D := D) (ci := 5) (ty := .int) (C := R_MO) (T := T_MO) (N := 29) hx hb hts i_MO t_MO t_MO_ok n_MO hown hG.1 hP (wld_D hG.2.1) hS 63 (wld_e (by decide) (wc_M (by decide) rfl)) rfl 4 (by decide) hlink (fun _ h => h) rfl (by decide +kernel) rfl rfl (Nat.le_of_ble_eq_true rfl) hdg (fun H1 locs1 hP1 _ hS1 => kk H1 locs1 ?_ hS1)
  exact (wld_set (q := 63) (by decide) (sI_M) (wc_M (by decide) rfl)) ▸ hP1
theorem g_MO_fields (hx : p.tables.exec = Jvm.exec) (hb : c.code = cc) (hts : ∀ w ∈ lw_ok, w.before args s = true) (hown : s.vm.findClass own = some m.cls) (hG : Geo D adr cA s) (hP : va_P D cls (wld adr cA μ ν) H) (hlink : (Cond.fieldLink own index "LakeReliefModel" "fields" "I").before args s = true) (hdg : decode cc pc = .ok (.getfield index, 3)) (kk : W p l e R s m args below meth c H locs cells slots Q (F0 m (pc + 3) ls (.int (ν.1 63 5) :: rest))) : W p l e R s m args below meth c H locs cells slots Q (F0 m pc ls (.ref (adr 63) :: rest)) :=
  va_get (D := D) (ci := 5) (C := R_MO) (T := T_MO) (N := 29) hx hb hts i_MO hown hG.1 hP 63 (wld_e (by decide) (wc_M (by decide) rfl)) rfl 5 (by decide) hlink (fun _ h => h) rfl hdg kk
theorem p_MO_fields (hx : p.tables.exec = Jvm.exec) (hb : c.code = cc) (hts : ∀ w ∈ lw_ok, w.before args s = true) (hown : s.vm.findClass own = some m.cls) (hG : Geo D adr cA s) (hP : va_P D cls (wld adr cA μ ν) H) (hS : va_S (AA adr) H0 H locs) (hlink : (Cond.fieldLink own index "LakeReliefModel" "fields" "I").before args s = true) {x : Int32} (hdg : decode cc pc = .ok (.putfield index, 3)) (kk : ∀ (H1 : Heap) (locs1 : List Loc), va_P D cls (wld adr cA μ (sI ν 63 5 x)) H1 → va_S (AA adr) H0 H1 locs1 → W p l e R s m args below meth c H1 locs1 cells slots Q (F0 m (pc + 3) ls rest)) : W p l e R s m args below meth c H locs cells slots Q (F0 m pc ls (.int x :: .ref (adr 63) :: rest)) := by
  refine va_put (D := D) (ci := 5) (ty := .int) (C := R_MO) (T := T_MO) (N := 29) hx hb hts i_MO t_MO t_MO_ok n_MO hown hG.1 hP (wld_D hG.2.1) hS 63 (wld_e (by decide) (wc_M (by decide) rfl)) rfl 5 (by decide) hlink (fun _ h => h) rfl (by decide +kernel) rfl rfl (Nat.le_of_ble_eq_true rfl) hdg (fun H1 locs1 hP1 _ hS1 => kk H1 locs1 ?_ hS1)
  exact (wld_set (q := 63) (by decide) (sI_M) (wc_M (by decide) rfl)) ▸ hP1
theorem g_MO_isSea (hx : p.tables.exec = Jvm.exec) (hb : c.code = cc) (hts : ∀ w ∈ lw_ok, w.before args s = true) (hown : s.vm.findClass own = some m.cls) (hG : Geo D adr cA s) (hP : va_P D cls (wld adr cA μ ν) H) (hlink : (Cond.fieldLink own index "LakeReliefModel" "isSea" "[Z").before args s = true) (hdg : decode cc pc = .ok (.getfield index, 3)) (kk : W p l e R s m args below meth c H locs cells slots Q (F0 m (pc + 3) ls (.ref (adr 67) :: rest))) : W p l e R s m args below meth c H locs cells slots Q (F0 m pc ls (.ref (adr 63) :: rest)) :=
  va_get (D := D) (ci := 5) (C := R_MO) (T := T_MO) (N := 29) hx hb hts i_MO hown hG.1 hP 63 (wld_e (by decide) (wc_M (by decide) rfl)) rfl 6 (by decide) hlink (fun _ h => h) rfl hdg kk
theorem g_MO_height (hx : p.tables.exec = Jvm.exec) (hb : c.code = cc) (hts : ∀ w ∈ lw_ok, w.before args s = true) (hown : s.vm.findClass own = some m.cls) (hG : Geo D adr cA s) (hP : va_P D cls (wld adr cA μ ν) H) (hlink : (Cond.fieldLink own index "LakeReliefModel" "height" "[I").before args s = true) (hdg : decode cc pc = .ok (.getfield index, 3)) (kk : W p l e R s m args below meth c H locs cells slots Q (F0 m (pc + 3) ls (.ref (adr 68) :: rest))) : W p l e R s m args below meth c H locs cells slots Q (F0 m pc ls (.ref (adr 63) :: rest)) :=
  va_get (D := D) (ci := 5) (C := R_MO) (T := T_MO) (N := 29) hx hb hts i_MO hown hG.1 hP 63 (wld_e (by decide) (wc_M (by decide) rfl)) rfl 7 (by decide) hlink (fun _ h => h) rfl hdg kk
theorem g_MO_down (hx : p.tables.exec = Jvm.exec) (hb : c.code = cc) (hts : ∀ w ∈ lw_ok, w.before args s = true) (hown : s.vm.findClass own = some m.cls) (hG : Geo D adr cA s) (hP : va_P D cls (wld adr cA μ ν) H) (hlink : (Cond.fieldLink own index "LakeReliefModel" "down" "[I").before args s = true) (hdg : decode cc pc = .ok (.getfield index, 3)) (kk : W p l e R s m args below meth c H locs cells slots Q (F0 m (pc + 3) ls (.ref (adr 69) :: rest))) : W p l e R s m args below meth c H locs cells slots Q (F0 m pc ls (.ref (adr 63) :: rest)) :=
  va_get (D := D) (ci := 5) (C := R_MO) (T := T_MO) (N := 29) hx hb hts i_MO hown hG.1 hP 63 (wld_e (by decide) (wc_M (by decide) rfl)) rfl 8 (by decide) hlink (fun _ h => h) rfl hdg kk
theorem g_MO_wayEnd (hx : p.tables.exec = Jvm.exec) (hb : c.code = cc) (hts : ∀ w ∈ lw_ok, w.before args s = true) (hown : s.vm.findClass own = some m.cls) (hG : Geo D adr cA s) (hP : va_P D cls (wld adr cA μ ν) H) (hlink : (Cond.fieldLink own index "LakeReliefModel" "wayEnd" "[I").before args s = true) (hdg : decode cc pc = .ok (.getfield index, 3)) (kk : W p l e R s m args below meth c H locs cells slots Q (F0 m (pc + 3) ls (.ref (adr 70) :: rest))) : W p l e R s m args below meth c H locs cells slots Q (F0 m pc ls (.ref (adr 63) :: rest)) :=
  va_get (D := D) (ci := 5) (C := R_MO) (T := T_MO) (N := 29) hx hb hts i_MO hown hG.1 hP 63 (wld_e (by decide) (wc_M (by decide) rfl)) rfl 9 (by decide) hlink (fun _ h => h) rfl hdg kk
theorem g_MO_fill (hx : p.tables.exec = Jvm.exec) (hb : c.code = cc) (hts : ∀ w ∈ lw_ok, w.before args s = true) (hown : s.vm.findClass own = some m.cls) (hG : Geo D adr cA s) (hP : va_P D cls (wld adr cA μ ν) H) (hlink : (Cond.fieldLink own index "LakeReliefModel" "fill" "[I").before args s = true) (hdg : decode cc pc = .ok (.getfield index, 3)) (kk : W p l e R s m args below meth c H locs cells slots Q (F0 m (pc + 3) ls (.ref (adr 71) :: rest))) : W p l e R s m args below meth c H locs cells slots Q (F0 m pc ls (.ref (adr 63) :: rest)) :=
  va_get (D := D) (ci := 5) (C := R_MO) (T := T_MO) (N := 29) hx hb hts i_MO hown hG.1 hP 63 (wld_e (by decide) (wc_M (by decide) rfl)) rfl 10 (by decide) hlink (fun _ h => h) rfl hdg kk
theorem g_MO_lakes (hx : p.tables.exec = Jvm.exec) (hb : c.code = cc) (hts : ∀ w ∈ lw_ok, w.before args s = true) (hown : s.vm.findClass own = some m.cls) (hG : Geo D adr cA s) (hP : va_P D cls (wld adr cA μ ν) H) (hlink : (Cond.fieldLink own index "LakeReliefModel" "lakes" "I").before args s = true) (hdg : decode cc pc = .ok (.getfield index, 3)) (kk : W p l e R s m args below meth c H locs cells slots Q (F0 m (pc + 3) ls (.int (ν.1 63 11) :: rest))) : W p l e R s m args below meth c H locs cells slots Q (F0 m pc ls (.ref (adr 63) :: rest)) :=
  va_get (D := D) (ci := 5) (C := R_MO) (T := T_MO) (N := 29) hx hb hts i_MO hown hG.1 hP 63 (wld_e (by decide) (wc_M (by decide) rfl)) rfl 11 (by decide) hlink (fun _ h => h) rfl hdg kk
theorem p_MO_lakes (hx : p.tables.exec = Jvm.exec) (hb : c.code = cc) (hts : ∀ w ∈ lw_ok, w.before args s = true) (hown : s.vm.findClass own = some m.cls) (hG : Geo D adr cA s) (hP : va_P D cls (wld adr cA μ ν) H) (hS : va_S (AA adr) H0 H locs) (hlink : (Cond.fieldLink own index "LakeReliefModel" "lakes" "I").before args s = true) {x : Int32} (hdg : decode cc pc = .ok (.putfield index, 3)) (kk : ∀ (H1 : Heap) (locs1 : List Loc), va_P D cls (wld adr cA μ (sI ν 63 11 x)) H1 → va_S (AA adr) H0 H1 locs1 → W p l e R s m args below meth c H1 locs1 cells slots Q (F0 m (pc + 3) ls rest)) : W p l e R s m args below meth c H locs cells slots Q (F0 m pc ls (.int x :: .ref (adr 63) :: rest)) := by
  refine va_put (D := D) (ci := 5) (ty := .int) (C := R_MO) (T := T_MO) (N := 29) hx hb hts i_MO t_MO t_MO_ok n_MO hown hG.1 hP (wld_D hG.2.1) hS 63 (wld_e (by decide) (wc_M (by decide) rfl)) rfl 11 (by decide) hlink (fun _ h => h) rfl (by decide +kernel) rfl rfl (Nat.le_of_ble_eq_true rfl) hdg (fun H1 locs1 hP1 _ hS1 => kk H1 locs1 ?_ hS1)
  exact (wld_set (q := 63) (by decide) (sI_M) (wc_M (by decide) rfl)) ▸ hP1
theorem g_MO_isDouble (hx : p.tables.exec = Jvm.exec) (hb : c.code = cc) (hts : ∀ w ∈ lw_ok, w.before args s = true) (hown : s.vm.findClass own = some m.cls) (hG : Geo D adr cA s) (hP : va_P D cls (wld adr cA μ ν) H) (hlink : (Cond.fieldLink own index "LakeReliefModel" "isDouble" "[Z").before args s = true) (hdg : decode cc pc = .ok (.getfield index, 3)) (kk : W p l e R s m args below meth c H locs cells slots Q (F0 m (pc + 3) ls (.ref (adr 72) :: rest))) : W p l e R s m args below meth c H locs cells slots Q (F0 m pc ls (.ref (adr 63) :: rest)) :=
  va_get (D := D) (ci := 5) (C := R_MO) (T := T_MO) (N := 29) hx hb hts i_MO hown hG.1 hP 63 (wld_e (by decide) (wc_M (by decide) rfl)) rfl 12 (by decide) hlink (fun _ h => h) rfl hdg kk
theorem g_MO_ground (hx : p.tables.exec = Jvm.exec) (hb : c.code = cc) (hts : ∀ w ∈ lw_ok, w.before args s = true) (hown : s.vm.findClass own = some m.cls) (hG : Geo D adr cA s) (hP : va_P D cls (wld adr cA μ ν) H) (hlink : (Cond.fieldLink own index "LakeReliefModel" "ground" "[J").before args s = true) (hdg : decode cc pc = .ok (.getfield index, 3)) (kk : W p l e R s m args below meth c H locs cells slots Q (F0 m (pc + 3) ls (.ref (adr 73) :: rest))) : W p l e R s m args below meth c H locs cells slots Q (F0 m pc ls (.ref (adr 63) :: rest)) :=
  va_get (D := D) (ci := 5) (C := R_MO) (T := T_MO) (N := 29) hx hb hts i_MO hown hG.1 hP 63 (wld_e (by decide) (wc_M (by decide) rfl)) rfl 13 (by decide) hlink (fun _ h => h) rfl hdg kk
theorem g_MO_rim (hx : p.tables.exec = Jvm.exec) (hb : c.code = cc) (hts : ∀ w ∈ lw_ok, w.before args s = true) (hown : s.vm.findClass own = some m.cls) (hG : Geo D adr cA s) (hP : va_P D cls (wld adr cA μ ν) H) (hlink : (Cond.fieldLink own index "LakeReliefModel" "rim" "[I").before args s = true) (hdg : decode cc pc = .ok (.getfield index, 3)) (kk : W p l e R s m args below meth c H locs cells slots Q (F0 m (pc + 3) ls (.ref (adr 74) :: rest))) : W p l e R s m args below meth c H locs cells slots Q (F0 m pc ls (.ref (adr 63) :: rest)) :=
  va_get (D := D) (ci := 5) (C := R_MO) (T := T_MO) (N := 29) hx hb hts i_MO hown hG.1 hP 63 (wld_e (by decide) (wc_M (by decide) rfl)) rfl 14 (by decide) hlink (fun _ h => h) rfl hdg kk
theorem g_MO_above (hx : p.tables.exec = Jvm.exec) (hb : c.code = cc) (hts : ∀ w ∈ lw_ok, w.before args s = true) (hown : s.vm.findClass own = some m.cls) (hG : Geo D adr cA s) (hP : va_P D cls (wld adr cA μ ν) H) (hlink : (Cond.fieldLink own index "LakeReliefModel" "above" "[I").before args s = true) (hdg : decode cc pc = .ok (.getfield index, 3)) (kk : W p l e R s m args below meth c H locs cells slots Q (F0 m (pc + 3) ls (.ref (adr 75) :: rest))) : W p l e R s m args below meth c H locs cells slots Q (F0 m pc ls (.ref (adr 63) :: rest)) :=
  va_get (D := D) (ci := 5) (C := R_MO) (T := T_MO) (N := 29) hx hb hts i_MO hown hG.1 hP 63 (wld_e (by decide) (wc_M (by decide) rfl)) rfl 15 (by decide) hlink (fun _ h => h) rfl hdg kk
theorem g_MO_first (hx : p.tables.exec = Jvm.exec) (hb : c.code = cc) (hts : ∀ w ∈ lw_ok, w.before args s = true) (hown : s.vm.findClass own = some m.cls) (hG : Geo D adr cA s) (hP : va_P D cls (wld adr cA μ ν) H) (hlink : (Cond.fieldLink own index "LakeReliefModel" "first" "[I").before args s = true) (hdg : decode cc pc = .ok (.getfield index, 3)) (kk : W p l e R s m args below meth c H locs cells slots Q (F0 m (pc + 3) ls (.ref (adr 76) :: rest))) : W p l e R s m args below meth c H locs cells slots Q (F0 m pc ls (.ref (adr 63) :: rest)) :=
  va_get (D := D) (ci := 5) (C := R_MO) (T := T_MO) (N := 29) hx hb hts i_MO hown hG.1 hP 63 (wld_e (by decide) (wc_M (by decide) rfl)) rfl 16 (by decide) hlink (fun _ h => h) rfl hdg kk
theorem g_MO_second (hx : p.tables.exec = Jvm.exec) (hb : c.code = cc) (hts : ∀ w ∈ lw_ok, w.before args s = true) (hown : s.vm.findClass own = some m.cls) (hG : Geo D adr cA s) (hP : va_P D cls (wld adr cA μ ν) H) (hlink : (Cond.fieldLink own index "LakeReliefModel" "second" "[I").before args s = true) (hdg : decode cc pc = .ok (.getfield index, 3)) (kk : W p l e R s m args below meth c H locs cells slots Q (F0 m (pc + 3) ls (.ref (adr 77) :: rest))) : W p l e R s m args below meth c H locs cells slots Q (F0 m pc ls (.ref (adr 63) :: rest)) :=
  va_get (D := D) (ci := 5) (C := R_MO) (T := T_MO) (N := 29) hx hb hts i_MO hown hG.1 hP 63 (wld_e (by decide) (wc_M (by decide) rfl)) rfl 17 (by decide) hlink (fun _ h => h) rfl hdg kk
theorem g_MO_isThere (hx : p.tables.exec = Jvm.exec) (hb : c.code = cc) (hts : ∀ w ∈ lw_ok, w.before args s = true) (hown : s.vm.findClass own = some m.cls) (hG : Geo D adr cA s) (hP : va_P D cls (wld adr cA μ ν) H) (hlink : (Cond.fieldLink own index "LakeReliefModel" "isThere" "[Z").before args s = true) (hdg : decode cc pc = .ok (.getfield index, 3)) (kk : W p l e R s m args below meth c H locs cells slots Q (F0 m (pc + 3) ls (.ref (adr 78) :: rest))) : W p l e R s m args below meth c H locs cells slots Q (F0 m pc ls (.ref (adr 63) :: rest)) :=
  va_get (D := D) (ci := 5) (C := R_MO) (T := T_MO) (N := 29) hx hb hts i_MO hown hG.1 hP 63 (wld_e (by decide) (wc_M (by decide) rfl)) rfl 18 (by decide) hlink (fun _ h => h) rfl hdg kk
theorem g_MO_water (hx : p.tables.exec = Jvm.exec) (hb : c.code = cc) (hts : ∀ w ∈ lw_ok, w.before args s = true) (hown : s.vm.findClass own = some m.cls) (hG : Geo D adr cA s) (hP : va_P D cls (wld adr cA μ ν) H) (hlink : (Cond.fieldLink own index "LakeReliefModel" "water" "[I").before args s = true) (hdg : decode cc pc = .ok (.getfield index, 3)) (kk : W p l e R s m args below meth c H locs cells slots Q (F0 m (pc + 3) ls (.ref (adr 79) :: rest))) : W p l e R s m args below meth c H locs cells slots Q (F0 m pc ls (.ref (adr 63) :: rest)) :=
  va_get (D := D) (ci := 5) (C := R_MO) (T := T_MO) (N := 29) hx hb hts i_MO hown hG.1 hP 63 (wld_e (by decide) (wc_M (by decide) rfl)) rfl 19 (by decide) hlink (fun _ h => h) rfl hdg kk
theorem g_MO_gone (hx : p.tables.exec = Jvm.exec) (hb : c.code = cc) (hts : ∀ w ∈ lw_ok, w.before args s = true) (hown : s.vm.findClass own = some m.cls) (hG : Geo D adr cA s) (hP : va_P D cls (wld adr cA μ ν) H) (hlink : (Cond.fieldLink own index "LakeReliefModel" "gone" "J").before args s = true) (hdg : decode cc pc = .ok (.getfield index, 3)) (kk : W p l e R s m args below meth c H locs cells slots Q (F0 m (pc + 3) ls (.long (ν.2 63 20) :: rest))) : W p l e R s m args below meth c H locs cells slots Q (F0 m pc ls (.ref (adr 63) :: rest)) :=
  va_get (D := D) (ci := 5) (C := R_MO) (T := T_MO) (N := 29) hx hb hts i_MO hown hG.1 hP 63 (wld_e (by decide) (wc_M (by decide) rfl)) rfl 20 (by decide) hlink (fun _ h => h) rfl hdg kk
theorem p_MO_gone (hx : p.tables.exec = Jvm.exec) (hb : c.code = cc) (hts : ∀ w ∈ lw_ok, w.before args s = true) (hown : s.vm.findClass own = some m.cls) (hG : Geo D adr cA s) (hP : va_P D cls (wld adr cA μ ν) H) (hS : va_S (AA adr) H0 H locs) (hlink : (Cond.fieldLink own index "LakeReliefModel" "gone" "J").before args s = true) {x : Int64} (hdg : decode cc pc = .ok (.putfield index, 3)) (kk : ∀ (H1 : Heap) (locs1 : List Loc), va_P D cls (wld adr cA μ (sJ ν 63 20 x)) H1 → va_S (AA adr) H0 H1 locs1 → W p l e R s m args below meth c H1 locs1 cells slots Q (F0 m (pc + 3) ls rest)) : W p l e R s m args below meth c H locs cells slots Q (F0 m pc ls (.long x :: .ref (adr 63) :: rest)) := by
  refine va_put (D := D) (ci := 5) (ty := .long) (C := R_MO) (T := T_MO) (N := 29) hx hb hts i_MO t_MO t_MO_ok n_MO hown hG.1 hP (wld_D hG.2.1) hS 63 (wld_e (by decide) (wc_M (by decide) rfl)) rfl 20 (by decide) hlink (fun _ h => h) rfl (by decide +kernel) rfl rfl (Nat.le_of_ble_eq_true rfl) hdg (fun H1 locs1 hP1 _ hS1 => kk H1 locs1 ?_ hS1)
  exact (wld_set (q := 63) (by decide) (sJ_M) (wc_M (by decide) rfl)) ▸ hP1
theorem g_MO_poured (hx : p.tables.exec = Jvm.exec) (hb : c.code = cc) (hts : ∀ w ∈ lw_ok, w.before args s = true) (hown : s.vm.findClass own = some m.cls) (hG : Geo D adr cA s) (hP : va_P D cls (wld adr cA μ ν) H) (hlink : (Cond.fieldLink own index "LakeReliefModel" "poured" "J").before args s = true) (hdg : decode cc pc = .ok (.getfield index, 3)) (kk : W p l e R s m args below meth c H locs cells slots Q (F0 m (pc + 3) ls (.long (ν.2 63 21) :: rest))) : W p l e R s m args below meth c H locs cells slots Q (F0 m pc ls (.ref (adr 63) :: rest)) :=
  va_get (D := D) (ci := 5) (C := R_MO) (T := T_MO) (N := 29) hx hb hts i_MO hown hG.1 hP 63 (wld_e (by decide) (wc_M (by decide) rfl)) rfl 21 (by decide) hlink (fun _ h => h) rfl hdg kk
theorem p_MO_poured (hx : p.tables.exec = Jvm.exec) (hb : c.code = cc) (hts : ∀ w ∈ lw_ok, w.before args s = true) (hown : s.vm.findClass own = some m.cls) (hG : Geo D adr cA s) (hP : va_P D cls (wld adr cA μ ν) H) (hS : va_S (AA adr) H0 H locs) (hlink : (Cond.fieldLink own index "LakeReliefModel" "poured" "J").before args s = true) {x : Int64} (hdg : decode cc pc = .ok (.putfield index, 3)) (kk : ∀ (H1 : Heap) (locs1 : List Loc), va_P D cls (wld adr cA μ (sJ ν 63 21 x)) H1 → va_S (AA adr) H0 H1 locs1 → W p l e R s m args below meth c H1 locs1 cells slots Q (F0 m (pc + 3) ls rest)) : W p l e R s m args below meth c H locs cells slots Q (F0 m pc ls (.long x :: .ref (adr 63) :: rest)) := by
  refine va_put (D := D) (ci := 5) (ty := .long) (C := R_MO) (T := T_MO) (N := 29) hx hb hts i_MO t_MO t_MO_ok n_MO hown hG.1 hP (wld_D hG.2.1) hS 63 (wld_e (by decide) (wc_M (by decide) rfl)) rfl 21 (by decide) hlink (fun _ h => h) rfl (by decide +kernel) rfl rfl (Nat.le_of_ble_eq_true rfl) hdg (fun H1 locs1 hP1 _ hS1 => kk H1 locs1 ?_ hS1)
  exact (wld_set (q := 63) (by decide) (sJ_M) (wc_M (by decide) rfl)) ▸ hP1
theorem g_MO_middle (hx : p.tables.exec = Jvm.exec) (hb : c.code = cc) (hts : ∀ w ∈ lw_ok, w.before args s = true) (hown : s.vm.findClass own = some m.cls) (hG : Geo D adr cA s) (hP : va_P D cls (wld adr cA μ ν) H) (hlink : (Cond.fieldLink own index "LakeReliefModel" "middle" "[I").before args s = true) (hdg : decode cc pc = .ok (.getfield index, 3)) (kk : W p l e R s m args below meth c H locs cells slots Q (F0 m (pc + 3) ls (.ref (adr 80) :: rest))) : W p l e R s m args below meth c H locs cells slots Q (F0 m pc ls (.ref (adr 63) :: rest)) :=
  va_get (D := D) (ci := 5) (C := R_MO) (T := T_MO) (N := 29) hx hb hts i_MO hown hG.1 hP 63 (wld_e (by decide) (wc_M (by decide) rfl)) rfl 22 (by decide) hlink (fun _ h => h) rfl hdg kk
theorem g_MO_owner (hx : p.tables.exec = Jvm.exec) (hb : c.code = cc) (hts : ∀ w ∈ lw_ok, w.before args s = true) (hown : s.vm.findClass own = some m.cls) (hG : Geo D adr cA s) (hP : va_P D cls (wld adr cA μ ν) H) (hlink : (Cond.fieldLink own index "LakeReliefModel" "owner" "[I").before args s = true) (hdg : decode cc pc = .ok (.getfield index, 3)) (kk : W p l e R s m args below meth c H locs cells slots Q (F0 m (pc + 3) ls (.ref (adr 81) :: rest))) : W p l e R s m args below meth c H locs cells slots Q (F0 m pc ls (.ref (adr 63) :: rest)) :=
  va_get (D := D) (ci := 5) (C := R_MO) (T := T_MO) (N := 29) hx hb hts i_MO hown hG.1 hP 63 (wld_e (by decide) (wc_M (by decide) rfl)) rfl 23 (by decide) hlink (fun _ h => h) rfl hdg kk
theorem g_MO_isUnder (hx : p.tables.exec = Jvm.exec) (hb : c.code = cc) (hts : ∀ w ∈ lw_ok, w.before args s = true) (hown : s.vm.findClass own = some m.cls) (hG : Geo D adr cA s) (hP : va_P D cls (wld adr cA μ ν) H) (hlink : (Cond.fieldLink own index "LakeReliefModel" "isUnder" "[Z").before args s = true) (hdg : decode cc pc = .ok (.getfield index, 3)) (kk : W p l e R s m args below meth c H locs cells slots Q (F0 m (pc + 3) ls (.ref (adr 82) :: rest))) : W p l e R s m args below meth c H locs cells slots Q (F0 m pc ls (.ref (adr 63) :: rest)) :=
  va_get (D := D) (ci := 5) (C := R_MO) (T := T_MO) (N := 29) hx hb hts i_MO hown hG.1 hP 63 (wld_e (by decide) (wc_M (by decide) rfl)) rfl 24 (by decide) hlink (fun _ h => h) rfl hdg kk
theorem g_MO_near (hx : p.tables.exec = Jvm.exec) (hb : c.code = cc) (hts : ∀ w ∈ lw_ok, w.before args s = true) (hown : s.vm.findClass own = some m.cls) (hG : Geo D adr cA s) (hP : va_P D cls (wld adr cA μ ν) H) (hlink : (Cond.fieldLink own index "LakeReliefModel" "near" "[I").before args s = true) (hdg : decode cc pc = .ok (.getfield index, 3)) (kk : W p l e R s m args below meth c H locs cells slots Q (F0 m (pc + 3) ls (.ref (adr 83) :: rest))) : W p l e R s m args below meth c H locs cells slots Q (F0 m pc ls (.ref (adr 63) :: rest)) :=
  va_get (D := D) (ci := 5) (C := R_MO) (T := T_MO) (N := 29) hx hb hts i_MO hown hG.1 hP 63 (wld_e (by decide) (wc_M (by decide) rfl)) rfl 25 (by decide) hlink (fun _ h => h) rfl hdg kk
theorem g_MO_nearMany (hx : p.tables.exec = Jvm.exec) (hb : c.code = cc) (hts : ∀ w ∈ lw_ok, w.before args s = true) (hown : s.vm.findClass own = some m.cls) (hG : Geo D adr cA s) (hP : va_P D cls (wld adr cA μ ν) H) (hlink : (Cond.fieldLink own index "LakeReliefModel" "nearMany" "I").before args s = true) (hdg : decode cc pc = .ok (.getfield index, 3)) (kk : W p l e R s m args below meth c H locs cells slots Q (F0 m (pc + 3) ls (.int (ν.1 63 26) :: rest))) : W p l e R s m args below meth c H locs cells slots Q (F0 m pc ls (.ref (adr 63) :: rest)) :=
  va_get (D := D) (ci := 5) (C := R_MO) (T := T_MO) (N := 29) hx hb hts i_MO hown hG.1 hP 63 (wld_e (by decide) (wc_M (by decide) rfl)) rfl 26 (by decide) hlink (fun _ h => h) rfl hdg kk
theorem p_MO_nearMany (hx : p.tables.exec = Jvm.exec) (hb : c.code = cc) (hts : ∀ w ∈ lw_ok, w.before args s = true) (hown : s.vm.findClass own = some m.cls) (hG : Geo D adr cA s) (hP : va_P D cls (wld adr cA μ ν) H) (hS : va_S (AA adr) H0 H locs) (hlink : (Cond.fieldLink own index "LakeReliefModel" "nearMany" "I").before args s = true) {x : Int32} (hdg : decode cc pc = .ok (.putfield index, 3)) (kk : ∀ (H1 : Heap) (locs1 : List Loc), va_P D cls (wld adr cA μ (sI ν 63 26 x)) H1 → va_S (AA adr) H0 H1 locs1 → W p l e R s m args below meth c H1 locs1 cells slots Q (F0 m (pc + 3) ls rest)) : W p l e R s m args below meth c H locs cells slots Q (F0 m pc ls (.int x :: .ref (adr 63) :: rest)) := by
  refine va_put (D := D) (ci := 5) (ty := .int) (C := R_MO) (T := T_MO) (N := 29) hx hb hts i_MO t_MO t_MO_ok n_MO hown hG.1 hP (wld_D hG.2.1) hS 63 (wld_e (by decide) (wc_M (by decide) rfl)) rfl 26 (by decide) hlink (fun _ h => h) rfl (by decide +kernel) rfl rfl (Nat.le_of_ble_eq_true rfl) hdg (fun H1 locs1 hP1 _ hS1 => kk H1 locs1 ?_ hS1)
  exact (wld_set (q := 63) (by decide) (sI_M) (wc_M (by decide) rfl)) ▸ hP1
theorem g_MO_heights (hx : p.tables.exec = Jvm.exec) (hb : c.code = cc) (hts : ∀ w ∈ lw_ok, w.before args s = true) (hown : s.vm.findClass own = some m.cls) (hG : Geo D adr cA s) (hP : va_P D cls (wld adr cA μ ν) H) (hlink : (Cond.fieldLink own index "LakeReliefModel" "heights" "[I").before args s = true) (hdg : decode cc pc = .ok (.getfield index, 3)) (kk : W p l e R s m args below meth c H locs cells slots Q (F0 m (pc + 3) ls (.ref (adr 84) :: rest))) : W p l e R s m args below meth c H locs cells slots Q (F0 m pc ls (.ref (adr 63) :: rest)) :=
  va_get (D := D) (ci := 5) (C := R_MO) (T := T_MO) (N := 29) hx hb hts i_MO hown hG.1 hP 63 (wld_e (by decide) (wc_M (by decide) rfl)) rfl 27 (by decide) hlink (fun _ h => h) rfl hdg kk
theorem g_MO_island (hx : p.tables.exec = Jvm.exec) (hb : c.code = cc) (hts : ∀ w ∈ lw_ok, w.before args s = true) (hown : s.vm.findClass own = some m.cls) (hG : Geo D adr cA s) (hP : va_P D cls (wld adr cA μ ν) H) (hlink : (Cond.fieldLink own index "LakeReliefModel" "island" "[I").before args s = true) (hdg : decode cc pc = .ok (.getfield index, 3)) (kk : W p l e R s m args below meth c H locs cells slots Q (F0 m (pc + 3) ls (.ref (adr 85) :: rest))) : W p l e R s m args below meth c H locs cells slots Q (F0 m pc ls (.ref (adr 63) :: rest)) :=
  va_get (D := D) (ci := 5) (C := R_MO) (T := T_MO) (N := 29) hx hb hts i_MO hown hG.1 hP 63 (wld_e (by decide) (wc_M (by decide) rfl)) rfl 28 (by decide) hlink (fun _ h => h) rfl hdg kk
end ROWS
end
