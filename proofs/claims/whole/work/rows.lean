section
-- ===== PART A: goes FIRST, ahead of the names: the tables' words, and 'selects' of the private methods out of them =====
/-- a private method of a class that the tables say can be made, by its rows of tables_1 -/
def lw_okq (q : MethodName × Nat) : Prop := (q.1.cls ≠ "java/lang/invoke/MethodHandle" ∧ q.1.cls ≠ "java/lang/invoke/VarHandle") ∧ Cond.instantiable q.1.cls q.2 ∈ tables_1 ∧ Cond.privateMethod q.1 ∈ tables_1 ∧ Cond.instanceMethod q.1 ∈ tables_1
theorem lw_p0 : lw_okq (⟨"FewThatMatter$Sets", "loadColumns", "(I)V"⟩, 11) := ⟨⟨by decide +kernel, by decide +kernel⟩, List.mem_of_getElem? (i := 64) (by decide +kernel), List.mem_of_getElem? (i := 257) (by decide +kernel), List.mem_of_getElem? (i := 258) (by decide +kernel)⟩
theorem lw_p1 : lw_okq (⟨"FewThatMatter$Sets", "isNought", "(II)Z"⟩, 11) := ⟨⟨by decide +kernel, by decide +kernel⟩, List.mem_of_getElem? (i := 64) (by decide +kernel), List.mem_of_getElem? (i := 261) (by decide +kernel), List.mem_of_getElem? (i := 262) (by decide +kernel)⟩
theorem lw_p2 : lw_okq (⟨"FewThatMatter$Sets", "firstPlace", "(II)I"⟩, 11) := ⟨⟨by decide +kernel, by decide +kernel⟩, List.mem_of_getElem? (i := 64) (by decide +kernel), List.mem_of_getElem? (i := 265) (by decide +kernel), List.mem_of_getElem? (i := 266) (by decide +kernel)⟩
theorem lw_p3 : lw_okq (⟨"FewThatMatter$Sets", "takeOut", "(III)V"⟩, 11) := ⟨⟨by decide +kernel, by decide +kernel⟩, List.mem_of_getElem? (i := 64) (by decide +kernel), List.mem_of_getElem? (i := 269) (by decide +kernel), List.mem_of_getElem? (i := 270) (by decide +kernel)⟩
theorem lw_p4 : lw_okq (⟨"FewThatMatter$Sets", "takeOutOf", "(III)V"⟩, 11) := ⟨⟨by decide +kernel, by decide +kernel⟩, List.mem_of_getElem? (i := 64) (by decide +kernel), List.mem_of_getElem? (i := 273) (by decide +kernel), List.mem_of_getElem? (i := 274) (by decide +kernel)⟩
theorem lw_p5 : lw_okq (⟨"FewThatMatter$Sets", "seekBound", "(II)V"⟩, 11) := ⟨⟨by decide +kernel, by decide +kernel⟩, List.mem_of_getElem? (i := 64) (by decide +kernel), List.mem_of_getElem? (i := 284) (by decide +kernel), List.mem_of_getElem? (i := 285) (by decide +kernel)⟩
theorem lw_p6 : lw_okq (⟨"FewThatMatter$Sets", "seekBoundTo", "(II)V"⟩, 11) := ⟨⟨by decide +kernel, by decide +kernel⟩, List.mem_of_getElem? (i := 64) (by decide +kernel), List.mem_of_getElem? (i := 288) (by decide +kernel), List.mem_of_getElem? (i := 289) (by decide +kernel)⟩
theorem lw_p7 : lw_okq (⟨"FewThatMatter$Table", "likeness", "(II)I"⟩, 5) := ⟨⟨by decide +kernel, by decide +kernel⟩, List.mem_of_getElem? (i := 20) (by decide +kernel), List.mem_of_getElem? (i := 296) (by decide +kernel), List.mem_of_getElem? (i := 297) (by decide +kernel)⟩
theorem lw_p8 : lw_okq (⟨"FewThatMatter$Table", "placesWithFactorOf", "(III)I"⟩, 5) := ⟨⟨by decide +kernel, by decide +kernel⟩, List.mem_of_getElem? (i := 20) (by decide +kernel), List.mem_of_getElem? (i := 300) (by decide +kernel), List.mem_of_getElem? (i := 301) (by decide +kernel)⟩
theorem lw_p9 : lw_okq (⟨"FewThatMatter$Sets", "loadSums", "([II)V"⟩, 11) := ⟨⟨by decide +kernel, by decide +kernel⟩, List.mem_of_getElem? (i := 64) (by decide +kernel), List.mem_of_getElem? (i := 349) (by decide +kernel), List.mem_of_getElem? (i := 350) (by decide +kernel)⟩
theorem lw_p10 : lw_okq (⟨"FewThatMatter$Sets", "seekTelling", "(III)V"⟩, 11) := ⟨⟨by decide +kernel, by decide +kernel⟩, List.mem_of_getElem? (i := 64) (by decide +kernel), List.mem_of_getElem? (i := 353) (by decide +kernel), List.mem_of_getElem? (i := 354) (by decide +kernel)⟩
theorem lw_p11 : lw_okq (⟨"FewThatMatter$Sets", "noteTelling", "(I)V"⟩, 11) := ⟨⟨by decide +kernel, by decide +kernel⟩, List.mem_of_getElem? (i := 64) (by decide +kernel), List.mem_of_getElem? (i := 357) (by decide +kernel), List.mem_of_getElem? (i := 358) (by decide +kernel)⟩
theorem lw_p12 : lw_okq (⟨"FewThatMatter$Sets", "factorAt", "(I)I"⟩, 11) := ⟨⟨by decide +kernel, by decide +kernel⟩, List.mem_of_getElem? (i := 64) (by decide +kernel), List.mem_of_getElem? (i := 362) (by decide +kernel), List.mem_of_getElem? (i := 363) (by decide +kernel)⟩
theorem lw_p13 : lw_okq (⟨"FewThatMatter$Sets", "seekTellingWith", "(III)V"⟩, 11) := ⟨⟨by decide +kernel, by decide +kernel⟩, List.mem_of_getElem? (i := 64) (by decide +kernel), List.mem_of_getElem? (i := 367) (by decide +kernel), List.mem_of_getElem? (i := 368) (by decide +kernel)⟩
theorem lw_p14 : lw_okq (⟨"FewThatMatter$Greedy", "choose", "(II)V"⟩, 5) := ⟨⟨by decide +kernel, by decide +kernel⟩, List.mem_of_getElem? (i := 125) (by decide +kernel), List.mem_of_getElem? (i := 405) (by decide +kernel), List.mem_of_getElem? (i := 406) (by decide +kernel)⟩
theorem lw_p15 : lw_okq (⟨"FewThatMatter$Greedy", "weigh", "(II)V"⟩, 5) := ⟨⟨by decide +kernel, by decide +kernel⟩, List.mem_of_getElem? (i := 125) (by decide +kernel), List.mem_of_getElem? (i := 410) (by decide +kernel), List.mem_of_getElem? (i := 411) (by decide +kernel)⟩
def lw_privs_1 : List (MethodName × Nat) := [(⟨"FewThatMatter$Sets", "loadColumns", "(I)V"⟩, 11), (⟨"FewThatMatter$Sets", "isNought", "(II)Z"⟩, 11), (⟨"FewThatMatter$Sets", "firstPlace", "(II)I"⟩, 11), (⟨"FewThatMatter$Sets", "takeOut", "(III)V"⟩, 11), (⟨"FewThatMatter$Sets", "takeOutOf", "(III)V"⟩, 11), (⟨"FewThatMatter$Sets", "seekBound", "(II)V"⟩, 11), (⟨"FewThatMatter$Sets", "seekBoundTo", "(II)V"⟩, 11), (⟨"FewThatMatter$Table", "likeness", "(II)I"⟩, 5), (⟨"FewThatMatter$Table", "placesWithFactorOf", "(III)I"⟩, 5), (⟨"FewThatMatter$Sets", "loadSums", "([II)V"⟩, 11), (⟨"FewThatMatter$Sets", "seekTelling", "(III)V"⟩, 11), (⟨"FewThatMatter$Sets", "noteTelling", "(I)V"⟩, 11), (⟨"FewThatMatter$Sets", "factorAt", "(I)I"⟩, 11), (⟨"FewThatMatter$Sets", "seekTellingWith", "(III)V"⟩, 11), (⟨"FewThatMatter$Greedy", "choose", "(II)V"⟩, 5), (⟨"FewThatMatter$Greedy", "weigh", "(II)V"⟩, 5)]
theorem lw_r1 : ∀ q ∈ lw_privs_1, lw_okq q := List.forall_mem_cons.mpr ⟨lw_p0, List.forall_mem_cons.mpr ⟨lw_p1, List.forall_mem_cons.mpr ⟨lw_p2, List.forall_mem_cons.mpr ⟨lw_p3, List.forall_mem_cons.mpr ⟨lw_p4, List.forall_mem_cons.mpr ⟨lw_p5, List.forall_mem_cons.mpr ⟨lw_p6, List.forall_mem_cons.mpr ⟨lw_p7, List.forall_mem_cons.mpr ⟨lw_p8, List.forall_mem_cons.mpr ⟨lw_p9, List.forall_mem_cons.mpr ⟨lw_p10, List.forall_mem_cons.mpr ⟨lw_p11, List.forall_mem_cons.mpr ⟨lw_p12, List.forall_mem_cons.mpr ⟨lw_p13, List.forall_mem_cons.mpr ⟨lw_p14, List.forall_mem_cons.mpr ⟨lw_p15, fun _ h => absurd h List.not_mem_nil⟩⟩⟩⟩⟩⟩⟩⟩⟩⟩⟩⟩⟩⟩⟩⟩
theorem lw_p16 : lw_okq (⟨"FewThatMatter$Greedy", "restWithout", "(III)I"⟩, 5) := ⟨⟨by decide +kernel, by decide +kernel⟩, List.mem_of_getElem? (i := 125) (by decide +kernel), List.mem_of_getElem? (i := 414) (by decide +kernel), List.mem_of_getElem? (i := 415) (by decide +kernel)⟩
theorem lw_p17 : lw_okq (⟨"FewThatMatter$Greedy", "takeOff", "()V"⟩, 5) := ⟨⟨by decide +kernel, by decide +kernel⟩, List.mem_of_getElem? (i := 125) (by decide +kernel), List.mem_of_getElem? (i := 419) (by decide +kernel), List.mem_of_getElem? (i := 420) (by decide +kernel)⟩
theorem lw_p18 : lw_okq (⟨"FewThatMatter$Sketch", "join", "([JIJ)V"⟩, 8) := ⟨⟨by decide +kernel, by decide +kernel⟩, List.mem_of_getElem? (i := 147) (by decide +kernel), List.mem_of_getElem? (i := 438) (by decide +kernel), List.mem_of_getElem? (i := 439) (by decide +kernel)⟩
theorem lw_p19 : lw_okq (⟨"FewThatMatter$Sketch", "bucketOf", "(II)I"⟩, 8) := ⟨⟨by decide +kernel, by decide +kernel⟩, List.mem_of_getElem? (i := 147) (by decide +kernel), List.mem_of_getElem? (i := 449) (by decide +kernel), List.mem_of_getElem? (i := 450) (by decide +kernel)⟩
theorem lw_p20 : lw_okq (⟨"FewThatMatter$Sketch", "firstSingle", "()I"⟩, 8) := ⟨⟨by decide +kernel, by decide +kernel⟩, List.mem_of_getElem? (i := 147) (by decide +kernel), List.mem_of_getElem? (i := 467) (by decide +kernel), List.mem_of_getElem? (i := 468) (by decide +kernel)⟩
theorem lw_p21 : lw_okq (⟨"FewThatMatter$Sketch", "isSingle", "(II)Z"⟩, 8) := ⟨⟨by decide +kernel, by decide +kernel⟩, List.mem_of_getElem? (i := 147) (by decide +kernel), List.mem_of_getElem? (i := 471) (by decide +kernel), List.mem_of_getElem? (i := 472) (by decide +kernel)⟩
theorem lw_p22 : lw_okq (⟨"FewThatMatter$Sketch", "nothingLeft", "()Z"⟩, 8) := ⟨⟨by decide +kernel, by decide +kernel⟩, List.mem_of_getElem? (i := 147) (by decide +kernel), List.mem_of_getElem? (i := 476) (by decide +kernel), List.mem_of_getElem? (i := 477) (by decide +kernel)⟩
theorem lw_p23 : lw_okq (⟨"FewThatMatter$Sketch", "tellPlace", "(I)V"⟩, 8) := ⟨⟨by decide +kernel, by decide +kernel⟩, List.mem_of_getElem? (i := 147) (by decide +kernel), List.mem_of_getElem? (i := 480) (by decide +kernel), List.mem_of_getElem? (i := 481) (by decide +kernel)⟩
theorem lw_p24 : lw_okq (⟨"FewThatMatterModel", "isPlace", "(II)Z"⟩, 17) := ⟨⟨by decide +kernel, by decide +kernel⟩, List.mem_of_getElem? (i := 500) (by decide +kernel), List.mem_of_getElem? (i := 576) (by decide +kernel), List.mem_of_getElem? (i := 577) (by decide +kernel)⟩
theorem lw_p25 : lw_okq (⟨"FewThatMatterModel", "by", "(I)I"⟩, 17) := ⟨⟨by decide +kernel, by decide +kernel⟩, List.mem_of_getElem? (i := 500) (by decide +kernel), List.mem_of_getElem? (i := 580) (by decide +kernel), List.mem_of_getElem? (i := 581) (by decide +kernel)⟩
theorem lw_p26 : lw_okq (⟨"FewThatMatterModel", "rankOf", "(I)I"⟩, 17) := ⟨⟨by decide +kernel, by decide +kernel⟩, List.mem_of_getElem? (i := 500) (by decide +kernel), List.mem_of_getElem? (i := 596) (by decide +kernel), List.mem_of_getElem? (i := 597) (by decide +kernel)⟩
theorem lw_p27 : lw_okq (⟨"FewThatMatterModel", "clears", "(III)I"⟩, 17) := ⟨⟨by decide +kernel, by decide +kernel⟩, List.mem_of_getElem? (i := 500) (by decide +kernel), List.mem_of_getElem? (i := 600) (by decide +kernel), List.mem_of_getElem? (i := 601) (by decide +kernel)⟩
theorem lw_p28 : lw_okq (⟨"FewThatMatterModel", "swaps", "(II)V"⟩, 17) := ⟨⟨by decide +kernel, by decide +kernel⟩, List.mem_of_getElem? (i := 500) (by decide +kernel), List.mem_of_getElem? (i := 607) (by decide +kernel), List.mem_of_getElem? (i := 608) (by decide +kernel)⟩
theorem lw_p29 : lw_okq (⟨"FewThatMatterModel", "turned", "(I)I"⟩, 17) := ⟨⟨by decide +kernel, by decide +kernel⟩, List.mem_of_getElem? (i := 500) (by decide +kernel), List.mem_of_getElem? (i := 611) (by decide +kernel), List.mem_of_getElem? (i := 612) (by decide +kernel)⟩
theorem lw_p30 : lw_okq (⟨"FewThatMatterModel", "takes", "(III)V"⟩, 17) := ⟨⟨by decide +kernel, by decide +kernel⟩, List.mem_of_getElem? (i := 500) (by decide +kernel), List.mem_of_getElem? (i := 615) (by decide +kernel), List.mem_of_getElem? (i := 616) (by decide +kernel)⟩
theorem lw_p31 : lw_okq (⟨"FewThatMatterModel", "spark", "()I"⟩, 17) := ⟨⟨by decide +kernel, by decide +kernel⟩, List.mem_of_getElem? (i := 500) (by decide +kernel), List.mem_of_getElem? (i := 619) (by decide +kernel), List.mem_of_getElem? (i := 620) (by decide +kernel)⟩
def lw_privs_2 : List (MethodName × Nat) := [(⟨"FewThatMatter$Greedy", "restWithout", "(III)I"⟩, 5), (⟨"FewThatMatter$Greedy", "takeOff", "()V"⟩, 5), (⟨"FewThatMatter$Sketch", "join", "([JIJ)V"⟩, 8), (⟨"FewThatMatter$Sketch", "bucketOf", "(II)I"⟩, 8), (⟨"FewThatMatter$Sketch", "firstSingle", "()I"⟩, 8), (⟨"FewThatMatter$Sketch", "isSingle", "(II)Z"⟩, 8), (⟨"FewThatMatter$Sketch", "nothingLeft", "()Z"⟩, 8), (⟨"FewThatMatter$Sketch", "tellPlace", "(I)V"⟩, 8), (⟨"FewThatMatterModel", "isPlace", "(II)Z"⟩, 17), (⟨"FewThatMatterModel", "by", "(I)I"⟩, 17), (⟨"FewThatMatterModel", "rankOf", "(I)I"⟩, 17), (⟨"FewThatMatterModel", "clears", "(III)I"⟩, 17), (⟨"FewThatMatterModel", "swaps", "(II)V"⟩, 17), (⟨"FewThatMatterModel", "turned", "(I)I"⟩, 17), (⟨"FewThatMatterModel", "takes", "(III)V"⟩, 17), (⟨"FewThatMatterModel", "spark", "()I"⟩, 17)]
theorem lw_r2 : ∀ q ∈ lw_privs_2, lw_okq q := List.forall_mem_cons.mpr ⟨lw_p16, List.forall_mem_cons.mpr ⟨lw_p17, List.forall_mem_cons.mpr ⟨lw_p18, List.forall_mem_cons.mpr ⟨lw_p19, List.forall_mem_cons.mpr ⟨lw_p20, List.forall_mem_cons.mpr ⟨lw_p21, List.forall_mem_cons.mpr ⟨lw_p22, List.forall_mem_cons.mpr ⟨lw_p23, List.forall_mem_cons.mpr ⟨lw_p24, List.forall_mem_cons.mpr ⟨lw_p25, List.forall_mem_cons.mpr ⟨lw_p26, List.forall_mem_cons.mpr ⟨lw_p27, List.forall_mem_cons.mpr ⟨lw_p28, List.forall_mem_cons.mpr ⟨lw_p29, List.forall_mem_cons.mpr ⟨lw_p30, List.forall_mem_cons.mpr ⟨lw_p31, fun _ h => absurd h List.not_mem_nil⟩⟩⟩⟩⟩⟩⟩⟩⟩⟩⟩⟩⟩⟩⟩⟩
theorem lw_p32 : lw_okq (⟨"FewThatMatterModel", "alike", "()I"⟩, 17) := ⟨⟨by decide +kernel, by decide +kernel⟩, List.mem_of_getElem? (i := 500) (by decide +kernel), List.mem_of_getElem? (i := 623) (by decide +kernel), List.mem_of_getElem? (i := 624) (by decide +kernel)⟩
theorem lw_p33 : lw_okq (⟨"FewThatMatterModel", "weight", "([III)I"⟩, 17) := ⟨⟨by decide +kernel, by decide +kernel⟩, List.mem_of_getElem? (i := 500) (by decide +kernel), List.mem_of_getElem? (i := 635) (by decide +kernel), List.mem_of_getElem? (i := 636) (by decide +kernel)⟩
theorem lw_p34 : lw_okq (⟨"FewThatMatterModel", "solves", "(III)Z"⟩, 17) := ⟨⟨by decide +kernel, by decide +kernel⟩, List.mem_of_getElem? (i := 500) (by decide +kernel), List.mem_of_getElem? (i := 661) (by decide +kernel), List.mem_of_getElem? (i := 662) (by decide +kernel)⟩
theorem lw_p35 : lw_okq (⟨"FewThatMatterModel", "isBest", "()V"⟩, 17) := ⟨⟨by decide +kernel, by decide +kernel⟩, List.mem_of_getElem? (i := 500) (by decide +kernel), List.mem_of_getElem? (i := 665) (by decide +kernel), List.mem_of_getElem? (i := 666) (by decide +kernel)⟩
theorem lw_p36 : lw_okq (⟨"FewThatMatterModel", "keeps", "(I)V"⟩, 17) := ⟨⟨by decide +kernel, by decide +kernel⟩, List.mem_of_getElem? (i := 500) (by decide +kernel), List.mem_of_getElem? (i := 669) (by decide +kernel), List.mem_of_getElem? (i := 670) (by decide +kernel)⟩
theorem lw_p37 : lw_okq (⟨"FewThatMatterModel", "differs", "(I)I"⟩, 17) := ⟨⟨by decide +kernel, by decide +kernel⟩, List.mem_of_getElem? (i := 500) (by decide +kernel), List.mem_of_getElem? (i := 678) (by decide +kernel), List.mem_of_getElem? (i := 679) (by decide +kernel)⟩
theorem lw_p38 : lw_okq (⟨"FewThatMatterModel", "isLess", "()Z"⟩, 17) := ⟨⟨by decide +kernel, by decide +kernel⟩, List.mem_of_getElem? (i := 500) (by decide +kernel), List.mem_of_getElem? (i := 682) (by decide +kernel), List.mem_of_getElem? (i := 683) (by decide +kernel)⟩
theorem lw_p39 : lw_okq (⟨"FewThatMatterModel", "without", "(II)I"⟩, 17) := ⟨⟨by decide +kernel, by decide +kernel⟩, List.mem_of_getElem? (i := 500) (by decide +kernel), List.mem_of_getElem? (i := 691) (by decide +kernel), List.mem_of_getElem? (i := 692) (by decide +kernel)⟩
theorem lw_p40 : lw_okq (⟨"FewThatMatterModel", "adds", "(IIJ)V"⟩, 17) := ⟨⟨by decide +kernel, by decide +kernel⟩, List.mem_of_getElem? (i := 500) (by decide +kernel), List.mem_of_getElem? (i := 708) (by decide +kernel), List.mem_of_getElem? (i := 709) (by decide +kernel)⟩
theorem lw_p41 : lw_okq (⟨"FewThatMatterModel", "bucketOf", "(II)I"⟩, 17) := ⟨⟨by decide +kernel, by decide +kernel⟩, List.mem_of_getElem? (i := 500) (by decide +kernel), List.mem_of_getElem? (i := 712) (by decide +kernel), List.mem_of_getElem? (i := 713) (by decide +kernel)⟩
theorem lw_p42 : lw_okq (⟨"FewThatMatterModel", "single", "(II)I"⟩, 17) := ⟨⟨by decide +kernel, by decide +kernel⟩, List.mem_of_getElem? (i := 500) (by decide +kernel), List.mem_of_getElem? (i := 724) (by decide +kernel), List.mem_of_getElem? (i := 725) (by decide +kernel)⟩
def lw_privs_3 : List (MethodName × Nat) := [(⟨"FewThatMatterModel", "alike", "()I"⟩, 17), (⟨"FewThatMatterModel", "weight", "([III)I"⟩, 17), (⟨"FewThatMatterModel", "solves", "(III)Z"⟩, 17), (⟨"FewThatMatterModel", "isBest", "()V"⟩, 17), (⟨"FewThatMatterModel", "keeps", "(I)V"⟩, 17), (⟨"FewThatMatterModel", "differs", "(I)I"⟩, 17), (⟨"FewThatMatterModel", "isLess", "()Z"⟩, 17), (⟨"FewThatMatterModel", "without", "(II)I"⟩, 17), (⟨"FewThatMatterModel", "adds", "(IIJ)V"⟩, 17), (⟨"FewThatMatterModel", "bucketOf", "(II)I"⟩, 17), (⟨"FewThatMatterModel", "single", "(II)I"⟩, 17)]
theorem lw_r3 : ∀ q ∈ lw_privs_3, lw_okq q := List.forall_mem_cons.mpr ⟨lw_p32, List.forall_mem_cons.mpr ⟨lw_p33, List.forall_mem_cons.mpr ⟨lw_p34, List.forall_mem_cons.mpr ⟨lw_p35, List.forall_mem_cons.mpr ⟨lw_p36, List.forall_mem_cons.mpr ⟨lw_p37, List.forall_mem_cons.mpr ⟨lw_p38, List.forall_mem_cons.mpr ⟨lw_p39, List.forall_mem_cons.mpr ⟨lw_p40, List.forall_mem_cons.mpr ⟨lw_p41, List.forall_mem_cons.mpr ⟨lw_p42, fun _ h => absurd h List.not_mem_nil⟩⟩⟩⟩⟩⟩⟩⟩⟩⟩⟩
def lw_privs : List (MethodName × Nat) := lw_privs_1 ++ (lw_privs_2 ++ (lw_privs_3))
def lw_tbl : List Cond := k2_sels lw_privs ++ tables_1
theorem lw_privs_ok : ∀ q ∈ lw_privs, lw_okq q := by
  show ∀ q ∈ lw_privs_1 ++ (lw_privs_2 ++ (lw_privs_3)), lw_okq q
  exact List.forall_mem_append.mpr ⟨lw_r1, List.forall_mem_append.mpr ⟨lw_r2, lw_r3⟩⟩
-- ===== end of PART A; then your names; then what follows =====
end
section
def RX0 : String := "FewThatMatter$Greedy"
def TX0 : u_T := fun k => match k with
  | 0 => ("FewThatMatter$Greedy", "table", "LFewThatMatter$Table;", true)
  | 1 => ("FewThatMatter$Greedy", "rest", "[I", true)
  | 2 => ("FewThatMatter$Greedy", "bestColumn", "I", false)
  | 3 => ("FewThatMatter$Greedy", "bestFactor", "I", false)
  | _ => ("FewThatMatter$Greedy", "bestWeight", "I", false)
def tyX0 : Nat → FieldType := fun k => match k with
  | 0 => .object "FewThatMatter$Table"
  | 1 => .array .int
  | 2 => .int
  | 3 => .int
  | _ => .int
theorem nmX0 : ∀ a, a < 5 → ∀ b, b < 5 → a ≠ b → (TX0 a).2.1 ≠ (TX0 b).2.1 := by decide +kernel
theorem tyX0_ok : ∀ k, k < 5 → parseFieldDescriptor (TX0 k).2.2.1 = some (tyX0 k) := by decide +kernel
abbrev cX0_init : ByteArray := prog_2_method_1_code
def yX0_init : MethodName := ⟨RX0, "<init>", "(LFewThatMatter$Table;)V"⟩
abbrev cX0_walk : ByteArray := prog_2_method_2_code
def yX0_walk : MethodName := ⟨RX0, "walk", "([II[I)I"⟩
abbrev cX0_choose : ByteArray := prog_2_method_3_code
def yX0_choose : MethodName := ⟨RX0, "choose", "(II)V"⟩
abbrev cX0_weigh : ByteArray := prog_2_method_4_code
def yX0_weigh : MethodName := ⟨RX0, "weigh", "(II)V"⟩
abbrev cX0_restWithout : ByteArray := prog_2_method_5_code
def yX0_restWithout : MethodName := ⟨RX0, "restWithout", "(III)I"⟩
abbrev cX0_takeOff : ByteArray := prog_2_method_6_code
def yX0_takeOff : MethodName := ⟨RX0, "takeOff", "()V"⟩
def RX1 : String := "FewThatMatter$Misses"
def TX1 : u_T := fun k => match k with
  | 0 => ("FewThatMatter$Misses", "table", "LFewThatMatter$Table;", true)
  | 1 => ("FewThatMatter$Misses", "sets", "LFewThatMatter$Sets;", true)
  | _ => ("FewThatMatter$Misses", "answer", "[I", true)
def tyX1 : Nat → FieldType := fun k => match k with
  | 0 => .object "FewThatMatter$Table"
  | 1 => .object "FewThatMatter$Sets"
  | _ => .array .int
theorem nmX1 : ∀ a, a < 3 → ∀ b, b < 3 → a ≠ b → (TX1 a).2.1 ≠ (TX1 b).2.1 := by decide +kernel
theorem tyX1_ok : ∀ k, k < 3 → parseFieldDescriptor (TX1 k).2.2.1 = some (tyX1 k) := by decide +kernel
abbrev cX1_init : ByteArray := prog_3_method_1_code
def yX1_init : MethodName := ⟨RX1, "<init>", "(LFewThatMatter$Table;LFewThatMatter$Sets;)V"⟩
abbrev cX1_look : ByteArray := prog_3_method_2_code
def yX1_look : MethodName := ⟨RX1, "look", "([III)Z"⟩
abbrev cX1_isLess : ByteArray := prog_3_method_3_code
def yX1_isLess : MethodName := ⟨RX1, "isLess", "([I[I)Z"⟩
def RX2 : String := "FewThatMatter$Sets"
def TX2 : u_T := fun k => match k with
  | 0 => ("FewThatMatter$Sets", "table", "LFewThatMatter$Table;", true)
  | 1 => ("FewThatMatter$Sets", "left", "[[I", true)
  | 2 => ("FewThatMatter$Sets", "taken", "[I", true)
  | 3 => ("FewThatMatter$Sets", "pivots", "[I", true)
  | 4 => ("FewThatMatter$Sets", "answer", "[I", true)
  | 5 => ("FewThatMatter$Sets", "height", "I", false)
  | 6 => ("FewThatMatter$Sets", "size", "I", false)
  | 7 => ("FewThatMatter$Sets", "enough", "I", false)
  | 8 => ("FewThatMatter$Sets", "ways", "I", false)
  | 9 => ("FewThatMatter$Sets", "firstSet", "I", false)
  | _ => ("FewThatMatter$Sets", "leastBound", "I", false)
def tyX2 : Nat → FieldType := fun k => match k with
  | 0 => .object "FewThatMatter$Table"
  | 1 => .array (.array .int)
  | 2 => .array .int
  | 3 => .array .int
  | 4 => .array .int
  | 5 => .int
  | 6 => .int
  | 7 => .int
  | 8 => .int
  | 9 => .int
  | _ => .int
theorem nmX2 : ∀ a, a < 11 → ∀ b, b < 11 → a ≠ b → (TX2 a).2.1 ≠ (TX2 b).2.1 := by decide +kernel
theorem tyX2_ok : ∀ k, k < 11 → parseFieldDescriptor (TX2 k).2.2.1 = some (tyX2 k) := by decide +kernel
abbrev cX2_init : ByteArray := prog_4_method_1_code
def yX2_init : MethodName := ⟨RX2, "<init>", "(LFewThatMatter$Table;)V"⟩
abbrev cX2_rank : ByteArray := prog_4_method_2_code
def yX2_rank : MethodName := ⟨RX2, "rank", "()I"⟩
abbrev cX2_spark : ByteArray := prog_4_method_3_code
def yX2_spark : MethodName := ⟨RX2, "spark", "()I"⟩
abbrev cX2_seekBound : ByteArray := prog_4_method_4_code
def yX2_seekBound : MethodName := ⟨RX2, "seekBound", "(II)V"⟩
abbrev cX2_seekBoundTo : ByteArray := prog_4_method_5_code
def yX2_seekBoundTo : MethodName := ⟨RX2, "seekBoundTo", "(II)V"⟩
abbrev cX2_waysToTell : ByteArray := prog_4_method_6_code
def yX2_waysToTell : MethodName := ⟨RX2, "waysToTell", "([IIII)I"⟩
abbrev cX2_seekTelling : ByteArray := prog_4_method_7_code
def yX2_seekTelling : MethodName := ⟨RX2, "seekTelling", "(III)V"⟩
abbrev cX2_seekTellingWith : ByteArray := prog_4_method_8_code
def yX2_seekTellingWith : MethodName := ⟨RX2, "seekTellingWith", "(III)V"⟩
abbrev cX2_noteTelling : ByteArray := prog_4_method_9_code
def yX2_noteTelling : MethodName := ⟨RX2, "noteTelling", "(I)V"⟩
abbrev cX2_factorAt : ByteArray := prog_4_method_10_code
def yX2_factorAt : MethodName := ⟨RX2, "factorAt", "(I)I"⟩
abbrev cX2_loadColumns : ByteArray := prog_4_method_11_code
def yX2_loadColumns : MethodName := ⟨RX2, "loadColumns", "(I)V"⟩
abbrev cX2_loadSums : ByteArray := prog_4_method_12_code
def yX2_loadSums : MethodName := ⟨RX2, "loadSums", "([II)V"⟩
abbrev cX2_isNought : ByteArray := prog_4_method_13_code
def yX2_isNought : MethodName := ⟨RX2, "isNought", "(II)Z"⟩
abbrev cX2_firstPlace : ByteArray := prog_4_method_14_code
def yX2_firstPlace : MethodName := ⟨RX2, "firstPlace", "(II)I"⟩
abbrev cX2_takeOut : ByteArray := prog_4_method_15_code
def yX2_takeOut : MethodName := ⟨RX2, "takeOut", "(III)V"⟩
abbrev cX2_takeOutOf : ByteArray := prog_4_method_16_code
def yX2_takeOutOf : MethodName := ⟨RX2, "takeOutOf", "(III)V"⟩
def RX3 : String := "FewThatMatter$Sketch"
def TX3 : u_T := fun k => match k with
  | 0 => ("FewThatMatter$Sketch", "lines", "I", false)
  | 1 => ("FewThatMatter$Sketch", "buckets", "I", false)
  | 2 => ("FewThatMatter$Sketch", "puts", "I", false)
  | 3 => ("FewThatMatter$Sketch", "told", "I", false)
  | 4 => ("FewThatMatter$Sketch", "kept", "[J", true)
  | 5 => ("FewThatMatter$Sketch", "rest", "[J", true)
  | 6 => ("FewThatMatter$Sketch", "toldPlaces", "[I", true)
  | _ => ("FewThatMatter$Sketch", "toldNumbers", "[I", true)
def tyX3 : Nat → FieldType := fun k => match k with
  | 0 => .int
  | 1 => .int
  | 2 => .int
  | 3 => .int
  | 4 => .array .long
  | 5 => .array .long
  | 6 => .array .int
  | _ => .array .int
theorem nmX3 : ∀ a, a < 8 → ∀ b, b < 8 → a ≠ b → (TX3 a).2.1 ≠ (TX3 b).2.1 := by decide +kernel
theorem tyX3_ok : ∀ k, k < 8 → parseFieldDescriptor (TX3 k).2.2.1 = some (tyX3 k) := by decide +kernel
abbrev cX3_init : ByteArray := prog_5_method_1_code
def yX3_init : MethodName := ⟨RX3, "<init>", "()V"⟩
abbrev cX3_shape : ByteArray := prog_5_method_2_code
def yX3_shape : MethodName := ⟨RX3, "shape", "(II)V"⟩
abbrev cX3_start : ByteArray := prog_5_method_3_code
def yX3_start : MethodName := ⟨RX3, "start", "(II)I"⟩
abbrev cX3_putNumber : ByteArray := prog_5_method_4_code
def yX3_putNumber : MethodName := ⟨RX3, "putNumber", "(II)V"⟩
abbrev cX3_tellAll : ByteArray := prog_5_method_5_code
def yX3_tellAll : MethodName := ⟨RX3, "tellAll", "()Z"⟩
abbrev cX3_tellPlace : ByteArray := prog_5_method_6_code
def yX3_tellPlace : MethodName := ⟨RX3, "tellPlace", "(I)V"⟩
abbrev cX3_firstSingle : ByteArray := prog_5_method_7_code
def yX3_firstSingle : MethodName := ⟨RX3, "firstSingle", "()I"⟩
abbrev cX3_isSingle : ByteArray := prog_5_method_8_code
def yX3_isSingle : MethodName := ⟨RX3, "isSingle", "(II)Z"⟩
abbrev cX3_bucketOf : ByteArray := prog_5_method_9_code
def yX3_bucketOf : MethodName := ⟨RX3, "bucketOf", "(II)I"⟩
abbrev cX3_squareSum : ByteArray := prog_5_method_10_code
def yX3_squareSum : MethodName := ⟨RX3, "squareSum", "(JJ)J"⟩
abbrev cX3_join : ByteArray := prog_5_method_11_code
def yX3_join : MethodName := ⟨RX3, "join", "([JIJ)V"⟩
abbrev cX3_nothingLeft : ByteArray := prog_5_method_12_code
def yX3_nothingLeft : MethodName := ⟨RX3, "nothingLeft", "()Z"⟩
def RX4 : String := "FewThatMatter$Table"
def TX4 : u_T := fun k => match k with
  | 0 => ("FewThatMatter$Table", "prime", "I", false)
  | 1 => ("FewThatMatter$Table", "height", "I", false)
  | 2 => ("FewThatMatter$Table", "width", "I", false)
  | 3 => ("FewThatMatter$Table", "cells", "[[I", true)
  | _ => ("FewThatMatter$Table", "inverses", "[I", true)
def tyX4 : Nat → FieldType := fun k => match k with
  | 0 => .int
  | 1 => .int
  | 2 => .int
  | 3 => .array (.array .int)
  | _ => .array .int
theorem nmX4 : ∀ a, a < 5 → ∀ b, b < 5 → a ≠ b → (TX4 a).2.1 ≠ (TX4 b).2.1 := by decide +kernel
theorem tyX4_ok : ∀ k, k < 5 → parseFieldDescriptor (TX4 k).2.2.1 = some (tyX4 k) := by decide +kernel
abbrev cX4_init : ByteArray := prog_6_method_1_code
def yX4_init : MethodName := ⟨RX4, "<init>", "()V"⟩
abbrev cX4_shape : ByteArray := prog_6_method_2_code
def yX4_shape : MethodName := ⟨RX4, "shape", "(III)V"⟩
abbrev cX4_has : ByteArray := prog_6_method_3_code
def yX4_has : MethodName := ⟨RX4, "has", "(II)Z"⟩
abbrev cX4_remainder : ByteArray := prog_6_method_4_code
def yX4_remainder : MethodName := ⟨RX4, "remainder", "(I)I"⟩
abbrev cX4_quotient : ByteArray := prog_6_method_5_code
def yX4_quotient : MethodName := ⟨RX4, "quotient", "(II)I"⟩
abbrev cX4_fillWithPowers : ByteArray := prog_6_method_6_code
def yX4_fillWithPowers : MethodName := ⟨RX4, "fillWithPowers", "(I)V"⟩
abbrev cX4_sumsOf : ByteArray := prog_6_method_7_code
def yX4_sumsOf : MethodName := ⟨RX4, "sumsOf", "([I[I)V"⟩
abbrev cX4_mostLike : ByteArray := prog_6_method_8_code
def yX4_mostLike : MethodName := ⟨RX4, "mostLike", "()I"⟩
abbrev cX4_likeness : ByteArray := prog_6_method_9_code
def yX4_likeness : MethodName := ⟨RX4, "likeness", "(II)I"⟩
abbrev cX4_placesWithFactorOf : ByteArray := prog_6_method_10_code
def yX4_placesWithFactorOf : MethodName := ⟨RX4, "placesWithFactorOf", "(III)I"⟩
def RX5 : String := "FewThatMatter"
def TX5 : u_T := fun k => match k with
  | 0 => ("FewThatMatter", "table", "LFewThatMatter$Table;", true)
  | 1 => ("FewThatMatter", "sets", "LFewThatMatter$Sets;", true)
  | 2 => ("FewThatMatter", "misses", "LFewThatMatter$Misses;", true)
  | 3 => ("FewThatMatter", "steps", "LFewThatMatter$Greedy;", true)
  | 4 => ("FewThatMatter", "sketched", "LFewThatMatter$Sketch;", true)
  | 5 => ("FewThatMatter", "keptRows", "[[I", true)
  | _ => ("FewThatMatter", "keptSums", "[[I", true)
def tyX5 : Nat → FieldType := fun k => match k with
  | 0 => .object "FewThatMatter$Table"
  | 1 => .object "FewThatMatter$Sets"
  | 2 => .object "FewThatMatter$Misses"
  | 3 => .object "FewThatMatter$Greedy"
  | 4 => .object "FewThatMatter$Sketch"
  | 5 => .array (.array .int)
  | _ => .array (.array .int)
theorem nmX5 : ∀ a, a < 7 → ∀ b, b < 7 → a ≠ b → (TX5 a).2.1 ≠ (TX5 b).2.1 := by decide +kernel
theorem tyX5_ok : ∀ k, k < 7 → parseFieldDescriptor (TX5 k).2.2.1 = some (tyX5 k) := by decide +kernel
abbrev cX5_init : ByteArray := prog_1_method_1_code
def yX5_init : MethodName := ⟨RX5, "<init>", "()V"⟩
abbrev cX5_begin : ByteArray := prog_1_method_2_code
def yX5_begin : MethodName := ⟨RX5, "begin", "(III)I"⟩
abbrev cX5_set : ByteArray := prog_1_method_3_code
def yX5_set : MethodName := ⟨RX5, "set", "(III)I"⟩
abbrev cX5_powers : ByteArray := prog_1_method_4_code
def yX5_powers : MethodName := ⟨RX5, "powers", "(I)I"⟩
abbrev cX5_at : ByteArray := prog_1_method_5_code
def yX5_at : MethodName := ⟨RX5, "at", "(II)I"⟩
abbrev cX5_judge : ByteArray := prog_1_method_6_code
def yX5_judge : MethodName := ⟨RX5, "judge", "(I)I"⟩
abbrev cX5_put : ByteArray := prog_1_method_7_code
def yX5_put : MethodName := ⟨RX5, "put", "(III)I"⟩
abbrev cX5_row : ByteArray := prog_1_method_8_code
def yX5_row : MethodName := ⟨RX5, "row", "(II)I"⟩
abbrev cX5_sum : ByteArray := prog_1_method_9_code
def yX5_sum : MethodName := ⟨RX5, "sum", "(III)I"⟩
abbrev cX5_told : ByteArray := prog_1_method_10_code
def yX5_told : MethodName := ⟨RX5, "told", "(II)I"⟩
abbrev cX5_tell : ByteArray := prog_1_method_11_code
def yX5_tell : MethodName := ⟨RX5, "tell", "(II)I"⟩
abbrev cX5_find : ByteArray := prog_1_method_12_code
def yX5_find : MethodName := ⟨RX5, "find", "(III)I"⟩
abbrev cX5_miss : ByteArray := prog_1_method_13_code
def yX5_miss : MethodName := ⟨RX5, "miss", "(IIII)I"⟩
abbrev cX5_greedy : ByteArray := prog_1_method_14_code
def yX5_greedy : MethodName := ⟨RX5, "greedy", "(III)I"⟩
abbrev cX5_sketch : ByteArray := prog_1_method_15_code
def yX5_sketch : MethodName := ⟨RX5, "sketch", "(II)I"⟩
abbrev cX5_add : ByteArray := prog_1_method_16_code
def yX5_add : MethodName := ⟨RX5, "add", "(II)I"⟩
abbrev cX5_decode : ByteArray := prog_1_method_17_code
def yX5_decode : MethodName := ⟨RX5, "decode", "()I"⟩
abbrev cX5_decoded : ByteArray := prog_1_method_18_code
def yX5_decoded : MethodName := ⟨RX5, "decoded", "(II)I"⟩
abbrev cX5_bucket : ByteArray := prog_1_method_19_code
def yX5_bucket : MethodName := ⟨RX5, "bucket", "(III)J"⟩
abbrev cX5_count : ByteArray := prog_1_method_20_code
def yX5_count : MethodName := ⟨RX5, "count", "(I)I"⟩
abbrev cX5_isKept : ByteArray := prog_1_method_21_code
def yX5_isKept : MethodName := ⟨RX5, "isKept", "(I)Z"⟩
abbrev cX5_isPrime : ByteArray := prog_1_method_22_code
def yX5_isPrime : MethodName := ⟨RX5, "isPrime", "(I)Z"⟩
abbrev cX5_weight : ByteArray := prog_1_method_23_code
def yX5_weight : MethodName := ⟨RX5, "weight", "([I)I"⟩
abbrev cX5_clear : ByteArray := prog_1_method_24_code
def yX5_clear : MethodName := ⟨RX5, "clear", "([I)V"⟩
abbrev cX5_copy : ByteArray := prog_1_method_25_code
def yX5_copy : MethodName := ⟨RX5, "copy", "([I[I)V"⟩
def RX6 : String := "FewThatMatterModel"
def TX6 : u_T := fun k => match k with
  | 0 => ("FewThatMatterModel", "p", "I", false)
  | 1 => ("FewThatMatterModel", "m", "I", false)
  | 2 => ("FewThatMatterModel", "n", "I", false)
  | 3 => ("FewThatMatterModel", "table", "[I", true)
  | 4 => ("FewThatMatterModel", "rows", "[I", true)
  | 5 => ("FewThatMatterModel", "sums", "[I", true)
  | 6 => ("FewThatMatterModel", "lines", "I", false)
  | 7 => ("FewThatMatterModel", "buckets", "I", false)
  | 8 => ("FewThatMatterModel", "puts", "I", false)
  | 9 => ("FewThatMatterModel", "kept", "[J", true)
  | 10 => ("FewThatMatterModel", "toldMany", "I", false)
  | 11 => ("FewThatMatterModel", "toldPlace", "[I", true)
  | 12 => ("FewThatMatterModel", "toldNumber", "[I", true)
  | 13 => ("FewThatMatterModel", "work", "[I", true)
  | 14 => ("FewThatMatterModel", "solved", "[I", true)
  | 15 => ("FewThatMatterModel", "best", "[I", true)
  | _ => ("FewThatMatterModel", "rest", "[I", true)
def tyX6 : Nat → FieldType := fun k => match k with
  | 0 => .int
  | 1 => .int
  | 2 => .int
  | 3 => .array .int
  | 4 => .array .int
  | 5 => .array .int
  | 6 => .int
  | 7 => .int
  | 8 => .int
  | 9 => .array .long
  | 10 => .int
  | 11 => .array .int
  | 12 => .array .int
  | 13 => .array .int
  | 14 => .array .int
  | 15 => .array .int
  | _ => .array .int
theorem nmX6 : ∀ a, a < 17 → ∀ b, b < 17 → a ≠ b → (TX6 a).2.1 ≠ (TX6 b).2.1 := by decide +kernel
theorem tyX6_ok : ∀ k, k < 17 → parseFieldDescriptor (TX6 k).2.2.1 = some (tyX6 k) := by decide +kernel
abbrev cX6_init : ByteArray := prog_8_method_1_code
def yX6_init : MethodName := ⟨RX6, "<init>", "()V"⟩
abbrev cX6_in : ByteArray := prog_8_method_2_code
def yX6_in : MethodName := ⟨RX6, "in", "(JJJ)Z"⟩
abbrev cX6_isPrime : ByteArray := prog_8_method_3_code
def yX6_isPrime : MethodName := ⟨RX6, "isPrime", "(I)Z"⟩
abbrev cX6_by : ByteArray := prog_8_method_4_code
def yX6_by : MethodName := ⟨RX6, "by", "(I)I"⟩
abbrev cX6_begin : ByteArray := prog_8_method_5_code
def yX6_begin : MethodName := ⟨RX6, "begin", "(III)I"⟩
abbrev cX6_isPlace : ByteArray := prog_8_method_6_code
def yX6_isPlace : MethodName := ⟨RX6, "isPlace", "(II)Z"⟩
abbrev cX6_set : ByteArray := prog_8_method_7_code
def yX6_set : MethodName := ⟨RX6, "set", "(III)I"⟩
abbrev cX6_powers : ByteArray := prog_8_method_8_code
def yX6_powers : MethodName := ⟨RX6, "powers", "(I)I"⟩
abbrev cX6_at : ByteArray := prog_8_method_9_code
def yX6_at : MethodName := ⟨RX6, "at", "(II)I"⟩
abbrev cX6_turned : ByteArray := prog_8_method_10_code
def yX6_turned : MethodName := ⟨RX6, "turned", "(I)I"⟩
abbrev cX6_clears : ByteArray := prog_8_method_11_code
def yX6_clears : MethodName := ⟨RX6, "clears", "(III)I"⟩
abbrev cX6_swaps : ByteArray := prog_8_method_12_code
def yX6_swaps : MethodName := ⟨RX6, "swaps", "(II)V"⟩
abbrev cX6_takes : ByteArray := prog_8_method_13_code
def yX6_takes : MethodName := ⟨RX6, "takes", "(III)V"⟩
abbrev cX6_bits : ByteArray := prog_8_method_14_code
def yX6_bits : MethodName := ⟨RX6, "bits", "(I)I"⟩
abbrev cX6_rankOf : ByteArray := prog_8_method_15_code
def yX6_rankOf : MethodName := ⟨RX6, "rankOf", "(I)I"⟩
abbrev cX6_spark : ByteArray := prog_8_method_16_code
def yX6_spark : MethodName := ⟨RX6, "spark", "()I"⟩
abbrev cX6_alike : ByteArray := prog_8_method_17_code
def yX6_alike : MethodName := ⟨RX6, "alike", "()I"⟩
abbrev cX6_judge : ByteArray := prog_8_method_18_code
def yX6_judge : MethodName := ⟨RX6, "judge", "(I)I"⟩
abbrev cX6_isSix : ByteArray := prog_8_method_19_code
def yX6_isSix : MethodName := ⟨RX6, "isSix", "(I)Z"⟩
abbrev cX6_weight : ByteArray := prog_8_method_20_code
def yX6_weight : MethodName := ⟨RX6, "weight", "([III)I"⟩
abbrev cX6_put : ByteArray := prog_8_method_21_code
def yX6_put : MethodName := ⟨RX6, "put", "(III)I"⟩
abbrev cX6_row : ByteArray := prog_8_method_22_code
def yX6_row : MethodName := ⟨RX6, "row", "(II)I"⟩
abbrev cX6_sum : ByteArray := prog_8_method_23_code
def yX6_sum : MethodName := ⟨RX6, "sum", "(III)I"⟩
abbrev cX6_told : ByteArray := prog_8_method_24_code
def yX6_told : MethodName := ⟨RX6, "told", "(II)I"⟩
abbrev cX6_tell : ByteArray := prog_8_method_25_code
def yX6_tell : MethodName := ⟨RX6, "tell", "(II)I"⟩
abbrev cX6_solves : ByteArray := prog_8_method_26_code
def yX6_solves : MethodName := ⟨RX6, "solves", "(III)Z"⟩
abbrev cX6_keeps : ByteArray := prog_8_method_27_code
def yX6_keeps : MethodName := ⟨RX6, "keeps", "(I)V"⟩
abbrev cX6_isBest : ByteArray := prog_8_method_28_code
def yX6_isBest : MethodName := ⟨RX6, "isBest", "()V"⟩
abbrev cX6_find : ByteArray := prog_8_method_29_code
def yX6_find : MethodName := ⟨RX6, "find", "(III)I"⟩
abbrev cX6_differs : ByteArray := prog_8_method_30_code
def yX6_differs : MethodName := ⟨RX6, "differs", "(I)I"⟩
abbrev cX6_isLess : ByteArray := prog_8_method_31_code
def yX6_isLess : MethodName := ⟨RX6, "isLess", "()Z"⟩
abbrev cX6_miss : ByteArray := prog_8_method_32_code
def yX6_miss : MethodName := ⟨RX6, "miss", "(IIII)I"⟩
abbrev cX6_without : ByteArray := prog_8_method_33_code
def yX6_without : MethodName := ⟨RX6, "without", "(II)I"⟩
abbrev cX6_greedy : ByteArray := prog_8_method_34_code
def yX6_greedy : MethodName := ⟨RX6, "greedy", "(III)I"⟩
abbrev cX6_sketch : ByteArray := prog_8_method_35_code
def yX6_sketch : MethodName := ⟨RX6, "sketch", "(II)I"⟩
abbrev cX6_bucketOf : ByteArray := prog_8_method_36_code
def yX6_bucketOf : MethodName := ⟨RX6, "bucketOf", "(II)I"⟩
abbrev cX6_third : ByteArray := prog_8_method_37_code
def yX6_third : MethodName := ⟨RX6, "third", "(J)J"⟩
abbrev cX6_adds : ByteArray := prog_8_method_38_code
def yX6_adds : MethodName := ⟨RX6, "adds", "(IIJ)V"⟩
abbrev cX6_add : ByteArray := prog_8_method_39_code
def yX6_add : MethodName := ⟨RX6, "add", "(II)I"⟩
abbrev cX6_single : ByteArray := prog_8_method_40_code
def yX6_single : MethodName := ⟨RX6, "single", "(II)I"⟩
abbrev cX6_decode : ByteArray := prog_8_method_41_code
def yX6_decode : MethodName := ⟨RX6, "decode", "()I"⟩
abbrev cX6_decoded : ByteArray := prog_8_method_42_code
def yX6_decoded : MethodName := ⟨RX6, "decoded", "(II)I"⟩
abbrev cX6_bucket : ByteArray := prog_8_method_43_code
def yX6_bucket : MethodName := ⟨RX6, "bucket", "(III)J"⟩
abbrev cX6_count : ByteArray := prog_8_method_44_code
def yX6_count : MethodName := ⟨RX6, "count", "(I)I"⟩
def RJ6 : String := "java/lang/Integer"
def TJ6 : u_T := fun k => match k with
  | _ => ("", "", "", false)
def tyJ6 : Nat → FieldType := fun k => match k with
  | _ => .int
theorem nmJ6 : ∀ a, a < 0 → ∀ b, b < 0 → a ≠ b → (TJ6 a).2.1 ≠ (TJ6 b).2.1 := by decide +kernel
theorem tyJ6_ok : ∀ k, k < 0 → parseFieldDescriptor (TJ6 k).2.2.1 = some (tyJ6 k) := by decide +kernel
abbrev cJ6_bitCount_0f7a4 : ByteArray := prog_9_method_49_code
def yJ6_bitCount_0f7a4 : MethodName := ⟨RJ6, "bitCount", "(I)I"⟩
def RJ9 : String := "java/lang/Math"
def TJ9 : u_T := fun k => match k with
  | _ => ("", "", "", false)
def tyJ9 : Nat → FieldType := fun k => match k with
  | _ => .int
theorem nmJ9 : ∀ a, a < 0 → ∀ b, b < 0 → a ≠ b → (TJ9 a).2.1 ≠ (TJ9 b).2.1 := by decide +kernel
theorem tyJ9_ok : ∀ k, k < 0 → parseFieldDescriptor (TJ9 k).2.2.1 = some (tyJ9 k) := by decide +kernel
abbrev cJ9_floorMod_7cf53 : ByteArray := prog_10_method_50_code
def yJ9_floorMod_7cf53 : MethodName := ⟨RJ9, "floorMod", "(II)I"⟩
abbrev cJ9_floorMod_f86c9 : ByteArray := prog_10_method_52_code
def yJ9_floorMod_f86c9 : MethodName := ⟨RJ9, "floorMod", "(JJ)J"⟩
abbrev cJ9_max_7cf53 : ByteArray := prog_10_method_65_code
def yJ9_max_7cf53 : MethodName := ⟨RJ9, "max", "(II)I"⟩
abbrev cJ9_min_7cf53 : ByteArray := prog_10_method_69_code
def yJ9_min_7cf53 : MethodName := ⟨RJ9, "min", "(II)I"⟩
def RJ10 : String := "java/lang/System"
def TJ10 : u_T := fun k => match k with
  | _ => ("", "", "", false)
def tyJ10 : Nat → FieldType := fun k => match k with
  | _ => .int
theorem nmJ10 : ∀ a, a < 0 → ∀ b, b < 0 → a ≠ b → (TJ10 a).2.1 ≠ (TJ10 b).2.1 := by decide +kernel
theorem tyJ10_ok : ∀ k, k < 0 → parseFieldDescriptor (TJ10 k).2.2.1 = some (tyJ10 k) := by decide +kernel
def RL : String := "FewThatMatterLaw"
abbrev cL_law : ByteArray := code
def yL_law : MethodName := ⟨RL, "law", "([I)Z"⟩
abbrev vwCl : List vw_C := [(RX0, TX0, 5), (RX1, TX1, 3), (RX2, TX2, 11), (RX3, TX3, 8), (RX4, TX4, 5), (RX5, TX5, 7), (RX6, TX6, 17)]
end
section
theorem dX0_init_0 : decode cX0_init 0 = .ok (.aload_n 0, 1) := by decide +kernel
theorem dX0_init_1 : decode cX0_init 1 = .ok (.invokespecial 3, 3) := by decide +kernel
theorem dX0_init_4 : decode cX0_init 4 = .ok (.aload_n 0, 1) := by decide +kernel
theorem dX0_init_5 : decode cX0_init 5 = .ok (.bipush 6, 2) := by decide +kernel
theorem dX0_init_7 : decode cX0_init 7 = .ok (.newarray .int, 2) := by decide +kernel
theorem dX0_init_9 : decode cX0_init 9 = .ok (.putfield 9, 3) := by decide +kernel
theorem dX0_init_12 : decode cX0_init 12 = .ok (.aload_n 0, 1) := by decide +kernel
theorem dX0_init_13 : decode cX0_init 13 = .ok (.aload_n 1, 1) := by decide +kernel
theorem dX0_init_14 : decode cX0_init 14 = .ok (.putfield 15, 3) := by decide +kernel
theorem dX0_init_17 : decode cX0_init 17 = .ok (.return_, 1) := by decide +kernel
theorem dX0_walk_0 : decode cX0_walk 0 = .ok (.aload_n 1, 1) := by decide +kernel
theorem dX0_walk_1 : decode cX0_walk 1 = .ok (.aload_n 0, 1) := by decide +kernel
theorem dX0_walk_2 : decode cX0_walk 2 = .ok (.getfield 9, 3) := by decide +kernel
theorem dX0_walk_5 : decode cX0_walk 5 = .ok (.invokestatic 19, 3) := by decide +kernel
theorem dX0_walk_8 : decode cX0_walk 8 = .ok (.aload_n 3, 1) := by decide +kernel
theorem dX0_walk_9 : decode cX0_walk 9 = .ok (.invokestatic 23, 3) := by decide +kernel
theorem dX0_walk_12 : decode cX0_walk 12 = .ok (.iconst 0, 1) := by decide +kernel
theorem dX0_walk_13 : decode cX0_walk 13 = .ok (.istore 4, 2) := by decide +kernel
theorem dX0_walk_15 : decode cX0_walk 15 = .ok (.aload_n 0, 1) := by decide +kernel
theorem dX0_walk_16 : decode cX0_walk 16 = .ok (.getfield 9, 3) := by decide +kernel
theorem dX0_walk_19 : decode cX0_walk 19 = .ok (.invokestatic 27, 3) := by decide +kernel
theorem dX0_walk_22 : decode cX0_walk 22 = .ok (.istore 5, 2) := by decide +kernel
theorem dX0_walk_24 : decode cX0_walk 24 = .ok (.iconst 0, 1) := by decide +kernel
theorem dX0_walk_25 : decode cX0_walk 25 = .ok (.istore 6, 2) := by decide +kernel
theorem dX0_walk_27 : decode cX0_walk 27 = .ok (.iload 6, 2) := by decide +kernel
theorem dX0_walk_29 : decode cX0_walk 29 = .ok (.iload_n 2, 1) := by decide +kernel
theorem dX0_walk_30 : decode cX0_walk 30 = .ok (.if_icmp .ge 63, 3) := by decide +kernel
theorem dX0_walk_33 : decode cX0_walk 33 = .ok (.iload 5, 2) := by decide +kernel
theorem dX0_walk_35 : decode cX0_walk 35 = .ok (.ifCond .le 58, 3) := by decide +kernel
theorem dX0_walk_38 : decode cX0_walk 38 = .ok (.aload_n 0, 1) := by decide +kernel
theorem dX0_walk_39 : decode cX0_walk 39 = .ok (.iload 4, 2) := by decide +kernel
theorem dX0_walk_41 : decode cX0_walk 41 = .ok (.iload 5, 2) := by decide +kernel
theorem dX0_walk_43 : decode cX0_walk 43 = .ok (.invokevirtual 31, 3) := by decide +kernel
theorem dX0_walk_46 : decode cX0_walk 46 = .ok (.aload_n 0, 1) := by decide +kernel
theorem dX0_walk_47 : decode cX0_walk 47 = .ok (.getfield 35, 3) := by decide +kernel
theorem dX0_walk_50 : decode cX0_walk 50 = .ok (.ifCond .ge 6, 3) := by decide +kernel
theorem dX0_walk_53 : decode cX0_walk 53 = .ok (.iload 5, 2) := by decide +kernel
theorem dX0_walk_55 : decode cX0_walk 55 = .ok (.ireturn, 1) := by decide +kernel
theorem dX0_walk_56 : decode cX0_walk 56 = .ok (.iload 4, 2) := by decide +kernel
theorem dX0_walk_58 : decode cX0_walk 58 = .ok (.iconst 1, 1) := by decide +kernel
theorem dX0_walk_59 : decode cX0_walk 59 = .ok (.aload_n 0, 1) := by decide +kernel
theorem dX0_walk_60 : decode cX0_walk 60 = .ok (.getfield 35, 3) := by decide +kernel
theorem dX0_walk_63 : decode cX0_walk 63 = .ok (.ishl, 1) := by decide +kernel
theorem dX0_walk_64 : decode cX0_walk 64 = .ok (.ior, 1) := by decide +kernel
theorem dX0_walk_65 : decode cX0_walk 65 = .ok (.istore 4, 2) := by decide +kernel
theorem dX0_walk_67 : decode cX0_walk 67 = .ok (.aload_n 3, 1) := by decide +kernel
theorem dX0_walk_68 : decode cX0_walk 68 = .ok (.aload_n 0, 1) := by decide +kernel
theorem dX0_walk_69 : decode cX0_walk 69 = .ok (.getfield 35, 3) := by decide +kernel
theorem dX0_walk_72 : decode cX0_walk 72 = .ok (.aload_n 0, 1) := by decide +kernel
theorem dX0_walk_73 : decode cX0_walk 73 = .ok (.getfield 39, 3) := by decide +kernel
theorem dX0_walk_76 : decode cX0_walk 76 = .ok (.iastore, 1) := by decide +kernel
theorem dX0_walk_77 : decode cX0_walk 77 = .ok (.aload_n 0, 1) := by decide +kernel
theorem dX0_walk_78 : decode cX0_walk 78 = .ok (.invokevirtual 42, 3) := by decide +kernel
theorem dX0_walk_81 : decode cX0_walk 81 = .ok (.aload_n 0, 1) := by decide +kernel
theorem dX0_walk_82 : decode cX0_walk 82 = .ok (.getfield 45, 3) := by decide +kernel
theorem dX0_walk_85 : decode cX0_walk 85 = .ok (.istore 5, 2) := by decide +kernel
theorem dX0_walk_87 : decode cX0_walk 87 = .ok (.iinc 6 1, 3) := by decide +kernel
theorem dX0_walk_90 : decode cX0_walk 90 = .ok (.goto (-63), 3) := by decide +kernel
theorem dX0_walk_93 : decode cX0_walk 93 = .ok (.iload 5, 2) := by decide +kernel
theorem dX0_walk_95 : decode cX0_walk 95 = .ok (.ireturn, 1) := by decide +kernel
theorem dX0_choose_0 : decode cX0_choose 0 = .ok (.aload_n 0, 1) := by decide +kernel
theorem dX0_choose_1 : decode cX0_choose 1 = .ok (.iconst (-1), 1) := by decide +kernel
theorem dX0_choose_2 : decode cX0_choose 2 = .ok (.putfield 35, 3) := by decide +kernel
theorem dX0_choose_5 : decode cX0_choose 5 = .ok (.aload_n 0, 1) := by decide +kernel
theorem dX0_choose_6 : decode cX0_choose 6 = .ok (.iconst 0, 1) := by decide +kernel
theorem dX0_choose_7 : decode cX0_choose 7 = .ok (.putfield 39, 3) := by decide +kernel
theorem dX0_choose_10 : decode cX0_choose 10 = .ok (.aload_n 0, 1) := by decide +kernel
theorem dX0_choose_11 : decode cX0_choose 11 = .ok (.iload_n 2, 1) := by decide +kernel
theorem dX0_choose_12 : decode cX0_choose 12 = .ok (.putfield 45, 3) := by decide +kernel
theorem dX0_choose_15 : decode cX0_choose 15 = .ok (.iconst 0, 1) := by decide +kernel
theorem dX0_choose_16 : decode cX0_choose 16 = .ok (.istore_n 3, 1) := by decide +kernel
theorem dX0_choose_17 : decode cX0_choose 17 = .ok (.iload_n 3, 1) := by decide +kernel
theorem dX0_choose_18 : decode cX0_choose 18 = .ok (.aload_n 0, 1) := by decide +kernel
theorem dX0_choose_19 : decode cX0_choose 19 = .ok (.getfield 15, 3) := by decide +kernel
theorem dX0_choose_22 : decode cX0_choose 22 = .ok (.getfield 48, 3) := by decide +kernel
theorem dX0_choose_25 : decode cX0_choose 25 = .ok (.if_icmp .ge 94, 3) := by decide +kernel
theorem dX0_choose_28 : decode cX0_choose 28 = .ok (.iconst 0, 1) := by decide +kernel
theorem dX0_choose_29 : decode cX0_choose 29 = .ok (.istore 4, 2) := by decide +kernel
theorem dX0_choose_31 : decode cX0_choose 31 = .ok (.iload 4, 2) := by decide +kernel
theorem dX0_choose_33 : decode cX0_choose 33 = .ok (.aload_n 0, 1) := by decide +kernel
theorem dX0_choose_34 : decode cX0_choose 34 = .ok (.getfield 15, 3) := by decide +kernel
theorem dX0_choose_37 : decode cX0_choose 37 = .ok (.getfield 53, 3) := by decide +kernel
theorem dX0_choose_40 : decode cX0_choose 40 = .ok (.if_icmp .ge 73, 3) := by decide +kernel
theorem dX0_choose_43 : decode cX0_choose 43 = .ok (.iload_n 1, 1) := by decide +kernel
theorem dX0_choose_44 : decode cX0_choose 44 = .ok (.iload_n 3, 1) := by decide +kernel
theorem dX0_choose_45 : decode cX0_choose 45 = .ok (.ishr, 1) := by decide +kernel
theorem dX0_choose_46 : decode cX0_choose 46 = .ok (.iconst 1, 1) := by decide +kernel
theorem dX0_choose_47 : decode cX0_choose 47 = .ok (.iand, 1) := by decide +kernel
theorem dX0_choose_48 : decode cX0_choose 48 = .ok (.ifCond .ne 65, 3) := by decide +kernel
theorem dX0_choose_51 : decode cX0_choose 51 = .ok (.aload_n 0, 1) := by decide +kernel
theorem dX0_choose_52 : decode cX0_choose 52 = .ok (.getfield 9, 3) := by decide +kernel
theorem dX0_choose_55 : decode cX0_choose 55 = .ok (.iload 4, 2) := by decide +kernel
theorem dX0_choose_57 : decode cX0_choose 57 = .ok (.iaload, 1) := by decide +kernel
theorem dX0_choose_58 : decode cX0_choose 58 = .ok (.ifCond .eq 49, 3) := by decide +kernel
theorem dX0_choose_61 : decode cX0_choose 61 = .ok (.aload_n 0, 1) := by decide +kernel
theorem dX0_choose_62 : decode cX0_choose 62 = .ok (.getfield 15, 3) := by decide +kernel
theorem dX0_choose_65 : decode cX0_choose 65 = .ok (.getfield 56, 3) := by decide +kernel
theorem dX0_choose_68 : decode cX0_choose 68 = .ok (.iload 4, 2) := by decide +kernel
theorem dX0_choose_70 : decode cX0_choose 70 = .ok (.aaload, 1) := by decide +kernel
theorem dX0_choose_71 : decode cX0_choose 71 = .ok (.iload_n 3, 1) := by decide +kernel
theorem dX0_choose_72 : decode cX0_choose 72 = .ok (.iaload, 1) := by decide +kernel
theorem dX0_choose_73 : decode cX0_choose 73 = .ok (.ifCond .eq 34, 3) := by decide +kernel
theorem dX0_choose_76 : decode cX0_choose 76 = .ok (.aload_n 0, 1) := by decide +kernel
theorem dX0_choose_77 : decode cX0_choose 77 = .ok (.iload_n 3, 1) := by decide +kernel
theorem dX0_choose_78 : decode cX0_choose 78 = .ok (.aload_n 0, 1) := by decide +kernel
theorem dX0_choose_79 : decode cX0_choose 79 = .ok (.getfield 15, 3) := by decide +kernel
theorem dX0_choose_82 : decode cX0_choose 82 = .ok (.aload_n 0, 1) := by decide +kernel
theorem dX0_choose_83 : decode cX0_choose 83 = .ok (.getfield 9, 3) := by decide +kernel
theorem dX0_choose_86 : decode cX0_choose 86 = .ok (.iload 4, 2) := by decide +kernel
theorem dX0_choose_88 : decode cX0_choose 88 = .ok (.iaload, 1) := by decide +kernel
theorem dX0_choose_89 : decode cX0_choose 89 = .ok (.aload_n 0, 1) := by decide +kernel
theorem dX0_choose_90 : decode cX0_choose 90 = .ok (.getfield 15, 3) := by decide +kernel
theorem dX0_choose_93 : decode cX0_choose 93 = .ok (.getfield 56, 3) := by decide +kernel
theorem dX0_choose_96 : decode cX0_choose 96 = .ok (.iload 4, 2) := by decide +kernel
theorem dX0_choose_98 : decode cX0_choose 98 = .ok (.aaload, 1) := by decide +kernel
theorem dX0_choose_99 : decode cX0_choose 99 = .ok (.iload_n 3, 1) := by decide +kernel
theorem dX0_choose_100 : decode cX0_choose 100 = .ok (.iaload, 1) := by decide +kernel
theorem dX0_choose_101 : decode cX0_choose 101 = .ok (.invokevirtual 60, 3) := by decide +kernel
theorem dX0_choose_104 : decode cX0_choose 104 = .ok (.invokevirtual 64, 3) := by decide +kernel
theorem dX0_choose_107 : decode cX0_choose 107 = .ok (.iinc 4 1, 3) := by decide +kernel
theorem dX0_choose_110 : decode cX0_choose 110 = .ok (.goto (-79), 3) := by decide +kernel
theorem dX0_choose_113 : decode cX0_choose 113 = .ok (.iinc 3 1, 3) := by decide +kernel
theorem dX0_choose_116 : decode cX0_choose 116 = .ok (.goto (-99), 3) := by decide +kernel
theorem dX0_choose_119 : decode cX0_choose 119 = .ok (.return_, 1) := by decide +kernel
theorem dX0_weigh_0 : decode cX0_weigh 0 = .ok (.iconst 0, 1) := by decide +kernel
theorem dX0_weigh_1 : decode cX0_weigh 1 = .ok (.istore_n 3, 1) := by decide +kernel
theorem dX0_weigh_2 : decode cX0_weigh 2 = .ok (.iconst 0, 1) := by decide +kernel
theorem dX0_weigh_3 : decode cX0_weigh 3 = .ok (.istore 4, 2) := by decide +kernel
theorem dX0_weigh_5 : decode cX0_weigh 5 = .ok (.iload 4, 2) := by decide +kernel
theorem dX0_weigh_7 : decode cX0_weigh 7 = .ok (.aload_n 0, 1) := by decide +kernel
theorem dX0_weigh_8 : decode cX0_weigh 8 = .ok (.getfield 15, 3) := by decide +kernel
theorem dX0_weigh_11 : decode cX0_weigh 11 = .ok (.getfield 53, 3) := by decide +kernel
theorem dX0_weigh_14 : decode cX0_weigh 14 = .ok (.if_icmp .ge 23, 3) := by decide +kernel
theorem dX0_weigh_17 : decode cX0_weigh 17 = .ok (.aload_n 0, 1) := by decide +kernel
theorem dX0_weigh_18 : decode cX0_weigh 18 = .ok (.iload 4, 2) := by decide +kernel
theorem dX0_weigh_20 : decode cX0_weigh 20 = .ok (.iload_n 1, 1) := by decide +kernel
theorem dX0_weigh_21 : decode cX0_weigh 21 = .ok (.iload_n 2, 1) := by decide +kernel
theorem dX0_weigh_22 : decode cX0_weigh 22 = .ok (.invokevirtual 67, 3) := by decide +kernel
theorem dX0_weigh_25 : decode cX0_weigh 25 = .ok (.ifCond .eq 6, 3) := by decide +kernel
theorem dX0_weigh_28 : decode cX0_weigh 28 = .ok (.iinc 3 1, 3) := by decide +kernel
theorem dX0_weigh_31 : decode cX0_weigh 31 = .ok (.iinc 4 1, 3) := by decide +kernel
theorem dX0_weigh_34 : decode cX0_weigh 34 = .ok (.goto (-29), 3) := by decide +kernel
theorem dX0_weigh_37 : decode cX0_weigh 37 = .ok (.iload_n 1, 1) := by decide +kernel
theorem dX0_weigh_38 : decode cX0_weigh 38 = .ok (.aload_n 0, 1) := by decide +kernel
theorem dX0_weigh_39 : decode cX0_weigh 39 = .ok (.getfield 35, 3) := by decide +kernel
theorem dX0_weigh_42 : decode cX0_weigh 42 = .ok (.if_icmp .ne 15, 3) := by decide +kernel
theorem dX0_weigh_45 : decode cX0_weigh 45 = .ok (.iload_n 2, 1) := by decide +kernel
theorem dX0_weigh_46 : decode cX0_weigh 46 = .ok (.aload_n 0, 1) := by decide +kernel
theorem dX0_weigh_47 : decode cX0_weigh 47 = .ok (.getfield 39, 3) := by decide +kernel
theorem dX0_weigh_50 : decode cX0_weigh 50 = .ok (.if_icmp .ge 7, 3) := by decide +kernel
theorem dX0_weigh_53 : decode cX0_weigh 53 = .ok (.iconst 1, 1) := by decide +kernel
theorem dX0_weigh_54 : decode cX0_weigh 54 = .ok (.goto 4, 3) := by decide +kernel
theorem dX0_weigh_57 : decode cX0_weigh 57 = .ok (.iconst 0, 1) := by decide +kernel
theorem dX0_weigh_58 : decode cX0_weigh 58 = .ok (.istore 4, 2) := by decide +kernel
theorem dX0_weigh_60 : decode cX0_weigh 60 = .ok (.iload_n 3, 1) := by decide +kernel
theorem dX0_weigh_61 : decode cX0_weigh 61 = .ok (.aload_n 0, 1) := by decide +kernel
theorem dX0_weigh_62 : decode cX0_weigh 62 = .ok (.getfield 45, 3) := by decide +kernel
theorem dX0_weigh_65 : decode cX0_weigh 65 = .ok (.if_icmp .lt 16, 3) := by decide +kernel
theorem dX0_weigh_68 : decode cX0_weigh 68 = .ok (.iload_n 3, 1) := by decide +kernel
theorem dX0_weigh_69 : decode cX0_weigh 69 = .ok (.aload_n 0, 1) := by decide +kernel
theorem dX0_weigh_70 : decode cX0_weigh 70 = .ok (.getfield 45, 3) := by decide +kernel
theorem dX0_weigh_73 : decode cX0_weigh 73 = .ok (.if_icmp .ne 23, 3) := by decide +kernel
theorem dX0_weigh_76 : decode cX0_weigh 76 = .ok (.iload 4, 2) := by decide +kernel
theorem dX0_weigh_78 : decode cX0_weigh 78 = .ok (.ifCond .eq 18, 3) := by decide +kernel
theorem dX0_weigh_81 : decode cX0_weigh 81 = .ok (.aload_n 0, 1) := by decide +kernel
theorem dX0_weigh_82 : decode cX0_weigh 82 = .ok (.iload_n 1, 1) := by decide +kernel
theorem dX0_weigh_83 : decode cX0_weigh 83 = .ok (.putfield 35, 3) := by decide +kernel
theorem dX0_weigh_86 : decode cX0_weigh 86 = .ok (.aload_n 0, 1) := by decide +kernel
theorem dX0_weigh_87 : decode cX0_weigh 87 = .ok (.iload_n 2, 1) := by decide +kernel
theorem dX0_weigh_88 : decode cX0_weigh 88 = .ok (.putfield 39, 3) := by decide +kernel
theorem dX0_weigh_91 : decode cX0_weigh 91 = .ok (.aload_n 0, 1) := by decide +kernel
theorem dX0_weigh_92 : decode cX0_weigh 92 = .ok (.iload_n 3, 1) := by decide +kernel
theorem dX0_weigh_93 : decode cX0_weigh 93 = .ok (.putfield 45, 3) := by decide +kernel
theorem dX0_weigh_96 : decode cX0_weigh 96 = .ok (.return_, 1) := by decide +kernel
theorem dX0_restWithout_0 : decode cX0_restWithout 0 = .ok (.aload_n 0, 1) := by decide +kernel
theorem dX0_restWithout_1 : decode cX0_restWithout 1 = .ok (.getfield 15, 3) := by decide +kernel
theorem dX0_restWithout_4 : decode cX0_restWithout 4 = .ok (.aload_n 0, 1) := by decide +kernel
theorem dX0_restWithout_5 : decode cX0_restWithout 5 = .ok (.getfield 9, 3) := by decide +kernel
theorem dX0_restWithout_8 : decode cX0_restWithout 8 = .ok (.iload_n 1, 1) := by decide +kernel
theorem dX0_restWithout_9 : decode cX0_restWithout 9 = .ok (.iaload, 1) := by decide +kernel
theorem dX0_restWithout_10 : decode cX0_restWithout 10 = .ok (.iload_n 3, 1) := by decide +kernel
theorem dX0_restWithout_11 : decode cX0_restWithout 11 = .ok (.aload_n 0, 1) := by decide +kernel
theorem dX0_restWithout_12 : decode cX0_restWithout 12 = .ok (.getfield 15, 3) := by decide +kernel
theorem dX0_restWithout_15 : decode cX0_restWithout 15 = .ok (.getfield 56, 3) := by decide +kernel
theorem dX0_restWithout_18 : decode cX0_restWithout 18 = .ok (.iload_n 1, 1) := by decide +kernel
theorem dX0_restWithout_19 : decode cX0_restWithout 19 = .ok (.aaload, 1) := by decide +kernel
theorem dX0_restWithout_20 : decode cX0_restWithout 20 = .ok (.iload_n 2, 1) := by decide +kernel
theorem dX0_restWithout_21 : decode cX0_restWithout 21 = .ok (.iaload, 1) := by decide +kernel
theorem dX0_restWithout_22 : decode cX0_restWithout 22 = .ok (.imul, 1) := by decide +kernel
theorem dX0_restWithout_23 : decode cX0_restWithout 23 = .ok (.isub, 1) := by decide +kernel
theorem dX0_restWithout_24 : decode cX0_restWithout 24 = .ok (.invokevirtual 71, 3) := by decide +kernel
theorem dX0_restWithout_27 : decode cX0_restWithout 27 = .ok (.ireturn, 1) := by decide +kernel
theorem dX0_takeOff_0 : decode cX0_takeOff 0 = .ok (.iconst 0, 1) := by decide +kernel
theorem dX0_takeOff_1 : decode cX0_takeOff 1 = .ok (.istore_n 1, 1) := by decide +kernel
theorem dX0_takeOff_2 : decode cX0_takeOff 2 = .ok (.iload_n 1, 1) := by decide +kernel
theorem dX0_takeOff_3 : decode cX0_takeOff 3 = .ok (.aload_n 0, 1) := by decide +kernel
theorem dX0_takeOff_4 : decode cX0_takeOff 4 = .ok (.getfield 15, 3) := by decide +kernel
theorem dX0_takeOff_7 : decode cX0_takeOff 7 = .ok (.getfield 53, 3) := by decide +kernel
theorem dX0_takeOff_10 : decode cX0_takeOff 10 = .ok (.if_icmp .ge 28, 3) := by decide +kernel
theorem dX0_takeOff_13 : decode cX0_takeOff 13 = .ok (.aload_n 0, 1) := by decide +kernel
theorem dX0_takeOff_14 : decode cX0_takeOff 14 = .ok (.getfield 9, 3) := by decide +kernel
theorem dX0_takeOff_17 : decode cX0_takeOff 17 = .ok (.iload_n 1, 1) := by decide +kernel
theorem dX0_takeOff_18 : decode cX0_takeOff 18 = .ok (.aload_n 0, 1) := by decide +kernel
theorem dX0_takeOff_19 : decode cX0_takeOff 19 = .ok (.iload_n 1, 1) := by decide +kernel
theorem dX0_takeOff_20 : decode cX0_takeOff 20 = .ok (.aload_n 0, 1) := by decide +kernel
theorem dX0_takeOff_21 : decode cX0_takeOff 21 = .ok (.getfield 35, 3) := by decide +kernel
theorem dX0_takeOff_24 : decode cX0_takeOff 24 = .ok (.aload_n 0, 1) := by decide +kernel
theorem dX0_takeOff_25 : decode cX0_takeOff 25 = .ok (.getfield 39, 3) := by decide +kernel
theorem dX0_takeOff_28 : decode cX0_takeOff 28 = .ok (.invokevirtual 67, 3) := by decide +kernel
theorem dX0_takeOff_31 : decode cX0_takeOff 31 = .ok (.iastore, 1) := by decide +kernel
theorem dX0_takeOff_32 : decode cX0_takeOff 32 = .ok (.iinc 1 1, 3) := by decide +kernel
theorem dX0_takeOff_35 : decode cX0_takeOff 35 = .ok (.goto (-33), 3) := by decide +kernel
theorem dX0_takeOff_38 : decode cX0_takeOff 38 = .ok (.return_, 1) := by decide +kernel
theorem dX1_init_0 : decode cX1_init 0 = .ok (.aload_n 0, 1) := by decide +kernel
theorem dX1_init_1 : decode cX1_init 1 = .ok (.invokespecial 3, 3) := by decide +kernel
theorem dX1_init_4 : decode cX1_init 4 = .ok (.aload_n 0, 1) := by decide +kernel
theorem dX1_init_5 : decode cX1_init 5 = .ok (.bipush 12, 2) := by decide +kernel
theorem dX1_init_7 : decode cX1_init 7 = .ok (.newarray .int, 2) := by decide +kernel
theorem dX1_init_9 : decode cX1_init 9 = .ok (.putfield 9, 3) := by decide +kernel
theorem dX1_init_12 : decode cX1_init 12 = .ok (.aload_n 0, 1) := by decide +kernel
theorem dX1_init_13 : decode cX1_init 13 = .ok (.aload_n 1, 1) := by decide +kernel
theorem dX1_init_14 : decode cX1_init 14 = .ok (.putfield 15, 3) := by decide +kernel
theorem dX1_init_17 : decode cX1_init 17 = .ok (.aload_n 0, 1) := by decide +kernel
theorem dX1_init_18 : decode cX1_init 18 = .ok (.aload_n 2, 1) := by decide +kernel
theorem dX1_init_19 : decode cX1_init 19 = .ok (.putfield 19, 3) := by decide +kernel
theorem dX1_init_22 : decode cX1_init 22 = .ok (.return_, 1) := by decide +kernel
theorem dX1_look_0 : decode cX1_look 0 = .ok (.iconst (-1), 1) := by decide +kernel
theorem dX1_look_1 : decode cX1_look 1 = .ok (.istore 4, 2) := by decide +kernel
theorem dX1_look_3 : decode cX1_look 3 = .ok (.iconst 0, 1) := by decide +kernel
theorem dX1_look_4 : decode cX1_look 4 = .ok (.istore 5, 2) := by decide +kernel
theorem dX1_look_6 : decode cX1_look 6 = .ok (.iload 5, 2) := by decide +kernel
theorem dX1_look_8 : decode cX1_look 8 = .ok (.iconst 1, 1) := by decide +kernel
theorem dX1_look_9 : decode cX1_look 9 = .ok (.aload_n 0, 1) := by decide +kernel
theorem dX1_look_10 : decode cX1_look 10 = .ok (.getfield 15, 3) := by decide +kernel
theorem dX1_look_13 : decode cX1_look 13 = .ok (.getfield 23, 3) := by decide +kernel
theorem dX1_look_16 : decode cX1_look 16 = .ok (.ishl, 1) := by decide +kernel
theorem dX1_look_17 : decode cX1_look 17 = .ok (.if_icmp .ge 114, 3) := by decide +kernel
theorem dX1_look_20 : decode cX1_look 20 = .ok (.iload 5, 2) := by decide +kernel
theorem dX1_look_22 : decode cX1_look 22 = .ok (.invokestatic 29, 3) := by decide +kernel
theorem dX1_look_25 : decode cX1_look 25 = .ok (.iload_n 3, 1) := by decide +kernel
theorem dX1_look_26 : decode cX1_look 26 = .ok (.if_icmp .ne 99, 3) := by decide +kernel
theorem dX1_look_29 : decode cX1_look 29 = .ok (.aload_n 0, 1) := by decide +kernel
theorem dX1_look_30 : decode cX1_look 30 = .ok (.getfield 19, 3) := by decide +kernel
theorem dX1_look_33 : decode cX1_look 33 = .ok (.aload_n 1, 1) := by decide +kernel
theorem dX1_look_34 : decode cX1_look 34 = .ok (.iload 5, 2) := by decide +kernel
theorem dX1_look_36 : decode cX1_look 36 = .ok (.iload_n 2, 1) := by decide +kernel
theorem dX1_look_37 : decode cX1_look 37 = .ok (.iconst 1, 1) := by decide +kernel
theorem dX1_look_38 : decode cX1_look 38 = .ok (.invokevirtual 35, 3) := by decide +kernel
theorem dX1_look_41 : decode cX1_look 41 = .ok (.ifCond .le 84, 3) := by decide +kernel
theorem dX1_look_44 : decode cX1_look 44 = .ok (.iload 4, 2) := by decide +kernel
theorem dX1_look_46 : decode cX1_look 46 = .ok (.ifCond .lt 15, 3) := by decide +kernel
theorem dX1_look_49 : decode cX1_look 49 = .ok (.aload_n 0, 1) := by decide +kernel
theorem dX1_look_50 : decode cX1_look 50 = .ok (.getfield 19, 3) := by decide +kernel
theorem dX1_look_53 : decode cX1_look 53 = .ok (.getfield 41, 3) := by decide +kernel
theorem dX1_look_56 : decode cX1_look 56 = .ok (.iload 4, 2) := by decide +kernel
theorem dX1_look_58 : decode cX1_look 58 = .ok (.if_icmp .ge 7, 3) := by decide +kernel
theorem dX1_look_61 : decode cX1_look 61 = .ok (.iconst 1, 1) := by decide +kernel
theorem dX1_look_62 : decode cX1_look 62 = .ok (.goto 4, 3) := by decide +kernel
theorem dX1_look_65 : decode cX1_look 65 = .ok (.iconst 0, 1) := by decide +kernel
theorem dX1_look_66 : decode cX1_look 66 = .ok (.istore 6, 2) := by decide +kernel
theorem dX1_look_68 : decode cX1_look 68 = .ok (.iload 6, 2) := by decide +kernel
theorem dX1_look_70 : decode cX1_look 70 = .ok (.ifCond .ne 32, 3) := by decide +kernel
theorem dX1_look_73 : decode cX1_look 73 = .ok (.aload_n 0, 1) := by decide +kernel
theorem dX1_look_74 : decode cX1_look 74 = .ok (.getfield 19, 3) := by decide +kernel
theorem dX1_look_77 : decode cX1_look 77 = .ok (.getfield 41, 3) := by decide +kernel
theorem dX1_look_80 : decode cX1_look 80 = .ok (.iload 4, 2) := by decide +kernel
theorem dX1_look_82 : decode cX1_look 82 = .ok (.if_icmp .ne 43, 3) := by decide +kernel
theorem dX1_look_85 : decode cX1_look 85 = .ok (.aload_n 0, 1) := by decide +kernel
theorem dX1_look_86 : decode cX1_look 86 = .ok (.getfield 19, 3) := by decide +kernel
theorem dX1_look_89 : decode cX1_look 89 = .ok (.getfield 44, 3) := by decide +kernel
theorem dX1_look_92 : decode cX1_look 92 = .ok (.aload_n 0, 1) := by decide +kernel
theorem dX1_look_93 : decode cX1_look 93 = .ok (.getfield 9, 3) := by decide +kernel
theorem dX1_look_96 : decode cX1_look 96 = .ok (.invokestatic 45, 3) := by decide +kernel
theorem dX1_look_99 : decode cX1_look 99 = .ok (.ifCond .eq 26, 3) := by decide +kernel
theorem dX1_look_102 : decode cX1_look 102 = .ok (.aload_n 0, 1) := by decide +kernel
theorem dX1_look_103 : decode cX1_look 103 = .ok (.getfield 19, 3) := by decide +kernel
theorem dX1_look_106 : decode cX1_look 106 = .ok (.getfield 41, 3) := by decide +kernel
theorem dX1_look_109 : decode cX1_look 109 = .ok (.istore 4, 2) := by decide +kernel
theorem dX1_look_111 : decode cX1_look 111 = .ok (.aload_n 0, 1) := by decide +kernel
theorem dX1_look_112 : decode cX1_look 112 = .ok (.getfield 19, 3) := by decide +kernel
theorem dX1_look_115 : decode cX1_look 115 = .ok (.getfield 44, 3) := by decide +kernel
theorem dX1_look_118 : decode cX1_look 118 = .ok (.aload_n 0, 1) := by decide +kernel
theorem dX1_look_119 : decode cX1_look 119 = .ok (.getfield 9, 3) := by decide +kernel
theorem dX1_look_122 : decode cX1_look 122 = .ok (.invokestatic 49, 3) := by decide +kernel
theorem dX1_look_125 : decode cX1_look 125 = .ok (.iinc 5 1, 3) := by decide +kernel
theorem dX1_look_128 : decode cX1_look 128 = .ok (.goto (-122), 3) := by decide +kernel
theorem dX1_look_131 : decode cX1_look 131 = .ok (.iload 4, 2) := by decide +kernel
theorem dX1_look_133 : decode cX1_look 133 = .ok (.ifCond .lt 7, 3) := by decide +kernel
theorem dX1_look_136 : decode cX1_look 136 = .ok (.iconst 1, 1) := by decide +kernel
theorem dX1_look_137 : decode cX1_look 137 = .ok (.goto 4, 3) := by decide +kernel
theorem dX1_look_140 : decode cX1_look 140 = .ok (.iconst 0, 1) := by decide +kernel
theorem dX1_look_141 : decode cX1_look 141 = .ok (.ireturn, 1) := by decide +kernel
theorem dX1_isLess_0 : decode cX1_isLess 0 = .ok (.iconst 0, 1) := by decide +kernel
theorem dX1_isLess_1 : decode cX1_isLess 1 = .ok (.istore_n 2, 1) := by decide +kernel
theorem dX1_isLess_2 : decode cX1_isLess 2 = .ok (.iload_n 2, 1) := by decide +kernel
theorem dX1_isLess_3 : decode cX1_isLess 3 = .ok (.bipush 12, 2) := by decide +kernel
theorem dX1_isLess_5 : decode cX1_isLess 5 = .ok (.if_icmp .ge 33, 3) := by decide +kernel
theorem dX1_isLess_8 : decode cX1_isLess 8 = .ok (.aload_n 0, 1) := by decide +kernel
theorem dX1_isLess_9 : decode cX1_isLess 9 = .ok (.iload_n 2, 1) := by decide +kernel
theorem dX1_isLess_10 : decode cX1_isLess 10 = .ok (.iaload, 1) := by decide +kernel
theorem dX1_isLess_11 : decode cX1_isLess 11 = .ok (.aload_n 1, 1) := by decide +kernel
theorem dX1_isLess_12 : decode cX1_isLess 12 = .ok (.iload_n 2, 1) := by decide +kernel
theorem dX1_isLess_13 : decode cX1_isLess 13 = .ok (.iaload, 1) := by decide +kernel
theorem dX1_isLess_14 : decode cX1_isLess 14 = .ok (.if_icmp .eq 18, 3) := by decide +kernel
theorem dX1_isLess_17 : decode cX1_isLess 17 = .ok (.aload_n 0, 1) := by decide +kernel
theorem dX1_isLess_18 : decode cX1_isLess 18 = .ok (.iload_n 2, 1) := by decide +kernel
theorem dX1_isLess_19 : decode cX1_isLess 19 = .ok (.iaload, 1) := by decide +kernel
theorem dX1_isLess_20 : decode cX1_isLess 20 = .ok (.aload_n 1, 1) := by decide +kernel
theorem dX1_isLess_21 : decode cX1_isLess 21 = .ok (.iload_n 2, 1) := by decide +kernel
theorem dX1_isLess_22 : decode cX1_isLess 22 = .ok (.iaload, 1) := by decide +kernel
theorem dX1_isLess_23 : decode cX1_isLess 23 = .ok (.if_icmp .ge 7, 3) := by decide +kernel
theorem dX1_isLess_26 : decode cX1_isLess 26 = .ok (.iconst 1, 1) := by decide +kernel
theorem dX1_isLess_27 : decode cX1_isLess 27 = .ok (.goto 4, 3) := by decide +kernel
theorem dX1_isLess_30 : decode cX1_isLess 30 = .ok (.iconst 0, 1) := by decide +kernel
theorem dX1_isLess_31 : decode cX1_isLess 31 = .ok (.ireturn, 1) := by decide +kernel
theorem dX1_isLess_32 : decode cX1_isLess 32 = .ok (.iinc 2 1, 3) := by decide +kernel
theorem dX1_isLess_35 : decode cX1_isLess 35 = .ok (.goto (-33), 3) := by decide +kernel
theorem dX1_isLess_38 : decode cX1_isLess 38 = .ok (.iconst 0, 1) := by decide +kernel
theorem dX1_isLess_39 : decode cX1_isLess 39 = .ok (.ireturn, 1) := by decide +kernel
theorem dX2_init_0 : decode cX2_init 0 = .ok (.aload_n 0, 1) := by decide +kernel
theorem dX2_init_1 : decode cX2_init 1 = .ok (.invokespecial 3, 3) := by decide +kernel
theorem dX2_init_4 : decode cX2_init 4 = .ok (.aload_n 0, 1) := by decide +kernel
theorem dX2_init_5 : decode cX2_init 5 = .ok (.bipush 7, 2) := by decide +kernel
theorem dX2_init_7 : decode cX2_init 7 = .ok (.bipush 78, 2) := by decide +kernel
theorem dX2_init_9 : decode cX2_init 9 = .ok (.multianewarray 9 2, 4) := by decide +kernel
theorem dX2_init_13 : decode cX2_init 13 = .ok (.putfield 11, 3) := by decide +kernel
theorem dX2_init_16 : decode cX2_init 16 = .ok (.aload_n 0, 1) := by decide +kernel
theorem dX2_init_17 : decode cX2_init 17 = .ok (.bipush 7, 2) := by decide +kernel
theorem dX2_init_19 : decode cX2_init 19 = .ok (.newarray .int, 2) := by decide +kernel
theorem dX2_init_21 : decode cX2_init 21 = .ok (.putfield 16, 3) := by decide +kernel
theorem dX2_init_24 : decode cX2_init 24 = .ok (.aload_n 0, 1) := by decide +kernel
theorem dX2_init_25 : decode cX2_init 25 = .ok (.bipush 7, 2) := by decide +kernel
theorem dX2_init_27 : decode cX2_init 27 = .ok (.newarray .int, 2) := by decide +kernel
theorem dX2_init_29 : decode cX2_init 29 = .ok (.putfield 20, 3) := by decide +kernel
theorem dX2_init_32 : decode cX2_init 32 = .ok (.aload_n 0, 1) := by decide +kernel
theorem dX2_init_33 : decode cX2_init 33 = .ok (.bipush 12, 2) := by decide +kernel
theorem dX2_init_35 : decode cX2_init 35 = .ok (.newarray .int, 2) := by decide +kernel
theorem dX2_init_37 : decode cX2_init 37 = .ok (.putfield 23, 3) := by decide +kernel
theorem dX2_init_40 : decode cX2_init 40 = .ok (.aload_n 0, 1) := by decide +kernel
theorem dX2_init_41 : decode cX2_init 41 = .ok (.aload_n 1, 1) := by decide +kernel
theorem dX2_init_42 : decode cX2_init 42 = .ok (.putfield 26, 3) := by decide +kernel
theorem dX2_init_45 : decode cX2_init 45 = .ok (.return_, 1) := by decide +kernel
theorem dX2_rank_0 : decode cX2_rank 0 = .ok (.aload_n 0, 1) := by decide +kernel
theorem dX2_rank_1 : decode cX2_rank 1 = .ok (.iconst 0, 1) := by decide +kernel
theorem dX2_rank_2 : decode cX2_rank 2 = .ok (.invokevirtual 30, 3) := by decide +kernel
theorem dX2_rank_5 : decode cX2_rank 5 = .ok (.iconst 0, 1) := by decide +kernel
theorem dX2_rank_6 : decode cX2_rank 6 = .ok (.istore_n 1, 1) := by decide +kernel
theorem dX2_rank_7 : decode cX2_rank 7 = .ok (.aload_n 0, 1) := by decide +kernel
theorem dX2_rank_8 : decode cX2_rank 8 = .ok (.getfield 26, 3) := by decide +kernel
theorem dX2_rank_11 : decode cX2_rank 11 = .ok (.getfield 34, 3) := by decide +kernel
theorem dX2_rank_14 : decode cX2_rank 14 = .ok (.iconst 1, 1) := by decide +kernel
theorem dX2_rank_15 : decode cX2_rank 15 = .ok (.isub, 1) := by decide +kernel
theorem dX2_rank_16 : decode cX2_rank 16 = .ok (.istore_n 2, 1) := by decide +kernel
theorem dX2_rank_17 : decode cX2_rank 17 = .ok (.iload_n 2, 1) := by decide +kernel
theorem dX2_rank_18 : decode cX2_rank 18 = .ok (.ifCond .lt 34, 3) := by decide +kernel
theorem dX2_rank_21 : decode cX2_rank 21 = .ok (.iload_n 1, 1) := by decide +kernel
theorem dX2_rank_22 : decode cX2_rank 22 = .ok (.bipush 6, 2) := by decide +kernel
theorem dX2_rank_24 : decode cX2_rank 24 = .ok (.if_icmp .ge 28, 3) := by decide +kernel
theorem dX2_rank_27 : decode cX2_rank 27 = .ok (.aload_n 0, 1) := by decide +kernel
theorem dX2_rank_28 : decode cX2_rank 28 = .ok (.iload_n 1, 1) := by decide +kernel
theorem dX2_rank_29 : decode cX2_rank 29 = .ok (.iload_n 2, 1) := by decide +kernel
theorem dX2_rank_30 : decode cX2_rank 30 = .ok (.invokevirtual 40, 3) := by decide +kernel
theorem dX2_rank_33 : decode cX2_rank 33 = .ok (.ifCond .ne 13, 3) := by decide +kernel
theorem dX2_rank_36 : decode cX2_rank 36 = .ok (.aload_n 0, 1) := by decide +kernel
theorem dX2_rank_37 : decode cX2_rank 37 = .ok (.iload_n 1, 1) := by decide +kernel
theorem dX2_rank_38 : decode cX2_rank 38 = .ok (.iload_n 2, 1) := by decide +kernel
theorem dX2_rank_39 : decode cX2_rank 39 = .ok (.iload_n 2, 1) := by decide +kernel
theorem dX2_rank_40 : decode cX2_rank 40 = .ok (.invokevirtual 44, 3) := by decide +kernel
theorem dX2_rank_43 : decode cX2_rank 43 = .ok (.iinc 1 1, 3) := by decide +kernel
theorem dX2_rank_46 : decode cX2_rank 46 = .ok (.iinc 2 (-1), 3) := by decide +kernel
theorem dX2_rank_49 : decode cX2_rank 49 = .ok (.goto (-32), 3) := by decide +kernel
theorem dX2_rank_52 : decode cX2_rank 52 = .ok (.iload_n 1, 1) := by decide +kernel
theorem dX2_rank_53 : decode cX2_rank 53 = .ok (.ireturn, 1) := by decide +kernel
theorem dX2_spark_0 : decode cX2_spark 0 = .ok (.aload_n 0, 1) := by decide +kernel
theorem dX2_spark_1 : decode cX2_spark 1 = .ok (.iconst 0, 1) := by decide +kernel
theorem dX2_spark_2 : decode cX2_spark 2 = .ok (.invokevirtual 30, 3) := by decide +kernel
theorem dX2_spark_5 : decode cX2_spark 5 = .ok (.aload_n 0, 1) := by decide +kernel
theorem dX2_spark_6 : decode cX2_spark 6 = .ok (.aload_n 0, 1) := by decide +kernel
theorem dX2_spark_7 : decode cX2_spark 7 = .ok (.getfield 26, 3) := by decide +kernel
theorem dX2_spark_10 : decode cX2_spark 10 = .ok (.getfield 34, 3) := by decide +kernel
theorem dX2_spark_13 : decode cX2_spark 13 = .ok (.aload_n 0, 1) := by decide +kernel
theorem dX2_spark_14 : decode cX2_spark 14 = .ok (.getfield 26, 3) := by decide +kernel
theorem dX2_spark_17 : decode cX2_spark 17 = .ok (.getfield 48, 3) := by decide +kernel
theorem dX2_spark_20 : decode cX2_spark 20 = .ok (.invokestatic 51, 3) := by decide +kernel
theorem dX2_spark_23 : decode cX2_spark 23 = .ok (.iconst 1, 1) := by decide +kernel
theorem dX2_spark_24 : decode cX2_spark 24 = .ok (.iadd, 1) := by decide +kernel
theorem dX2_spark_25 : decode cX2_spark 25 = .ok (.putfield 57, 3) := by decide +kernel
theorem dX2_spark_28 : decode cX2_spark 28 = .ok (.aload_n 0, 1) := by decide +kernel
theorem dX2_spark_29 : decode cX2_spark 29 = .ok (.iconst 0, 1) := by decide +kernel
theorem dX2_spark_30 : decode cX2_spark 30 = .ok (.aload_n 0, 1) := by decide +kernel
theorem dX2_spark_31 : decode cX2_spark 31 = .ok (.getfield 26, 3) := by decide +kernel
theorem dX2_spark_34 : decode cX2_spark 34 = .ok (.getfield 34, 3) := by decide +kernel
theorem dX2_spark_37 : decode cX2_spark 37 = .ok (.invokevirtual 60, 3) := by decide +kernel
theorem dX2_spark_40 : decode cX2_spark 40 = .ok (.aload_n 0, 1) := by decide +kernel
theorem dX2_spark_41 : decode cX2_spark 41 = .ok (.getfield 57, 3) := by decide +kernel
theorem dX2_spark_44 : decode cX2_spark 44 = .ok (.ireturn, 1) := by decide +kernel
theorem dX2_seekBound_0 : decode cX2_seekBound 0 = .ok (.iload_n 1, 1) := by decide +kernel
theorem dX2_seekBound_1 : decode cX2_seekBound 1 = .ok (.iconst 1, 1) := by decide +kernel
theorem dX2_seekBound_2 : decode cX2_seekBound 2 = .ok (.iadd, 1) := by decide +kernel
theorem dX2_seekBound_3 : decode cX2_seekBound 3 = .ok (.aload_n 0, 1) := by decide +kernel
theorem dX2_seekBound_4 : decode cX2_seekBound 4 = .ok (.getfield 57, 3) := by decide +kernel
theorem dX2_seekBound_7 : decode cX2_seekBound 7 = .ok (.if_icmp .ge 9, 3) := by decide +kernel
theorem dX2_seekBound_10 : decode cX2_seekBound 10 = .ok (.iload_n 1, 1) := by decide +kernel
theorem dX2_seekBound_11 : decode cX2_seekBound 11 = .ok (.bipush 6, 2) := by decide +kernel
theorem dX2_seekBound_13 : decode cX2_seekBound 13 = .ok (.if_icmp .lt 4, 3) := by decide +kernel
theorem dX2_seekBound_16 : decode cX2_seekBound 16 = .ok (.return_, 1) := by decide +kernel
theorem dX2_seekBound_17 : decode cX2_seekBound 17 = .ok (.iconst 0, 1) := by decide +kernel
theorem dX2_seekBound_18 : decode cX2_seekBound 18 = .ok (.istore_n 3, 1) := by decide +kernel
theorem dX2_seekBound_19 : decode cX2_seekBound 19 = .ok (.iload_n 3, 1) := by decide +kernel
theorem dX2_seekBound_20 : decode cX2_seekBound 20 = .ok (.iload_n 2, 1) := by decide +kernel
theorem dX2_seekBound_21 : decode cX2_seekBound 21 = .ok (.if_icmp .ge 26, 3) := by decide +kernel
theorem dX2_seekBound_24 : decode cX2_seekBound 24 = .ok (.aload_n 0, 1) := by decide +kernel
theorem dX2_seekBound_25 : decode cX2_seekBound 25 = .ok (.iload_n 1, 1) := by decide +kernel
theorem dX2_seekBound_26 : decode cX2_seekBound 26 = .ok (.iload_n 3, 1) := by decide +kernel
theorem dX2_seekBound_27 : decode cX2_seekBound 27 = .ok (.invokevirtual 40, 3) := by decide +kernel
theorem dX2_seekBound_30 : decode cX2_seekBound 30 = .ok (.ifCond .eq 11, 3) := by decide +kernel
theorem dX2_seekBound_33 : decode cX2_seekBound 33 = .ok (.aload_n 0, 1) := by decide +kernel
theorem dX2_seekBound_34 : decode cX2_seekBound 34 = .ok (.iload_n 1, 1) := by decide +kernel
theorem dX2_seekBound_35 : decode cX2_seekBound 35 = .ok (.iconst 1, 1) := by decide +kernel
theorem dX2_seekBound_36 : decode cX2_seekBound 36 = .ok (.iadd, 1) := by decide +kernel
theorem dX2_seekBound_37 : decode cX2_seekBound 37 = .ok (.putfield 57, 3) := by decide +kernel
theorem dX2_seekBound_40 : decode cX2_seekBound 40 = .ok (.return_, 1) := by decide +kernel
theorem dX2_seekBound_41 : decode cX2_seekBound 41 = .ok (.iinc 3 1, 3) := by decide +kernel
theorem dX2_seekBound_44 : decode cX2_seekBound 44 = .ok (.goto (-25), 3) := by decide +kernel
theorem dX2_seekBound_47 : decode cX2_seekBound 47 = .ok (.iconst 1, 1) := by decide +kernel
theorem dX2_seekBound_48 : decode cX2_seekBound 48 = .ok (.istore_n 3, 1) := by decide +kernel
theorem dX2_seekBound_49 : decode cX2_seekBound 49 = .ok (.iload_n 3, 1) := by decide +kernel
theorem dX2_seekBound_50 : decode cX2_seekBound 50 = .ok (.iload_n 2, 1) := by decide +kernel
theorem dX2_seekBound_51 : decode cX2_seekBound 51 = .ok (.if_icmp .ge 25, 3) := by decide +kernel
theorem dX2_seekBound_54 : decode cX2_seekBound 54 = .ok (.iload_n 1, 1) := by decide +kernel
theorem dX2_seekBound_55 : decode cX2_seekBound 55 = .ok (.iconst 2, 1) := by decide +kernel
theorem dX2_seekBound_56 : decode cX2_seekBound 56 = .ok (.iadd, 1) := by decide +kernel
theorem dX2_seekBound_57 : decode cX2_seekBound 57 = .ok (.aload_n 0, 1) := by decide +kernel
theorem dX2_seekBound_58 : decode cX2_seekBound 58 = .ok (.getfield 57, 3) := by decide +kernel
theorem dX2_seekBound_61 : decode cX2_seekBound 61 = .ok (.if_icmp .ge 15, 3) := by decide +kernel
theorem dX2_seekBound_64 : decode cX2_seekBound 64 = .ok (.aload_n 0, 1) := by decide +kernel
theorem dX2_seekBound_65 : decode cX2_seekBound 65 = .ok (.iload_n 1, 1) := by decide +kernel
theorem dX2_seekBound_66 : decode cX2_seekBound 66 = .ok (.iload_n 3, 1) := by decide +kernel
theorem dX2_seekBound_67 : decode cX2_seekBound 67 = .ok (.invokevirtual 64, 3) := by decide +kernel
theorem dX2_seekBound_70 : decode cX2_seekBound 70 = .ok (.iinc 3 1, 3) := by decide +kernel
theorem dX2_seekBound_73 : decode cX2_seekBound 73 = .ok (.goto (-24), 3) := by decide +kernel
theorem dX2_seekBound_76 : decode cX2_seekBound 76 = .ok (.return_, 1) := by decide +kernel
theorem dX2_seekBoundTo_0 : decode cX2_seekBoundTo 0 = .ok (.aload_n 0, 1) := by decide +kernel
theorem dX2_seekBoundTo_1 : decode cX2_seekBoundTo 1 = .ok (.iload_n 1, 1) := by decide +kernel
theorem dX2_seekBoundTo_2 : decode cX2_seekBoundTo 2 = .ok (.iload_n 2, 1) := by decide +kernel
theorem dX2_seekBoundTo_3 : decode cX2_seekBoundTo 3 = .ok (.iload_n 2, 1) := by decide +kernel
theorem dX2_seekBoundTo_4 : decode cX2_seekBoundTo 4 = .ok (.invokevirtual 44, 3) := by decide +kernel
theorem dX2_seekBoundTo_7 : decode cX2_seekBoundTo 7 = .ok (.aload_n 0, 1) := by decide +kernel
theorem dX2_seekBoundTo_8 : decode cX2_seekBoundTo 8 = .ok (.iload_n 1, 1) := by decide +kernel
theorem dX2_seekBoundTo_9 : decode cX2_seekBoundTo 9 = .ok (.iconst 1, 1) := by decide +kernel
theorem dX2_seekBoundTo_10 : decode cX2_seekBoundTo 10 = .ok (.iadd, 1) := by decide +kernel
theorem dX2_seekBoundTo_11 : decode cX2_seekBoundTo 11 = .ok (.iload_n 2, 1) := by decide +kernel
theorem dX2_seekBoundTo_12 : decode cX2_seekBoundTo 12 = .ok (.invokevirtual 60, 3) := by decide +kernel
theorem dX2_seekBoundTo_15 : decode cX2_seekBoundTo 15 = .ok (.return_, 1) := by decide +kernel
theorem dX2_waysToTell_0 : decode cX2_waysToTell 0 = .ok (.aload_n 0, 1) := by decide +kernel
theorem dX2_waysToTell_1 : decode cX2_waysToTell 1 = .ok (.iload_n 2, 1) := by decide +kernel
theorem dX2_waysToTell_2 : decode cX2_waysToTell 2 = .ok (.invokevirtual 30, 3) := by decide +kernel
theorem dX2_waysToTell_5 : decode cX2_waysToTell 5 = .ok (.aload_n 0, 1) := by decide +kernel
theorem dX2_waysToTell_6 : decode cX2_waysToTell 6 = .ok (.aload_n 1, 1) := by decide +kernel
theorem dX2_waysToTell_7 : decode cX2_waysToTell 7 = .ok (.iload_n 2, 1) := by decide +kernel
theorem dX2_waysToTell_8 : decode cX2_waysToTell 8 = .ok (.invokevirtual 67, 3) := by decide +kernel
theorem dX2_waysToTell_11 : decode cX2_waysToTell 11 = .ok (.aload_n 0, 1) := by decide +kernel
theorem dX2_waysToTell_12 : decode cX2_waysToTell 12 = .ok (.iload_n 3, 1) := by decide +kernel
theorem dX2_waysToTell_13 : decode cX2_waysToTell 13 = .ok (.putfield 71, 3) := by decide +kernel
theorem dX2_waysToTell_16 : decode cX2_waysToTell 16 = .ok (.aload_n 0, 1) := by decide +kernel
theorem dX2_waysToTell_17 : decode cX2_waysToTell 17 = .ok (.iload 4, 2) := by decide +kernel
theorem dX2_waysToTell_19 : decode cX2_waysToTell 19 = .ok (.putfield 74, 3) := by decide +kernel
theorem dX2_waysToTell_22 : decode cX2_waysToTell 22 = .ok (.aload_n 0, 1) := by decide +kernel
theorem dX2_waysToTell_23 : decode cX2_waysToTell 23 = .ok (.iconst 0, 1) := by decide +kernel
theorem dX2_waysToTell_24 : decode cX2_waysToTell 24 = .ok (.putfield 77, 3) := by decide +kernel
theorem dX2_waysToTell_27 : decode cX2_waysToTell 27 = .ok (.aload_n 0, 1) := by decide +kernel
theorem dX2_waysToTell_28 : decode cX2_waysToTell 28 = .ok (.iconst 0, 1) := by decide +kernel
theorem dX2_waysToTell_29 : decode cX2_waysToTell 29 = .ok (.aload_n 0, 1) := by decide +kernel
theorem dX2_waysToTell_30 : decode cX2_waysToTell 30 = .ok (.getfield 26, 3) := by decide +kernel
theorem dX2_waysToTell_33 : decode cX2_waysToTell 33 = .ok (.getfield 34, 3) := by decide +kernel
theorem dX2_waysToTell_36 : decode cX2_waysToTell 36 = .ok (.iconst 0, 1) := by decide +kernel
theorem dX2_waysToTell_37 : decode cX2_waysToTell 37 = .ok (.invokevirtual 80, 3) := by decide +kernel
theorem dX2_waysToTell_40 : decode cX2_waysToTell 40 = .ok (.aload_n 0, 1) := by decide +kernel
theorem dX2_waysToTell_41 : decode cX2_waysToTell 41 = .ok (.getfield 77, 3) := by decide +kernel
theorem dX2_waysToTell_44 : decode cX2_waysToTell 44 = .ok (.ireturn, 1) := by decide +kernel
theorem dX2_seekTelling_0 : decode cX2_seekTelling 0 = .ok (.iload_n 1, 1) := by decide +kernel
theorem dX2_seekTelling_1 : decode cX2_seekTelling 1 = .ok (.aload_n 0, 1) := by decide +kernel
theorem dX2_seekTelling_2 : decode cX2_seekTelling 2 = .ok (.getfield 71, 3) := by decide +kernel
theorem dX2_seekTelling_5 : decode cX2_seekTelling 5 = .ok (.if_icmp .lt 19, 3) := by decide +kernel
theorem dX2_seekTelling_8 : decode cX2_seekTelling 8 = .ok (.aload_n 0, 1) := by decide +kernel
theorem dX2_seekTelling_9 : decode cX2_seekTelling 9 = .ok (.iload_n 1, 1) := by decide +kernel
theorem dX2_seekTelling_10 : decode cX2_seekTelling 10 = .ok (.bipush 12, 2) := by decide +kernel
theorem dX2_seekTelling_12 : decode cX2_seekTelling 12 = .ok (.invokevirtual 40, 3) := by decide +kernel
theorem dX2_seekTelling_15 : decode cX2_seekTelling 15 = .ok (.ifCond .eq 8, 3) := by decide +kernel
theorem dX2_seekTelling_18 : decode cX2_seekTelling 18 = .ok (.aload_n 0, 1) := by decide +kernel
theorem dX2_seekTelling_19 : decode cX2_seekTelling 19 = .ok (.iload_n 3, 1) := by decide +kernel
theorem dX2_seekTelling_20 : decode cX2_seekTelling 20 = .ok (.invokevirtual 83, 3) := by decide +kernel
theorem dX2_seekTelling_23 : decode cX2_seekTelling 23 = .ok (.return_, 1) := by decide +kernel
theorem dX2_seekTelling_24 : decode cX2_seekTelling 24 = .ok (.iload_n 1, 1) := by decide +kernel
theorem dX2_seekTelling_25 : decode cX2_seekTelling 25 = .ok (.bipush 6, 2) := by decide +kernel
theorem dX2_seekTelling_27 : decode cX2_seekTelling 27 = .ok (.if_icmp .lt 4, 3) := by decide +kernel
theorem dX2_seekTelling_30 : decode cX2_seekTelling 30 = .ok (.return_, 1) := by decide +kernel
theorem dX2_seekTelling_31 : decode cX2_seekTelling 31 = .ok (.aload_n 0, 1) := by decide +kernel
theorem dX2_seekTelling_32 : decode cX2_seekTelling 32 = .ok (.getfield 71, 3) := by decide +kernel
theorem dX2_seekTelling_35 : decode cX2_seekTelling 35 = .ok (.iload_n 1, 1) := by decide +kernel
theorem dX2_seekTelling_36 : decode cX2_seekTelling 36 = .ok (.isub, 1) := by decide +kernel
theorem dX2_seekTelling_37 : decode cX2_seekTelling 37 = .ok (.iconst 1, 1) := by decide +kernel
theorem dX2_seekTelling_38 : decode cX2_seekTelling 38 = .ok (.isub, 1) := by decide +kernel
theorem dX2_seekTelling_39 : decode cX2_seekTelling 39 = .ok (.istore 4, 2) := by decide +kernel
theorem dX2_seekTelling_41 : decode cX2_seekTelling 41 = .ok (.iload 4, 2) := by decide +kernel
theorem dX2_seekTelling_43 : decode cX2_seekTelling 43 = .ok (.istore 5, 2) := by decide +kernel
theorem dX2_seekTelling_45 : decode cX2_seekTelling 45 = .ok (.iload 5, 2) := by decide +kernel
theorem dX2_seekTelling_47 : decode cX2_seekTelling 47 = .ok (.iload_n 2, 1) := by decide +kernel
theorem dX2_seekTelling_48 : decode cX2_seekTelling 48 = .ok (.if_icmp .ge 38, 3) := by decide +kernel
theorem dX2_seekTelling_51 : decode cX2_seekTelling 51 = .ok (.aload_n 0, 1) := by decide +kernel
theorem dX2_seekTelling_52 : decode cX2_seekTelling 52 = .ok (.getfield 77, 3) := by decide +kernel
theorem dX2_seekTelling_55 : decode cX2_seekTelling 55 = .ok (.aload_n 0, 1) := by decide +kernel
theorem dX2_seekTelling_56 : decode cX2_seekTelling 56 = .ok (.getfield 74, 3) := by decide +kernel
theorem dX2_seekTelling_59 : decode cX2_seekTelling 59 = .ok (.if_icmp .ge 27, 3) := by decide +kernel
theorem dX2_seekTelling_62 : decode cX2_seekTelling 62 = .ok (.aload_n 0, 1) := by decide +kernel
theorem dX2_seekTelling_63 : decode cX2_seekTelling 63 = .ok (.iload_n 1, 1) := by decide +kernel
theorem dX2_seekTelling_64 : decode cX2_seekTelling 64 = .ok (.iload 5, 2) := by decide +kernel
theorem dX2_seekTelling_66 : decode cX2_seekTelling 66 = .ok (.invokevirtual 40, 3) := by decide +kernel
theorem dX2_seekTelling_69 : decode cX2_seekTelling 69 = .ok (.ifCond .ne 11, 3) := by decide +kernel
theorem dX2_seekTelling_72 : decode cX2_seekTelling 72 = .ok (.aload_n 0, 1) := by decide +kernel
theorem dX2_seekTelling_73 : decode cX2_seekTelling 73 = .ok (.iload_n 1, 1) := by decide +kernel
theorem dX2_seekTelling_74 : decode cX2_seekTelling 74 = .ok (.iload 5, 2) := by decide +kernel
theorem dX2_seekTelling_76 : decode cX2_seekTelling 76 = .ok (.iload_n 3, 1) := by decide +kernel
theorem dX2_seekTelling_77 : decode cX2_seekTelling 77 = .ok (.invokevirtual 86, 3) := by decide +kernel
theorem dX2_seekTelling_80 : decode cX2_seekTelling 80 = .ok (.iinc 5 1, 3) := by decide +kernel
theorem dX2_seekTelling_83 : decode cX2_seekTelling 83 = .ok (.goto (-38), 3) := by decide +kernel
theorem dX2_seekTelling_86 : decode cX2_seekTelling 86 = .ok (.return_, 1) := by decide +kernel
theorem dX2_seekTellingWith_0 : decode cX2_seekTellingWith 0 = .ok (.iload_n 1, 1) := by decide +kernel
theorem dX2_seekTellingWith_1 : decode cX2_seekTellingWith 1 = .ok (.iconst 1, 1) := by decide +kernel
theorem dX2_seekTellingWith_2 : decode cX2_seekTellingWith 2 = .ok (.iadd, 1) := by decide +kernel
theorem dX2_seekTellingWith_3 : decode cX2_seekTellingWith 3 = .ok (.aload_n 0, 1) := by decide +kernel
theorem dX2_seekTellingWith_4 : decode cX2_seekTellingWith 4 = .ok (.getfield 71, 3) := by decide +kernel
theorem dX2_seekTellingWith_7 : decode cX2_seekTellingWith 7 = .ok (.if_icmp .lt 7, 3) := by decide +kernel
theorem dX2_seekTellingWith_10 : decode cX2_seekTellingWith 10 = .ok (.iconst 1, 1) := by decide +kernel
theorem dX2_seekTellingWith_11 : decode cX2_seekTellingWith 11 = .ok (.goto 4, 3) := by decide +kernel
theorem dX2_seekTellingWith_14 : decode cX2_seekTellingWith 14 = .ok (.iconst 0, 1) := by decide +kernel
theorem dX2_seekTellingWith_15 : decode cX2_seekTellingWith 15 = .ok (.istore 4, 2) := by decide +kernel
theorem dX2_seekTellingWith_17 : decode cX2_seekTellingWith 17 = .ok (.aload_n 0, 1) := by decide +kernel
theorem dX2_seekTellingWith_18 : decode cX2_seekTellingWith 18 = .ok (.iload_n 1, 1) := by decide +kernel
theorem dX2_seekTellingWith_19 : decode cX2_seekTellingWith 19 = .ok (.iload_n 2, 1) := by decide +kernel
theorem dX2_seekTellingWith_20 : decode cX2_seekTellingWith 20 = .ok (.iload 4, 2) := by decide +kernel
theorem dX2_seekTellingWith_22 : decode cX2_seekTellingWith 22 = .ok (.ifCond .eq 7, 3) := by decide +kernel
theorem dX2_seekTellingWith_25 : decode cX2_seekTellingWith 25 = .ok (.iconst 0, 1) := by decide +kernel
theorem dX2_seekTellingWith_26 : decode cX2_seekTellingWith 26 = .ok (.goto 4, 3) := by decide +kernel
theorem dX2_seekTellingWith_29 : decode cX2_seekTellingWith 29 = .ok (.iload_n 2, 1) := by decide +kernel
theorem dX2_seekTellingWith_30 : decode cX2_seekTellingWith 30 = .ok (.invokevirtual 44, 3) := by decide +kernel
theorem dX2_seekTellingWith_33 : decode cX2_seekTellingWith 33 = .ok (.aload_n 0, 1) := by decide +kernel
theorem dX2_seekTellingWith_34 : decode cX2_seekTellingWith 34 = .ok (.bipush 12, 2) := by decide +kernel
theorem dX2_seekTellingWith_36 : decode cX2_seekTellingWith 36 = .ok (.iload_n 1, 1) := by decide +kernel
theorem dX2_seekTellingWith_37 : decode cX2_seekTellingWith 37 = .ok (.iload_n 2, 1) := by decide +kernel
theorem dX2_seekTellingWith_38 : decode cX2_seekTellingWith 38 = .ok (.invokevirtual 89, 3) := by decide +kernel
theorem dX2_seekTellingWith_41 : decode cX2_seekTellingWith 41 = .ok (.aload_n 0, 1) := by decide +kernel
theorem dX2_seekTellingWith_42 : decode cX2_seekTellingWith 42 = .ok (.iload_n 1, 1) := by decide +kernel
theorem dX2_seekTellingWith_43 : decode cX2_seekTellingWith 43 = .ok (.iconst 1, 1) := by decide +kernel
theorem dX2_seekTellingWith_44 : decode cX2_seekTellingWith 44 = .ok (.iadd, 1) := by decide +kernel
theorem dX2_seekTellingWith_45 : decode cX2_seekTellingWith 45 = .ok (.iload_n 2, 1) := by decide +kernel
theorem dX2_seekTellingWith_46 : decode cX2_seekTellingWith 46 = .ok (.iload_n 3, 1) := by decide +kernel
theorem dX2_seekTellingWith_47 : decode cX2_seekTellingWith 47 = .ok (.iconst 1, 1) := by decide +kernel
theorem dX2_seekTellingWith_48 : decode cX2_seekTellingWith 48 = .ok (.iload_n 2, 1) := by decide +kernel
theorem dX2_seekTellingWith_49 : decode cX2_seekTellingWith 49 = .ok (.ishl, 1) := by decide +kernel
theorem dX2_seekTellingWith_50 : decode cX2_seekTellingWith 50 = .ok (.ior, 1) := by decide +kernel
theorem dX2_seekTellingWith_51 : decode cX2_seekTellingWith 51 = .ok (.invokevirtual 80, 3) := by decide +kernel
theorem dX2_seekTellingWith_54 : decode cX2_seekTellingWith 54 = .ok (.return_, 1) := by decide +kernel
theorem dX2_noteTelling_0 : decode cX2_noteTelling 0 = .ok (.aload_n 0, 1) := by decide +kernel
theorem dX2_noteTelling_1 : decode cX2_noteTelling 1 = .ok (.dup, 1) := by decide +kernel
theorem dX2_noteTelling_2 : decode cX2_noteTelling 2 = .ok (.getfield 77, 3) := by decide +kernel
theorem dX2_noteTelling_5 : decode cX2_noteTelling 5 = .ok (.iconst 1, 1) := by decide +kernel
theorem dX2_noteTelling_6 : decode cX2_noteTelling 6 = .ok (.iadd, 1) := by decide +kernel
theorem dX2_noteTelling_7 : decode cX2_noteTelling 7 = .ok (.putfield 77, 3) := by decide +kernel
theorem dX2_noteTelling_10 : decode cX2_noteTelling 10 = .ok (.aload_n 0, 1) := by decide +kernel
theorem dX2_noteTelling_11 : decode cX2_noteTelling 11 = .ok (.getfield 77, 3) := by decide +kernel
theorem dX2_noteTelling_14 : decode cX2_noteTelling 14 = .ok (.iconst 1, 1) := by decide +kernel
theorem dX2_noteTelling_15 : decode cX2_noteTelling 15 = .ok (.if_icmp .le 4, 3) := by decide +kernel
theorem dX2_noteTelling_18 : decode cX2_noteTelling 18 = .ok (.return_, 1) := by decide +kernel
theorem dX2_noteTelling_19 : decode cX2_noteTelling 19 = .ok (.aload_n 0, 1) := by decide +kernel
theorem dX2_noteTelling_20 : decode cX2_noteTelling 20 = .ok (.iload_n 1, 1) := by decide +kernel
theorem dX2_noteTelling_21 : decode cX2_noteTelling 21 = .ok (.putfield 92, 3) := by decide +kernel
theorem dX2_noteTelling_24 : decode cX2_noteTelling 24 = .ok (.aload_n 0, 1) := by decide +kernel
theorem dX2_noteTelling_25 : decode cX2_noteTelling 25 = .ok (.getfield 23, 3) := by decide +kernel
theorem dX2_noteTelling_28 : decode cX2_noteTelling 28 = .ok (.invokestatic 95, 3) := by decide +kernel
theorem dX2_noteTelling_31 : decode cX2_noteTelling 31 = .ok (.aload_n 0, 1) := by decide +kernel
theorem dX2_noteTelling_32 : decode cX2_noteTelling 32 = .ok (.getfield 71, 3) := by decide +kernel
theorem dX2_noteTelling_35 : decode cX2_noteTelling 35 = .ok (.iconst 1, 1) := by decide +kernel
theorem dX2_noteTelling_36 : decode cX2_noteTelling 36 = .ok (.isub, 1) := by decide +kernel
theorem dX2_noteTelling_37 : decode cX2_noteTelling 37 = .ok (.istore_n 2, 1) := by decide +kernel
theorem dX2_noteTelling_38 : decode cX2_noteTelling 38 = .ok (.iload_n 2, 1) := by decide +kernel
theorem dX2_noteTelling_39 : decode cX2_noteTelling 39 = .ok (.ifCond .lt 25, 3) := by decide +kernel
theorem dX2_noteTelling_42 : decode cX2_noteTelling 42 = .ok (.aload_n 0, 1) := by decide +kernel
theorem dX2_noteTelling_43 : decode cX2_noteTelling 43 = .ok (.getfield 23, 3) := by decide +kernel
theorem dX2_noteTelling_46 : decode cX2_noteTelling 46 = .ok (.aload_n 0, 1) := by decide +kernel
theorem dX2_noteTelling_47 : decode cX2_noteTelling 47 = .ok (.getfield 16, 3) := by decide +kernel
theorem dX2_noteTelling_50 : decode cX2_noteTelling 50 = .ok (.iload_n 2, 1) := by decide +kernel
theorem dX2_noteTelling_51 : decode cX2_noteTelling 51 = .ok (.iaload, 1) := by decide +kernel
theorem dX2_noteTelling_52 : decode cX2_noteTelling 52 = .ok (.aload_n 0, 1) := by decide +kernel
theorem dX2_noteTelling_53 : decode cX2_noteTelling 53 = .ok (.iload_n 2, 1) := by decide +kernel
theorem dX2_noteTelling_54 : decode cX2_noteTelling 54 = .ok (.invokevirtual 99, 3) := by decide +kernel
theorem dX2_noteTelling_57 : decode cX2_noteTelling 57 = .ok (.iastore, 1) := by decide +kernel
theorem dX2_noteTelling_58 : decode cX2_noteTelling 58 = .ok (.iinc 2 (-1), 3) := by decide +kernel
theorem dX2_noteTelling_61 : decode cX2_noteTelling 61 = .ok (.goto (-23), 3) := by decide +kernel
theorem dX2_noteTelling_64 : decode cX2_noteTelling 64 = .ok (.return_, 1) := by decide +kernel
theorem dX2_factorAt_0 : decode cX2_factorAt 0 = .ok (.aload_n 0, 1) := by decide +kernel
theorem dX2_factorAt_1 : decode cX2_factorAt 1 = .ok (.getfield 20, 3) := by decide +kernel
theorem dX2_factorAt_4 : decode cX2_factorAt 4 = .ok (.iload_n 1, 1) := by decide +kernel
theorem dX2_factorAt_5 : decode cX2_factorAt 5 = .ok (.iaload, 1) := by decide +kernel
theorem dX2_factorAt_6 : decode cX2_factorAt 6 = .ok (.istore_n 2, 1) := by decide +kernel
theorem dX2_factorAt_7 : decode cX2_factorAt 7 = .ok (.aload_n 0, 1) := by decide +kernel
theorem dX2_factorAt_8 : decode cX2_factorAt 8 = .ok (.getfield 11, 3) := by decide +kernel
theorem dX2_factorAt_11 : decode cX2_factorAt 11 = .ok (.iload_n 1, 1) := by decide +kernel
theorem dX2_factorAt_12 : decode cX2_factorAt 12 = .ok (.aaload, 1) := by decide +kernel
theorem dX2_factorAt_13 : decode cX2_factorAt 13 = .ok (.bipush 72, 2) := by decide +kernel
theorem dX2_factorAt_15 : decode cX2_factorAt 15 = .ok (.iload_n 2, 1) := by decide +kernel
theorem dX2_factorAt_16 : decode cX2_factorAt 16 = .ok (.iadd, 1) := by decide +kernel
theorem dX2_factorAt_17 : decode cX2_factorAt 17 = .ok (.iaload, 1) := by decide +kernel
theorem dX2_factorAt_18 : decode cX2_factorAt 18 = .ok (.istore_n 3, 1) := by decide +kernel
theorem dX2_factorAt_19 : decode cX2_factorAt 19 = .ok (.iload_n 1, 1) := by decide +kernel
theorem dX2_factorAt_20 : decode cX2_factorAt 20 = .ok (.iconst 1, 1) := by decide +kernel
theorem dX2_factorAt_21 : decode cX2_factorAt 21 = .ok (.iadd, 1) := by decide +kernel
theorem dX2_factorAt_22 : decode cX2_factorAt 22 = .ok (.istore 4, 2) := by decide +kernel
theorem dX2_factorAt_24 : decode cX2_factorAt 24 = .ok (.iload 4, 2) := by decide +kernel
theorem dX2_factorAt_26 : decode cX2_factorAt 26 = .ok (.aload_n 0, 1) := by decide +kernel
theorem dX2_factorAt_27 : decode cX2_factorAt 27 = .ok (.getfield 71, 3) := by decide +kernel
theorem dX2_factorAt_30 : decode cX2_factorAt 30 = .ok (.if_icmp .ge 52, 3) := by decide +kernel
theorem dX2_factorAt_33 : decode cX2_factorAt 33 = .ok (.iload_n 3, 1) := by decide +kernel
theorem dX2_factorAt_34 : decode cX2_factorAt 34 = .ok (.aload_n 0, 1) := by decide +kernel
theorem dX2_factorAt_35 : decode cX2_factorAt 35 = .ok (.getfield 23, 3) := by decide +kernel
theorem dX2_factorAt_38 : decode cX2_factorAt 38 = .ok (.aload_n 0, 1) := by decide +kernel
theorem dX2_factorAt_39 : decode cX2_factorAt 39 = .ok (.getfield 16, 3) := by decide +kernel
theorem dX2_factorAt_42 : decode cX2_factorAt 42 = .ok (.iload 4, 2) := by decide +kernel
theorem dX2_factorAt_44 : decode cX2_factorAt 44 = .ok (.iaload, 1) := by decide +kernel
theorem dX2_factorAt_45 : decode cX2_factorAt 45 = .ok (.iaload, 1) := by decide +kernel
theorem dX2_factorAt_46 : decode cX2_factorAt 46 = .ok (.aload_n 0, 1) := by decide +kernel
theorem dX2_factorAt_47 : decode cX2_factorAt 47 = .ok (.getfield 26, 3) := by decide +kernel
theorem dX2_factorAt_50 : decode cX2_factorAt 50 = .ok (.getfield 103, 3) := by decide +kernel
theorem dX2_factorAt_53 : decode cX2_factorAt 53 = .ok (.aload_n 0, 1) := by decide +kernel
theorem dX2_factorAt_54 : decode cX2_factorAt 54 = .ok (.getfield 11, 3) := by decide +kernel
theorem dX2_factorAt_57 : decode cX2_factorAt 57 = .ok (.iload_n 1, 1) := by decide +kernel
theorem dX2_factorAt_58 : decode cX2_factorAt 58 = .ok (.aaload, 1) := by decide +kernel
theorem dX2_factorAt_59 : decode cX2_factorAt 59 = .ok (.aload_n 0, 1) := by decide +kernel
theorem dX2_factorAt_60 : decode cX2_factorAt 60 = .ok (.getfield 16, 3) := by decide +kernel
theorem dX2_factorAt_63 : decode cX2_factorAt 63 = .ok (.iload 4, 2) := by decide +kernel
theorem dX2_factorAt_65 : decode cX2_factorAt 65 = .ok (.iaload, 1) := by decide +kernel
theorem dX2_factorAt_66 : decode cX2_factorAt 66 = .ok (.bipush 6, 2) := by decide +kernel
theorem dX2_factorAt_68 : decode cX2_factorAt 68 = .ok (.imul, 1) := by decide +kernel
theorem dX2_factorAt_69 : decode cX2_factorAt 69 = .ok (.iload_n 2, 1) := by decide +kernel
theorem dX2_factorAt_70 : decode cX2_factorAt 70 = .ok (.iadd, 1) := by decide +kernel
theorem dX2_factorAt_71 : decode cX2_factorAt 71 = .ok (.iaload, 1) := by decide +kernel
theorem dX2_factorAt_72 : decode cX2_factorAt 72 = .ok (.isub, 1) := by decide +kernel
theorem dX2_factorAt_73 : decode cX2_factorAt 73 = .ok (.imul, 1) := by decide +kernel
theorem dX2_factorAt_74 : decode cX2_factorAt 74 = .ok (.iadd, 1) := by decide +kernel
theorem dX2_factorAt_75 : decode cX2_factorAt 75 = .ok (.istore_n 3, 1) := by decide +kernel
theorem dX2_factorAt_76 : decode cX2_factorAt 76 = .ok (.iinc 4 1, 3) := by decide +kernel
theorem dX2_factorAt_79 : decode cX2_factorAt 79 = .ok (.goto (-55), 3) := by decide +kernel
theorem dX2_factorAt_82 : decode cX2_factorAt 82 = .ok (.aload_n 0, 1) := by decide +kernel
theorem dX2_factorAt_83 : decode cX2_factorAt 83 = .ok (.getfield 26, 3) := by decide +kernel
theorem dX2_factorAt_86 : decode cX2_factorAt 86 = .ok (.iload_n 3, 1) := by decide +kernel
theorem dX2_factorAt_87 : decode cX2_factorAt 87 = .ok (.aload_n 0, 1) := by decide +kernel
theorem dX2_factorAt_88 : decode cX2_factorAt 88 = .ok (.getfield 26, 3) := by decide +kernel
theorem dX2_factorAt_91 : decode cX2_factorAt 91 = .ok (.getfield 103, 3) := by decide +kernel
theorem dX2_factorAt_94 : decode cX2_factorAt 94 = .ok (.irem, 1) := by decide +kernel
theorem dX2_factorAt_95 : decode cX2_factorAt 95 = .ok (.aload_n 0, 1) := by decide +kernel
theorem dX2_factorAt_96 : decode cX2_factorAt 96 = .ok (.getfield 11, 3) := by decide +kernel
theorem dX2_factorAt_99 : decode cX2_factorAt 99 = .ok (.iload_n 1, 1) := by decide +kernel
theorem dX2_factorAt_100 : decode cX2_factorAt 100 = .ok (.aaload, 1) := by decide +kernel
theorem dX2_factorAt_101 : decode cX2_factorAt 101 = .ok (.aload_n 0, 1) := by decide +kernel
theorem dX2_factorAt_102 : decode cX2_factorAt 102 = .ok (.getfield 16, 3) := by decide +kernel
theorem dX2_factorAt_105 : decode cX2_factorAt 105 = .ok (.iload_n 1, 1) := by decide +kernel
theorem dX2_factorAt_106 : decode cX2_factorAt 106 = .ok (.iaload, 1) := by decide +kernel
theorem dX2_factorAt_107 : decode cX2_factorAt 107 = .ok (.bipush 6, 2) := by decide +kernel
theorem dX2_factorAt_109 : decode cX2_factorAt 109 = .ok (.imul, 1) := by decide +kernel
theorem dX2_factorAt_110 : decode cX2_factorAt 110 = .ok (.iload_n 2, 1) := by decide +kernel
theorem dX2_factorAt_111 : decode cX2_factorAt 111 = .ok (.iadd, 1) := by decide +kernel
theorem dX2_factorAt_112 : decode cX2_factorAt 112 = .ok (.iaload, 1) := by decide +kernel
theorem dX2_factorAt_113 : decode cX2_factorAt 113 = .ok (.invokevirtual 106, 3) := by decide +kernel
theorem dX2_factorAt_116 : decode cX2_factorAt 116 = .ok (.ireturn, 1) := by decide +kernel
theorem dX2_loadColumns_0 : decode cX2_loadColumns 0 = .ok (.aload_n 0, 1) := by decide +kernel
theorem dX2_loadColumns_1 : decode cX2_loadColumns 1 = .ok (.iconst 0, 1) := by decide +kernel
theorem dX2_loadColumns_2 : decode cX2_loadColumns 2 = .ok (.putfield 109, 3) := by decide +kernel
theorem dX2_loadColumns_5 : decode cX2_loadColumns 5 = .ok (.iconst 0, 1) := by decide +kernel
theorem dX2_loadColumns_6 : decode cX2_loadColumns 6 = .ok (.istore_n 2, 1) := by decide +kernel
theorem dX2_loadColumns_7 : decode cX2_loadColumns 7 = .ok (.iload_n 2, 1) := by decide +kernel
theorem dX2_loadColumns_8 : decode cX2_loadColumns 8 = .ok (.aload_n 0, 1) := by decide +kernel
theorem dX2_loadColumns_9 : decode cX2_loadColumns 9 = .ok (.getfield 26, 3) := by decide +kernel
theorem dX2_loadColumns_12 : decode cX2_loadColumns 12 = .ok (.getfield 48, 3) := by decide +kernel
theorem dX2_loadColumns_15 : decode cX2_loadColumns 15 = .ok (.if_icmp .ge 73, 3) := by decide +kernel
theorem dX2_loadColumns_18 : decode cX2_loadColumns 18 = .ok (.iload_n 1, 1) := by decide +kernel
theorem dX2_loadColumns_19 : decode cX2_loadColumns 19 = .ok (.iload_n 2, 1) := by decide +kernel
theorem dX2_loadColumns_20 : decode cX2_loadColumns 20 = .ok (.ishr, 1) := by decide +kernel
theorem dX2_loadColumns_21 : decode cX2_loadColumns 21 = .ok (.iconst 1, 1) := by decide +kernel
theorem dX2_loadColumns_22 : decode cX2_loadColumns 22 = .ok (.iand, 1) := by decide +kernel
theorem dX2_loadColumns_23 : decode cX2_loadColumns 23 = .ok (.ifCond .ne 59, 3) := by decide +kernel
theorem dX2_loadColumns_26 : decode cX2_loadColumns 26 = .ok (.iconst 0, 1) := by decide +kernel
theorem dX2_loadColumns_27 : decode cX2_loadColumns 27 = .ok (.istore_n 3, 1) := by decide +kernel
theorem dX2_loadColumns_28 : decode cX2_loadColumns 28 = .ok (.iload_n 3, 1) := by decide +kernel
theorem dX2_loadColumns_29 : decode cX2_loadColumns 29 = .ok (.aload_n 0, 1) := by decide +kernel
theorem dX2_loadColumns_30 : decode cX2_loadColumns 30 = .ok (.getfield 26, 3) := by decide +kernel
theorem dX2_loadColumns_33 : decode cX2_loadColumns 33 = .ok (.getfield 34, 3) := by decide +kernel
theorem dX2_loadColumns_36 : decode cX2_loadColumns 36 = .ok (.if_icmp .ge 36, 3) := by decide +kernel
theorem dX2_loadColumns_39 : decode cX2_loadColumns 39 = .ok (.aload_n 0, 1) := by decide +kernel
theorem dX2_loadColumns_40 : decode cX2_loadColumns 40 = .ok (.getfield 11, 3) := by decide +kernel
theorem dX2_loadColumns_43 : decode cX2_loadColumns 43 = .ok (.iconst 0, 1) := by decide +kernel
theorem dX2_loadColumns_44 : decode cX2_loadColumns 44 = .ok (.aaload, 1) := by decide +kernel
theorem dX2_loadColumns_45 : decode cX2_loadColumns 45 = .ok (.iload_n 3, 1) := by decide +kernel
theorem dX2_loadColumns_46 : decode cX2_loadColumns 46 = .ok (.bipush 6, 2) := by decide +kernel
theorem dX2_loadColumns_48 : decode cX2_loadColumns 48 = .ok (.imul, 1) := by decide +kernel
theorem dX2_loadColumns_49 : decode cX2_loadColumns 49 = .ok (.aload_n 0, 1) := by decide +kernel
theorem dX2_loadColumns_50 : decode cX2_loadColumns 50 = .ok (.getfield 109, 3) := by decide +kernel
theorem dX2_loadColumns_53 : decode cX2_loadColumns 53 = .ok (.iadd, 1) := by decide +kernel
theorem dX2_loadColumns_54 : decode cX2_loadColumns 54 = .ok (.aload_n 0, 1) := by decide +kernel
theorem dX2_loadColumns_55 : decode cX2_loadColumns 55 = .ok (.getfield 26, 3) := by decide +kernel
theorem dX2_loadColumns_58 : decode cX2_loadColumns 58 = .ok (.getfield 110, 3) := by decide +kernel
theorem dX2_loadColumns_61 : decode cX2_loadColumns 61 = .ok (.iload_n 2, 1) := by decide +kernel
theorem dX2_loadColumns_62 : decode cX2_loadColumns 62 = .ok (.aaload, 1) := by decide +kernel
theorem dX2_loadColumns_63 : decode cX2_loadColumns 63 = .ok (.iload_n 3, 1) := by decide +kernel
theorem dX2_loadColumns_64 : decode cX2_loadColumns 64 = .ok (.iaload, 1) := by decide +kernel
theorem dX2_loadColumns_65 : decode cX2_loadColumns 65 = .ok (.iastore, 1) := by decide +kernel
theorem dX2_loadColumns_66 : decode cX2_loadColumns 66 = .ok (.iinc 3 1, 3) := by decide +kernel
theorem dX2_loadColumns_69 : decode cX2_loadColumns 69 = .ok (.goto (-41), 3) := by decide +kernel
theorem dX2_loadColumns_72 : decode cX2_loadColumns 72 = .ok (.aload_n 0, 1) := by decide +kernel
theorem dX2_loadColumns_73 : decode cX2_loadColumns 73 = .ok (.dup, 1) := by decide +kernel
theorem dX2_loadColumns_74 : decode cX2_loadColumns 74 = .ok (.getfield 109, 3) := by decide +kernel
theorem dX2_loadColumns_77 : decode cX2_loadColumns 77 = .ok (.iconst 1, 1) := by decide +kernel
theorem dX2_loadColumns_78 : decode cX2_loadColumns 78 = .ok (.iadd, 1) := by decide +kernel
theorem dX2_loadColumns_79 : decode cX2_loadColumns 79 = .ok (.putfield 109, 3) := by decide +kernel
theorem dX2_loadColumns_82 : decode cX2_loadColumns 82 = .ok (.iinc 2 1, 3) := by decide +kernel
theorem dX2_loadColumns_85 : decode cX2_loadColumns 85 = .ok (.goto (-78), 3) := by decide +kernel
theorem dX2_loadColumns_88 : decode cX2_loadColumns 88 = .ok (.return_, 1) := by decide +kernel
theorem dX2_loadSums_0 : decode cX2_loadSums 0 = .ok (.bipush 72, 2) := by decide +kernel
theorem dX2_loadSums_2 : decode cX2_loadSums 2 = .ok (.istore_n 3, 1) := by decide +kernel
theorem dX2_loadSums_3 : decode cX2_loadSums 3 = .ok (.iconst 0, 1) := by decide +kernel
theorem dX2_loadSums_4 : decode cX2_loadSums 4 = .ok (.istore 4, 2) := by decide +kernel
theorem dX2_loadSums_6 : decode cX2_loadSums 6 = .ok (.iload 4, 2) := by decide +kernel
theorem dX2_loadSums_8 : decode cX2_loadSums 8 = .ok (.aload_n 0, 1) := by decide +kernel
theorem dX2_loadSums_9 : decode cX2_loadSums 9 = .ok (.getfield 26, 3) := by decide +kernel
theorem dX2_loadSums_12 : decode cX2_loadSums 12 = .ok (.getfield 48, 3) := by decide +kernel
theorem dX2_loadSums_15 : decode cX2_loadSums 15 = .ok (.if_icmp .ge 33, 3) := by decide +kernel
theorem dX2_loadSums_18 : decode cX2_loadSums 18 = .ok (.iload_n 2, 1) := by decide +kernel
theorem dX2_loadSums_19 : decode cX2_loadSums 19 = .ok (.iload 4, 2) := by decide +kernel
theorem dX2_loadSums_21 : decode cX2_loadSums 21 = .ok (.ishr, 1) := by decide +kernel
theorem dX2_loadSums_22 : decode cX2_loadSums 22 = .ok (.iconst 1, 1) := by decide +kernel
theorem dX2_loadSums_23 : decode cX2_loadSums 23 = .ok (.iand, 1) := by decide +kernel
theorem dX2_loadSums_24 : decode cX2_loadSums 24 = .ok (.ifCond .ne 18, 3) := by decide +kernel
theorem dX2_loadSums_27 : decode cX2_loadSums 27 = .ok (.aload_n 0, 1) := by decide +kernel
theorem dX2_loadSums_28 : decode cX2_loadSums 28 = .ok (.getfield 11, 3) := by decide +kernel
theorem dX2_loadSums_31 : decode cX2_loadSums 31 = .ok (.iconst 0, 1) := by decide +kernel
theorem dX2_loadSums_32 : decode cX2_loadSums 32 = .ok (.aaload, 1) := by decide +kernel
theorem dX2_loadSums_33 : decode cX2_loadSums 33 = .ok (.iload_n 3, 1) := by decide +kernel
theorem dX2_loadSums_34 : decode cX2_loadSums 34 = .ok (.aload_n 1, 1) := by decide +kernel
theorem dX2_loadSums_35 : decode cX2_loadSums 35 = .ok (.iload 4, 2) := by decide +kernel
theorem dX2_loadSums_37 : decode cX2_loadSums 37 = .ok (.iaload, 1) := by decide +kernel
theorem dX2_loadSums_38 : decode cX2_loadSums 38 = .ok (.iastore, 1) := by decide +kernel
theorem dX2_loadSums_39 : decode cX2_loadSums 39 = .ok (.iinc 3 1, 3) := by decide +kernel
theorem dX2_loadSums_42 : decode cX2_loadSums 42 = .ok (.iinc 4 1, 3) := by decide +kernel
theorem dX2_loadSums_45 : decode cX2_loadSums 45 = .ok (.goto (-39), 3) := by decide +kernel
theorem dX2_loadSums_48 : decode cX2_loadSums 48 = .ok (.return_, 1) := by decide +kernel
theorem dX2_isNought_0 : decode cX2_isNought 0 = .ok (.aload_n 0, 1) := by decide +kernel
theorem dX2_isNought_1 : decode cX2_isNought 1 = .ok (.iload_n 1, 1) := by decide +kernel
theorem dX2_isNought_2 : decode cX2_isNought 2 = .ok (.iload_n 2, 1) := by decide +kernel
theorem dX2_isNought_3 : decode cX2_isNought 3 = .ok (.invokevirtual 113, 3) := by decide +kernel
theorem dX2_isNought_6 : decode cX2_isNought 6 = .ok (.aload_n 0, 1) := by decide +kernel
theorem dX2_isNought_7 : decode cX2_isNought 7 = .ok (.getfield 109, 3) := by decide +kernel
theorem dX2_isNought_10 : decode cX2_isNought 10 = .ok (.if_icmp .ne 7, 3) := by decide +kernel
theorem dX2_isNought_13 : decode cX2_isNought 13 = .ok (.iconst 1, 1) := by decide +kernel
theorem dX2_isNought_14 : decode cX2_isNought 14 = .ok (.goto 4, 3) := by decide +kernel
theorem dX2_isNought_17 : decode cX2_isNought 17 = .ok (.iconst 0, 1) := by decide +kernel
theorem dX2_isNought_18 : decode cX2_isNought 18 = .ok (.ireturn, 1) := by decide +kernel
theorem dX2_firstPlace_0 : decode cX2_firstPlace 0 = .ok (.iconst 0, 1) := by decide +kernel
theorem dX2_firstPlace_1 : decode cX2_firstPlace 1 = .ok (.istore_n 3, 1) := by decide +kernel
theorem dX2_firstPlace_2 : decode cX2_firstPlace 2 = .ok (.iload_n 3, 1) := by decide +kernel
theorem dX2_firstPlace_3 : decode cX2_firstPlace 3 = .ok (.aload_n 0, 1) := by decide +kernel
theorem dX2_firstPlace_4 : decode cX2_firstPlace 4 = .ok (.getfield 109, 3) := by decide +kernel
theorem dX2_firstPlace_7 : decode cX2_firstPlace 7 = .ok (.if_icmp .ge 25, 3) := by decide +kernel
theorem dX2_firstPlace_10 : decode cX2_firstPlace 10 = .ok (.aload_n 0, 1) := by decide +kernel
theorem dX2_firstPlace_11 : decode cX2_firstPlace 11 = .ok (.getfield 11, 3) := by decide +kernel
theorem dX2_firstPlace_14 : decode cX2_firstPlace 14 = .ok (.iload_n 1, 1) := by decide +kernel
theorem dX2_firstPlace_15 : decode cX2_firstPlace 15 = .ok (.aaload, 1) := by decide +kernel
theorem dX2_firstPlace_16 : decode cX2_firstPlace 16 = .ok (.iload_n 2, 1) := by decide +kernel
theorem dX2_firstPlace_17 : decode cX2_firstPlace 17 = .ok (.bipush 6, 2) := by decide +kernel
theorem dX2_firstPlace_19 : decode cX2_firstPlace 19 = .ok (.imul, 1) := by decide +kernel
theorem dX2_firstPlace_20 : decode cX2_firstPlace 20 = .ok (.iload_n 3, 1) := by decide +kernel
theorem dX2_firstPlace_21 : decode cX2_firstPlace 21 = .ok (.iadd, 1) := by decide +kernel
theorem dX2_firstPlace_22 : decode cX2_firstPlace 22 = .ok (.iaload, 1) := by decide +kernel
theorem dX2_firstPlace_23 : decode cX2_firstPlace 23 = .ok (.ifCond .ne 9, 3) := by decide +kernel
theorem dX2_firstPlace_26 : decode cX2_firstPlace 26 = .ok (.iinc 3 1, 3) := by decide +kernel
theorem dX2_firstPlace_29 : decode cX2_firstPlace 29 = .ok (.goto (-27), 3) := by decide +kernel
theorem dX2_firstPlace_32 : decode cX2_firstPlace 32 = .ok (.iload_n 3, 1) := by decide +kernel
theorem dX2_firstPlace_33 : decode cX2_firstPlace 33 = .ok (.ireturn, 1) := by decide +kernel
theorem dX2_takeOut_0 : decode cX2_takeOut 0 = .ok (.aload_n 0, 1) := by decide +kernel
theorem dX2_takeOut_1 : decode cX2_takeOut 1 = .ok (.getfield 16, 3) := by decide +kernel
theorem dX2_takeOut_4 : decode cX2_takeOut 4 = .ok (.iload_n 1, 1) := by decide +kernel
theorem dX2_takeOut_5 : decode cX2_takeOut 5 = .ok (.iload_n 2, 1) := by decide +kernel
theorem dX2_takeOut_6 : decode cX2_takeOut 6 = .ok (.iastore, 1) := by decide +kernel
theorem dX2_takeOut_7 : decode cX2_takeOut 7 = .ok (.aload_n 0, 1) := by decide +kernel
theorem dX2_takeOut_8 : decode cX2_takeOut 8 = .ok (.getfield 20, 3) := by decide +kernel
theorem dX2_takeOut_11 : decode cX2_takeOut 11 = .ok (.iload_n 1, 1) := by decide +kernel
theorem dX2_takeOut_12 : decode cX2_takeOut 12 = .ok (.aload_n 0, 1) := by decide +kernel
theorem dX2_takeOut_13 : decode cX2_takeOut 13 = .ok (.iload_n 1, 1) := by decide +kernel
theorem dX2_takeOut_14 : decode cX2_takeOut 14 = .ok (.iload_n 2, 1) := by decide +kernel
theorem dX2_takeOut_15 : decode cX2_takeOut 15 = .ok (.invokevirtual 113, 3) := by decide +kernel
theorem dX2_takeOut_18 : decode cX2_takeOut 18 = .ok (.iastore, 1) := by decide +kernel
theorem dX2_takeOut_19 : decode cX2_takeOut 19 = .ok (.iconst 0, 1) := by decide +kernel
theorem dX2_takeOut_20 : decode cX2_takeOut 20 = .ok (.istore 4, 2) := by decide +kernel
theorem dX2_takeOut_22 : decode cX2_takeOut 22 = .ok (.iload 4, 2) := by decide +kernel
theorem dX2_takeOut_24 : decode cX2_takeOut 24 = .ok (.iload_n 3, 1) := by decide +kernel
theorem dX2_takeOut_25 : decode cX2_takeOut 25 = .ok (.if_icmp .ge 17, 3) := by decide +kernel
theorem dX2_takeOut_28 : decode cX2_takeOut 28 = .ok (.aload_n 0, 1) := by decide +kernel
theorem dX2_takeOut_29 : decode cX2_takeOut 29 = .ok (.iload 4, 2) := by decide +kernel
theorem dX2_takeOut_31 : decode cX2_takeOut 31 = .ok (.iload_n 1, 1) := by decide +kernel
theorem dX2_takeOut_32 : decode cX2_takeOut 32 = .ok (.iload_n 2, 1) := by decide +kernel
theorem dX2_takeOut_33 : decode cX2_takeOut 33 = .ok (.invokevirtual 89, 3) := by decide +kernel
theorem dX2_takeOut_36 : decode cX2_takeOut 36 = .ok (.iinc 4 1, 3) := by decide +kernel
theorem dX2_takeOut_39 : decode cX2_takeOut 39 = .ok (.goto (-17), 3) := by decide +kernel
theorem dX2_takeOut_42 : decode cX2_takeOut 42 = .ok (.return_, 1) := by decide +kernel
theorem dX2_takeOutOf_0 : decode cX2_takeOutOf 0 = .ok (.aload_n 0, 1) := by decide +kernel
theorem dX2_takeOutOf_1 : decode cX2_takeOutOf 1 = .ok (.getfield 11, 3) := by decide +kernel
theorem dX2_takeOutOf_4 : decode cX2_takeOutOf 4 = .ok (.iload_n 2, 1) := by decide +kernel
theorem dX2_takeOutOf_5 : decode cX2_takeOutOf 5 = .ok (.aaload, 1) := by decide +kernel
theorem dX2_takeOutOf_6 : decode cX2_takeOutOf 6 = .ok (.astore 4, 2) := by decide +kernel
theorem dX2_takeOutOf_8 : decode cX2_takeOutOf 8 = .ok (.aload_n 0, 1) := by decide +kernel
theorem dX2_takeOutOf_9 : decode cX2_takeOutOf 9 = .ok (.getfield 11, 3) := by decide +kernel
theorem dX2_takeOutOf_12 : decode cX2_takeOutOf 12 = .ok (.iload_n 2, 1) := by decide +kernel
theorem dX2_takeOutOf_13 : decode cX2_takeOutOf 13 = .ok (.iconst 1, 1) := by decide +kernel
theorem dX2_takeOutOf_14 : decode cX2_takeOutOf 14 = .ok (.iadd, 1) := by decide +kernel
theorem dX2_takeOutOf_15 : decode cX2_takeOutOf 15 = .ok (.aaload, 1) := by decide +kernel
theorem dX2_takeOutOf_16 : decode cX2_takeOutOf 16 = .ok (.astore 5, 2) := by decide +kernel
theorem dX2_takeOutOf_18 : decode cX2_takeOutOf 18 = .ok (.iload_n 1, 1) := by decide +kernel
theorem dX2_takeOutOf_19 : decode cX2_takeOutOf 19 = .ok (.bipush 6, 2) := by decide +kernel
theorem dX2_takeOutOf_21 : decode cX2_takeOutOf 21 = .ok (.imul, 1) := by decide +kernel
theorem dX2_takeOutOf_22 : decode cX2_takeOutOf 22 = .ok (.istore 6, 2) := by decide +kernel
theorem dX2_takeOutOf_24 : decode cX2_takeOutOf 24 = .ok (.iload_n 3, 1) := by decide +kernel
theorem dX2_takeOutOf_25 : decode cX2_takeOutOf 25 = .ok (.bipush 6, 2) := by decide +kernel
theorem dX2_takeOutOf_27 : decode cX2_takeOutOf 27 = .ok (.imul, 1) := by decide +kernel
theorem dX2_takeOutOf_28 : decode cX2_takeOutOf 28 = .ok (.istore 7, 2) := by decide +kernel
theorem dX2_takeOutOf_30 : decode cX2_takeOutOf 30 = .ok (.aload 4, 2) := by decide +kernel
theorem dX2_takeOutOf_32 : decode cX2_takeOutOf 32 = .ok (.iload 7, 2) := by decide +kernel
theorem dX2_takeOutOf_34 : decode cX2_takeOutOf 34 = .ok (.aload_n 0, 1) := by decide +kernel
theorem dX2_takeOutOf_35 : decode cX2_takeOutOf 35 = .ok (.getfield 20, 3) := by decide +kernel
theorem dX2_takeOutOf_38 : decode cX2_takeOutOf 38 = .ok (.iload_n 2, 1) := by decide +kernel
theorem dX2_takeOutOf_39 : decode cX2_takeOutOf 39 = .ok (.iaload, 1) := by decide +kernel
theorem dX2_takeOutOf_40 : decode cX2_takeOutOf 40 = .ok (.iadd, 1) := by decide +kernel
theorem dX2_takeOutOf_41 : decode cX2_takeOutOf 41 = .ok (.iaload, 1) := by decide +kernel
theorem dX2_takeOutOf_42 : decode cX2_takeOutOf 42 = .ok (.istore 8, 2) := by decide +kernel
theorem dX2_takeOutOf_44 : decode cX2_takeOutOf 44 = .ok (.aload_n 0, 1) := by decide +kernel
theorem dX2_takeOutOf_45 : decode cX2_takeOutOf 45 = .ok (.getfield 26, 3) := by decide +kernel
theorem dX2_takeOutOf_48 : decode cX2_takeOutOf 48 = .ok (.getfield 103, 3) := by decide +kernel
theorem dX2_takeOutOf_51 : decode cX2_takeOutOf 51 = .ok (.aload 4, 2) := by decide +kernel
theorem dX2_takeOutOf_53 : decode cX2_takeOutOf 53 = .ok (.iload 6, 2) := by decide +kernel
theorem dX2_takeOutOf_55 : decode cX2_takeOutOf 55 = .ok (.aload_n 0, 1) := by decide +kernel
theorem dX2_takeOutOf_56 : decode cX2_takeOutOf 56 = .ok (.getfield 20, 3) := by decide +kernel
theorem dX2_takeOutOf_59 : decode cX2_takeOutOf 59 = .ok (.iload_n 2, 1) := by decide +kernel
theorem dX2_takeOutOf_60 : decode cX2_takeOutOf 60 = .ok (.iaload, 1) := by decide +kernel
theorem dX2_takeOutOf_61 : decode cX2_takeOutOf 61 = .ok (.iadd, 1) := by decide +kernel
theorem dX2_takeOutOf_62 : decode cX2_takeOutOf 62 = .ok (.iaload, 1) := by decide +kernel
theorem dX2_takeOutOf_63 : decode cX2_takeOutOf 63 = .ok (.isub, 1) := by decide +kernel
theorem dX2_takeOutOf_64 : decode cX2_takeOutOf 64 = .ok (.istore 9, 2) := by decide +kernel
theorem dX2_takeOutOf_66 : decode cX2_takeOutOf 66 = .ok (.iconst 0, 1) := by decide +kernel
theorem dX2_takeOutOf_67 : decode cX2_takeOutOf 67 = .ok (.istore 10, 2) := by decide +kernel
theorem dX2_takeOutOf_69 : decode cX2_takeOutOf 69 = .ok (.iload 10, 2) := by decide +kernel
theorem dX2_takeOutOf_71 : decode cX2_takeOutOf 71 = .ok (.aload_n 0, 1) := by decide +kernel
theorem dX2_takeOutOf_72 : decode cX2_takeOutOf 72 = .ok (.getfield 109, 3) := by decide +kernel
theorem dX2_takeOutOf_75 : decode cX2_takeOutOf 75 = .ok (.if_icmp .ge 48, 3) := by decide +kernel
theorem dX2_takeOutOf_78 : decode cX2_takeOutOf 78 = .ok (.aload 5, 2) := by decide +kernel
theorem dX2_takeOutOf_80 : decode cX2_takeOutOf 80 = .ok (.iload 6, 2) := by decide +kernel
theorem dX2_takeOutOf_82 : decode cX2_takeOutOf 82 = .ok (.iload 10, 2) := by decide +kernel
theorem dX2_takeOutOf_84 : decode cX2_takeOutOf 84 = .ok (.iadd, 1) := by decide +kernel
theorem dX2_takeOutOf_85 : decode cX2_takeOutOf 85 = .ok (.aload 4, 2) := by decide +kernel
theorem dX2_takeOutOf_87 : decode cX2_takeOutOf 87 = .ok (.iload 6, 2) := by decide +kernel
theorem dX2_takeOutOf_89 : decode cX2_takeOutOf 89 = .ok (.iload 10, 2) := by decide +kernel
theorem dX2_takeOutOf_91 : decode cX2_takeOutOf 91 = .ok (.iadd, 1) := by decide +kernel
theorem dX2_takeOutOf_92 : decode cX2_takeOutOf 92 = .ok (.iaload, 1) := by decide +kernel
theorem dX2_takeOutOf_93 : decode cX2_takeOutOf 93 = .ok (.iload 8, 2) := by decide +kernel
theorem dX2_takeOutOf_95 : decode cX2_takeOutOf 95 = .ok (.imul, 1) := by decide +kernel
theorem dX2_takeOutOf_96 : decode cX2_takeOutOf 96 = .ok (.aload 4, 2) := by decide +kernel
theorem dX2_takeOutOf_98 : decode cX2_takeOutOf 98 = .ok (.iload 7, 2) := by decide +kernel
theorem dX2_takeOutOf_100 : decode cX2_takeOutOf 100 = .ok (.iload 10, 2) := by decide +kernel
theorem dX2_takeOutOf_102 : decode cX2_takeOutOf 102 = .ok (.iadd, 1) := by decide +kernel
theorem dX2_takeOutOf_103 : decode cX2_takeOutOf 103 = .ok (.iaload, 1) := by decide +kernel
theorem dX2_takeOutOf_104 : decode cX2_takeOutOf 104 = .ok (.iload 9, 2) := by decide +kernel
theorem dX2_takeOutOf_106 : decode cX2_takeOutOf 106 = .ok (.imul, 1) := by decide +kernel
theorem dX2_takeOutOf_107 : decode cX2_takeOutOf 107 = .ok (.iadd, 1) := by decide +kernel
theorem dX2_takeOutOf_108 : decode cX2_takeOutOf 108 = .ok (.aload_n 0, 1) := by decide +kernel
theorem dX2_takeOutOf_109 : decode cX2_takeOutOf 109 = .ok (.getfield 26, 3) := by decide +kernel
theorem dX2_takeOutOf_112 : decode cX2_takeOutOf 112 = .ok (.getfield 103, 3) := by decide +kernel
theorem dX2_takeOutOf_115 : decode cX2_takeOutOf 115 = .ok (.irem, 1) := by decide +kernel
theorem dX2_takeOutOf_116 : decode cX2_takeOutOf 116 = .ok (.iastore, 1) := by decide +kernel
theorem dX2_takeOutOf_117 : decode cX2_takeOutOf 117 = .ok (.iinc 10 1, 3) := by decide +kernel
theorem dX2_takeOutOf_120 : decode cX2_takeOutOf 120 = .ok (.goto (-51), 3) := by decide +kernel
theorem dX2_takeOutOf_123 : decode cX2_takeOutOf 123 = .ok (.return_, 1) := by decide +kernel
theorem dX3_init_0 : decode cX3_init 0 = .ok (.aload_n 0, 1) := by decide +kernel
theorem dX3_init_1 : decode cX3_init 1 = .ok (.invokespecial 1, 3) := by decide +kernel
theorem dX3_init_4 : decode cX3_init 4 = .ok (.aload_n 0, 1) := by decide +kernel
theorem dX3_init_5 : decode cX3_init 5 = .ok (.sipush 384, 3) := by decide +kernel
theorem dX3_init_8 : decode cX3_init 8 = .ok (.newarray .long, 2) := by decide +kernel
theorem dX3_init_10 : decode cX3_init 10 = .ok (.putfield 9, 3) := by decide +kernel
theorem dX3_init_13 : decode cX3_init 13 = .ok (.aload_n 0, 1) := by decide +kernel
theorem dX3_init_14 : decode cX3_init 14 = .ok (.sipush 384, 3) := by decide +kernel
theorem dX3_init_17 : decode cX3_init 17 = .ok (.newarray .long, 2) := by decide +kernel
theorem dX3_init_19 : decode cX3_init 19 = .ok (.putfield 13, 3) := by decide +kernel
theorem dX3_init_22 : decode cX3_init 22 = .ok (.aload_n 0, 1) := by decide +kernel
theorem dX3_init_23 : decode cX3_init 23 = .ok (.bipush 100, 2) := by decide +kernel
theorem dX3_init_25 : decode cX3_init 25 = .ok (.newarray .int, 2) := by decide +kernel
theorem dX3_init_27 : decode cX3_init 27 = .ok (.putfield 16, 3) := by decide +kernel
theorem dX3_init_30 : decode cX3_init 30 = .ok (.aload_n 0, 1) := by decide +kernel
theorem dX3_init_31 : decode cX3_init 31 = .ok (.bipush 100, 2) := by decide +kernel
theorem dX3_init_33 : decode cX3_init 33 = .ok (.newarray .int, 2) := by decide +kernel
theorem dX3_init_35 : decode cX3_init 35 = .ok (.putfield 20, 3) := by decide +kernel
theorem dX3_init_38 : decode cX3_init 38 = .ok (.aload_n 0, 1) := by decide +kernel
theorem dX3_init_39 : decode cX3_init 39 = .ok (.iconst 1, 1) := by decide +kernel
theorem dX3_init_40 : decode cX3_init 40 = .ok (.iconst 2, 1) := by decide +kernel
theorem dX3_init_41 : decode cX3_init 41 = .ok (.invokevirtual 23, 3) := by decide +kernel
theorem dX3_init_44 : decode cX3_init 44 = .ok (.return_, 1) := by decide +kernel
theorem dX3_shape_0 : decode cX3_shape 0 = .ok (.aload_n 0, 1) := by decide +kernel
theorem dX3_shape_1 : decode cX3_shape 1 = .ok (.iload_n 1, 1) := by decide +kernel
theorem dX3_shape_2 : decode cX3_shape 2 = .ok (.putfield 27, 3) := by decide +kernel
theorem dX3_shape_5 : decode cX3_shape 5 = .ok (.aload_n 0, 1) := by decide +kernel
theorem dX3_shape_6 : decode cX3_shape 6 = .ok (.iload_n 2, 1) := by decide +kernel
theorem dX3_shape_7 : decode cX3_shape 7 = .ok (.putfield 31, 3) := by decide +kernel
theorem dX3_shape_10 : decode cX3_shape 10 = .ok (.aload_n 0, 1) := by decide +kernel
theorem dX3_shape_11 : decode cX3_shape 11 = .ok (.iconst 0, 1) := by decide +kernel
theorem dX3_shape_12 : decode cX3_shape 12 = .ok (.putfield 34, 3) := by decide +kernel
theorem dX3_shape_15 : decode cX3_shape 15 = .ok (.aload_n 0, 1) := by decide +kernel
theorem dX3_shape_16 : decode cX3_shape 16 = .ok (.iconst 0, 1) := by decide +kernel
theorem dX3_shape_17 : decode cX3_shape 17 = .ok (.putfield 37, 3) := by decide +kernel
theorem dX3_shape_20 : decode cX3_shape 20 = .ok (.iconst 0, 1) := by decide +kernel
theorem dX3_shape_21 : decode cX3_shape 21 = .ok (.istore_n 3, 1) := by decide +kernel
theorem dX3_shape_22 : decode cX3_shape 22 = .ok (.iload_n 3, 1) := by decide +kernel
theorem dX3_shape_23 : decode cX3_shape 23 = .ok (.aload_n 0, 1) := by decide +kernel
theorem dX3_shape_24 : decode cX3_shape 24 = .ok (.getfield 9, 3) := by decide +kernel
theorem dX3_shape_27 : decode cX3_shape 27 = .ok (.arraylength, 1) := by decide +kernel
theorem dX3_shape_28 : decode cX3_shape 28 = .ok (.if_icmp .ge 16, 3) := by decide +kernel
theorem dX3_shape_31 : decode cX3_shape 31 = .ok (.aload_n 0, 1) := by decide +kernel
theorem dX3_shape_32 : decode cX3_shape 32 = .ok (.getfield 9, 3) := by decide +kernel
theorem dX3_shape_35 : decode cX3_shape 35 = .ok (.iload_n 3, 1) := by decide +kernel
theorem dX3_shape_36 : decode cX3_shape 36 = .ok (.lconst 0, 1) := by decide +kernel
theorem dX3_shape_37 : decode cX3_shape 37 = .ok (.lastore, 1) := by decide +kernel
theorem dX3_shape_38 : decode cX3_shape 38 = .ok (.iinc 3 1, 3) := by decide +kernel
theorem dX3_shape_41 : decode cX3_shape 41 = .ok (.goto (-19), 3) := by decide +kernel
theorem dX3_shape_44 : decode cX3_shape 44 = .ok (.return_, 1) := by decide +kernel
theorem dX3_start_0 : decode cX3_start 0 = .ok (.iload_n 0, 1) := by decide +kernel
theorem dX3_start_1 : decode cX3_start 1 = .ok (.bipush 32, 2) := by decide +kernel
theorem dX3_start_3 : decode cX3_start 3 = .ok (.imul, 1) := by decide +kernel
theorem dX3_start_4 : decode cX3_start 4 = .ok (.iload_n 1, 1) := by decide +kernel
theorem dX3_start_5 : decode cX3_start 5 = .ok (.iadd, 1) := by decide +kernel
theorem dX3_start_6 : decode cX3_start 6 = .ok (.iconst 3, 1) := by decide +kernel
theorem dX3_start_7 : decode cX3_start 7 = .ok (.imul, 1) := by decide +kernel
theorem dX3_start_8 : decode cX3_start 8 = .ok (.ireturn, 1) := by decide +kernel
theorem dX3_putNumber_0 : decode cX3_putNumber 0 = .ok (.aload_n 0, 1) := by decide +kernel
theorem dX3_putNumber_1 : decode cX3_putNumber 1 = .ok (.aload_n 0, 1) := by decide +kernel
theorem dX3_putNumber_2 : decode cX3_putNumber 2 = .ok (.getfield 9, 3) := by decide +kernel
theorem dX3_putNumber_5 : decode cX3_putNumber 5 = .ok (.iload_n 1, 1) := by decide +kernel
theorem dX3_putNumber_6 : decode cX3_putNumber 6 = .ok (.iload_n 2, 1) := by decide +kernel
theorem dX3_putNumber_7 : decode cX3_putNumber 7 = .ok (.i2l, 1) := by decide +kernel
theorem dX3_putNumber_8 : decode cX3_putNumber 8 = .ok (.invokevirtual 40, 3) := by decide +kernel
theorem dX3_putNumber_11 : decode cX3_putNumber 11 = .ok (.aload_n 0, 1) := by decide +kernel
theorem dX3_putNumber_12 : decode cX3_putNumber 12 = .ok (.dup, 1) := by decide +kernel
theorem dX3_putNumber_13 : decode cX3_putNumber 13 = .ok (.getfield 34, 3) := by decide +kernel
theorem dX3_putNumber_16 : decode cX3_putNumber 16 = .ok (.iconst 1, 1) := by decide +kernel
theorem dX3_putNumber_17 : decode cX3_putNumber 17 = .ok (.iadd, 1) := by decide +kernel
theorem dX3_putNumber_18 : decode cX3_putNumber 18 = .ok (.putfield 34, 3) := by decide +kernel
theorem dX3_putNumber_21 : decode cX3_putNumber 21 = .ok (.return_, 1) := by decide +kernel
theorem dX3_tellAll_0 : decode cX3_tellAll 0 = .ok (.aload_n 0, 1) := by decide +kernel
theorem dX3_tellAll_1 : decode cX3_tellAll 1 = .ok (.getfield 9, 3) := by decide +kernel
theorem dX3_tellAll_4 : decode cX3_tellAll 4 = .ok (.iconst 0, 1) := by decide +kernel
theorem dX3_tellAll_5 : decode cX3_tellAll 5 = .ok (.aload_n 0, 1) := by decide +kernel
theorem dX3_tellAll_6 : decode cX3_tellAll 6 = .ok (.getfield 13, 3) := by decide +kernel
theorem dX3_tellAll_9 : decode cX3_tellAll 9 = .ok (.iconst 0, 1) := by decide +kernel
theorem dX3_tellAll_10 : decode cX3_tellAll 10 = .ok (.aload_n 0, 1) := by decide +kernel
theorem dX3_tellAll_11 : decode cX3_tellAll 11 = .ok (.getfield 13, 3) := by decide +kernel
theorem dX3_tellAll_14 : decode cX3_tellAll 14 = .ok (.arraylength, 1) := by decide +kernel
theorem dX3_tellAll_15 : decode cX3_tellAll 15 = .ok (.invokestatic 44, 3) := by decide +kernel
theorem dX3_tellAll_18 : decode cX3_tellAll 18 = .ok (.aload_n 0, 1) := by decide +kernel
theorem dX3_tellAll_19 : decode cX3_tellAll 19 = .ok (.iconst 0, 1) := by decide +kernel
theorem dX3_tellAll_20 : decode cX3_tellAll 20 = .ok (.putfield 37, 3) := by decide +kernel
theorem dX3_tellAll_23 : decode cX3_tellAll 23 = .ok (.iconst 0, 1) := by decide +kernel
theorem dX3_tellAll_24 : decode cX3_tellAll 24 = .ok (.istore_n 1, 1) := by decide +kernel
theorem dX3_tellAll_25 : decode cX3_tellAll 25 = .ok (.iload_n 1, 1) := by decide +kernel
theorem dX3_tellAll_26 : decode cX3_tellAll 26 = .ok (.sipush 200, 3) := by decide +kernel
theorem dX3_tellAll_29 : decode cX3_tellAll 29 = .ok (.if_icmp .ge 28, 3) := by decide +kernel
theorem dX3_tellAll_32 : decode cX3_tellAll 32 = .ok (.aload_n 0, 1) := by decide +kernel
theorem dX3_tellAll_33 : decode cX3_tellAll 33 = .ok (.invokevirtual 50, 3) := by decide +kernel
theorem dX3_tellAll_36 : decode cX3_tellAll 36 = .ok (.istore_n 2, 1) := by decide +kernel
theorem dX3_tellAll_37 : decode cX3_tellAll 37 = .ok (.iload_n 2, 1) := by decide +kernel
theorem dX3_tellAll_38 : decode cX3_tellAll 38 = .ok (.ifCond .ge 8, 3) := by decide +kernel
theorem dX3_tellAll_41 : decode cX3_tellAll 41 = .ok (.aload_n 0, 1) := by decide +kernel
theorem dX3_tellAll_42 : decode cX3_tellAll 42 = .ok (.invokevirtual 54, 3) := by decide +kernel
theorem dX3_tellAll_45 : decode cX3_tellAll 45 = .ok (.ireturn, 1) := by decide +kernel
theorem dX3_tellAll_46 : decode cX3_tellAll 46 = .ok (.aload_n 0, 1) := by decide +kernel
theorem dX3_tellAll_47 : decode cX3_tellAll 47 = .ok (.iload_n 2, 1) := by decide +kernel
theorem dX3_tellAll_48 : decode cX3_tellAll 48 = .ok (.invokevirtual 58, 3) := by decide +kernel
theorem dX3_tellAll_51 : decode cX3_tellAll 51 = .ok (.iinc 1 1, 3) := by decide +kernel
theorem dX3_tellAll_54 : decode cX3_tellAll 54 = .ok (.goto (-29), 3) := by decide +kernel
theorem dX3_tellAll_57 : decode cX3_tellAll 57 = .ok (.aload_n 0, 1) := by decide +kernel
theorem dX3_tellAll_58 : decode cX3_tellAll 58 = .ok (.invokevirtual 54, 3) := by decide +kernel
theorem dX3_tellAll_61 : decode cX3_tellAll 61 = .ok (.ireturn, 1) := by decide +kernel
theorem dX3_tellPlace_0 : decode cX3_tellPlace 0 = .ok (.aload_n 0, 1) := by decide +kernel
theorem dX3_tellPlace_1 : decode cX3_tellPlace 1 = .ok (.getfield 13, 3) := by decide +kernel
theorem dX3_tellPlace_4 : decode cX3_tellPlace 4 = .ok (.iload_n 1, 1) := by decide +kernel
theorem dX3_tellPlace_5 : decode cX3_tellPlace 5 = .ok (.laload, 1) := by decide +kernel
theorem dX3_tellPlace_6 : decode cX3_tellPlace 6 = .ok (.lstore_n 2, 1) := by decide +kernel
theorem dX3_tellPlace_7 : decode cX3_tellPlace 7 = .ok (.lload_n 2, 1) := by decide +kernel
theorem dX3_tellPlace_8 : decode cX3_tellPlace 8 = .ok (.lconst 0, 1) := by decide +kernel
theorem dX3_tellPlace_9 : decode cX3_tellPlace 9 = .ok (.lcmp, 1) := by decide +kernel
theorem dX3_tellPlace_10 : decode cX3_tellPlace 10 = .ok (.ifCond .ne 4, 3) := by decide +kernel
theorem dX3_tellPlace_13 : decode cX3_tellPlace 13 = .ok (.return_, 1) := by decide +kernel
theorem dX3_tellPlace_14 : decode cX3_tellPlace 14 = .ok (.aload_n 0, 1) := by decide +kernel
theorem dX3_tellPlace_15 : decode cX3_tellPlace 15 = .ok (.getfield 13, 3) := by decide +kernel
theorem dX3_tellPlace_18 : decode cX3_tellPlace 18 = .ok (.iload_n 1, 1) := by decide +kernel
theorem dX3_tellPlace_19 : decode cX3_tellPlace 19 = .ok (.iconst 1, 1) := by decide +kernel
theorem dX3_tellPlace_20 : decode cX3_tellPlace 20 = .ok (.iadd, 1) := by decide +kernel
theorem dX3_tellPlace_21 : decode cX3_tellPlace 21 = .ok (.laload, 1) := by decide +kernel
theorem dX3_tellPlace_22 : decode cX3_tellPlace 22 = .ok (.lload_n 2, 1) := by decide +kernel
theorem dX3_tellPlace_23 : decode cX3_tellPlace 23 = .ok (.ldiv, 1) := by decide +kernel
theorem dX3_tellPlace_24 : decode cX3_tellPlace 24 = .ok (.l2i, 1) := by decide +kernel
theorem dX3_tellPlace_25 : decode cX3_tellPlace 25 = .ok (.istore 4, 2) := by decide +kernel
theorem dX3_tellPlace_27 : decode cX3_tellPlace 27 = .ok (.aload_n 0, 1) := by decide +kernel
theorem dX3_tellPlace_28 : decode cX3_tellPlace 28 = .ok (.getfield 37, 3) := by decide +kernel
theorem dX3_tellPlace_31 : decode cX3_tellPlace 31 = .ok (.bipush 100, 2) := by decide +kernel
theorem dX3_tellPlace_33 : decode cX3_tellPlace 33 = .ok (.if_icmp .ge 25, 3) := by decide +kernel
theorem dX3_tellPlace_36 : decode cX3_tellPlace 36 = .ok (.aload_n 0, 1) := by decide +kernel
theorem dX3_tellPlace_37 : decode cX3_tellPlace 37 = .ok (.getfield 16, 3) := by decide +kernel
theorem dX3_tellPlace_40 : decode cX3_tellPlace 40 = .ok (.aload_n 0, 1) := by decide +kernel
theorem dX3_tellPlace_41 : decode cX3_tellPlace 41 = .ok (.getfield 37, 3) := by decide +kernel
theorem dX3_tellPlace_44 : decode cX3_tellPlace 44 = .ok (.iload 4, 2) := by decide +kernel
theorem dX3_tellPlace_46 : decode cX3_tellPlace 46 = .ok (.iastore, 1) := by decide +kernel
theorem dX3_tellPlace_47 : decode cX3_tellPlace 47 = .ok (.aload_n 0, 1) := by decide +kernel
theorem dX3_tellPlace_48 : decode cX3_tellPlace 48 = .ok (.getfield 20, 3) := by decide +kernel
theorem dX3_tellPlace_51 : decode cX3_tellPlace 51 = .ok (.aload_n 0, 1) := by decide +kernel
theorem dX3_tellPlace_52 : decode cX3_tellPlace 52 = .ok (.getfield 37, 3) := by decide +kernel
theorem dX3_tellPlace_55 : decode cX3_tellPlace 55 = .ok (.lload_n 2, 1) := by decide +kernel
theorem dX3_tellPlace_56 : decode cX3_tellPlace 56 = .ok (.l2i, 1) := by decide +kernel
theorem dX3_tellPlace_57 : decode cX3_tellPlace 57 = .ok (.iastore, 1) := by decide +kernel
theorem dX3_tellPlace_58 : decode cX3_tellPlace 58 = .ok (.aload_n 0, 1) := by decide +kernel
theorem dX3_tellPlace_59 : decode cX3_tellPlace 59 = .ok (.dup, 1) := by decide +kernel
theorem dX3_tellPlace_60 : decode cX3_tellPlace 60 = .ok (.getfield 37, 3) := by decide +kernel
theorem dX3_tellPlace_63 : decode cX3_tellPlace 63 = .ok (.iconst 1, 1) := by decide +kernel
theorem dX3_tellPlace_64 : decode cX3_tellPlace 64 = .ok (.iadd, 1) := by decide +kernel
theorem dX3_tellPlace_65 : decode cX3_tellPlace 65 = .ok (.putfield 37, 3) := by decide +kernel
theorem dX3_tellPlace_68 : decode cX3_tellPlace 68 = .ok (.aload_n 0, 1) := by decide +kernel
theorem dX3_tellPlace_69 : decode cX3_tellPlace 69 = .ok (.aload_n 0, 1) := by decide +kernel
theorem dX3_tellPlace_70 : decode cX3_tellPlace 70 = .ok (.getfield 13, 3) := by decide +kernel
theorem dX3_tellPlace_73 : decode cX3_tellPlace 73 = .ok (.iload 4, 2) := by decide +kernel
theorem dX3_tellPlace_75 : decode cX3_tellPlace 75 = .ok (.lload_n 2, 1) := by decide +kernel
theorem dX3_tellPlace_76 : decode cX3_tellPlace 76 = .ok (.lneg, 1) := by decide +kernel
theorem dX3_tellPlace_77 : decode cX3_tellPlace 77 = .ok (.invokevirtual 40, 3) := by decide +kernel
theorem dX3_tellPlace_80 : decode cX3_tellPlace 80 = .ok (.return_, 1) := by decide +kernel
theorem dX3_firstSingle_0 : decode cX3_firstSingle 0 = .ok (.iconst 0, 1) := by decide +kernel
theorem dX3_firstSingle_1 : decode cX3_firstSingle 1 = .ok (.istore_n 1, 1) := by decide +kernel
theorem dX3_firstSingle_2 : decode cX3_firstSingle 2 = .ok (.iload_n 1, 1) := by decide +kernel
theorem dX3_firstSingle_3 : decode cX3_firstSingle 3 = .ok (.aload_n 0, 1) := by decide +kernel
theorem dX3_firstSingle_4 : decode cX3_firstSingle 4 = .ok (.getfield 27, 3) := by decide +kernel
theorem dX3_firstSingle_7 : decode cX3_firstSingle 7 = .ok (.if_icmp .ge 40, 3) := by decide +kernel
theorem dX3_firstSingle_10 : decode cX3_firstSingle 10 = .ok (.iconst 0, 1) := by decide +kernel
theorem dX3_firstSingle_11 : decode cX3_firstSingle 11 = .ok (.istore_n 2, 1) := by decide +kernel
theorem dX3_firstSingle_12 : decode cX3_firstSingle 12 = .ok (.iload_n 2, 1) := by decide +kernel
theorem dX3_firstSingle_13 : decode cX3_firstSingle 13 = .ok (.aload_n 0, 1) := by decide +kernel
theorem dX3_firstSingle_14 : decode cX3_firstSingle 14 = .ok (.getfield 31, 3) := by decide +kernel
theorem dX3_firstSingle_17 : decode cX3_firstSingle 17 = .ok (.if_icmp .ge 24, 3) := by decide +kernel
theorem dX3_firstSingle_20 : decode cX3_firstSingle 20 = .ok (.aload_n 0, 1) := by decide +kernel
theorem dX3_firstSingle_21 : decode cX3_firstSingle 21 = .ok (.iload_n 1, 1) := by decide +kernel
theorem dX3_firstSingle_22 : decode cX3_firstSingle 22 = .ok (.iload_n 2, 1) := by decide +kernel
theorem dX3_firstSingle_23 : decode cX3_firstSingle 23 = .ok (.invokevirtual 62, 3) := by decide +kernel
theorem dX3_firstSingle_26 : decode cX3_firstSingle 26 = .ok (.ifCond .eq 9, 3) := by decide +kernel
theorem dX3_firstSingle_29 : decode cX3_firstSingle 29 = .ok (.iload_n 1, 1) := by decide +kernel
theorem dX3_firstSingle_30 : decode cX3_firstSingle 30 = .ok (.iload_n 2, 1) := by decide +kernel
theorem dX3_firstSingle_31 : decode cX3_firstSingle 31 = .ok (.invokestatic 66, 3) := by decide +kernel
theorem dX3_firstSingle_34 : decode cX3_firstSingle 34 = .ok (.ireturn, 1) := by decide +kernel
theorem dX3_firstSingle_35 : decode cX3_firstSingle 35 = .ok (.iinc 2 1, 3) := by decide +kernel
theorem dX3_firstSingle_38 : decode cX3_firstSingle 38 = .ok (.goto (-26), 3) := by decide +kernel
theorem dX3_firstSingle_41 : decode cX3_firstSingle 41 = .ok (.iinc 1 1, 3) := by decide +kernel
theorem dX3_firstSingle_44 : decode cX3_firstSingle 44 = .ok (.goto (-42), 3) := by decide +kernel
theorem dX3_firstSingle_47 : decode cX3_firstSingle 47 = .ok (.iconst (-1), 1) := by decide +kernel
theorem dX3_firstSingle_48 : decode cX3_firstSingle 48 = .ok (.ireturn, 1) := by decide +kernel
theorem dX3_isSingle_0 : decode cX3_isSingle 0 = .ok (.iload_n 1, 1) := by decide +kernel
theorem dX3_isSingle_1 : decode cX3_isSingle 1 = .ok (.iload_n 2, 1) := by decide +kernel
theorem dX3_isSingle_2 : decode cX3_isSingle 2 = .ok (.invokestatic 66, 3) := by decide +kernel
theorem dX3_isSingle_5 : decode cX3_isSingle 5 = .ok (.istore_n 3, 1) := by decide +kernel
theorem dX3_isSingle_6 : decode cX3_isSingle 6 = .ok (.aload_n 0, 1) := by decide +kernel
theorem dX3_isSingle_7 : decode cX3_isSingle 7 = .ok (.getfield 13, 3) := by decide +kernel
theorem dX3_isSingle_10 : decode cX3_isSingle 10 = .ok (.iload_n 3, 1) := by decide +kernel
theorem dX3_isSingle_11 : decode cX3_isSingle 11 = .ok (.laload, 1) := by decide +kernel
theorem dX3_isSingle_12 : decode cX3_isSingle 12 = .ok (.lstore 4, 2) := by decide +kernel
theorem dX3_isSingle_14 : decode cX3_isSingle 14 = .ok (.lload 4, 2) := by decide +kernel
theorem dX3_isSingle_16 : decode cX3_isSingle 16 = .ok (.lconst 0, 1) := by decide +kernel
theorem dX3_isSingle_17 : decode cX3_isSingle 17 = .ok (.lcmp, 1) := by decide +kernel
theorem dX3_isSingle_18 : decode cX3_isSingle 18 = .ok (.ifCond .eq 19, 3) := by decide +kernel
theorem dX3_isSingle_21 : decode cX3_isSingle 21 = .ok (.aload_n 0, 1) := by decide +kernel
theorem dX3_isSingle_22 : decode cX3_isSingle 22 = .ok (.getfield 13, 3) := by decide +kernel
theorem dX3_isSingle_25 : decode cX3_isSingle 25 = .ok (.iload_n 3, 1) := by decide +kernel
theorem dX3_isSingle_26 : decode cX3_isSingle 26 = .ok (.iconst 1, 1) := by decide +kernel
theorem dX3_isSingle_27 : decode cX3_isSingle 27 = .ok (.iadd, 1) := by decide +kernel
theorem dX3_isSingle_28 : decode cX3_isSingle 28 = .ok (.laload, 1) := by decide +kernel
theorem dX3_isSingle_29 : decode cX3_isSingle 29 = .ok (.lload 4, 2) := by decide +kernel
theorem dX3_isSingle_31 : decode cX3_isSingle 31 = .ok (.lrem, 1) := by decide +kernel
theorem dX3_isSingle_32 : decode cX3_isSingle 32 = .ok (.lconst 0, 1) := by decide +kernel
theorem dX3_isSingle_33 : decode cX3_isSingle 33 = .ok (.lcmp, 1) := by decide +kernel
theorem dX3_isSingle_34 : decode cX3_isSingle 34 = .ok (.ifCond .eq 5, 3) := by decide +kernel
theorem dX3_isSingle_37 : decode cX3_isSingle 37 = .ok (.iconst 0, 1) := by decide +kernel
theorem dX3_isSingle_38 : decode cX3_isSingle 38 = .ok (.ireturn, 1) := by decide +kernel
theorem dX3_isSingle_39 : decode cX3_isSingle 39 = .ok (.aload_n 0, 1) := by decide +kernel
theorem dX3_isSingle_40 : decode cX3_isSingle 40 = .ok (.getfield 13, 3) := by decide +kernel
theorem dX3_isSingle_43 : decode cX3_isSingle 43 = .ok (.iload_n 3, 1) := by decide +kernel
theorem dX3_isSingle_44 : decode cX3_isSingle 44 = .ok (.iconst 1, 1) := by decide +kernel
theorem dX3_isSingle_45 : decode cX3_isSingle 45 = .ok (.iadd, 1) := by decide +kernel
theorem dX3_isSingle_46 : decode cX3_isSingle 46 = .ok (.laload, 1) := by decide +kernel
theorem dX3_isSingle_47 : decode cX3_isSingle 47 = .ok (.lload 4, 2) := by decide +kernel
theorem dX3_isSingle_49 : decode cX3_isSingle 49 = .ok (.ldiv, 1) := by decide +kernel
theorem dX3_isSingle_50 : decode cX3_isSingle 50 = .ok (.lstore 6, 2) := by decide +kernel
theorem dX3_isSingle_52 : decode cX3_isSingle 52 = .ok (.lload 6, 2) := by decide +kernel
theorem dX3_isSingle_54 : decode cX3_isSingle 54 = .ok (.lconst 0, 1) := by decide +kernel
theorem dX3_isSingle_55 : decode cX3_isSingle 55 = .ok (.lcmp, 1) := by decide +kernel
theorem dX3_isSingle_56 : decode cX3_isSingle 56 = .ok (.ifCond .lt 24, 3) := by decide +kernel
theorem dX3_isSingle_59 : decode cX3_isSingle 59 = .ok (.lload 6, 2) := by decide +kernel
theorem dX3_isSingle_61 : decode cX3_isSingle 61 = .ok (.ldc2_w 70, 3) := by decide +kernel
theorem dX3_isSingle_64 : decode cX3_isSingle 64 = .ok (.lcmp, 1) := by decide +kernel
theorem dX3_isSingle_65 : decode cX3_isSingle 65 = .ok (.ifCond .gt 15, 3) := by decide +kernel
theorem dX3_isSingle_68 : decode cX3_isSingle 68 = .ok (.aload_n 0, 1) := by decide +kernel
theorem dX3_isSingle_69 : decode cX3_isSingle 69 = .ok (.iload_n 1, 1) := by decide +kernel
theorem dX3_isSingle_70 : decode cX3_isSingle 70 = .ok (.lload 6, 2) := by decide +kernel
theorem dX3_isSingle_72 : decode cX3_isSingle 72 = .ok (.l2i, 1) := by decide +kernel
theorem dX3_isSingle_73 : decode cX3_isSingle 73 = .ok (.invokevirtual 72, 3) := by decide +kernel
theorem dX3_isSingle_76 : decode cX3_isSingle 76 = .ok (.iload_n 2, 1) := by decide +kernel
theorem dX3_isSingle_77 : decode cX3_isSingle 77 = .ok (.if_icmp .eq 5, 3) := by decide +kernel
theorem dX3_isSingle_80 : decode cX3_isSingle 80 = .ok (.iconst 0, 1) := by decide +kernel
theorem dX3_isSingle_81 : decode cX3_isSingle 81 = .ok (.ireturn, 1) := by decide +kernel
theorem dX3_isSingle_82 : decode cX3_isSingle 82 = .ok (.lload 6, 2) := by decide +kernel
theorem dX3_isSingle_84 : decode cX3_isSingle 84 = .ok (.lload 4, 2) := by decide +kernel
theorem dX3_isSingle_86 : decode cX3_isSingle 86 = .ok (.invokestatic 75, 3) := by decide +kernel
theorem dX3_isSingle_89 : decode cX3_isSingle 89 = .ok (.aload_n 0, 1) := by decide +kernel
theorem dX3_isSingle_90 : decode cX3_isSingle 90 = .ok (.getfield 13, 3) := by decide +kernel
theorem dX3_isSingle_93 : decode cX3_isSingle 93 = .ok (.iload_n 3, 1) := by decide +kernel
theorem dX3_isSingle_94 : decode cX3_isSingle 94 = .ok (.iconst 2, 1) := by decide +kernel
theorem dX3_isSingle_95 : decode cX3_isSingle 95 = .ok (.iadd, 1) := by decide +kernel
theorem dX3_isSingle_96 : decode cX3_isSingle 96 = .ok (.laload, 1) := by decide +kernel
theorem dX3_isSingle_97 : decode cX3_isSingle 97 = .ok (.lcmp, 1) := by decide +kernel
theorem dX3_isSingle_98 : decode cX3_isSingle 98 = .ok (.ifCond .ne 7, 3) := by decide +kernel
theorem dX3_isSingle_101 : decode cX3_isSingle 101 = .ok (.iconst 1, 1) := by decide +kernel
theorem dX3_isSingle_102 : decode cX3_isSingle 102 = .ok (.goto 4, 3) := by decide +kernel
theorem dX3_isSingle_105 : decode cX3_isSingle 105 = .ok (.iconst 0, 1) := by decide +kernel
theorem dX3_isSingle_106 : decode cX3_isSingle 106 = .ok (.ireturn, 1) := by decide +kernel
theorem dX3_bucketOf_0 : decode cX3_bucketOf 0 = .ok (.iload_n 2, 1) := by decide +kernel
theorem dX3_bucketOf_1 : decode cX3_bucketOf 1 = .ok (.iconst 2, 1) := by decide +kernel
theorem dX3_bucketOf_2 : decode cX3_bucketOf 2 = .ok (.iload_n 1, 1) := by decide +kernel
theorem dX3_bucketOf_3 : decode cX3_bucketOf 3 = .ok (.imul, 1) := by decide +kernel
theorem dX3_bucketOf_4 : decode cX3_bucketOf 4 = .ok (.iconst 3, 1) := by decide +kernel
theorem dX3_bucketOf_5 : decode cX3_bucketOf 5 = .ok (.iadd, 1) := by decide +kernel
theorem dX3_bucketOf_6 : decode cX3_bucketOf 6 = .ok (.imul, 1) := by decide +kernel
theorem dX3_bucketOf_7 : decode cX3_bucketOf 7 = .ok (.iload_n 2, 1) := by decide +kernel
theorem dX3_bucketOf_8 : decode cX3_bucketOf 8 = .ok (.iconst 5, 1) := by decide +kernel
theorem dX3_bucketOf_9 : decode cX3_bucketOf 9 = .ok (.iload_n 1, 1) := by decide +kernel
theorem dX3_bucketOf_10 : decode cX3_bucketOf 10 = .ok (.imul, 1) := by decide +kernel
theorem dX3_bucketOf_11 : decode cX3_bucketOf 11 = .ok (.bipush 7, 2) := by decide +kernel
theorem dX3_bucketOf_13 : decode cX3_bucketOf 13 = .ok (.iadd, 1) := by decide +kernel
theorem dX3_bucketOf_14 : decode cX3_bucketOf 14 = .ok (.idiv, 1) := by decide +kernel
theorem dX3_bucketOf_15 : decode cX3_bucketOf 15 = .ok (.iadd, 1) := by decide +kernel
theorem dX3_bucketOf_16 : decode cX3_bucketOf 16 = .ok (.aload_n 0, 1) := by decide +kernel
theorem dX3_bucketOf_17 : decode cX3_bucketOf 17 = .ok (.getfield 31, 3) := by decide +kernel
theorem dX3_bucketOf_20 : decode cX3_bucketOf 20 = .ok (.irem, 1) := by decide +kernel
theorem dX3_bucketOf_21 : decode cX3_bucketOf 21 = .ok (.ireturn, 1) := by decide +kernel
theorem dX3_squareSum_0 : decode cX3_squareSum 0 = .ok (.lload_n 2, 1) := by decide +kernel
theorem dX3_squareSum_1 : decode cX3_squareSum 1 = .ok (.ldc2_w 79, 3) := by decide +kernel
theorem dX3_squareSum_4 : decode cX3_squareSum 4 = .ok (.invokestatic 81, 3) := by decide +kernel
theorem dX3_squareSum_7 : decode cX3_squareSum 7 = .ok (.lload_n 0, 1) := by decide +kernel
theorem dX3_squareSum_8 : decode cX3_squareSum 8 = .ok (.lload_n 0, 1) := by decide +kernel
theorem dX3_squareSum_9 : decode cX3_squareSum 9 = .ok (.lmul, 1) := by decide +kernel
theorem dX3_squareSum_10 : decode cX3_squareSum 10 = .ok (.ldc2_w 79, 3) := by decide +kernel
theorem dX3_squareSum_13 : decode cX3_squareSum 13 = .ok (.lrem, 1) := by decide +kernel
theorem dX3_squareSum_14 : decode cX3_squareSum 14 = .ok (.lmul, 1) := by decide +kernel
theorem dX3_squareSum_15 : decode cX3_squareSum 15 = .ok (.ldc2_w 79, 3) := by decide +kernel
theorem dX3_squareSum_18 : decode cX3_squareSum 18 = .ok (.lrem, 1) := by decide +kernel
theorem dX3_squareSum_19 : decode cX3_squareSum 19 = .ok (.lreturn, 1) := by decide +kernel
theorem dX3_join_0 : decode cX3_join 0 = .ok (.iload_n 2, 1) := by decide +kernel
theorem dX3_join_1 : decode cX3_join 1 = .ok (.i2l, 1) := by decide +kernel
theorem dX3_join_2 : decode cX3_join 2 = .ok (.lload_n 3, 1) := by decide +kernel
theorem dX3_join_3 : decode cX3_join 3 = .ok (.invokestatic 75, 3) := by decide +kernel
theorem dX3_join_6 : decode cX3_join 6 = .ok (.lstore 5, 2) := by decide +kernel
theorem dX3_join_8 : decode cX3_join 8 = .ok (.iconst 0, 1) := by decide +kernel
theorem dX3_join_9 : decode cX3_join 9 = .ok (.istore 7, 2) := by decide +kernel
theorem dX3_join_11 : decode cX3_join 11 = .ok (.iload 7, 2) := by decide +kernel
theorem dX3_join_13 : decode cX3_join 13 = .ok (.aload_n 0, 1) := by decide +kernel
theorem dX3_join_14 : decode cX3_join 14 = .ok (.getfield 27, 3) := by decide +kernel
theorem dX3_join_17 : decode cX3_join 17 = .ok (.if_icmp .ge 63, 3) := by decide +kernel
theorem dX3_join_20 : decode cX3_join 20 = .ok (.iload 7, 2) := by decide +kernel
theorem dX3_join_22 : decode cX3_join 22 = .ok (.aload_n 0, 1) := by decide +kernel
theorem dX3_join_23 : decode cX3_join 23 = .ok (.iload 7, 2) := by decide +kernel
theorem dX3_join_25 : decode cX3_join 25 = .ok (.iload_n 2, 1) := by decide +kernel
theorem dX3_join_26 : decode cX3_join 26 = .ok (.invokevirtual 72, 3) := by decide +kernel
theorem dX3_join_29 : decode cX3_join 29 = .ok (.invokestatic 66, 3) := by decide +kernel
theorem dX3_join_32 : decode cX3_join 32 = .ok (.istore 8, 2) := by decide +kernel
theorem dX3_join_34 : decode cX3_join 34 = .ok (.aload_n 1, 1) := by decide +kernel
theorem dX3_join_35 : decode cX3_join 35 = .ok (.iload 8, 2) := by decide +kernel
theorem dX3_join_37 : decode cX3_join 37 = .ok (.dup2, 1) := by decide +kernel
theorem dX3_join_38 : decode cX3_join 38 = .ok (.laload, 1) := by decide +kernel
theorem dX3_join_39 : decode cX3_join 39 = .ok (.lload_n 3, 1) := by decide +kernel
theorem dX3_join_40 : decode cX3_join 40 = .ok (.ladd, 1) := by decide +kernel
theorem dX3_join_41 : decode cX3_join 41 = .ok (.lastore, 1) := by decide +kernel
theorem dX3_join_42 : decode cX3_join 42 = .ok (.aload_n 1, 1) := by decide +kernel
theorem dX3_join_43 : decode cX3_join 43 = .ok (.iload 8, 2) := by decide +kernel
theorem dX3_join_45 : decode cX3_join 45 = .ok (.iconst 1, 1) := by decide +kernel
theorem dX3_join_46 : decode cX3_join 46 = .ok (.iadd, 1) := by decide +kernel
theorem dX3_join_47 : decode cX3_join 47 = .ok (.dup2, 1) := by decide +kernel
theorem dX3_join_48 : decode cX3_join 48 = .ok (.laload, 1) := by decide +kernel
theorem dX3_join_49 : decode cX3_join 49 = .ok (.lload_n 3, 1) := by decide +kernel
theorem dX3_join_50 : decode cX3_join 50 = .ok (.iload_n 2, 1) := by decide +kernel
theorem dX3_join_51 : decode cX3_join 51 = .ok (.i2l, 1) := by decide +kernel
theorem dX3_join_52 : decode cX3_join 52 = .ok (.lmul, 1) := by decide +kernel
theorem dX3_join_53 : decode cX3_join 53 = .ok (.ladd, 1) := by decide +kernel
theorem dX3_join_54 : decode cX3_join 54 = .ok (.lastore, 1) := by decide +kernel
theorem dX3_join_55 : decode cX3_join 55 = .ok (.aload_n 1, 1) := by decide +kernel
theorem dX3_join_56 : decode cX3_join 56 = .ok (.iload 8, 2) := by decide +kernel
theorem dX3_join_58 : decode cX3_join 58 = .ok (.iconst 2, 1) := by decide +kernel
theorem dX3_join_59 : decode cX3_join 59 = .ok (.iadd, 1) := by decide +kernel
theorem dX3_join_60 : decode cX3_join 60 = .ok (.aload_n 1, 1) := by decide +kernel
theorem dX3_join_61 : decode cX3_join 61 = .ok (.iload 8, 2) := by decide +kernel
theorem dX3_join_63 : decode cX3_join 63 = .ok (.iconst 2, 1) := by decide +kernel
theorem dX3_join_64 : decode cX3_join 64 = .ok (.iadd, 1) := by decide +kernel
theorem dX3_join_65 : decode cX3_join 65 = .ok (.laload, 1) := by decide +kernel
theorem dX3_join_66 : decode cX3_join 66 = .ok (.lload 5, 2) := by decide +kernel
theorem dX3_join_68 : decode cX3_join 68 = .ok (.ladd, 1) := by decide +kernel
theorem dX3_join_69 : decode cX3_join 69 = .ok (.ldc2_w 79, 3) := by decide +kernel
theorem dX3_join_72 : decode cX3_join 72 = .ok (.lrem, 1) := by decide +kernel
theorem dX3_join_73 : decode cX3_join 73 = .ok (.lastore, 1) := by decide +kernel
theorem dX3_join_74 : decode cX3_join 74 = .ok (.iinc 7 1, 3) := by decide +kernel
theorem dX3_join_77 : decode cX3_join 77 = .ok (.goto (-66), 3) := by decide +kernel
theorem dX3_join_80 : decode cX3_join 80 = .ok (.return_, 1) := by decide +kernel
theorem dX3_nothingLeft_0 : decode cX3_nothingLeft 0 = .ok (.iconst 0, 1) := by decide +kernel
theorem dX3_nothingLeft_1 : decode cX3_nothingLeft 1 = .ok (.istore_n 1, 1) := by decide +kernel
theorem dX3_nothingLeft_2 : decode cX3_nothingLeft 2 = .ok (.iload_n 1, 1) := by decide +kernel
theorem dX3_nothingLeft_3 : decode cX3_nothingLeft 3 = .ok (.aload_n 0, 1) := by decide +kernel
theorem dX3_nothingLeft_4 : decode cX3_nothingLeft 4 = .ok (.getfield 13, 3) := by decide +kernel
theorem dX3_nothingLeft_7 : decode cX3_nothingLeft 7 = .ok (.arraylength, 1) := by decide +kernel
theorem dX3_nothingLeft_8 : decode cX3_nothingLeft 8 = .ok (.if_icmp .ge 22, 3) := by decide +kernel
theorem dX3_nothingLeft_11 : decode cX3_nothingLeft 11 = .ok (.aload_n 0, 1) := by decide +kernel
theorem dX3_nothingLeft_12 : decode cX3_nothingLeft 12 = .ok (.getfield 13, 3) := by decide +kernel
theorem dX3_nothingLeft_15 : decode cX3_nothingLeft 15 = .ok (.iload_n 1, 1) := by decide +kernel
theorem dX3_nothingLeft_16 : decode cX3_nothingLeft 16 = .ok (.laload, 1) := by decide +kernel
theorem dX3_nothingLeft_17 : decode cX3_nothingLeft 17 = .ok (.lconst 0, 1) := by decide +kernel
theorem dX3_nothingLeft_18 : decode cX3_nothingLeft 18 = .ok (.lcmp, 1) := by decide +kernel
theorem dX3_nothingLeft_19 : decode cX3_nothingLeft 19 = .ok (.ifCond .eq 5, 3) := by decide +kernel
theorem dX3_nothingLeft_22 : decode cX3_nothingLeft 22 = .ok (.iconst 0, 1) := by decide +kernel
theorem dX3_nothingLeft_23 : decode cX3_nothingLeft 23 = .ok (.ireturn, 1) := by decide +kernel
theorem dX3_nothingLeft_24 : decode cX3_nothingLeft 24 = .ok (.iinc 1 1, 3) := by decide +kernel
theorem dX3_nothingLeft_27 : decode cX3_nothingLeft 27 = .ok (.goto (-25), 3) := by decide +kernel
theorem dX3_nothingLeft_30 : decode cX3_nothingLeft 30 = .ok (.iconst 1, 1) := by decide +kernel
theorem dX3_nothingLeft_31 : decode cX3_nothingLeft 31 = .ok (.ireturn, 1) := by decide +kernel
theorem dX4_init_0 : decode cX4_init 0 = .ok (.aload_n 0, 1) := by decide +kernel
theorem dX4_init_1 : decode cX4_init 1 = .ok (.invokespecial 3, 3) := by decide +kernel
theorem dX4_init_4 : decode cX4_init 4 = .ok (.aload_n 0, 1) := by decide +kernel
theorem dX4_init_5 : decode cX4_init 5 = .ok (.bipush 6, 2) := by decide +kernel
theorem dX4_init_7 : decode cX4_init 7 = .ok (.bipush 12, 2) := by decide +kernel
theorem dX4_init_9 : decode cX4_init 9 = .ok (.multianewarray 9 2, 4) := by decide +kernel
theorem dX4_init_13 : decode cX4_init 13 = .ok (.putfield 11, 3) := by decide +kernel
theorem dX4_init_16 : decode cX4_init 16 = .ok (.aload_n 0, 1) := by decide +kernel
theorem dX4_init_17 : decode cX4_init 17 = .ok (.bipush 98, 2) := by decide +kernel
theorem dX4_init_19 : decode cX4_init 19 = .ok (.newarray .int, 2) := by decide +kernel
theorem dX4_init_21 : decode cX4_init 21 = .ok (.putfield 16, 3) := by decide +kernel
theorem dX4_init_24 : decode cX4_init 24 = .ok (.aload_n 0, 1) := by decide +kernel
theorem dX4_init_25 : decode cX4_init 25 = .ok (.bipush 11, 2) := by decide +kernel
theorem dX4_init_27 : decode cX4_init 27 = .ok (.iconst 1, 1) := by decide +kernel
theorem dX4_init_28 : decode cX4_init 28 = .ok (.iconst 1, 1) := by decide +kernel
theorem dX4_init_29 : decode cX4_init 29 = .ok (.invokevirtual 20, 3) := by decide +kernel
theorem dX4_init_32 : decode cX4_init 32 = .ok (.return_, 1) := by decide +kernel
theorem dX4_shape_0 : decode cX4_shape 0 = .ok (.aload_n 0, 1) := by decide +kernel
theorem dX4_shape_1 : decode cX4_shape 1 = .ok (.iload_n 1, 1) := by decide +kernel
theorem dX4_shape_2 : decode cX4_shape 2 = .ok (.putfield 24, 3) := by decide +kernel
theorem dX4_shape_5 : decode cX4_shape 5 = .ok (.aload_n 0, 1) := by decide +kernel
theorem dX4_shape_6 : decode cX4_shape 6 = .ok (.iload_n 2, 1) := by decide +kernel
theorem dX4_shape_7 : decode cX4_shape 7 = .ok (.putfield 28, 3) := by decide +kernel
theorem dX4_shape_10 : decode cX4_shape 10 = .ok (.aload_n 0, 1) := by decide +kernel
theorem dX4_shape_11 : decode cX4_shape 11 = .ok (.iload_n 3, 1) := by decide +kernel
theorem dX4_shape_12 : decode cX4_shape 12 = .ok (.putfield 31, 3) := by decide +kernel
theorem dX4_shape_15 : decode cX4_shape 15 = .ok (.iconst 0, 1) := by decide +kernel
theorem dX4_shape_16 : decode cX4_shape 16 = .ok (.istore 4, 2) := by decide +kernel
theorem dX4_shape_18 : decode cX4_shape 18 = .ok (.iload 4, 2) := by decide +kernel
theorem dX4_shape_20 : decode cX4_shape 20 = .ok (.bipush 6, 2) := by decide +kernel
theorem dX4_shape_22 : decode cX4_shape 22 = .ok (.if_icmp .ge 19, 3) := by decide +kernel
theorem dX4_shape_25 : decode cX4_shape 25 = .ok (.aload_n 0, 1) := by decide +kernel
theorem dX4_shape_26 : decode cX4_shape 26 = .ok (.getfield 11, 3) := by decide +kernel
theorem dX4_shape_29 : decode cX4_shape 29 = .ok (.iload 4, 2) := by decide +kernel
theorem dX4_shape_31 : decode cX4_shape 31 = .ok (.aaload, 1) := by decide +kernel
theorem dX4_shape_32 : decode cX4_shape 32 = .ok (.invokestatic 34, 3) := by decide +kernel
theorem dX4_shape_35 : decode cX4_shape 35 = .ok (.iinc 4 1, 3) := by decide +kernel
theorem dX4_shape_38 : decode cX4_shape 38 = .ok (.goto (-20), 3) := by decide +kernel
theorem dX4_shape_41 : decode cX4_shape 41 = .ok (.aload_n 0, 1) := by decide +kernel
theorem dX4_shape_42 : decode cX4_shape 42 = .ok (.getfield 16, 3) := by decide +kernel
theorem dX4_shape_45 : decode cX4_shape 45 = .ok (.iconst 1, 1) := by decide +kernel
theorem dX4_shape_46 : decode cX4_shape 46 = .ok (.iconst 1, 1) := by decide +kernel
theorem dX4_shape_47 : decode cX4_shape 47 = .ok (.iastore, 1) := by decide +kernel
theorem dX4_shape_48 : decode cX4_shape 48 = .ok (.iconst 2, 1) := by decide +kernel
theorem dX4_shape_49 : decode cX4_shape 49 = .ok (.istore 4, 2) := by decide +kernel
theorem dX4_shape_51 : decode cX4_shape 51 = .ok (.iload 4, 2) := by decide +kernel
theorem dX4_shape_53 : decode cX4_shape 53 = .ok (.aload_n 0, 1) := by decide +kernel
theorem dX4_shape_54 : decode cX4_shape 54 = .ok (.getfield 24, 3) := by decide +kernel
theorem dX4_shape_57 : decode cX4_shape 57 = .ok (.if_icmp .ge 46, 3) := by decide +kernel
theorem dX4_shape_60 : decode cX4_shape 60 = .ok (.aload_n 0, 1) := by decide +kernel
theorem dX4_shape_61 : decode cX4_shape 61 = .ok (.getfield 16, 3) := by decide +kernel
theorem dX4_shape_64 : decode cX4_shape 64 = .ok (.iload 4, 2) := by decide +kernel
theorem dX4_shape_66 : decode cX4_shape 66 = .ok (.aload_n 0, 1) := by decide +kernel
theorem dX4_shape_67 : decode cX4_shape 67 = .ok (.getfield 24, 3) := by decide +kernel
theorem dX4_shape_70 : decode cX4_shape 70 = .ok (.aload_n 0, 1) := by decide +kernel
theorem dX4_shape_71 : decode cX4_shape 71 = .ok (.getfield 24, 3) := by decide +kernel
theorem dX4_shape_74 : decode cX4_shape 74 = .ok (.iload 4, 2) := by decide +kernel
theorem dX4_shape_76 : decode cX4_shape 76 = .ok (.idiv, 1) := by decide +kernel
theorem dX4_shape_77 : decode cX4_shape 77 = .ok (.isub, 1) := by decide +kernel
theorem dX4_shape_78 : decode cX4_shape 78 = .ok (.aload_n 0, 1) := by decide +kernel
theorem dX4_shape_79 : decode cX4_shape 79 = .ok (.getfield 16, 3) := by decide +kernel
theorem dX4_shape_82 : decode cX4_shape 82 = .ok (.aload_n 0, 1) := by decide +kernel
theorem dX4_shape_83 : decode cX4_shape 83 = .ok (.getfield 24, 3) := by decide +kernel
theorem dX4_shape_86 : decode cX4_shape 86 = .ok (.iload 4, 2) := by decide +kernel
theorem dX4_shape_88 : decode cX4_shape 88 = .ok (.irem, 1) := by decide +kernel
theorem dX4_shape_89 : decode cX4_shape 89 = .ok (.iaload, 1) := by decide +kernel
theorem dX4_shape_90 : decode cX4_shape 90 = .ok (.imul, 1) := by decide +kernel
theorem dX4_shape_91 : decode cX4_shape 91 = .ok (.aload_n 0, 1) := by decide +kernel
theorem dX4_shape_92 : decode cX4_shape 92 = .ok (.getfield 24, 3) := by decide +kernel
theorem dX4_shape_95 : decode cX4_shape 95 = .ok (.irem, 1) := by decide +kernel
theorem dX4_shape_96 : decode cX4_shape 96 = .ok (.iastore, 1) := by decide +kernel
theorem dX4_shape_97 : decode cX4_shape 97 = .ok (.iinc 4 1, 3) := by decide +kernel
theorem dX4_shape_100 : decode cX4_shape 100 = .ok (.goto (-49), 3) := by decide +kernel
theorem dX4_shape_103 : decode cX4_shape 103 = .ok (.return_, 1) := by decide +kernel
theorem dX4_has_0 : decode cX4_has 0 = .ok (.iload_n 1, 1) := by decide +kernel
theorem dX4_has_1 : decode cX4_has 1 = .ok (.ifCond .lt 27, 3) := by decide +kernel
theorem dX4_has_4 : decode cX4_has 4 = .ok (.iload_n 1, 1) := by decide +kernel
theorem dX4_has_5 : decode cX4_has 5 = .ok (.aload_n 0, 1) := by decide +kernel
theorem dX4_has_6 : decode cX4_has 6 = .ok (.getfield 28, 3) := by decide +kernel
theorem dX4_has_9 : decode cX4_has 9 = .ok (.if_icmp .ge 19, 3) := by decide +kernel
theorem dX4_has_12 : decode cX4_has 12 = .ok (.iload_n 2, 1) := by decide +kernel
theorem dX4_has_13 : decode cX4_has 13 = .ok (.ifCond .lt 15, 3) := by decide +kernel
theorem dX4_has_16 : decode cX4_has 16 = .ok (.iload_n 2, 1) := by decide +kernel
theorem dX4_has_17 : decode cX4_has 17 = .ok (.aload_n 0, 1) := by decide +kernel
theorem dX4_has_18 : decode cX4_has 18 = .ok (.getfield 31, 3) := by decide +kernel
theorem dX4_has_21 : decode cX4_has 21 = .ok (.if_icmp .ge 7, 3) := by decide +kernel
theorem dX4_has_24 : decode cX4_has 24 = .ok (.iconst 1, 1) := by decide +kernel
theorem dX4_has_25 : decode cX4_has 25 = .ok (.goto 4, 3) := by decide +kernel
theorem dX4_has_28 : decode cX4_has 28 = .ok (.iconst 0, 1) := by decide +kernel
theorem dX4_has_29 : decode cX4_has 29 = .ok (.ireturn, 1) := by decide +kernel
theorem dX4_remainder_0 : decode cX4_remainder 0 = .ok (.iload_n 1, 1) := by decide +kernel
theorem dX4_remainder_1 : decode cX4_remainder 1 = .ok (.aload_n 0, 1) := by decide +kernel
theorem dX4_remainder_2 : decode cX4_remainder 2 = .ok (.getfield 24, 3) := by decide +kernel
theorem dX4_remainder_5 : decode cX4_remainder 5 = .ok (.invokestatic 38, 3) := by decide +kernel
theorem dX4_remainder_8 : decode cX4_remainder 8 = .ok (.ireturn, 1) := by decide +kernel
theorem dX4_quotient_0 : decode cX4_quotient 0 = .ok (.iload_n 1, 1) := by decide +kernel
theorem dX4_quotient_1 : decode cX4_quotient 1 = .ok (.aload_n 0, 1) := by decide +kernel
theorem dX4_quotient_2 : decode cX4_quotient 2 = .ok (.getfield 16, 3) := by decide +kernel
theorem dX4_quotient_5 : decode cX4_quotient 5 = .ok (.iload_n 2, 1) := by decide +kernel
theorem dX4_quotient_6 : decode cX4_quotient 6 = .ok (.iaload, 1) := by decide +kernel
theorem dX4_quotient_7 : decode cX4_quotient 7 = .ok (.imul, 1) := by decide +kernel
theorem dX4_quotient_8 : decode cX4_quotient 8 = .ok (.aload_n 0, 1) := by decide +kernel
theorem dX4_quotient_9 : decode cX4_quotient 9 = .ok (.getfield 24, 3) := by decide +kernel
theorem dX4_quotient_12 : decode cX4_quotient 12 = .ok (.irem, 1) := by decide +kernel
theorem dX4_quotient_13 : decode cX4_quotient 13 = .ok (.ireturn, 1) := by decide +kernel
theorem dX4_fillWithPowers_0 : decode cX4_fillWithPowers 0 = .ok (.iconst 0, 1) := by decide +kernel
theorem dX4_fillWithPowers_1 : decode cX4_fillWithPowers 1 = .ok (.istore_n 2, 1) := by decide +kernel
theorem dX4_fillWithPowers_2 : decode cX4_fillWithPowers 2 = .ok (.iload_n 2, 1) := by decide +kernel
theorem dX4_fillWithPowers_3 : decode cX4_fillWithPowers 3 = .ok (.aload_n 0, 1) := by decide +kernel
theorem dX4_fillWithPowers_4 : decode cX4_fillWithPowers 4 = .ok (.getfield 31, 3) := by decide +kernel
theorem dX4_fillWithPowers_7 : decode cX4_fillWithPowers 7 = .ok (.if_icmp .ge 50, 3) := by decide +kernel
theorem dX4_fillWithPowers_10 : decode cX4_fillWithPowers 10 = .ok (.iload_n 1, 1) := by decide +kernel
theorem dX4_fillWithPowers_11 : decode cX4_fillWithPowers 11 = .ok (.istore_n 3, 1) := by decide +kernel
theorem dX4_fillWithPowers_12 : decode cX4_fillWithPowers 12 = .ok (.iconst 0, 1) := by decide +kernel
theorem dX4_fillWithPowers_13 : decode cX4_fillWithPowers 13 = .ok (.istore 4, 2) := by decide +kernel
theorem dX4_fillWithPowers_15 : decode cX4_fillWithPowers 15 = .ok (.iload 4, 2) := by decide +kernel
theorem dX4_fillWithPowers_17 : decode cX4_fillWithPowers 17 = .ok (.aload_n 0, 1) := by decide +kernel
theorem dX4_fillWithPowers_18 : decode cX4_fillWithPowers 18 = .ok (.getfield 28, 3) := by decide +kernel
theorem dX4_fillWithPowers_21 : decode cX4_fillWithPowers 21 = .ok (.if_icmp .ge 30, 3) := by decide +kernel
theorem dX4_fillWithPowers_24 : decode cX4_fillWithPowers 24 = .ok (.aload_n 0, 1) := by decide +kernel
theorem dX4_fillWithPowers_25 : decode cX4_fillWithPowers 25 = .ok (.getfield 11, 3) := by decide +kernel
theorem dX4_fillWithPowers_28 : decode cX4_fillWithPowers 28 = .ok (.iload 4, 2) := by decide +kernel
theorem dX4_fillWithPowers_30 : decode cX4_fillWithPowers 30 = .ok (.aaload, 1) := by decide +kernel
theorem dX4_fillWithPowers_31 : decode cX4_fillWithPowers 31 = .ok (.iload_n 2, 1) := by decide +kernel
theorem dX4_fillWithPowers_32 : decode cX4_fillWithPowers 32 = .ok (.iload_n 3, 1) := by decide +kernel
theorem dX4_fillWithPowers_33 : decode cX4_fillWithPowers 33 = .ok (.iastore, 1) := by decide +kernel
theorem dX4_fillWithPowers_34 : decode cX4_fillWithPowers 34 = .ok (.iload_n 3, 1) := by decide +kernel
theorem dX4_fillWithPowers_35 : decode cX4_fillWithPowers 35 = .ok (.iload_n 2, 1) := by decide +kernel
theorem dX4_fillWithPowers_36 : decode cX4_fillWithPowers 36 = .ok (.iconst 1, 1) := by decide +kernel
theorem dX4_fillWithPowers_37 : decode cX4_fillWithPowers 37 = .ok (.iadd, 1) := by decide +kernel
theorem dX4_fillWithPowers_38 : decode cX4_fillWithPowers 38 = .ok (.imul, 1) := by decide +kernel
theorem dX4_fillWithPowers_39 : decode cX4_fillWithPowers 39 = .ok (.aload_n 0, 1) := by decide +kernel
theorem dX4_fillWithPowers_40 : decode cX4_fillWithPowers 40 = .ok (.getfield 24, 3) := by decide +kernel
theorem dX4_fillWithPowers_43 : decode cX4_fillWithPowers 43 = .ok (.irem, 1) := by decide +kernel
theorem dX4_fillWithPowers_44 : decode cX4_fillWithPowers 44 = .ok (.istore_n 3, 1) := by decide +kernel
theorem dX4_fillWithPowers_45 : decode cX4_fillWithPowers 45 = .ok (.iinc 4 1, 3) := by decide +kernel
theorem dX4_fillWithPowers_48 : decode cX4_fillWithPowers 48 = .ok (.goto (-33), 3) := by decide +kernel
theorem dX4_fillWithPowers_51 : decode cX4_fillWithPowers 51 = .ok (.iinc 2 1, 3) := by decide +kernel
theorem dX4_fillWithPowers_54 : decode cX4_fillWithPowers 54 = .ok (.goto (-52), 3) := by decide +kernel
theorem dX4_fillWithPowers_57 : decode cX4_fillWithPowers 57 = .ok (.return_, 1) := by decide +kernel
theorem dX4_sumsOf_0 : decode cX4_sumsOf 0 = .ok (.iconst 0, 1) := by decide +kernel
theorem dX4_sumsOf_1 : decode cX4_sumsOf 1 = .ok (.istore_n 3, 1) := by decide +kernel
theorem dX4_sumsOf_2 : decode cX4_sumsOf 2 = .ok (.iload_n 3, 1) := by decide +kernel
theorem dX4_sumsOf_3 : decode cX4_sumsOf 3 = .ok (.aload_n 0, 1) := by decide +kernel
theorem dX4_sumsOf_4 : decode cX4_sumsOf 4 = .ok (.getfield 28, 3) := by decide +kernel
theorem dX4_sumsOf_7 : decode cX4_sumsOf 7 = .ok (.if_icmp .ge 59, 3) := by decide +kernel
theorem dX4_sumsOf_10 : decode cX4_sumsOf 10 = .ok (.iconst 0, 1) := by decide +kernel
theorem dX4_sumsOf_11 : decode cX4_sumsOf 11 = .ok (.istore 4, 2) := by decide +kernel
theorem dX4_sumsOf_13 : decode cX4_sumsOf 13 = .ok (.iconst 0, 1) := by decide +kernel
theorem dX4_sumsOf_14 : decode cX4_sumsOf 14 = .ok (.istore 5, 2) := by decide +kernel
theorem dX4_sumsOf_16 : decode cX4_sumsOf 16 = .ok (.iload 5, 2) := by decide +kernel
theorem dX4_sumsOf_18 : decode cX4_sumsOf 18 = .ok (.aload_n 0, 1) := by decide +kernel
theorem dX4_sumsOf_19 : decode cX4_sumsOf 19 = .ok (.getfield 31, 3) := by decide +kernel
theorem dX4_sumsOf_22 : decode cX4_sumsOf 22 = .ok (.if_icmp .ge 28, 3) := by decide +kernel
theorem dX4_sumsOf_25 : decode cX4_sumsOf 25 = .ok (.iload 4, 2) := by decide +kernel
theorem dX4_sumsOf_27 : decode cX4_sumsOf 27 = .ok (.aload_n 0, 1) := by decide +kernel
theorem dX4_sumsOf_28 : decode cX4_sumsOf 28 = .ok (.getfield 11, 3) := by decide +kernel
theorem dX4_sumsOf_31 : decode cX4_sumsOf 31 = .ok (.iload_n 3, 1) := by decide +kernel
theorem dX4_sumsOf_32 : decode cX4_sumsOf 32 = .ok (.aaload, 1) := by decide +kernel
theorem dX4_sumsOf_33 : decode cX4_sumsOf 33 = .ok (.iload 5, 2) := by decide +kernel
theorem dX4_sumsOf_35 : decode cX4_sumsOf 35 = .ok (.iaload, 1) := by decide +kernel
theorem dX4_sumsOf_36 : decode cX4_sumsOf 36 = .ok (.aload_n 1, 1) := by decide +kernel
theorem dX4_sumsOf_37 : decode cX4_sumsOf 37 = .ok (.iload 5, 2) := by decide +kernel
theorem dX4_sumsOf_39 : decode cX4_sumsOf 39 = .ok (.iaload, 1) := by decide +kernel
theorem dX4_sumsOf_40 : decode cX4_sumsOf 40 = .ok (.imul, 1) := by decide +kernel
theorem dX4_sumsOf_41 : decode cX4_sumsOf 41 = .ok (.iadd, 1) := by decide +kernel
theorem dX4_sumsOf_42 : decode cX4_sumsOf 42 = .ok (.istore 4, 2) := by decide +kernel
theorem dX4_sumsOf_44 : decode cX4_sumsOf 44 = .ok (.iinc 5 1, 3) := by decide +kernel
theorem dX4_sumsOf_47 : decode cX4_sumsOf 47 = .ok (.goto (-31), 3) := by decide +kernel
theorem dX4_sumsOf_50 : decode cX4_sumsOf 50 = .ok (.aload_n 2, 1) := by decide +kernel
theorem dX4_sumsOf_51 : decode cX4_sumsOf 51 = .ok (.iload_n 3, 1) := by decide +kernel
theorem dX4_sumsOf_52 : decode cX4_sumsOf 52 = .ok (.iload 4, 2) := by decide +kernel
theorem dX4_sumsOf_54 : decode cX4_sumsOf 54 = .ok (.aload_n 0, 1) := by decide +kernel
theorem dX4_sumsOf_55 : decode cX4_sumsOf 55 = .ok (.getfield 24, 3) := by decide +kernel
theorem dX4_sumsOf_58 : decode cX4_sumsOf 58 = .ok (.irem, 1) := by decide +kernel
theorem dX4_sumsOf_59 : decode cX4_sumsOf 59 = .ok (.iastore, 1) := by decide +kernel
theorem dX4_sumsOf_60 : decode cX4_sumsOf 60 = .ok (.iinc 3 1, 3) := by decide +kernel
theorem dX4_sumsOf_63 : decode cX4_sumsOf 63 = .ok (.goto (-61), 3) := by decide +kernel
theorem dX4_sumsOf_66 : decode cX4_sumsOf 66 = .ok (.return_, 1) := by decide +kernel
theorem dX4_mostLike_0 : decode cX4_mostLike 0 = .ok (.iconst 0, 1) := by decide +kernel
theorem dX4_mostLike_1 : decode cX4_mostLike 1 = .ok (.istore_n 1, 1) := by decide +kernel
theorem dX4_mostLike_2 : decode cX4_mostLike 2 = .ok (.iconst 0, 1) := by decide +kernel
theorem dX4_mostLike_3 : decode cX4_mostLike 3 = .ok (.istore_n 2, 1) := by decide +kernel
theorem dX4_mostLike_4 : decode cX4_mostLike 4 = .ok (.iload_n 2, 1) := by decide +kernel
theorem dX4_mostLike_5 : decode cX4_mostLike 5 = .ok (.aload_n 0, 1) := by decide +kernel
theorem dX4_mostLike_6 : decode cX4_mostLike 6 = .ok (.getfield 31, 3) := by decide +kernel
theorem dX4_mostLike_9 : decode cX4_mostLike 9 = .ok (.if_icmp .ge 33, 3) := by decide +kernel
theorem dX4_mostLike_12 : decode cX4_mostLike 12 = .ok (.iconst 0, 1) := by decide +kernel
theorem dX4_mostLike_13 : decode cX4_mostLike 13 = .ok (.istore_n 3, 1) := by decide +kernel
theorem dX4_mostLike_14 : decode cX4_mostLike 14 = .ok (.iload_n 3, 1) := by decide +kernel
theorem dX4_mostLike_15 : decode cX4_mostLike 15 = .ok (.iload_n 2, 1) := by decide +kernel
theorem dX4_mostLike_16 : decode cX4_mostLike 16 = .ok (.if_icmp .ge 20, 3) := by decide +kernel
theorem dX4_mostLike_19 : decode cX4_mostLike 19 = .ok (.iload_n 1, 1) := by decide +kernel
theorem dX4_mostLike_20 : decode cX4_mostLike 20 = .ok (.aload_n 0, 1) := by decide +kernel
theorem dX4_mostLike_21 : decode cX4_mostLike 21 = .ok (.iload_n 2, 1) := by decide +kernel
theorem dX4_mostLike_22 : decode cX4_mostLike 22 = .ok (.iload_n 3, 1) := by decide +kernel
theorem dX4_mostLike_23 : decode cX4_mostLike 23 = .ok (.invokevirtual 44, 3) := by decide +kernel
theorem dX4_mostLike_26 : decode cX4_mostLike 26 = .ok (.invokestatic 47, 3) := by decide +kernel
theorem dX4_mostLike_29 : decode cX4_mostLike 29 = .ok (.istore_n 1, 1) := by decide +kernel
theorem dX4_mostLike_30 : decode cX4_mostLike 30 = .ok (.iinc 3 1, 3) := by decide +kernel
theorem dX4_mostLike_33 : decode cX4_mostLike 33 = .ok (.goto (-19), 3) := by decide +kernel
theorem dX4_mostLike_36 : decode cX4_mostLike 36 = .ok (.iinc 2 1, 3) := by decide +kernel
theorem dX4_mostLike_39 : decode cX4_mostLike 39 = .ok (.goto (-35), 3) := by decide +kernel
theorem dX4_mostLike_42 : decode cX4_mostLike 42 = .ok (.iload_n 1, 1) := by decide +kernel
theorem dX4_mostLike_43 : decode cX4_mostLike 43 = .ok (.ireturn, 1) := by decide +kernel
theorem dX4_likeness_0 : decode cX4_likeness 0 = .ok (.iconst 0, 1) := by decide +kernel
theorem dX4_likeness_1 : decode cX4_likeness 1 = .ok (.istore_n 3, 1) := by decide +kernel
theorem dX4_likeness_2 : decode cX4_likeness 2 = .ok (.iconst 0, 1) := by decide +kernel
theorem dX4_likeness_3 : decode cX4_likeness 3 = .ok (.istore 4, 2) := by decide +kernel
theorem dX4_likeness_5 : decode cX4_likeness 5 = .ok (.iconst 0, 1) := by decide +kernel
theorem dX4_likeness_6 : decode cX4_likeness 6 = .ok (.istore 5, 2) := by decide +kernel
theorem dX4_likeness_8 : decode cX4_likeness 8 = .ok (.iload 5, 2) := by decide +kernel
theorem dX4_likeness_10 : decode cX4_likeness 10 = .ok (.aload_n 0, 1) := by decide +kernel
theorem dX4_likeness_11 : decode cX4_likeness 11 = .ok (.getfield 28, 3) := by decide +kernel
theorem dX4_likeness_14 : decode cX4_likeness 14 = .ok (.if_icmp .ge 78, 3) := by decide +kernel
theorem dX4_likeness_17 : decode cX4_likeness 17 = .ok (.aload_n 0, 1) := by decide +kernel
theorem dX4_likeness_18 : decode cX4_likeness 18 = .ok (.getfield 11, 3) := by decide +kernel
theorem dX4_likeness_21 : decode cX4_likeness 21 = .ok (.iload 5, 2) := by decide +kernel
theorem dX4_likeness_23 : decode cX4_likeness 23 = .ok (.aaload, 1) := by decide +kernel
theorem dX4_likeness_24 : decode cX4_likeness 24 = .ok (.iload_n 1, 1) := by decide +kernel
theorem dX4_likeness_25 : decode cX4_likeness 25 = .ok (.iaload, 1) := by decide +kernel
theorem dX4_likeness_26 : decode cX4_likeness 26 = .ok (.ifCond .ne 21, 3) := by decide +kernel
theorem dX4_likeness_29 : decode cX4_likeness 29 = .ok (.aload_n 0, 1) := by decide +kernel
theorem dX4_likeness_30 : decode cX4_likeness 30 = .ok (.getfield 11, 3) := by decide +kernel
theorem dX4_likeness_33 : decode cX4_likeness 33 = .ok (.iload 5, 2) := by decide +kernel
theorem dX4_likeness_35 : decode cX4_likeness 35 = .ok (.aaload, 1) := by decide +kernel
theorem dX4_likeness_36 : decode cX4_likeness 36 = .ok (.iload_n 2, 1) := by decide +kernel
theorem dX4_likeness_37 : decode cX4_likeness 37 = .ok (.iaload, 1) := by decide +kernel
theorem dX4_likeness_38 : decode cX4_likeness 38 = .ok (.ifCond .ne 9, 3) := by decide +kernel
theorem dX4_likeness_41 : decode cX4_likeness 41 = .ok (.iinc 3 1, 3) := by decide +kernel
theorem dX4_likeness_44 : decode cX4_likeness 44 = .ok (.goto 42, 3) := by decide +kernel
theorem dX4_likeness_47 : decode cX4_likeness 47 = .ok (.aload_n 0, 1) := by decide +kernel
theorem dX4_likeness_48 : decode cX4_likeness 48 = .ok (.getfield 11, 3) := by decide +kernel
theorem dX4_likeness_51 : decode cX4_likeness 51 = .ok (.iload 5, 2) := by decide +kernel
theorem dX4_likeness_53 : decode cX4_likeness 53 = .ok (.aaload, 1) := by decide +kernel
theorem dX4_likeness_54 : decode cX4_likeness 54 = .ok (.iload_n 1, 1) := by decide +kernel
theorem dX4_likeness_55 : decode cX4_likeness 55 = .ok (.iaload, 1) := by decide +kernel
theorem dX4_likeness_56 : decode cX4_likeness 56 = .ok (.ifCond .eq 30, 3) := by decide +kernel
theorem dX4_likeness_59 : decode cX4_likeness 59 = .ok (.aload_n 0, 1) := by decide +kernel
theorem dX4_likeness_60 : decode cX4_likeness 60 = .ok (.getfield 11, 3) := by decide +kernel
theorem dX4_likeness_63 : decode cX4_likeness 63 = .ok (.iload 5, 2) := by decide +kernel
theorem dX4_likeness_65 : decode cX4_likeness 65 = .ok (.aaload, 1) := by decide +kernel
theorem dX4_likeness_66 : decode cX4_likeness 66 = .ok (.iload_n 2, 1) := by decide +kernel
theorem dX4_likeness_67 : decode cX4_likeness 67 = .ok (.iaload, 1) := by decide +kernel
theorem dX4_likeness_68 : decode cX4_likeness 68 = .ok (.ifCond .eq 18, 3) := by decide +kernel
theorem dX4_likeness_71 : decode cX4_likeness 71 = .ok (.iload 4, 2) := by decide +kernel
theorem dX4_likeness_73 : decode cX4_likeness 73 = .ok (.aload_n 0, 1) := by decide +kernel
theorem dX4_likeness_74 : decode cX4_likeness 74 = .ok (.iload 5, 2) := by decide +kernel
theorem dX4_likeness_76 : decode cX4_likeness 76 = .ok (.iload_n 1, 1) := by decide +kernel
theorem dX4_likeness_77 : decode cX4_likeness 77 = .ok (.iload_n 2, 1) := by decide +kernel
theorem dX4_likeness_78 : decode cX4_likeness 78 = .ok (.invokevirtual 50, 3) := by decide +kernel
theorem dX4_likeness_81 : decode cX4_likeness 81 = .ok (.invokestatic 47, 3) := by decide +kernel
theorem dX4_likeness_84 : decode cX4_likeness 84 = .ok (.istore 4, 2) := by decide +kernel
theorem dX4_likeness_86 : decode cX4_likeness 86 = .ok (.iinc 5 1, 3) := by decide +kernel
theorem dX4_likeness_89 : decode cX4_likeness 89 = .ok (.goto (-81), 3) := by decide +kernel
theorem dX4_likeness_92 : decode cX4_likeness 92 = .ok (.iload_n 3, 1) := by decide +kernel
theorem dX4_likeness_93 : decode cX4_likeness 93 = .ok (.iload 4, 2) := by decide +kernel
theorem dX4_likeness_95 : decode cX4_likeness 95 = .ok (.iadd, 1) := by decide +kernel
theorem dX4_likeness_96 : decode cX4_likeness 96 = .ok (.ireturn, 1) := by decide +kernel
theorem dX4_placesWithFactorOf_0 : decode cX4_placesWithFactorOf 0 = .ok (.aload_n 0, 1) := by decide +kernel
theorem dX4_placesWithFactorOf_1 : decode cX4_placesWithFactorOf 1 = .ok (.aload_n 0, 1) := by decide +kernel
theorem dX4_placesWithFactorOf_2 : decode cX4_placesWithFactorOf 2 = .ok (.getfield 11, 3) := by decide +kernel
theorem dX4_placesWithFactorOf_5 : decode cX4_placesWithFactorOf 5 = .ok (.iload_n 1, 1) := by decide +kernel
theorem dX4_placesWithFactorOf_6 : decode cX4_placesWithFactorOf 6 = .ok (.aaload, 1) := by decide +kernel
theorem dX4_placesWithFactorOf_7 : decode cX4_placesWithFactorOf 7 = .ok (.iload_n 2, 1) := by decide +kernel
theorem dX4_placesWithFactorOf_8 : decode cX4_placesWithFactorOf 8 = .ok (.iaload, 1) := by decide +kernel
theorem dX4_placesWithFactorOf_9 : decode cX4_placesWithFactorOf 9 = .ok (.aload_n 0, 1) := by decide +kernel
theorem dX4_placesWithFactorOf_10 : decode cX4_placesWithFactorOf 10 = .ok (.getfield 11, 3) := by decide +kernel
theorem dX4_placesWithFactorOf_13 : decode cX4_placesWithFactorOf 13 = .ok (.iload_n 1, 1) := by decide +kernel
theorem dX4_placesWithFactorOf_14 : decode cX4_placesWithFactorOf 14 = .ok (.aaload, 1) := by decide +kernel
theorem dX4_placesWithFactorOf_15 : decode cX4_placesWithFactorOf 15 = .ok (.iload_n 3, 1) := by decide +kernel
theorem dX4_placesWithFactorOf_16 : decode cX4_placesWithFactorOf 16 = .ok (.iaload, 1) := by decide +kernel
theorem dX4_placesWithFactorOf_17 : decode cX4_placesWithFactorOf 17 = .ok (.invokevirtual 54, 3) := by decide +kernel
theorem dX4_placesWithFactorOf_20 : decode cX4_placesWithFactorOf 20 = .ok (.istore 4, 2) := by decide +kernel
theorem dX4_placesWithFactorOf_22 : decode cX4_placesWithFactorOf 22 = .ok (.iconst 0, 1) := by decide +kernel
theorem dX4_placesWithFactorOf_23 : decode cX4_placesWithFactorOf 23 = .ok (.istore 5, 2) := by decide +kernel
theorem dX4_placesWithFactorOf_25 : decode cX4_placesWithFactorOf 25 = .ok (.iconst 0, 1) := by decide +kernel
theorem dX4_placesWithFactorOf_26 : decode cX4_placesWithFactorOf 26 = .ok (.istore 6, 2) := by decide +kernel
theorem dX4_placesWithFactorOf_28 : decode cX4_placesWithFactorOf 28 = .ok (.iload 6, 2) := by decide +kernel
theorem dX4_placesWithFactorOf_30 : decode cX4_placesWithFactorOf 30 = .ok (.aload_n 0, 1) := by decide +kernel
theorem dX4_placesWithFactorOf_31 : decode cX4_placesWithFactorOf 31 = .ok (.getfield 28, 3) := by decide +kernel
theorem dX4_placesWithFactorOf_34 : decode cX4_placesWithFactorOf 34 = .ok (.if_icmp .ge 53, 3) := by decide +kernel
theorem dX4_placesWithFactorOf_37 : decode cX4_placesWithFactorOf 37 = .ok (.aload_n 0, 1) := by decide +kernel
theorem dX4_placesWithFactorOf_38 : decode cX4_placesWithFactorOf 38 = .ok (.getfield 11, 3) := by decide +kernel
theorem dX4_placesWithFactorOf_41 : decode cX4_placesWithFactorOf 41 = .ok (.iload 6, 2) := by decide +kernel
theorem dX4_placesWithFactorOf_43 : decode cX4_placesWithFactorOf 43 = .ok (.aaload, 1) := by decide +kernel
theorem dX4_placesWithFactorOf_44 : decode cX4_placesWithFactorOf 44 = .ok (.iload_n 3, 1) := by decide +kernel
theorem dX4_placesWithFactorOf_45 : decode cX4_placesWithFactorOf 45 = .ok (.iaload, 1) := by decide +kernel
theorem dX4_placesWithFactorOf_46 : decode cX4_placesWithFactorOf 46 = .ok (.ifCond .eq 35, 3) := by decide +kernel
theorem dX4_placesWithFactorOf_49 : decode cX4_placesWithFactorOf 49 = .ok (.iload 4, 2) := by decide +kernel
theorem dX4_placesWithFactorOf_51 : decode cX4_placesWithFactorOf 51 = .ok (.aload_n 0, 1) := by decide +kernel
theorem dX4_placesWithFactorOf_52 : decode cX4_placesWithFactorOf 52 = .ok (.getfield 11, 3) := by decide +kernel
theorem dX4_placesWithFactorOf_55 : decode cX4_placesWithFactorOf 55 = .ok (.iload 6, 2) := by decide +kernel
theorem dX4_placesWithFactorOf_57 : decode cX4_placesWithFactorOf 57 = .ok (.aaload, 1) := by decide +kernel
theorem dX4_placesWithFactorOf_58 : decode cX4_placesWithFactorOf 58 = .ok (.iload_n 3, 1) := by decide +kernel
theorem dX4_placesWithFactorOf_59 : decode cX4_placesWithFactorOf 59 = .ok (.iaload, 1) := by decide +kernel
theorem dX4_placesWithFactorOf_60 : decode cX4_placesWithFactorOf 60 = .ok (.imul, 1) := by decide +kernel
theorem dX4_placesWithFactorOf_61 : decode cX4_placesWithFactorOf 61 = .ok (.aload_n 0, 1) := by decide +kernel
theorem dX4_placesWithFactorOf_62 : decode cX4_placesWithFactorOf 62 = .ok (.getfield 24, 3) := by decide +kernel
theorem dX4_placesWithFactorOf_65 : decode cX4_placesWithFactorOf 65 = .ok (.irem, 1) := by decide +kernel
theorem dX4_placesWithFactorOf_66 : decode cX4_placesWithFactorOf 66 = .ok (.aload_n 0, 1) := by decide +kernel
theorem dX4_placesWithFactorOf_67 : decode cX4_placesWithFactorOf 67 = .ok (.getfield 11, 3) := by decide +kernel
theorem dX4_placesWithFactorOf_70 : decode cX4_placesWithFactorOf 70 = .ok (.iload 6, 2) := by decide +kernel
theorem dX4_placesWithFactorOf_72 : decode cX4_placesWithFactorOf 72 = .ok (.aaload, 1) := by decide +kernel
theorem dX4_placesWithFactorOf_73 : decode cX4_placesWithFactorOf 73 = .ok (.iload_n 2, 1) := by decide +kernel
theorem dX4_placesWithFactorOf_74 : decode cX4_placesWithFactorOf 74 = .ok (.iaload, 1) := by decide +kernel
theorem dX4_placesWithFactorOf_75 : decode cX4_placesWithFactorOf 75 = .ok (.if_icmp .ne 6, 3) := by decide +kernel
theorem dX4_placesWithFactorOf_78 : decode cX4_placesWithFactorOf 78 = .ok (.iinc 5 1, 3) := by decide +kernel
theorem dX4_placesWithFactorOf_81 : decode cX4_placesWithFactorOf 81 = .ok (.iinc 6 1, 3) := by decide +kernel
theorem dX4_placesWithFactorOf_84 : decode cX4_placesWithFactorOf 84 = .ok (.goto (-56), 3) := by decide +kernel
theorem dX4_placesWithFactorOf_87 : decode cX4_placesWithFactorOf 87 = .ok (.iload 5, 2) := by decide +kernel
theorem dX4_placesWithFactorOf_89 : decode cX4_placesWithFactorOf 89 = .ok (.ireturn, 1) := by decide +kernel
theorem dX5_init_0 : decode cX5_init 0 = .ok (.aload_n 0, 1) := by decide +kernel
theorem dX5_init_1 : decode cX5_init 1 = .ok (.invokespecial 1, 3) := by decide +kernel
theorem dX5_init_4 : decode cX5_init 4 = .ok (.aload_n 0, 1) := by decide +kernel
theorem dX5_init_5 : decode cX5_init 5 = .ok (.new 7, 3) := by decide +kernel
theorem dX5_init_8 : decode cX5_init 8 = .ok (.dup, 1) := by decide +kernel
theorem dX5_init_9 : decode cX5_init 9 = .ok (.invokespecial 9, 3) := by decide +kernel
theorem dX5_init_12 : decode cX5_init 12 = .ok (.putfield 10, 3) := by decide +kernel
theorem dX5_init_15 : decode cX5_init 15 = .ok (.aload_n 0, 1) := by decide +kernel
theorem dX5_init_16 : decode cX5_init 16 = .ok (.new 16, 3) := by decide +kernel
theorem dX5_init_19 : decode cX5_init 19 = .ok (.dup, 1) := by decide +kernel
theorem dX5_init_20 : decode cX5_init 20 = .ok (.aload_n 0, 1) := by decide +kernel
theorem dX5_init_21 : decode cX5_init 21 = .ok (.getfield 10, 3) := by decide +kernel
theorem dX5_init_24 : decode cX5_init 24 = .ok (.invokespecial 18, 3) := by decide +kernel
theorem dX5_init_27 : decode cX5_init 27 = .ok (.putfield 21, 3) := by decide +kernel
theorem dX5_init_30 : decode cX5_init 30 = .ok (.aload_n 0, 1) := by decide +kernel
theorem dX5_init_31 : decode cX5_init 31 = .ok (.new 25, 3) := by decide +kernel
theorem dX5_init_34 : decode cX5_init 34 = .ok (.dup, 1) := by decide +kernel
theorem dX5_init_35 : decode cX5_init 35 = .ok (.aload_n 0, 1) := by decide +kernel
theorem dX5_init_36 : decode cX5_init 36 = .ok (.getfield 10, 3) := by decide +kernel
theorem dX5_init_39 : decode cX5_init 39 = .ok (.aload_n 0, 1) := by decide +kernel
theorem dX5_init_40 : decode cX5_init 40 = .ok (.getfield 21, 3) := by decide +kernel
theorem dX5_init_43 : decode cX5_init 43 = .ok (.invokespecial 27, 3) := by decide +kernel
theorem dX5_init_46 : decode cX5_init 46 = .ok (.putfield 30, 3) := by decide +kernel
theorem dX5_init_49 : decode cX5_init 49 = .ok (.aload_n 0, 1) := by decide +kernel
theorem dX5_init_50 : decode cX5_init 50 = .ok (.new 34, 3) := by decide +kernel
theorem dX5_init_53 : decode cX5_init 53 = .ok (.dup, 1) := by decide +kernel
theorem dX5_init_54 : decode cX5_init 54 = .ok (.aload_n 0, 1) := by decide +kernel
theorem dX5_init_55 : decode cX5_init 55 = .ok (.getfield 10, 3) := by decide +kernel
theorem dX5_init_58 : decode cX5_init 58 = .ok (.invokespecial 36, 3) := by decide +kernel
theorem dX5_init_61 : decode cX5_init 61 = .ok (.putfield 37, 3) := by decide +kernel
theorem dX5_init_64 : decode cX5_init 64 = .ok (.aload_n 0, 1) := by decide +kernel
theorem dX5_init_65 : decode cX5_init 65 = .ok (.new 41, 3) := by decide +kernel
theorem dX5_init_68 : decode cX5_init 68 = .ok (.dup, 1) := by decide +kernel
theorem dX5_init_69 : decode cX5_init 69 = .ok (.invokespecial 43, 3) := by decide +kernel
theorem dX5_init_72 : decode cX5_init 72 = .ok (.putfield 44, 3) := by decide +kernel
theorem dX5_init_75 : decode cX5_init 75 = .ok (.aload_n 0, 1) := by decide +kernel
theorem dX5_init_76 : decode cX5_init 76 = .ok (.bipush 6, 2) := by decide +kernel
theorem dX5_init_78 : decode cX5_init 78 = .ok (.bipush 12, 2) := by decide +kernel
theorem dX5_init_80 : decode cX5_init 80 = .ok (.multianewarray 48 2, 4) := by decide +kernel
theorem dX5_init_84 : decode cX5_init 84 = .ok (.putfield 50, 3) := by decide +kernel
theorem dX5_init_87 : decode cX5_init 87 = .ok (.aload_n 0, 1) := by decide +kernel
theorem dX5_init_88 : decode cX5_init 88 = .ok (.bipush 6, 2) := by decide +kernel
theorem dX5_init_90 : decode cX5_init 90 = .ok (.bipush 6, 2) := by decide +kernel
theorem dX5_init_92 : decode cX5_init 92 = .ok (.multianewarray 48 2, 4) := by decide +kernel
theorem dX5_init_96 : decode cX5_init 96 = .ok (.putfield 53, 3) := by decide +kernel
theorem dX5_init_99 : decode cX5_init 99 = .ok (.return_, 1) := by decide +kernel
theorem dX5_begin_0 : decode cX5_begin 0 = .ok (.iload_n 1, 1) := by decide +kernel
theorem dX5_begin_1 : decode cX5_begin 1 = .ok (.invokestatic 56, 3) := by decide +kernel
theorem dX5_begin_4 : decode cX5_begin 4 = .ok (.ifCond .eq 25, 3) := by decide +kernel
theorem dX5_begin_7 : decode cX5_begin 7 = .ok (.iload_n 2, 1) := by decide +kernel
theorem dX5_begin_8 : decode cX5_begin 8 = .ok (.iconst 1, 1) := by decide +kernel
theorem dX5_begin_9 : decode cX5_begin 9 = .ok (.if_icmp .lt 20, 3) := by decide +kernel
theorem dX5_begin_12 : decode cX5_begin 12 = .ok (.iload_n 2, 1) := by decide +kernel
theorem dX5_begin_13 : decode cX5_begin 13 = .ok (.bipush 6, 2) := by decide +kernel
theorem dX5_begin_15 : decode cX5_begin 15 = .ok (.if_icmp .gt 14, 3) := by decide +kernel
theorem dX5_begin_18 : decode cX5_begin 18 = .ok (.iload_n 3, 1) := by decide +kernel
theorem dX5_begin_19 : decode cX5_begin 19 = .ok (.iconst 1, 1) := by decide +kernel
theorem dX5_begin_20 : decode cX5_begin 20 = .ok (.if_icmp .lt 9, 3) := by decide +kernel
theorem dX5_begin_23 : decode cX5_begin 23 = .ok (.iload_n 3, 1) := by decide +kernel
theorem dX5_begin_24 : decode cX5_begin 24 = .ok (.bipush 12, 2) := by decide +kernel
theorem dX5_begin_26 : decode cX5_begin 26 = .ok (.if_icmp .le 5, 3) := by decide +kernel
theorem dX5_begin_29 : decode cX5_begin 29 = .ok (.iconst (-1), 1) := by decide +kernel
theorem dX5_begin_30 : decode cX5_begin 30 = .ok (.ireturn, 1) := by decide +kernel
theorem dX5_begin_31 : decode cX5_begin 31 = .ok (.aload_n 0, 1) := by decide +kernel
theorem dX5_begin_32 : decode cX5_begin 32 = .ok (.getfield 10, 3) := by decide +kernel
theorem dX5_begin_35 : decode cX5_begin 35 = .ok (.iload_n 1, 1) := by decide +kernel
theorem dX5_begin_36 : decode cX5_begin 36 = .ok (.iload_n 2, 1) := by decide +kernel
theorem dX5_begin_37 : decode cX5_begin 37 = .ok (.iload_n 3, 1) := by decide +kernel
theorem dX5_begin_38 : decode cX5_begin 38 = .ok (.invokevirtual 60, 3) := by decide +kernel
theorem dX5_begin_41 : decode cX5_begin 41 = .ok (.iconst 0, 1) := by decide +kernel
theorem dX5_begin_42 : decode cX5_begin 42 = .ok (.istore 4, 2) := by decide +kernel
theorem dX5_begin_44 : decode cX5_begin 44 = .ok (.iload 4, 2) := by decide +kernel
theorem dX5_begin_46 : decode cX5_begin 46 = .ok (.bipush 6, 2) := by decide +kernel
theorem dX5_begin_48 : decode cX5_begin 48 = .ok (.if_icmp .ge 29, 3) := by decide +kernel
theorem dX5_begin_51 : decode cX5_begin 51 = .ok (.aload_n 0, 1) := by decide +kernel
theorem dX5_begin_52 : decode cX5_begin 52 = .ok (.getfield 50, 3) := by decide +kernel
theorem dX5_begin_55 : decode cX5_begin 55 = .ok (.iload 4, 2) := by decide +kernel
theorem dX5_begin_57 : decode cX5_begin 57 = .ok (.aaload, 1) := by decide +kernel
theorem dX5_begin_58 : decode cX5_begin 58 = .ok (.invokestatic 64, 3) := by decide +kernel
theorem dX5_begin_61 : decode cX5_begin 61 = .ok (.aload_n 0, 1) := by decide +kernel
theorem dX5_begin_62 : decode cX5_begin 62 = .ok (.getfield 53, 3) := by decide +kernel
theorem dX5_begin_65 : decode cX5_begin 65 = .ok (.iload 4, 2) := by decide +kernel
theorem dX5_begin_67 : decode cX5_begin 67 = .ok (.aaload, 1) := by decide +kernel
theorem dX5_begin_68 : decode cX5_begin 68 = .ok (.invokestatic 64, 3) := by decide +kernel
theorem dX5_begin_71 : decode cX5_begin 71 = .ok (.iinc 4 1, 3) := by decide +kernel
theorem dX5_begin_74 : decode cX5_begin 74 = .ok (.goto (-30), 3) := by decide +kernel
theorem dX5_begin_77 : decode cX5_begin 77 = .ok (.iconst 0, 1) := by decide +kernel
theorem dX5_begin_78 : decode cX5_begin 78 = .ok (.ireturn, 1) := by decide +kernel
theorem dX5_set_0 : decode cX5_set 0 = .ok (.aload_n 0, 1) := by decide +kernel
theorem dX5_set_1 : decode cX5_set 1 = .ok (.getfield 10, 3) := by decide +kernel
theorem dX5_set_4 : decode cX5_set 4 = .ok (.iload_n 1, 1) := by decide +kernel
theorem dX5_set_5 : decode cX5_set 5 = .ok (.iload_n 2, 1) := by decide +kernel
theorem dX5_set_6 : decode cX5_set 6 = .ok (.invokevirtual 68, 3) := by decide +kernel
theorem dX5_set_9 : decode cX5_set 9 = .ok (.ifCond .ne 5, 3) := by decide +kernel
theorem dX5_set_12 : decode cX5_set 12 = .ok (.iconst (-1), 1) := by decide +kernel
theorem dX5_set_13 : decode cX5_set 13 = .ok (.ireturn, 1) := by decide +kernel
theorem dX5_set_14 : decode cX5_set 14 = .ok (.aload_n 0, 1) := by decide +kernel
theorem dX5_set_15 : decode cX5_set 15 = .ok (.getfield 10, 3) := by decide +kernel
theorem dX5_set_18 : decode cX5_set 18 = .ok (.getfield 72, 3) := by decide +kernel
theorem dX5_set_21 : decode cX5_set 21 = .ok (.iload_n 1, 1) := by decide +kernel
theorem dX5_set_22 : decode cX5_set 22 = .ok (.aaload, 1) := by decide +kernel
theorem dX5_set_23 : decode cX5_set 23 = .ok (.iload_n 2, 1) := by decide +kernel
theorem dX5_set_24 : decode cX5_set 24 = .ok (.iaload, 1) := by decide +kernel
theorem dX5_set_25 : decode cX5_set 25 = .ok (.istore 4, 2) := by decide +kernel
theorem dX5_set_27 : decode cX5_set 27 = .ok (.aload_n 0, 1) := by decide +kernel
theorem dX5_set_28 : decode cX5_set 28 = .ok (.getfield 10, 3) := by decide +kernel
theorem dX5_set_31 : decode cX5_set 31 = .ok (.getfield 72, 3) := by decide +kernel
theorem dX5_set_34 : decode cX5_set 34 = .ok (.iload_n 1, 1) := by decide +kernel
theorem dX5_set_35 : decode cX5_set 35 = .ok (.aaload, 1) := by decide +kernel
theorem dX5_set_36 : decode cX5_set 36 = .ok (.iload_n 2, 1) := by decide +kernel
theorem dX5_set_37 : decode cX5_set 37 = .ok (.aload_n 0, 1) := by decide +kernel
theorem dX5_set_38 : decode cX5_set 38 = .ok (.getfield 10, 3) := by decide +kernel
theorem dX5_set_41 : decode cX5_set 41 = .ok (.iload_n 3, 1) := by decide +kernel
theorem dX5_set_42 : decode cX5_set 42 = .ok (.invokevirtual 75, 3) := by decide +kernel
theorem dX5_set_45 : decode cX5_set 45 = .ok (.iastore, 1) := by decide +kernel
theorem dX5_set_46 : decode cX5_set 46 = .ok (.iload 4, 2) := by decide +kernel
theorem dX5_set_48 : decode cX5_set 48 = .ok (.ireturn, 1) := by decide +kernel
theorem dX5_powers_0 : decode cX5_powers 0 = .ok (.iload_n 1, 1) := by decide +kernel
theorem dX5_powers_1 : decode cX5_powers 1 = .ok (.ifCond .lt 14, 3) := by decide +kernel
theorem dX5_powers_4 : decode cX5_powers 4 = .ok (.iload_n 1, 1) := by decide +kernel
theorem dX5_powers_5 : decode cX5_powers 5 = .ok (.aload_n 0, 1) := by decide +kernel
theorem dX5_powers_6 : decode cX5_powers 6 = .ok (.getfield 10, 3) := by decide +kernel
theorem dX5_powers_9 : decode cX5_powers 9 = .ok (.getfield 79, 3) := by decide +kernel
theorem dX5_powers_12 : decode cX5_powers 12 = .ok (.if_icmp .lt 5, 3) := by decide +kernel
theorem dX5_powers_15 : decode cX5_powers 15 = .ok (.iconst (-1), 1) := by decide +kernel
theorem dX5_powers_16 : decode cX5_powers 16 = .ok (.ireturn, 1) := by decide +kernel
theorem dX5_powers_17 : decode cX5_powers 17 = .ok (.aload_n 0, 1) := by decide +kernel
theorem dX5_powers_18 : decode cX5_powers 18 = .ok (.getfield 10, 3) := by decide +kernel
theorem dX5_powers_21 : decode cX5_powers 21 = .ok (.iload_n 1, 1) := by decide +kernel
theorem dX5_powers_22 : decode cX5_powers 22 = .ok (.invokevirtual 83, 3) := by decide +kernel
theorem dX5_powers_25 : decode cX5_powers 25 = .ok (.iconst 0, 1) := by decide +kernel
theorem dX5_powers_26 : decode cX5_powers 26 = .ok (.ireturn, 1) := by decide +kernel
theorem dX5_at_0 : decode cX5_at 0 = .ok (.aload_n 0, 1) := by decide +kernel
theorem dX5_at_1 : decode cX5_at 1 = .ok (.getfield 10, 3) := by decide +kernel
theorem dX5_at_4 : decode cX5_at 4 = .ok (.iload_n 1, 1) := by decide +kernel
theorem dX5_at_5 : decode cX5_at 5 = .ok (.iload_n 2, 1) := by decide +kernel
theorem dX5_at_6 : decode cX5_at 6 = .ok (.invokevirtual 68, 3) := by decide +kernel
theorem dX5_at_9 : decode cX5_at 9 = .ok (.ifCond .eq 17, 3) := by decide +kernel
theorem dX5_at_12 : decode cX5_at 12 = .ok (.aload_n 0, 1) := by decide +kernel
theorem dX5_at_13 : decode cX5_at 13 = .ok (.getfield 10, 3) := by decide +kernel
theorem dX5_at_16 : decode cX5_at 16 = .ok (.getfield 72, 3) := by decide +kernel
theorem dX5_at_19 : decode cX5_at 19 = .ok (.iload_n 1, 1) := by decide +kernel
theorem dX5_at_20 : decode cX5_at 20 = .ok (.aaload, 1) := by decide +kernel
theorem dX5_at_21 : decode cX5_at 21 = .ok (.iload_n 2, 1) := by decide +kernel
theorem dX5_at_22 : decode cX5_at 22 = .ok (.iaload, 1) := by decide +kernel
theorem dX5_at_23 : decode cX5_at 23 = .ok (.goto 4, 3) := by decide +kernel
theorem dX5_at_26 : decode cX5_at 26 = .ok (.iconst (-1), 1) := by decide +kernel
theorem dX5_at_27 : decode cX5_at 27 = .ok (.ireturn, 1) := by decide +kernel
theorem dX5_judge_0 : decode cX5_judge 0 = .ok (.iload_n 1, 1) := by decide +kernel
theorem dX5_judge_1 : decode cX5_judge 1 = .ok (.tableswitch 67 0 3 #[31, 39, 47, 59], 31) := by decide +kernel
theorem dX5_judge_32 : decode cX5_judge 32 = .ok (.aload_n 0, 1) := by decide +kernel
theorem dX5_judge_33 : decode cX5_judge 33 = .ok (.getfield 21, 3) := by decide +kernel
theorem dX5_judge_36 : decode cX5_judge 36 = .ok (.invokevirtual 87, 3) := by decide +kernel
theorem dX5_judge_39 : decode cX5_judge 39 = .ok (.ireturn, 1) := by decide +kernel
theorem dX5_judge_40 : decode cX5_judge 40 = .ok (.aload_n 0, 1) := by decide +kernel
theorem dX5_judge_41 : decode cX5_judge 41 = .ok (.getfield 21, 3) := by decide +kernel
theorem dX5_judge_44 : decode cX5_judge 44 = .ok (.invokevirtual 91, 3) := by decide +kernel
theorem dX5_judge_47 : decode cX5_judge 47 = .ok (.ireturn, 1) := by decide +kernel
theorem dX5_judge_48 : decode cX5_judge 48 = .ok (.aload_n 0, 1) := by decide +kernel
theorem dX5_judge_49 : decode cX5_judge 49 = .ok (.getfield 21, 3) := by decide +kernel
theorem dX5_judge_52 : decode cX5_judge 52 = .ok (.invokevirtual 91, 3) := by decide +kernel
theorem dX5_judge_55 : decode cX5_judge 55 = .ok (.iconst 1, 1) := by decide +kernel
theorem dX5_judge_56 : decode cX5_judge 56 = .ok (.isub, 1) := by decide +kernel
theorem dX5_judge_57 : decode cX5_judge 57 = .ok (.iconst 2, 1) := by decide +kernel
theorem dX5_judge_58 : decode cX5_judge 58 = .ok (.idiv, 1) := by decide +kernel
theorem dX5_judge_59 : decode cX5_judge 59 = .ok (.ireturn, 1) := by decide +kernel
theorem dX5_judge_60 : decode cX5_judge 60 = .ok (.aload_n 0, 1) := by decide +kernel
theorem dX5_judge_61 : decode cX5_judge 61 = .ok (.getfield 10, 3) := by decide +kernel
theorem dX5_judge_64 : decode cX5_judge 64 = .ok (.invokevirtual 94, 3) := by decide +kernel
theorem dX5_judge_67 : decode cX5_judge 67 = .ok (.ireturn, 1) := by decide +kernel
theorem dX5_judge_68 : decode cX5_judge 68 = .ok (.iconst (-1), 1) := by decide +kernel
theorem dX5_judge_69 : decode cX5_judge 69 = .ok (.ireturn, 1) := by decide +kernel
theorem dX5_put_0 : decode cX5_put 0 = .ok (.iload_n 1, 1) := by decide +kernel
theorem dX5_put_1 : decode cX5_put 1 = .ok (.invokestatic 97, 3) := by decide +kernel
theorem dX5_put_4 : decode cX5_put 4 = .ok (.ifCond .eq 18, 3) := by decide +kernel
theorem dX5_put_7 : decode cX5_put 7 = .ok (.iload_n 2, 1) := by decide +kernel
theorem dX5_put_8 : decode cX5_put 8 = .ok (.ifCond .lt 14, 3) := by decide +kernel
theorem dX5_put_11 : decode cX5_put 11 = .ok (.iload_n 2, 1) := by decide +kernel
theorem dX5_put_12 : decode cX5_put 12 = .ok (.aload_n 0, 1) := by decide +kernel
theorem dX5_put_13 : decode cX5_put 13 = .ok (.getfield 10, 3) := by decide +kernel
theorem dX5_put_16 : decode cX5_put 16 = .ok (.getfield 100, 3) := by decide +kernel
theorem dX5_put_19 : decode cX5_put 19 = .ok (.if_icmp .lt 5, 3) := by decide +kernel
theorem dX5_put_22 : decode cX5_put 22 = .ok (.iconst (-1), 1) := by decide +kernel
theorem dX5_put_23 : decode cX5_put 23 = .ok (.ireturn, 1) := by decide +kernel
theorem dX5_put_24 : decode cX5_put 24 = .ok (.aload_n 0, 1) := by decide +kernel
theorem dX5_put_25 : decode cX5_put 25 = .ok (.getfield 50, 3) := by decide +kernel
theorem dX5_put_28 : decode cX5_put 28 = .ok (.iload_n 1, 1) := by decide +kernel
theorem dX5_put_29 : decode cX5_put 29 = .ok (.aaload, 1) := by decide +kernel
theorem dX5_put_30 : decode cX5_put 30 = .ok (.iload_n 2, 1) := by decide +kernel
theorem dX5_put_31 : decode cX5_put 31 = .ok (.aload_n 0, 1) := by decide +kernel
theorem dX5_put_32 : decode cX5_put 32 = .ok (.getfield 10, 3) := by decide +kernel
theorem dX5_put_35 : decode cX5_put 35 = .ok (.iload_n 3, 1) := by decide +kernel
theorem dX5_put_36 : decode cX5_put 36 = .ok (.invokevirtual 75, 3) := by decide +kernel
theorem dX5_put_39 : decode cX5_put 39 = .ok (.iastore, 1) := by decide +kernel
theorem dX5_put_40 : decode cX5_put 40 = .ok (.aload_n 0, 1) := by decide +kernel
theorem dX5_put_41 : decode cX5_put 41 = .ok (.getfield 50, 3) := by decide +kernel
theorem dX5_put_44 : decode cX5_put 44 = .ok (.iload_n 1, 1) := by decide +kernel
theorem dX5_put_45 : decode cX5_put 45 = .ok (.aaload, 1) := by decide +kernel
theorem dX5_put_46 : decode cX5_put 46 = .ok (.invokestatic 103, 3) := by decide +kernel
theorem dX5_put_49 : decode cX5_put 49 = .ok (.ireturn, 1) := by decide +kernel
theorem dX5_row_0 : decode cX5_row 0 = .ok (.iload_n 1, 1) := by decide +kernel
theorem dX5_row_1 : decode cX5_row 1 = .ok (.invokestatic 97, 3) := by decide +kernel
theorem dX5_row_4 : decode cX5_row 4 = .ok (.ifCond .eq 19, 3) := by decide +kernel
theorem dX5_row_7 : decode cX5_row 7 = .ok (.iload_n 2, 1) := by decide +kernel
theorem dX5_row_8 : decode cX5_row 8 = .ok (.iconst (-1), 1) := by decide +kernel
theorem dX5_row_9 : decode cX5_row 9 = .ok (.if_icmp .lt 14, 3) := by decide +kernel
theorem dX5_row_12 : decode cX5_row 12 = .ok (.iload_n 2, 1) := by decide +kernel
theorem dX5_row_13 : decode cX5_row 13 = .ok (.aload_n 0, 1) := by decide +kernel
theorem dX5_row_14 : decode cX5_row 14 = .ok (.getfield 10, 3) := by decide +kernel
theorem dX5_row_17 : decode cX5_row 17 = .ok (.getfield 100, 3) := by decide +kernel
theorem dX5_row_20 : decode cX5_row 20 = .ok (.if_icmp .lt 5, 3) := by decide +kernel
theorem dX5_row_23 : decode cX5_row 23 = .ok (.iconst (-1), 1) := by decide +kernel
theorem dX5_row_24 : decode cX5_row 24 = .ok (.ireturn, 1) := by decide +kernel
theorem dX5_row_25 : decode cX5_row 25 = .ok (.iload_n 2, 1) := by decide +kernel
theorem dX5_row_26 : decode cX5_row 26 = .ok (.iconst (-1), 1) := by decide +kernel
theorem dX5_row_27 : decode cX5_row 27 = .ok (.if_icmp .ne 15, 3) := by decide +kernel
theorem dX5_row_30 : decode cX5_row 30 = .ok (.aload_n 0, 1) := by decide +kernel
theorem dX5_row_31 : decode cX5_row 31 = .ok (.getfield 50, 3) := by decide +kernel
theorem dX5_row_34 : decode cX5_row 34 = .ok (.iload_n 1, 1) := by decide +kernel
theorem dX5_row_35 : decode cX5_row 35 = .ok (.aaload, 1) := by decide +kernel
theorem dX5_row_36 : decode cX5_row 36 = .ok (.invokestatic 103, 3) := by decide +kernel
theorem dX5_row_39 : decode cX5_row 39 = .ok (.goto 11, 3) := by decide +kernel
theorem dX5_row_42 : decode cX5_row 42 = .ok (.aload_n 0, 1) := by decide +kernel
theorem dX5_row_43 : decode cX5_row 43 = .ok (.getfield 50, 3) := by decide +kernel
theorem dX5_row_46 : decode cX5_row 46 = .ok (.iload_n 1, 1) := by decide +kernel
theorem dX5_row_47 : decode cX5_row 47 = .ok (.aaload, 1) := by decide +kernel
theorem dX5_row_48 : decode cX5_row 48 = .ok (.iload_n 2, 1) := by decide +kernel
theorem dX5_row_49 : decode cX5_row 49 = .ok (.iaload, 1) := by decide +kernel
theorem dX5_row_50 : decode cX5_row 50 = .ok (.ireturn, 1) := by decide +kernel
theorem dX5_sum_0 : decode cX5_sum 0 = .ok (.iload_n 1, 1) := by decide +kernel
theorem dX5_sum_1 : decode cX5_sum 1 = .ok (.invokestatic 97, 3) := by decide +kernel
theorem dX5_sum_4 : decode cX5_sum 4 = .ok (.ifCond .eq 18, 3) := by decide +kernel
theorem dX5_sum_7 : decode cX5_sum 7 = .ok (.iload_n 2, 1) := by decide +kernel
theorem dX5_sum_8 : decode cX5_sum 8 = .ok (.ifCond .lt 14, 3) := by decide +kernel
theorem dX5_sum_11 : decode cX5_sum 11 = .ok (.iload_n 2, 1) := by decide +kernel
theorem dX5_sum_12 : decode cX5_sum 12 = .ok (.aload_n 0, 1) := by decide +kernel
theorem dX5_sum_13 : decode cX5_sum 13 = .ok (.getfield 10, 3) := by decide +kernel
theorem dX5_sum_16 : decode cX5_sum 16 = .ok (.getfield 107, 3) := by decide +kernel
theorem dX5_sum_19 : decode cX5_sum 19 = .ok (.if_icmp .lt 5, 3) := by decide +kernel
theorem dX5_sum_22 : decode cX5_sum 22 = .ok (.iconst (-1), 1) := by decide +kernel
theorem dX5_sum_23 : decode cX5_sum 23 = .ok (.ireturn, 1) := by decide +kernel
theorem dX5_sum_24 : decode cX5_sum 24 = .ok (.aload_n 0, 1) := by decide +kernel
theorem dX5_sum_25 : decode cX5_sum 25 = .ok (.getfield 53, 3) := by decide +kernel
theorem dX5_sum_28 : decode cX5_sum 28 = .ok (.iload_n 1, 1) := by decide +kernel
theorem dX5_sum_29 : decode cX5_sum 29 = .ok (.aaload, 1) := by decide +kernel
theorem dX5_sum_30 : decode cX5_sum 30 = .ok (.iload_n 2, 1) := by decide +kernel
theorem dX5_sum_31 : decode cX5_sum 31 = .ok (.aload_n 0, 1) := by decide +kernel
theorem dX5_sum_32 : decode cX5_sum 32 = .ok (.getfield 10, 3) := by decide +kernel
theorem dX5_sum_35 : decode cX5_sum 35 = .ok (.iload_n 3, 1) := by decide +kernel
theorem dX5_sum_36 : decode cX5_sum 36 = .ok (.invokevirtual 75, 3) := by decide +kernel
theorem dX5_sum_39 : decode cX5_sum 39 = .ok (.iastore, 1) := by decide +kernel
theorem dX5_sum_40 : decode cX5_sum 40 = .ok (.aload_n 0, 1) := by decide +kernel
theorem dX5_sum_41 : decode cX5_sum 41 = .ok (.getfield 53, 3) := by decide +kernel
theorem dX5_sum_44 : decode cX5_sum 44 = .ok (.iload_n 1, 1) := by decide +kernel
theorem dX5_sum_45 : decode cX5_sum 45 = .ok (.aaload, 1) := by decide +kernel
theorem dX5_sum_46 : decode cX5_sum 46 = .ok (.invokestatic 103, 3) := by decide +kernel
theorem dX5_sum_49 : decode cX5_sum 49 = .ok (.ireturn, 1) := by decide +kernel
theorem dX5_told_0 : decode cX5_told 0 = .ok (.iload_n 1, 1) := by decide +kernel
theorem dX5_told_1 : decode cX5_told 1 = .ok (.invokestatic 97, 3) := by decide +kernel
theorem dX5_told_4 : decode cX5_told 4 = .ok (.ifCond .eq 19, 3) := by decide +kernel
theorem dX5_told_7 : decode cX5_told 7 = .ok (.iload_n 2, 1) := by decide +kernel
theorem dX5_told_8 : decode cX5_told 8 = .ok (.iconst (-1), 1) := by decide +kernel
theorem dX5_told_9 : decode cX5_told 9 = .ok (.if_icmp .lt 14, 3) := by decide +kernel
theorem dX5_told_12 : decode cX5_told 12 = .ok (.iload_n 2, 1) := by decide +kernel
theorem dX5_told_13 : decode cX5_told 13 = .ok (.aload_n 0, 1) := by decide +kernel
theorem dX5_told_14 : decode cX5_told 14 = .ok (.getfield 10, 3) := by decide +kernel
theorem dX5_told_17 : decode cX5_told 17 = .ok (.getfield 107, 3) := by decide +kernel
theorem dX5_told_20 : decode cX5_told 20 = .ok (.if_icmp .lt 5, 3) := by decide +kernel
theorem dX5_told_23 : decode cX5_told 23 = .ok (.iconst (-1), 1) := by decide +kernel
theorem dX5_told_24 : decode cX5_told 24 = .ok (.ireturn, 1) := by decide +kernel
theorem dX5_told_25 : decode cX5_told 25 = .ok (.iload_n 2, 1) := by decide +kernel
theorem dX5_told_26 : decode cX5_told 26 = .ok (.iconst (-1), 1) := by decide +kernel
theorem dX5_told_27 : decode cX5_told 27 = .ok (.if_icmp .ne 15, 3) := by decide +kernel
theorem dX5_told_30 : decode cX5_told 30 = .ok (.aload_n 0, 1) := by decide +kernel
theorem dX5_told_31 : decode cX5_told 31 = .ok (.getfield 53, 3) := by decide +kernel
theorem dX5_told_34 : decode cX5_told 34 = .ok (.iload_n 1, 1) := by decide +kernel
theorem dX5_told_35 : decode cX5_told 35 = .ok (.aaload, 1) := by decide +kernel
theorem dX5_told_36 : decode cX5_told 36 = .ok (.invokestatic 103, 3) := by decide +kernel
theorem dX5_told_39 : decode cX5_told 39 = .ok (.goto 11, 3) := by decide +kernel
theorem dX5_told_42 : decode cX5_told 42 = .ok (.aload_n 0, 1) := by decide +kernel
theorem dX5_told_43 : decode cX5_told 43 = .ok (.getfield 53, 3) := by decide +kernel
theorem dX5_told_46 : decode cX5_told 46 = .ok (.iload_n 1, 1) := by decide +kernel
theorem dX5_told_47 : decode cX5_told 47 = .ok (.aaload, 1) := by decide +kernel
theorem dX5_told_48 : decode cX5_told 48 = .ok (.iload_n 2, 1) := by decide +kernel
theorem dX5_told_49 : decode cX5_told 49 = .ok (.iaload, 1) := by decide +kernel
theorem dX5_told_50 : decode cX5_told 50 = .ok (.ireturn, 1) := by decide +kernel
theorem dX5_tell_0 : decode cX5_tell 0 = .ok (.iload_n 1, 1) := by decide +kernel
theorem dX5_tell_1 : decode cX5_tell 1 = .ok (.invokestatic 97, 3) := by decide +kernel
theorem dX5_tell_4 : decode cX5_tell 4 = .ok (.ifCond .eq 10, 3) := by decide +kernel
theorem dX5_tell_7 : decode cX5_tell 7 = .ok (.iload_n 2, 1) := by decide +kernel
theorem dX5_tell_8 : decode cX5_tell 8 = .ok (.invokestatic 97, 3) := by decide +kernel
theorem dX5_tell_11 : decode cX5_tell 11 = .ok (.ifCond .ne 5, 3) := by decide +kernel
theorem dX5_tell_14 : decode cX5_tell 14 = .ok (.iconst (-1), 1) := by decide +kernel
theorem dX5_tell_15 : decode cX5_tell 15 = .ok (.ireturn, 1) := by decide +kernel
theorem dX5_tell_16 : decode cX5_tell 16 = .ok (.aload_n 0, 1) := by decide +kernel
theorem dX5_tell_17 : decode cX5_tell 17 = .ok (.getfield 10, 3) := by decide +kernel
theorem dX5_tell_20 : decode cX5_tell 20 = .ok (.aload_n 0, 1) := by decide +kernel
theorem dX5_tell_21 : decode cX5_tell 21 = .ok (.getfield 50, 3) := by decide +kernel
theorem dX5_tell_24 : decode cX5_tell 24 = .ok (.iload_n 2, 1) := by decide +kernel
theorem dX5_tell_25 : decode cX5_tell 25 = .ok (.aaload, 1) := by decide +kernel
theorem dX5_tell_26 : decode cX5_tell 26 = .ok (.aload_n 0, 1) := by decide +kernel
theorem dX5_tell_27 : decode cX5_tell 27 = .ok (.getfield 53, 3) := by decide +kernel
theorem dX5_tell_30 : decode cX5_tell 30 = .ok (.iload_n 1, 1) := by decide +kernel
theorem dX5_tell_31 : decode cX5_tell 31 = .ok (.aaload, 1) := by decide +kernel
theorem dX5_tell_32 : decode cX5_tell 32 = .ok (.invokevirtual 110, 3) := by decide +kernel
theorem dX5_tell_35 : decode cX5_tell 35 = .ok (.aload_n 0, 1) := by decide +kernel
theorem dX5_tell_36 : decode cX5_tell 36 = .ok (.getfield 53, 3) := by decide +kernel
theorem dX5_tell_39 : decode cX5_tell 39 = .ok (.iload_n 1, 1) := by decide +kernel
theorem dX5_tell_40 : decode cX5_tell 40 = .ok (.aaload, 1) := by decide +kernel
theorem dX5_tell_41 : decode cX5_tell 41 = .ok (.invokestatic 103, 3) := by decide +kernel
theorem dX5_tell_44 : decode cX5_tell 44 = .ok (.ireturn, 1) := by decide +kernel
theorem dX5_find_0 : decode cX5_find 0 = .ok (.iload_n 1, 1) := by decide +kernel
theorem dX5_find_1 : decode cX5_find 1 = .ok (.invokestatic 97, 3) := by decide +kernel
theorem dX5_find_4 : decode cX5_find 4 = .ok (.ifCond .eq 19, 3) := by decide +kernel
theorem dX5_find_7 : decode cX5_find 7 = .ok (.iload_n 2, 1) := by decide +kernel
theorem dX5_find_8 : decode cX5_find 8 = .ok (.invokestatic 97, 3) := by decide +kernel
theorem dX5_find_11 : decode cX5_find 11 = .ok (.ifCond .eq 12, 3) := by decide +kernel
theorem dX5_find_14 : decode cX5_find 14 = .ok (.iload_n 3, 1) := by decide +kernel
theorem dX5_find_15 : decode cX5_find 15 = .ok (.ifCond .lt 8, 3) := by decide +kernel
theorem dX5_find_18 : decode cX5_find 18 = .ok (.iload_n 3, 1) := by decide +kernel
theorem dX5_find_19 : decode cX5_find 19 = .ok (.iconst 4, 1) := by decide +kernel
theorem dX5_find_20 : decode cX5_find 20 = .ok (.if_icmp .le 5, 3) := by decide +kernel
theorem dX5_find_23 : decode cX5_find 23 = .ok (.iconst (-1), 1) := by decide +kernel
theorem dX5_find_24 : decode cX5_find 24 = .ok (.ireturn, 1) := by decide +kernel
theorem dX5_find_25 : decode cX5_find 25 = .ok (.iconst 0, 1) := by decide +kernel
theorem dX5_find_26 : decode cX5_find 26 = .ok (.istore 4, 2) := by decide +kernel
theorem dX5_find_28 : decode cX5_find 28 = .ok (.iload 4, 2) := by decide +kernel
theorem dX5_find_30 : decode cX5_find 30 = .ok (.iload_n 3, 1) := by decide +kernel
theorem dX5_find_31 : decode cX5_find 31 = .ok (.if_icmp .gt 66, 3) := by decide +kernel
theorem dX5_find_34 : decode cX5_find 34 = .ok (.aload_n 0, 1) := by decide +kernel
theorem dX5_find_35 : decode cX5_find 35 = .ok (.getfield 21, 3) := by decide +kernel
theorem dX5_find_38 : decode cX5_find 38 = .ok (.aload_n 0, 1) := by decide +kernel
theorem dX5_find_39 : decode cX5_find 39 = .ok (.getfield 53, 3) := by decide +kernel
theorem dX5_find_42 : decode cX5_find 42 = .ok (.iload_n 2, 1) := by decide +kernel
theorem dX5_find_43 : decode cX5_find 43 = .ok (.aaload, 1) := by decide +kernel
theorem dX5_find_44 : decode cX5_find 44 = .ok (.iconst 0, 1) := by decide +kernel
theorem dX5_find_45 : decode cX5_find 45 = .ok (.iload 4, 2) := by decide +kernel
theorem dX5_find_47 : decode cX5_find 47 = .ok (.iconst 2, 1) := by decide +kernel
theorem dX5_find_48 : decode cX5_find 48 = .ok (.invokevirtual 114, 3) := by decide +kernel
theorem dX5_find_51 : decode cX5_find 51 = .ok (.istore 5, 2) := by decide +kernel
theorem dX5_find_53 : decode cX5_find 53 = .ok (.iload 5, 2) := by decide +kernel
theorem dX5_find_55 : decode cX5_find 55 = .ok (.ifCond .le 36, 3) := by decide +kernel
theorem dX5_find_58 : decode cX5_find 58 = .ok (.aload_n 0, 1) := by decide +kernel
theorem dX5_find_59 : decode cX5_find 59 = .ok (.getfield 21, 3) := by decide +kernel
theorem dX5_find_62 : decode cX5_find 62 = .ok (.getfield 118, 3) := by decide +kernel
theorem dX5_find_65 : decode cX5_find 65 = .ok (.aload_n 0, 1) := by decide +kernel
theorem dX5_find_66 : decode cX5_find 66 = .ok (.getfield 50, 3) := by decide +kernel
theorem dX5_find_69 : decode cX5_find 69 = .ok (.iload_n 1, 1) := by decide +kernel
theorem dX5_find_70 : decode cX5_find 70 = .ok (.aaload, 1) := by decide +kernel
theorem dX5_find_71 : decode cX5_find 71 = .ok (.invokestatic 122, 3) := by decide +kernel
theorem dX5_find_74 : decode cX5_find 74 = .ok (.iload 5, 2) := by decide +kernel
theorem dX5_find_76 : decode cX5_find 76 = .ok (.iconst 1, 1) := by decide +kernel
theorem dX5_find_77 : decode cX5_find 77 = .ok (.if_icmp .ne 11, 3) := by decide +kernel
theorem dX5_find_80 : decode cX5_find 80 = .ok (.iload 4, 2) := by decide +kernel
theorem dX5_find_82 : decode cX5_find 82 = .ok (.bipush 100, 2) := by decide +kernel
theorem dX5_find_84 : decode cX5_find 84 = .ok (.iadd, 1) := by decide +kernel
theorem dX5_find_85 : decode cX5_find 85 = .ok (.goto 5, 3) := by decide +kernel
theorem dX5_find_88 : decode cX5_find 88 = .ok (.iload 4, 2) := by decide +kernel
theorem dX5_find_90 : decode cX5_find 90 = .ok (.ireturn, 1) := by decide +kernel
theorem dX5_find_91 : decode cX5_find 91 = .ok (.iinc 4 1, 3) := by decide +kernel
theorem dX5_find_94 : decode cX5_find 94 = .ok (.goto (-66), 3) := by decide +kernel
theorem dX5_find_97 : decode cX5_find 97 = .ok (.bipush (-2), 2) := by decide +kernel
theorem dX5_find_99 : decode cX5_find 99 = .ok (.ireturn, 1) := by decide +kernel
theorem dX5_miss_0 : decode cX5_miss 0 = .ok (.iload_n 1, 1) := by decide +kernel
theorem dX5_miss_1 : decode cX5_miss 1 = .ok (.invokestatic 97, 3) := by decide +kernel
theorem dX5_miss_4 : decode cX5_miss 4 = .ok (.ifCond .eq 30, 3) := by decide +kernel
theorem dX5_miss_7 : decode cX5_miss 7 = .ok (.iload_n 2, 1) := by decide +kernel
theorem dX5_miss_8 : decode cX5_miss 8 = .ok (.invokestatic 97, 3) := by decide +kernel
theorem dX5_miss_11 : decode cX5_miss 11 = .ok (.ifCond .eq 23, 3) := by decide +kernel
theorem dX5_miss_14 : decode cX5_miss 14 = .ok (.iload_n 3, 1) := by decide +kernel
theorem dX5_miss_15 : decode cX5_miss 15 = .ok (.ifCond .lt 19, 3) := by decide +kernel
theorem dX5_miss_18 : decode cX5_miss 18 = .ok (.iload_n 3, 1) := by decide +kernel
theorem dX5_miss_19 : decode cX5_miss 19 = .ok (.iconst 3, 1) := by decide +kernel
theorem dX5_miss_20 : decode cX5_miss 20 = .ok (.if_icmp .gt 14, 3) := by decide +kernel
theorem dX5_miss_23 : decode cX5_miss 23 = .ok (.iload 4, 2) := by decide +kernel
theorem dX5_miss_25 : decode cX5_miss 25 = .ok (.ifCond .lt 9, 3) := by decide +kernel
theorem dX5_miss_28 : decode cX5_miss 28 = .ok (.iload 4, 2) := by decide +kernel
theorem dX5_miss_30 : decode cX5_miss 30 = .ok (.iconst 3, 1) := by decide +kernel
theorem dX5_miss_31 : decode cX5_miss 31 = .ok (.if_icmp .le 5, 3) := by decide +kernel
theorem dX5_miss_34 : decode cX5_miss 34 = .ok (.iconst (-1), 1) := by decide +kernel
theorem dX5_miss_35 : decode cX5_miss 35 = .ok (.ireturn, 1) := by decide +kernel
theorem dX5_miss_36 : decode cX5_miss 36 = .ok (.iconst 0, 1) := by decide +kernel
theorem dX5_miss_37 : decode cX5_miss 37 = .ok (.istore 5, 2) := by decide +kernel
theorem dX5_miss_39 : decode cX5_miss 39 = .ok (.iload 5, 2) := by decide +kernel
theorem dX5_miss_41 : decode cX5_miss 41 = .ok (.iload_n 3, 1) := by decide +kernel
theorem dX5_miss_42 : decode cX5_miss 42 = .ok (.if_icmp .gt 70, 3) := by decide +kernel
theorem dX5_miss_45 : decode cX5_miss 45 = .ok (.iconst 0, 1) := by decide +kernel
theorem dX5_miss_46 : decode cX5_miss 46 = .ok (.istore 6, 2) := by decide +kernel
theorem dX5_miss_48 : decode cX5_miss 48 = .ok (.iload 6, 2) := by decide +kernel
theorem dX5_miss_50 : decode cX5_miss 50 = .ok (.iload 4, 2) := by decide +kernel
theorem dX5_miss_52 : decode cX5_miss 52 = .ok (.if_icmp .gt 54, 3) := by decide +kernel
theorem dX5_miss_55 : decode cX5_miss 55 = .ok (.aload_n 0, 1) := by decide +kernel
theorem dX5_miss_56 : decode cX5_miss 56 = .ok (.getfield 30, 3) := by decide +kernel
theorem dX5_miss_59 : decode cX5_miss 59 = .ok (.aload_n 0, 1) := by decide +kernel
theorem dX5_miss_60 : decode cX5_miss 60 = .ok (.getfield 53, 3) := by decide +kernel
theorem dX5_miss_63 : decode cX5_miss 63 = .ok (.iload_n 2, 1) := by decide +kernel
theorem dX5_miss_64 : decode cX5_miss 64 = .ok (.aaload, 1) := by decide +kernel
theorem dX5_miss_65 : decode cX5_miss 65 = .ok (.iload 5, 2) := by decide +kernel
theorem dX5_miss_67 : decode cX5_miss 67 = .ok (.iload 6, 2) := by decide +kernel
theorem dX5_miss_69 : decode cX5_miss 69 = .ok (.invokevirtual 125, 3) := by decide +kernel
theorem dX5_miss_72 : decode cX5_miss 72 = .ok (.ifCond .eq 28, 3) := by decide +kernel
theorem dX5_miss_75 : decode cX5_miss 75 = .ok (.aload_n 0, 1) := by decide +kernel
theorem dX5_miss_76 : decode cX5_miss 76 = .ok (.getfield 30, 3) := by decide +kernel
theorem dX5_miss_79 : decode cX5_miss 79 = .ok (.getfield 129, 3) := by decide +kernel
theorem dX5_miss_82 : decode cX5_miss 82 = .ok (.aload_n 0, 1) := by decide +kernel
theorem dX5_miss_83 : decode cX5_miss 83 = .ok (.getfield 50, 3) := by decide +kernel
theorem dX5_miss_86 : decode cX5_miss 86 = .ok (.iload_n 1, 1) := by decide +kernel
theorem dX5_miss_87 : decode cX5_miss 87 = .ok (.aaload, 1) := by decide +kernel
theorem dX5_miss_88 : decode cX5_miss 88 = .ok (.invokestatic 122, 3) := by decide +kernel
theorem dX5_miss_91 : decode cX5_miss 91 = .ok (.iload 5, 2) := by decide +kernel
theorem dX5_miss_93 : decode cX5_miss 93 = .ok (.bipush 100, 2) := by decide +kernel
theorem dX5_miss_95 : decode cX5_miss 95 = .ok (.iload 6, 2) := by decide +kernel
theorem dX5_miss_97 : decode cX5_miss 97 = .ok (.imul, 1) := by decide +kernel
theorem dX5_miss_98 : decode cX5_miss 98 = .ok (.iadd, 1) := by decide +kernel
theorem dX5_miss_99 : decode cX5_miss 99 = .ok (.ireturn, 1) := by decide +kernel
theorem dX5_miss_100 : decode cX5_miss 100 = .ok (.iinc 6 1, 3) := by decide +kernel
theorem dX5_miss_103 : decode cX5_miss 103 = .ok (.goto (-55), 3) := by decide +kernel
theorem dX5_miss_106 : decode cX5_miss 106 = .ok (.iinc 5 1, 3) := by decide +kernel
theorem dX5_miss_109 : decode cX5_miss 109 = .ok (.goto (-70), 3) := by decide +kernel
theorem dX5_miss_112 : decode cX5_miss 112 = .ok (.bipush (-2), 2) := by decide +kernel
theorem dX5_miss_114 : decode cX5_miss 114 = .ok (.ireturn, 1) := by decide +kernel
theorem dX5_greedy_0 : decode cX5_greedy 0 = .ok (.iload_n 1, 1) := by decide +kernel
theorem dX5_greedy_1 : decode cX5_greedy 1 = .ok (.invokestatic 97, 3) := by decide +kernel
theorem dX5_greedy_4 : decode cX5_greedy 4 = .ok (.ifCond .eq 20, 3) := by decide +kernel
theorem dX5_greedy_7 : decode cX5_greedy 7 = .ok (.iload_n 2, 1) := by decide +kernel
theorem dX5_greedy_8 : decode cX5_greedy 8 = .ok (.invokestatic 97, 3) := by decide +kernel
theorem dX5_greedy_11 : decode cX5_greedy 11 = .ok (.ifCond .eq 13, 3) := by decide +kernel
theorem dX5_greedy_14 : decode cX5_greedy 14 = .ok (.iload_n 3, 1) := by decide +kernel
theorem dX5_greedy_15 : decode cX5_greedy 15 = .ok (.ifCond .lt 9, 3) := by decide +kernel
theorem dX5_greedy_18 : decode cX5_greedy 18 = .ok (.iload_n 3, 1) := by decide +kernel
theorem dX5_greedy_19 : decode cX5_greedy 19 = .ok (.bipush 8, 2) := by decide +kernel
theorem dX5_greedy_21 : decode cX5_greedy 21 = .ok (.if_icmp .le 5, 3) := by decide +kernel
theorem dX5_greedy_24 : decode cX5_greedy 24 = .ok (.iconst (-1), 1) := by decide +kernel
theorem dX5_greedy_25 : decode cX5_greedy 25 = .ok (.ireturn, 1) := by decide +kernel
theorem dX5_greedy_26 : decode cX5_greedy 26 = .ok (.aload_n 0, 1) := by decide +kernel
theorem dX5_greedy_27 : decode cX5_greedy 27 = .ok (.getfield 37, 3) := by decide +kernel
theorem dX5_greedy_30 : decode cX5_greedy 30 = .ok (.aload_n 0, 1) := by decide +kernel
theorem dX5_greedy_31 : decode cX5_greedy 31 = .ok (.getfield 53, 3) := by decide +kernel
theorem dX5_greedy_34 : decode cX5_greedy 34 = .ok (.iload_n 2, 1) := by decide +kernel
theorem dX5_greedy_35 : decode cX5_greedy 35 = .ok (.aaload, 1) := by decide +kernel
theorem dX5_greedy_36 : decode cX5_greedy 36 = .ok (.iload_n 3, 1) := by decide +kernel
theorem dX5_greedy_37 : decode cX5_greedy 37 = .ok (.aload_n 0, 1) := by decide +kernel
theorem dX5_greedy_38 : decode cX5_greedy 38 = .ok (.getfield 50, 3) := by decide +kernel
theorem dX5_greedy_41 : decode cX5_greedy 41 = .ok (.iload_n 1, 1) := by decide +kernel
theorem dX5_greedy_42 : decode cX5_greedy 42 = .ok (.aaload, 1) := by decide +kernel
theorem dX5_greedy_43 : decode cX5_greedy 43 = .ok (.invokevirtual 130, 3) := by decide +kernel
theorem dX5_greedy_46 : decode cX5_greedy 46 = .ok (.istore 4, 2) := by decide +kernel
theorem dX5_greedy_48 : decode cX5_greedy 48 = .ok (.iload 4, 2) := by decide +kernel
theorem dX5_greedy_50 : decode cX5_greedy 50 = .ok (.ifCond .ne 28, 3) := by decide +kernel
theorem dX5_greedy_53 : decode cX5_greedy 53 = .ok (.iconst 2, 1) := by decide +kernel
theorem dX5_greedy_54 : decode cX5_greedy 54 = .ok (.aload_n 0, 1) := by decide +kernel
theorem dX5_greedy_55 : decode cX5_greedy 55 = .ok (.getfield 50, 3) := by decide +kernel
theorem dX5_greedy_58 : decode cX5_greedy 58 = .ok (.iload_n 1, 1) := by decide +kernel
theorem dX5_greedy_59 : decode cX5_greedy 59 = .ok (.aaload, 1) := by decide +kernel
theorem dX5_greedy_60 : decode cX5_greedy 60 = .ok (.invokestatic 103, 3) := by decide +kernel
theorem dX5_greedy_63 : decode cX5_greedy 63 = .ok (.imul, 1) := by decide +kernel
theorem dX5_greedy_64 : decode cX5_greedy 64 = .ok (.aload_n 0, 1) := by decide +kernel
theorem dX5_greedy_65 : decode cX5_greedy 65 = .ok (.getfield 21, 3) := by decide +kernel
theorem dX5_greedy_68 : decode cX5_greedy 68 = .ok (.invokevirtual 91, 3) := by decide +kernel
theorem dX5_greedy_71 : decode cX5_greedy 71 = .ok (.if_icmp .ge 7, 3) := by decide +kernel
theorem dX5_greedy_74 : decode cX5_greedy 74 = .ok (.iconst 1, 1) := by decide +kernel
theorem dX5_greedy_75 : decode cX5_greedy 75 = .ok (.goto 4, 3) := by decide +kernel
theorem dX5_greedy_78 : decode cX5_greedy 78 = .ok (.iconst 0, 1) := by decide +kernel
theorem dX5_greedy_79 : decode cX5_greedy 79 = .ok (.istore 5, 2) := by decide +kernel
theorem dX5_greedy_81 : decode cX5_greedy 81 = .ok (.iload 5, 2) := by decide +kernel
theorem dX5_greedy_83 : decode cX5_greedy 83 = .ok (.ifCond .eq 11, 3) := by decide +kernel
theorem dX5_greedy_86 : decode cX5_greedy 86 = .ok (.iload 4, 2) := by decide +kernel
theorem dX5_greedy_88 : decode cX5_greedy 88 = .ok (.bipush 100, 2) := by decide +kernel
theorem dX5_greedy_90 : decode cX5_greedy 90 = .ok (.iadd, 1) := by decide +kernel
theorem dX5_greedy_91 : decode cX5_greedy 91 = .ok (.goto 5, 3) := by decide +kernel
theorem dX5_greedy_94 : decode cX5_greedy 94 = .ok (.iload 4, 2) := by decide +kernel
theorem dX5_greedy_96 : decode cX5_greedy 96 = .ok (.ireturn, 1) := by decide +kernel
theorem dX5_sketch_0 : decode cX5_sketch 0 = .ok (.iload_n 1, 1) := by decide +kernel
theorem dX5_sketch_1 : decode cX5_sketch 1 = .ok (.iconst 1, 1) := by decide +kernel
theorem dX5_sketch_2 : decode cX5_sketch 2 = .ok (.if_icmp .lt 19, 3) := by decide +kernel
theorem dX5_sketch_5 : decode cX5_sketch 5 = .ok (.iload_n 1, 1) := by decide +kernel
theorem dX5_sketch_6 : decode cX5_sketch 6 = .ok (.iconst 4, 1) := by decide +kernel
theorem dX5_sketch_7 : decode cX5_sketch 7 = .ok (.if_icmp .gt 14, 3) := by decide +kernel
theorem dX5_sketch_10 : decode cX5_sketch 10 = .ok (.iload_n 2, 1) := by decide +kernel
theorem dX5_sketch_11 : decode cX5_sketch 11 = .ok (.iconst 2, 1) := by decide +kernel
theorem dX5_sketch_12 : decode cX5_sketch 12 = .ok (.if_icmp .lt 9, 3) := by decide +kernel
theorem dX5_sketch_15 : decode cX5_sketch 15 = .ok (.iload_n 2, 1) := by decide +kernel
theorem dX5_sketch_16 : decode cX5_sketch 16 = .ok (.bipush 32, 2) := by decide +kernel
theorem dX5_sketch_18 : decode cX5_sketch 18 = .ok (.if_icmp .le 5, 3) := by decide +kernel
theorem dX5_sketch_21 : decode cX5_sketch 21 = .ok (.iconst (-1), 1) := by decide +kernel
theorem dX5_sketch_22 : decode cX5_sketch 22 = .ok (.ireturn, 1) := by decide +kernel
theorem dX5_sketch_23 : decode cX5_sketch 23 = .ok (.aload_n 0, 1) := by decide +kernel
theorem dX5_sketch_24 : decode cX5_sketch 24 = .ok (.getfield 44, 3) := by decide +kernel
theorem dX5_sketch_27 : decode cX5_sketch 27 = .ok (.iload_n 1, 1) := by decide +kernel
theorem dX5_sketch_28 : decode cX5_sketch 28 = .ok (.iload_n 2, 1) := by decide +kernel
theorem dX5_sketch_29 : decode cX5_sketch 29 = .ok (.invokevirtual 134, 3) := by decide +kernel
theorem dX5_sketch_32 : decode cX5_sketch 32 = .ok (.iconst 0, 1) := by decide +kernel
theorem dX5_sketch_33 : decode cX5_sketch 33 = .ok (.ireturn, 1) := by decide +kernel
theorem dX5_add_0 : decode cX5_add 0 = .ok (.iload_n 1, 1) := by decide +kernel
theorem dX5_add_1 : decode cX5_add 1 = .ok (.ifCond .lt 23, 3) := by decide +kernel
theorem dX5_add_4 : decode cX5_add 4 = .ok (.iload_n 1, 1) := by decide +kernel
theorem dX5_add_5 : decode cX5_add 5 = .ok (.ldc 137, 2) := by decide +kernel
theorem dX5_add_7 : decode cX5_add 7 = .ok (.if_icmp .gt 17, 3) := by decide +kernel
theorem dX5_add_10 : decode cX5_add 10 = .ok (.iload_n 2, 1) := by decide +kernel
theorem dX5_add_11 : decode cX5_add 11 = .ok (.sipush (-1000), 3) := by decide +kernel
theorem dX5_add_14 : decode cX5_add 14 = .ok (.if_icmp .lt 10, 3) := by decide +kernel
theorem dX5_add_17 : decode cX5_add 17 = .ok (.iload_n 2, 1) := by decide +kernel
theorem dX5_add_18 : decode cX5_add 18 = .ok (.sipush 1000, 3) := by decide +kernel
theorem dX5_add_21 : decode cX5_add 21 = .ok (.if_icmp .le 5, 3) := by decide +kernel
theorem dX5_add_24 : decode cX5_add 24 = .ok (.iconst (-1), 1) := by decide +kernel
theorem dX5_add_25 : decode cX5_add 25 = .ok (.ireturn, 1) := by decide +kernel
theorem dX5_add_26 : decode cX5_add 26 = .ok (.aload_n 0, 1) := by decide +kernel
theorem dX5_add_27 : decode cX5_add 27 = .ok (.getfield 44, 3) := by decide +kernel
theorem dX5_add_30 : decode cX5_add 30 = .ok (.getfield 138, 3) := by decide +kernel
theorem dX5_add_33 : decode cX5_add 33 = .ok (.ldc 141, 2) := by decide +kernel
theorem dX5_add_35 : decode cX5_add 35 = .ok (.if_icmp .lt 6, 3) := by decide +kernel
theorem dX5_add_38 : decode cX5_add 38 = .ok (.bipush (-3), 2) := by decide +kernel
theorem dX5_add_40 : decode cX5_add 40 = .ok (.ireturn, 1) := by decide +kernel
theorem dX5_add_41 : decode cX5_add 41 = .ok (.aload_n 0, 1) := by decide +kernel
theorem dX5_add_42 : decode cX5_add 42 = .ok (.getfield 44, 3) := by decide +kernel
theorem dX5_add_45 : decode cX5_add 45 = .ok (.iload_n 1, 1) := by decide +kernel
theorem dX5_add_46 : decode cX5_add 46 = .ok (.iload_n 2, 1) := by decide +kernel
theorem dX5_add_47 : decode cX5_add 47 = .ok (.invokevirtual 142, 3) := by decide +kernel
theorem dX5_add_50 : decode cX5_add 50 = .ok (.aload_n 0, 1) := by decide +kernel
theorem dX5_add_51 : decode cX5_add 51 = .ok (.getfield 44, 3) := by decide +kernel
theorem dX5_add_54 : decode cX5_add 54 = .ok (.getfield 138, 3) := by decide +kernel
theorem dX5_add_57 : decode cX5_add 57 = .ok (.ireturn, 1) := by decide +kernel
theorem dX5_decode_0 : decode cX5_decode 0 = .ok (.aload_n 0, 1) := by decide +kernel
theorem dX5_decode_1 : decode cX5_decode 1 = .ok (.getfield 44, 3) := by decide +kernel
theorem dX5_decode_4 : decode cX5_decode 4 = .ok (.invokevirtual 145, 3) := by decide +kernel
theorem dX5_decode_7 : decode cX5_decode 7 = .ok (.istore_n 1, 1) := by decide +kernel
theorem dX5_decode_8 : decode cX5_decode 8 = .ok (.iload_n 1, 1) := by decide +kernel
theorem dX5_decode_9 : decode cX5_decode 9 = .ok (.ifCond .eq 17, 3) := by decide +kernel
theorem dX5_decode_12 : decode cX5_decode 12 = .ok (.aload_n 0, 1) := by decide +kernel
theorem dX5_decode_13 : decode cX5_decode 13 = .ok (.getfield 44, 3) := by decide +kernel
theorem dX5_decode_16 : decode cX5_decode 16 = .ok (.getfield 149, 3) := by decide +kernel
theorem dX5_decode_19 : decode cX5_decode 19 = .ok (.sipush 10000, 3) := by decide +kernel
theorem dX5_decode_22 : decode cX5_decode 22 = .ok (.iadd, 1) := by decide +kernel
theorem dX5_decode_23 : decode cX5_decode 23 = .ok (.goto 10, 3) := by decide +kernel
theorem dX5_decode_26 : decode cX5_decode 26 = .ok (.aload_n 0, 1) := by decide +kernel
theorem dX5_decode_27 : decode cX5_decode 27 = .ok (.getfield 44, 3) := by decide +kernel
theorem dX5_decode_30 : decode cX5_decode 30 = .ok (.getfield 149, 3) := by decide +kernel
theorem dX5_decode_33 : decode cX5_decode 33 = .ok (.ireturn, 1) := by decide +kernel
theorem dX5_decoded_0 : decode cX5_decoded 0 = .ok (.iload_n 1, 1) := by decide +kernel
theorem dX5_decoded_1 : decode cX5_decoded 1 = .ok (.ifCond .lt 12, 3) := by decide +kernel
theorem dX5_decoded_4 : decode cX5_decoded 4 = .ok (.iload_n 2, 1) := by decide +kernel
theorem dX5_decoded_5 : decode cX5_decoded 5 = .ok (.ifCond .lt 8, 3) := by decide +kernel
theorem dX5_decoded_8 : decode cX5_decoded 8 = .ok (.iload_n 2, 1) := by decide +kernel
theorem dX5_decoded_9 : decode cX5_decoded 9 = .ok (.iconst 1, 1) := by decide +kernel
theorem dX5_decoded_10 : decode cX5_decoded 10 = .ok (.if_icmp .le 6, 3) := by decide +kernel
theorem dX5_decoded_13 : decode cX5_decoded 13 = .ok (.ldc 152, 2) := by decide +kernel
theorem dX5_decoded_15 : decode cX5_decoded 15 = .ok (.ireturn, 1) := by decide +kernel
theorem dX5_decoded_16 : decode cX5_decoded 16 = .ok (.iload_n 1, 1) := by decide +kernel
theorem dX5_decoded_17 : decode cX5_decoded 17 = .ok (.aload_n 0, 1) := by decide +kernel
theorem dX5_decoded_18 : decode cX5_decoded 18 = .ok (.getfield 44, 3) := by decide +kernel
theorem dX5_decoded_21 : decode cX5_decoded 21 = .ok (.getfield 149, 3) := by decide +kernel
theorem dX5_decoded_24 : decode cX5_decoded 24 = .ok (.if_icmp .ge 9, 3) := by decide +kernel
theorem dX5_decoded_27 : decode cX5_decoded 27 = .ok (.iload_n 1, 1) := by decide +kernel
theorem dX5_decoded_28 : decode cX5_decoded 28 = .ok (.bipush 100, 2) := by decide +kernel
theorem dX5_decoded_30 : decode cX5_decoded 30 = .ok (.if_icmp .lt 6, 3) := by decide +kernel
theorem dX5_decoded_33 : decode cX5_decoded 33 = .ok (.ldc 153, 2) := by decide +kernel
theorem dX5_decoded_35 : decode cX5_decoded 35 = .ok (.ireturn, 1) := by decide +kernel
theorem dX5_decoded_36 : decode cX5_decoded 36 = .ok (.iload_n 2, 1) := by decide +kernel
theorem dX5_decoded_37 : decode cX5_decoded 37 = .ok (.ifCond .ne 15, 3) := by decide +kernel
theorem dX5_decoded_40 : decode cX5_decoded 40 = .ok (.aload_n 0, 1) := by decide +kernel
theorem dX5_decoded_41 : decode cX5_decoded 41 = .ok (.getfield 44, 3) := by decide +kernel
theorem dX5_decoded_44 : decode cX5_decoded 44 = .ok (.getfield 154, 3) := by decide +kernel
theorem dX5_decoded_47 : decode cX5_decoded 47 = .ok (.iload_n 1, 1) := by decide +kernel
theorem dX5_decoded_48 : decode cX5_decoded 48 = .ok (.iaload, 1) := by decide +kernel
theorem dX5_decoded_49 : decode cX5_decoded 49 = .ok (.goto 12, 3) := by decide +kernel
theorem dX5_decoded_52 : decode cX5_decoded 52 = .ok (.aload_n 0, 1) := by decide +kernel
theorem dX5_decoded_53 : decode cX5_decoded 53 = .ok (.getfield 44, 3) := by decide +kernel
theorem dX5_decoded_56 : decode cX5_decoded 56 = .ok (.getfield 157, 3) := by decide +kernel
theorem dX5_decoded_59 : decode cX5_decoded 59 = .ok (.iload_n 1, 1) := by decide +kernel
theorem dX5_decoded_60 : decode cX5_decoded 60 = .ok (.iaload, 1) := by decide +kernel
theorem dX5_decoded_61 : decode cX5_decoded 61 = .ok (.ireturn, 1) := by decide +kernel
theorem dX5_bucket_0 : decode cX5_bucket 0 = .ok (.iload_n 1, 1) := by decide +kernel
theorem dX5_bucket_1 : decode cX5_bucket 1 = .ok (.ifCond .lt 38, 3) := by decide +kernel
theorem dX5_bucket_4 : decode cX5_bucket 4 = .ok (.iload_n 1, 1) := by decide +kernel
theorem dX5_bucket_5 : decode cX5_bucket 5 = .ok (.aload_n 0, 1) := by decide +kernel
theorem dX5_bucket_6 : decode cX5_bucket 6 = .ok (.getfield 44, 3) := by decide +kernel
theorem dX5_bucket_9 : decode cX5_bucket 9 = .ok (.getfield 160, 3) := by decide +kernel
theorem dX5_bucket_12 : decode cX5_bucket 12 = .ok (.if_icmp .ge 27, 3) := by decide +kernel
theorem dX5_bucket_15 : decode cX5_bucket 15 = .ok (.iload_n 2, 1) := by decide +kernel
theorem dX5_bucket_16 : decode cX5_bucket 16 = .ok (.ifCond .lt 23, 3) := by decide +kernel
theorem dX5_bucket_19 : decode cX5_bucket 19 = .ok (.iload_n 2, 1) := by decide +kernel
theorem dX5_bucket_20 : decode cX5_bucket 20 = .ok (.aload_n 0, 1) := by decide +kernel
theorem dX5_bucket_21 : decode cX5_bucket 21 = .ok (.getfield 44, 3) := by decide +kernel
theorem dX5_bucket_24 : decode cX5_bucket 24 = .ok (.getfield 163, 3) := by decide +kernel
theorem dX5_bucket_27 : decode cX5_bucket 27 = .ok (.if_icmp .ge 12, 3) := by decide +kernel
theorem dX5_bucket_30 : decode cX5_bucket 30 = .ok (.iload_n 3, 1) := by decide +kernel
theorem dX5_bucket_31 : decode cX5_bucket 31 = .ok (.ifCond .lt 8, 3) := by decide +kernel
theorem dX5_bucket_34 : decode cX5_bucket 34 = .ok (.iload_n 3, 1) := by decide +kernel
theorem dX5_bucket_35 : decode cX5_bucket 35 = .ok (.iconst 3, 1) := by decide +kernel
theorem dX5_bucket_36 : decode cX5_bucket 36 = .ok (.if_icmp .lt 7, 3) := by decide +kernel
theorem dX5_bucket_39 : decode cX5_bucket 39 = .ok (.ldc2_w 166, 3) := by decide +kernel
theorem dX5_bucket_42 : decode cX5_bucket 42 = .ok (.lreturn, 1) := by decide +kernel
theorem dX5_bucket_43 : decode cX5_bucket 43 = .ok (.aload_n 0, 1) := by decide +kernel
theorem dX5_bucket_44 : decode cX5_bucket 44 = .ok (.getfield 44, 3) := by decide +kernel
theorem dX5_bucket_47 : decode cX5_bucket 47 = .ok (.getfield 168, 3) := by decide +kernel
theorem dX5_bucket_50 : decode cX5_bucket 50 = .ok (.iload_n 1, 1) := by decide +kernel
theorem dX5_bucket_51 : decode cX5_bucket 51 = .ok (.iload_n 2, 1) := by decide +kernel
theorem dX5_bucket_52 : decode cX5_bucket 52 = .ok (.invokestatic 172, 3) := by decide +kernel
theorem dX5_bucket_55 : decode cX5_bucket 55 = .ok (.iload_n 3, 1) := by decide +kernel
theorem dX5_bucket_56 : decode cX5_bucket 56 = .ok (.iadd, 1) := by decide +kernel
theorem dX5_bucket_57 : decode cX5_bucket 57 = .ok (.laload, 1) := by decide +kernel
theorem dX5_bucket_58 : decode cX5_bucket 58 = .ok (.lreturn, 1) := by decide +kernel
theorem dX5_count_0 : decode cX5_count 0 = .ok (.iload_n 1, 1) := by decide +kernel
theorem dX5_count_1 : decode cX5_count 1 = .ok (.tableswitch 87 0 5 #[39, 47, 55, 63, 71, 79], 39) := by decide +kernel
theorem dX5_count_40 : decode cX5_count 40 = .ok (.aload_n 0, 1) := by decide +kernel
theorem dX5_count_41 : decode cX5_count 41 = .ok (.getfield 10, 3) := by decide +kernel
theorem dX5_count_44 : decode cX5_count 44 = .ok (.getfield 79, 3) := by decide +kernel
theorem dX5_count_47 : decode cX5_count 47 = .ok (.ireturn, 1) := by decide +kernel
theorem dX5_count_48 : decode cX5_count 48 = .ok (.aload_n 0, 1) := by decide +kernel
theorem dX5_count_49 : decode cX5_count 49 = .ok (.getfield 10, 3) := by decide +kernel
theorem dX5_count_52 : decode cX5_count 52 = .ok (.getfield 107, 3) := by decide +kernel
theorem dX5_count_55 : decode cX5_count 55 = .ok (.ireturn, 1) := by decide +kernel
theorem dX5_count_56 : decode cX5_count 56 = .ok (.aload_n 0, 1) := by decide +kernel
theorem dX5_count_57 : decode cX5_count 57 = .ok (.getfield 10, 3) := by decide +kernel
theorem dX5_count_60 : decode cX5_count 60 = .ok (.getfield 100, 3) := by decide +kernel
theorem dX5_count_63 : decode cX5_count 63 = .ok (.ireturn, 1) := by decide +kernel
theorem dX5_count_64 : decode cX5_count 64 = .ok (.aload_n 0, 1) := by decide +kernel
theorem dX5_count_65 : decode cX5_count 65 = .ok (.getfield 44, 3) := by decide +kernel
theorem dX5_count_68 : decode cX5_count 68 = .ok (.getfield 160, 3) := by decide +kernel
theorem dX5_count_71 : decode cX5_count 71 = .ok (.ireturn, 1) := by decide +kernel
theorem dX5_count_72 : decode cX5_count 72 = .ok (.aload_n 0, 1) := by decide +kernel
theorem dX5_count_73 : decode cX5_count 73 = .ok (.getfield 44, 3) := by decide +kernel
theorem dX5_count_76 : decode cX5_count 76 = .ok (.getfield 163, 3) := by decide +kernel
theorem dX5_count_79 : decode cX5_count 79 = .ok (.ireturn, 1) := by decide +kernel
theorem dX5_count_80 : decode cX5_count 80 = .ok (.aload_n 0, 1) := by decide +kernel
theorem dX5_count_81 : decode cX5_count 81 = .ok (.getfield 44, 3) := by decide +kernel
theorem dX5_count_84 : decode cX5_count 84 = .ok (.getfield 138, 3) := by decide +kernel
theorem dX5_count_87 : decode cX5_count 87 = .ok (.ireturn, 1) := by decide +kernel
theorem dX5_count_88 : decode cX5_count 88 = .ok (.iconst (-1), 1) := by decide +kernel
theorem dX5_count_89 : decode cX5_count 89 = .ok (.ireturn, 1) := by decide +kernel
theorem dX5_isKept_0 : decode cX5_isKept 0 = .ok (.iload_n 0, 1) := by decide +kernel
theorem dX5_isKept_1 : decode cX5_isKept 1 = .ok (.ifCond .lt 13, 3) := by decide +kernel
theorem dX5_isKept_4 : decode cX5_isKept 4 = .ok (.iload_n 0, 1) := by decide +kernel
theorem dX5_isKept_5 : decode cX5_isKept 5 = .ok (.bipush 6, 2) := by decide +kernel
theorem dX5_isKept_7 : decode cX5_isKept 7 = .ok (.if_icmp .ge 7, 3) := by decide +kernel
theorem dX5_isKept_10 : decode cX5_isKept 10 = .ok (.iconst 1, 1) := by decide +kernel
theorem dX5_isKept_11 : decode cX5_isKept 11 = .ok (.goto 4, 3) := by decide +kernel
theorem dX5_isKept_14 : decode cX5_isKept 14 = .ok (.iconst 0, 1) := by decide +kernel
theorem dX5_isKept_15 : decode cX5_isKept 15 = .ok (.ireturn, 1) := by decide +kernel
theorem dX5_isPrime_0 : decode cX5_isPrime 0 = .ok (.iload_n 0, 1) := by decide +kernel
theorem dX5_isPrime_1 : decode cX5_isPrime 1 = .ok (.iconst 2, 1) := by decide +kernel
theorem dX5_isPrime_2 : decode cX5_isPrime 2 = .ok (.if_icmp .lt 9, 3) := by decide +kernel
theorem dX5_isPrime_5 : decode cX5_isPrime 5 = .ok (.iload_n 0, 1) := by decide +kernel
theorem dX5_isPrime_6 : decode cX5_isPrime 6 = .ok (.bipush 97, 2) := by decide +kernel
theorem dX5_isPrime_8 : decode cX5_isPrime 8 = .ok (.if_icmp .le 5, 3) := by decide +kernel
end
section
theorem dX5_isPrime_11 : decode cX5_isPrime 11 = .ok (.iconst 0, 1) := by decide +kernel
theorem dX5_isPrime_12 : decode cX5_isPrime 12 = .ok (.ireturn, 1) := by decide +kernel
theorem dX5_isPrime_13 : decode cX5_isPrime 13 = .ok (.iconst 2, 1) := by decide +kernel
theorem dX5_isPrime_14 : decode cX5_isPrime 14 = .ok (.istore_n 1, 1) := by decide +kernel
theorem dX5_isPrime_15 : decode cX5_isPrime 15 = .ok (.iload_n 1, 1) := by decide +kernel
theorem dX5_isPrime_16 : decode cX5_isPrime 16 = .ok (.iload_n 0, 1) := by decide +kernel
theorem dX5_isPrime_17 : decode cX5_isPrime 17 = .ok (.if_icmp .ge 17, 3) := by decide +kernel
theorem dX5_isPrime_20 : decode cX5_isPrime 20 = .ok (.iload_n 0, 1) := by decide +kernel
theorem dX5_isPrime_21 : decode cX5_isPrime 21 = .ok (.iload_n 1, 1) := by decide +kernel
theorem dX5_isPrime_22 : decode cX5_isPrime 22 = .ok (.irem, 1) := by decide +kernel
theorem dX5_isPrime_23 : decode cX5_isPrime 23 = .ok (.ifCond .ne 5, 3) := by decide +kernel
theorem dX5_isPrime_26 : decode cX5_isPrime 26 = .ok (.iconst 0, 1) := by decide +kernel
theorem dX5_isPrime_27 : decode cX5_isPrime 27 = .ok (.ireturn, 1) := by decide +kernel
theorem dX5_isPrime_28 : decode cX5_isPrime 28 = .ok (.iinc 1 1, 3) := by decide +kernel
theorem dX5_isPrime_31 : decode cX5_isPrime 31 = .ok (.goto (-16), 3) := by decide +kernel
theorem dX5_isPrime_34 : decode cX5_isPrime 34 = .ok (.iconst 1, 1) := by decide +kernel
theorem dX5_isPrime_35 : decode cX5_isPrime 35 = .ok (.ireturn, 1) := by decide +kernel
theorem dX5_weight_0 : decode cX5_weight 0 = .ok (.iconst 0, 1) := by decide +kernel
theorem dX5_weight_1 : decode cX5_weight 1 = .ok (.istore_n 1, 1) := by decide +kernel
theorem dX5_weight_2 : decode cX5_weight 2 = .ok (.iconst 0, 1) := by decide +kernel
theorem dX5_weight_3 : decode cX5_weight 3 = .ok (.istore_n 2, 1) := by decide +kernel
theorem dX5_weight_4 : decode cX5_weight 4 = .ok (.iload_n 2, 1) := by decide +kernel
theorem dX5_weight_5 : decode cX5_weight 5 = .ok (.aload_n 0, 1) := by decide +kernel
theorem dX5_weight_6 : decode cX5_weight 6 = .ok (.arraylength, 1) := by decide +kernel
theorem dX5_weight_7 : decode cX5_weight 7 = .ok (.if_icmp .ge 18, 3) := by decide +kernel
theorem dX5_weight_10 : decode cX5_weight 10 = .ok (.aload_n 0, 1) := by decide +kernel
theorem dX5_weight_11 : decode cX5_weight 11 = .ok (.iload_n 2, 1) := by decide +kernel
theorem dX5_weight_12 : decode cX5_weight 12 = .ok (.iaload, 1) := by decide +kernel
theorem dX5_weight_13 : decode cX5_weight 13 = .ok (.ifCond .eq 6, 3) := by decide +kernel
theorem dX5_weight_16 : decode cX5_weight 16 = .ok (.iinc 1 1, 3) := by decide +kernel
theorem dX5_weight_19 : decode cX5_weight 19 = .ok (.iinc 2 1, 3) := by decide +kernel
theorem dX5_weight_22 : decode cX5_weight 22 = .ok (.goto (-18), 3) := by decide +kernel
theorem dX5_weight_25 : decode cX5_weight 25 = .ok (.iload_n 1, 1) := by decide +kernel
theorem dX5_weight_26 : decode cX5_weight 26 = .ok (.ireturn, 1) := by decide +kernel
theorem dX5_clear_0 : decode cX5_clear 0 = .ok (.iconst 0, 1) := by decide +kernel
theorem dX5_clear_1 : decode cX5_clear 1 = .ok (.istore_n 1, 1) := by decide +kernel
theorem dX5_clear_2 : decode cX5_clear 2 = .ok (.iload_n 1, 1) := by decide +kernel
theorem dX5_clear_3 : decode cX5_clear 3 = .ok (.aload_n 0, 1) := by decide +kernel
theorem dX5_clear_4 : decode cX5_clear 4 = .ok (.arraylength, 1) := by decide +kernel
theorem dX5_clear_5 : decode cX5_clear 5 = .ok (.if_icmp .ge 13, 3) := by decide +kernel
theorem dX5_clear_8 : decode cX5_clear 8 = .ok (.aload_n 0, 1) := by decide +kernel
theorem dX5_clear_9 : decode cX5_clear 9 = .ok (.iload_n 1, 1) := by decide +kernel
theorem dX5_clear_10 : decode cX5_clear 10 = .ok (.iconst 0, 1) := by decide +kernel
theorem dX5_clear_11 : decode cX5_clear 11 = .ok (.iastore, 1) := by decide +kernel
theorem dX5_clear_12 : decode cX5_clear 12 = .ok (.iinc 1 1, 3) := by decide +kernel
theorem dX5_clear_15 : decode cX5_clear 15 = .ok (.goto (-13), 3) := by decide +kernel
theorem dX5_clear_18 : decode cX5_clear 18 = .ok (.return_, 1) := by decide +kernel
theorem dX5_copy_0 : decode cX5_copy 0 = .ok (.aload_n 0, 1) := by decide +kernel
theorem dX5_copy_1 : decode cX5_copy 1 = .ok (.arraylength, 1) := by decide +kernel
theorem dX5_copy_2 : decode cX5_copy 2 = .ok (.aload_n 1, 1) := by decide +kernel
theorem dX5_copy_3 : decode cX5_copy 3 = .ok (.arraylength, 1) := by decide +kernel
theorem dX5_copy_4 : decode cX5_copy 4 = .ok (.invokestatic 176, 3) := by decide +kernel
theorem dX5_copy_7 : decode cX5_copy 7 = .ok (.istore_n 2, 1) := by decide +kernel
theorem dX5_copy_8 : decode cX5_copy 8 = .ok (.iconst 0, 1) := by decide +kernel
theorem dX5_copy_9 : decode cX5_copy 9 = .ok (.istore_n 3, 1) := by decide +kernel
theorem dX5_copy_10 : decode cX5_copy 10 = .ok (.iload_n 3, 1) := by decide +kernel
theorem dX5_copy_11 : decode cX5_copy 11 = .ok (.iload_n 2, 1) := by decide +kernel
theorem dX5_copy_12 : decode cX5_copy 12 = .ok (.if_icmp .ge 15, 3) := by decide +kernel
theorem dX5_copy_15 : decode cX5_copy 15 = .ok (.aload_n 1, 1) := by decide +kernel
theorem dX5_copy_16 : decode cX5_copy 16 = .ok (.iload_n 3, 1) := by decide +kernel
theorem dX5_copy_17 : decode cX5_copy 17 = .ok (.aload_n 0, 1) := by decide +kernel
theorem dX5_copy_18 : decode cX5_copy 18 = .ok (.iload_n 3, 1) := by decide +kernel
theorem dX5_copy_19 : decode cX5_copy 19 = .ok (.iaload, 1) := by decide +kernel
theorem dX5_copy_20 : decode cX5_copy 20 = .ok (.iastore, 1) := by decide +kernel
theorem dX5_copy_21 : decode cX5_copy 21 = .ok (.iinc 3 1, 3) := by decide +kernel
theorem dX5_copy_24 : decode cX5_copy 24 = .ok (.goto (-14), 3) := by decide +kernel
theorem dX5_copy_27 : decode cX5_copy 27 = .ok (.return_, 1) := by decide +kernel
theorem dX6_init_0 : decode cX6_init 0 = .ok (.aload_n 0, 1) := by decide +kernel
theorem dX6_init_1 : decode cX6_init 1 = .ok (.invokespecial 1, 3) := by decide +kernel
theorem dX6_init_4 : decode cX6_init 4 = .ok (.aload_n 0, 1) := by decide +kernel
theorem dX6_init_5 : decode cX6_init 5 = .ok (.bipush 11, 2) := by decide +kernel
theorem dX6_init_7 : decode cX6_init 7 = .ok (.putfield 7, 3) := by decide +kernel
theorem dX6_init_10 : decode cX6_init 10 = .ok (.aload_n 0, 1) := by decide +kernel
theorem dX6_init_11 : decode cX6_init 11 = .ok (.iconst 1, 1) := by decide +kernel
theorem dX6_init_12 : decode cX6_init 12 = .ok (.putfield 13, 3) := by decide +kernel
theorem dX6_init_15 : decode cX6_init 15 = .ok (.aload_n 0, 1) := by decide +kernel
theorem dX6_init_16 : decode cX6_init 16 = .ok (.iconst 1, 1) := by decide +kernel
theorem dX6_init_17 : decode cX6_init 17 = .ok (.putfield 16, 3) := by decide +kernel
theorem dX6_init_20 : decode cX6_init 20 = .ok (.aload_n 0, 1) := by decide +kernel
theorem dX6_init_21 : decode cX6_init 21 = .ok (.bipush 72, 2) := by decide +kernel
theorem dX6_init_23 : decode cX6_init 23 = .ok (.newarray .int, 2) := by decide +kernel
theorem dX6_init_25 : decode cX6_init 25 = .ok (.putfield 19, 3) := by decide +kernel
theorem dX6_init_28 : decode cX6_init 28 = .ok (.aload_n 0, 1) := by decide +kernel
theorem dX6_init_29 : decode cX6_init 29 = .ok (.bipush 72, 2) := by decide +kernel
theorem dX6_init_31 : decode cX6_init 31 = .ok (.newarray .int, 2) := by decide +kernel
theorem dX6_init_33 : decode cX6_init 33 = .ok (.putfield 23, 3) := by decide +kernel
theorem dX6_init_36 : decode cX6_init 36 = .ok (.aload_n 0, 1) := by decide +kernel
theorem dX6_init_37 : decode cX6_init 37 = .ok (.bipush 36, 2) := by decide +kernel
theorem dX6_init_39 : decode cX6_init 39 = .ok (.newarray .int, 2) := by decide +kernel
theorem dX6_init_41 : decode cX6_init 41 = .ok (.putfield 26, 3) := by decide +kernel
theorem dX6_init_44 : decode cX6_init 44 = .ok (.aload_n 0, 1) := by decide +kernel
theorem dX6_init_45 : decode cX6_init 45 = .ok (.iconst 1, 1) := by decide +kernel
theorem dX6_init_46 : decode cX6_init 46 = .ok (.putfield 29, 3) := by decide +kernel
theorem dX6_init_49 : decode cX6_init 49 = .ok (.aload_n 0, 1) := by decide +kernel
theorem dX6_init_50 : decode cX6_init 50 = .ok (.iconst 2, 1) := by decide +kernel
theorem dX6_init_51 : decode cX6_init 51 = .ok (.putfield 32, 3) := by decide +kernel
theorem dX6_init_54 : decode cX6_init 54 = .ok (.aload_n 0, 1) := by decide +kernel
theorem dX6_init_55 : decode cX6_init 55 = .ok (.sipush 768, 3) := by decide +kernel
theorem dX6_init_58 : decode cX6_init 58 = .ok (.newarray .long, 2) := by decide +kernel
theorem dX6_init_60 : decode cX6_init 60 = .ok (.putfield 35, 3) := by decide +kernel
theorem dX6_init_63 : decode cX6_init 63 = .ok (.aload_n 0, 1) := by decide +kernel
theorem dX6_init_64 : decode cX6_init 64 = .ok (.bipush 100, 2) := by decide +kernel
theorem dX6_init_66 : decode cX6_init 66 = .ok (.newarray .int, 2) := by decide +kernel
theorem dX6_init_68 : decode cX6_init 68 = .ok (.putfield 39, 3) := by decide +kernel
theorem dX6_init_71 : decode cX6_init 71 = .ok (.aload_n 0, 1) := by decide +kernel
theorem dX6_init_72 : decode cX6_init 72 = .ok (.bipush 100, 2) := by decide +kernel
theorem dX6_init_74 : decode cX6_init 74 = .ok (.newarray .int, 2) := by decide +kernel
theorem dX6_init_76 : decode cX6_init 76 = .ok (.putfield 42, 3) := by decide +kernel
theorem dX6_init_79 : decode cX6_init 79 = .ok (.aload_n 0, 1) := by decide +kernel
theorem dX6_init_80 : decode cX6_init 80 = .ok (.bipush 78, 2) := by decide +kernel
theorem dX6_init_82 : decode cX6_init 82 = .ok (.newarray .int, 2) := by decide +kernel
theorem dX6_init_84 : decode cX6_init 84 = .ok (.putfield 45, 3) := by decide +kernel
theorem dX6_init_87 : decode cX6_init 87 = .ok (.aload_n 0, 1) := by decide +kernel
theorem dX6_init_88 : decode cX6_init 88 = .ok (.bipush 12, 2) := by decide +kernel
theorem dX6_init_90 : decode cX6_init 90 = .ok (.newarray .int, 2) := by decide +kernel
theorem dX6_init_92 : decode cX6_init 92 = .ok (.putfield 48, 3) := by decide +kernel
theorem dX6_init_95 : decode cX6_init 95 = .ok (.aload_n 0, 1) := by decide +kernel
theorem dX6_init_96 : decode cX6_init 96 = .ok (.bipush 12, 2) := by decide +kernel
theorem dX6_init_98 : decode cX6_init 98 = .ok (.newarray .int, 2) := by decide +kernel
theorem dX6_init_100 : decode cX6_init 100 = .ok (.putfield 51, 3) := by decide +kernel
theorem dX6_init_103 : decode cX6_init 103 = .ok (.aload_n 0, 1) := by decide +kernel
theorem dX6_init_104 : decode cX6_init 104 = .ok (.bipush 6, 2) := by decide +kernel
theorem dX6_init_106 : decode cX6_init 106 = .ok (.newarray .int, 2) := by decide +kernel
theorem dX6_init_108 : decode cX6_init 108 = .ok (.putfield 54, 3) := by decide +kernel
theorem dX6_init_111 : decode cX6_init 111 = .ok (.return_, 1) := by decide +kernel
theorem dX6_in_0 : decode cX6_in 0 = .ok (.lload_n 0, 1) := by decide +kernel
theorem dX6_in_1 : decode cX6_in 1 = .ok (.lload_n 2, 1) := by decide +kernel
theorem dX6_in_2 : decode cX6_in 2 = .ok (.lcmp, 1) := by decide +kernel
theorem dX6_in_3 : decode cX6_in 3 = .ok (.ifCond .lt 14, 3) := by decide +kernel
theorem dX6_in_6 : decode cX6_in 6 = .ok (.lload_n 0, 1) := by decide +kernel
theorem dX6_in_7 : decode cX6_in 7 = .ok (.lload 4, 2) := by decide +kernel
theorem dX6_in_9 : decode cX6_in 9 = .ok (.lcmp, 1) := by decide +kernel
theorem dX6_in_10 : decode cX6_in 10 = .ok (.ifCond .gt 7, 3) := by decide +kernel
theorem dX6_in_13 : decode cX6_in 13 = .ok (.iconst 1, 1) := by decide +kernel
theorem dX6_in_14 : decode cX6_in 14 = .ok (.goto 4, 3) := by decide +kernel
theorem dX6_in_17 : decode cX6_in 17 = .ok (.iconst 0, 1) := by decide +kernel
theorem dX6_in_18 : decode cX6_in 18 = .ok (.ireturn, 1) := by decide +kernel
theorem dX6_isPrime_0 : decode cX6_isPrime 0 = .ok (.iload_n 0, 1) := by decide +kernel
theorem dX6_isPrime_1 : decode cX6_isPrime 1 = .ok (.i2l, 1) := by decide +kernel
theorem dX6_isPrime_2 : decode cX6_isPrime 2 = .ok (.ldc2_w 57, 3) := by decide +kernel
theorem dX6_isPrime_5 : decode cX6_isPrime 5 = .ok (.ldc2_w 59, 3) := by decide +kernel
theorem dX6_isPrime_8 : decode cX6_isPrime 8 = .ok (.invokestatic 61, 3) := by decide +kernel
theorem dX6_isPrime_11 : decode cX6_isPrime 11 = .ok (.istore_n 1, 1) := by decide +kernel
theorem dX6_isPrime_12 : decode cX6_isPrime 12 = .ok (.iconst 2, 1) := by decide +kernel
theorem dX6_isPrime_13 : decode cX6_isPrime 13 = .ok (.istore_n 2, 1) := by decide +kernel
theorem dX6_isPrime_14 : decode cX6_isPrime 14 = .ok (.iload_n 1, 1) := by decide +kernel
theorem dX6_isPrime_15 : decode cX6_isPrime 15 = .ok (.ifCond .eq 28, 3) := by decide +kernel
theorem dX6_isPrime_18 : decode cX6_isPrime 18 = .ok (.iload_n 2, 1) := by decide +kernel
theorem dX6_isPrime_19 : decode cX6_isPrime 19 = .ok (.iload_n 2, 1) := by decide +kernel
theorem dX6_isPrime_20 : decode cX6_isPrime 20 = .ok (.imul, 1) := by decide +kernel
theorem dX6_isPrime_21 : decode cX6_isPrime 21 = .ok (.iload_n 0, 1) := by decide +kernel
theorem dX6_isPrime_22 : decode cX6_isPrime 22 = .ok (.if_icmp .gt 21, 3) := by decide +kernel
theorem dX6_isPrime_25 : decode cX6_isPrime 25 = .ok (.iload_n 0, 1) := by decide +kernel
theorem dX6_isPrime_26 : decode cX6_isPrime 26 = .ok (.iload_n 2, 1) := by decide +kernel
theorem dX6_isPrime_27 : decode cX6_isPrime 27 = .ok (.irem, 1) := by decide +kernel
theorem dX6_isPrime_28 : decode cX6_isPrime 28 = .ok (.ifCond .eq 7, 3) := by decide +kernel
theorem dX6_isPrime_31 : decode cX6_isPrime 31 = .ok (.iconst 1, 1) := by decide +kernel
theorem dX6_isPrime_32 : decode cX6_isPrime 32 = .ok (.goto 4, 3) := by decide +kernel
theorem dX6_isPrime_35 : decode cX6_isPrime 35 = .ok (.iconst 0, 1) := by decide +kernel
theorem dX6_isPrime_36 : decode cX6_isPrime 36 = .ok (.istore_n 1, 1) := by decide +kernel
theorem dX6_isPrime_37 : decode cX6_isPrime 37 = .ok (.iinc 2 1, 3) := by decide +kernel
theorem dX6_isPrime_40 : decode cX6_isPrime 40 = .ok (.goto (-26), 3) := by decide +kernel
theorem dX6_isPrime_43 : decode cX6_isPrime 43 = .ok (.iload_n 1, 1) := by decide +kernel
theorem dX6_isPrime_44 : decode cX6_isPrime 44 = .ok (.ireturn, 1) := by decide +kernel
theorem dX6_by_0 : decode cX6_by 0 = .ok (.iload_n 1, 1) := by decide +kernel
theorem dX6_by_1 : decode cX6_by 1 = .ok (.aload_n 0, 1) := by decide +kernel
theorem dX6_by_2 : decode cX6_by 2 = .ok (.getfield 7, 3) := by decide +kernel
theorem dX6_by_5 : decode cX6_by 5 = .ok (.irem, 1) := by decide +kernel
theorem dX6_by_6 : decode cX6_by 6 = .ok (.istore_n 2, 1) := by decide +kernel
theorem dX6_by_7 : decode cX6_by 7 = .ok (.iload_n 2, 1) := by decide +kernel
theorem dX6_by_8 : decode cX6_by 8 = .ok (.ifCond .ge 12, 3) := by decide +kernel
theorem dX6_by_11 : decode cX6_by 11 = .ok (.iload_n 2, 1) := by decide +kernel
theorem dX6_by_12 : decode cX6_by 12 = .ok (.aload_n 0, 1) := by decide +kernel
theorem dX6_by_13 : decode cX6_by 13 = .ok (.getfield 7, 3) := by decide +kernel
theorem dX6_by_16 : decode cX6_by 16 = .ok (.iadd, 1) := by decide +kernel
theorem dX6_by_17 : decode cX6_by 17 = .ok (.goto 4, 3) := by decide +kernel
theorem dX6_by_20 : decode cX6_by 20 = .ok (.iload_n 2, 1) := by decide +kernel
theorem dX6_by_21 : decode cX6_by 21 = .ok (.ireturn, 1) := by decide +kernel
theorem dX6_begin_0 : decode cX6_begin 0 = .ok (.iload_n 1, 1) := by decide +kernel
theorem dX6_begin_1 : decode cX6_begin 1 = .ok (.invokestatic 65, 3) := by decide +kernel
theorem dX6_begin_4 : decode cX6_begin 4 = .ok (.ifCond .eq 27, 3) := by decide +kernel
theorem dX6_begin_7 : decode cX6_begin 7 = .ok (.iload_n 2, 1) := by decide +kernel
theorem dX6_begin_8 : decode cX6_begin 8 = .ok (.i2l, 1) := by decide +kernel
theorem dX6_begin_9 : decode cX6_begin 9 = .ok (.lconst 1, 1) := by decide +kernel
theorem dX6_begin_10 : decode cX6_begin 10 = .ok (.ldc2_w 69, 3) := by decide +kernel
theorem dX6_begin_13 : decode cX6_begin 13 = .ok (.invokestatic 61, 3) := by decide +kernel
theorem dX6_begin_16 : decode cX6_begin 16 = .ok (.ifCond .eq 15, 3) := by decide +kernel
theorem dX6_begin_19 : decode cX6_begin 19 = .ok (.iload_n 3, 1) := by decide +kernel
theorem dX6_begin_20 : decode cX6_begin 20 = .ok (.i2l, 1) := by decide +kernel
theorem dX6_begin_21 : decode cX6_begin 21 = .ok (.lconst 1, 1) := by decide +kernel
theorem dX6_begin_22 : decode cX6_begin 22 = .ok (.ldc2_w 71, 3) := by decide +kernel
theorem dX6_begin_25 : decode cX6_begin 25 = .ok (.invokestatic 61, 3) := by decide +kernel
theorem dX6_begin_28 : decode cX6_begin 28 = .ok (.ifCond .ne 5, 3) := by decide +kernel
theorem dX6_begin_31 : decode cX6_begin 31 = .ok (.iconst (-1), 1) := by decide +kernel
theorem dX6_begin_32 : decode cX6_begin 32 = .ok (.ireturn, 1) := by decide +kernel
theorem dX6_begin_33 : decode cX6_begin 33 = .ok (.aload_n 0, 1) := by decide +kernel
theorem dX6_begin_34 : decode cX6_begin 34 = .ok (.iload_n 1, 1) := by decide +kernel
theorem dX6_begin_35 : decode cX6_begin 35 = .ok (.putfield 7, 3) := by decide +kernel
theorem dX6_begin_38 : decode cX6_begin 38 = .ok (.aload_n 0, 1) := by decide +kernel
theorem dX6_begin_39 : decode cX6_begin 39 = .ok (.iload_n 2, 1) := by decide +kernel
theorem dX6_begin_40 : decode cX6_begin 40 = .ok (.putfield 13, 3) := by decide +kernel
theorem dX6_begin_43 : decode cX6_begin 43 = .ok (.aload_n 0, 1) := by decide +kernel
theorem dX6_begin_44 : decode cX6_begin 44 = .ok (.iload_n 3, 1) := by decide +kernel
theorem dX6_begin_45 : decode cX6_begin 45 = .ok (.putfield 16, 3) := by decide +kernel
theorem dX6_begin_48 : decode cX6_begin 48 = .ok (.iconst 0, 1) := by decide +kernel
theorem dX6_begin_49 : decode cX6_begin 49 = .ok (.istore 4, 2) := by decide +kernel
theorem dX6_begin_51 : decode cX6_begin 51 = .ok (.iload 4, 2) := by decide +kernel
theorem dX6_begin_53 : decode cX6_begin 53 = .ok (.bipush 72, 2) := by decide +kernel
theorem dX6_begin_55 : decode cX6_begin 55 = .ok (.if_icmp .ge 25, 3) := by decide +kernel
theorem dX6_begin_58 : decode cX6_begin 58 = .ok (.aload_n 0, 1) := by decide +kernel
theorem dX6_begin_59 : decode cX6_begin 59 = .ok (.getfield 19, 3) := by decide +kernel
theorem dX6_begin_62 : decode cX6_begin 62 = .ok (.iload 4, 2) := by decide +kernel
theorem dX6_begin_64 : decode cX6_begin 64 = .ok (.iconst 0, 1) := by decide +kernel
theorem dX6_begin_65 : decode cX6_begin 65 = .ok (.iastore, 1) := by decide +kernel
theorem dX6_begin_66 : decode cX6_begin 66 = .ok (.aload_n 0, 1) := by decide +kernel
theorem dX6_begin_67 : decode cX6_begin 67 = .ok (.getfield 23, 3) := by decide +kernel
theorem dX6_begin_70 : decode cX6_begin 70 = .ok (.iload 4, 2) := by decide +kernel
theorem dX6_begin_72 : decode cX6_begin 72 = .ok (.iconst 0, 1) := by decide +kernel
theorem dX6_begin_73 : decode cX6_begin 73 = .ok (.iastore, 1) := by decide +kernel
theorem dX6_begin_74 : decode cX6_begin 74 = .ok (.iinc 4 1, 3) := by decide +kernel
theorem dX6_begin_77 : decode cX6_begin 77 = .ok (.goto (-26), 3) := by decide +kernel
theorem dX6_begin_80 : decode cX6_begin 80 = .ok (.iconst 0, 1) := by decide +kernel
theorem dX6_begin_81 : decode cX6_begin 81 = .ok (.istore 4, 2) := by decide +kernel
theorem dX6_begin_83 : decode cX6_begin 83 = .ok (.iload 4, 2) := by decide +kernel
theorem dX6_begin_85 : decode cX6_begin 85 = .ok (.bipush 36, 2) := by decide +kernel
theorem dX6_begin_87 : decode cX6_begin 87 = .ok (.if_icmp .ge 17, 3) := by decide +kernel
theorem dX6_begin_90 : decode cX6_begin 90 = .ok (.aload_n 0, 1) := by decide +kernel
theorem dX6_begin_91 : decode cX6_begin 91 = .ok (.getfield 26, 3) := by decide +kernel
theorem dX6_begin_94 : decode cX6_begin 94 = .ok (.iload 4, 2) := by decide +kernel
theorem dX6_begin_96 : decode cX6_begin 96 = .ok (.iconst 0, 1) := by decide +kernel
theorem dX6_begin_97 : decode cX6_begin 97 = .ok (.iastore, 1) := by decide +kernel
theorem dX6_begin_98 : decode cX6_begin 98 = .ok (.iinc 4 1, 3) := by decide +kernel
theorem dX6_begin_101 : decode cX6_begin 101 = .ok (.goto (-18), 3) := by decide +kernel
theorem dX6_begin_104 : decode cX6_begin 104 = .ok (.iconst 0, 1) := by decide +kernel
theorem dX6_begin_105 : decode cX6_begin 105 = .ok (.ireturn, 1) := by decide +kernel
theorem dX6_isPlace_0 : decode cX6_isPlace 0 = .ok (.iload_n 1, 1) := by decide +kernel
theorem dX6_isPlace_1 : decode cX6_isPlace 1 = .ok (.i2l, 1) := by decide +kernel
theorem dX6_isPlace_2 : decode cX6_isPlace 2 = .ok (.lconst 0, 1) := by decide +kernel
theorem dX6_isPlace_3 : decode cX6_isPlace 3 = .ok (.aload_n 0, 1) := by decide +kernel
theorem dX6_isPlace_4 : decode cX6_isPlace 4 = .ok (.getfield 13, 3) := by decide +kernel
theorem dX6_isPlace_7 : decode cX6_isPlace 7 = .ok (.iconst 1, 1) := by decide +kernel
theorem dX6_isPlace_8 : decode cX6_isPlace 8 = .ok (.isub, 1) := by decide +kernel
theorem dX6_isPlace_9 : decode cX6_isPlace 9 = .ok (.i2l, 1) := by decide +kernel
theorem dX6_isPlace_10 : decode cX6_isPlace 10 = .ok (.invokestatic 61, 3) := by decide +kernel
theorem dX6_isPlace_13 : decode cX6_isPlace 13 = .ok (.ifCond .eq 23, 3) := by decide +kernel
theorem dX6_isPlace_16 : decode cX6_isPlace 16 = .ok (.iload_n 2, 1) := by decide +kernel
theorem dX6_isPlace_17 : decode cX6_isPlace 17 = .ok (.i2l, 1) := by decide +kernel
theorem dX6_isPlace_18 : decode cX6_isPlace 18 = .ok (.lconst 0, 1) := by decide +kernel
theorem dX6_isPlace_19 : decode cX6_isPlace 19 = .ok (.aload_n 0, 1) := by decide +kernel
theorem dX6_isPlace_20 : decode cX6_isPlace 20 = .ok (.getfield 16, 3) := by decide +kernel
theorem dX6_isPlace_23 : decode cX6_isPlace 23 = .ok (.iconst 1, 1) := by decide +kernel
theorem dX6_isPlace_24 : decode cX6_isPlace 24 = .ok (.isub, 1) := by decide +kernel
theorem dX6_isPlace_25 : decode cX6_isPlace 25 = .ok (.i2l, 1) := by decide +kernel
theorem dX6_isPlace_26 : decode cX6_isPlace 26 = .ok (.invokestatic 61, 3) := by decide +kernel
theorem dX6_isPlace_29 : decode cX6_isPlace 29 = .ok (.ifCond .eq 7, 3) := by decide +kernel
theorem dX6_isPlace_32 : decode cX6_isPlace 32 = .ok (.iconst 1, 1) := by decide +kernel
theorem dX6_isPlace_33 : decode cX6_isPlace 33 = .ok (.goto 4, 3) := by decide +kernel
theorem dX6_isPlace_36 : decode cX6_isPlace 36 = .ok (.iconst 0, 1) := by decide +kernel
theorem dX6_isPlace_37 : decode cX6_isPlace 37 = .ok (.ireturn, 1) := by decide +kernel
theorem dX6_set_0 : decode cX6_set 0 = .ok (.aload_n 0, 1) := by decide +kernel
theorem dX6_set_1 : decode cX6_set 1 = .ok (.iload_n 1, 1) := by decide +kernel
theorem dX6_set_2 : decode cX6_set 2 = .ok (.iload_n 2, 1) := by decide +kernel
theorem dX6_set_3 : decode cX6_set 3 = .ok (.invokevirtual 73, 3) := by decide +kernel
theorem dX6_set_6 : decode cX6_set 6 = .ok (.ifCond .ne 5, 3) := by decide +kernel
theorem dX6_set_9 : decode cX6_set 9 = .ok (.iconst (-1), 1) := by decide +kernel
theorem dX6_set_10 : decode cX6_set 10 = .ok (.ireturn, 1) := by decide +kernel
theorem dX6_set_11 : decode cX6_set 11 = .ok (.aload_n 0, 1) := by decide +kernel
theorem dX6_set_12 : decode cX6_set 12 = .ok (.getfield 19, 3) := by decide +kernel
theorem dX6_set_15 : decode cX6_set 15 = .ok (.bipush 12, 2) := by decide +kernel
theorem dX6_set_17 : decode cX6_set 17 = .ok (.iload_n 1, 1) := by decide +kernel
theorem dX6_set_18 : decode cX6_set 18 = .ok (.imul, 1) := by decide +kernel
theorem dX6_set_19 : decode cX6_set 19 = .ok (.iload_n 2, 1) := by decide +kernel
theorem dX6_set_20 : decode cX6_set 20 = .ok (.iadd, 1) := by decide +kernel
theorem dX6_set_21 : decode cX6_set 21 = .ok (.iaload, 1) := by decide +kernel
theorem dX6_set_22 : decode cX6_set 22 = .ok (.istore 4, 2) := by decide +kernel
theorem dX6_set_24 : decode cX6_set 24 = .ok (.aload_n 0, 1) := by decide +kernel
theorem dX6_set_25 : decode cX6_set 25 = .ok (.getfield 19, 3) := by decide +kernel
theorem dX6_set_28 : decode cX6_set 28 = .ok (.bipush 12, 2) := by decide +kernel
theorem dX6_set_30 : decode cX6_set 30 = .ok (.iload_n 1, 1) := by decide +kernel
theorem dX6_set_31 : decode cX6_set 31 = .ok (.imul, 1) := by decide +kernel
theorem dX6_set_32 : decode cX6_set 32 = .ok (.iload_n 2, 1) := by decide +kernel
theorem dX6_set_33 : decode cX6_set 33 = .ok (.iadd, 1) := by decide +kernel
theorem dX6_set_34 : decode cX6_set 34 = .ok (.aload_n 0, 1) := by decide +kernel
theorem dX6_set_35 : decode cX6_set 35 = .ok (.iload_n 3, 1) := by decide +kernel
theorem dX6_set_36 : decode cX6_set 36 = .ok (.invokevirtual 77, 3) := by decide +kernel
theorem dX6_set_39 : decode cX6_set 39 = .ok (.iastore, 1) := by decide +kernel
theorem dX6_set_40 : decode cX6_set 40 = .ok (.iload 4, 2) := by decide +kernel
theorem dX6_set_42 : decode cX6_set 42 = .ok (.ireturn, 1) := by decide +kernel
theorem dX6_powers_0 : decode cX6_powers 0 = .ok (.iload_n 1, 1) := by decide +kernel
theorem dX6_powers_1 : decode cX6_powers 1 = .ok (.i2l, 1) := by decide +kernel
theorem dX6_powers_2 : decode cX6_powers 2 = .ok (.lconst 0, 1) := by decide +kernel
theorem dX6_powers_3 : decode cX6_powers 3 = .ok (.aload_n 0, 1) := by decide +kernel
theorem dX6_powers_4 : decode cX6_powers 4 = .ok (.getfield 7, 3) := by decide +kernel
theorem dX6_powers_7 : decode cX6_powers 7 = .ok (.iconst 1, 1) := by decide +kernel
theorem dX6_powers_8 : decode cX6_powers 8 = .ok (.isub, 1) := by decide +kernel
theorem dX6_powers_9 : decode cX6_powers 9 = .ok (.i2l, 1) := by decide +kernel
theorem dX6_powers_10 : decode cX6_powers 10 = .ok (.invokestatic 61, 3) := by decide +kernel
theorem dX6_powers_13 : decode cX6_powers 13 = .ok (.ifCond .ne 5, 3) := by decide +kernel
theorem dX6_powers_16 : decode cX6_powers 16 = .ok (.iconst (-1), 1) := by decide +kernel
theorem dX6_powers_17 : decode cX6_powers 17 = .ok (.ireturn, 1) := by decide +kernel
theorem dX6_powers_18 : decode cX6_powers 18 = .ok (.iconst 0, 1) := by decide +kernel
theorem dX6_powers_19 : decode cX6_powers 19 = .ok (.istore_n 2, 1) := by decide +kernel
theorem dX6_powers_20 : decode cX6_powers 20 = .ok (.iload_n 2, 1) := by decide +kernel
theorem dX6_powers_21 : decode cX6_powers 21 = .ok (.aload_n 0, 1) := by decide +kernel
theorem dX6_powers_22 : decode cX6_powers 22 = .ok (.getfield 16, 3) := by decide +kernel
theorem dX6_powers_25 : decode cX6_powers 25 = .ok (.if_icmp .ge 58, 3) := by decide +kernel
theorem dX6_powers_28 : decode cX6_powers 28 = .ok (.iload_n 1, 1) := by decide +kernel
theorem dX6_powers_29 : decode cX6_powers 29 = .ok (.istore_n 3, 1) := by decide +kernel
theorem dX6_powers_30 : decode cX6_powers 30 = .ok (.iconst 0, 1) := by decide +kernel
theorem dX6_powers_31 : decode cX6_powers 31 = .ok (.istore 4, 2) := by decide +kernel
theorem dX6_powers_33 : decode cX6_powers 33 = .ok (.iload 4, 2) := by decide +kernel
theorem dX6_powers_35 : decode cX6_powers 35 = .ok (.aload_n 0, 1) := by decide +kernel
theorem dX6_powers_36 : decode cX6_powers 36 = .ok (.getfield 13, 3) := by decide +kernel
theorem dX6_powers_39 : decode cX6_powers 39 = .ok (.if_icmp .ge 38, 3) := by decide +kernel
theorem dX6_powers_42 : decode cX6_powers 42 = .ok (.aload_n 0, 1) := by decide +kernel
theorem dX6_powers_43 : decode cX6_powers 43 = .ok (.getfield 19, 3) := by decide +kernel
theorem dX6_powers_46 : decode cX6_powers 46 = .ok (.bipush 12, 2) := by decide +kernel
theorem dX6_powers_48 : decode cX6_powers 48 = .ok (.iload 4, 2) := by decide +kernel
theorem dX6_powers_50 : decode cX6_powers 50 = .ok (.imul, 1) := by decide +kernel
theorem dX6_powers_51 : decode cX6_powers 51 = .ok (.iload_n 2, 1) := by decide +kernel
theorem dX6_powers_52 : decode cX6_powers 52 = .ok (.iadd, 1) := by decide +kernel
theorem dX6_powers_53 : decode cX6_powers 53 = .ok (.iload_n 3, 1) := by decide +kernel
theorem dX6_powers_54 : decode cX6_powers 54 = .ok (.iastore, 1) := by decide +kernel
theorem dX6_powers_55 : decode cX6_powers 55 = .ok (.iload_n 3, 1) := by decide +kernel
theorem dX6_powers_56 : decode cX6_powers 56 = .ok (.iload_n 2, 1) := by decide +kernel
theorem dX6_powers_57 : decode cX6_powers 57 = .ok (.iconst 1, 1) := by decide +kernel
theorem dX6_powers_58 : decode cX6_powers 58 = .ok (.iadd, 1) := by decide +kernel
theorem dX6_powers_59 : decode cX6_powers 59 = .ok (.aload_n 0, 1) := by decide +kernel
theorem dX6_powers_60 : decode cX6_powers 60 = .ok (.getfield 7, 3) := by decide +kernel
theorem dX6_powers_63 : decode cX6_powers 63 = .ok (.irem, 1) := by decide +kernel
theorem dX6_powers_64 : decode cX6_powers 64 = .ok (.imul, 1) := by decide +kernel
theorem dX6_powers_65 : decode cX6_powers 65 = .ok (.aload_n 0, 1) := by decide +kernel
theorem dX6_powers_66 : decode cX6_powers 66 = .ok (.getfield 7, 3) := by decide +kernel
theorem dX6_powers_69 : decode cX6_powers 69 = .ok (.irem, 1) := by decide +kernel
theorem dX6_powers_70 : decode cX6_powers 70 = .ok (.istore_n 3, 1) := by decide +kernel
theorem dX6_powers_71 : decode cX6_powers 71 = .ok (.iinc 4 1, 3) := by decide +kernel
theorem dX6_powers_74 : decode cX6_powers 74 = .ok (.goto (-41), 3) := by decide +kernel
theorem dX6_powers_77 : decode cX6_powers 77 = .ok (.iinc 2 1, 3) := by decide +kernel
theorem dX6_powers_80 : decode cX6_powers 80 = .ok (.goto (-60), 3) := by decide +kernel
theorem dX6_powers_83 : decode cX6_powers 83 = .ok (.iconst 0, 1) := by decide +kernel
theorem dX6_powers_84 : decode cX6_powers 84 = .ok (.ireturn, 1) := by decide +kernel
theorem dX6_at_0 : decode cX6_at 0 = .ok (.aload_n 0, 1) := by decide +kernel
theorem dX6_at_1 : decode cX6_at 1 = .ok (.iload_n 1, 1) := by decide +kernel
theorem dX6_at_2 : decode cX6_at 2 = .ok (.iload_n 2, 1) := by decide +kernel
theorem dX6_at_3 : decode cX6_at 3 = .ok (.invokevirtual 73, 3) := by decide +kernel
theorem dX6_at_6 : decode cX6_at 6 = .ok (.ifCond .eq 17, 3) := by decide +kernel
theorem dX6_at_9 : decode cX6_at 9 = .ok (.aload_n 0, 1) := by decide +kernel
theorem dX6_at_10 : decode cX6_at 10 = .ok (.getfield 19, 3) := by decide +kernel
theorem dX6_at_13 : decode cX6_at 13 = .ok (.bipush 12, 2) := by decide +kernel
theorem dX6_at_15 : decode cX6_at 15 = .ok (.iload_n 1, 1) := by decide +kernel
theorem dX6_at_16 : decode cX6_at 16 = .ok (.imul, 1) := by decide +kernel
theorem dX6_at_17 : decode cX6_at 17 = .ok (.iload_n 2, 1) := by decide +kernel
theorem dX6_at_18 : decode cX6_at 18 = .ok (.iadd, 1) := by decide +kernel
theorem dX6_at_19 : decode cX6_at 19 = .ok (.iaload, 1) := by decide +kernel
theorem dX6_at_20 : decode cX6_at 20 = .ok (.goto 4, 3) := by decide +kernel
theorem dX6_at_23 : decode cX6_at 23 = .ok (.iconst (-1), 1) := by decide +kernel
theorem dX6_at_24 : decode cX6_at 24 = .ok (.ireturn, 1) := by decide +kernel
theorem dX6_turned_0 : decode cX6_turned 0 = .ok (.iconst 1, 1) := by decide +kernel
theorem dX6_turned_1 : decode cX6_turned 1 = .ok (.istore_n 2, 1) := by decide +kernel
theorem dX6_turned_2 : decode cX6_turned 2 = .ok (.iload_n 2, 1) := by decide +kernel
theorem dX6_turned_3 : decode cX6_turned 3 = .ok (.iload_n 1, 1) := by decide +kernel
theorem dX6_turned_4 : decode cX6_turned 4 = .ok (.imul, 1) := by decide +kernel
theorem dX6_turned_5 : decode cX6_turned 5 = .ok (.aload_n 0, 1) := by decide +kernel
theorem dX6_turned_6 : decode cX6_turned 6 = .ok (.getfield 7, 3) := by decide +kernel
theorem dX6_turned_9 : decode cX6_turned 9 = .ok (.irem, 1) := by decide +kernel
theorem dX6_turned_10 : decode cX6_turned 10 = .ok (.iconst 1, 1) := by decide +kernel
theorem dX6_turned_11 : decode cX6_turned 11 = .ok (.if_icmp .eq 9, 3) := by decide +kernel
theorem dX6_turned_14 : decode cX6_turned 14 = .ok (.iinc 2 1, 3) := by decide +kernel
theorem dX6_turned_17 : decode cX6_turned 17 = .ok (.goto (-15), 3) := by decide +kernel
theorem dX6_turned_20 : decode cX6_turned 20 = .ok (.iload_n 2, 1) := by decide +kernel
theorem dX6_turned_21 : decode cX6_turned 21 = .ok (.ireturn, 1) := by decide +kernel
theorem dX6_clears_0 : decode cX6_clears 0 = .ok (.iconst 0, 1) := by decide +kernel
theorem dX6_clears_1 : decode cX6_clears 1 = .ok (.istore 4, 2) := by decide +kernel
theorem dX6_clears_3 : decode cX6_clears 3 = .ok (.iconst 0, 1) := by decide +kernel
theorem dX6_clears_4 : decode cX6_clears 4 = .ok (.istore 5, 2) := by decide +kernel
theorem dX6_clears_6 : decode cX6_clears 6 = .ok (.iconst 0, 1) := by decide +kernel
theorem dX6_clears_7 : decode cX6_clears 7 = .ok (.istore 6, 2) := by decide +kernel
theorem dX6_clears_9 : decode cX6_clears 9 = .ok (.iload 6, 2) := by decide +kernel
theorem dX6_clears_11 : decode cX6_clears 11 = .ok (.aload_n 0, 1) := by decide +kernel
theorem dX6_clears_12 : decode cX6_clears 12 = .ok (.getfield 13, 3) := by decide +kernel
theorem dX6_clears_15 : decode cX6_clears 15 = .ok (.if_icmp .ge 114, 3) := by decide +kernel
theorem dX6_clears_18 : decode cX6_clears 18 = .ok (.iload_n 2, 1) := by decide +kernel
theorem dX6_clears_19 : decode cX6_clears 19 = .ok (.iload 6, 2) := by decide +kernel
theorem dX6_clears_21 : decode cX6_clears 21 = .ok (.ishr, 1) := by decide +kernel
theorem dX6_clears_22 : decode cX6_clears 22 = .ok (.iconst 1, 1) := by decide +kernel
theorem dX6_clears_23 : decode cX6_clears 23 = .ok (.iand, 1) := by decide +kernel
theorem dX6_clears_24 : decode cX6_clears 24 = .ok (.ifCond .ne 99, 3) := by decide +kernel
theorem dX6_clears_27 : decode cX6_clears 27 = .ok (.iconst 0, 1) := by decide +kernel
theorem dX6_clears_28 : decode cX6_clears 28 = .ok (.istore 5, 2) := by decide +kernel
theorem dX6_clears_30 : decode cX6_clears 30 = .ok (.iconst 0, 1) := by decide +kernel
theorem dX6_clears_31 : decode cX6_clears 31 = .ok (.istore 7, 2) := by decide +kernel
theorem dX6_clears_33 : decode cX6_clears 33 = .ok (.iload 7, 2) := by decide +kernel
theorem dX6_clears_35 : decode cX6_clears 35 = .ok (.aload_n 0, 1) := by decide +kernel
theorem dX6_clears_36 : decode cX6_clears 36 = .ok (.getfield 16, 3) := by decide +kernel
theorem dX6_clears_39 : decode cX6_clears 39 = .ok (.if_icmp .ge 48, 3) := by decide +kernel
theorem dX6_clears_42 : decode cX6_clears 42 = .ok (.iload_n 1, 1) := by decide +kernel
theorem dX6_clears_43 : decode cX6_clears 43 = .ok (.iload 7, 2) := by decide +kernel
theorem dX6_clears_45 : decode cX6_clears 45 = .ok (.ishr, 1) := by decide +kernel
theorem dX6_clears_46 : decode cX6_clears 46 = .ok (.iconst 1, 1) := by decide +kernel
theorem dX6_clears_47 : decode cX6_clears 47 = .ok (.iand, 1) := by decide +kernel
theorem dX6_clears_48 : decode cX6_clears 48 = .ok (.iconst 1, 1) := by decide +kernel
theorem dX6_clears_49 : decode cX6_clears 49 = .ok (.if_icmp .ne 32, 3) := by decide +kernel
theorem dX6_clears_52 : decode cX6_clears 52 = .ok (.aload_n 0, 1) := by decide +kernel
theorem dX6_clears_53 : decode cX6_clears 53 = .ok (.getfield 45, 3) := by decide +kernel
theorem dX6_clears_56 : decode cX6_clears 56 = .ok (.bipush 13, 2) := by decide +kernel
theorem dX6_clears_58 : decode cX6_clears 58 = .ok (.iload 4, 2) := by decide +kernel
theorem dX6_clears_60 : decode cX6_clears 60 = .ok (.imul, 1) := by decide +kernel
theorem dX6_clears_61 : decode cX6_clears 61 = .ok (.iload 5, 2) := by decide +kernel
theorem dX6_clears_63 : decode cX6_clears 63 = .ok (.iadd, 1) := by decide +kernel
theorem dX6_clears_64 : decode cX6_clears 64 = .ok (.aload_n 0, 1) := by decide +kernel
theorem dX6_clears_65 : decode cX6_clears 65 = .ok (.getfield 19, 3) := by decide +kernel
theorem dX6_clears_68 : decode cX6_clears 68 = .ok (.bipush 12, 2) := by decide +kernel
theorem dX6_clears_70 : decode cX6_clears 70 = .ok (.iload 6, 2) := by decide +kernel
theorem dX6_clears_72 : decode cX6_clears 72 = .ok (.imul, 1) := by decide +kernel
theorem dX6_clears_73 : decode cX6_clears 73 = .ok (.iload 7, 2) := by decide +kernel
theorem dX6_clears_75 : decode cX6_clears 75 = .ok (.iadd, 1) := by decide +kernel
theorem dX6_clears_76 : decode cX6_clears 76 = .ok (.iaload, 1) := by decide +kernel
theorem dX6_clears_77 : decode cX6_clears 77 = .ok (.iastore, 1) := by decide +kernel
theorem dX6_clears_78 : decode cX6_clears 78 = .ok (.iinc 5 1, 3) := by decide +kernel
theorem dX6_clears_81 : decode cX6_clears 81 = .ok (.iinc 7 1, 3) := by decide +kernel
theorem dX6_clears_84 : decode cX6_clears 84 = .ok (.goto (-51), 3) := by decide +kernel
theorem dX6_clears_87 : decode cX6_clears 87 = .ok (.aload_n 0, 1) := by decide +kernel
theorem dX6_clears_88 : decode cX6_clears 88 = .ok (.getfield 45, 3) := by decide +kernel
theorem dX6_clears_91 : decode cX6_clears 91 = .ok (.bipush 13, 2) := by decide +kernel
theorem dX6_clears_93 : decode cX6_clears 93 = .ok (.iload 4, 2) := by decide +kernel
theorem dX6_clears_95 : decode cX6_clears 95 = .ok (.imul, 1) := by decide +kernel
theorem dX6_clears_96 : decode cX6_clears 96 = .ok (.bipush 12, 2) := by decide +kernel
theorem dX6_clears_98 : decode cX6_clears 98 = .ok (.iadd, 1) := by decide +kernel
theorem dX6_clears_99 : decode cX6_clears 99 = .ok (.iload_n 3, 1) := by decide +kernel
theorem dX6_clears_100 : decode cX6_clears 100 = .ok (.ifCond .ge 7, 3) := by decide +kernel
theorem dX6_clears_103 : decode cX6_clears 103 = .ok (.iconst 0, 1) := by decide +kernel
theorem dX6_clears_104 : decode cX6_clears 104 = .ok (.goto 15, 3) := by decide +kernel
theorem dX6_clears_107 : decode cX6_clears 107 = .ok (.aload_n 0, 1) := by decide +kernel
theorem dX6_clears_108 : decode cX6_clears 108 = .ok (.getfield 26, 3) := by decide +kernel
theorem dX6_clears_111 : decode cX6_clears 111 = .ok (.bipush 6, 2) := by decide +kernel
theorem dX6_clears_113 : decode cX6_clears 113 = .ok (.iload_n 3, 1) := by decide +kernel
theorem dX6_clears_114 : decode cX6_clears 114 = .ok (.imul, 1) := by decide +kernel
theorem dX6_clears_115 : decode cX6_clears 115 = .ok (.iload 6, 2) := by decide +kernel
theorem dX6_clears_117 : decode cX6_clears 117 = .ok (.iadd, 1) := by decide +kernel
theorem dX6_clears_118 : decode cX6_clears 118 = .ok (.iaload, 1) := by decide +kernel
theorem dX6_clears_119 : decode cX6_clears 119 = .ok (.iastore, 1) := by decide +kernel
theorem dX6_clears_120 : decode cX6_clears 120 = .ok (.iinc 4 1, 3) := by decide +kernel
theorem dX6_clears_123 : decode cX6_clears 123 = .ok (.iinc 6 1, 3) := by decide +kernel
theorem dX6_clears_126 : decode cX6_clears 126 = .ok (.goto (-117), 3) := by decide +kernel
theorem dX6_clears_129 : decode cX6_clears 129 = .ok (.iload_n 1, 1) := by decide +kernel
theorem dX6_clears_130 : decode cX6_clears 130 = .ok (.invokestatic 81, 3) := by decide +kernel
theorem dX6_clears_133 : decode cX6_clears 133 = .ok (.istore 5, 2) := by decide +kernel
theorem dX6_clears_135 : decode cX6_clears 135 = .ok (.iconst 0, 1) := by decide +kernel
theorem dX6_clears_136 : decode cX6_clears 136 = .ok (.istore 6, 2) := by decide +kernel
theorem dX6_clears_138 : decode cX6_clears 138 = .ok (.iconst 0, 1) := by decide +kernel
theorem dX6_clears_139 : decode cX6_clears 139 = .ok (.istore 7, 2) := by decide +kernel
theorem dX6_clears_141 : decode cX6_clears 141 = .ok (.iload 7, 2) := by decide +kernel
theorem dX6_clears_143 : decode cX6_clears 143 = .ok (.iload 5, 2) := by decide +kernel
theorem dX6_clears_145 : decode cX6_clears 145 = .ok (.if_icmp .ge 146, 3) := by decide +kernel
theorem dX6_clears_148 : decode cX6_clears 148 = .ok (.iload 6, 2) := by decide +kernel
theorem dX6_clears_150 : decode cX6_clears 150 = .ok (.iload 4, 2) := by decide +kernel
theorem dX6_clears_152 : decode cX6_clears 152 = .ok (.if_icmp .ge 139, 3) := by decide +kernel
theorem dX6_clears_155 : decode cX6_clears 155 = .ok (.iload 6, 2) := by decide +kernel
theorem dX6_clears_157 : decode cX6_clears 157 = .ok (.istore 8, 2) := by decide +kernel
theorem dX6_clears_159 : decode cX6_clears 159 = .ok (.iload 8, 2) := by decide +kernel
theorem dX6_clears_161 : decode cX6_clears 161 = .ok (.iload 4, 2) := by decide +kernel
theorem dX6_clears_163 : decode cX6_clears 163 = .ok (.if_icmp .ge 25, 3) := by decide +kernel
theorem dX6_clears_166 : decode cX6_clears 166 = .ok (.aload_n 0, 1) := by decide +kernel
theorem dX6_clears_167 : decode cX6_clears 167 = .ok (.getfield 45, 3) := by decide +kernel
theorem dX6_clears_170 : decode cX6_clears 170 = .ok (.bipush 13, 2) := by decide +kernel
theorem dX6_clears_172 : decode cX6_clears 172 = .ok (.iload 8, 2) := by decide +kernel
theorem dX6_clears_174 : decode cX6_clears 174 = .ok (.imul, 1) := by decide +kernel
theorem dX6_clears_175 : decode cX6_clears 175 = .ok (.iload 7, 2) := by decide +kernel
theorem dX6_clears_177 : decode cX6_clears 177 = .ok (.iadd, 1) := by decide +kernel
theorem dX6_clears_178 : decode cX6_clears 178 = .ok (.iaload, 1) := by decide +kernel
theorem dX6_clears_179 : decode cX6_clears 179 = .ok (.ifCond .ne 9, 3) := by decide +kernel
theorem dX6_clears_182 : decode cX6_clears 182 = .ok (.iinc 8 1, 3) := by decide +kernel
theorem dX6_clears_185 : decode cX6_clears 185 = .ok (.goto (-26), 3) := by decide +kernel
theorem dX6_clears_188 : decode cX6_clears 188 = .ok (.iload 8, 2) := by decide +kernel
theorem dX6_clears_190 : decode cX6_clears 190 = .ok (.iload 4, 2) := by decide +kernel
theorem dX6_clears_192 : decode cX6_clears 192 = .ok (.if_icmp .ge 93, 3) := by decide +kernel
theorem dX6_clears_195 : decode cX6_clears 195 = .ok (.aload_n 0, 1) := by decide +kernel
theorem dX6_clears_196 : decode cX6_clears 196 = .ok (.iload 8, 2) := by decide +kernel
theorem dX6_clears_198 : decode cX6_clears 198 = .ok (.iload 6, 2) := by decide +kernel
theorem dX6_clears_200 : decode cX6_clears 200 = .ok (.invokevirtual 84, 3) := by decide +kernel
theorem dX6_clears_203 : decode cX6_clears 203 = .ok (.aload_n 0, 1) := by decide +kernel
theorem dX6_clears_204 : decode cX6_clears 204 = .ok (.aload_n 0, 1) := by decide +kernel
theorem dX6_clears_205 : decode cX6_clears 205 = .ok (.getfield 45, 3) := by decide +kernel
theorem dX6_clears_208 : decode cX6_clears 208 = .ok (.bipush 13, 2) := by decide +kernel
theorem dX6_clears_210 : decode cX6_clears 210 = .ok (.iload 6, 2) := by decide +kernel
theorem dX6_clears_212 : decode cX6_clears 212 = .ok (.imul, 1) := by decide +kernel
theorem dX6_clears_213 : decode cX6_clears 213 = .ok (.iload 7, 2) := by decide +kernel
theorem dX6_clears_215 : decode cX6_clears 215 = .ok (.iadd, 1) := by decide +kernel
theorem dX6_clears_216 : decode cX6_clears 216 = .ok (.iaload, 1) := by decide +kernel
theorem dX6_clears_217 : decode cX6_clears 217 = .ok (.invokevirtual 88, 3) := by decide +kernel
theorem dX6_clears_220 : decode cX6_clears 220 = .ok (.istore 9, 2) := by decide +kernel
theorem dX6_clears_222 : decode cX6_clears 222 = .ok (.iconst 0, 1) := by decide +kernel
theorem dX6_clears_223 : decode cX6_clears 223 = .ok (.istore 10, 2) := by decide +kernel
theorem dX6_clears_225 : decode cX6_clears 225 = .ok (.iload 10, 2) := by decide +kernel
theorem dX6_clears_227 : decode cX6_clears 227 = .ok (.bipush 13, 2) := by decide +kernel
theorem dX6_clears_229 : decode cX6_clears 229 = .ok (.if_icmp .ge 43, 3) := by decide +kernel
theorem dX6_clears_232 : decode cX6_clears 232 = .ok (.aload_n 0, 1) := by decide +kernel
theorem dX6_clears_233 : decode cX6_clears 233 = .ok (.getfield 45, 3) := by decide +kernel
theorem dX6_clears_236 : decode cX6_clears 236 = .ok (.bipush 13, 2) := by decide +kernel
theorem dX6_clears_238 : decode cX6_clears 238 = .ok (.iload 6, 2) := by decide +kernel
theorem dX6_clears_240 : decode cX6_clears 240 = .ok (.imul, 1) := by decide +kernel
theorem dX6_clears_241 : decode cX6_clears 241 = .ok (.iload 10, 2) := by decide +kernel
theorem dX6_clears_243 : decode cX6_clears 243 = .ok (.iadd, 1) := by decide +kernel
theorem dX6_clears_244 : decode cX6_clears 244 = .ok (.aload_n 0, 1) := by decide +kernel
theorem dX6_clears_245 : decode cX6_clears 245 = .ok (.getfield 45, 3) := by decide +kernel
theorem dX6_clears_248 : decode cX6_clears 248 = .ok (.bipush 13, 2) := by decide +kernel
theorem dX6_clears_250 : decode cX6_clears 250 = .ok (.iload 6, 2) := by decide +kernel
theorem dX6_clears_252 : decode cX6_clears 252 = .ok (.imul, 1) := by decide +kernel
theorem dX6_clears_253 : decode cX6_clears 253 = .ok (.iload 10, 2) := by decide +kernel
theorem dX6_clears_255 : decode cX6_clears 255 = .ok (.iadd, 1) := by decide +kernel
theorem dX6_clears_256 : decode cX6_clears 256 = .ok (.iaload, 1) := by decide +kernel
theorem dX6_clears_257 : decode cX6_clears 257 = .ok (.iload 9, 2) := by decide +kernel
theorem dX6_clears_259 : decode cX6_clears 259 = .ok (.imul, 1) := by decide +kernel
theorem dX6_clears_260 : decode cX6_clears 260 = .ok (.aload_n 0, 1) := by decide +kernel
theorem dX6_clears_261 : decode cX6_clears 261 = .ok (.getfield 7, 3) := by decide +kernel
theorem dX6_clears_264 : decode cX6_clears 264 = .ok (.irem, 1) := by decide +kernel
theorem dX6_clears_265 : decode cX6_clears 265 = .ok (.iastore, 1) := by decide +kernel
theorem dX6_clears_266 : decode cX6_clears 266 = .ok (.iinc 10 1, 3) := by decide +kernel
theorem dX6_clears_269 : decode cX6_clears 269 = .ok (.goto (-44), 3) := by decide +kernel
theorem dX6_clears_272 : decode cX6_clears 272 = .ok (.aload_n 0, 1) := by decide +kernel
theorem dX6_clears_273 : decode cX6_clears 273 = .ok (.iload 6, 2) := by decide +kernel
theorem dX6_clears_275 : decode cX6_clears 275 = .ok (.iload 7, 2) := by decide +kernel
theorem dX6_clears_277 : decode cX6_clears 277 = .ok (.iload 4, 2) := by decide +kernel
theorem dX6_clears_279 : decode cX6_clears 279 = .ok (.invokevirtual 91, 3) := by decide +kernel
theorem dX6_clears_282 : decode cX6_clears 282 = .ok (.iinc 6 1, 3) := by decide +kernel
theorem dX6_clears_285 : decode cX6_clears 285 = .ok (.iinc 7 1, 3) := by decide +kernel
theorem dX6_clears_288 : decode cX6_clears 288 = .ok (.goto (-147), 3) := by decide +kernel
theorem dX6_clears_291 : decode cX6_clears 291 = .ok (.iload 6, 2) := by decide +kernel
theorem dX6_clears_293 : decode cX6_clears 293 = .ok (.istore 7, 2) := by decide +kernel
theorem dX6_clears_295 : decode cX6_clears 295 = .ok (.iload 7, 2) := by decide +kernel
theorem dX6_clears_297 : decode cX6_clears 297 = .ok (.iload 4, 2) := by decide +kernel
theorem dX6_clears_299 : decode cX6_clears 299 = .ok (.if_icmp .ge 27, 3) := by decide +kernel
theorem dX6_clears_302 : decode cX6_clears 302 = .ok (.aload_n 0, 1) := by decide +kernel
theorem dX6_clears_303 : decode cX6_clears 303 = .ok (.getfield 45, 3) := by decide +kernel
theorem dX6_clears_306 : decode cX6_clears 306 = .ok (.bipush 13, 2) := by decide +kernel
theorem dX6_clears_308 : decode cX6_clears 308 = .ok (.iload 7, 2) := by decide +kernel
theorem dX6_clears_310 : decode cX6_clears 310 = .ok (.imul, 1) := by decide +kernel
theorem dX6_clears_311 : decode cX6_clears 311 = .ok (.bipush 12, 2) := by decide +kernel
theorem dX6_clears_313 : decode cX6_clears 313 = .ok (.iadd, 1) := by decide +kernel
theorem dX6_clears_314 : decode cX6_clears 314 = .ok (.iaload, 1) := by decide +kernel
theorem dX6_clears_315 : decode cX6_clears 315 = .ok (.ifCond .eq 5, 3) := by decide +kernel
theorem dX6_clears_318 : decode cX6_clears 318 = .ok (.iconst (-1), 1) := by decide +kernel
theorem dX6_clears_319 : decode cX6_clears 319 = .ok (.ireturn, 1) := by decide +kernel
theorem dX6_clears_320 : decode cX6_clears 320 = .ok (.iinc 7 1, 3) := by decide +kernel
theorem dX6_clears_323 : decode cX6_clears 323 = .ok (.goto (-28), 3) := by decide +kernel
theorem dX6_clears_326 : decode cX6_clears 326 = .ok (.iload 6, 2) := by decide +kernel
theorem dX6_clears_328 : decode cX6_clears 328 = .ok (.ireturn, 1) := by decide +kernel
theorem dX6_swaps_0 : decode cX6_swaps 0 = .ok (.iconst 0, 1) := by decide +kernel
theorem dX6_swaps_1 : decode cX6_swaps 1 = .ok (.istore_n 3, 1) := by decide +kernel
theorem dX6_swaps_2 : decode cX6_swaps 2 = .ok (.iload_n 3, 1) := by decide +kernel
theorem dX6_swaps_3 : decode cX6_swaps 3 = .ok (.bipush 13, 2) := by decide +kernel
theorem dX6_swaps_5 : decode cX6_swaps 5 = .ok (.if_icmp .ge 57, 3) := by decide +kernel
theorem dX6_swaps_8 : decode cX6_swaps 8 = .ok (.aload_n 0, 1) := by decide +kernel
theorem dX6_swaps_9 : decode cX6_swaps 9 = .ok (.getfield 45, 3) := by decide +kernel
theorem dX6_swaps_12 : decode cX6_swaps 12 = .ok (.bipush 13, 2) := by decide +kernel
theorem dX6_swaps_14 : decode cX6_swaps 14 = .ok (.iload_n 1, 1) := by decide +kernel
theorem dX6_swaps_15 : decode cX6_swaps 15 = .ok (.imul, 1) := by decide +kernel
theorem dX6_swaps_16 : decode cX6_swaps 16 = .ok (.iload_n 3, 1) := by decide +kernel
theorem dX6_swaps_17 : decode cX6_swaps 17 = .ok (.iadd, 1) := by decide +kernel
theorem dX6_swaps_18 : decode cX6_swaps 18 = .ok (.iaload, 1) := by decide +kernel
theorem dX6_swaps_19 : decode cX6_swaps 19 = .ok (.istore 4, 2) := by decide +kernel
theorem dX6_swaps_21 : decode cX6_swaps 21 = .ok (.aload_n 0, 1) := by decide +kernel
theorem dX6_swaps_22 : decode cX6_swaps 22 = .ok (.getfield 45, 3) := by decide +kernel
theorem dX6_swaps_25 : decode cX6_swaps 25 = .ok (.bipush 13, 2) := by decide +kernel
theorem dX6_swaps_27 : decode cX6_swaps 27 = .ok (.iload_n 1, 1) := by decide +kernel
theorem dX6_swaps_28 : decode cX6_swaps 28 = .ok (.imul, 1) := by decide +kernel
theorem dX6_swaps_29 : decode cX6_swaps 29 = .ok (.iload_n 3, 1) := by decide +kernel
theorem dX6_swaps_30 : decode cX6_swaps 30 = .ok (.iadd, 1) := by decide +kernel
theorem dX6_swaps_31 : decode cX6_swaps 31 = .ok (.aload_n 0, 1) := by decide +kernel
theorem dX6_swaps_32 : decode cX6_swaps 32 = .ok (.getfield 45, 3) := by decide +kernel
theorem dX6_swaps_35 : decode cX6_swaps 35 = .ok (.bipush 13, 2) := by decide +kernel
theorem dX6_swaps_37 : decode cX6_swaps 37 = .ok (.iload_n 2, 1) := by decide +kernel
theorem dX6_swaps_38 : decode cX6_swaps 38 = .ok (.imul, 1) := by decide +kernel
theorem dX6_swaps_39 : decode cX6_swaps 39 = .ok (.iload_n 3, 1) := by decide +kernel
theorem dX6_swaps_40 : decode cX6_swaps 40 = .ok (.iadd, 1) := by decide +kernel
theorem dX6_swaps_41 : decode cX6_swaps 41 = .ok (.iaload, 1) := by decide +kernel
theorem dX6_swaps_42 : decode cX6_swaps 42 = .ok (.iastore, 1) := by decide +kernel
theorem dX6_swaps_43 : decode cX6_swaps 43 = .ok (.aload_n 0, 1) := by decide +kernel
theorem dX6_swaps_44 : decode cX6_swaps 44 = .ok (.getfield 45, 3) := by decide +kernel
theorem dX6_swaps_47 : decode cX6_swaps 47 = .ok (.bipush 13, 2) := by decide +kernel
theorem dX6_swaps_49 : decode cX6_swaps 49 = .ok (.iload_n 2, 1) := by decide +kernel
theorem dX6_swaps_50 : decode cX6_swaps 50 = .ok (.imul, 1) := by decide +kernel
theorem dX6_swaps_51 : decode cX6_swaps 51 = .ok (.iload_n 3, 1) := by decide +kernel
theorem dX6_swaps_52 : decode cX6_swaps 52 = .ok (.iadd, 1) := by decide +kernel
theorem dX6_swaps_53 : decode cX6_swaps 53 = .ok (.iload 4, 2) := by decide +kernel
theorem dX6_swaps_55 : decode cX6_swaps 55 = .ok (.iastore, 1) := by decide +kernel
theorem dX6_swaps_56 : decode cX6_swaps 56 = .ok (.iinc 3 1, 3) := by decide +kernel
theorem dX6_swaps_59 : decode cX6_swaps 59 = .ok (.goto (-57), 3) := by decide +kernel
theorem dX6_swaps_62 : decode cX6_swaps 62 = .ok (.return_, 1) := by decide +kernel
theorem dX6_takes_0 : decode cX6_takes 0 = .ok (.iconst 0, 1) := by decide +kernel
theorem dX6_takes_1 : decode cX6_takes 1 = .ok (.istore 4, 2) := by decide +kernel
theorem dX6_takes_3 : decode cX6_takes 3 = .ok (.iload 4, 2) := by decide +kernel
theorem dX6_takes_5 : decode cX6_takes 5 = .ok (.iload_n 3, 1) := by decide +kernel
theorem dX6_takes_6 : decode cX6_takes 6 = .ok (.if_icmp .ge 95, 3) := by decide +kernel
theorem dX6_takes_9 : decode cX6_takes 9 = .ok (.iload 4, 2) := by decide +kernel
theorem dX6_takes_11 : decode cX6_takes 11 = .ok (.iload_n 1, 1) := by decide +kernel
theorem dX6_takes_12 : decode cX6_takes 12 = .ok (.if_icmp .ne 7, 3) := by decide +kernel
theorem dX6_takes_15 : decode cX6_takes 15 = .ok (.iconst 0, 1) := by decide +kernel
theorem dX6_takes_16 : decode cX6_takes 16 = .ok (.goto 15, 3) := by decide +kernel
theorem dX6_takes_19 : decode cX6_takes 19 = .ok (.aload_n 0, 1) := by decide +kernel
theorem dX6_takes_20 : decode cX6_takes 20 = .ok (.getfield 45, 3) := by decide +kernel
theorem dX6_takes_23 : decode cX6_takes 23 = .ok (.bipush 13, 2) := by decide +kernel
theorem dX6_takes_25 : decode cX6_takes 25 = .ok (.iload 4, 2) := by decide +kernel
theorem dX6_takes_27 : decode cX6_takes 27 = .ok (.imul, 1) := by decide +kernel
theorem dX6_takes_28 : decode cX6_takes 28 = .ok (.iload_n 2, 1) := by decide +kernel
theorem dX6_takes_29 : decode cX6_takes 29 = .ok (.iadd, 1) := by decide +kernel
theorem dX6_takes_30 : decode cX6_takes 30 = .ok (.iaload, 1) := by decide +kernel
theorem dX6_takes_31 : decode cX6_takes 31 = .ok (.istore 5, 2) := by decide +kernel
theorem dX6_takes_33 : decode cX6_takes 33 = .ok (.iconst 0, 1) := by decide +kernel
theorem dX6_takes_34 : decode cX6_takes 34 = .ok (.istore 6, 2) := by decide +kernel
theorem dX6_takes_36 : decode cX6_takes 36 = .ok (.iload 6, 2) := by decide +kernel
theorem dX6_takes_38 : decode cX6_takes 38 = .ok (.bipush 13, 2) := by decide +kernel
theorem dX6_takes_40 : decode cX6_takes 40 = .ok (.if_icmp .ge 55, 3) := by decide +kernel
theorem dX6_takes_43 : decode cX6_takes 43 = .ok (.aload_n 0, 1) := by decide +kernel
theorem dX6_takes_44 : decode cX6_takes 44 = .ok (.getfield 45, 3) := by decide +kernel
theorem dX6_takes_47 : decode cX6_takes 47 = .ok (.bipush 13, 2) := by decide +kernel
theorem dX6_takes_49 : decode cX6_takes 49 = .ok (.iload 4, 2) := by decide +kernel
theorem dX6_takes_51 : decode cX6_takes 51 = .ok (.imul, 1) := by decide +kernel
theorem dX6_takes_52 : decode cX6_takes 52 = .ok (.iload 6, 2) := by decide +kernel
theorem dX6_takes_54 : decode cX6_takes 54 = .ok (.iadd, 1) := by decide +kernel
theorem dX6_takes_55 : decode cX6_takes 55 = .ok (.aload_n 0, 1) := by decide +kernel
theorem dX6_takes_56 : decode cX6_takes 56 = .ok (.aload_n 0, 1) := by decide +kernel
theorem dX6_takes_57 : decode cX6_takes 57 = .ok (.getfield 45, 3) := by decide +kernel
theorem dX6_takes_60 : decode cX6_takes 60 = .ok (.bipush 13, 2) := by decide +kernel
theorem dX6_takes_62 : decode cX6_takes 62 = .ok (.iload 4, 2) := by decide +kernel
theorem dX6_takes_64 : decode cX6_takes 64 = .ok (.imul, 1) := by decide +kernel
theorem dX6_takes_65 : decode cX6_takes 65 = .ok (.iload 6, 2) := by decide +kernel
theorem dX6_takes_67 : decode cX6_takes 67 = .ok (.iadd, 1) := by decide +kernel
theorem dX6_takes_68 : decode cX6_takes 68 = .ok (.iaload, 1) := by decide +kernel
theorem dX6_takes_69 : decode cX6_takes 69 = .ok (.iload 5, 2) := by decide +kernel
theorem dX6_takes_71 : decode cX6_takes 71 = .ok (.aload_n 0, 1) := by decide +kernel
theorem dX6_takes_72 : decode cX6_takes 72 = .ok (.getfield 45, 3) := by decide +kernel
theorem dX6_takes_75 : decode cX6_takes 75 = .ok (.bipush 13, 2) := by decide +kernel
theorem dX6_takes_77 : decode cX6_takes 77 = .ok (.iload_n 1, 1) := by decide +kernel
theorem dX6_takes_78 : decode cX6_takes 78 = .ok (.imul, 1) := by decide +kernel
theorem dX6_takes_79 : decode cX6_takes 79 = .ok (.iload 6, 2) := by decide +kernel
theorem dX6_takes_81 : decode cX6_takes 81 = .ok (.iadd, 1) := by decide +kernel
theorem dX6_takes_82 : decode cX6_takes 82 = .ok (.iaload, 1) := by decide +kernel
theorem dX6_takes_83 : decode cX6_takes 83 = .ok (.imul, 1) := by decide +kernel
theorem dX6_takes_84 : decode cX6_takes 84 = .ok (.isub, 1) := by decide +kernel
theorem dX6_takes_85 : decode cX6_takes 85 = .ok (.invokevirtual 77, 3) := by decide +kernel
theorem dX6_takes_88 : decode cX6_takes 88 = .ok (.iastore, 1) := by decide +kernel
theorem dX6_takes_89 : decode cX6_takes 89 = .ok (.iinc 6 1, 3) := by decide +kernel
theorem dX6_takes_92 : decode cX6_takes 92 = .ok (.goto (-56), 3) := by decide +kernel
theorem dX6_takes_95 : decode cX6_takes 95 = .ok (.iinc 4 1, 3) := by decide +kernel
theorem dX6_takes_98 : decode cX6_takes 98 = .ok (.goto (-95), 3) := by decide +kernel
theorem dX6_takes_101 : decode cX6_takes 101 = .ok (.return_, 1) := by decide +kernel
theorem dX6_bits_0 : decode cX6_bits 0 = .ok (.iconst 0, 1) := by decide +kernel
theorem dX6_bits_1 : decode cX6_bits 1 = .ok (.istore_n 1, 1) := by decide +kernel
theorem dX6_bits_2 : decode cX6_bits 2 = .ok (.iconst 0, 1) := by decide +kernel
theorem dX6_bits_3 : decode cX6_bits 3 = .ok (.istore_n 2, 1) := by decide +kernel
theorem dX6_bits_4 : decode cX6_bits 4 = .ok (.iload_n 2, 1) := by decide +kernel
theorem dX6_bits_5 : decode cX6_bits 5 = .ok (.bipush 12, 2) := by decide +kernel
theorem dX6_bits_7 : decode cX6_bits 7 = .ok (.if_icmp .ge 17, 3) := by decide +kernel
theorem dX6_bits_10 : decode cX6_bits 10 = .ok (.iload_n 1, 1) := by decide +kernel
theorem dX6_bits_11 : decode cX6_bits 11 = .ok (.iload_n 0, 1) := by decide +kernel
theorem dX6_bits_12 : decode cX6_bits 12 = .ok (.iload_n 2, 1) := by decide +kernel
theorem dX6_bits_13 : decode cX6_bits 13 = .ok (.ishr, 1) := by decide +kernel
theorem dX6_bits_14 : decode cX6_bits 14 = .ok (.iconst 1, 1) := by decide +kernel
theorem dX6_bits_15 : decode cX6_bits 15 = .ok (.iand, 1) := by decide +kernel
theorem dX6_bits_16 : decode cX6_bits 16 = .ok (.iadd, 1) := by decide +kernel
theorem dX6_bits_17 : decode cX6_bits 17 = .ok (.istore_n 1, 1) := by decide +kernel
theorem dX6_bits_18 : decode cX6_bits 18 = .ok (.iinc 2 1, 3) := by decide +kernel
theorem dX6_bits_21 : decode cX6_bits 21 = .ok (.goto (-17), 3) := by decide +kernel
theorem dX6_bits_24 : decode cX6_bits 24 = .ok (.iload_n 1, 1) := by decide +kernel
theorem dX6_bits_25 : decode cX6_bits 25 = .ok (.ireturn, 1) := by decide +kernel
theorem dX6_rankOf_0 : decode cX6_rankOf 0 = .ok (.aload_n 0, 1) := by decide +kernel
theorem dX6_rankOf_1 : decode cX6_rankOf 1 = .ok (.iload_n 1, 1) := by decide +kernel
theorem dX6_rankOf_2 : decode cX6_rankOf 2 = .ok (.iconst 0, 1) := by decide +kernel
theorem dX6_rankOf_3 : decode cX6_rankOf 3 = .ok (.iconst (-1), 1) := by decide +kernel
theorem dX6_rankOf_4 : decode cX6_rankOf 4 = .ok (.invokevirtual 95, 3) := by decide +kernel
theorem dX6_rankOf_7 : decode cX6_rankOf 7 = .ok (.ireturn, 1) := by decide +kernel
theorem dX6_spark_0 : decode cX6_spark 0 = .ok (.aload_n 0, 1) := by decide +kernel
theorem dX6_spark_1 : decode cX6_spark 1 = .ok (.getfield 16, 3) := by decide +kernel
theorem dX6_spark_4 : decode cX6_spark 4 = .ok (.iconst 1, 1) := by decide +kernel
theorem dX6_spark_5 : decode cX6_spark 5 = .ok (.iadd, 1) := by decide +kernel
theorem dX6_spark_6 : decode cX6_spark 6 = .ok (.istore_n 1, 1) := by decide +kernel
theorem dX6_spark_7 : decode cX6_spark 7 = .ok (.iconst 1, 1) := by decide +kernel
theorem dX6_spark_8 : decode cX6_spark 8 = .ok (.istore_n 2, 1) := by decide +kernel
theorem dX6_spark_9 : decode cX6_spark 9 = .ok (.iload_n 2, 1) := by decide +kernel
theorem dX6_spark_10 : decode cX6_spark 10 = .ok (.iconst 1, 1) := by decide +kernel
theorem dX6_spark_11 : decode cX6_spark 11 = .ok (.aload_n 0, 1) := by decide +kernel
theorem dX6_spark_12 : decode cX6_spark 12 = .ok (.getfield 16, 3) := by decide +kernel
theorem dX6_spark_15 : decode cX6_spark 15 = .ok (.ishl, 1) := by decide +kernel
theorem dX6_spark_16 : decode cX6_spark 16 = .ok (.if_icmp .ge 38, 3) := by decide +kernel
theorem dX6_spark_19 : decode cX6_spark 19 = .ok (.iload_n 2, 1) := by decide +kernel
theorem dX6_spark_20 : decode cX6_spark 20 = .ok (.invokestatic 81, 3) := by decide +kernel
theorem dX6_spark_23 : decode cX6_spark 23 = .ok (.iload_n 1, 1) := by decide +kernel
theorem dX6_spark_24 : decode cX6_spark 24 = .ok (.if_icmp .ge 22, 3) := by decide +kernel
theorem dX6_spark_27 : decode cX6_spark 27 = .ok (.aload_n 0, 1) := by decide +kernel
theorem dX6_spark_28 : decode cX6_spark 28 = .ok (.iload_n 2, 1) := by decide +kernel
theorem dX6_spark_29 : decode cX6_spark 29 = .ok (.invokevirtual 99, 3) := by decide +kernel
theorem dX6_spark_32 : decode cX6_spark 32 = .ok (.iload_n 2, 1) := by decide +kernel
theorem dX6_spark_33 : decode cX6_spark 33 = .ok (.invokestatic 81, 3) := by decide +kernel
theorem dX6_spark_36 : decode cX6_spark 36 = .ok (.if_icmp .ge 10, 3) := by decide +kernel
theorem dX6_spark_39 : decode cX6_spark 39 = .ok (.iload_n 2, 1) := by decide +kernel
theorem dX6_spark_40 : decode cX6_spark 40 = .ok (.invokestatic 81, 3) := by decide +kernel
theorem dX6_spark_43 : decode cX6_spark 43 = .ok (.goto 4, 3) := by decide +kernel
theorem dX6_spark_46 : decode cX6_spark 46 = .ok (.iload_n 1, 1) := by decide +kernel
theorem dX6_spark_47 : decode cX6_spark 47 = .ok (.istore_n 1, 1) := by decide +kernel
theorem dX6_spark_48 : decode cX6_spark 48 = .ok (.iinc 2 1, 3) := by decide +kernel
theorem dX6_spark_51 : decode cX6_spark 51 = .ok (.goto (-42), 3) := by decide +kernel
theorem dX6_spark_54 : decode cX6_spark 54 = .ok (.iload_n 1, 1) := by decide +kernel
theorem dX6_spark_55 : decode cX6_spark 55 = .ok (.ireturn, 1) := by decide +kernel
theorem dX6_alike_0 : decode cX6_alike 0 = .ok (.iconst 0, 1) := by decide +kernel
theorem dX6_alike_1 : decode cX6_alike 1 = .ok (.istore_n 1, 1) := by decide +kernel
theorem dX6_alike_2 : decode cX6_alike 2 = .ok (.iconst 0, 1) := by decide +kernel
theorem dX6_alike_3 : decode cX6_alike 3 = .ok (.istore_n 2, 1) := by decide +kernel
theorem dX6_alike_4 : decode cX6_alike 4 = .ok (.iload_n 2, 1) := by decide +kernel
theorem dX6_alike_5 : decode cX6_alike 5 = .ok (.aload_n 0, 1) := by decide +kernel
theorem dX6_alike_6 : decode cX6_alike 6 = .ok (.getfield 16, 3) := by decide +kernel
theorem dX6_alike_9 : decode cX6_alike 9 = .ok (.if_icmp .ge 124, 3) := by decide +kernel
theorem dX6_alike_12 : decode cX6_alike 12 = .ok (.iload_n 2, 1) := by decide +kernel
theorem dX6_alike_13 : decode cX6_alike 13 = .ok (.iconst 1, 1) := by decide +kernel
theorem dX6_alike_14 : decode cX6_alike 14 = .ok (.iadd, 1) := by decide +kernel
theorem dX6_alike_15 : decode cX6_alike 15 = .ok (.istore_n 3, 1) := by decide +kernel
theorem dX6_alike_16 : decode cX6_alike 16 = .ok (.iload_n 3, 1) := by decide +kernel
theorem dX6_alike_17 : decode cX6_alike 17 = .ok (.aload_n 0, 1) := by decide +kernel
theorem dX6_alike_18 : decode cX6_alike 18 = .ok (.getfield 16, 3) := by decide +kernel
theorem dX6_alike_21 : decode cX6_alike 21 = .ok (.if_icmp .ge 106, 3) := by decide +kernel
theorem dX6_alike_24 : decode cX6_alike 24 = .ok (.iconst 1, 1) := by decide +kernel
theorem dX6_alike_25 : decode cX6_alike 25 = .ok (.istore 4, 2) := by decide +kernel
theorem dX6_alike_27 : decode cX6_alike 27 = .ok (.iload 4, 2) := by decide +kernel
theorem dX6_alike_29 : decode cX6_alike 29 = .ok (.aload_n 0, 1) := by decide +kernel
theorem dX6_alike_30 : decode cX6_alike 30 = .ok (.getfield 7, 3) := by decide +kernel
theorem dX6_alike_33 : decode cX6_alike 33 = .ok (.if_icmp .ge 88, 3) := by decide +kernel
theorem dX6_alike_36 : decode cX6_alike 36 = .ok (.iconst 0, 1) := by decide +kernel
theorem dX6_alike_37 : decode cX6_alike 37 = .ok (.istore 5, 2) := by decide +kernel
theorem dX6_alike_39 : decode cX6_alike 39 = .ok (.iconst 0, 1) := by decide +kernel
theorem dX6_alike_40 : decode cX6_alike 40 = .ok (.istore 6, 2) := by decide +kernel
theorem dX6_alike_42 : decode cX6_alike 42 = .ok (.iload 6, 2) := by decide +kernel
theorem dX6_alike_44 : decode cX6_alike 44 = .ok (.aload_n 0, 1) := by decide +kernel
theorem dX6_alike_45 : decode cX6_alike 45 = .ok (.getfield 13, 3) := by decide +kernel
theorem dX6_alike_48 : decode cX6_alike 48 = .ok (.if_icmp .ge 54, 3) := by decide +kernel
theorem dX6_alike_51 : decode cX6_alike 51 = .ok (.iload 5, 2) := by decide +kernel
theorem dX6_alike_53 : decode cX6_alike 53 = .ok (.aload_n 0, 1) := by decide +kernel
theorem dX6_alike_54 : decode cX6_alike 54 = .ok (.getfield 19, 3) := by decide +kernel
theorem dX6_alike_57 : decode cX6_alike 57 = .ok (.bipush 12, 2) := by decide +kernel
theorem dX6_alike_59 : decode cX6_alike 59 = .ok (.iload 6, 2) := by decide +kernel
theorem dX6_alike_61 : decode cX6_alike 61 = .ok (.imul, 1) := by decide +kernel
theorem dX6_alike_62 : decode cX6_alike 62 = .ok (.iload_n 2, 1) := by decide +kernel
theorem dX6_alike_63 : decode cX6_alike 63 = .ok (.iadd, 1) := by decide +kernel
theorem dX6_alike_64 : decode cX6_alike 64 = .ok (.iaload, 1) := by decide +kernel
theorem dX6_alike_65 : decode cX6_alike 65 = .ok (.iload 4, 2) := by decide +kernel
theorem dX6_alike_67 : decode cX6_alike 67 = .ok (.imul, 1) := by decide +kernel
theorem dX6_alike_68 : decode cX6_alike 68 = .ok (.aload_n 0, 1) := by decide +kernel
theorem dX6_alike_69 : decode cX6_alike 69 = .ok (.getfield 7, 3) := by decide +kernel
theorem dX6_alike_72 : decode cX6_alike 72 = .ok (.irem, 1) := by decide +kernel
theorem dX6_alike_73 : decode cX6_alike 73 = .ok (.aload_n 0, 1) := by decide +kernel
theorem dX6_alike_74 : decode cX6_alike 74 = .ok (.getfield 19, 3) := by decide +kernel
theorem dX6_alike_77 : decode cX6_alike 77 = .ok (.bipush 12, 2) := by decide +kernel
theorem dX6_alike_79 : decode cX6_alike 79 = .ok (.iload 6, 2) := by decide +kernel
theorem dX6_alike_81 : decode cX6_alike 81 = .ok (.imul, 1) := by decide +kernel
theorem dX6_alike_82 : decode cX6_alike 82 = .ok (.iload_n 3, 1) := by decide +kernel
theorem dX6_alike_83 : decode cX6_alike 83 = .ok (.iadd, 1) := by decide +kernel
theorem dX6_alike_84 : decode cX6_alike 84 = .ok (.iaload, 1) := by decide +kernel
theorem dX6_alike_85 : decode cX6_alike 85 = .ok (.if_icmp .ne 7, 3) := by decide +kernel
theorem dX6_alike_88 : decode cX6_alike 88 = .ok (.iconst 1, 1) := by decide +kernel
theorem dX6_alike_89 : decode cX6_alike 89 = .ok (.goto 4, 3) := by decide +kernel
theorem dX6_alike_92 : decode cX6_alike 92 = .ok (.iconst 0, 1) := by decide +kernel
theorem dX6_alike_93 : decode cX6_alike 93 = .ok (.iadd, 1) := by decide +kernel
theorem dX6_alike_94 : decode cX6_alike 94 = .ok (.istore 5, 2) := by decide +kernel
theorem dX6_alike_96 : decode cX6_alike 96 = .ok (.iinc 6 1, 3) := by decide +kernel
theorem dX6_alike_99 : decode cX6_alike 99 = .ok (.goto (-57), 3) := by decide +kernel
theorem dX6_alike_102 : decode cX6_alike 102 = .ok (.iload 5, 2) := by decide +kernel
theorem dX6_alike_104 : decode cX6_alike 104 = .ok (.iload_n 1, 1) := by decide +kernel
theorem dX6_alike_105 : decode cX6_alike 105 = .ok (.if_icmp .le 8, 3) := by decide +kernel
theorem dX6_alike_108 : decode cX6_alike 108 = .ok (.iload 5, 2) := by decide +kernel
theorem dX6_alike_110 : decode cX6_alike 110 = .ok (.goto 4, 3) := by decide +kernel
theorem dX6_alike_113 : decode cX6_alike 113 = .ok (.iload_n 1, 1) := by decide +kernel
theorem dX6_alike_114 : decode cX6_alike 114 = .ok (.istore_n 1, 1) := by decide +kernel
theorem dX6_alike_115 : decode cX6_alike 115 = .ok (.iinc 4 1, 3) := by decide +kernel
theorem dX6_alike_118 : decode cX6_alike 118 = .ok (.goto (-91), 3) := by decide +kernel
theorem dX6_alike_121 : decode cX6_alike 121 = .ok (.iinc 3 1, 3) := by decide +kernel
theorem dX6_alike_124 : decode cX6_alike 124 = .ok (.goto (-108), 3) := by decide +kernel
theorem dX6_alike_127 : decode cX6_alike 127 = .ok (.iinc 2 1, 3) := by decide +kernel
theorem dX6_alike_130 : decode cX6_alike 130 = .ok (.goto (-126), 3) := by decide +kernel
theorem dX6_alike_133 : decode cX6_alike 133 = .ok (.iload_n 1, 1) := by decide +kernel
theorem dX6_alike_134 : decode cX6_alike 134 = .ok (.ireturn, 1) := by decide +kernel
theorem dX6_judge_0 : decode cX6_judge 0 = .ok (.iload_n 1, 1) := by decide +kernel
theorem dX6_judge_1 : decode cX6_judge 1 = .ok (.tableswitch 63 0 3 #[31, 44, 49, 58], 31) := by decide +kernel
theorem dX6_judge_32 : decode cX6_judge 32 = .ok (.aload_n 0, 1) := by decide +kernel
theorem dX6_judge_33 : decode cX6_judge 33 = .ok (.iconst 1, 1) := by decide +kernel
theorem dX6_judge_34 : decode cX6_judge 34 = .ok (.aload_n 0, 1) := by decide +kernel
theorem dX6_judge_35 : decode cX6_judge 35 = .ok (.getfield 16, 3) := by decide +kernel
theorem dX6_judge_38 : decode cX6_judge 38 = .ok (.ishl, 1) := by decide +kernel
theorem dX6_judge_39 : decode cX6_judge 39 = .ok (.iconst 1, 1) := by decide +kernel
theorem dX6_judge_40 : decode cX6_judge 40 = .ok (.isub, 1) := by decide +kernel
theorem dX6_judge_41 : decode cX6_judge 41 = .ok (.invokevirtual 99, 3) := by decide +kernel
theorem dX6_judge_44 : decode cX6_judge 44 = .ok (.ireturn, 1) := by decide +kernel
theorem dX6_judge_45 : decode cX6_judge 45 = .ok (.aload_n 0, 1) := by decide +kernel
theorem dX6_judge_46 : decode cX6_judge 46 = .ok (.invokevirtual 102, 3) := by decide +kernel
theorem dX6_judge_49 : decode cX6_judge 49 = .ok (.ireturn, 1) := by decide +kernel
theorem dX6_judge_50 : decode cX6_judge 50 = .ok (.aload_n 0, 1) := by decide +kernel
theorem dX6_judge_51 : decode cX6_judge 51 = .ok (.invokevirtual 102, 3) := by decide +kernel
theorem dX6_judge_54 : decode cX6_judge 54 = .ok (.iconst 1, 1) := by decide +kernel
theorem dX6_judge_55 : decode cX6_judge 55 = .ok (.isub, 1) := by decide +kernel
theorem dX6_judge_56 : decode cX6_judge 56 = .ok (.iconst 2, 1) := by decide +kernel
theorem dX6_judge_57 : decode cX6_judge 57 = .ok (.idiv, 1) := by decide +kernel
theorem dX6_judge_58 : decode cX6_judge 58 = .ok (.ireturn, 1) := by decide +kernel
theorem dX6_judge_59 : decode cX6_judge 59 = .ok (.aload_n 0, 1) := by decide +kernel
theorem dX6_judge_60 : decode cX6_judge 60 = .ok (.invokevirtual 106, 3) := by decide +kernel
theorem dX6_judge_63 : decode cX6_judge 63 = .ok (.ireturn, 1) := by decide +kernel
theorem dX6_judge_64 : decode cX6_judge 64 = .ok (.iconst (-1), 1) := by decide +kernel
theorem dX6_judge_65 : decode cX6_judge 65 = .ok (.ireturn, 1) := by decide +kernel
theorem dX6_isSix_0 : decode cX6_isSix 0 = .ok (.iload_n 0, 1) := by decide +kernel
theorem dX6_isSix_1 : decode cX6_isSix 1 = .ok (.i2l, 1) := by decide +kernel
theorem dX6_isSix_2 : decode cX6_isSix 2 = .ok (.lconst 0, 1) := by decide +kernel
theorem dX6_isSix_3 : decode cX6_isSix 3 = .ok (.ldc2_w 109, 3) := by decide +kernel
theorem dX6_isSix_6 : decode cX6_isSix 6 = .ok (.invokestatic 61, 3) := by decide +kernel
theorem dX6_isSix_9 : decode cX6_isSix 9 = .ok (.ireturn, 1) := by decide +kernel
theorem dX6_weight_0 : decode cX6_weight 0 = .ok (.iconst 0, 1) := by decide +kernel
theorem dX6_weight_1 : decode cX6_weight 1 = .ok (.istore 4, 2) := by decide +kernel
theorem dX6_weight_3 : decode cX6_weight 3 = .ok (.iconst 0, 1) := by decide +kernel
theorem dX6_weight_4 : decode cX6_weight 4 = .ok (.istore 5, 2) := by decide +kernel
theorem dX6_weight_6 : decode cX6_weight 6 = .ok (.iload 5, 2) := by decide +kernel
theorem dX6_weight_8 : decode cX6_weight 8 = .ok (.iload_n 3, 1) := by decide +kernel
theorem dX6_weight_9 : decode cX6_weight 9 = .ok (.if_icmp .ge 28, 3) := by decide +kernel
theorem dX6_weight_12 : decode cX6_weight 12 = .ok (.iload 4, 2) := by decide +kernel
theorem dX6_weight_14 : decode cX6_weight 14 = .ok (.aload_n 1, 1) := by decide +kernel
theorem dX6_weight_15 : decode cX6_weight 15 = .ok (.iload_n 2, 1) := by decide +kernel
theorem dX6_weight_16 : decode cX6_weight 16 = .ok (.iload 5, 2) := by decide +kernel
theorem dX6_weight_18 : decode cX6_weight 18 = .ok (.iadd, 1) := by decide +kernel
theorem dX6_weight_19 : decode cX6_weight 19 = .ok (.iaload, 1) := by decide +kernel
theorem dX6_weight_20 : decode cX6_weight 20 = .ok (.ifCond .ne 7, 3) := by decide +kernel
theorem dX6_weight_23 : decode cX6_weight 23 = .ok (.iconst 0, 1) := by decide +kernel
theorem dX6_weight_24 : decode cX6_weight 24 = .ok (.goto 4, 3) := by decide +kernel
theorem dX6_weight_27 : decode cX6_weight 27 = .ok (.iconst 1, 1) := by decide +kernel
theorem dX6_weight_28 : decode cX6_weight 28 = .ok (.iadd, 1) := by decide +kernel
theorem dX6_weight_29 : decode cX6_weight 29 = .ok (.istore 4, 2) := by decide +kernel
theorem dX6_weight_31 : decode cX6_weight 31 = .ok (.iinc 5 1, 3) := by decide +kernel
theorem dX6_weight_34 : decode cX6_weight 34 = .ok (.goto (-28), 3) := by decide +kernel
theorem dX6_weight_37 : decode cX6_weight 37 = .ok (.iload 4, 2) := by decide +kernel
theorem dX6_weight_39 : decode cX6_weight 39 = .ok (.ireturn, 1) := by decide +kernel
theorem dX6_put_0 : decode cX6_put 0 = .ok (.iload_n 1, 1) := by decide +kernel
theorem dX6_put_1 : decode cX6_put 1 = .ok (.invokestatic 111, 3) := by decide +kernel
theorem dX6_put_4 : decode cX6_put 4 = .ok (.ifCond .eq 19, 3) := by decide +kernel
theorem dX6_put_7 : decode cX6_put 7 = .ok (.iload_n 2, 1) := by decide +kernel
theorem dX6_put_8 : decode cX6_put 8 = .ok (.i2l, 1) := by decide +kernel
theorem dX6_put_9 : decode cX6_put 9 = .ok (.lconst 0, 1) := by decide +kernel
theorem dX6_put_10 : decode cX6_put 10 = .ok (.aload_n 0, 1) := by decide +kernel
theorem dX6_put_11 : decode cX6_put 11 = .ok (.getfield 16, 3) := by decide +kernel
theorem dX6_put_14 : decode cX6_put 14 = .ok (.iconst 1, 1) := by decide +kernel
theorem dX6_put_15 : decode cX6_put 15 = .ok (.isub, 1) := by decide +kernel
theorem dX6_put_16 : decode cX6_put 16 = .ok (.i2l, 1) := by decide +kernel
theorem dX6_put_17 : decode cX6_put 17 = .ok (.invokestatic 61, 3) := by decide +kernel
theorem dX6_put_20 : decode cX6_put 20 = .ok (.ifCond .ne 5, 3) := by decide +kernel
theorem dX6_put_23 : decode cX6_put 23 = .ok (.iconst (-1), 1) := by decide +kernel
theorem dX6_put_24 : decode cX6_put 24 = .ok (.ireturn, 1) := by decide +kernel
theorem dX6_put_25 : decode cX6_put 25 = .ok (.aload_n 0, 1) := by decide +kernel
theorem dX6_put_26 : decode cX6_put 26 = .ok (.getfield 23, 3) := by decide +kernel
theorem dX6_put_29 : decode cX6_put 29 = .ok (.bipush 12, 2) := by decide +kernel
theorem dX6_put_31 : decode cX6_put 31 = .ok (.iload_n 1, 1) := by decide +kernel
theorem dX6_put_32 : decode cX6_put 32 = .ok (.imul, 1) := by decide +kernel
theorem dX6_put_33 : decode cX6_put 33 = .ok (.iload_n 2, 1) := by decide +kernel
theorem dX6_put_34 : decode cX6_put 34 = .ok (.iadd, 1) := by decide +kernel
theorem dX6_put_35 : decode cX6_put 35 = .ok (.aload_n 0, 1) := by decide +kernel
theorem dX6_put_36 : decode cX6_put 36 = .ok (.iload_n 3, 1) := by decide +kernel
theorem dX6_put_37 : decode cX6_put 37 = .ok (.invokevirtual 77, 3) := by decide +kernel
theorem dX6_put_40 : decode cX6_put 40 = .ok (.iastore, 1) := by decide +kernel
theorem dX6_put_41 : decode cX6_put 41 = .ok (.aload_n 0, 1) := by decide +kernel
theorem dX6_put_42 : decode cX6_put 42 = .ok (.aload_n 0, 1) := by decide +kernel
theorem dX6_put_43 : decode cX6_put 43 = .ok (.getfield 23, 3) := by decide +kernel
theorem dX6_put_46 : decode cX6_put 46 = .ok (.bipush 12, 2) := by decide +kernel
theorem dX6_put_48 : decode cX6_put 48 = .ok (.iload_n 1, 1) := by decide +kernel
theorem dX6_put_49 : decode cX6_put 49 = .ok (.imul, 1) := by decide +kernel
theorem dX6_put_50 : decode cX6_put 50 = .ok (.aload_n 0, 1) := by decide +kernel
theorem dX6_put_51 : decode cX6_put 51 = .ok (.getfield 16, 3) := by decide +kernel
theorem dX6_put_54 : decode cX6_put 54 = .ok (.invokevirtual 114, 3) := by decide +kernel
theorem dX6_put_57 : decode cX6_put 57 = .ok (.ireturn, 1) := by decide +kernel
theorem dX6_row_0 : decode cX6_row 0 = .ok (.iload_n 1, 1) := by decide +kernel
theorem dX6_row_1 : decode cX6_row 1 = .ok (.invokestatic 111, 3) := by decide +kernel
theorem dX6_row_4 : decode cX6_row 4 = .ok (.ifCond .eq 21, 3) := by decide +kernel
theorem dX6_row_7 : decode cX6_row 7 = .ok (.iload_n 2, 1) := by decide +kernel
theorem dX6_row_8 : decode cX6_row 8 = .ok (.i2l, 1) := by decide +kernel
theorem dX6_row_9 : decode cX6_row 9 = .ok (.ldc2_w 118, 3) := by decide +kernel
theorem dX6_row_12 : decode cX6_row 12 = .ok (.aload_n 0, 1) := by decide +kernel
theorem dX6_row_13 : decode cX6_row 13 = .ok (.getfield 16, 3) := by decide +kernel
theorem dX6_row_16 : decode cX6_row 16 = .ok (.iconst 1, 1) := by decide +kernel
theorem dX6_row_17 : decode cX6_row 17 = .ok (.isub, 1) := by decide +kernel
theorem dX6_row_18 : decode cX6_row 18 = .ok (.i2l, 1) := by decide +kernel
theorem dX6_row_19 : decode cX6_row 19 = .ok (.invokestatic 61, 3) := by decide +kernel
theorem dX6_row_22 : decode cX6_row 22 = .ok (.ifCond .ne 5, 3) := by decide +kernel
theorem dX6_row_25 : decode cX6_row 25 = .ok (.iconst (-1), 1) := by decide +kernel
theorem dX6_row_26 : decode cX6_row 26 = .ok (.ireturn, 1) := by decide +kernel
theorem dX6_row_27 : decode cX6_row 27 = .ok (.iload_n 2, 1) := by decide +kernel
theorem dX6_row_28 : decode cX6_row 28 = .ok (.ifCond .ge 22, 3) := by decide +kernel
theorem dX6_row_31 : decode cX6_row 31 = .ok (.aload_n 0, 1) := by decide +kernel
theorem dX6_row_32 : decode cX6_row 32 = .ok (.aload_n 0, 1) := by decide +kernel
theorem dX6_row_33 : decode cX6_row 33 = .ok (.getfield 23, 3) := by decide +kernel
theorem dX6_row_36 : decode cX6_row 36 = .ok (.bipush 12, 2) := by decide +kernel
theorem dX6_row_38 : decode cX6_row 38 = .ok (.iload_n 1, 1) := by decide +kernel
theorem dX6_row_39 : decode cX6_row 39 = .ok (.imul, 1) := by decide +kernel
theorem dX6_row_40 : decode cX6_row 40 = .ok (.aload_n 0, 1) := by decide +kernel
theorem dX6_row_41 : decode cX6_row 41 = .ok (.getfield 16, 3) := by decide +kernel
theorem dX6_row_44 : decode cX6_row 44 = .ok (.invokevirtual 114, 3) := by decide +kernel
theorem dX6_row_47 : decode cX6_row 47 = .ok (.goto 14, 3) := by decide +kernel
theorem dX6_row_50 : decode cX6_row 50 = .ok (.aload_n 0, 1) := by decide +kernel
theorem dX6_row_51 : decode cX6_row 51 = .ok (.getfield 23, 3) := by decide +kernel
theorem dX6_row_54 : decode cX6_row 54 = .ok (.bipush 12, 2) := by decide +kernel
theorem dX6_row_56 : decode cX6_row 56 = .ok (.iload_n 1, 1) := by decide +kernel
theorem dX6_row_57 : decode cX6_row 57 = .ok (.imul, 1) := by decide +kernel
theorem dX6_row_58 : decode cX6_row 58 = .ok (.iload_n 2, 1) := by decide +kernel
theorem dX6_row_59 : decode cX6_row 59 = .ok (.iadd, 1) := by decide +kernel
theorem dX6_row_60 : decode cX6_row 60 = .ok (.iaload, 1) := by decide +kernel
theorem dX6_row_61 : decode cX6_row 61 = .ok (.ireturn, 1) := by decide +kernel
theorem dX6_sum_0 : decode cX6_sum 0 = .ok (.iload_n 1, 1) := by decide +kernel
theorem dX6_sum_1 : decode cX6_sum 1 = .ok (.invokestatic 111, 3) := by decide +kernel
theorem dX6_sum_4 : decode cX6_sum 4 = .ok (.ifCond .eq 19, 3) := by decide +kernel
theorem dX6_sum_7 : decode cX6_sum 7 = .ok (.iload_n 2, 1) := by decide +kernel
theorem dX6_sum_8 : decode cX6_sum 8 = .ok (.i2l, 1) := by decide +kernel
theorem dX6_sum_9 : decode cX6_sum 9 = .ok (.lconst 0, 1) := by decide +kernel
theorem dX6_sum_10 : decode cX6_sum 10 = .ok (.aload_n 0, 1) := by decide +kernel
theorem dX6_sum_11 : decode cX6_sum 11 = .ok (.getfield 13, 3) := by decide +kernel
theorem dX6_sum_14 : decode cX6_sum 14 = .ok (.iconst 1, 1) := by decide +kernel
theorem dX6_sum_15 : decode cX6_sum 15 = .ok (.isub, 1) := by decide +kernel
theorem dX6_sum_16 : decode cX6_sum 16 = .ok (.i2l, 1) := by decide +kernel
theorem dX6_sum_17 : decode cX6_sum 17 = .ok (.invokestatic 61, 3) := by decide +kernel
theorem dX6_sum_20 : decode cX6_sum 20 = .ok (.ifCond .ne 5, 3) := by decide +kernel
theorem dX6_sum_23 : decode cX6_sum 23 = .ok (.iconst (-1), 1) := by decide +kernel
theorem dX6_sum_24 : decode cX6_sum 24 = .ok (.ireturn, 1) := by decide +kernel
theorem dX6_sum_25 : decode cX6_sum 25 = .ok (.aload_n 0, 1) := by decide +kernel
theorem dX6_sum_26 : decode cX6_sum 26 = .ok (.getfield 26, 3) := by decide +kernel
theorem dX6_sum_29 : decode cX6_sum 29 = .ok (.bipush 6, 2) := by decide +kernel
theorem dX6_sum_31 : decode cX6_sum 31 = .ok (.iload_n 1, 1) := by decide +kernel
theorem dX6_sum_32 : decode cX6_sum 32 = .ok (.imul, 1) := by decide +kernel
theorem dX6_sum_33 : decode cX6_sum 33 = .ok (.iload_n 2, 1) := by decide +kernel
theorem dX6_sum_34 : decode cX6_sum 34 = .ok (.iadd, 1) := by decide +kernel
theorem dX6_sum_35 : decode cX6_sum 35 = .ok (.aload_n 0, 1) := by decide +kernel
theorem dX6_sum_36 : decode cX6_sum 36 = .ok (.iload_n 3, 1) := by decide +kernel
theorem dX6_sum_37 : decode cX6_sum 37 = .ok (.invokevirtual 77, 3) := by decide +kernel
theorem dX6_sum_40 : decode cX6_sum 40 = .ok (.iastore, 1) := by decide +kernel
theorem dX6_sum_41 : decode cX6_sum 41 = .ok (.aload_n 0, 1) := by decide +kernel
theorem dX6_sum_42 : decode cX6_sum 42 = .ok (.aload_n 0, 1) := by decide +kernel
theorem dX6_sum_43 : decode cX6_sum 43 = .ok (.getfield 26, 3) := by decide +kernel
theorem dX6_sum_46 : decode cX6_sum 46 = .ok (.bipush 6, 2) := by decide +kernel
theorem dX6_sum_48 : decode cX6_sum 48 = .ok (.iload_n 1, 1) := by decide +kernel
theorem dX6_sum_49 : decode cX6_sum 49 = .ok (.imul, 1) := by decide +kernel
theorem dX6_sum_50 : decode cX6_sum 50 = .ok (.aload_n 0, 1) := by decide +kernel
theorem dX6_sum_51 : decode cX6_sum 51 = .ok (.getfield 13, 3) := by decide +kernel
theorem dX6_sum_54 : decode cX6_sum 54 = .ok (.invokevirtual 114, 3) := by decide +kernel
theorem dX6_sum_57 : decode cX6_sum 57 = .ok (.ireturn, 1) := by decide +kernel
theorem dX6_told_0 : decode cX6_told 0 = .ok (.iload_n 1, 1) := by decide +kernel
theorem dX6_told_1 : decode cX6_told 1 = .ok (.invokestatic 111, 3) := by decide +kernel
theorem dX6_told_4 : decode cX6_told 4 = .ok (.ifCond .eq 21, 3) := by decide +kernel
theorem dX6_told_7 : decode cX6_told 7 = .ok (.iload_n 2, 1) := by decide +kernel
theorem dX6_told_8 : decode cX6_told 8 = .ok (.i2l, 1) := by decide +kernel
theorem dX6_told_9 : decode cX6_told 9 = .ok (.ldc2_w 118, 3) := by decide +kernel
theorem dX6_told_12 : decode cX6_told 12 = .ok (.aload_n 0, 1) := by decide +kernel
theorem dX6_told_13 : decode cX6_told 13 = .ok (.getfield 13, 3) := by decide +kernel
theorem dX6_told_16 : decode cX6_told 16 = .ok (.iconst 1, 1) := by decide +kernel
theorem dX6_told_17 : decode cX6_told 17 = .ok (.isub, 1) := by decide +kernel
theorem dX6_told_18 : decode cX6_told 18 = .ok (.i2l, 1) := by decide +kernel
theorem dX6_told_19 : decode cX6_told 19 = .ok (.invokestatic 61, 3) := by decide +kernel
theorem dX6_told_22 : decode cX6_told 22 = .ok (.ifCond .ne 5, 3) := by decide +kernel
theorem dX6_told_25 : decode cX6_told 25 = .ok (.iconst (-1), 1) := by decide +kernel
theorem dX6_told_26 : decode cX6_told 26 = .ok (.ireturn, 1) := by decide +kernel
theorem dX6_told_27 : decode cX6_told 27 = .ok (.iload_n 2, 1) := by decide +kernel
theorem dX6_told_28 : decode cX6_told 28 = .ok (.ifCond .ge 22, 3) := by decide +kernel
theorem dX6_told_31 : decode cX6_told 31 = .ok (.aload_n 0, 1) := by decide +kernel
theorem dX6_told_32 : decode cX6_told 32 = .ok (.aload_n 0, 1) := by decide +kernel
theorem dX6_told_33 : decode cX6_told 33 = .ok (.getfield 26, 3) := by decide +kernel
theorem dX6_told_36 : decode cX6_told 36 = .ok (.bipush 6, 2) := by decide +kernel
theorem dX6_told_38 : decode cX6_told 38 = .ok (.iload_n 1, 1) := by decide +kernel
theorem dX6_told_39 : decode cX6_told 39 = .ok (.imul, 1) := by decide +kernel
theorem dX6_told_40 : decode cX6_told 40 = .ok (.aload_n 0, 1) := by decide +kernel
theorem dX6_told_41 : decode cX6_told 41 = .ok (.getfield 13, 3) := by decide +kernel
theorem dX6_told_44 : decode cX6_told 44 = .ok (.invokevirtual 114, 3) := by decide +kernel
theorem dX6_told_47 : decode cX6_told 47 = .ok (.goto 14, 3) := by decide +kernel
theorem dX6_told_50 : decode cX6_told 50 = .ok (.aload_n 0, 1) := by decide +kernel
theorem dX6_told_51 : decode cX6_told 51 = .ok (.getfield 26, 3) := by decide +kernel
theorem dX6_told_54 : decode cX6_told 54 = .ok (.bipush 6, 2) := by decide +kernel
theorem dX6_told_56 : decode cX6_told 56 = .ok (.iload_n 1, 1) := by decide +kernel
theorem dX6_told_57 : decode cX6_told 57 = .ok (.imul, 1) := by decide +kernel
theorem dX6_told_58 : decode cX6_told 58 = .ok (.iload_n 2, 1) := by decide +kernel
theorem dX6_told_59 : decode cX6_told 59 = .ok (.iadd, 1) := by decide +kernel
theorem dX6_told_60 : decode cX6_told 60 = .ok (.iaload, 1) := by decide +kernel
theorem dX6_told_61 : decode cX6_told 61 = .ok (.ireturn, 1) := by decide +kernel
theorem dX6_tell_0 : decode cX6_tell 0 = .ok (.iload_n 1, 1) := by decide +kernel
theorem dX6_tell_1 : decode cX6_tell 1 = .ok (.invokestatic 111, 3) := by decide +kernel
theorem dX6_tell_4 : decode cX6_tell 4 = .ok (.ifCond .eq 10, 3) := by decide +kernel
theorem dX6_tell_7 : decode cX6_tell 7 = .ok (.iload_n 2, 1) := by decide +kernel
theorem dX6_tell_8 : decode cX6_tell 8 = .ok (.invokestatic 111, 3) := by decide +kernel
theorem dX6_tell_11 : decode cX6_tell 11 = .ok (.ifCond .ne 5, 3) := by decide +kernel
theorem dX6_tell_14 : decode cX6_tell 14 = .ok (.iconst (-1), 1) := by decide +kernel
theorem dX6_tell_15 : decode cX6_tell 15 = .ok (.ireturn, 1) := by decide +kernel
theorem dX6_tell_16 : decode cX6_tell 16 = .ok (.iconst 0, 1) := by decide +kernel
theorem dX6_tell_17 : decode cX6_tell 17 = .ok (.istore_n 3, 1) := by decide +kernel
theorem dX6_tell_18 : decode cX6_tell 18 = .ok (.iload_n 3, 1) := by decide +kernel
theorem dX6_tell_19 : decode cX6_tell 19 = .ok (.aload_n 0, 1) := by decide +kernel
theorem dX6_tell_20 : decode cX6_tell 20 = .ok (.getfield 13, 3) := by decide +kernel
theorem dX6_tell_23 : decode cX6_tell 23 = .ok (.if_icmp .ge 78, 3) := by decide +kernel
theorem dX6_tell_26 : decode cX6_tell 26 = .ok (.iconst 0, 1) := by decide +kernel
theorem dX6_tell_27 : decode cX6_tell 27 = .ok (.istore 4, 2) := by decide +kernel
theorem dX6_tell_29 : decode cX6_tell 29 = .ok (.iconst 0, 1) := by decide +kernel
theorem dX6_tell_30 : decode cX6_tell 30 = .ok (.istore 5, 2) := by decide +kernel
theorem dX6_tell_32 : decode cX6_tell 32 = .ok (.iload 5, 2) := by decide +kernel
theorem dX6_tell_34 : decode cX6_tell 34 = .ok (.aload_n 0, 1) := by decide +kernel
theorem dX6_tell_35 : decode cX6_tell 35 = .ok (.getfield 16, 3) := by decide +kernel
theorem dX6_tell_38 : decode cX6_tell 38 = .ok (.if_icmp .ge 39, 3) := by decide +kernel
theorem dX6_tell_41 : decode cX6_tell 41 = .ok (.iload 4, 2) := by decide +kernel
theorem dX6_tell_43 : decode cX6_tell 43 = .ok (.aload_n 0, 1) := by decide +kernel
theorem dX6_tell_44 : decode cX6_tell 44 = .ok (.getfield 19, 3) := by decide +kernel
theorem dX6_tell_47 : decode cX6_tell 47 = .ok (.bipush 12, 2) := by decide +kernel
theorem dX6_tell_49 : decode cX6_tell 49 = .ok (.iload_n 3, 1) := by decide +kernel
theorem dX6_tell_50 : decode cX6_tell 50 = .ok (.imul, 1) := by decide +kernel
theorem dX6_tell_51 : decode cX6_tell 51 = .ok (.iload 5, 2) := by decide +kernel
theorem dX6_tell_53 : decode cX6_tell 53 = .ok (.iadd, 1) := by decide +kernel
theorem dX6_tell_54 : decode cX6_tell 54 = .ok (.iaload, 1) := by decide +kernel
theorem dX6_tell_55 : decode cX6_tell 55 = .ok (.aload_n 0, 1) := by decide +kernel
theorem dX6_tell_56 : decode cX6_tell 56 = .ok (.getfield 23, 3) := by decide +kernel
theorem dX6_tell_59 : decode cX6_tell 59 = .ok (.bipush 12, 2) := by decide +kernel
theorem dX6_tell_61 : decode cX6_tell 61 = .ok (.iload_n 2, 1) := by decide +kernel
theorem dX6_tell_62 : decode cX6_tell 62 = .ok (.imul, 1) := by decide +kernel
theorem dX6_tell_63 : decode cX6_tell 63 = .ok (.iload 5, 2) := by decide +kernel
theorem dX6_tell_65 : decode cX6_tell 65 = .ok (.iadd, 1) := by decide +kernel
theorem dX6_tell_66 : decode cX6_tell 66 = .ok (.iaload, 1) := by decide +kernel
theorem dX6_tell_67 : decode cX6_tell 67 = .ok (.imul, 1) := by decide +kernel
theorem dX6_tell_68 : decode cX6_tell 68 = .ok (.iadd, 1) := by decide +kernel
theorem dX6_tell_69 : decode cX6_tell 69 = .ok (.istore 4, 2) := by decide +kernel
theorem dX6_tell_71 : decode cX6_tell 71 = .ok (.iinc 5 1, 3) := by decide +kernel
theorem dX6_tell_74 : decode cX6_tell 74 = .ok (.goto (-42), 3) := by decide +kernel
theorem dX6_tell_77 : decode cX6_tell 77 = .ok (.aload_n 0, 1) := by decide +kernel
theorem dX6_tell_78 : decode cX6_tell 78 = .ok (.getfield 26, 3) := by decide +kernel
theorem dX6_tell_81 : decode cX6_tell 81 = .ok (.bipush 6, 2) := by decide +kernel
theorem dX6_tell_83 : decode cX6_tell 83 = .ok (.iload_n 1, 1) := by decide +kernel
theorem dX6_tell_84 : decode cX6_tell 84 = .ok (.imul, 1) := by decide +kernel
theorem dX6_tell_85 : decode cX6_tell 85 = .ok (.iload_n 3, 1) := by decide +kernel
theorem dX6_tell_86 : decode cX6_tell 86 = .ok (.iadd, 1) := by decide +kernel
theorem dX6_tell_87 : decode cX6_tell 87 = .ok (.iload 4, 2) := by decide +kernel
theorem dX6_tell_89 : decode cX6_tell 89 = .ok (.aload_n 0, 1) := by decide +kernel
theorem dX6_tell_90 : decode cX6_tell 90 = .ok (.getfield 7, 3) := by decide +kernel
theorem dX6_tell_93 : decode cX6_tell 93 = .ok (.irem, 1) := by decide +kernel
theorem dX6_tell_94 : decode cX6_tell 94 = .ok (.iastore, 1) := by decide +kernel
theorem dX6_tell_95 : decode cX6_tell 95 = .ok (.iinc 3 1, 3) := by decide +kernel
theorem dX6_tell_98 : decode cX6_tell 98 = .ok (.goto (-80), 3) := by decide +kernel
theorem dX6_tell_101 : decode cX6_tell 101 = .ok (.aload_n 0, 1) := by decide +kernel
theorem dX6_tell_102 : decode cX6_tell 102 = .ok (.aload_n 0, 1) := by decide +kernel
theorem dX6_tell_103 : decode cX6_tell 103 = .ok (.getfield 26, 3) := by decide +kernel
theorem dX6_tell_106 : decode cX6_tell 106 = .ok (.bipush 6, 2) := by decide +kernel
theorem dX6_tell_108 : decode cX6_tell 108 = .ok (.iload_n 1, 1) := by decide +kernel
theorem dX6_tell_109 : decode cX6_tell 109 = .ok (.imul, 1) := by decide +kernel
theorem dX6_tell_110 : decode cX6_tell 110 = .ok (.aload_n 0, 1) := by decide +kernel
theorem dX6_tell_111 : decode cX6_tell 111 = .ok (.getfield 13, 3) := by decide +kernel
theorem dX6_tell_114 : decode cX6_tell 114 = .ok (.invokevirtual 114, 3) := by decide +kernel
theorem dX6_tell_117 : decode cX6_tell 117 = .ok (.ireturn, 1) := by decide +kernel
theorem dX6_solves_0 : decode cX6_solves 0 = .ok (.iload_n 1, 1) := by decide +kernel
theorem dX6_solves_1 : decode cX6_solves 1 = .ok (.invokestatic 81, 3) := by decide +kernel
theorem dX6_solves_4 : decode cX6_solves 4 = .ok (.istore 4, 2) := by decide +kernel
theorem dX6_solves_6 : decode cX6_solves 6 = .ok (.aload_n 0, 1) := by decide +kernel
theorem dX6_solves_7 : decode cX6_solves 7 = .ok (.iload_n 1, 1) := by decide +kernel
theorem dX6_solves_8 : decode cX6_solves 8 = .ok (.iload_n 2, 1) := by decide +kernel
theorem dX6_solves_9 : decode cX6_solves 9 = .ok (.iload_n 3, 1) := by decide +kernel
theorem dX6_solves_10 : decode cX6_solves 10 = .ok (.invokevirtual 95, 3) := by decide +kernel
theorem dX6_solves_13 : decode cX6_solves 13 = .ok (.iload 4, 2) := by decide +kernel
theorem dX6_solves_15 : decode cX6_solves 15 = .ok (.if_icmp .eq 5, 3) := by decide +kernel
theorem dX6_solves_18 : decode cX6_solves 18 = .ok (.iconst 0, 1) := by decide +kernel
theorem dX6_solves_19 : decode cX6_solves 19 = .ok (.ireturn, 1) := by decide +kernel
theorem dX6_solves_20 : decode cX6_solves 20 = .ok (.iconst 0, 1) := by decide +kernel
theorem dX6_solves_21 : decode cX6_solves 21 = .ok (.istore 5, 2) := by decide +kernel
theorem dX6_solves_23 : decode cX6_solves 23 = .ok (.iconst 1, 1) := by decide +kernel
theorem dX6_solves_24 : decode cX6_solves 24 = .ok (.istore 6, 2) := by decide +kernel
theorem dX6_solves_26 : decode cX6_solves 26 = .ok (.iconst 0, 1) := by decide +kernel
theorem dX6_solves_27 : decode cX6_solves 27 = .ok (.istore 7, 2) := by decide +kernel
theorem dX6_solves_29 : decode cX6_solves 29 = .ok (.iload 7, 2) := by decide +kernel
theorem dX6_solves_31 : decode cX6_solves 31 = .ok (.bipush 12, 2) := by decide +kernel
theorem dX6_solves_33 : decode cX6_solves 33 = .ok (.if_icmp .ge 72, 3) := by decide +kernel
theorem dX6_solves_36 : decode cX6_solves 36 = .ok (.aload_n 0, 1) := by decide +kernel
theorem dX6_solves_37 : decode cX6_solves 37 = .ok (.getfield 48, 3) := by decide +kernel
theorem dX6_solves_40 : decode cX6_solves 40 = .ok (.iload 7, 2) := by decide +kernel
theorem dX6_solves_42 : decode cX6_solves 42 = .ok (.iconst 0, 1) := by decide +kernel
theorem dX6_solves_43 : decode cX6_solves 43 = .ok (.iastore, 1) := by decide +kernel
theorem dX6_solves_44 : decode cX6_solves 44 = .ok (.iload_n 1, 1) := by decide +kernel
theorem dX6_solves_45 : decode cX6_solves 45 = .ok (.iload 7, 2) := by decide +kernel
theorem dX6_solves_47 : decode cX6_solves 47 = .ok (.ishr, 1) := by decide +kernel
theorem dX6_solves_48 : decode cX6_solves 48 = .ok (.iconst 1, 1) := by decide +kernel
theorem dX6_solves_49 : decode cX6_solves 49 = .ok (.iand, 1) := by decide +kernel
theorem dX6_solves_50 : decode cX6_solves 50 = .ok (.iconst 1, 1) := by decide +kernel
theorem dX6_solves_51 : decode cX6_solves 51 = .ok (.if_icmp .ne 48, 3) := by decide +kernel
theorem dX6_solves_54 : decode cX6_solves 54 = .ok (.aload_n 0, 1) := by decide +kernel
theorem dX6_solves_55 : decode cX6_solves 55 = .ok (.getfield 48, 3) := by decide +kernel
theorem dX6_solves_58 : decode cX6_solves 58 = .ok (.iload 7, 2) := by decide +kernel
theorem dX6_solves_60 : decode cX6_solves 60 = .ok (.aload_n 0, 1) := by decide +kernel
theorem dX6_solves_61 : decode cX6_solves 61 = .ok (.getfield 45, 3) := by decide +kernel
theorem dX6_solves_64 : decode cX6_solves 64 = .ok (.bipush 13, 2) := by decide +kernel
theorem dX6_solves_66 : decode cX6_solves 66 = .ok (.iload 5, 2) := by decide +kernel
theorem dX6_solves_68 : decode cX6_solves 68 = .ok (.imul, 1) := by decide +kernel
theorem dX6_solves_69 : decode cX6_solves 69 = .ok (.bipush 12, 2) := by decide +kernel
theorem dX6_solves_71 : decode cX6_solves 71 = .ok (.iadd, 1) := by decide +kernel
theorem dX6_solves_72 : decode cX6_solves 72 = .ok (.iaload, 1) := by decide +kernel
theorem dX6_solves_73 : decode cX6_solves 73 = .ok (.iastore, 1) := by decide +kernel
theorem dX6_solves_74 : decode cX6_solves 74 = .ok (.iload 6, 2) := by decide +kernel
theorem dX6_solves_76 : decode cX6_solves 76 = .ok (.ifCond .eq 17, 3) := by decide +kernel
theorem dX6_solves_79 : decode cX6_solves 79 = .ok (.aload_n 0, 1) := by decide +kernel
theorem dX6_solves_80 : decode cX6_solves 80 = .ok (.getfield 48, 3) := by decide +kernel
theorem dX6_solves_83 : decode cX6_solves 83 = .ok (.iload 7, 2) := by decide +kernel
theorem dX6_solves_85 : decode cX6_solves 85 = .ok (.iaload, 1) := by decide +kernel
theorem dX6_solves_86 : decode cX6_solves 86 = .ok (.ifCond .eq 7, 3) := by decide +kernel
theorem dX6_solves_89 : decode cX6_solves 89 = .ok (.iconst 1, 1) := by decide +kernel
theorem dX6_solves_90 : decode cX6_solves 90 = .ok (.goto 4, 3) := by decide +kernel
theorem dX6_solves_93 : decode cX6_solves 93 = .ok (.iconst 0, 1) := by decide +kernel
theorem dX6_solves_94 : decode cX6_solves 94 = .ok (.istore 6, 2) := by decide +kernel
theorem dX6_solves_96 : decode cX6_solves 96 = .ok (.iinc 5 1, 3) := by decide +kernel
theorem dX6_solves_99 : decode cX6_solves 99 = .ok (.iinc 7 1, 3) := by decide +kernel
theorem dX6_solves_102 : decode cX6_solves 102 = .ok (.goto (-73), 3) := by decide +kernel
theorem dX6_solves_105 : decode cX6_solves 105 = .ok (.iload 6, 2) := by decide +kernel
theorem dX6_solves_107 : decode cX6_solves 107 = .ok (.ireturn, 1) := by decide +kernel
theorem dX6_keeps_0 : decode cX6_keeps 0 = .ok (.iconst 0, 1) := by decide +kernel
theorem dX6_keeps_1 : decode cX6_keeps 1 = .ok (.istore_n 2, 1) := by decide +kernel
theorem dX6_keeps_2 : decode cX6_keeps 2 = .ok (.iload_n 2, 1) := by decide +kernel
theorem dX6_keeps_3 : decode cX6_keeps 3 = .ok (.bipush 12, 2) := by decide +kernel
theorem dX6_keeps_5 : decode cX6_keeps 5 = .ok (.if_icmp .ge 26, 3) := by decide +kernel
theorem dX6_keeps_8 : decode cX6_keeps 8 = .ok (.aload_n 0, 1) := by decide +kernel
theorem dX6_keeps_9 : decode cX6_keeps 9 = .ok (.getfield 23, 3) := by decide +kernel
theorem dX6_keeps_12 : decode cX6_keeps 12 = .ok (.bipush 12, 2) := by decide +kernel
theorem dX6_keeps_14 : decode cX6_keeps 14 = .ok (.iload_n 1, 1) := by decide +kernel
theorem dX6_keeps_15 : decode cX6_keeps 15 = .ok (.imul, 1) := by decide +kernel
theorem dX6_keeps_16 : decode cX6_keeps 16 = .ok (.iload_n 2, 1) := by decide +kernel
theorem dX6_keeps_17 : decode cX6_keeps 17 = .ok (.iadd, 1) := by decide +kernel
theorem dX6_keeps_18 : decode cX6_keeps 18 = .ok (.aload_n 0, 1) := by decide +kernel
theorem dX6_keeps_19 : decode cX6_keeps 19 = .ok (.getfield 51, 3) := by decide +kernel
theorem dX6_keeps_22 : decode cX6_keeps 22 = .ok (.iload_n 2, 1) := by decide +kernel
theorem dX6_keeps_23 : decode cX6_keeps 23 = .ok (.iaload, 1) := by decide +kernel
theorem dX6_keeps_24 : decode cX6_keeps 24 = .ok (.iastore, 1) := by decide +kernel
theorem dX6_keeps_25 : decode cX6_keeps 25 = .ok (.iinc 2 1, 3) := by decide +kernel
theorem dX6_keeps_28 : decode cX6_keeps 28 = .ok (.goto (-26), 3) := by decide +kernel
theorem dX6_keeps_31 : decode cX6_keeps 31 = .ok (.return_, 1) := by decide +kernel
theorem dX6_isBest_0 : decode cX6_isBest 0 = .ok (.iconst 0, 1) := by decide +kernel
theorem dX6_isBest_1 : decode cX6_isBest 1 = .ok (.istore_n 1, 1) := by decide +kernel
theorem dX6_isBest_2 : decode cX6_isBest 2 = .ok (.iload_n 1, 1) := by decide +kernel
theorem dX6_isBest_3 : decode cX6_isBest 3 = .ok (.bipush 12, 2) := by decide +kernel
theorem dX6_isBest_5 : decode cX6_isBest 5 = .ok (.if_icmp .ge 21, 3) := by decide +kernel
theorem dX6_isBest_8 : decode cX6_isBest 8 = .ok (.aload_n 0, 1) := by decide +kernel
theorem dX6_isBest_9 : decode cX6_isBest 9 = .ok (.getfield 51, 3) := by decide +kernel
theorem dX6_isBest_12 : decode cX6_isBest 12 = .ok (.iload_n 1, 1) := by decide +kernel
theorem dX6_isBest_13 : decode cX6_isBest 13 = .ok (.aload_n 0, 1) := by decide +kernel
theorem dX6_isBest_14 : decode cX6_isBest 14 = .ok (.getfield 48, 3) := by decide +kernel
theorem dX6_isBest_17 : decode cX6_isBest 17 = .ok (.iload_n 1, 1) := by decide +kernel
theorem dX6_isBest_18 : decode cX6_isBest 18 = .ok (.iaload, 1) := by decide +kernel
theorem dX6_isBest_19 : decode cX6_isBest 19 = .ok (.iastore, 1) := by decide +kernel
theorem dX6_isBest_20 : decode cX6_isBest 20 = .ok (.iinc 1 1, 3) := by decide +kernel
theorem dX6_isBest_23 : decode cX6_isBest 23 = .ok (.goto (-21), 3) := by decide +kernel
theorem dX6_isBest_26 : decode cX6_isBest 26 = .ok (.return_, 1) := by decide +kernel
theorem dX6_find_0 : decode cX6_find 0 = .ok (.iload_n 1, 1) := by decide +kernel
theorem dX6_find_1 : decode cX6_find 1 = .ok (.invokestatic 111, 3) := by decide +kernel
theorem dX6_find_4 : decode cX6_find 4 = .ok (.ifCond .eq 22, 3) := by decide +kernel
theorem dX6_find_7 : decode cX6_find 7 = .ok (.iload_n 2, 1) := by decide +kernel
theorem dX6_find_8 : decode cX6_find 8 = .ok (.invokestatic 111, 3) := by decide +kernel
theorem dX6_find_11 : decode cX6_find 11 = .ok (.ifCond .eq 15, 3) := by decide +kernel
theorem dX6_find_14 : decode cX6_find 14 = .ok (.iload_n 3, 1) := by decide +kernel
theorem dX6_find_15 : decode cX6_find 15 = .ok (.i2l, 1) := by decide +kernel
theorem dX6_find_16 : decode cX6_find 16 = .ok (.lconst 0, 1) := by decide +kernel
theorem dX6_find_17 : decode cX6_find 17 = .ok (.ldc2_w 120, 3) := by decide +kernel
theorem dX6_find_20 : decode cX6_find 20 = .ok (.invokestatic 61, 3) := by decide +kernel
theorem dX6_find_23 : decode cX6_find 23 = .ok (.ifCond .ne 5, 3) := by decide +kernel
theorem dX6_find_26 : decode cX6_find 26 = .ok (.iconst (-1), 1) := by decide +kernel
theorem dX6_find_27 : decode cX6_find 27 = .ok (.ireturn, 1) := by decide +kernel
theorem dX6_find_28 : decode cX6_find 28 = .ok (.iconst 0, 1) := by decide +kernel
theorem dX6_find_29 : decode cX6_find 29 = .ok (.istore 4, 2) := by decide +kernel
theorem dX6_find_31 : decode cX6_find 31 = .ok (.iload 4, 2) := by decide +kernel
theorem dX6_find_33 : decode cX6_find 33 = .ok (.iload_n 3, 1) := by decide +kernel
theorem dX6_find_34 : decode cX6_find 34 = .ok (.if_icmp .gt 92, 3) := by decide +kernel
theorem dX6_find_37 : decode cX6_find 37 = .ok (.iconst 0, 1) := by decide +kernel
theorem dX6_find_38 : decode cX6_find 38 = .ok (.istore 5, 2) := by decide +kernel
theorem dX6_find_40 : decode cX6_find 40 = .ok (.iconst 0, 1) := by decide +kernel
theorem dX6_find_41 : decode cX6_find 41 = .ok (.istore 6, 2) := by decide +kernel
theorem dX6_find_43 : decode cX6_find 43 = .ok (.iload 6, 2) := by decide +kernel
theorem dX6_find_45 : decode cX6_find 45 = .ok (.iconst 1, 1) := by decide +kernel
theorem dX6_find_46 : decode cX6_find 46 = .ok (.aload_n 0, 1) := by decide +kernel
theorem dX6_find_47 : decode cX6_find 47 = .ok (.getfield 16, 3) := by decide +kernel
theorem dX6_find_50 : decode cX6_find 50 = .ok (.ishl, 1) := by decide +kernel
theorem dX6_find_51 : decode cX6_find 51 = .ok (.if_icmp .ge 42, 3) := by decide +kernel
theorem dX6_find_54 : decode cX6_find 54 = .ok (.iload 6, 2) := by decide +kernel
theorem dX6_find_56 : decode cX6_find 56 = .ok (.invokestatic 81, 3) := by decide +kernel
theorem dX6_find_59 : decode cX6_find 59 = .ok (.iload 4, 2) := by decide +kernel
theorem dX6_find_61 : decode cX6_find 61 = .ok (.if_icmp .ne 26, 3) := by decide +kernel
theorem dX6_find_64 : decode cX6_find 64 = .ok (.aload_n 0, 1) := by decide +kernel
theorem dX6_find_65 : decode cX6_find 65 = .ok (.iload 6, 2) := by decide +kernel
theorem dX6_find_67 : decode cX6_find 67 = .ok (.iconst 0, 1) := by decide +kernel
theorem dX6_find_68 : decode cX6_find 68 = .ok (.iload_n 2, 1) := by decide +kernel
theorem dX6_find_69 : decode cX6_find 69 = .ok (.invokevirtual 122, 3) := by decide +kernel
theorem dX6_find_72 : decode cX6_find 72 = .ok (.ifCond .eq 15, 3) := by decide +kernel
theorem dX6_find_75 : decode cX6_find 75 = .ok (.iload 5, 2) := by decide +kernel
theorem dX6_find_77 : decode cX6_find 77 = .ok (.ifCond .ne 7, 3) := by decide +kernel
theorem dX6_find_80 : decode cX6_find 80 = .ok (.aload_n 0, 1) := by decide +kernel
theorem dX6_find_81 : decode cX6_find 81 = .ok (.invokevirtual 126, 3) := by decide +kernel
theorem dX6_find_84 : decode cX6_find 84 = .ok (.iinc 5 1, 3) := by decide +kernel
theorem dX6_find_87 : decode cX6_find 87 = .ok (.iinc 6 1, 3) := by decide +kernel
theorem dX6_find_90 : decode cX6_find 90 = .ok (.goto (-47), 3) := by decide +kernel
theorem dX6_find_93 : decode cX6_find 93 = .ok (.iload 5, 2) := by decide +kernel
theorem dX6_find_95 : decode cX6_find 95 = .ok (.ifCond .le 25, 3) := by decide +kernel
theorem dX6_find_98 : decode cX6_find 98 = .ok (.aload_n 0, 1) := by decide +kernel
theorem dX6_find_99 : decode cX6_find 99 = .ok (.iload_n 1, 1) := by decide +kernel
theorem dX6_find_100 : decode cX6_find 100 = .ok (.invokevirtual 129, 3) := by decide +kernel
theorem dX6_find_103 : decode cX6_find 103 = .ok (.iload 5, 2) := by decide +kernel
theorem dX6_find_105 : decode cX6_find 105 = .ok (.iconst 1, 1) := by decide +kernel
theorem dX6_find_106 : decode cX6_find 106 = .ok (.if_icmp .ne 11, 3) := by decide +kernel
theorem dX6_find_109 : decode cX6_find 109 = .ok (.bipush 100, 2) := by decide +kernel
theorem dX6_find_111 : decode cX6_find 111 = .ok (.iload 4, 2) := by decide +kernel
theorem dX6_find_113 : decode cX6_find 113 = .ok (.iadd, 1) := by decide +kernel
theorem dX6_find_114 : decode cX6_find 114 = .ok (.goto 5, 3) := by decide +kernel
theorem dX6_find_117 : decode cX6_find 117 = .ok (.iload 4, 2) := by decide +kernel
theorem dX6_find_119 : decode cX6_find 119 = .ok (.ireturn, 1) := by decide +kernel
theorem dX6_find_120 : decode cX6_find 120 = .ok (.iinc 4 1, 3) := by decide +kernel
theorem dX6_find_123 : decode cX6_find 123 = .ok (.goto (-92), 3) := by decide +kernel
theorem dX6_find_126 : decode cX6_find 126 = .ok (.bipush (-2), 2) := by decide +kernel
theorem dX6_find_128 : decode cX6_find 128 = .ok (.ireturn, 1) := by decide +kernel
theorem dX6_differs_0 : decode cX6_differs 0 = .ok (.iconst 0, 1) := by decide +kernel
theorem dX6_differs_1 : decode cX6_differs 1 = .ok (.istore_n 2, 1) := by decide +kernel
theorem dX6_differs_2 : decode cX6_differs 2 = .ok (.iconst 0, 1) := by decide +kernel
theorem dX6_differs_3 : decode cX6_differs 3 = .ok (.istore_n 3, 1) := by decide +kernel
theorem dX6_differs_4 : decode cX6_differs 4 = .ok (.iload_n 3, 1) := by decide +kernel
theorem dX6_differs_5 : decode cX6_differs 5 = .ok (.aload_n 0, 1) := by decide +kernel
theorem dX6_differs_6 : decode cX6_differs 6 = .ok (.getfield 13, 3) := by decide +kernel
theorem dX6_differs_9 : decode cX6_differs 9 = .ok (.if_icmp .ge 84, 3) := by decide +kernel
theorem dX6_differs_12 : decode cX6_differs 12 = .ok (.iconst 0, 1) := by decide +kernel
theorem dX6_differs_13 : decode cX6_differs 13 = .ok (.istore 4, 2) := by decide +kernel
theorem dX6_differs_15 : decode cX6_differs 15 = .ok (.iconst 0, 1) := by decide +kernel
theorem dX6_differs_16 : decode cX6_differs 16 = .ok (.istore 5, 2) := by decide +kernel
theorem dX6_differs_18 : decode cX6_differs 18 = .ok (.iload 5, 2) := by decide +kernel
theorem dX6_differs_20 : decode cX6_differs 20 = .ok (.aload_n 0, 1) := by decide +kernel
theorem dX6_differs_21 : decode cX6_differs 21 = .ok (.getfield 16, 3) := by decide +kernel
theorem dX6_differs_24 : decode cX6_differs 24 = .ok (.if_icmp .ge 34, 3) := by decide +kernel
theorem dX6_differs_27 : decode cX6_differs 27 = .ok (.iload 4, 2) := by decide +kernel
theorem dX6_differs_29 : decode cX6_differs 29 = .ok (.aload_n 0, 1) := by decide +kernel
theorem dX6_differs_30 : decode cX6_differs 30 = .ok (.getfield 19, 3) := by decide +kernel
theorem dX6_differs_33 : decode cX6_differs 33 = .ok (.bipush 12, 2) := by decide +kernel
theorem dX6_differs_35 : decode cX6_differs 35 = .ok (.iload_n 3, 1) := by decide +kernel
theorem dX6_differs_36 : decode cX6_differs 36 = .ok (.imul, 1) := by decide +kernel
theorem dX6_differs_37 : decode cX6_differs 37 = .ok (.iload 5, 2) := by decide +kernel
theorem dX6_differs_39 : decode cX6_differs 39 = .ok (.iadd, 1) := by decide +kernel
theorem dX6_differs_40 : decode cX6_differs 40 = .ok (.iaload, 1) := by decide +kernel
theorem dX6_differs_41 : decode cX6_differs 41 = .ok (.aload_n 0, 1) := by decide +kernel
theorem dX6_differs_42 : decode cX6_differs 42 = .ok (.getfield 48, 3) := by decide +kernel
theorem dX6_differs_45 : decode cX6_differs 45 = .ok (.iload 5, 2) := by decide +kernel
theorem dX6_differs_47 : decode cX6_differs 47 = .ok (.iaload, 1) := by decide +kernel
theorem dX6_differs_48 : decode cX6_differs 48 = .ok (.imul, 1) := by decide +kernel
theorem dX6_differs_49 : decode cX6_differs 49 = .ok (.iadd, 1) := by decide +kernel
theorem dX6_differs_50 : decode cX6_differs 50 = .ok (.istore 4, 2) := by decide +kernel
theorem dX6_differs_52 : decode cX6_differs 52 = .ok (.iinc 5 1, 3) := by decide +kernel
theorem dX6_differs_55 : decode cX6_differs 55 = .ok (.goto (-37), 3) := by decide +kernel
theorem dX6_differs_58 : decode cX6_differs 58 = .ok (.iload_n 2, 1) := by decide +kernel
theorem dX6_differs_59 : decode cX6_differs 59 = .ok (.iload 4, 2) := by decide +kernel
theorem dX6_differs_61 : decode cX6_differs 61 = .ok (.aload_n 0, 1) := by decide +kernel
theorem dX6_differs_62 : decode cX6_differs 62 = .ok (.getfield 7, 3) := by decide +kernel
theorem dX6_differs_65 : decode cX6_differs 65 = .ok (.irem, 1) := by decide +kernel
theorem dX6_differs_66 : decode cX6_differs 66 = .ok (.aload_n 0, 1) := by decide +kernel
theorem dX6_differs_67 : decode cX6_differs 67 = .ok (.getfield 26, 3) := by decide +kernel
theorem dX6_differs_70 : decode cX6_differs 70 = .ok (.bipush 6, 2) := by decide +kernel
theorem dX6_differs_72 : decode cX6_differs 72 = .ok (.iload_n 1, 1) := by decide +kernel
theorem dX6_differs_73 : decode cX6_differs 73 = .ok (.imul, 1) := by decide +kernel
theorem dX6_differs_74 : decode cX6_differs 74 = .ok (.iload_n 3, 1) := by decide +kernel
theorem dX6_differs_75 : decode cX6_differs 75 = .ok (.iadd, 1) := by decide +kernel
theorem dX6_differs_76 : decode cX6_differs 76 = .ok (.iaload, 1) := by decide +kernel
theorem dX6_differs_77 : decode cX6_differs 77 = .ok (.if_icmp .ne 7, 3) := by decide +kernel
theorem dX6_differs_80 : decode cX6_differs 80 = .ok (.iconst 0, 1) := by decide +kernel
theorem dX6_differs_81 : decode cX6_differs 81 = .ok (.goto 4, 3) := by decide +kernel
theorem dX6_differs_84 : decode cX6_differs 84 = .ok (.iconst 1, 1) := by decide +kernel
theorem dX6_differs_85 : decode cX6_differs 85 = .ok (.iadd, 1) := by decide +kernel
theorem dX6_differs_86 : decode cX6_differs 86 = .ok (.istore_n 2, 1) := by decide +kernel
theorem dX6_differs_87 : decode cX6_differs 87 = .ok (.iinc 3 1, 3) := by decide +kernel
theorem dX6_differs_90 : decode cX6_differs 90 = .ok (.goto (-86), 3) := by decide +kernel
theorem dX6_differs_93 : decode cX6_differs 93 = .ok (.iload_n 2, 1) := by decide +kernel
theorem dX6_differs_94 : decode cX6_differs 94 = .ok (.ireturn, 1) := by decide +kernel
theorem dX6_isLess_0 : decode cX6_isLess 0 = .ok (.iconst 0, 1) := by decide +kernel
theorem dX6_isLess_1 : decode cX6_isLess 1 = .ok (.istore_n 1, 1) := by decide +kernel
theorem dX6_isLess_2 : decode cX6_isLess 2 = .ok (.iload_n 1, 1) := by decide +kernel
theorem dX6_isLess_3 : decode cX6_isLess 3 = .ok (.bipush 11, 2) := by decide +kernel
theorem dX6_isLess_5 : decode cX6_isLess 5 = .ok (.if_icmp .ge 24, 3) := by decide +kernel
theorem dX6_isLess_8 : decode cX6_isLess 8 = .ok (.aload_n 0, 1) := by decide +kernel
theorem dX6_isLess_9 : decode cX6_isLess 9 = .ok (.getfield 48, 3) := by decide +kernel
theorem dX6_isLess_12 : decode cX6_isLess 12 = .ok (.iload_n 1, 1) := by decide +kernel
theorem dX6_isLess_13 : decode cX6_isLess 13 = .ok (.iaload, 1) := by decide +kernel
theorem dX6_isLess_14 : decode cX6_isLess 14 = .ok (.aload_n 0, 1) := by decide +kernel
theorem dX6_isLess_15 : decode cX6_isLess 15 = .ok (.getfield 51, 3) := by decide +kernel
theorem dX6_isLess_18 : decode cX6_isLess 18 = .ok (.iload_n 1, 1) := by decide +kernel
theorem dX6_isLess_19 : decode cX6_isLess 19 = .ok (.iaload, 1) := by decide +kernel
theorem dX6_isLess_20 : decode cX6_isLess 20 = .ok (.if_icmp .ne 9, 3) := by decide +kernel
theorem dX6_isLess_23 : decode cX6_isLess 23 = .ok (.iinc 1 1, 3) := by decide +kernel
theorem dX6_isLess_26 : decode cX6_isLess 26 = .ok (.goto (-24), 3) := by decide +kernel
theorem dX6_isLess_29 : decode cX6_isLess 29 = .ok (.aload_n 0, 1) := by decide +kernel
theorem dX6_isLess_30 : decode cX6_isLess 30 = .ok (.getfield 48, 3) := by decide +kernel
theorem dX6_isLess_33 : decode cX6_isLess 33 = .ok (.iload_n 1, 1) := by decide +kernel
theorem dX6_isLess_34 : decode cX6_isLess 34 = .ok (.iaload, 1) := by decide +kernel
theorem dX6_isLess_35 : decode cX6_isLess 35 = .ok (.aload_n 0, 1) := by decide +kernel
theorem dX6_isLess_36 : decode cX6_isLess 36 = .ok (.getfield 51, 3) := by decide +kernel
theorem dX6_isLess_39 : decode cX6_isLess 39 = .ok (.iload_n 1, 1) := by decide +kernel
theorem dX6_isLess_40 : decode cX6_isLess 40 = .ok (.iaload, 1) := by decide +kernel
theorem dX6_isLess_41 : decode cX6_isLess 41 = .ok (.if_icmp .ge 7, 3) := by decide +kernel
theorem dX6_isLess_44 : decode cX6_isLess 44 = .ok (.iconst 1, 1) := by decide +kernel
theorem dX6_isLess_45 : decode cX6_isLess 45 = .ok (.goto 4, 3) := by decide +kernel
theorem dX6_isLess_48 : decode cX6_isLess 48 = .ok (.iconst 0, 1) := by decide +kernel
theorem dX6_isLess_49 : decode cX6_isLess 49 = .ok (.ireturn, 1) := by decide +kernel
theorem dX6_miss_0 : decode cX6_miss 0 = .ok (.iload_n 1, 1) := by decide +kernel
theorem dX6_miss_1 : decode cX6_miss 1 = .ok (.invokestatic 111, 3) := by decide +kernel
theorem dX6_miss_4 : decode cX6_miss 4 = .ok (.ifCond .eq 35, 3) := by decide +kernel
theorem dX6_miss_7 : decode cX6_miss 7 = .ok (.iload_n 2, 1) := by decide +kernel
theorem dX6_miss_8 : decode cX6_miss 8 = .ok (.invokestatic 111, 3) := by decide +kernel
theorem dX6_miss_11 : decode cX6_miss 11 = .ok (.ifCond .eq 28, 3) := by decide +kernel
theorem dX6_miss_14 : decode cX6_miss 14 = .ok (.iload_n 3, 1) := by decide +kernel
theorem dX6_miss_15 : decode cX6_miss 15 = .ok (.i2l, 1) := by decide +kernel
theorem dX6_miss_16 : decode cX6_miss 16 = .ok (.lconst 0, 1) := by decide +kernel
theorem dX6_miss_17 : decode cX6_miss 17 = .ok (.ldc2_w 133, 3) := by decide +kernel
theorem dX6_miss_20 : decode cX6_miss 20 = .ok (.invokestatic 61, 3) := by decide +kernel
theorem dX6_miss_23 : decode cX6_miss 23 = .ok (.ifCond .eq 16, 3) := by decide +kernel
theorem dX6_miss_26 : decode cX6_miss 26 = .ok (.iload 4, 2) := by decide +kernel
theorem dX6_miss_28 : decode cX6_miss 28 = .ok (.i2l, 1) := by decide +kernel
theorem dX6_miss_29 : decode cX6_miss 29 = .ok (.lconst 0, 1) := by decide +kernel
theorem dX6_miss_30 : decode cX6_miss 30 = .ok (.ldc2_w 133, 3) := by decide +kernel
theorem dX6_miss_33 : decode cX6_miss 33 = .ok (.invokestatic 61, 3) := by decide +kernel
theorem dX6_miss_36 : decode cX6_miss 36 = .ok (.ifCond .ne 5, 3) := by decide +kernel
theorem dX6_miss_39 : decode cX6_miss 39 = .ok (.iconst (-1), 1) := by decide +kernel
theorem dX6_miss_40 : decode cX6_miss 40 = .ok (.ireturn, 1) := by decide +kernel
theorem dX6_miss_41 : decode cX6_miss 41 = .ok (.iconst 0, 1) := by decide +kernel
theorem dX6_miss_42 : decode cX6_miss 42 = .ok (.istore 5, 2) := by decide +kernel
theorem dX6_miss_44 : decode cX6_miss 44 = .ok (.iload 5, 2) := by decide +kernel
theorem dX6_miss_46 : decode cX6_miss 46 = .ok (.iload_n 3, 1) := by decide +kernel
theorem dX6_miss_47 : decode cX6_miss 47 = .ok (.if_icmp .gt 156, 3) := by decide +kernel
theorem dX6_miss_50 : decode cX6_miss 50 = .ok (.bipush 99, 2) := by decide +kernel
theorem dX6_miss_52 : decode cX6_miss 52 = .ok (.istore 6, 2) := by decide +kernel
theorem dX6_miss_54 : decode cX6_miss 54 = .ok (.iconst 0, 1) := by decide +kernel
theorem dX6_miss_55 : decode cX6_miss 55 = .ok (.istore 7, 2) := by decide +kernel
theorem dX6_miss_57 : decode cX6_miss 57 = .ok (.iconst 0, 1) := by decide +kernel
theorem dX6_miss_58 : decode cX6_miss 58 = .ok (.istore 8, 2) := by decide +kernel
theorem dX6_miss_60 : decode cX6_miss 60 = .ok (.iload 8, 2) := by decide +kernel
theorem dX6_miss_62 : decode cX6_miss 62 = .ok (.iconst 1, 1) := by decide +kernel
theorem dX6_miss_63 : decode cX6_miss 63 = .ok (.aload_n 0, 1) := by decide +kernel
theorem dX6_miss_64 : decode cX6_miss 64 = .ok (.getfield 16, 3) := by decide +kernel
theorem dX6_miss_67 : decode cX6_miss 67 = .ok (.ishl, 1) := by decide +kernel
theorem dX6_miss_68 : decode cX6_miss 68 = .ok (.if_icmp .ge 108, 3) := by decide +kernel
theorem dX6_miss_71 : decode cX6_miss 71 = .ok (.iconst 0, 1) := by decide +kernel
theorem dX6_miss_72 : decode cX6_miss 72 = .ok (.istore 9, 2) := by decide +kernel
theorem dX6_miss_74 : decode cX6_miss 74 = .ok (.iload 9, 2) := by decide +kernel
theorem dX6_miss_76 : decode cX6_miss 76 = .ok (.iconst 1, 1) := by decide +kernel
theorem dX6_miss_77 : decode cX6_miss 77 = .ok (.aload_n 0, 1) := by decide +kernel
theorem dX6_miss_78 : decode cX6_miss 78 = .ok (.getfield 13, 3) := by decide +kernel
theorem dX6_miss_81 : decode cX6_miss 81 = .ok (.ishl, 1) := by decide +kernel
theorem dX6_miss_82 : decode cX6_miss 82 = .ok (.if_icmp .ge 88, 3) := by decide +kernel
theorem dX6_miss_85 : decode cX6_miss 85 = .ok (.iload 8, 2) := by decide +kernel
theorem dX6_miss_87 : decode cX6_miss 87 = .ok (.invokestatic 81, 3) := by decide +kernel
theorem dX6_miss_90 : decode cX6_miss 90 = .ok (.iload 5, 2) := by decide +kernel
theorem dX6_miss_92 : decode cX6_miss 92 = .ok (.if_icmp .ne 78, 3) := by decide +kernel
theorem dX6_miss_95 : decode cX6_miss 95 = .ok (.iload 9, 2) := by decide +kernel
theorem dX6_miss_97 : decode cX6_miss 97 = .ok (.invokestatic 81, 3) := by decide +kernel
theorem dX6_miss_100 : decode cX6_miss 100 = .ok (.iload 4, 2) := by decide +kernel
theorem dX6_miss_102 : decode cX6_miss 102 = .ok (.if_icmp .gt 62, 3) := by decide +kernel
theorem dX6_miss_105 : decode cX6_miss 105 = .ok (.aload_n 0, 1) := by decide +kernel
theorem dX6_miss_106 : decode cX6_miss 106 = .ok (.iload 8, 2) := by decide +kernel
theorem dX6_miss_108 : decode cX6_miss 108 = .ok (.iload 9, 2) := by decide +kernel
theorem dX6_miss_110 : decode cX6_miss 110 = .ok (.iload_n 2, 1) := by decide +kernel
theorem dX6_miss_111 : decode cX6_miss 111 = .ok (.invokevirtual 122, 3) := by decide +kernel
theorem dX6_miss_114 : decode cX6_miss 114 = .ok (.ifCond .eq 50, 3) := by decide +kernel
theorem dX6_miss_117 : decode cX6_miss 117 = .ok (.aload_n 0, 1) := by decide +kernel
theorem dX6_miss_118 : decode cX6_miss 118 = .ok (.iload_n 2, 1) := by decide +kernel
theorem dX6_miss_119 : decode cX6_miss 119 = .ok (.invokevirtual 135, 3) := by decide +kernel
theorem dX6_miss_122 : decode cX6_miss 122 = .ok (.istore 10, 2) := by decide +kernel
theorem dX6_miss_124 : decode cX6_miss 124 = .ok (.iload 10, 2) := by decide +kernel
theorem dX6_miss_126 : decode cX6_miss 126 = .ok (.iload 6, 2) := by decide +kernel
theorem dX6_miss_128 : decode cX6_miss 128 = .ok (.if_icmp .lt 24, 3) := by decide +kernel
theorem dX6_miss_131 : decode cX6_miss 131 = .ok (.iload 10, 2) := by decide +kernel
theorem dX6_miss_133 : decode cX6_miss 133 = .ok (.iload 6, 2) := by decide +kernel
theorem dX6_miss_135 : decode cX6_miss 135 = .ok (.if_icmp .ne 29, 3) := by decide +kernel
theorem dX6_miss_138 : decode cX6_miss 138 = .ok (.iload 8, 2) := by decide +kernel
theorem dX6_miss_140 : decode cX6_miss 140 = .ok (.iload 7, 2) := by decide +kernel
theorem dX6_miss_142 : decode cX6_miss 142 = .ok (.if_icmp .ne 22, 3) := by decide +kernel
theorem dX6_miss_145 : decode cX6_miss 145 = .ok (.aload_n 0, 1) := by decide +kernel
theorem dX6_miss_146 : decode cX6_miss 146 = .ok (.invokevirtual 138, 3) := by decide +kernel
theorem dX6_miss_149 : decode cX6_miss 149 = .ok (.ifCond .eq 15, 3) := by decide +kernel
theorem dX6_miss_152 : decode cX6_miss 152 = .ok (.iload 10, 2) := by decide +kernel
theorem dX6_miss_154 : decode cX6_miss 154 = .ok (.istore 6, 2) := by decide +kernel
theorem dX6_miss_156 : decode cX6_miss 156 = .ok (.iload 8, 2) := by decide +kernel
theorem dX6_miss_158 : decode cX6_miss 158 = .ok (.istore 7, 2) := by decide +kernel
theorem dX6_miss_160 : decode cX6_miss 160 = .ok (.aload_n 0, 1) := by decide +kernel
theorem dX6_miss_161 : decode cX6_miss 161 = .ok (.invokevirtual 126, 3) := by decide +kernel
theorem dX6_miss_164 : decode cX6_miss 164 = .ok (.iinc 9 1, 3) := by decide +kernel
theorem dX6_miss_167 : decode cX6_miss 167 = .ok (.goto (-93), 3) := by decide +kernel
theorem dX6_miss_170 : decode cX6_miss 170 = .ok (.iinc 8 1, 3) := by decide +kernel
theorem dX6_miss_173 : decode cX6_miss 173 = .ok (.goto (-113), 3) := by decide +kernel
theorem dX6_miss_176 : decode cX6_miss 176 = .ok (.iload 6, 2) := by decide +kernel
theorem dX6_miss_178 : decode cX6_miss 178 = .ok (.bipush 99, 2) := by decide +kernel
theorem dX6_miss_180 : decode cX6_miss 180 = .ok (.if_icmp .ge 17, 3) := by decide +kernel
theorem dX6_miss_183 : decode cX6_miss 183 = .ok (.aload_n 0, 1) := by decide +kernel
theorem dX6_miss_184 : decode cX6_miss 184 = .ok (.iload_n 1, 1) := by decide +kernel
theorem dX6_miss_185 : decode cX6_miss 185 = .ok (.invokevirtual 129, 3) := by decide +kernel
theorem dX6_miss_188 : decode cX6_miss 188 = .ok (.iload 5, 2) := by decide +kernel
theorem dX6_miss_190 : decode cX6_miss 190 = .ok (.bipush 100, 2) := by decide +kernel
theorem dX6_miss_192 : decode cX6_miss 192 = .ok (.iload 6, 2) := by decide +kernel
theorem dX6_miss_194 : decode cX6_miss 194 = .ok (.imul, 1) := by decide +kernel
theorem dX6_miss_195 : decode cX6_miss 195 = .ok (.iadd, 1) := by decide +kernel
theorem dX6_miss_196 : decode cX6_miss 196 = .ok (.ireturn, 1) := by decide +kernel
theorem dX6_miss_197 : decode cX6_miss 197 = .ok (.iinc 5 1, 3) := by decide +kernel
theorem dX6_miss_200 : decode cX6_miss 200 = .ok (.goto (-156), 3) := by decide +kernel
theorem dX6_miss_203 : decode cX6_miss 203 = .ok (.bipush (-2), 2) := by decide +kernel
theorem dX6_miss_205 : decode cX6_miss 205 = .ok (.ireturn, 1) := by decide +kernel
theorem dX6_without_0 : decode cX6_without 0 = .ok (.iconst 0, 1) := by decide +kernel
theorem dX6_without_1 : decode cX6_without 1 = .ok (.istore_n 3, 1) := by decide +kernel
theorem dX6_without_2 : decode cX6_without 2 = .ok (.iconst 0, 1) := by decide +kernel
theorem dX6_without_3 : decode cX6_without 3 = .ok (.istore 4, 2) := by decide +kernel
theorem dX6_without_5 : decode cX6_without 5 = .ok (.iload 4, 2) := by decide +kernel
theorem dX6_without_7 : decode cX6_without 7 = .ok (.aload_n 0, 1) := by decide +kernel
theorem dX6_without_8 : decode cX6_without 8 = .ok (.getfield 13, 3) := by decide +kernel
theorem dX6_without_11 : decode cX6_without 11 = .ok (.if_icmp .ge 46, 3) := by decide +kernel
theorem dX6_without_14 : decode cX6_without 14 = .ok (.iload_n 3, 1) := by decide +kernel
theorem dX6_without_15 : decode cX6_without 15 = .ok (.aload_n 0, 1) := by decide +kernel
theorem dX6_without_16 : decode cX6_without 16 = .ok (.aload_n 0, 1) := by decide +kernel
theorem dX6_without_17 : decode cX6_without 17 = .ok (.getfield 54, 3) := by decide +kernel
theorem dX6_without_20 : decode cX6_without 20 = .ok (.iload 4, 2) := by decide +kernel
theorem dX6_without_22 : decode cX6_without 22 = .ok (.iaload, 1) := by decide +kernel
theorem dX6_without_23 : decode cX6_without 23 = .ok (.iload_n 2, 1) := by decide +kernel
theorem dX6_without_24 : decode cX6_without 24 = .ok (.aload_n 0, 1) := by decide +kernel
theorem dX6_without_25 : decode cX6_without 25 = .ok (.getfield 19, 3) := by decide +kernel
theorem dX6_without_28 : decode cX6_without 28 = .ok (.bipush 12, 2) := by decide +kernel
theorem dX6_without_30 : decode cX6_without 30 = .ok (.iload 4, 2) := by decide +kernel
theorem dX6_without_32 : decode cX6_without 32 = .ok (.imul, 1) := by decide +kernel
theorem dX6_without_33 : decode cX6_without 33 = .ok (.iload_n 1, 1) := by decide +kernel
theorem dX6_without_34 : decode cX6_without 34 = .ok (.iadd, 1) := by decide +kernel
theorem dX6_without_35 : decode cX6_without 35 = .ok (.iaload, 1) := by decide +kernel
theorem dX6_without_36 : decode cX6_without 36 = .ok (.imul, 1) := by decide +kernel
theorem dX6_without_37 : decode cX6_without 37 = .ok (.isub, 1) := by decide +kernel
theorem dX6_without_38 : decode cX6_without 38 = .ok (.invokevirtual 77, 3) := by decide +kernel
theorem dX6_without_41 : decode cX6_without 41 = .ok (.ifCond .ne 7, 3) := by decide +kernel
theorem dX6_without_44 : decode cX6_without 44 = .ok (.iconst 0, 1) := by decide +kernel
theorem dX6_without_45 : decode cX6_without 45 = .ok (.goto 4, 3) := by decide +kernel
theorem dX6_without_48 : decode cX6_without 48 = .ok (.iconst 1, 1) := by decide +kernel
theorem dX6_without_49 : decode cX6_without 49 = .ok (.iadd, 1) := by decide +kernel
theorem dX6_without_50 : decode cX6_without 50 = .ok (.istore_n 3, 1) := by decide +kernel
theorem dX6_without_51 : decode cX6_without 51 = .ok (.iinc 4 1, 3) := by decide +kernel
theorem dX6_without_54 : decode cX6_without 54 = .ok (.goto (-49), 3) := by decide +kernel
theorem dX6_without_57 : decode cX6_without 57 = .ok (.iload_n 3, 1) := by decide +kernel
theorem dX6_without_58 : decode cX6_without 58 = .ok (.ireturn, 1) := by decide +kernel
theorem dX6_greedy_0 : decode cX6_greedy 0 = .ok (.iload_n 1, 1) := by decide +kernel
theorem dX6_greedy_1 : decode cX6_greedy 1 = .ok (.invokestatic 111, 3) := by decide +kernel
theorem dX6_greedy_4 : decode cX6_greedy 4 = .ok (.ifCond .eq 22, 3) := by decide +kernel
theorem dX6_greedy_7 : decode cX6_greedy 7 = .ok (.iload_n 2, 1) := by decide +kernel
theorem dX6_greedy_8 : decode cX6_greedy 8 = .ok (.invokestatic 111, 3) := by decide +kernel
theorem dX6_greedy_11 : decode cX6_greedy 11 = .ok (.ifCond .eq 15, 3) := by decide +kernel
theorem dX6_greedy_14 : decode cX6_greedy 14 = .ok (.iload_n 3, 1) := by decide +kernel
theorem dX6_greedy_15 : decode cX6_greedy 15 = .ok (.i2l, 1) := by decide +kernel
theorem dX6_greedy_16 : decode cX6_greedy 16 = .ok (.lconst 0, 1) := by decide +kernel
theorem dX6_greedy_17 : decode cX6_greedy 17 = .ok (.ldc2_w 142, 3) := by decide +kernel
theorem dX6_greedy_20 : decode cX6_greedy 20 = .ok (.invokestatic 61, 3) := by decide +kernel
theorem dX6_greedy_23 : decode cX6_greedy 23 = .ok (.ifCond .ne 5, 3) := by decide +kernel
theorem dX6_greedy_26 : decode cX6_greedy 26 = .ok (.iconst (-1), 1) := by decide +kernel
theorem dX6_greedy_27 : decode cX6_greedy 27 = .ok (.ireturn, 1) := by decide +kernel
theorem dX6_greedy_28 : decode cX6_greedy 28 = .ok (.iconst 0, 1) := by decide +kernel
theorem dX6_greedy_29 : decode cX6_greedy 29 = .ok (.istore 4, 2) := by decide +kernel
theorem dX6_greedy_31 : decode cX6_greedy 31 = .ok (.iload 4, 2) := by decide +kernel
theorem dX6_greedy_33 : decode cX6_greedy 33 = .ok (.aload_n 0, 1) := by decide +kernel
theorem dX6_greedy_34 : decode cX6_greedy 34 = .ok (.getfield 13, 3) := by decide +kernel
theorem dX6_greedy_37 : decode cX6_greedy 37 = .ok (.if_icmp .ge 28, 3) := by decide +kernel
theorem dX6_greedy_40 : decode cX6_greedy 40 = .ok (.aload_n 0, 1) := by decide +kernel
theorem dX6_greedy_41 : decode cX6_greedy 41 = .ok (.getfield 54, 3) := by decide +kernel
theorem dX6_greedy_44 : decode cX6_greedy 44 = .ok (.iload 4, 2) := by decide +kernel
theorem dX6_greedy_46 : decode cX6_greedy 46 = .ok (.aload_n 0, 1) := by decide +kernel
theorem dX6_greedy_47 : decode cX6_greedy 47 = .ok (.getfield 26, 3) := by decide +kernel
theorem dX6_greedy_50 : decode cX6_greedy 50 = .ok (.bipush 6, 2) := by decide +kernel
theorem dX6_greedy_52 : decode cX6_greedy 52 = .ok (.iload_n 2, 1) := by decide +kernel
theorem dX6_greedy_53 : decode cX6_greedy 53 = .ok (.imul, 1) := by decide +kernel
theorem dX6_greedy_54 : decode cX6_greedy 54 = .ok (.iload 4, 2) := by decide +kernel
theorem dX6_greedy_56 : decode cX6_greedy 56 = .ok (.iadd, 1) := by decide +kernel
theorem dX6_greedy_57 : decode cX6_greedy 57 = .ok (.iaload, 1) := by decide +kernel
theorem dX6_greedy_58 : decode cX6_greedy 58 = .ok (.iastore, 1) := by decide +kernel
theorem dX6_greedy_59 : decode cX6_greedy 59 = .ok (.iinc 4 1, 3) := by decide +kernel
theorem dX6_greedy_62 : decode cX6_greedy 62 = .ok (.goto (-31), 3) := by decide +kernel
theorem dX6_greedy_65 : decode cX6_greedy 65 = .ok (.aload_n 0, 1) := by decide +kernel
theorem dX6_greedy_66 : decode cX6_greedy 66 = .ok (.aload_n 0, 1) := by decide +kernel
theorem dX6_greedy_67 : decode cX6_greedy 67 = .ok (.getfield 54, 3) := by decide +kernel
theorem dX6_greedy_70 : decode cX6_greedy 70 = .ok (.iconst 0, 1) := by decide +kernel
theorem dX6_greedy_71 : decode cX6_greedy 71 = .ok (.aload_n 0, 1) := by decide +kernel
theorem dX6_greedy_72 : decode cX6_greedy 72 = .ok (.getfield 13, 3) := by decide +kernel
theorem dX6_greedy_75 : decode cX6_greedy 75 = .ok (.invokevirtual 114, 3) := by decide +kernel
theorem dX6_greedy_78 : decode cX6_greedy 78 = .ok (.istore 4, 2) := by decide +kernel
theorem dX6_greedy_80 : decode cX6_greedy 80 = .ok (.iconst 0, 1) := by decide +kernel
theorem dX6_greedy_81 : decode cX6_greedy 81 = .ok (.istore 5, 2) := by decide +kernel
theorem dX6_greedy_83 : decode cX6_greedy 83 = .ok (.iconst 0, 1) := by decide +kernel
theorem dX6_greedy_84 : decode cX6_greedy 84 = .ok (.istore 6, 2) := by decide +kernel
theorem dX6_greedy_86 : decode cX6_greedy 86 = .ok (.iload 6, 2) := by decide +kernel
theorem dX6_greedy_88 : decode cX6_greedy 88 = .ok (.bipush 12, 2) := by decide +kernel
theorem dX6_greedy_90 : decode cX6_greedy 90 = .ok (.if_icmp .ge 22, 3) := by decide +kernel
theorem dX6_greedy_93 : decode cX6_greedy 93 = .ok (.aload_n 0, 1) := by decide +kernel
theorem dX6_greedy_94 : decode cX6_greedy 94 = .ok (.getfield 23, 3) := by decide +kernel
theorem dX6_greedy_97 : decode cX6_greedy 97 = .ok (.bipush 12, 2) := by decide +kernel
theorem dX6_greedy_99 : decode cX6_greedy 99 = .ok (.iload_n 1, 1) := by decide +kernel
theorem dX6_greedy_100 : decode cX6_greedy 100 = .ok (.imul, 1) := by decide +kernel
theorem dX6_greedy_101 : decode cX6_greedy 101 = .ok (.iload 6, 2) := by decide +kernel
theorem dX6_greedy_103 : decode cX6_greedy 103 = .ok (.iadd, 1) := by decide +kernel
theorem dX6_greedy_104 : decode cX6_greedy 104 = .ok (.iconst 0, 1) := by decide +kernel
theorem dX6_greedy_105 : decode cX6_greedy 105 = .ok (.iastore, 1) := by decide +kernel
theorem dX6_greedy_106 : decode cX6_greedy 106 = .ok (.iinc 6 1, 3) := by decide +kernel
theorem dX6_greedy_109 : decode cX6_greedy 109 = .ok (.goto (-23), 3) := by decide +kernel
theorem dX6_greedy_112 : decode cX6_greedy 112 = .ok (.iconst 1, 1) := by decide +kernel
theorem dX6_greedy_113 : decode cX6_greedy 113 = .ok (.istore 6, 2) := by decide +kernel
theorem dX6_greedy_115 : decode cX6_greedy 115 = .ok (.iconst 0, 1) := by decide +kernel
theorem dX6_greedy_116 : decode cX6_greedy 116 = .ok (.istore 7, 2) := by decide +kernel
theorem dX6_greedy_118 : decode cX6_greedy 118 = .ok (.iload 7, 2) := by decide +kernel
theorem dX6_greedy_120 : decode cX6_greedy 120 = .ok (.iload_n 3, 1) := by decide +kernel
theorem dX6_greedy_121 : decode cX6_greedy 121 = .ok (.if_icmp .ge 203, 3) := by decide +kernel
theorem dX6_greedy_124 : decode cX6_greedy 124 = .ok (.iload 4, 2) := by decide +kernel
theorem dX6_greedy_126 : decode cX6_greedy 126 = .ok (.ifCond .le 198, 3) := by decide +kernel
theorem dX6_greedy_129 : decode cX6_greedy 129 = .ok (.iload 6, 2) := by decide +kernel
theorem dX6_greedy_131 : decode cX6_greedy 131 = .ok (.ifCond .eq 193, 3) := by decide +kernel
theorem dX6_greedy_134 : decode cX6_greedy 134 = .ok (.iconst (-1), 1) := by decide +kernel
theorem dX6_greedy_135 : decode cX6_greedy 135 = .ok (.istore 8, 2) := by decide +kernel
theorem dX6_greedy_137 : decode cX6_greedy 137 = .ok (.iconst 0, 1) := by decide +kernel
theorem dX6_greedy_138 : decode cX6_greedy 138 = .ok (.istore 9, 2) := by decide +kernel
theorem dX6_greedy_140 : decode cX6_greedy 140 = .ok (.iload 4, 2) := by decide +kernel
theorem dX6_greedy_142 : decode cX6_greedy 142 = .ok (.istore 10, 2) := by decide +kernel
theorem dX6_greedy_144 : decode cX6_greedy 144 = .ok (.iconst 0, 1) := by decide +kernel
theorem dX6_greedy_145 : decode cX6_greedy 145 = .ok (.istore 11, 2) := by decide +kernel
theorem dX6_greedy_147 : decode cX6_greedy 147 = .ok (.iload 11, 2) := by decide +kernel
theorem dX6_greedy_149 : decode cX6_greedy 149 = .ok (.aload_n 0, 1) := by decide +kernel
theorem dX6_greedy_150 : decode cX6_greedy 150 = .ok (.getfield 16, 3) := by decide +kernel
theorem dX6_greedy_153 : decode cX6_greedy 153 = .ok (.if_icmp .ge 68, 3) := by decide +kernel
theorem dX6_greedy_156 : decode cX6_greedy 156 = .ok (.iconst 0, 1) := by decide +kernel
theorem dX6_greedy_157 : decode cX6_greedy 157 = .ok (.istore 12, 2) := by decide +kernel
theorem dX6_greedy_159 : decode cX6_greedy 159 = .ok (.iload 12, 2) := by decide +kernel
theorem dX6_greedy_161 : decode cX6_greedy 161 = .ok (.aload_n 0, 1) := by decide +kernel
theorem dX6_greedy_162 : decode cX6_greedy 162 = .ok (.getfield 7, 3) := by decide +kernel
theorem dX6_greedy_165 : decode cX6_greedy 165 = .ok (.if_icmp .ge 50, 3) := by decide +kernel
theorem dX6_greedy_168 : decode cX6_greedy 168 = .ok (.iload 5, 2) := by decide +kernel
theorem dX6_greedy_170 : decode cX6_greedy 170 = .ok (.iload 11, 2) := by decide +kernel
theorem dX6_greedy_172 : decode cX6_greedy 172 = .ok (.ishr, 1) := by decide +kernel
theorem dX6_greedy_173 : decode cX6_greedy 173 = .ok (.iconst 1, 1) := by decide +kernel
theorem dX6_greedy_174 : decode cX6_greedy 174 = .ok (.iand, 1) := by decide +kernel
theorem dX6_greedy_175 : decode cX6_greedy 175 = .ok (.ifCond .ne 40, 3) := by decide +kernel
theorem dX6_greedy_178 : decode cX6_greedy 178 = .ok (.aload_n 0, 1) := by decide +kernel
theorem dX6_greedy_179 : decode cX6_greedy 179 = .ok (.iload 11, 2) := by decide +kernel
theorem dX6_greedy_181 : decode cX6_greedy 181 = .ok (.iload 12, 2) := by decide +kernel
theorem dX6_greedy_183 : decode cX6_greedy 183 = .ok (.invokevirtual 144, 3) := by decide +kernel
theorem dX6_greedy_186 : decode cX6_greedy 186 = .ok (.iload 10, 2) := by decide +kernel
theorem dX6_greedy_188 : decode cX6_greedy 188 = .ok (.if_icmp .ge 21, 3) := by decide +kernel
theorem dX6_greedy_191 : decode cX6_greedy 191 = .ok (.aload_n 0, 1) := by decide +kernel
theorem dX6_greedy_192 : decode cX6_greedy 192 = .ok (.iload 11, 2) := by decide +kernel
theorem dX6_greedy_194 : decode cX6_greedy 194 = .ok (.iload 12, 2) := by decide +kernel
theorem dX6_greedy_196 : decode cX6_greedy 196 = .ok (.invokevirtual 144, 3) := by decide +kernel
theorem dX6_greedy_199 : decode cX6_greedy 199 = .ok (.istore 10, 2) := by decide +kernel
theorem dX6_greedy_201 : decode cX6_greedy 201 = .ok (.iload 11, 2) := by decide +kernel
theorem dX6_greedy_203 : decode cX6_greedy 203 = .ok (.istore 8, 2) := by decide +kernel
theorem dX6_greedy_205 : decode cX6_greedy 205 = .ok (.iload 12, 2) := by decide +kernel
theorem dX6_greedy_207 : decode cX6_greedy 207 = .ok (.istore 9, 2) := by decide +kernel
theorem dX6_greedy_209 : decode cX6_greedy 209 = .ok (.iinc 12 1, 3) := by decide +kernel
theorem dX6_greedy_212 : decode cX6_greedy 212 = .ok (.goto (-53), 3) := by decide +kernel
theorem dX6_greedy_215 : decode cX6_greedy 215 = .ok (.iinc 11 1, 3) := by decide +kernel
theorem dX6_greedy_218 : decode cX6_greedy 218 = .ok (.goto (-71), 3) := by decide +kernel
theorem dX6_greedy_221 : decode cX6_greedy 221 = .ok (.iload 8, 2) := by decide +kernel
theorem dX6_greedy_223 : decode cX6_greedy 223 = .ok (.ifCond .lt 7, 3) := by decide +kernel
theorem dX6_greedy_226 : decode cX6_greedy 226 = .ok (.iconst 1, 1) := by decide +kernel
theorem dX6_greedy_227 : decode cX6_greedy 227 = .ok (.goto 4, 3) := by decide +kernel
theorem dX6_greedy_230 : decode cX6_greedy 230 = .ok (.iconst 0, 1) := by decide +kernel
theorem dX6_greedy_231 : decode cX6_greedy 231 = .ok (.istore 6, 2) := by decide +kernel
theorem dX6_greedy_233 : decode cX6_greedy 233 = .ok (.iload 6, 2) := by decide +kernel
theorem dX6_greedy_235 : decode cX6_greedy 235 = .ok (.ifCond .eq 83, 3) := by decide +kernel
theorem dX6_greedy_238 : decode cX6_greedy 238 = .ok (.iconst 0, 1) := by decide +kernel
theorem dX6_greedy_239 : decode cX6_greedy 239 = .ok (.istore 11, 2) := by decide +kernel
theorem dX6_greedy_241 : decode cX6_greedy 241 = .ok (.iload 11, 2) := by decide +kernel
theorem dX6_greedy_243 : decode cX6_greedy 243 = .ok (.aload_n 0, 1) := by decide +kernel
theorem dX6_greedy_244 : decode cX6_greedy 244 = .ok (.getfield 13, 3) := by decide +kernel
theorem dX6_greedy_247 : decode cX6_greedy 247 = .ok (.if_icmp .ge 44, 3) := by decide +kernel
theorem dX6_greedy_250 : decode cX6_greedy 250 = .ok (.aload_n 0, 1) := by decide +kernel
theorem dX6_greedy_251 : decode cX6_greedy 251 = .ok (.getfield 54, 3) := by decide +kernel
theorem dX6_greedy_254 : decode cX6_greedy 254 = .ok (.iload 11, 2) := by decide +kernel
theorem dX6_greedy_256 : decode cX6_greedy 256 = .ok (.aload_n 0, 1) := by decide +kernel
theorem dX6_greedy_257 : decode cX6_greedy 257 = .ok (.aload_n 0, 1) := by decide +kernel
theorem dX6_greedy_258 : decode cX6_greedy 258 = .ok (.getfield 54, 3) := by decide +kernel
theorem dX6_greedy_261 : decode cX6_greedy 261 = .ok (.iload 11, 2) := by decide +kernel
theorem dX6_greedy_263 : decode cX6_greedy 263 = .ok (.iaload, 1) := by decide +kernel
theorem dX6_greedy_264 : decode cX6_greedy 264 = .ok (.iload 9, 2) := by decide +kernel
theorem dX6_greedy_266 : decode cX6_greedy 266 = .ok (.aload_n 0, 1) := by decide +kernel
theorem dX6_greedy_267 : decode cX6_greedy 267 = .ok (.getfield 19, 3) := by decide +kernel
theorem dX6_greedy_270 : decode cX6_greedy 270 = .ok (.bipush 12, 2) := by decide +kernel
theorem dX6_greedy_272 : decode cX6_greedy 272 = .ok (.iload 11, 2) := by decide +kernel
theorem dX6_greedy_274 : decode cX6_greedy 274 = .ok (.imul, 1) := by decide +kernel
theorem dX6_greedy_275 : decode cX6_greedy 275 = .ok (.iload 8, 2) := by decide +kernel
theorem dX6_greedy_277 : decode cX6_greedy 277 = .ok (.iadd, 1) := by decide +kernel
theorem dX6_greedy_278 : decode cX6_greedy 278 = .ok (.iaload, 1) := by decide +kernel
theorem dX6_greedy_279 : decode cX6_greedy 279 = .ok (.imul, 1) := by decide +kernel
theorem dX6_greedy_280 : decode cX6_greedy 280 = .ok (.isub, 1) := by decide +kernel
theorem dX6_greedy_281 : decode cX6_greedy 281 = .ok (.invokevirtual 77, 3) := by decide +kernel
theorem dX6_greedy_284 : decode cX6_greedy 284 = .ok (.iastore, 1) := by decide +kernel
theorem dX6_greedy_285 : decode cX6_greedy 285 = .ok (.iinc 11 1, 3) := by decide +kernel
theorem dX6_greedy_288 : decode cX6_greedy 288 = .ok (.goto (-47), 3) := by decide +kernel
theorem dX6_greedy_291 : decode cX6_greedy 291 = .ok (.aload_n 0, 1) := by decide +kernel
theorem dX6_greedy_292 : decode cX6_greedy 292 = .ok (.getfield 23, 3) := by decide +kernel
theorem dX6_greedy_295 : decode cX6_greedy 295 = .ok (.bipush 12, 2) := by decide +kernel
theorem dX6_greedy_297 : decode cX6_greedy 297 = .ok (.iload_n 1, 1) := by decide +kernel
theorem dX6_greedy_298 : decode cX6_greedy 298 = .ok (.imul, 1) := by decide +kernel
theorem dX6_greedy_299 : decode cX6_greedy 299 = .ok (.iload 8, 2) := by decide +kernel
theorem dX6_greedy_301 : decode cX6_greedy 301 = .ok (.iadd, 1) := by decide +kernel
theorem dX6_greedy_302 : decode cX6_greedy 302 = .ok (.iload 9, 2) := by decide +kernel
theorem dX6_greedy_304 : decode cX6_greedy 304 = .ok (.iastore, 1) := by decide +kernel
theorem dX6_greedy_305 : decode cX6_greedy 305 = .ok (.iload 5, 2) := by decide +kernel
theorem dX6_greedy_307 : decode cX6_greedy 307 = .ok (.iconst 1, 1) := by decide +kernel
theorem dX6_greedy_308 : decode cX6_greedy 308 = .ok (.iload 8, 2) := by decide +kernel
theorem dX6_greedy_310 : decode cX6_greedy 310 = .ok (.ishl, 1) := by decide +kernel
theorem dX6_greedy_311 : decode cX6_greedy 311 = .ok (.ior, 1) := by decide +kernel
theorem dX6_greedy_312 : decode cX6_greedy 312 = .ok (.istore 5, 2) := by decide +kernel
theorem dX6_greedy_314 : decode cX6_greedy 314 = .ok (.iload 10, 2) := by decide +kernel
theorem dX6_greedy_316 : decode cX6_greedy 316 = .ok (.istore 4, 2) := by decide +kernel
theorem dX6_greedy_318 : decode cX6_greedy 318 = .ok (.iinc 7 1, 3) := by decide +kernel
theorem dX6_greedy_321 : decode cX6_greedy 321 = .ok (.goto (-203), 3) := by decide +kernel
theorem dX6_greedy_324 : decode cX6_greedy 324 = .ok (.iload 4, 2) := by decide +kernel
theorem dX6_greedy_326 : decode cX6_greedy 326 = .ok (.ifCond .ne 32, 3) := by decide +kernel
theorem dX6_greedy_329 : decode cX6_greedy 329 = .ok (.iconst 2, 1) := by decide +kernel
theorem dX6_greedy_330 : decode cX6_greedy 330 = .ok (.aload_n 0, 1) := by decide +kernel
theorem dX6_greedy_331 : decode cX6_greedy 331 = .ok (.aload_n 0, 1) := by decide +kernel
theorem dX6_greedy_332 : decode cX6_greedy 332 = .ok (.getfield 23, 3) := by decide +kernel
theorem dX6_greedy_335 : decode cX6_greedy 335 = .ok (.bipush 12, 2) := by decide +kernel
theorem dX6_greedy_337 : decode cX6_greedy 337 = .ok (.iload_n 1, 1) := by decide +kernel
theorem dX6_greedy_338 : decode cX6_greedy 338 = .ok (.imul, 1) := by decide +kernel
theorem dX6_greedy_339 : decode cX6_greedy 339 = .ok (.aload_n 0, 1) := by decide +kernel
theorem dX6_greedy_340 : decode cX6_greedy 340 = .ok (.getfield 16, 3) := by decide +kernel
theorem dX6_greedy_343 : decode cX6_greedy 343 = .ok (.invokevirtual 114, 3) := by decide +kernel
theorem dX6_greedy_346 : decode cX6_greedy 346 = .ok (.imul, 1) := by decide +kernel
theorem dX6_greedy_347 : decode cX6_greedy 347 = .ok (.aload_n 0, 1) := by decide +kernel
theorem dX6_greedy_348 : decode cX6_greedy 348 = .ok (.invokevirtual 102, 3) := by decide +kernel
theorem dX6_greedy_351 : decode cX6_greedy 351 = .ok (.if_icmp .ge 7, 3) := by decide +kernel
theorem dX6_greedy_354 : decode cX6_greedy 354 = .ok (.iconst 1, 1) := by decide +kernel
theorem dX6_greedy_355 : decode cX6_greedy 355 = .ok (.goto 4, 3) := by decide +kernel
theorem dX6_greedy_358 : decode cX6_greedy 358 = .ok (.iconst 0, 1) := by decide +kernel
theorem dX6_greedy_359 : decode cX6_greedy 359 = .ok (.istore 7, 2) := by decide +kernel
theorem dX6_greedy_361 : decode cX6_greedy 361 = .ok (.iload 4, 2) := by decide +kernel
theorem dX6_greedy_363 : decode cX6_greedy 363 = .ok (.iload 7, 2) := by decide +kernel
theorem dX6_greedy_365 : decode cX6_greedy 365 = .ok (.ifCond .eq 8, 3) := by decide +kernel
theorem dX6_greedy_368 : decode cX6_greedy 368 = .ok (.bipush 100, 2) := by decide +kernel
theorem dX6_greedy_370 : decode cX6_greedy 370 = .ok (.goto 4, 3) := by decide +kernel
theorem dX6_greedy_373 : decode cX6_greedy 373 = .ok (.iconst 0, 1) := by decide +kernel
theorem dX6_greedy_374 : decode cX6_greedy 374 = .ok (.iadd, 1) := by decide +kernel
theorem dX6_greedy_375 : decode cX6_greedy 375 = .ok (.ireturn, 1) := by decide +kernel
theorem dX6_sketch_0 : decode cX6_sketch 0 = .ok (.iload_n 1, 1) := by decide +kernel
theorem dX6_sketch_1 : decode cX6_sketch 1 = .ok (.i2l, 1) := by decide +kernel
theorem dX6_sketch_2 : decode cX6_sketch 2 = .ok (.lconst 1, 1) := by decide +kernel
theorem dX6_sketch_3 : decode cX6_sketch 3 = .ok (.ldc2_w 120, 3) := by decide +kernel
theorem dX6_sketch_6 : decode cX6_sketch 6 = .ok (.invokestatic 61, 3) := by decide +kernel
theorem dX6_sketch_9 : decode cX6_sketch 9 = .ok (.ifCond .eq 17, 3) := by decide +kernel
theorem dX6_sketch_12 : decode cX6_sketch 12 = .ok (.iload_n 2, 1) := by decide +kernel
theorem dX6_sketch_13 : decode cX6_sketch 13 = .ok (.i2l, 1) := by decide +kernel
theorem dX6_sketch_14 : decode cX6_sketch 14 = .ok (.ldc2_w 57, 3) := by decide +kernel
theorem dX6_sketch_17 : decode cX6_sketch 17 = .ok (.ldc2_w 148, 3) := by decide +kernel
theorem dX6_sketch_20 : decode cX6_sketch 20 = .ok (.invokestatic 61, 3) := by decide +kernel
theorem dX6_sketch_23 : decode cX6_sketch 23 = .ok (.ifCond .ne 5, 3) := by decide +kernel
theorem dX6_sketch_26 : decode cX6_sketch 26 = .ok (.iconst (-1), 1) := by decide +kernel
theorem dX6_sketch_27 : decode cX6_sketch 27 = .ok (.ireturn, 1) := by decide +kernel
theorem dX6_sketch_28 : decode cX6_sketch 28 = .ok (.aload_n 0, 1) := by decide +kernel
theorem dX6_sketch_29 : decode cX6_sketch 29 = .ok (.iload_n 1, 1) := by decide +kernel
theorem dX6_sketch_30 : decode cX6_sketch 30 = .ok (.putfield 29, 3) := by decide +kernel
theorem dX6_sketch_33 : decode cX6_sketch 33 = .ok (.aload_n 0, 1) := by decide +kernel
theorem dX6_sketch_34 : decode cX6_sketch 34 = .ok (.iload_n 2, 1) := by decide +kernel
theorem dX6_sketch_35 : decode cX6_sketch 35 = .ok (.putfield 32, 3) := by decide +kernel
theorem dX6_sketch_38 : decode cX6_sketch 38 = .ok (.aload_n 0, 1) := by decide +kernel
theorem dX6_sketch_39 : decode cX6_sketch 39 = .ok (.iconst 0, 1) := by decide +kernel
theorem dX6_sketch_40 : decode cX6_sketch 40 = .ok (.putfield 150, 3) := by decide +kernel
theorem dX6_sketch_43 : decode cX6_sketch 43 = .ok (.aload_n 0, 1) := by decide +kernel
theorem dX6_sketch_44 : decode cX6_sketch 44 = .ok (.iconst 0, 1) := by decide +kernel
theorem dX6_sketch_45 : decode cX6_sketch 45 = .ok (.putfield 153, 3) := by decide +kernel
theorem dX6_sketch_48 : decode cX6_sketch 48 = .ok (.iconst 0, 1) := by decide +kernel
theorem dX6_sketch_49 : decode cX6_sketch 49 = .ok (.istore_n 3, 1) := by decide +kernel
theorem dX6_sketch_50 : decode cX6_sketch 50 = .ok (.iload_n 3, 1) := by decide +kernel
theorem dX6_sketch_51 : decode cX6_sketch 51 = .ok (.sipush 768, 3) := by decide +kernel
theorem dX6_sketch_54 : decode cX6_sketch 54 = .ok (.if_icmp .ge 16, 3) := by decide +kernel
theorem dX6_sketch_57 : decode cX6_sketch 57 = .ok (.aload_n 0, 1) := by decide +kernel
theorem dX6_sketch_58 : decode cX6_sketch 58 = .ok (.getfield 35, 3) := by decide +kernel
theorem dX6_sketch_61 : decode cX6_sketch 61 = .ok (.iload_n 3, 1) := by decide +kernel
theorem dX6_sketch_62 : decode cX6_sketch 62 = .ok (.lconst 0, 1) := by decide +kernel
theorem dX6_sketch_63 : decode cX6_sketch 63 = .ok (.lastore, 1) := by decide +kernel
theorem dX6_sketch_64 : decode cX6_sketch 64 = .ok (.iinc 3 1, 3) := by decide +kernel
theorem dX6_sketch_67 : decode cX6_sketch 67 = .ok (.goto (-17), 3) := by decide +kernel
theorem dX6_sketch_70 : decode cX6_sketch 70 = .ok (.iconst 0, 1) := by decide +kernel
theorem dX6_sketch_71 : decode cX6_sketch 71 = .ok (.ireturn, 1) := by decide +kernel
theorem dX6_bucketOf_0 : decode cX6_bucketOf 0 = .ok (.iload_n 2, 1) := by decide +kernel
theorem dX6_bucketOf_1 : decode cX6_bucketOf 1 = .ok (.i2l, 1) := by decide +kernel
theorem dX6_bucketOf_2 : decode cX6_bucketOf 2 = .ok (.iconst 2, 1) := by decide +kernel
theorem dX6_bucketOf_3 : decode cX6_bucketOf 3 = .ok (.iload_n 1, 1) := by decide +kernel
theorem dX6_bucketOf_4 : decode cX6_bucketOf 4 = .ok (.imul, 1) := by decide +kernel
theorem dX6_bucketOf_5 : decode cX6_bucketOf 5 = .ok (.iconst 3, 1) := by decide +kernel
theorem dX6_bucketOf_6 : decode cX6_bucketOf 6 = .ok (.iadd, 1) := by decide +kernel
theorem dX6_bucketOf_7 : decode cX6_bucketOf 7 = .ok (.i2l, 1) := by decide +kernel
theorem dX6_bucketOf_8 : decode cX6_bucketOf 8 = .ok (.lmul, 1) := by decide +kernel
theorem dX6_bucketOf_9 : decode cX6_bucketOf 9 = .ok (.iload_n 2, 1) := by decide +kernel
theorem dX6_bucketOf_10 : decode cX6_bucketOf 10 = .ok (.iconst 5, 1) := by decide +kernel
theorem dX6_bucketOf_11 : decode cX6_bucketOf 11 = .ok (.iload_n 1, 1) := by decide +kernel
theorem dX6_bucketOf_12 : decode cX6_bucketOf 12 = .ok (.imul, 1) := by decide +kernel
theorem dX6_bucketOf_13 : decode cX6_bucketOf 13 = .ok (.bipush 7, 2) := by decide +kernel
theorem dX6_bucketOf_15 : decode cX6_bucketOf 15 = .ok (.iadd, 1) := by decide +kernel
theorem dX6_bucketOf_16 : decode cX6_bucketOf 16 = .ok (.idiv, 1) := by decide +kernel
theorem dX6_bucketOf_17 : decode cX6_bucketOf 17 = .ok (.i2l, 1) := by decide +kernel
theorem dX6_bucketOf_18 : decode cX6_bucketOf 18 = .ok (.ladd, 1) := by decide +kernel
theorem dX6_bucketOf_19 : decode cX6_bucketOf 19 = .ok (.aload_n 0, 1) := by decide +kernel
theorem dX6_bucketOf_20 : decode cX6_bucketOf 20 = .ok (.getfield 32, 3) := by decide +kernel
theorem dX6_bucketOf_23 : decode cX6_bucketOf 23 = .ok (.i2l, 1) := by decide +kernel
theorem dX6_bucketOf_24 : decode cX6_bucketOf 24 = .ok (.lrem, 1) := by decide +kernel
theorem dX6_bucketOf_25 : decode cX6_bucketOf 25 = .ok (.l2i, 1) := by decide +kernel
theorem dX6_bucketOf_26 : decode cX6_bucketOf 26 = .ok (.ireturn, 1) := by decide +kernel
theorem dX6_third_0 : decode cX6_third 0 = .ok (.lload_n 0, 1) := by decide +kernel
theorem dX6_third_1 : decode cX6_third 1 = .ok (.ldc2_w 156, 3) := by decide +kernel
theorem dX6_third_4 : decode cX6_third 4 = .ok (.lrem, 1) := by decide +kernel
theorem dX6_third_5 : decode cX6_third 5 = .ok (.lstore_n 2, 1) := by decide +kernel
theorem dX6_third_6 : decode cX6_third 6 = .ok (.lload_n 2, 1) := by decide +kernel
theorem dX6_third_7 : decode cX6_third 7 = .ok (.lconst 0, 1) := by decide +kernel
theorem dX6_third_8 : decode cX6_third 8 = .ok (.lcmp, 1) := by decide +kernel
theorem dX6_third_9 : decode cX6_third 9 = .ok (.ifCond .ge 11, 3) := by decide +kernel
theorem dX6_third_12 : decode cX6_third 12 = .ok (.lload_n 2, 1) := by decide +kernel
theorem dX6_third_13 : decode cX6_third 13 = .ok (.ldc2_w 156, 3) := by decide +kernel
theorem dX6_third_16 : decode cX6_third 16 = .ok (.ladd, 1) := by decide +kernel
theorem dX6_third_17 : decode cX6_third 17 = .ok (.goto 4, 3) := by decide +kernel
theorem dX6_third_20 : decode cX6_third 20 = .ok (.lload_n 2, 1) := by decide +kernel
theorem dX6_third_21 : decode cX6_third 21 = .ok (.lreturn, 1) := by decide +kernel
theorem dX6_adds_0 : decode cX6_adds 0 = .ok (.iconst 0, 1) := by decide +kernel
theorem dX6_adds_1 : decode cX6_adds 1 = .ok (.istore 5, 2) := by decide +kernel
theorem dX6_adds_3 : decode cX6_adds 3 = .ok (.iload 5, 2) := by decide +kernel
theorem dX6_adds_5 : decode cX6_adds 5 = .ok (.aload_n 0, 1) := by decide +kernel
theorem dX6_adds_6 : decode cX6_adds 6 = .ok (.getfield 29, 3) := by decide +kernel
theorem dX6_adds_9 : decode cX6_adds 9 = .ok (.if_icmp .ge 93, 3) := by decide +kernel
theorem dX6_adds_12 : decode cX6_adds 12 = .ok (.iload_n 1, 1) := by decide +kernel
theorem dX6_adds_13 : decode cX6_adds 13 = .ok (.bipush 96, 2) := by decide +kernel
theorem dX6_adds_15 : decode cX6_adds 15 = .ok (.iload 5, 2) := by decide +kernel
theorem dX6_adds_17 : decode cX6_adds 17 = .ok (.imul, 1) := by decide +kernel
theorem dX6_adds_18 : decode cX6_adds 18 = .ok (.iadd, 1) := by decide +kernel
theorem dX6_adds_19 : decode cX6_adds 19 = .ok (.iconst 3, 1) := by decide +kernel
theorem dX6_adds_20 : decode cX6_adds 20 = .ok (.aload_n 0, 1) := by decide +kernel
theorem dX6_adds_21 : decode cX6_adds 21 = .ok (.iload 5, 2) := by decide +kernel
theorem dX6_adds_23 : decode cX6_adds 23 = .ok (.iload_n 2, 1) := by decide +kernel
theorem dX6_adds_24 : decode cX6_adds 24 = .ok (.invokevirtual 158, 3) := by decide +kernel
theorem dX6_adds_27 : decode cX6_adds 27 = .ok (.imul, 1) := by decide +kernel
theorem dX6_adds_28 : decode cX6_adds 28 = .ok (.iadd, 1) := by decide +kernel
theorem dX6_adds_29 : decode cX6_adds 29 = .ok (.istore 6, 2) := by decide +kernel
theorem dX6_adds_31 : decode cX6_adds 31 = .ok (.aload_n 0, 1) := by decide +kernel
theorem dX6_adds_32 : decode cX6_adds 32 = .ok (.getfield 35, 3) := by decide +kernel
theorem dX6_adds_35 : decode cX6_adds 35 = .ok (.iload 6, 2) := by decide +kernel
theorem dX6_adds_37 : decode cX6_adds 37 = .ok (.dup2, 1) := by decide +kernel
theorem dX6_adds_38 : decode cX6_adds 38 = .ok (.laload, 1) := by decide +kernel
theorem dX6_adds_39 : decode cX6_adds 39 = .ok (.lload_n 3, 1) := by decide +kernel
theorem dX6_adds_40 : decode cX6_adds 40 = .ok (.ladd, 1) := by decide +kernel
theorem dX6_adds_41 : decode cX6_adds 41 = .ok (.lastore, 1) := by decide +kernel
theorem dX6_adds_42 : decode cX6_adds 42 = .ok (.aload_n 0, 1) := by decide +kernel
theorem dX6_adds_43 : decode cX6_adds 43 = .ok (.getfield 35, 3) := by decide +kernel
theorem dX6_adds_46 : decode cX6_adds 46 = .ok (.iload 6, 2) := by decide +kernel
theorem dX6_adds_48 : decode cX6_adds 48 = .ok (.iconst 1, 1) := by decide +kernel
theorem dX6_adds_49 : decode cX6_adds 49 = .ok (.iadd, 1) := by decide +kernel
theorem dX6_adds_50 : decode cX6_adds 50 = .ok (.dup2, 1) := by decide +kernel
theorem dX6_adds_51 : decode cX6_adds 51 = .ok (.laload, 1) := by decide +kernel
theorem dX6_adds_52 : decode cX6_adds 52 = .ok (.lload_n 3, 1) := by decide +kernel
theorem dX6_adds_53 : decode cX6_adds 53 = .ok (.iload_n 2, 1) := by decide +kernel
theorem dX6_adds_54 : decode cX6_adds 54 = .ok (.i2l, 1) := by decide +kernel
theorem dX6_adds_55 : decode cX6_adds 55 = .ok (.lmul, 1) := by decide +kernel
theorem dX6_adds_56 : decode cX6_adds 56 = .ok (.ladd, 1) := by decide +kernel
theorem dX6_adds_57 : decode cX6_adds 57 = .ok (.lastore, 1) := by decide +kernel
theorem dX6_adds_58 : decode cX6_adds 58 = .ok (.aload_n 0, 1) := by decide +kernel
theorem dX6_adds_59 : decode cX6_adds 59 = .ok (.getfield 35, 3) := by decide +kernel
theorem dX6_adds_62 : decode cX6_adds 62 = .ok (.iload 6, 2) := by decide +kernel
theorem dX6_adds_64 : decode cX6_adds 64 = .ok (.iconst 2, 1) := by decide +kernel
theorem dX6_adds_65 : decode cX6_adds 65 = .ok (.iadd, 1) := by decide +kernel
theorem dX6_adds_66 : decode cX6_adds 66 = .ok (.aload_n 0, 1) := by decide +kernel
theorem dX6_adds_67 : decode cX6_adds 67 = .ok (.getfield 35, 3) := by decide +kernel
theorem dX6_adds_70 : decode cX6_adds 70 = .ok (.iload 6, 2) := by decide +kernel
theorem dX6_adds_72 : decode cX6_adds 72 = .ok (.iconst 2, 1) := by decide +kernel
theorem dX6_adds_73 : decode cX6_adds 73 = .ok (.iadd, 1) := by decide +kernel
theorem dX6_adds_74 : decode cX6_adds 74 = .ok (.laload, 1) := by decide +kernel
theorem dX6_adds_75 : decode cX6_adds 75 = .ok (.lload_n 3, 1) := by decide +kernel
theorem dX6_adds_76 : decode cX6_adds 76 = .ok (.invokestatic 161, 3) := by decide +kernel
theorem dX6_adds_79 : decode cX6_adds 79 = .ok (.iload_n 2, 1) := by decide +kernel
theorem dX6_adds_80 : decode cX6_adds 80 = .ok (.i2l, 1) := by decide +kernel
theorem dX6_adds_81 : decode cX6_adds 81 = .ok (.iload_n 2, 1) := by decide +kernel
theorem dX6_adds_82 : decode cX6_adds 82 = .ok (.i2l, 1) := by decide +kernel
theorem dX6_adds_83 : decode cX6_adds 83 = .ok (.lmul, 1) := by decide +kernel
theorem dX6_adds_84 : decode cX6_adds 84 = .ok (.invokestatic 161, 3) := by decide +kernel
theorem dX6_adds_87 : decode cX6_adds 87 = .ok (.lmul, 1) := by decide +kernel
theorem dX6_adds_88 : decode cX6_adds 88 = .ok (.invokestatic 161, 3) := by decide +kernel
theorem dX6_adds_91 : decode cX6_adds 91 = .ok (.ladd, 1) := by decide +kernel
theorem dX6_adds_92 : decode cX6_adds 92 = .ok (.invokestatic 161, 3) := by decide +kernel
theorem dX6_adds_95 : decode cX6_adds 95 = .ok (.lastore, 1) := by decide +kernel
theorem dX6_adds_96 : decode cX6_adds 96 = .ok (.iinc 5 1, 3) := by decide +kernel
theorem dX6_adds_99 : decode cX6_adds 99 = .ok (.goto (-96), 3) := by decide +kernel
theorem dX6_adds_102 : decode cX6_adds 102 = .ok (.return_, 1) := by decide +kernel
theorem dX6_add_0 : decode cX6_add 0 = .ok (.iload_n 1, 1) := by decide +kernel
theorem dX6_add_1 : decode cX6_add 1 = .ok (.i2l, 1) := by decide +kernel
theorem dX6_add_2 : decode cX6_add 2 = .ok (.lconst 0, 1) := by decide +kernel
theorem dX6_add_3 : decode cX6_add 3 = .ok (.ldc2_w 165, 3) := by decide +kernel
theorem dX6_add_6 : decode cX6_add 6 = .ok (.invokestatic 61, 3) := by decide +kernel
theorem dX6_add_9 : decode cX6_add 9 = .ok (.ifCond .eq 17, 3) := by decide +kernel
theorem dX6_add_12 : decode cX6_add 12 = .ok (.iload_n 2, 1) := by decide +kernel
theorem dX6_add_13 : decode cX6_add 13 = .ok (.i2l, 1) := by decide +kernel
theorem dX6_add_14 : decode cX6_add 14 = .ok (.ldc2_w 167, 3) := by decide +kernel
theorem dX6_add_17 : decode cX6_add 17 = .ok (.ldc2_w 169, 3) := by decide +kernel
theorem dX6_add_20 : decode cX6_add 20 = .ok (.invokestatic 61, 3) := by decide +kernel
theorem dX6_add_23 : decode cX6_add 23 = .ok (.ifCond .ne 5, 3) := by decide +kernel
theorem dX6_add_26 : decode cX6_add 26 = .ok (.iconst (-1), 1) := by decide +kernel
theorem dX6_add_27 : decode cX6_add 27 = .ok (.ireturn, 1) := by decide +kernel
theorem dX6_add_28 : decode cX6_add 28 = .ok (.aload_n 0, 1) := by decide +kernel
theorem dX6_add_29 : decode cX6_add 29 = .ok (.getfield 150, 3) := by decide +kernel
theorem dX6_add_32 : decode cX6_add 32 = .ok (.ldc 171, 2) := by decide +kernel
theorem dX6_add_34 : decode cX6_add 34 = .ok (.if_icmp .ne 6, 3) := by decide +kernel
theorem dX6_add_37 : decode cX6_add 37 = .ok (.bipush (-3), 2) := by decide +kernel
theorem dX6_add_39 : decode cX6_add 39 = .ok (.ireturn, 1) := by decide +kernel
theorem dX6_add_40 : decode cX6_add 40 = .ok (.aload_n 0, 1) := by decide +kernel
theorem dX6_add_41 : decode cX6_add 41 = .ok (.iconst 0, 1) := by decide +kernel
theorem dX6_add_42 : decode cX6_add 42 = .ok (.iload_n 1, 1) := by decide +kernel
theorem dX6_add_43 : decode cX6_add 43 = .ok (.iload_n 2, 1) := by decide +kernel
theorem dX6_add_44 : decode cX6_add 44 = .ok (.i2l, 1) := by decide +kernel
theorem dX6_add_45 : decode cX6_add 45 = .ok (.invokevirtual 172, 3) := by decide +kernel
theorem dX6_add_48 : decode cX6_add 48 = .ok (.aload_n 0, 1) := by decide +kernel
theorem dX6_add_49 : decode cX6_add 49 = .ok (.dup, 1) := by decide +kernel
theorem dX6_add_50 : decode cX6_add 50 = .ok (.getfield 150, 3) := by decide +kernel
theorem dX6_add_53 : decode cX6_add 53 = .ok (.iconst 1, 1) := by decide +kernel
theorem dX6_add_54 : decode cX6_add 54 = .ok (.iadd, 1) := by decide +kernel
theorem dX6_add_55 : decode cX6_add 55 = .ok (.putfield 150, 3) := by decide +kernel
theorem dX6_add_58 : decode cX6_add 58 = .ok (.aload_n 0, 1) := by decide +kernel
theorem dX6_add_59 : decode cX6_add 59 = .ok (.getfield 150, 3) := by decide +kernel
theorem dX6_add_62 : decode cX6_add 62 = .ok (.ireturn, 1) := by decide +kernel
theorem dX6_single_0 : decode cX6_single 0 = .ok (.sipush 384, 3) := by decide +kernel
theorem dX6_single_3 : decode cX6_single 3 = .ok (.bipush 96, 2) := by decide +kernel
theorem dX6_single_5 : decode cX6_single 5 = .ok (.iload_n 1, 1) := by decide +kernel
theorem dX6_single_6 : decode cX6_single 6 = .ok (.imul, 1) := by decide +kernel
theorem dX6_single_7 : decode cX6_single 7 = .ok (.iadd, 1) := by decide +kernel
theorem dX6_single_8 : decode cX6_single 8 = .ok (.iconst 3, 1) := by decide +kernel
theorem dX6_single_9 : decode cX6_single 9 = .ok (.iload_n 2, 1) := by decide +kernel
theorem dX6_single_10 : decode cX6_single 10 = .ok (.imul, 1) := by decide +kernel
theorem dX6_single_11 : decode cX6_single 11 = .ok (.iadd, 1) := by decide +kernel
theorem dX6_single_12 : decode cX6_single 12 = .ok (.istore_n 3, 1) := by decide +kernel
theorem dX6_single_13 : decode cX6_single 13 = .ok (.aload_n 0, 1) := by decide +kernel
theorem dX6_single_14 : decode cX6_single 14 = .ok (.getfield 35, 3) := by decide +kernel
theorem dX6_single_17 : decode cX6_single 17 = .ok (.iload_n 3, 1) := by decide +kernel
theorem dX6_single_18 : decode cX6_single 18 = .ok (.laload, 1) := by decide +kernel
theorem dX6_single_19 : decode cX6_single 19 = .ok (.lstore 4, 2) := by decide +kernel
theorem dX6_single_21 : decode cX6_single 21 = .ok (.lload 4, 2) := by decide +kernel
theorem dX6_single_23 : decode cX6_single 23 = .ok (.lconst 0, 1) := by decide +kernel
theorem dX6_single_24 : decode cX6_single 24 = .ok (.lcmp, 1) := by decide +kernel
theorem dX6_single_25 : decode cX6_single 25 = .ok (.ifCond .eq 19, 3) := by decide +kernel
theorem dX6_single_28 : decode cX6_single 28 = .ok (.aload_n 0, 1) := by decide +kernel
theorem dX6_single_29 : decode cX6_single 29 = .ok (.getfield 35, 3) := by decide +kernel
theorem dX6_single_32 : decode cX6_single 32 = .ok (.iload_n 3, 1) := by decide +kernel
theorem dX6_single_33 : decode cX6_single 33 = .ok (.iconst 1, 1) := by decide +kernel
theorem dX6_single_34 : decode cX6_single 34 = .ok (.iadd, 1) := by decide +kernel
theorem dX6_single_35 : decode cX6_single 35 = .ok (.laload, 1) := by decide +kernel
theorem dX6_single_36 : decode cX6_single 36 = .ok (.lload 4, 2) := by decide +kernel
theorem dX6_single_38 : decode cX6_single 38 = .ok (.lrem, 1) := by decide +kernel
theorem dX6_single_39 : decode cX6_single 39 = .ok (.lconst 0, 1) := by decide +kernel
theorem dX6_single_40 : decode cX6_single 40 = .ok (.lcmp, 1) := by decide +kernel
theorem dX6_single_41 : decode cX6_single 41 = .ok (.ifCond .eq 5, 3) := by decide +kernel
theorem dX6_single_44 : decode cX6_single 44 = .ok (.iconst (-1), 1) := by decide +kernel
theorem dX6_single_45 : decode cX6_single 45 = .ok (.ireturn, 1) := by decide +kernel
theorem dX6_single_46 : decode cX6_single 46 = .ok (.aload_n 0, 1) := by decide +kernel
theorem dX6_single_47 : decode cX6_single 47 = .ok (.getfield 35, 3) := by decide +kernel
theorem dX6_single_50 : decode cX6_single 50 = .ok (.iload_n 3, 1) := by decide +kernel
theorem dX6_single_51 : decode cX6_single 51 = .ok (.iconst 1, 1) := by decide +kernel
theorem dX6_single_52 : decode cX6_single 52 = .ok (.iadd, 1) := by decide +kernel
theorem dX6_single_53 : decode cX6_single 53 = .ok (.laload, 1) := by decide +kernel
theorem dX6_single_54 : decode cX6_single 54 = .ok (.lload 4, 2) := by decide +kernel
theorem dX6_single_56 : decode cX6_single 56 = .ok (.ldiv, 1) := by decide +kernel
theorem dX6_single_57 : decode cX6_single 57 = .ok (.lstore 6, 2) := by decide +kernel
theorem dX6_single_59 : decode cX6_single 59 = .ok (.lload 6, 2) := by decide +kernel
theorem dX6_single_61 : decode cX6_single 61 = .ok (.lconst 0, 1) := by decide +kernel
theorem dX6_single_62 : decode cX6_single 62 = .ok (.ldc2_w 165, 3) := by decide +kernel
theorem dX6_single_65 : decode cX6_single 65 = .ok (.invokestatic 61, 3) := by decide +kernel
theorem dX6_single_68 : decode cX6_single 68 = .ok (.ifCond .eq 15, 3) := by decide +kernel
theorem dX6_single_71 : decode cX6_single 71 = .ok (.aload_n 0, 1) := by decide +kernel
theorem dX6_single_72 : decode cX6_single 72 = .ok (.iload_n 1, 1) := by decide +kernel
theorem dX6_single_73 : decode cX6_single 73 = .ok (.lload 6, 2) := by decide +kernel
theorem dX6_single_75 : decode cX6_single 75 = .ok (.l2i, 1) := by decide +kernel
theorem dX6_single_76 : decode cX6_single 76 = .ok (.invokevirtual 158, 3) := by decide +kernel
theorem dX6_single_79 : decode cX6_single 79 = .ok (.iload_n 2, 1) := by decide +kernel
theorem dX6_single_80 : decode cX6_single 80 = .ok (.if_icmp .eq 5, 3) := by decide +kernel
theorem dX6_single_83 : decode cX6_single 83 = .ok (.iconst (-1), 1) := by decide +kernel
theorem dX6_single_84 : decode cX6_single 84 = .ok (.ireturn, 1) := by decide +kernel
theorem dX6_single_85 : decode cX6_single 85 = .ok (.lload 4, 2) := by decide +kernel
theorem dX6_single_87 : decode cX6_single 87 = .ok (.invokestatic 161, 3) := by decide +kernel
theorem dX6_single_90 : decode cX6_single 90 = .ok (.lload 6, 2) := by decide +kernel
theorem dX6_single_92 : decode cX6_single 92 = .ok (.lload 6, 2) := by decide +kernel
theorem dX6_single_94 : decode cX6_single 94 = .ok (.lmul, 1) := by decide +kernel
theorem dX6_single_95 : decode cX6_single 95 = .ok (.invokestatic 161, 3) := by decide +kernel
theorem dX6_single_98 : decode cX6_single 98 = .ok (.lmul, 1) := by decide +kernel
theorem dX6_single_99 : decode cX6_single 99 = .ok (.invokestatic 161, 3) := by decide +kernel
theorem dX6_single_102 : decode cX6_single 102 = .ok (.aload_n 0, 1) := by decide +kernel
theorem dX6_single_103 : decode cX6_single 103 = .ok (.getfield 35, 3) := by decide +kernel
theorem dX6_single_106 : decode cX6_single 106 = .ok (.iload_n 3, 1) := by decide +kernel
theorem dX6_single_107 : decode cX6_single 107 = .ok (.iconst 2, 1) := by decide +kernel
theorem dX6_single_108 : decode cX6_single 108 = .ok (.iadd, 1) := by decide +kernel
theorem dX6_single_109 : decode cX6_single 109 = .ok (.laload, 1) := by decide +kernel
theorem dX6_single_110 : decode cX6_single 110 = .ok (.lcmp, 1) := by decide +kernel
theorem dX6_single_111 : decode cX6_single 111 = .ok (.ifCond .ne 9, 3) := by decide +kernel
theorem dX6_single_114 : decode cX6_single 114 = .ok (.lload 6, 2) := by decide +kernel
theorem dX6_single_116 : decode cX6_single 116 = .ok (.l2i, 1) := by decide +kernel
theorem dX6_single_117 : decode cX6_single 117 = .ok (.goto 4, 3) := by decide +kernel
theorem dX6_single_120 : decode cX6_single 120 = .ok (.iconst (-1), 1) := by decide +kernel
theorem dX6_single_121 : decode cX6_single 121 = .ok (.ireturn, 1) := by decide +kernel
theorem dX6_decode_0 : decode cX6_decode 0 = .ok (.iconst 0, 1) := by decide +kernel
theorem dX6_decode_1 : decode cX6_decode 1 = .ok (.istore_n 1, 1) := by decide +kernel
theorem dX6_decode_2 : decode cX6_decode 2 = .ok (.iload_n 1, 1) := by decide +kernel
theorem dX6_decode_3 : decode cX6_decode 3 = .ok (.sipush 384, 3) := by decide +kernel
theorem dX6_decode_6 : decode cX6_decode 6 = .ok (.if_icmp .ge 25, 3) := by decide +kernel
theorem dX6_decode_9 : decode cX6_decode 9 = .ok (.aload_n 0, 1) := by decide +kernel
theorem dX6_decode_10 : decode cX6_decode 10 = .ok (.getfield 35, 3) := by decide +kernel
theorem dX6_decode_13 : decode cX6_decode 13 = .ok (.sipush 384, 3) := by decide +kernel
theorem dX6_decode_16 : decode cX6_decode 16 = .ok (.iload_n 1, 1) := by decide +kernel
theorem dX6_decode_17 : decode cX6_decode 17 = .ok (.iadd, 1) := by decide +kernel
theorem dX6_decode_18 : decode cX6_decode 18 = .ok (.aload_n 0, 1) := by decide +kernel
theorem dX6_decode_19 : decode cX6_decode 19 = .ok (.getfield 35, 3) := by decide +kernel
theorem dX6_decode_22 : decode cX6_decode 22 = .ok (.iload_n 1, 1) := by decide +kernel
theorem dX6_decode_23 : decode cX6_decode 23 = .ok (.laload, 1) := by decide +kernel
theorem dX6_decode_24 : decode cX6_decode 24 = .ok (.lastore, 1) := by decide +kernel
theorem dX6_decode_25 : decode cX6_decode 25 = .ok (.iinc 1 1, 3) := by decide +kernel
theorem dX6_decode_28 : decode cX6_decode 28 = .ok (.goto (-26), 3) := by decide +kernel
theorem dX6_decode_31 : decode cX6_decode 31 = .ok (.iconst 0, 1) := by decide +kernel
theorem dX6_decode_32 : decode cX6_decode 32 = .ok (.istore_n 1, 1) := by decide +kernel
theorem dX6_decode_33 : decode cX6_decode 33 = .ok (.iconst 1, 1) := by decide +kernel
theorem dX6_decode_34 : decode cX6_decode 34 = .ok (.istore_n 2, 1) := by decide +kernel
theorem dX6_decode_35 : decode cX6_decode 35 = .ok (.iload_n 2, 1) := by decide +kernel
theorem dX6_decode_36 : decode cX6_decode 36 = .ok (.ifCond .eq 142, 3) := by decide +kernel
theorem dX6_decode_39 : decode cX6_decode 39 = .ok (.iload_n 1, 1) := by decide +kernel
theorem dX6_decode_40 : decode cX6_decode 40 = .ok (.sipush 200, 3) := by decide +kernel
theorem dX6_decode_43 : decode cX6_decode 43 = .ok (.if_icmp .ge 135, 3) := by decide +kernel
theorem dX6_decode_46 : decode cX6_decode 46 = .ok (.iconst (-1), 1) := by decide +kernel
theorem dX6_decode_47 : decode cX6_decode 47 = .ok (.istore_n 3, 1) := by decide +kernel
theorem dX6_decode_48 : decode cX6_decode 48 = .ok (.lconst 0, 1) := by decide +kernel
theorem dX6_decode_49 : decode cX6_decode 49 = .ok (.lstore 4, 2) := by decide +kernel
theorem dX6_decode_51 : decode cX6_decode 51 = .ok (.iconst 0, 1) := by decide +kernel
theorem dX6_decode_52 : decode cX6_decode 52 = .ok (.istore 6, 2) := by decide +kernel
theorem dX6_decode_54 : decode cX6_decode 54 = .ok (.iload 6, 2) := by decide +kernel
theorem dX6_decode_56 : decode cX6_decode 56 = .ok (.aload_n 0, 1) := by decide +kernel
theorem dX6_decode_57 : decode cX6_decode 57 = .ok (.getfield 29, 3) := by decide +kernel
theorem dX6_decode_60 : decode cX6_decode 60 = .ok (.if_icmp .ge 65, 3) := by decide +kernel
theorem dX6_decode_63 : decode cX6_decode 63 = .ok (.iload_n 3, 1) := by decide +kernel
theorem dX6_decode_64 : decode cX6_decode 64 = .ok (.ifCond .ge 61, 3) := by decide +kernel
theorem dX6_decode_67 : decode cX6_decode 67 = .ok (.iconst 0, 1) := by decide +kernel
theorem dX6_decode_68 : decode cX6_decode 68 = .ok (.istore 7, 2) := by decide +kernel
theorem dX6_decode_70 : decode cX6_decode 70 = .ok (.iload 7, 2) := by decide +kernel
theorem dX6_decode_72 : decode cX6_decode 72 = .ok (.aload_n 0, 1) := by decide +kernel
theorem dX6_decode_73 : decode cX6_decode 73 = .ok (.getfield 32, 3) := by decide +kernel
theorem dX6_decode_76 : decode cX6_decode 76 = .ok (.if_icmp .ge 43, 3) := by decide +kernel
theorem dX6_decode_79 : decode cX6_decode 79 = .ok (.iload_n 3, 1) := by decide +kernel
theorem dX6_decode_80 : decode cX6_decode 80 = .ok (.ifCond .ge 39, 3) := by decide +kernel
theorem dX6_decode_83 : decode cX6_decode 83 = .ok (.aload_n 0, 1) := by decide +kernel
theorem dX6_decode_84 : decode cX6_decode 84 = .ok (.iload 6, 2) := by decide +kernel
theorem dX6_decode_86 : decode cX6_decode 86 = .ok (.iload 7, 2) := by decide +kernel
theorem dX6_decode_88 : decode cX6_decode 88 = .ok (.invokevirtual 176, 3) := by decide +kernel
theorem dX6_decode_91 : decode cX6_decode 91 = .ok (.istore_n 3, 1) := by decide +kernel
theorem dX6_decode_92 : decode cX6_decode 92 = .ok (.aload_n 0, 1) := by decide +kernel
theorem dX6_decode_93 : decode cX6_decode 93 = .ok (.getfield 35, 3) := by decide +kernel
theorem dX6_decode_96 : decode cX6_decode 96 = .ok (.sipush 384, 3) := by decide +kernel
theorem dX6_decode_99 : decode cX6_decode 99 = .ok (.bipush 96, 2) := by decide +kernel
theorem dX6_decode_101 : decode cX6_decode 101 = .ok (.iload 6, 2) := by decide +kernel
theorem dX6_decode_103 : decode cX6_decode 103 = .ok (.imul, 1) := by decide +kernel
theorem dX6_decode_104 : decode cX6_decode 104 = .ok (.iadd, 1) := by decide +kernel
theorem dX6_decode_105 : decode cX6_decode 105 = .ok (.iconst 3, 1) := by decide +kernel
theorem dX6_decode_106 : decode cX6_decode 106 = .ok (.iload 7, 2) := by decide +kernel
theorem dX6_decode_108 : decode cX6_decode 108 = .ok (.imul, 1) := by decide +kernel
theorem dX6_decode_109 : decode cX6_decode 109 = .ok (.iadd, 1) := by decide +kernel
theorem dX6_decode_110 : decode cX6_decode 110 = .ok (.laload, 1) := by decide +kernel
theorem dX6_decode_111 : decode cX6_decode 111 = .ok (.lstore 4, 2) := by decide +kernel
theorem dX6_decode_113 : decode cX6_decode 113 = .ok (.iinc 7 1, 3) := by decide +kernel
theorem dX6_decode_116 : decode cX6_decode 116 = .ok (.goto (-46), 3) := by decide +kernel
theorem dX6_decode_119 : decode cX6_decode 119 = .ok (.iinc 6 1, 3) := by decide +kernel
theorem dX6_decode_122 : decode cX6_decode 122 = .ok (.goto (-68), 3) := by decide +kernel
theorem dX6_decode_125 : decode cX6_decode 125 = .ok (.iload_n 3, 1) := by decide +kernel
theorem dX6_decode_126 : decode cX6_decode 126 = .ok (.ifCond .lt 7, 3) := by decide +kernel
theorem dX6_decode_129 : decode cX6_decode 129 = .ok (.iconst 1, 1) := by decide +kernel
theorem dX6_decode_130 : decode cX6_decode 130 = .ok (.goto 4, 3) := by decide +kernel
theorem dX6_decode_133 : decode cX6_decode 133 = .ok (.iconst 0, 1) := by decide +kernel
theorem dX6_decode_134 : decode cX6_decode 134 = .ok (.istore_n 2, 1) := by decide +kernel
theorem dX6_decode_135 : decode cX6_decode 135 = .ok (.iload_n 2, 1) := by decide +kernel
theorem dX6_decode_136 : decode cX6_decode 136 = .ok (.ifCond .eq 39, 3) := by decide +kernel
theorem dX6_decode_139 : decode cX6_decode 139 = .ok (.iload_n 1, 1) := by decide +kernel
theorem dX6_decode_140 : decode cX6_decode 140 = .ok (.bipush 100, 2) := by decide +kernel
theorem dX6_decode_142 : decode cX6_decode 142 = .ok (.if_icmp .ge 19, 3) := by decide +kernel
theorem dX6_decode_145 : decode cX6_decode 145 = .ok (.aload_n 0, 1) := by decide +kernel
theorem dX6_decode_146 : decode cX6_decode 146 = .ok (.getfield 39, 3) := by decide +kernel
theorem dX6_decode_149 : decode cX6_decode 149 = .ok (.iload_n 1, 1) := by decide +kernel
theorem dX6_decode_150 : decode cX6_decode 150 = .ok (.iload_n 3, 1) := by decide +kernel
theorem dX6_decode_151 : decode cX6_decode 151 = .ok (.iastore, 1) := by decide +kernel
theorem dX6_decode_152 : decode cX6_decode 152 = .ok (.aload_n 0, 1) := by decide +kernel
theorem dX6_decode_153 : decode cX6_decode 153 = .ok (.getfield 42, 3) := by decide +kernel
theorem dX6_decode_156 : decode cX6_decode 156 = .ok (.iload_n 1, 1) := by decide +kernel
theorem dX6_decode_157 : decode cX6_decode 157 = .ok (.lload 4, 2) := by decide +kernel
theorem dX6_decode_159 : decode cX6_decode 159 = .ok (.l2i, 1) := by decide +kernel
theorem dX6_decode_160 : decode cX6_decode 160 = .ok (.iastore, 1) := by decide +kernel
theorem dX6_decode_161 : decode cX6_decode 161 = .ok (.aload_n 0, 1) := by decide +kernel
theorem dX6_decode_162 : decode cX6_decode 162 = .ok (.sipush 384, 3) := by decide +kernel
theorem dX6_decode_165 : decode cX6_decode 165 = .ok (.iload_n 3, 1) := by decide +kernel
theorem dX6_decode_166 : decode cX6_decode 166 = .ok (.lload 4, 2) := by decide +kernel
theorem dX6_decode_168 : decode cX6_decode 168 = .ok (.lneg, 1) := by decide +kernel
theorem dX6_decode_169 : decode cX6_decode 169 = .ok (.invokevirtual 172, 3) := by decide +kernel
theorem dX6_decode_172 : decode cX6_decode 172 = .ok (.iinc 1 1, 3) := by decide +kernel
theorem dX6_decode_175 : decode cX6_decode 175 = .ok (.goto (-140), 3) := by decide +kernel
theorem dX6_decode_178 : decode cX6_decode 178 = .ok (.aload_n 0, 1) := by decide +kernel
theorem dX6_decode_179 : decode cX6_decode 179 = .ok (.iload_n 1, 1) := by decide +kernel
theorem dX6_decode_180 : decode cX6_decode 180 = .ok (.putfield 153, 3) := by decide +kernel
theorem dX6_decode_183 : decode cX6_decode 183 = .ok (.iconst 1, 1) := by decide +kernel
theorem dX6_decode_184 : decode cX6_decode 184 = .ok (.istore_n 3, 1) := by decide +kernel
theorem dX6_decode_185 : decode cX6_decode 185 = .ok (.sipush 384, 3) := by decide +kernel
theorem dX6_decode_188 : decode cX6_decode 188 = .ok (.istore 4, 2) := by decide +kernel
theorem dX6_decode_190 : decode cX6_decode 190 = .ok (.iload 4, 2) := by decide +kernel
theorem dX6_decode_192 : decode cX6_decode 192 = .ok (.sipush 768, 3) := by decide +kernel
theorem dX6_decode_195 : decode cX6_decode 195 = .ok (.if_icmp .ge 31, 3) := by decide +kernel
theorem dX6_decode_198 : decode cX6_decode 198 = .ok (.iload_n 3, 1) := by decide +kernel
theorem dX6_decode_199 : decode cX6_decode 199 = .ok (.ifCond .eq 19, 3) := by decide +kernel
theorem dX6_decode_202 : decode cX6_decode 202 = .ok (.aload_n 0, 1) := by decide +kernel
theorem dX6_decode_203 : decode cX6_decode 203 = .ok (.getfield 35, 3) := by decide +kernel
theorem dX6_decode_206 : decode cX6_decode 206 = .ok (.iload 4, 2) := by decide +kernel
theorem dX6_decode_208 : decode cX6_decode 208 = .ok (.laload, 1) := by decide +kernel
theorem dX6_decode_209 : decode cX6_decode 209 = .ok (.lconst 0, 1) := by decide +kernel
theorem dX6_decode_210 : decode cX6_decode 210 = .ok (.lcmp, 1) := by decide +kernel
theorem dX6_decode_211 : decode cX6_decode 211 = .ok (.ifCond .ne 7, 3) := by decide +kernel
theorem dX6_decode_214 : decode cX6_decode 214 = .ok (.iconst 1, 1) := by decide +kernel
theorem dX6_decode_215 : decode cX6_decode 215 = .ok (.goto 4, 3) := by decide +kernel
theorem dX6_decode_218 : decode cX6_decode 218 = .ok (.iconst 0, 1) := by decide +kernel
theorem dX6_decode_219 : decode cX6_decode 219 = .ok (.istore_n 3, 1) := by decide +kernel
theorem dX6_decode_220 : decode cX6_decode 220 = .ok (.iinc 4 1, 3) := by decide +kernel
theorem dX6_decode_223 : decode cX6_decode 223 = .ok (.goto (-33), 3) := by decide +kernel
theorem dX6_decode_226 : decode cX6_decode 226 = .ok (.iload_n 1, 1) := by decide +kernel
theorem dX6_decode_227 : decode cX6_decode 227 = .ok (.iload_n 3, 1) := by decide +kernel
theorem dX6_decode_228 : decode cX6_decode 228 = .ok (.ifCond .eq 9, 3) := by decide +kernel
theorem dX6_decode_231 : decode cX6_decode 231 = .ok (.sipush 10000, 3) := by decide +kernel
theorem dX6_decode_234 : decode cX6_decode 234 = .ok (.goto 4, 3) := by decide +kernel
theorem dX6_decode_237 : decode cX6_decode 237 = .ok (.iconst 0, 1) := by decide +kernel
theorem dX6_decode_238 : decode cX6_decode 238 = .ok (.iadd, 1) := by decide +kernel
theorem dX6_decode_239 : decode cX6_decode 239 = .ok (.ireturn, 1) := by decide +kernel
theorem dX6_decoded_0 : decode cX6_decoded 0 = .ok (.iload_n 1, 1) := by decide +kernel
theorem dX6_decoded_1 : decode cX6_decoded 1 = .ok (.ifCond .lt 13, 3) := by decide +kernel
theorem dX6_decoded_4 : decode cX6_decoded 4 = .ok (.iload_n 2, 1) := by decide +kernel
theorem dX6_decoded_5 : decode cX6_decoded 5 = .ok (.i2l, 1) := by decide +kernel
theorem dX6_decoded_6 : decode cX6_decoded 6 = .ok (.lconst 0, 1) := by decide +kernel
theorem dX6_decoded_7 : decode cX6_decoded 7 = .ok (.lconst 1, 1) := by decide +kernel
theorem dX6_decoded_8 : decode cX6_decoded 8 = .ok (.invokestatic 61, 3) := by decide +kernel
theorem dX6_decoded_11 : decode cX6_decoded 11 = .ok (.ifCond .ne 6, 3) := by decide +kernel
theorem dX6_decoded_14 : decode cX6_decoded 14 = .ok (.ldc 179, 2) := by decide +kernel
theorem dX6_decoded_16 : decode cX6_decoded 16 = .ok (.ireturn, 1) := by decide +kernel
theorem dX6_decoded_17 : decode cX6_decoded 17 = .ok (.iload_n 1, 1) := by decide +kernel
theorem dX6_decoded_18 : decode cX6_decoded 18 = .ok (.aload_n 0, 1) := by decide +kernel
theorem dX6_decoded_19 : decode cX6_decoded 19 = .ok (.getfield 153, 3) := by decide +kernel
theorem dX6_decoded_22 : decode cX6_decoded 22 = .ok (.if_icmp .ge 9, 3) := by decide +kernel
theorem dX6_decoded_25 : decode cX6_decoded 25 = .ok (.iload_n 1, 1) := by decide +kernel
theorem dX6_decoded_26 : decode cX6_decoded 26 = .ok (.bipush 100, 2) := by decide +kernel
theorem dX6_decoded_28 : decode cX6_decoded 28 = .ok (.if_icmp .lt 6, 3) := by decide +kernel
theorem dX6_decoded_31 : decode cX6_decoded 31 = .ok (.ldc 180, 2) := by decide +kernel
theorem dX6_decoded_33 : decode cX6_decoded 33 = .ok (.ireturn, 1) := by decide +kernel
theorem dX6_decoded_34 : decode cX6_decoded 34 = .ok (.iload_n 2, 1) := by decide +kernel
theorem dX6_decoded_35 : decode cX6_decoded 35 = .ok (.ifCond .ne 12, 3) := by decide +kernel
theorem dX6_decoded_38 : decode cX6_decoded 38 = .ok (.aload_n 0, 1) := by decide +kernel
theorem dX6_decoded_39 : decode cX6_decoded 39 = .ok (.getfield 39, 3) := by decide +kernel
theorem dX6_decoded_42 : decode cX6_decoded 42 = .ok (.iload_n 1, 1) := by decide +kernel
theorem dX6_decoded_43 : decode cX6_decoded 43 = .ok (.iaload, 1) := by decide +kernel
theorem dX6_decoded_44 : decode cX6_decoded 44 = .ok (.goto 9, 3) := by decide +kernel
theorem dX6_decoded_47 : decode cX6_decoded 47 = .ok (.aload_n 0, 1) := by decide +kernel
theorem dX6_decoded_48 : decode cX6_decoded 48 = .ok (.getfield 42, 3) := by decide +kernel
theorem dX6_decoded_51 : decode cX6_decoded 51 = .ok (.iload_n 1, 1) := by decide +kernel
theorem dX6_decoded_52 : decode cX6_decoded 52 = .ok (.iaload, 1) := by decide +kernel
theorem dX6_decoded_53 : decode cX6_decoded 53 = .ok (.ireturn, 1) := by decide +kernel
theorem dX6_bucket_0 : decode cX6_bucket 0 = .ok (.iload_n 1, 1) := by decide +kernel
theorem dX6_bucket_1 : decode cX6_bucket 1 = .ok (.i2l, 1) := by decide +kernel
theorem dX6_bucket_2 : decode cX6_bucket 2 = .ok (.lconst 0, 1) := by decide +kernel
theorem dX6_bucket_3 : decode cX6_bucket 3 = .ok (.aload_n 0, 1) := by decide +kernel
theorem dX6_bucket_4 : decode cX6_bucket 4 = .ok (.getfield 29, 3) := by decide +kernel
theorem dX6_bucket_7 : decode cX6_bucket 7 = .ok (.iconst 1, 1) := by decide +kernel
theorem dX6_bucket_8 : decode cX6_bucket 8 = .ok (.isub, 1) := by decide +kernel
theorem dX6_bucket_9 : decode cX6_bucket 9 = .ok (.i2l, 1) := by decide +kernel
theorem dX6_bucket_10 : decode cX6_bucket 10 = .ok (.invokestatic 61, 3) := by decide +kernel
theorem dX6_bucket_13 : decode cX6_bucket 13 = .ok (.ifCond .eq 49, 3) := by decide +kernel
theorem dX6_bucket_16 : decode cX6_bucket 16 = .ok (.iload_n 2, 1) := by decide +kernel
theorem dX6_bucket_17 : decode cX6_bucket 17 = .ok (.i2l, 1) := by decide +kernel
theorem dX6_bucket_18 : decode cX6_bucket 18 = .ok (.lconst 0, 1) := by decide +kernel
theorem dX6_bucket_19 : decode cX6_bucket 19 = .ok (.aload_n 0, 1) := by decide +kernel
theorem dX6_bucket_20 : decode cX6_bucket 20 = .ok (.getfield 32, 3) := by decide +kernel
theorem dX6_bucket_23 : decode cX6_bucket 23 = .ok (.iconst 1, 1) := by decide +kernel
theorem dX6_bucket_24 : decode cX6_bucket 24 = .ok (.isub, 1) := by decide +kernel
theorem dX6_bucket_25 : decode cX6_bucket 25 = .ok (.i2l, 1) := by decide +kernel
theorem dX6_bucket_26 : decode cX6_bucket 26 = .ok (.invokestatic 61, 3) := by decide +kernel
theorem dX6_bucket_29 : decode cX6_bucket 29 = .ok (.ifCond .eq 33, 3) := by decide +kernel
theorem dX6_bucket_32 : decode cX6_bucket 32 = .ok (.iload_n 3, 1) := by decide +kernel
theorem dX6_bucket_33 : decode cX6_bucket 33 = .ok (.i2l, 1) := by decide +kernel
theorem dX6_bucket_34 : decode cX6_bucket 34 = .ok (.lconst 0, 1) := by decide +kernel
theorem dX6_bucket_35 : decode cX6_bucket 35 = .ok (.ldc2_w 57, 3) := by decide +kernel
theorem dX6_bucket_38 : decode cX6_bucket 38 = .ok (.invokestatic 61, 3) := by decide +kernel
theorem dX6_bucket_41 : decode cX6_bucket 41 = .ok (.ifCond .eq 21, 3) := by decide +kernel
theorem dX6_bucket_44 : decode cX6_bucket 44 = .ok (.aload_n 0, 1) := by decide +kernel
theorem dX6_bucket_45 : decode cX6_bucket 45 = .ok (.getfield 35, 3) := by decide +kernel
theorem dX6_bucket_48 : decode cX6_bucket 48 = .ok (.bipush 96, 2) := by decide +kernel
theorem dX6_bucket_50 : decode cX6_bucket 50 = .ok (.iload_n 1, 1) := by decide +kernel
theorem dX6_bucket_51 : decode cX6_bucket 51 = .ok (.imul, 1) := by decide +kernel
theorem dX6_bucket_52 : decode cX6_bucket 52 = .ok (.iconst 3, 1) := by decide +kernel
theorem dX6_bucket_53 : decode cX6_bucket 53 = .ok (.iload_n 2, 1) := by decide +kernel
theorem dX6_bucket_54 : decode cX6_bucket 54 = .ok (.imul, 1) := by decide +kernel
theorem dX6_bucket_55 : decode cX6_bucket 55 = .ok (.iadd, 1) := by decide +kernel
theorem dX6_bucket_56 : decode cX6_bucket 56 = .ok (.iload_n 3, 1) := by decide +kernel
theorem dX6_bucket_57 : decode cX6_bucket 57 = .ok (.iadd, 1) := by decide +kernel
theorem dX6_bucket_58 : decode cX6_bucket 58 = .ok (.laload, 1) := by decide +kernel
theorem dX6_bucket_59 : decode cX6_bucket 59 = .ok (.goto 6, 3) := by decide +kernel
theorem dX6_bucket_62 : decode cX6_bucket 62 = .ok (.ldc2_w 181, 3) := by decide +kernel
theorem dX6_bucket_65 : decode cX6_bucket 65 = .ok (.lreturn, 1) := by decide +kernel
theorem dX6_count_0 : decode cX6_count 0 = .ok (.iload_n 1, 1) := by decide +kernel
theorem dX6_count_1 : decode cX6_count 1 = .ok (.tableswitch 69 0 5 #[39, 44, 49, 54, 59, 64], 39) := by decide +kernel
theorem dX6_count_40 : decode cX6_count 40 = .ok (.aload_n 0, 1) := by decide +kernel
theorem dX6_count_41 : decode cX6_count 41 = .ok (.getfield 7, 3) := by decide +kernel
theorem dX6_count_44 : decode cX6_count 44 = .ok (.ireturn, 1) := by decide +kernel
theorem dX6_count_45 : decode cX6_count 45 = .ok (.aload_n 0, 1) := by decide +kernel
theorem dX6_count_46 : decode cX6_count 46 = .ok (.getfield 13, 3) := by decide +kernel
theorem dX6_count_49 : decode cX6_count 49 = .ok (.ireturn, 1) := by decide +kernel
theorem dX6_count_50 : decode cX6_count 50 = .ok (.aload_n 0, 1) := by decide +kernel
theorem dX6_count_51 : decode cX6_count 51 = .ok (.getfield 16, 3) := by decide +kernel
theorem dX6_count_54 : decode cX6_count 54 = .ok (.ireturn, 1) := by decide +kernel
theorem dX6_count_55 : decode cX6_count 55 = .ok (.aload_n 0, 1) := by decide +kernel
theorem dX6_count_56 : decode cX6_count 56 = .ok (.getfield 29, 3) := by decide +kernel
theorem dX6_count_59 : decode cX6_count 59 = .ok (.ireturn, 1) := by decide +kernel
theorem dX6_count_60 : decode cX6_count 60 = .ok (.aload_n 0, 1) := by decide +kernel
theorem dX6_count_61 : decode cX6_count 61 = .ok (.getfield 32, 3) := by decide +kernel
theorem dX6_count_64 : decode cX6_count 64 = .ok (.ireturn, 1) := by decide +kernel
theorem dX6_count_65 : decode cX6_count 65 = .ok (.aload_n 0, 1) := by decide +kernel
theorem dX6_count_66 : decode cX6_count 66 = .ok (.getfield 150, 3) := by decide +kernel
theorem dX6_count_69 : decode cX6_count 69 = .ok (.ireturn, 1) := by decide +kernel
theorem dX6_count_70 : decode cX6_count 70 = .ok (.iconst (-1), 1) := by decide +kernel
theorem dX6_count_71 : decode cX6_count 71 = .ok (.ireturn, 1) := by decide +kernel
theorem dJ6_bitCount_0f7a4_0 : decode cJ6_bitCount_0f7a4 0 = .ok (.iload_n 0, 1) := by decide +kernel
theorem dJ6_bitCount_0f7a4_1 : decode cJ6_bitCount_0f7a4 1 = .ok (.iload_n 0, 1) := by decide +kernel
theorem dJ6_bitCount_0f7a4_2 : decode cJ6_bitCount_0f7a4 2 = .ok (.iconst 1, 1) := by decide +kernel
theorem dJ6_bitCount_0f7a4_3 : decode cJ6_bitCount_0f7a4 3 = .ok (.iushr, 1) := by decide +kernel
theorem dJ6_bitCount_0f7a4_4 : decode cJ6_bitCount_0f7a4 4 = .ok (.ldc_w 265, 3) := by decide +kernel
theorem dJ6_bitCount_0f7a4_7 : decode cJ6_bitCount_0f7a4 7 = .ok (.iand, 1) := by decide +kernel
theorem dJ6_bitCount_0f7a4_8 : decode cJ6_bitCount_0f7a4 8 = .ok (.isub, 1) := by decide +kernel
theorem dJ6_bitCount_0f7a4_9 : decode cJ6_bitCount_0f7a4 9 = .ok (.istore_n 0, 1) := by decide +kernel
theorem dJ6_bitCount_0f7a4_10 : decode cJ6_bitCount_0f7a4 10 = .ok (.iload_n 0, 1) := by decide +kernel
theorem dJ6_bitCount_0f7a4_11 : decode cJ6_bitCount_0f7a4 11 = .ok (.ldc_w 266, 3) := by decide +kernel
theorem dJ6_bitCount_0f7a4_14 : decode cJ6_bitCount_0f7a4 14 = .ok (.iand, 1) := by decide +kernel
theorem dJ6_bitCount_0f7a4_15 : decode cJ6_bitCount_0f7a4 15 = .ok (.iload_n 0, 1) := by decide +kernel
theorem dJ6_bitCount_0f7a4_16 : decode cJ6_bitCount_0f7a4 16 = .ok (.iconst 2, 1) := by decide +kernel
theorem dJ6_bitCount_0f7a4_17 : decode cJ6_bitCount_0f7a4 17 = .ok (.iushr, 1) := by decide +kernel
theorem dJ6_bitCount_0f7a4_18 : decode cJ6_bitCount_0f7a4 18 = .ok (.ldc_w 266, 3) := by decide +kernel
theorem dJ6_bitCount_0f7a4_21 : decode cJ6_bitCount_0f7a4 21 = .ok (.iand, 1) := by decide +kernel
theorem dJ6_bitCount_0f7a4_22 : decode cJ6_bitCount_0f7a4 22 = .ok (.iadd, 1) := by decide +kernel
theorem dJ6_bitCount_0f7a4_23 : decode cJ6_bitCount_0f7a4 23 = .ok (.istore_n 0, 1) := by decide +kernel
theorem dJ6_bitCount_0f7a4_24 : decode cJ6_bitCount_0f7a4 24 = .ok (.iload_n 0, 1) := by decide +kernel
theorem dJ6_bitCount_0f7a4_25 : decode cJ6_bitCount_0f7a4 25 = .ok (.iload_n 0, 1) := by decide +kernel
theorem dJ6_bitCount_0f7a4_26 : decode cJ6_bitCount_0f7a4 26 = .ok (.iconst 4, 1) := by decide +kernel
theorem dJ6_bitCount_0f7a4_27 : decode cJ6_bitCount_0f7a4 27 = .ok (.iushr, 1) := by decide +kernel
theorem dJ6_bitCount_0f7a4_28 : decode cJ6_bitCount_0f7a4 28 = .ok (.iadd, 1) := by decide +kernel
theorem dJ6_bitCount_0f7a4_29 : decode cJ6_bitCount_0f7a4 29 = .ok (.ldc_w 267, 3) := by decide +kernel
theorem dJ6_bitCount_0f7a4_32 : decode cJ6_bitCount_0f7a4 32 = .ok (.iand, 1) := by decide +kernel
theorem dJ6_bitCount_0f7a4_33 : decode cJ6_bitCount_0f7a4 33 = .ok (.istore_n 0, 1) := by decide +kernel
theorem dJ6_bitCount_0f7a4_34 : decode cJ6_bitCount_0f7a4 34 = .ok (.iload_n 0, 1) := by decide +kernel
theorem dJ6_bitCount_0f7a4_35 : decode cJ6_bitCount_0f7a4 35 = .ok (.iload_n 0, 1) := by decide +kernel
theorem dJ6_bitCount_0f7a4_36 : decode cJ6_bitCount_0f7a4 36 = .ok (.bipush 8, 2) := by decide +kernel
theorem dJ6_bitCount_0f7a4_38 : decode cJ6_bitCount_0f7a4 38 = .ok (.iushr, 1) := by decide +kernel
theorem dJ6_bitCount_0f7a4_39 : decode cJ6_bitCount_0f7a4 39 = .ok (.iadd, 1) := by decide +kernel
theorem dJ6_bitCount_0f7a4_40 : decode cJ6_bitCount_0f7a4 40 = .ok (.istore_n 0, 1) := by decide +kernel
theorem dJ6_bitCount_0f7a4_41 : decode cJ6_bitCount_0f7a4 41 = .ok (.iload_n 0, 1) := by decide +kernel
theorem dJ6_bitCount_0f7a4_42 : decode cJ6_bitCount_0f7a4 42 = .ok (.iload_n 0, 1) := by decide +kernel
theorem dJ6_bitCount_0f7a4_43 : decode cJ6_bitCount_0f7a4 43 = .ok (.bipush 16, 2) := by decide +kernel
theorem dJ6_bitCount_0f7a4_45 : decode cJ6_bitCount_0f7a4 45 = .ok (.iushr, 1) := by decide +kernel
theorem dJ6_bitCount_0f7a4_46 : decode cJ6_bitCount_0f7a4 46 = .ok (.iadd, 1) := by decide +kernel
theorem dJ6_bitCount_0f7a4_47 : decode cJ6_bitCount_0f7a4 47 = .ok (.istore_n 0, 1) := by decide +kernel
theorem dJ6_bitCount_0f7a4_48 : decode cJ6_bitCount_0f7a4 48 = .ok (.iload_n 0, 1) := by decide +kernel
theorem dJ6_bitCount_0f7a4_49 : decode cJ6_bitCount_0f7a4 49 = .ok (.bipush 63, 2) := by decide +kernel
theorem dJ6_bitCount_0f7a4_51 : decode cJ6_bitCount_0f7a4 51 = .ok (.iand, 1) := by decide +kernel
theorem dJ6_bitCount_0f7a4_52 : decode cJ6_bitCount_0f7a4 52 = .ok (.ireturn, 1) := by decide +kernel
theorem dJ9_floorMod_7cf53_0 : decode cJ9_floorMod_7cf53 0 = .ok (.iload_n 0, 1) := by decide +kernel
theorem dJ9_floorMod_7cf53_1 : decode cJ9_floorMod_7cf53 1 = .ok (.iload_n 1, 1) := by decide +kernel
theorem dJ9_floorMod_7cf53_2 : decode cJ9_floorMod_7cf53 2 = .ok (.irem, 1) := by decide +kernel
theorem dJ9_floorMod_7cf53_3 : decode cJ9_floorMod_7cf53 3 = .ok (.istore_n 2, 1) := by decide +kernel
theorem dJ9_floorMod_7cf53_4 : decode cJ9_floorMod_7cf53 4 = .ok (.iload_n 0, 1) := by decide +kernel
theorem dJ9_floorMod_7cf53_5 : decode cJ9_floorMod_7cf53 5 = .ok (.iload_n 1, 1) := by decide +kernel
theorem dJ9_floorMod_7cf53_6 : decode cJ9_floorMod_7cf53 6 = .ok (.ixor, 1) := by decide +kernel
theorem dJ9_floorMod_7cf53_7 : decode cJ9_floorMod_7cf53 7 = .ok (.ifCond .ge 11, 3) := by decide +kernel
theorem dJ9_floorMod_7cf53_10 : decode cJ9_floorMod_7cf53 10 = .ok (.iload_n 2, 1) := by decide +kernel
theorem dJ9_floorMod_7cf53_11 : decode cJ9_floorMod_7cf53 11 = .ok (.ifCond .eq 7, 3) := by decide +kernel
theorem dJ9_floorMod_7cf53_14 : decode cJ9_floorMod_7cf53 14 = .ok (.iload_n 2, 1) := by decide +kernel
theorem dJ9_floorMod_7cf53_15 : decode cJ9_floorMod_7cf53 15 = .ok (.iload_n 1, 1) := by decide +kernel
theorem dJ9_floorMod_7cf53_16 : decode cJ9_floorMod_7cf53 16 = .ok (.iadd, 1) := by decide +kernel
theorem dJ9_floorMod_7cf53_17 : decode cJ9_floorMod_7cf53 17 = .ok (.ireturn, 1) := by decide +kernel
theorem dJ9_floorMod_7cf53_18 : decode cJ9_floorMod_7cf53 18 = .ok (.iload_n 2, 1) := by decide +kernel
theorem dJ9_floorMod_7cf53_19 : decode cJ9_floorMod_7cf53 19 = .ok (.ireturn, 1) := by decide +kernel
theorem dJ9_floorMod_f86c9_0 : decode cJ9_floorMod_f86c9 0 = .ok (.lload_n 0, 1) := by decide +kernel
theorem dJ9_floorMod_f86c9_1 : decode cJ9_floorMod_f86c9 1 = .ok (.lload_n 2, 1) := by decide +kernel
theorem dJ9_floorMod_f86c9_2 : decode cJ9_floorMod_f86c9 2 = .ok (.lrem, 1) := by decide +kernel
theorem dJ9_floorMod_f86c9_3 : decode cJ9_floorMod_f86c9 3 = .ok (.lstore 4, 2) := by decide +kernel
theorem dJ9_floorMod_f86c9_5 : decode cJ9_floorMod_f86c9 5 = .ok (.lload_n 0, 1) := by decide +kernel
theorem dJ9_floorMod_f86c9_6 : decode cJ9_floorMod_f86c9 6 = .ok (.lload_n 2, 1) := by decide +kernel
theorem dJ9_floorMod_f86c9_7 : decode cJ9_floorMod_f86c9 7 = .ok (.lxor, 1) := by decide +kernel
theorem dJ9_floorMod_f86c9_8 : decode cJ9_floorMod_f86c9 8 = .ok (.lconst 0, 1) := by decide +kernel
theorem dJ9_floorMod_f86c9_9 : decode cJ9_floorMod_f86c9 9 = .ok (.lcmp, 1) := by decide +kernel
theorem dJ9_floorMod_f86c9_10 : decode cJ9_floorMod_f86c9 10 = .ok (.ifCond .ge 15, 3) := by decide +kernel
theorem dJ9_floorMod_f86c9_13 : decode cJ9_floorMod_f86c9 13 = .ok (.lload 4, 2) := by decide +kernel
theorem dJ9_floorMod_f86c9_15 : decode cJ9_floorMod_f86c9 15 = .ok (.lconst 0, 1) := by decide +kernel
theorem dJ9_floorMod_f86c9_16 : decode cJ9_floorMod_f86c9 16 = .ok (.lcmp, 1) := by decide +kernel
theorem dJ9_floorMod_f86c9_17 : decode cJ9_floorMod_f86c9 17 = .ok (.ifCond .eq 8, 3) := by decide +kernel
theorem dJ9_floorMod_f86c9_20 : decode cJ9_floorMod_f86c9 20 = .ok (.lload 4, 2) := by decide +kernel
theorem dJ9_floorMod_f86c9_22 : decode cJ9_floorMod_f86c9 22 = .ok (.lload_n 2, 1) := by decide +kernel
theorem dJ9_floorMod_f86c9_23 : decode cJ9_floorMod_f86c9 23 = .ok (.ladd, 1) := by decide +kernel
theorem dJ9_floorMod_f86c9_24 : decode cJ9_floorMod_f86c9 24 = .ok (.lreturn, 1) := by decide +kernel
theorem dJ9_floorMod_f86c9_25 : decode cJ9_floorMod_f86c9 25 = .ok (.lload 4, 2) := by decide +kernel
theorem dJ9_floorMod_f86c9_27 : decode cJ9_floorMod_f86c9 27 = .ok (.lreturn, 1) := by decide +kernel
theorem dJ9_max_7cf53_0 : decode cJ9_max_7cf53 0 = .ok (.iload_n 0, 1) := by decide +kernel
theorem dJ9_max_7cf53_1 : decode cJ9_max_7cf53 1 = .ok (.iload_n 1, 1) := by decide +kernel
theorem dJ9_max_7cf53_2 : decode cJ9_max_7cf53 2 = .ok (.if_icmp .lt 7, 3) := by decide +kernel
theorem dJ9_max_7cf53_5 : decode cJ9_max_7cf53 5 = .ok (.iload_n 0, 1) := by decide +kernel
theorem dJ9_max_7cf53_6 : decode cJ9_max_7cf53 6 = .ok (.goto 4, 3) := by decide +kernel
theorem dJ9_max_7cf53_9 : decode cJ9_max_7cf53 9 = .ok (.iload_n 1, 1) := by decide +kernel
theorem dJ9_max_7cf53_10 : decode cJ9_max_7cf53 10 = .ok (.ireturn, 1) := by decide +kernel
theorem dJ9_min_7cf53_0 : decode cJ9_min_7cf53 0 = .ok (.iload_n 0, 1) := by decide +kernel
theorem dJ9_min_7cf53_1 : decode cJ9_min_7cf53 1 = .ok (.iload_n 1, 1) := by decide +kernel
theorem dJ9_min_7cf53_2 : decode cJ9_min_7cf53 2 = .ok (.if_icmp .gt 7, 3) := by decide +kernel
theorem dJ9_min_7cf53_5 : decode cJ9_min_7cf53 5 = .ok (.iload_n 0, 1) := by decide +kernel
theorem dJ9_min_7cf53_6 : decode cJ9_min_7cf53 6 = .ok (.goto 4, 3) := by decide +kernel
theorem dJ9_min_7cf53_9 : decode cJ9_min_7cf53 9 = .ok (.iload_n 1, 1) := by decide +kernel
theorem dJ9_min_7cf53_10 : decode cJ9_min_7cf53 10 = .ok (.ireturn, 1) := by decide +kernel
end
section
theorem dL_law_0 : decode cL_law 0 = .ok (.new 7, 3) := by decide +kernel
theorem dL_law_3 : decode cL_law 3 = .ok (.dup, 1) := by decide +kernel
theorem dL_law_4 : decode cL_law 4 = .ok (.invokespecial 9, 3) := by decide +kernel
theorem dL_law_7 : decode cL_law 7 = .ok (.astore_n 1, 1) := by decide +kernel
theorem dL_law_8 : decode cL_law 8 = .ok (.new 10, 3) := by decide +kernel
theorem dL_law_11 : decode cL_law 11 = .ok (.dup, 1) := by decide +kernel
theorem dL_law_12 : decode cL_law 12 = .ok (.invokespecial 12, 3) := by decide +kernel
theorem dL_law_15 : decode cL_law 15 = .ok (.astore_n 2, 1) := by decide +kernel
theorem dL_law_16 : decode cL_law 16 = .ok (.iconst 0, 1) := by decide +kernel
theorem dL_law_17 : decode cL_law 17 = .ok (.istore_n 3, 1) := by decide +kernel
theorem dL_law_18 : decode cL_law 18 = .ok (.iload_n 3, 1) := by decide +kernel
theorem dL_law_19 : decode cL_law 19 = .ok (.aload_n 0, 1) := by decide +kernel
theorem dL_law_20 : decode cL_law 20 = .ok (.arraylength, 1) := by decide +kernel
theorem dL_law_21 : decode cL_law 21 = .ok (.iconst 5, 1) := by decide +kernel
theorem dL_law_22 : decode cL_law 22 = .ok (.isub, 1) := by decide +kernel
theorem dL_law_23 : decode cL_law 23 = .ok (.if_icmp .gt 775, 3) := by decide +kernel
theorem dL_law_26 : decode cL_law 26 = .ok (.aload_n 0, 1) := by decide +kernel
theorem dL_law_27 : decode cL_law 27 = .ok (.iload_n 3, 1) := by decide +kernel
theorem dL_law_28 : decode cL_law 28 = .ok (.iaload, 1) := by decide +kernel
theorem dL_law_29 : decode cL_law 29 = .ok (.bipush 31, 2) := by decide +kernel
theorem dL_law_31 : decode cL_law 31 = .ok (.iand, 1) := by decide +kernel
theorem dL_law_32 : decode cL_law 32 = .ok (.tableswitch 760 0 18 #[92, 135, 178, 201, 234, 257, 300, 333, 376, 409, 442, 485, 538, 581, 614, 647, 660, 693, 737], 92) := by decide +kernel
theorem dL_law_124 : decode cL_law 124 = .ok (.aload_n 1, 1) := by decide +kernel
theorem dL_law_125 : decode cL_law 125 = .ok (.aload_n 0, 1) := by decide +kernel
theorem dL_law_126 : decode cL_law 126 = .ok (.iload_n 3, 1) := by decide +kernel
theorem dL_law_127 : decode cL_law 127 = .ok (.iconst 1, 1) := by decide +kernel
theorem dL_law_128 : decode cL_law 128 = .ok (.iadd, 1) := by decide +kernel
theorem dL_law_129 : decode cL_law 129 = .ok (.iaload, 1) := by decide +kernel
theorem dL_law_130 : decode cL_law 130 = .ok (.aload_n 0, 1) := by decide +kernel
theorem dL_law_131 : decode cL_law 131 = .ok (.iload_n 3, 1) := by decide +kernel
theorem dL_law_132 : decode cL_law 132 = .ok (.iconst 2, 1) := by decide +kernel
theorem dL_law_133 : decode cL_law 133 = .ok (.iadd, 1) := by decide +kernel
theorem dL_law_134 : decode cL_law 134 = .ok (.iaload, 1) := by decide +kernel
theorem dL_law_135 : decode cL_law 135 = .ok (.aload_n 0, 1) := by decide +kernel
theorem dL_law_136 : decode cL_law 136 = .ok (.iload_n 3, 1) := by decide +kernel
theorem dL_law_137 : decode cL_law 137 = .ok (.iconst 3, 1) := by decide +kernel
theorem dL_law_138 : decode cL_law 138 = .ok (.iadd, 1) := by decide +kernel
theorem dL_law_139 : decode cL_law 139 = .ok (.iaload, 1) := by decide +kernel
theorem dL_law_140 : decode cL_law 140 = .ok (.invokevirtual 13, 3) := by decide +kernel
theorem dL_law_143 : decode cL_law 143 = .ok (.aload_n 2, 1) := by decide +kernel
theorem dL_law_144 : decode cL_law 144 = .ok (.aload_n 0, 1) := by decide +kernel
theorem dL_law_145 : decode cL_law 145 = .ok (.iload_n 3, 1) := by decide +kernel
theorem dL_law_146 : decode cL_law 146 = .ok (.iconst 1, 1) := by decide +kernel
theorem dL_law_147 : decode cL_law 147 = .ok (.iadd, 1) := by decide +kernel
theorem dL_law_148 : decode cL_law 148 = .ok (.iaload, 1) := by decide +kernel
theorem dL_law_149 : decode cL_law 149 = .ok (.aload_n 0, 1) := by decide +kernel
theorem dL_law_150 : decode cL_law 150 = .ok (.iload_n 3, 1) := by decide +kernel
theorem dL_law_151 : decode cL_law 151 = .ok (.iconst 2, 1) := by decide +kernel
theorem dL_law_152 : decode cL_law 152 = .ok (.iadd, 1) := by decide +kernel
theorem dL_law_153 : decode cL_law 153 = .ok (.iaload, 1) := by decide +kernel
theorem dL_law_154 : decode cL_law 154 = .ok (.aload_n 0, 1) := by decide +kernel
theorem dL_law_155 : decode cL_law 155 = .ok (.iload_n 3, 1) := by decide +kernel
theorem dL_law_156 : decode cL_law 156 = .ok (.iconst 3, 1) := by decide +kernel
theorem dL_law_157 : decode cL_law 157 = .ok (.iadd, 1) := by decide +kernel
theorem dL_law_158 : decode cL_law 158 = .ok (.iaload, 1) := by decide +kernel
theorem dL_law_159 : decode cL_law 159 = .ok (.invokevirtual 17, 3) := by decide +kernel
theorem dL_law_162 : decode cL_law 162 = .ok (.if_icmp .eq 630, 3) := by decide +kernel
theorem dL_law_165 : decode cL_law 165 = .ok (.iconst 0, 1) := by decide +kernel
theorem dL_law_166 : decode cL_law 166 = .ok (.ireturn, 1) := by decide +kernel
theorem dL_law_167 : decode cL_law 167 = .ok (.aload_n 1, 1) := by decide +kernel
theorem dL_law_168 : decode cL_law 168 = .ok (.aload_n 0, 1) := by decide +kernel
theorem dL_law_169 : decode cL_law 169 = .ok (.iload_n 3, 1) := by decide +kernel
theorem dL_law_170 : decode cL_law 170 = .ok (.iconst 1, 1) := by decide +kernel
theorem dL_law_171 : decode cL_law 171 = .ok (.iadd, 1) := by decide +kernel
theorem dL_law_172 : decode cL_law 172 = .ok (.iaload, 1) := by decide +kernel
theorem dL_law_173 : decode cL_law 173 = .ok (.aload_n 0, 1) := by decide +kernel
theorem dL_law_174 : decode cL_law 174 = .ok (.iload_n 3, 1) := by decide +kernel
theorem dL_law_175 : decode cL_law 175 = .ok (.iconst 2, 1) := by decide +kernel
theorem dL_law_176 : decode cL_law 176 = .ok (.iadd, 1) := by decide +kernel
theorem dL_law_177 : decode cL_law 177 = .ok (.iaload, 1) := by decide +kernel
theorem dL_law_178 : decode cL_law 178 = .ok (.aload_n 0, 1) := by decide +kernel
theorem dL_law_179 : decode cL_law 179 = .ok (.iload_n 3, 1) := by decide +kernel
theorem dL_law_180 : decode cL_law 180 = .ok (.iconst 3, 1) := by decide +kernel
theorem dL_law_181 : decode cL_law 181 = .ok (.iadd, 1) := by decide +kernel
theorem dL_law_182 : decode cL_law 182 = .ok (.iaload, 1) := by decide +kernel
theorem dL_law_183 : decode cL_law 183 = .ok (.invokevirtual 18, 3) := by decide +kernel
theorem dL_law_186 : decode cL_law 186 = .ok (.aload_n 2, 1) := by decide +kernel
theorem dL_law_187 : decode cL_law 187 = .ok (.aload_n 0, 1) := by decide +kernel
theorem dL_law_188 : decode cL_law 188 = .ok (.iload_n 3, 1) := by decide +kernel
theorem dL_law_189 : decode cL_law 189 = .ok (.iconst 1, 1) := by decide +kernel
theorem dL_law_190 : decode cL_law 190 = .ok (.iadd, 1) := by decide +kernel
theorem dL_law_191 : decode cL_law 191 = .ok (.iaload, 1) := by decide +kernel
theorem dL_law_192 : decode cL_law 192 = .ok (.aload_n 0, 1) := by decide +kernel
theorem dL_law_193 : decode cL_law 193 = .ok (.iload_n 3, 1) := by decide +kernel
theorem dL_law_194 : decode cL_law 194 = .ok (.iconst 2, 1) := by decide +kernel
theorem dL_law_195 : decode cL_law 195 = .ok (.iadd, 1) := by decide +kernel
theorem dL_law_196 : decode cL_law 196 = .ok (.iaload, 1) := by decide +kernel
theorem dL_law_197 : decode cL_law 197 = .ok (.aload_n 0, 1) := by decide +kernel
theorem dL_law_198 : decode cL_law 198 = .ok (.iload_n 3, 1) := by decide +kernel
theorem dL_law_199 : decode cL_law 199 = .ok (.iconst 3, 1) := by decide +kernel
theorem dL_law_200 : decode cL_law 200 = .ok (.iadd, 1) := by decide +kernel
theorem dL_law_201 : decode cL_law 201 = .ok (.iaload, 1) := by decide +kernel
theorem dL_law_202 : decode cL_law 202 = .ok (.invokevirtual 21, 3) := by decide +kernel
theorem dL_law_205 : decode cL_law 205 = .ok (.if_icmp .eq 587, 3) := by decide +kernel
theorem dL_law_208 : decode cL_law 208 = .ok (.iconst 0, 1) := by decide +kernel
theorem dL_law_209 : decode cL_law 209 = .ok (.ireturn, 1) := by decide +kernel
theorem dL_law_210 : decode cL_law 210 = .ok (.aload_n 1, 1) := by decide +kernel
theorem dL_law_211 : decode cL_law 211 = .ok (.aload_n 0, 1) := by decide +kernel
theorem dL_law_212 : decode cL_law 212 = .ok (.iload_n 3, 1) := by decide +kernel
theorem dL_law_213 : decode cL_law 213 = .ok (.iconst 1, 1) := by decide +kernel
theorem dL_law_214 : decode cL_law 214 = .ok (.iadd, 1) := by decide +kernel
theorem dL_law_215 : decode cL_law 215 = .ok (.iaload, 1) := by decide +kernel
theorem dL_law_216 : decode cL_law 216 = .ok (.invokevirtual 22, 3) := by decide +kernel
theorem dL_law_219 : decode cL_law 219 = .ok (.aload_n 2, 1) := by decide +kernel
theorem dL_law_220 : decode cL_law 220 = .ok (.aload_n 0, 1) := by decide +kernel
theorem dL_law_221 : decode cL_law 221 = .ok (.iload_n 3, 1) := by decide +kernel
theorem dL_law_222 : decode cL_law 222 = .ok (.iconst 1, 1) := by decide +kernel
theorem dL_law_223 : decode cL_law 223 = .ok (.iadd, 1) := by decide +kernel
theorem dL_law_224 : decode cL_law 224 = .ok (.iaload, 1) := by decide +kernel
theorem dL_law_225 : decode cL_law 225 = .ok (.invokevirtual 26, 3) := by decide +kernel
theorem dL_law_228 : decode cL_law 228 = .ok (.if_icmp .eq 564, 3) := by decide +kernel
theorem dL_law_231 : decode cL_law 231 = .ok (.iconst 0, 1) := by decide +kernel
theorem dL_law_232 : decode cL_law 232 = .ok (.ireturn, 1) := by decide +kernel
theorem dL_law_233 : decode cL_law 233 = .ok (.aload_n 1, 1) := by decide +kernel
theorem dL_law_234 : decode cL_law 234 = .ok (.aload_n 0, 1) := by decide +kernel
theorem dL_law_235 : decode cL_law 235 = .ok (.iload_n 3, 1) := by decide +kernel
theorem dL_law_236 : decode cL_law 236 = .ok (.iconst 1, 1) := by decide +kernel
theorem dL_law_237 : decode cL_law 237 = .ok (.iadd, 1) := by decide +kernel
theorem dL_law_238 : decode cL_law 238 = .ok (.iaload, 1) := by decide +kernel
theorem dL_law_239 : decode cL_law 239 = .ok (.aload_n 0, 1) := by decide +kernel
theorem dL_law_240 : decode cL_law 240 = .ok (.iload_n 3, 1) := by decide +kernel
theorem dL_law_241 : decode cL_law 241 = .ok (.iconst 2, 1) := by decide +kernel
theorem dL_law_242 : decode cL_law 242 = .ok (.iadd, 1) := by decide +kernel
theorem dL_law_243 : decode cL_law 243 = .ok (.iaload, 1) := by decide +kernel
theorem dL_law_244 : decode cL_law 244 = .ok (.invokevirtual 27, 3) := by decide +kernel
theorem dL_law_247 : decode cL_law 247 = .ok (.aload_n 2, 1) := by decide +kernel
theorem dL_law_248 : decode cL_law 248 = .ok (.aload_n 0, 1) := by decide +kernel
theorem dL_law_249 : decode cL_law 249 = .ok (.iload_n 3, 1) := by decide +kernel
theorem dL_law_250 : decode cL_law 250 = .ok (.iconst 1, 1) := by decide +kernel
theorem dL_law_251 : decode cL_law 251 = .ok (.iadd, 1) := by decide +kernel
theorem dL_law_252 : decode cL_law 252 = .ok (.iaload, 1) := by decide +kernel
theorem dL_law_253 : decode cL_law 253 = .ok (.aload_n 0, 1) := by decide +kernel
theorem dL_law_254 : decode cL_law 254 = .ok (.iload_n 3, 1) := by decide +kernel
theorem dL_law_255 : decode cL_law 255 = .ok (.iconst 2, 1) := by decide +kernel
theorem dL_law_256 : decode cL_law 256 = .ok (.iadd, 1) := by decide +kernel
theorem dL_law_257 : decode cL_law 257 = .ok (.iaload, 1) := by decide +kernel
theorem dL_law_258 : decode cL_law 258 = .ok (.invokevirtual 31, 3) := by decide +kernel
theorem dL_law_261 : decode cL_law 261 = .ok (.if_icmp .eq 531, 3) := by decide +kernel
theorem dL_law_264 : decode cL_law 264 = .ok (.iconst 0, 1) := by decide +kernel
theorem dL_law_265 : decode cL_law 265 = .ok (.ireturn, 1) := by decide +kernel
theorem dL_law_266 : decode cL_law 266 = .ok (.aload_n 1, 1) := by decide +kernel
theorem dL_law_267 : decode cL_law 267 = .ok (.aload_n 0, 1) := by decide +kernel
theorem dL_law_268 : decode cL_law 268 = .ok (.iload_n 3, 1) := by decide +kernel
theorem dL_law_269 : decode cL_law 269 = .ok (.iconst 1, 1) := by decide +kernel
theorem dL_law_270 : decode cL_law 270 = .ok (.iadd, 1) := by decide +kernel
theorem dL_law_271 : decode cL_law 271 = .ok (.iaload, 1) := by decide +kernel
theorem dL_law_272 : decode cL_law 272 = .ok (.invokevirtual 32, 3) := by decide +kernel
theorem dL_law_275 : decode cL_law 275 = .ok (.aload_n 2, 1) := by decide +kernel
theorem dL_law_276 : decode cL_law 276 = .ok (.aload_n 0, 1) := by decide +kernel
theorem dL_law_277 : decode cL_law 277 = .ok (.iload_n 3, 1) := by decide +kernel
theorem dL_law_278 : decode cL_law 278 = .ok (.iconst 1, 1) := by decide +kernel
theorem dL_law_279 : decode cL_law 279 = .ok (.iadd, 1) := by decide +kernel
theorem dL_law_280 : decode cL_law 280 = .ok (.iaload, 1) := by decide +kernel
theorem dL_law_281 : decode cL_law 281 = .ok (.invokevirtual 35, 3) := by decide +kernel
theorem dL_law_284 : decode cL_law 284 = .ok (.if_icmp .eq 508, 3) := by decide +kernel
theorem dL_law_287 : decode cL_law 287 = .ok (.iconst 0, 1) := by decide +kernel
theorem dL_law_288 : decode cL_law 288 = .ok (.ireturn, 1) := by decide +kernel
theorem dL_law_289 : decode cL_law 289 = .ok (.aload_n 1, 1) := by decide +kernel
theorem dL_law_290 : decode cL_law 290 = .ok (.aload_n 0, 1) := by decide +kernel
theorem dL_law_291 : decode cL_law 291 = .ok (.iload_n 3, 1) := by decide +kernel
theorem dL_law_292 : decode cL_law 292 = .ok (.iconst 1, 1) := by decide +kernel
theorem dL_law_293 : decode cL_law 293 = .ok (.iadd, 1) := by decide +kernel
theorem dL_law_294 : decode cL_law 294 = .ok (.iaload, 1) := by decide +kernel
theorem dL_law_295 : decode cL_law 295 = .ok (.aload_n 0, 1) := by decide +kernel
theorem dL_law_296 : decode cL_law 296 = .ok (.iload_n 3, 1) := by decide +kernel
theorem dL_law_297 : decode cL_law 297 = .ok (.iconst 2, 1) := by decide +kernel
theorem dL_law_298 : decode cL_law 298 = .ok (.iadd, 1) := by decide +kernel
theorem dL_law_299 : decode cL_law 299 = .ok (.iaload, 1) := by decide +kernel
theorem dL_law_300 : decode cL_law 300 = .ok (.aload_n 0, 1) := by decide +kernel
theorem dL_law_301 : decode cL_law 301 = .ok (.iload_n 3, 1) := by decide +kernel
theorem dL_law_302 : decode cL_law 302 = .ok (.iconst 3, 1) := by decide +kernel
theorem dL_law_303 : decode cL_law 303 = .ok (.iadd, 1) := by decide +kernel
theorem dL_law_304 : decode cL_law 304 = .ok (.iaload, 1) := by decide +kernel
theorem dL_law_305 : decode cL_law 305 = .ok (.invokevirtual 36, 3) := by decide +kernel
theorem dL_law_308 : decode cL_law 308 = .ok (.aload_n 2, 1) := by decide +kernel
theorem dL_law_309 : decode cL_law 309 = .ok (.aload_n 0, 1) := by decide +kernel
theorem dL_law_310 : decode cL_law 310 = .ok (.iload_n 3, 1) := by decide +kernel
theorem dL_law_311 : decode cL_law 311 = .ok (.iconst 1, 1) := by decide +kernel
theorem dL_law_312 : decode cL_law 312 = .ok (.iadd, 1) := by decide +kernel
theorem dL_law_313 : decode cL_law 313 = .ok (.iaload, 1) := by decide +kernel
theorem dL_law_314 : decode cL_law 314 = .ok (.aload_n 0, 1) := by decide +kernel
theorem dL_law_315 : decode cL_law 315 = .ok (.iload_n 3, 1) := by decide +kernel
theorem dL_law_316 : decode cL_law 316 = .ok (.iconst 2, 1) := by decide +kernel
theorem dL_law_317 : decode cL_law 317 = .ok (.iadd, 1) := by decide +kernel
theorem dL_law_318 : decode cL_law 318 = .ok (.iaload, 1) := by decide +kernel
theorem dL_law_319 : decode cL_law 319 = .ok (.aload_n 0, 1) := by decide +kernel
theorem dL_law_320 : decode cL_law 320 = .ok (.iload_n 3, 1) := by decide +kernel
theorem dL_law_321 : decode cL_law 321 = .ok (.iconst 3, 1) := by decide +kernel
theorem dL_law_322 : decode cL_law 322 = .ok (.iadd, 1) := by decide +kernel
theorem dL_law_323 : decode cL_law 323 = .ok (.iaload, 1) := by decide +kernel
theorem dL_law_324 : decode cL_law 324 = .ok (.invokevirtual 39, 3) := by decide +kernel
theorem dL_law_327 : decode cL_law 327 = .ok (.if_icmp .eq 465, 3) := by decide +kernel
theorem dL_law_330 : decode cL_law 330 = .ok (.iconst 0, 1) := by decide +kernel
theorem dL_law_331 : decode cL_law 331 = .ok (.ireturn, 1) := by decide +kernel
theorem dL_law_332 : decode cL_law 332 = .ok (.aload_n 1, 1) := by decide +kernel
theorem dL_law_333 : decode cL_law 333 = .ok (.aload_n 0, 1) := by decide +kernel
theorem dL_law_334 : decode cL_law 334 = .ok (.iload_n 3, 1) := by decide +kernel
theorem dL_law_335 : decode cL_law 335 = .ok (.iconst 1, 1) := by decide +kernel
theorem dL_law_336 : decode cL_law 336 = .ok (.iadd, 1) := by decide +kernel
theorem dL_law_337 : decode cL_law 337 = .ok (.iaload, 1) := by decide +kernel
theorem dL_law_338 : decode cL_law 338 = .ok (.aload_n 0, 1) := by decide +kernel
theorem dL_law_339 : decode cL_law 339 = .ok (.iload_n 3, 1) := by decide +kernel
theorem dL_law_340 : decode cL_law 340 = .ok (.iconst 2, 1) := by decide +kernel
theorem dL_law_341 : decode cL_law 341 = .ok (.iadd, 1) := by decide +kernel
theorem dL_law_342 : decode cL_law 342 = .ok (.iaload, 1) := by decide +kernel
theorem dL_law_343 : decode cL_law 343 = .ok (.invokevirtual 40, 3) := by decide +kernel
theorem dL_law_346 : decode cL_law 346 = .ok (.aload_n 2, 1) := by decide +kernel
theorem dL_law_347 : decode cL_law 347 = .ok (.aload_n 0, 1) := by decide +kernel
theorem dL_law_348 : decode cL_law 348 = .ok (.iload_n 3, 1) := by decide +kernel
theorem dL_law_349 : decode cL_law 349 = .ok (.iconst 1, 1) := by decide +kernel
theorem dL_law_350 : decode cL_law 350 = .ok (.iadd, 1) := by decide +kernel
theorem dL_law_351 : decode cL_law 351 = .ok (.iaload, 1) := by decide +kernel
theorem dL_law_352 : decode cL_law 352 = .ok (.aload_n 0, 1) := by decide +kernel
theorem dL_law_353 : decode cL_law 353 = .ok (.iload_n 3, 1) := by decide +kernel
theorem dL_law_354 : decode cL_law 354 = .ok (.iconst 2, 1) := by decide +kernel
theorem dL_law_355 : decode cL_law 355 = .ok (.iadd, 1) := by decide +kernel
theorem dL_law_356 : decode cL_law 356 = .ok (.iaload, 1) := by decide +kernel
theorem dL_law_357 : decode cL_law 357 = .ok (.invokevirtual 43, 3) := by decide +kernel
theorem dL_law_360 : decode cL_law 360 = .ok (.if_icmp .eq 432, 3) := by decide +kernel
theorem dL_law_363 : decode cL_law 363 = .ok (.iconst 0, 1) := by decide +kernel
theorem dL_law_364 : decode cL_law 364 = .ok (.ireturn, 1) := by decide +kernel
theorem dL_law_365 : decode cL_law 365 = .ok (.aload_n 1, 1) := by decide +kernel
theorem dL_law_366 : decode cL_law 366 = .ok (.aload_n 0, 1) := by decide +kernel
theorem dL_law_367 : decode cL_law 367 = .ok (.iload_n 3, 1) := by decide +kernel
theorem dL_law_368 : decode cL_law 368 = .ok (.iconst 1, 1) := by decide +kernel
theorem dL_law_369 : decode cL_law 369 = .ok (.iadd, 1) := by decide +kernel
theorem dL_law_370 : decode cL_law 370 = .ok (.iaload, 1) := by decide +kernel
theorem dL_law_371 : decode cL_law 371 = .ok (.aload_n 0, 1) := by decide +kernel
theorem dL_law_372 : decode cL_law 372 = .ok (.iload_n 3, 1) := by decide +kernel
theorem dL_law_373 : decode cL_law 373 = .ok (.iconst 2, 1) := by decide +kernel
theorem dL_law_374 : decode cL_law 374 = .ok (.iadd, 1) := by decide +kernel
theorem dL_law_375 : decode cL_law 375 = .ok (.iaload, 1) := by decide +kernel
theorem dL_law_376 : decode cL_law 376 = .ok (.aload_n 0, 1) := by decide +kernel
theorem dL_law_377 : decode cL_law 377 = .ok (.iload_n 3, 1) := by decide +kernel
theorem dL_law_378 : decode cL_law 378 = .ok (.iconst 3, 1) := by decide +kernel
theorem dL_law_379 : decode cL_law 379 = .ok (.iadd, 1) := by decide +kernel
theorem dL_law_380 : decode cL_law 380 = .ok (.iaload, 1) := by decide +kernel
theorem dL_law_381 : decode cL_law 381 = .ok (.invokevirtual 44, 3) := by decide +kernel
theorem dL_law_384 : decode cL_law 384 = .ok (.aload_n 2, 1) := by decide +kernel
theorem dL_law_385 : decode cL_law 385 = .ok (.aload_n 0, 1) := by decide +kernel
theorem dL_law_386 : decode cL_law 386 = .ok (.iload_n 3, 1) := by decide +kernel
theorem dL_law_387 : decode cL_law 387 = .ok (.iconst 1, 1) := by decide +kernel
theorem dL_law_388 : decode cL_law 388 = .ok (.iadd, 1) := by decide +kernel
theorem dL_law_389 : decode cL_law 389 = .ok (.iaload, 1) := by decide +kernel
theorem dL_law_390 : decode cL_law 390 = .ok (.aload_n 0, 1) := by decide +kernel
theorem dL_law_391 : decode cL_law 391 = .ok (.iload_n 3, 1) := by decide +kernel
theorem dL_law_392 : decode cL_law 392 = .ok (.iconst 2, 1) := by decide +kernel
theorem dL_law_393 : decode cL_law 393 = .ok (.iadd, 1) := by decide +kernel
theorem dL_law_394 : decode cL_law 394 = .ok (.iaload, 1) := by decide +kernel
theorem dL_law_395 : decode cL_law 395 = .ok (.aload_n 0, 1) := by decide +kernel
theorem dL_law_396 : decode cL_law 396 = .ok (.iload_n 3, 1) := by decide +kernel
theorem dL_law_397 : decode cL_law 397 = .ok (.iconst 3, 1) := by decide +kernel
theorem dL_law_398 : decode cL_law 398 = .ok (.iadd, 1) := by decide +kernel
theorem dL_law_399 : decode cL_law 399 = .ok (.iaload, 1) := by decide +kernel
theorem dL_law_400 : decode cL_law 400 = .ok (.invokevirtual 47, 3) := by decide +kernel
theorem dL_law_403 : decode cL_law 403 = .ok (.if_icmp .eq 389, 3) := by decide +kernel
theorem dL_law_406 : decode cL_law 406 = .ok (.iconst 0, 1) := by decide +kernel
theorem dL_law_407 : decode cL_law 407 = .ok (.ireturn, 1) := by decide +kernel
theorem dL_law_408 : decode cL_law 408 = .ok (.aload_n 1, 1) := by decide +kernel
theorem dL_law_409 : decode cL_law 409 = .ok (.aload_n 0, 1) := by decide +kernel
theorem dL_law_410 : decode cL_law 410 = .ok (.iload_n 3, 1) := by decide +kernel
theorem dL_law_411 : decode cL_law 411 = .ok (.iconst 1, 1) := by decide +kernel
theorem dL_law_412 : decode cL_law 412 = .ok (.iadd, 1) := by decide +kernel
theorem dL_law_413 : decode cL_law 413 = .ok (.iaload, 1) := by decide +kernel
theorem dL_law_414 : decode cL_law 414 = .ok (.aload_n 0, 1) := by decide +kernel
theorem dL_law_415 : decode cL_law 415 = .ok (.iload_n 3, 1) := by decide +kernel
theorem dL_law_416 : decode cL_law 416 = .ok (.iconst 2, 1) := by decide +kernel
theorem dL_law_417 : decode cL_law 417 = .ok (.iadd, 1) := by decide +kernel
theorem dL_law_418 : decode cL_law 418 = .ok (.iaload, 1) := by decide +kernel
theorem dL_law_419 : decode cL_law 419 = .ok (.invokevirtual 48, 3) := by decide +kernel
theorem dL_law_422 : decode cL_law 422 = .ok (.aload_n 2, 1) := by decide +kernel
theorem dL_law_423 : decode cL_law 423 = .ok (.aload_n 0, 1) := by decide +kernel
theorem dL_law_424 : decode cL_law 424 = .ok (.iload_n 3, 1) := by decide +kernel
theorem dL_law_425 : decode cL_law 425 = .ok (.iconst 1, 1) := by decide +kernel
theorem dL_law_426 : decode cL_law 426 = .ok (.iadd, 1) := by decide +kernel
theorem dL_law_427 : decode cL_law 427 = .ok (.iaload, 1) := by decide +kernel
theorem dL_law_428 : decode cL_law 428 = .ok (.aload_n 0, 1) := by decide +kernel
theorem dL_law_429 : decode cL_law 429 = .ok (.iload_n 3, 1) := by decide +kernel
theorem dL_law_430 : decode cL_law 430 = .ok (.iconst 2, 1) := by decide +kernel
theorem dL_law_431 : decode cL_law 431 = .ok (.iadd, 1) := by decide +kernel
theorem dL_law_432 : decode cL_law 432 = .ok (.iaload, 1) := by decide +kernel
theorem dL_law_433 : decode cL_law 433 = .ok (.invokevirtual 51, 3) := by decide +kernel
theorem dL_law_436 : decode cL_law 436 = .ok (.if_icmp .eq 356, 3) := by decide +kernel
theorem dL_law_439 : decode cL_law 439 = .ok (.iconst 0, 1) := by decide +kernel
theorem dL_law_440 : decode cL_law 440 = .ok (.ireturn, 1) := by decide +kernel
theorem dL_law_441 : decode cL_law 441 = .ok (.aload_n 1, 1) := by decide +kernel
theorem dL_law_442 : decode cL_law 442 = .ok (.aload_n 0, 1) := by decide +kernel
theorem dL_law_443 : decode cL_law 443 = .ok (.iload_n 3, 1) := by decide +kernel
theorem dL_law_444 : decode cL_law 444 = .ok (.iconst 1, 1) := by decide +kernel
theorem dL_law_445 : decode cL_law 445 = .ok (.iadd, 1) := by decide +kernel
theorem dL_law_446 : decode cL_law 446 = .ok (.iaload, 1) := by decide +kernel
theorem dL_law_447 : decode cL_law 447 = .ok (.aload_n 0, 1) := by decide +kernel
theorem dL_law_448 : decode cL_law 448 = .ok (.iload_n 3, 1) := by decide +kernel
theorem dL_law_449 : decode cL_law 449 = .ok (.iconst 2, 1) := by decide +kernel
theorem dL_law_450 : decode cL_law 450 = .ok (.iadd, 1) := by decide +kernel
theorem dL_law_451 : decode cL_law 451 = .ok (.iaload, 1) := by decide +kernel
theorem dL_law_452 : decode cL_law 452 = .ok (.invokevirtual 52, 3) := by decide +kernel
theorem dL_law_455 : decode cL_law 455 = .ok (.aload_n 2, 1) := by decide +kernel
theorem dL_law_456 : decode cL_law 456 = .ok (.aload_n 0, 1) := by decide +kernel
theorem dL_law_457 : decode cL_law 457 = .ok (.iload_n 3, 1) := by decide +kernel
theorem dL_law_458 : decode cL_law 458 = .ok (.iconst 1, 1) := by decide +kernel
theorem dL_law_459 : decode cL_law 459 = .ok (.iadd, 1) := by decide +kernel
theorem dL_law_460 : decode cL_law 460 = .ok (.iaload, 1) := by decide +kernel
theorem dL_law_461 : decode cL_law 461 = .ok (.aload_n 0, 1) := by decide +kernel
theorem dL_law_462 : decode cL_law 462 = .ok (.iload_n 3, 1) := by decide +kernel
theorem dL_law_463 : decode cL_law 463 = .ok (.iconst 2, 1) := by decide +kernel
theorem dL_law_464 : decode cL_law 464 = .ok (.iadd, 1) := by decide +kernel
theorem dL_law_465 : decode cL_law 465 = .ok (.iaload, 1) := by decide +kernel
theorem dL_law_466 : decode cL_law 466 = .ok (.invokevirtual 55, 3) := by decide +kernel
theorem dL_law_469 : decode cL_law 469 = .ok (.if_icmp .eq 323, 3) := by decide +kernel
theorem dL_law_472 : decode cL_law 472 = .ok (.iconst 0, 1) := by decide +kernel
theorem dL_law_473 : decode cL_law 473 = .ok (.ireturn, 1) := by decide +kernel
theorem dL_law_474 : decode cL_law 474 = .ok (.aload_n 1, 1) := by decide +kernel
theorem dL_law_475 : decode cL_law 475 = .ok (.aload_n 0, 1) := by decide +kernel
theorem dL_law_476 : decode cL_law 476 = .ok (.iload_n 3, 1) := by decide +kernel
theorem dL_law_477 : decode cL_law 477 = .ok (.iconst 1, 1) := by decide +kernel
theorem dL_law_478 : decode cL_law 478 = .ok (.iadd, 1) := by decide +kernel
theorem dL_law_479 : decode cL_law 479 = .ok (.iaload, 1) := by decide +kernel
theorem dL_law_480 : decode cL_law 480 = .ok (.aload_n 0, 1) := by decide +kernel
theorem dL_law_481 : decode cL_law 481 = .ok (.iload_n 3, 1) := by decide +kernel
theorem dL_law_482 : decode cL_law 482 = .ok (.iconst 2, 1) := by decide +kernel
theorem dL_law_483 : decode cL_law 483 = .ok (.iadd, 1) := by decide +kernel
theorem dL_law_484 : decode cL_law 484 = .ok (.iaload, 1) := by decide +kernel
theorem dL_law_485 : decode cL_law 485 = .ok (.aload_n 0, 1) := by decide +kernel
theorem dL_law_486 : decode cL_law 486 = .ok (.iload_n 3, 1) := by decide +kernel
theorem dL_law_487 : decode cL_law 487 = .ok (.iconst 3, 1) := by decide +kernel
theorem dL_law_488 : decode cL_law 488 = .ok (.iadd, 1) := by decide +kernel
theorem dL_law_489 : decode cL_law 489 = .ok (.iaload, 1) := by decide +kernel
theorem dL_law_490 : decode cL_law 490 = .ok (.invokevirtual 56, 3) := by decide +kernel
theorem dL_law_493 : decode cL_law 493 = .ok (.aload_n 2, 1) := by decide +kernel
theorem dL_law_494 : decode cL_law 494 = .ok (.aload_n 0, 1) := by decide +kernel
theorem dL_law_495 : decode cL_law 495 = .ok (.iload_n 3, 1) := by decide +kernel
theorem dL_law_496 : decode cL_law 496 = .ok (.iconst 1, 1) := by decide +kernel
theorem dL_law_497 : decode cL_law 497 = .ok (.iadd, 1) := by decide +kernel
theorem dL_law_498 : decode cL_law 498 = .ok (.iaload, 1) := by decide +kernel
theorem dL_law_499 : decode cL_law 499 = .ok (.aload_n 0, 1) := by decide +kernel
theorem dL_law_500 : decode cL_law 500 = .ok (.iload_n 3, 1) := by decide +kernel
theorem dL_law_501 : decode cL_law 501 = .ok (.iconst 2, 1) := by decide +kernel
theorem dL_law_502 : decode cL_law 502 = .ok (.iadd, 1) := by decide +kernel
theorem dL_law_503 : decode cL_law 503 = .ok (.iaload, 1) := by decide +kernel
theorem dL_law_504 : decode cL_law 504 = .ok (.aload_n 0, 1) := by decide +kernel
theorem dL_law_505 : decode cL_law 505 = .ok (.iload_n 3, 1) := by decide +kernel
theorem dL_law_506 : decode cL_law 506 = .ok (.iconst 3, 1) := by decide +kernel
theorem dL_law_507 : decode cL_law 507 = .ok (.iadd, 1) := by decide +kernel
theorem dL_law_508 : decode cL_law 508 = .ok (.iaload, 1) := by decide +kernel
theorem dL_law_509 : decode cL_law 509 = .ok (.invokevirtual 59, 3) := by decide +kernel
theorem dL_law_512 : decode cL_law 512 = .ok (.if_icmp .eq 280, 3) := by decide +kernel
theorem dL_law_515 : decode cL_law 515 = .ok (.iconst 0, 1) := by decide +kernel
theorem dL_law_516 : decode cL_law 516 = .ok (.ireturn, 1) := by decide +kernel
theorem dL_law_517 : decode cL_law 517 = .ok (.aload_n 1, 1) := by decide +kernel
theorem dL_law_518 : decode cL_law 518 = .ok (.aload_n 0, 1) := by decide +kernel
theorem dL_law_519 : decode cL_law 519 = .ok (.iload_n 3, 1) := by decide +kernel
theorem dL_law_520 : decode cL_law 520 = .ok (.iconst 1, 1) := by decide +kernel
theorem dL_law_521 : decode cL_law 521 = .ok (.iadd, 1) := by decide +kernel
theorem dL_law_522 : decode cL_law 522 = .ok (.iaload, 1) := by decide +kernel
theorem dL_law_523 : decode cL_law 523 = .ok (.aload_n 0, 1) := by decide +kernel
theorem dL_law_524 : decode cL_law 524 = .ok (.iload_n 3, 1) := by decide +kernel
theorem dL_law_525 : decode cL_law 525 = .ok (.iconst 2, 1) := by decide +kernel
theorem dL_law_526 : decode cL_law 526 = .ok (.iadd, 1) := by decide +kernel
theorem dL_law_527 : decode cL_law 527 = .ok (.iaload, 1) := by decide +kernel
theorem dL_law_528 : decode cL_law 528 = .ok (.aload_n 0, 1) := by decide +kernel
theorem dL_law_529 : decode cL_law 529 = .ok (.iload_n 3, 1) := by decide +kernel
theorem dL_law_530 : decode cL_law 530 = .ok (.iconst 3, 1) := by decide +kernel
theorem dL_law_531 : decode cL_law 531 = .ok (.iadd, 1) := by decide +kernel
theorem dL_law_532 : decode cL_law 532 = .ok (.iaload, 1) := by decide +kernel
theorem dL_law_533 : decode cL_law 533 = .ok (.aload_n 0, 1) := by decide +kernel
theorem dL_law_534 : decode cL_law 534 = .ok (.iload_n 3, 1) := by decide +kernel
theorem dL_law_535 : decode cL_law 535 = .ok (.iconst 4, 1) := by decide +kernel
theorem dL_law_536 : decode cL_law 536 = .ok (.iadd, 1) := by decide +kernel
theorem dL_law_537 : decode cL_law 537 = .ok (.iaload, 1) := by decide +kernel
theorem dL_law_538 : decode cL_law 538 = .ok (.invokevirtual 60, 3) := by decide +kernel
theorem dL_law_541 : decode cL_law 541 = .ok (.aload_n 2, 1) := by decide +kernel
theorem dL_law_542 : decode cL_law 542 = .ok (.aload_n 0, 1) := by decide +kernel
theorem dL_law_543 : decode cL_law 543 = .ok (.iload_n 3, 1) := by decide +kernel
theorem dL_law_544 : decode cL_law 544 = .ok (.iconst 1, 1) := by decide +kernel
theorem dL_law_545 : decode cL_law 545 = .ok (.iadd, 1) := by decide +kernel
theorem dL_law_546 : decode cL_law 546 = .ok (.iaload, 1) := by decide +kernel
theorem dL_law_547 : decode cL_law 547 = .ok (.aload_n 0, 1) := by decide +kernel
theorem dL_law_548 : decode cL_law 548 = .ok (.iload_n 3, 1) := by decide +kernel
theorem dL_law_549 : decode cL_law 549 = .ok (.iconst 2, 1) := by decide +kernel
theorem dL_law_550 : decode cL_law 550 = .ok (.iadd, 1) := by decide +kernel
theorem dL_law_551 : decode cL_law 551 = .ok (.iaload, 1) := by decide +kernel
theorem dL_law_552 : decode cL_law 552 = .ok (.aload_n 0, 1) := by decide +kernel
theorem dL_law_553 : decode cL_law 553 = .ok (.iload_n 3, 1) := by decide +kernel
theorem dL_law_554 : decode cL_law 554 = .ok (.iconst 3, 1) := by decide +kernel
theorem dL_law_555 : decode cL_law 555 = .ok (.iadd, 1) := by decide +kernel
theorem dL_law_556 : decode cL_law 556 = .ok (.iaload, 1) := by decide +kernel
theorem dL_law_557 : decode cL_law 557 = .ok (.aload_n 0, 1) := by decide +kernel
theorem dL_law_558 : decode cL_law 558 = .ok (.iload_n 3, 1) := by decide +kernel
theorem dL_law_559 : decode cL_law 559 = .ok (.iconst 4, 1) := by decide +kernel
theorem dL_law_560 : decode cL_law 560 = .ok (.iadd, 1) := by decide +kernel
theorem dL_law_561 : decode cL_law 561 = .ok (.iaload, 1) := by decide +kernel
theorem dL_law_562 : decode cL_law 562 = .ok (.invokevirtual 64, 3) := by decide +kernel
theorem dL_law_565 : decode cL_law 565 = .ok (.if_icmp .eq 227, 3) := by decide +kernel
theorem dL_law_568 : decode cL_law 568 = .ok (.iconst 0, 1) := by decide +kernel
theorem dL_law_569 : decode cL_law 569 = .ok (.ireturn, 1) := by decide +kernel
theorem dL_law_570 : decode cL_law 570 = .ok (.aload_n 1, 1) := by decide +kernel
theorem dL_law_571 : decode cL_law 571 = .ok (.aload_n 0, 1) := by decide +kernel
theorem dL_law_572 : decode cL_law 572 = .ok (.iload_n 3, 1) := by decide +kernel
theorem dL_law_573 : decode cL_law 573 = .ok (.iconst 1, 1) := by decide +kernel
theorem dL_law_574 : decode cL_law 574 = .ok (.iadd, 1) := by decide +kernel
theorem dL_law_575 : decode cL_law 575 = .ok (.iaload, 1) := by decide +kernel
theorem dL_law_576 : decode cL_law 576 = .ok (.aload_n 0, 1) := by decide +kernel
theorem dL_law_577 : decode cL_law 577 = .ok (.iload_n 3, 1) := by decide +kernel
theorem dL_law_578 : decode cL_law 578 = .ok (.iconst 2, 1) := by decide +kernel
theorem dL_law_579 : decode cL_law 579 = .ok (.iadd, 1) := by decide +kernel
theorem dL_law_580 : decode cL_law 580 = .ok (.iaload, 1) := by decide +kernel
theorem dL_law_581 : decode cL_law 581 = .ok (.aload_n 0, 1) := by decide +kernel
theorem dL_law_582 : decode cL_law 582 = .ok (.iload_n 3, 1) := by decide +kernel
theorem dL_law_583 : decode cL_law 583 = .ok (.iconst 3, 1) := by decide +kernel
theorem dL_law_584 : decode cL_law 584 = .ok (.iadd, 1) := by decide +kernel
theorem dL_law_585 : decode cL_law 585 = .ok (.iaload, 1) := by decide +kernel
theorem dL_law_586 : decode cL_law 586 = .ok (.invokevirtual 65, 3) := by decide +kernel
theorem dL_law_589 : decode cL_law 589 = .ok (.aload_n 2, 1) := by decide +kernel
theorem dL_law_590 : decode cL_law 590 = .ok (.aload_n 0, 1) := by decide +kernel
theorem dL_law_591 : decode cL_law 591 = .ok (.iload_n 3, 1) := by decide +kernel
theorem dL_law_592 : decode cL_law 592 = .ok (.iconst 1, 1) := by decide +kernel
theorem dL_law_593 : decode cL_law 593 = .ok (.iadd, 1) := by decide +kernel
theorem dL_law_594 : decode cL_law 594 = .ok (.iaload, 1) := by decide +kernel
theorem dL_law_595 : decode cL_law 595 = .ok (.aload_n 0, 1) := by decide +kernel
theorem dL_law_596 : decode cL_law 596 = .ok (.iload_n 3, 1) := by decide +kernel
theorem dL_law_597 : decode cL_law 597 = .ok (.iconst 2, 1) := by decide +kernel
theorem dL_law_598 : decode cL_law 598 = .ok (.iadd, 1) := by decide +kernel
theorem dL_law_599 : decode cL_law 599 = .ok (.iaload, 1) := by decide +kernel
theorem dL_law_600 : decode cL_law 600 = .ok (.aload_n 0, 1) := by decide +kernel
theorem dL_law_601 : decode cL_law 601 = .ok (.iload_n 3, 1) := by decide +kernel
theorem dL_law_602 : decode cL_law 602 = .ok (.iconst 3, 1) := by decide +kernel
theorem dL_law_603 : decode cL_law 603 = .ok (.iadd, 1) := by decide +kernel
theorem dL_law_604 : decode cL_law 604 = .ok (.iaload, 1) := by decide +kernel
theorem dL_law_605 : decode cL_law 605 = .ok (.invokevirtual 68, 3) := by decide +kernel
theorem dL_law_608 : decode cL_law 608 = .ok (.if_icmp .eq 184, 3) := by decide +kernel
theorem dL_law_611 : decode cL_law 611 = .ok (.iconst 0, 1) := by decide +kernel
theorem dL_law_612 : decode cL_law 612 = .ok (.ireturn, 1) := by decide +kernel
theorem dL_law_613 : decode cL_law 613 = .ok (.aload_n 1, 1) := by decide +kernel
theorem dL_law_614 : decode cL_law 614 = .ok (.aload_n 0, 1) := by decide +kernel
theorem dL_law_615 : decode cL_law 615 = .ok (.iload_n 3, 1) := by decide +kernel
theorem dL_law_616 : decode cL_law 616 = .ok (.iconst 1, 1) := by decide +kernel
theorem dL_law_617 : decode cL_law 617 = .ok (.iadd, 1) := by decide +kernel
theorem dL_law_618 : decode cL_law 618 = .ok (.iaload, 1) := by decide +kernel
theorem dL_law_619 : decode cL_law 619 = .ok (.aload_n 0, 1) := by decide +kernel
theorem dL_law_620 : decode cL_law 620 = .ok (.iload_n 3, 1) := by decide +kernel
theorem dL_law_621 : decode cL_law 621 = .ok (.iconst 2, 1) := by decide +kernel
theorem dL_law_622 : decode cL_law 622 = .ok (.iadd, 1) := by decide +kernel
theorem dL_law_623 : decode cL_law 623 = .ok (.iaload, 1) := by decide +kernel
theorem dL_law_624 : decode cL_law 624 = .ok (.invokevirtual 69, 3) := by decide +kernel
theorem dL_law_627 : decode cL_law 627 = .ok (.aload_n 2, 1) := by decide +kernel
theorem dL_law_628 : decode cL_law 628 = .ok (.aload_n 0, 1) := by decide +kernel
theorem dL_law_629 : decode cL_law 629 = .ok (.iload_n 3, 1) := by decide +kernel
theorem dL_law_630 : decode cL_law 630 = .ok (.iconst 1, 1) := by decide +kernel
theorem dL_law_631 : decode cL_law 631 = .ok (.iadd, 1) := by decide +kernel
theorem dL_law_632 : decode cL_law 632 = .ok (.iaload, 1) := by decide +kernel
theorem dL_law_633 : decode cL_law 633 = .ok (.aload_n 0, 1) := by decide +kernel
theorem dL_law_634 : decode cL_law 634 = .ok (.iload_n 3, 1) := by decide +kernel
theorem dL_law_635 : decode cL_law 635 = .ok (.iconst 2, 1) := by decide +kernel
theorem dL_law_636 : decode cL_law 636 = .ok (.iadd, 1) := by decide +kernel
theorem dL_law_637 : decode cL_law 637 = .ok (.iaload, 1) := by decide +kernel
theorem dL_law_638 : decode cL_law 638 = .ok (.invokevirtual 72, 3) := by decide +kernel
theorem dL_law_641 : decode cL_law 641 = .ok (.if_icmp .eq 151, 3) := by decide +kernel
theorem dL_law_644 : decode cL_law 644 = .ok (.iconst 0, 1) := by decide +kernel
theorem dL_law_645 : decode cL_law 645 = .ok (.ireturn, 1) := by decide +kernel
theorem dL_law_646 : decode cL_law 646 = .ok (.aload_n 1, 1) := by decide +kernel
theorem dL_law_647 : decode cL_law 647 = .ok (.aload_n 0, 1) := by decide +kernel
theorem dL_law_648 : decode cL_law 648 = .ok (.iload_n 3, 1) := by decide +kernel
theorem dL_law_649 : decode cL_law 649 = .ok (.iconst 1, 1) := by decide +kernel
theorem dL_law_650 : decode cL_law 650 = .ok (.iadd, 1) := by decide +kernel
theorem dL_law_651 : decode cL_law 651 = .ok (.iaload, 1) := by decide +kernel
theorem dL_law_652 : decode cL_law 652 = .ok (.aload_n 0, 1) := by decide +kernel
theorem dL_law_653 : decode cL_law 653 = .ok (.iload_n 3, 1) := by decide +kernel
theorem dL_law_654 : decode cL_law 654 = .ok (.iconst 2, 1) := by decide +kernel
theorem dL_law_655 : decode cL_law 655 = .ok (.iadd, 1) := by decide +kernel
theorem dL_law_656 : decode cL_law 656 = .ok (.iaload, 1) := by decide +kernel
theorem dL_law_657 : decode cL_law 657 = .ok (.invokevirtual 73, 3) := by decide +kernel
theorem dL_law_660 : decode cL_law 660 = .ok (.aload_n 2, 1) := by decide +kernel
theorem dL_law_661 : decode cL_law 661 = .ok (.aload_n 0, 1) := by decide +kernel
theorem dL_law_662 : decode cL_law 662 = .ok (.iload_n 3, 1) := by decide +kernel
theorem dL_law_663 : decode cL_law 663 = .ok (.iconst 1, 1) := by decide +kernel
theorem dL_law_664 : decode cL_law 664 = .ok (.iadd, 1) := by decide +kernel
theorem dL_law_665 : decode cL_law 665 = .ok (.iaload, 1) := by decide +kernel
theorem dL_law_666 : decode cL_law 666 = .ok (.aload_n 0, 1) := by decide +kernel
theorem dL_law_667 : decode cL_law 667 = .ok (.iload_n 3, 1) := by decide +kernel
theorem dL_law_668 : decode cL_law 668 = .ok (.iconst 2, 1) := by decide +kernel
theorem dL_law_669 : decode cL_law 669 = .ok (.iadd, 1) := by decide +kernel
theorem dL_law_670 : decode cL_law 670 = .ok (.iaload, 1) := by decide +kernel
theorem dL_law_671 : decode cL_law 671 = .ok (.invokevirtual 76, 3) := by decide +kernel
theorem dL_law_674 : decode cL_law 674 = .ok (.if_icmp .eq 118, 3) := by decide +kernel
theorem dL_law_677 : decode cL_law 677 = .ok (.iconst 0, 1) := by decide +kernel
theorem dL_law_678 : decode cL_law 678 = .ok (.ireturn, 1) := by decide +kernel
theorem dL_law_679 : decode cL_law 679 = .ok (.aload_n 1, 1) := by decide +kernel
theorem dL_law_680 : decode cL_law 680 = .ok (.invokevirtual 77, 3) := by decide +kernel
theorem dL_law_683 : decode cL_law 683 = .ok (.aload_n 2, 1) := by decide +kernel
theorem dL_law_684 : decode cL_law 684 = .ok (.invokevirtual 81, 3) := by decide +kernel
theorem dL_law_687 : decode cL_law 687 = .ok (.if_icmp .eq 105, 3) := by decide +kernel
theorem dL_law_690 : decode cL_law 690 = .ok (.iconst 0, 1) := by decide +kernel
theorem dL_law_691 : decode cL_law 691 = .ok (.ireturn, 1) := by decide +kernel
theorem dL_law_692 : decode cL_law 692 = .ok (.aload_n 1, 1) := by decide +kernel
theorem dL_law_693 : decode cL_law 693 = .ok (.aload_n 0, 1) := by decide +kernel
theorem dL_law_694 : decode cL_law 694 = .ok (.iload_n 3, 1) := by decide +kernel
theorem dL_law_695 : decode cL_law 695 = .ok (.iconst 1, 1) := by decide +kernel
theorem dL_law_696 : decode cL_law 696 = .ok (.iadd, 1) := by decide +kernel
theorem dL_law_697 : decode cL_law 697 = .ok (.iaload, 1) := by decide +kernel
theorem dL_law_698 : decode cL_law 698 = .ok (.aload_n 0, 1) := by decide +kernel
theorem dL_law_699 : decode cL_law 699 = .ok (.iload_n 3, 1) := by decide +kernel
theorem dL_law_700 : decode cL_law 700 = .ok (.iconst 2, 1) := by decide +kernel
theorem dL_law_701 : decode cL_law 701 = .ok (.iadd, 1) := by decide +kernel
theorem dL_law_702 : decode cL_law 702 = .ok (.iaload, 1) := by decide +kernel
theorem dL_law_703 : decode cL_law 703 = .ok (.invokevirtual 82, 3) := by decide +kernel
theorem dL_law_706 : decode cL_law 706 = .ok (.aload_n 2, 1) := by decide +kernel
theorem dL_law_707 : decode cL_law 707 = .ok (.aload_n 0, 1) := by decide +kernel
theorem dL_law_708 : decode cL_law 708 = .ok (.iload_n 3, 1) := by decide +kernel
theorem dL_law_709 : decode cL_law 709 = .ok (.iconst 1, 1) := by decide +kernel
theorem dL_law_710 : decode cL_law 710 = .ok (.iadd, 1) := by decide +kernel
theorem dL_law_711 : decode cL_law 711 = .ok (.iaload, 1) := by decide +kernel
theorem dL_law_712 : decode cL_law 712 = .ok (.aload_n 0, 1) := by decide +kernel
theorem dL_law_713 : decode cL_law 713 = .ok (.iload_n 3, 1) := by decide +kernel
theorem dL_law_714 : decode cL_law 714 = .ok (.iconst 2, 1) := by decide +kernel
theorem dL_law_715 : decode cL_law 715 = .ok (.iadd, 1) := by decide +kernel
theorem dL_law_716 : decode cL_law 716 = .ok (.iaload, 1) := by decide +kernel
theorem dL_law_717 : decode cL_law 717 = .ok (.invokevirtual 85, 3) := by decide +kernel
theorem dL_law_720 : decode cL_law 720 = .ok (.if_icmp .eq 72, 3) := by decide +kernel
theorem dL_law_723 : decode cL_law 723 = .ok (.iconst 0, 1) := by decide +kernel
theorem dL_law_724 : decode cL_law 724 = .ok (.ireturn, 1) := by decide +kernel
theorem dL_law_725 : decode cL_law 725 = .ok (.aload_n 1, 1) := by decide +kernel
theorem dL_law_726 : decode cL_law 726 = .ok (.aload_n 0, 1) := by decide +kernel
theorem dL_law_727 : decode cL_law 727 = .ok (.iload_n 3, 1) := by decide +kernel
theorem dL_law_728 : decode cL_law 728 = .ok (.iconst 1, 1) := by decide +kernel
theorem dL_law_729 : decode cL_law 729 = .ok (.iadd, 1) := by decide +kernel
theorem dL_law_730 : decode cL_law 730 = .ok (.iaload, 1) := by decide +kernel
theorem dL_law_731 : decode cL_law 731 = .ok (.aload_n 0, 1) := by decide +kernel
theorem dL_law_732 : decode cL_law 732 = .ok (.iload_n 3, 1) := by decide +kernel
theorem dL_law_733 : decode cL_law 733 = .ok (.iconst 2, 1) := by decide +kernel
theorem dL_law_734 : decode cL_law 734 = .ok (.iadd, 1) := by decide +kernel
theorem dL_law_735 : decode cL_law 735 = .ok (.iaload, 1) := by decide +kernel
theorem dL_law_736 : decode cL_law 736 = .ok (.aload_n 0, 1) := by decide +kernel
theorem dL_law_737 : decode cL_law 737 = .ok (.iload_n 3, 1) := by decide +kernel
theorem dL_law_738 : decode cL_law 738 = .ok (.iconst 3, 1) := by decide +kernel
theorem dL_law_739 : decode cL_law 739 = .ok (.iadd, 1) := by decide +kernel
theorem dL_law_740 : decode cL_law 740 = .ok (.iaload, 1) := by decide +kernel
theorem dL_law_741 : decode cL_law 741 = .ok (.invokevirtual 86, 3) := by decide +kernel
theorem dL_law_744 : decode cL_law 744 = .ok (.aload_n 2, 1) := by decide +kernel
theorem dL_law_745 : decode cL_law 745 = .ok (.aload_n 0, 1) := by decide +kernel
theorem dL_law_746 : decode cL_law 746 = .ok (.iload_n 3, 1) := by decide +kernel
theorem dL_law_747 : decode cL_law 747 = .ok (.iconst 1, 1) := by decide +kernel
theorem dL_law_748 : decode cL_law 748 = .ok (.iadd, 1) := by decide +kernel
theorem dL_law_749 : decode cL_law 749 = .ok (.iaload, 1) := by decide +kernel
theorem dL_law_750 : decode cL_law 750 = .ok (.aload_n 0, 1) := by decide +kernel
theorem dL_law_751 : decode cL_law 751 = .ok (.iload_n 3, 1) := by decide +kernel
theorem dL_law_752 : decode cL_law 752 = .ok (.iconst 2, 1) := by decide +kernel
theorem dL_law_753 : decode cL_law 753 = .ok (.iadd, 1) := by decide +kernel
theorem dL_law_754 : decode cL_law 754 = .ok (.iaload, 1) := by decide +kernel
theorem dL_law_755 : decode cL_law 755 = .ok (.aload_n 0, 1) := by decide +kernel
theorem dL_law_756 : decode cL_law 756 = .ok (.iload_n 3, 1) := by decide +kernel
theorem dL_law_757 : decode cL_law 757 = .ok (.iconst 3, 1) := by decide +kernel
theorem dL_law_758 : decode cL_law 758 = .ok (.iadd, 1) := by decide +kernel
theorem dL_law_759 : decode cL_law 759 = .ok (.iaload, 1) := by decide +kernel
theorem dL_law_760 : decode cL_law 760 = .ok (.invokevirtual 90, 3) := by decide +kernel
theorem dL_law_763 : decode cL_law 763 = .ok (.lcmp, 1) := by decide +kernel
theorem dL_law_764 : decode cL_law 764 = .ok (.ifCond .eq 28, 3) := by decide +kernel
theorem dL_law_767 : decode cL_law 767 = .ok (.iconst 0, 1) := by decide +kernel
theorem dL_law_768 : decode cL_law 768 = .ok (.ireturn, 1) := by decide +kernel
theorem dL_law_769 : decode cL_law 769 = .ok (.aload_n 1, 1) := by decide +kernel
theorem dL_law_770 : decode cL_law 770 = .ok (.aload_n 0, 1) := by decide +kernel
theorem dL_law_771 : decode cL_law 771 = .ok (.iload_n 3, 1) := by decide +kernel
theorem dL_law_772 : decode cL_law 772 = .ok (.iconst 1, 1) := by decide +kernel
theorem dL_law_773 : decode cL_law 773 = .ok (.iadd, 1) := by decide +kernel
theorem dL_law_774 : decode cL_law 774 = .ok (.iaload, 1) := by decide +kernel
theorem dL_law_775 : decode cL_law 775 = .ok (.invokevirtual 91, 3) := by decide +kernel
theorem dL_law_778 : decode cL_law 778 = .ok (.aload_n 2, 1) := by decide +kernel
theorem dL_law_779 : decode cL_law 779 = .ok (.aload_n 0, 1) := by decide +kernel
theorem dL_law_780 : decode cL_law 780 = .ok (.iload_n 3, 1) := by decide +kernel
theorem dL_law_781 : decode cL_law 781 = .ok (.iconst 1, 1) := by decide +kernel
theorem dL_law_782 : decode cL_law 782 = .ok (.iadd, 1) := by decide +kernel
theorem dL_law_783 : decode cL_law 783 = .ok (.iaload, 1) := by decide +kernel
theorem dL_law_784 : decode cL_law 784 = .ok (.invokevirtual 94, 3) := by decide +kernel
theorem dL_law_787 : decode cL_law 787 = .ok (.if_icmp .eq 5, 3) := by decide +kernel
theorem dL_law_790 : decode cL_law 790 = .ok (.iconst 0, 1) := by decide +kernel
theorem dL_law_791 : decode cL_law 791 = .ok (.ireturn, 1) := by decide +kernel
theorem dL_law_792 : decode cL_law 792 = .ok (.iinc 3 5, 3) := by decide +kernel
theorem dL_law_795 : decode cL_law 795 = .ok (.goto (-777), 3) := by decide +kernel
theorem dL_law_798 : decode cL_law 798 = .ok (.iconst 1, 1) := by decide +kernel
theorem dL_law_799 : decode cL_law 799 = .ok (.ireturn, 1) := by decide +kernel
end
section
/-! THE WORDS: one list for all methods -/
def ALLW : List Cond := lw_tbl.filter goodWord
theorem alw {w : Cond} (h : w ∈ lw_tbl) (hg : goodWord w = true) : w ∈ ALLW := List.mem_filter.mpr ⟨h, hg⟩
theorem alw_in {w : Cond} (h : w ∈ ALLW) : w ∈ lw_tbl := (List.mem_filter.mp h).1
theorem tmP {i : Nat} {w : Cond} (h : (k2_sels lw_privs)[i]? = some w) : w ∈ lw_tbl := List.mem_append_left _ (List.mem_of_getElem? h)
theorem tm1 {i : Nat} {w : Cond} (h : tables_1_1[i]? = some w) : w ∈ lw_tbl := List.mem_append_right _ (List.mem_append_left _ (List.mem_of_getElem? h))
theorem tm2 {i : Nat} {w : Cond} (h : tables_1_2[i]? = some w) : w ∈ lw_tbl := List.mem_append_right _ (List.mem_append_right _ (List.mem_append_left _ (List.mem_of_getElem? h)))
theorem tm3 {i : Nat} {w : Cond} (h : tables_1_3[i]? = some w) : w ∈ lw_tbl := List.mem_append_right _ (List.mem_append_right _ (List.mem_append_right _ (List.mem_append_left _ (List.mem_of_getElem? h))))
theorem tm4 {i : Nat} {w : Cond} (h : tables_1_4[i]? = some w) : w ∈ lw_tbl := List.mem_append_right _ (List.mem_append_right _ (List.mem_append_right _ (List.mem_append_right _ (List.mem_of_getElem? h))))
theorem uwk {C : String} {T : u_T} {N : Nat} (h : ∀ k, k < N → u_lay C T k ∈ ALLW) : ∀ w ∈ u_ws C T N, w ∈ ALLW := fun w hw => by obtain ⟨k, hk, rfl⟩ := List.mem_map.mp hw; exact h k (List.mem_range.mp hk)
theorem gAw {w : Cond} (h : w ∈ ALLW) : w ∈ ALLW ∧ ((w.onTables && w.keeps) = true ∨ ∃ ty, w = .arrayClass ty) := ⟨h, good_of_word (List.mem_filter.mp h).2⟩
theorem gNw {y : MethodName} {c : ByteArray} {n : Nat} {r : Option FieldType} (h5 : Cond.code y c n r ∈ ALLW) : GoodIn ALLW (Cond.code y c n r :: ALLW) := fun w h => (List.mem_cons.mp h).elim (fun e => by rw [e]; exact gAw h5) gAw
theorem gVw {own C : String} {idx : Nat} {y : MethodName} {c : ByteArray} {n : Nat} {r : Option FieldType} (h1 : Cond.methodLink own idx y ∈ ALLW) (h2 : Cond.instanceMethod y ∈ ALLW) (h3 : Cond.selects C y y ∈ ALLW) (h4 : Cond.initialized C ∈ ALLW) (h5 : Cond.code y c n r ∈ ALLW) : GoodIn ALLW (wsV own idx C y (Cond.code y c n r :: ALLW)) := fun w h => by
  rcases List.mem_append.mp h with h | h
  · rcases List.mem_cons.mp h with e | h
    · rw [e]; exact gAw h1
    · rcases List.mem_cons.mp h with e | h
      · rw [e]; exact gAw h2
      · rcases List.mem_cons.mp h with e | h
        · rw [e]; exact gAw h3
        · rw [List.mem_singleton.mp h]; exact gAw h4
  · exact gNw h5 w h
theorem gSw {own : String} {idx : Nat} {y : MethodName} {c : ByteArray} {n : Nat} {r : Option FieldType} (h1 : Cond.methodLink own idx y ∈ ALLW) (h2 : Cond.static y ∈ ALLW) (h4 : Cond.initialized y.cls ∈ ALLW) (h5 : Cond.code y c n r ∈ ALLW) : GoodIn ALLW (va_wsS own idx y (Cond.code y c n r :: ALLW)) := fun w h => by
  rcases List.mem_append.mp h with h | h
  · rcases List.mem_cons.mp h with e | h
    · rw [e]; exact gAw h1
    · rcases List.mem_cons.mp h with e | h
      · rw [e]; exact gAw h2
      · rw [List.mem_singleton.mp h]; exact gAw h4
  · exact gNw h5 w h
def wsX0_init : List Cond := .code yX0_init cX0_init 2 none :: ALLW
def wsX5_copy : List Cond := .code yX5_copy cX5_copy 4 none :: ALLW
def wsX5_clear : List Cond := .code yX5_clear cX5_clear 2 none :: ALLW
def wsX5_weight : List Cond := .code yX5_weight cX5_weight 3 (some .int) :: ALLW
def wsX4_quotient : List Cond := .code yX4_quotient cX4_quotient 3 (some .int) :: ALLW
def wsJ9_floorMod_7cf53 : List Cond := .code yJ9_floorMod_7cf53 cJ9_floorMod_7cf53 3 (some .int) :: ALLW
def wsX4_remainder : List Cond := .code yX4_remainder cX4_remainder 2 (some .int) :: ALLW
def wsX0_restWithout : List Cond := .code yX0_restWithout cX0_restWithout 4 (some .int) :: ALLW
def wsX0_weigh : List Cond := .code yX0_weigh cX0_weigh 5 none :: ALLW
def wsX0_choose : List Cond := .code yX0_choose cX0_choose 5 none :: ALLW
def wsX0_takeOff : List Cond := .code yX0_takeOff cX0_takeOff 2 none :: ALLW
def wsX0_walk : List Cond := .code yX0_walk cX0_walk 7 (some .int) :: ALLW
def wsX1_init : List Cond := .code yX1_init cX1_init 3 none :: ALLW
def wsJ6_bitCount_0f7a4 : List Cond := .code yJ6_bitCount_0f7a4 cJ6_bitCount_0f7a4 1 (some .int) :: ALLW
def wsX2_loadColumns : List Cond := .code yX2_loadColumns cX2_loadColumns 4 none :: ALLW
def wsX2_loadSums : List Cond := .code yX2_loadSums cX2_loadSums 5 none :: ALLW
def wsX2_firstPlace : List Cond := .code yX2_firstPlace cX2_firstPlace 4 (some .int) :: ALLW
def wsX2_isNought : List Cond := .code yX2_isNought cX2_isNought 3 (some .boolean) :: ALLW
def wsX2_factorAt : List Cond := .code yX2_factorAt cX2_factorAt 5 (some .int) :: ALLW
def wsX2_noteTelling : List Cond := .code yX2_noteTelling cX2_noteTelling 3 none :: ALLW
def wsX2_takeOutOf : List Cond := .code yX2_takeOutOf cX2_takeOutOf 11 none :: ALLW
def wsX2_takeOut : List Cond := .code yX2_takeOut cX2_takeOut 5 none :: ALLW
def wsX2_seekTelling : List Cond := .code yX2_seekTelling cX2_seekTelling 6 none :: ALLW
def wsX2_seekTellingWith : List Cond := .code yX2_seekTellingWith cX2_seekTellingWith 5 none :: ALLW
def wsX2_waysToTell : List Cond := .code yX2_waysToTell cX2_waysToTell 5 (some .int) :: ALLW
def wsX1_isLess : List Cond := .code yX1_isLess cX1_isLess 3 (some .boolean) :: ALLW
def wsX1_look : List Cond := .code yX1_look cX1_look 7 (some .boolean) :: ALLW
def wsX2_init : List Cond := .code yX2_init cX2_init 2 none :: ALLW
def wsX2_rank : List Cond := .code yX2_rank cX2_rank 3 (some .int) :: ALLW
def wsX2_seekBound : List Cond := .code yX2_seekBound cX2_seekBound 4 none :: ALLW
def wsX2_seekBoundTo : List Cond := .code yX2_seekBoundTo cX2_seekBoundTo 3 none :: ALLW
def wsX2_spark : List Cond := .code yX2_spark cX2_spark 1 (some .int) :: ALLW
def wsX3_shape : List Cond := .code yX3_shape cX3_shape 4 none :: ALLW
def wsX3_init : List Cond := .code yX3_init cX3_init 1 none :: ALLW
def wsX3_start : List Cond := .code yX3_start cX3_start 2 (some .int) :: ALLW
def wsJ9_floorMod_f86c9 : List Cond := .code yJ9_floorMod_f86c9 cJ9_floorMod_f86c9 6 (some .long) :: ALLW
def wsX3_squareSum : List Cond := .code yX3_squareSum cX3_squareSum 4 (some .long) :: ALLW
def wsX3_bucketOf : List Cond := .code yX3_bucketOf cX3_bucketOf 3 (some .int) :: ALLW
def wsX3_join : List Cond := .code yX3_join cX3_join 9 none :: ALLW
def wsX3_putNumber : List Cond := .code yX3_putNumber cX3_putNumber 3 none :: ALLW
def wsX3_isSingle : List Cond := .code yX3_isSingle cX3_isSingle 8 (some .boolean) :: ALLW
def wsX3_firstSingle : List Cond := .code yX3_firstSingle cX3_firstSingle 3 (some .int) :: ALLW
def wsX3_nothingLeft : List Cond := .code yX3_nothingLeft cX3_nothingLeft 2 (some .boolean) :: ALLW
def wsX3_tellPlace : List Cond := .code yX3_tellPlace cX3_tellPlace 5 none :: ALLW
def wsX3_tellAll : List Cond := .code yX3_tellAll cX3_tellAll 3 (some .boolean) :: ALLW
def wsX4_shape : List Cond := .code yX4_shape cX4_shape 5 none :: ALLW
def wsX4_init : List Cond := .code yX4_init cX4_init 1 none :: ALLW
def wsX4_has : List Cond := .code yX4_has cX4_has 3 (some .boolean) :: ALLW
def wsX4_fillWithPowers : List Cond := .code yX4_fillWithPowers cX4_fillWithPowers 5 none :: ALLW
def wsX4_sumsOf : List Cond := .code yX4_sumsOf cX4_sumsOf 6 none :: ALLW
def wsX4_placesWithFactorOf : List Cond := .code yX4_placesWithFactorOf cX4_placesWithFactorOf 7 (some .int) :: ALLW
def wsX4_likeness : List Cond := .code yX4_likeness cX4_likeness 6 (some .int) :: ALLW
def wsX4_mostLike : List Cond := .code yX4_mostLike cX4_mostLike 4 (some .int) :: ALLW
def wsX5_init : List Cond := .code yX5_init cX5_init 1 none :: ALLW
def wsX5_isPrime : List Cond := .code yX5_isPrime cX5_isPrime 2 (some .boolean) :: ALLW
def wsX5_begin : List Cond := .code yX5_begin cX5_begin 5 (some .int) :: ALLW
def wsX5_set : List Cond := .code yX5_set cX5_set 5 (some .int) :: ALLW
def wsX5_powers : List Cond := .code yX5_powers cX5_powers 2 (some .int) :: ALLW
def wsX5_at : List Cond := .code yX5_at cX5_at 3 (some .int) :: ALLW
def wsX5_judge : List Cond := .code yX5_judge cX5_judge 2 (some .int) :: ALLW
def wsX5_isKept : List Cond := .code yX5_isKept cX5_isKept 1 (some .boolean) :: ALLW
def wsX5_put : List Cond := .code yX5_put cX5_put 4 (some .int) :: ALLW
def wsX5_row : List Cond := .code yX5_row cX5_row 3 (some .int) :: ALLW
def wsX5_sum : List Cond := .code yX5_sum cX5_sum 4 (some .int) :: ALLW
def wsX5_told : List Cond := .code yX5_told cX5_told 3 (some .int) :: ALLW
def wsX5_tell : List Cond := .code yX5_tell cX5_tell 3 (some .int) :: ALLW
def wsX5_find : List Cond := .code yX5_find cX5_find 6 (some .int) :: ALLW
def wsX5_miss : List Cond := .code yX5_miss cX5_miss 7 (some .int) :: ALLW
def wsX5_greedy : List Cond := .code yX5_greedy cX5_greedy 6 (some .int) :: ALLW
def wsX5_sketch : List Cond := .code yX5_sketch cX5_sketch 3 (some .int) :: ALLW
def wsX5_add : List Cond := .code yX5_add cX5_add 3 (some .int) :: ALLW
def wsX5_decode : List Cond := .code yX5_decode cX5_decode 2 (some .int) :: ALLW
def wsX5_decoded : List Cond := .code yX5_decoded cX5_decoded 3 (some .int) :: ALLW
def wsX5_bucket : List Cond := .code yX5_bucket cX5_bucket 4 (some .long) :: ALLW
def wsX5_count : List Cond := .code yX5_count cX5_count 2 (some .int) :: ALLW
def wsX6_init : List Cond := .code yX6_init cX6_init 1 none :: ALLW
def wsX6_in : List Cond := .code yX6_in cX6_in 6 (some .boolean) :: ALLW
def wsX6_isPrime : List Cond := .code yX6_isPrime cX6_isPrime 3 (some .boolean) :: ALLW
def wsX6_by : List Cond := .code yX6_by cX6_by 3 (some .int) :: ALLW
def wsX6_begin : List Cond := .code yX6_begin cX6_begin 5 (some .int) :: ALLW
def wsX6_isPlace : List Cond := .code yX6_isPlace cX6_isPlace 3 (some .boolean) :: ALLW
def wsX6_set : List Cond := .code yX6_set cX6_set 5 (some .int) :: ALLW
def wsX6_powers : List Cond := .code yX6_powers cX6_powers 5 (some .int) :: ALLW
def wsX6_at : List Cond := .code yX6_at cX6_at 3 (some .int) :: ALLW
def wsX6_turned : List Cond := .code yX6_turned cX6_turned 3 (some .int) :: ALLW
def wsX6_bits : List Cond := .code yX6_bits cX6_bits 3 (some .int) :: ALLW
def wsX6_swaps : List Cond := .code yX6_swaps cX6_swaps 5 none :: ALLW
def wsX6_takes : List Cond := .code yX6_takes cX6_takes 7 none :: ALLW
def wsX6_clears : List Cond := .code yX6_clears cX6_clears 11 (some .int) :: ALLW
def wsX6_rankOf : List Cond := .code yX6_rankOf cX6_rankOf 2 (some .int) :: ALLW
def wsX6_spark : List Cond := .code yX6_spark cX6_spark 3 (some .int) :: ALLW
def wsX6_alike : List Cond := .code yX6_alike cX6_alike 7 (some .int) :: ALLW
def wsX6_judge : List Cond := .code yX6_judge cX6_judge 2 (some .int) :: ALLW
def wsX6_isSix : List Cond := .code yX6_isSix cX6_isSix 1 (some .boolean) :: ALLW
def wsX6_weight : List Cond := .code yX6_weight cX6_weight 6 (some .int) :: ALLW
def wsX6_put : List Cond := .code yX6_put cX6_put 4 (some .int) :: ALLW
def wsX6_row : List Cond := .code yX6_row cX6_row 3 (some .int) :: ALLW
def wsX6_sum : List Cond := .code yX6_sum cX6_sum 4 (some .int) :: ALLW
def wsX6_told : List Cond := .code yX6_told cX6_told 3 (some .int) :: ALLW
def wsX6_tell : List Cond := .code yX6_tell cX6_tell 6 (some .int) :: ALLW
def wsX6_solves : List Cond := .code yX6_solves cX6_solves 8 (some .boolean) :: ALLW
def wsX6_keeps : List Cond := .code yX6_keeps cX6_keeps 3 none :: ALLW
def wsX6_isBest : List Cond := .code yX6_isBest cX6_isBest 2 none :: ALLW
def wsX6_find : List Cond := .code yX6_find cX6_find 7 (some .int) :: ALLW
def wsX6_differs : List Cond := .code yX6_differs cX6_differs 6 (some .int) :: ALLW
def wsX6_isLess : List Cond := .code yX6_isLess cX6_isLess 2 (some .boolean) :: ALLW
def wsX6_miss : List Cond := .code yX6_miss cX6_miss 11 (some .int) :: ALLW
def wsX6_without : List Cond := .code yX6_without cX6_without 5 (some .int) :: ALLW
def wsX6_greedy : List Cond := .code yX6_greedy cX6_greedy 13 (some .int) :: ALLW
def wsX6_sketch : List Cond := .code yX6_sketch cX6_sketch 4 (some .int) :: ALLW
def wsX6_bucketOf : List Cond := .code yX6_bucketOf cX6_bucketOf 3 (some .int) :: ALLW
def wsX6_third : List Cond := .code yX6_third cX6_third 4 (some .long) :: ALLW
def wsX6_adds : List Cond := .code yX6_adds cX6_adds 7 none :: ALLW
def wsX6_add : List Cond := .code yX6_add cX6_add 3 (some .int) :: ALLW
def wsX6_single : List Cond := .code yX6_single cX6_single 8 (some .int) :: ALLW
def wsX6_decode : List Cond := .code yX6_decode cX6_decode 8 (some .int) :: ALLW
def wsX6_decoded : List Cond := .code yX6_decoded cX6_decoded 3 (some .int) :: ALLW
def wsX6_bucket : List Cond := .code yX6_bucket cX6_bucket 4 (some .long) :: ALLW
def wsX6_count : List Cond := .code yX6_count cX6_count 2 (some .int) :: ALLW
def wsJ9_max_7cf53 : List Cond := .code yJ9_max_7cf53 cJ9_max_7cf53 2 (some .int) :: ALLW
def wsJ9_min_7cf53 : List Cond := .code yJ9_min_7cf53 cJ9_min_7cf53 2 (some .int) :: ALLW
theorem kw_0 : (Cond.methodLink RX5 176 Lib.Math.min.name) ∈ ALLW := alw (tm2 (i := 133) rfl) rfl
theorem kw_1 : (Cond.static Lib.Math.min.name) ∈ ALLW := alw (tm2 (i := 41) rfl) rfl
theorem kw_2 : (Cond.initialized "java/lang/Math") ∈ ALLW := alw (tm1 (i := 8) rfl) rfl
theorem kw_3 : (Cond.code Lib.Math.min.name Lib.Math.min.code 2 (some .int)) ∈ ALLW := alw (tm2 (i := 42) rfl) rfl
theorem kw_4 : (Cond.constant RJ6 265 (1431655765)) ∈ ALLW := alw (tm2 (i := 145) rfl) rfl
theorem kw_5 : (Cond.constant RJ6 266 (858993459)) ∈ ALLW := alw (tm2 (i := 146) rfl) rfl
theorem kw_6 : (Cond.constant RJ6 267 (252645135)) ∈ ALLW := alw (tm2 (i := 147) rfl) rfl
theorem kw_7 : (Cond.constantLong RX3 79 (1000003)) ∈ ALLW := alw (tm2 (i := 204) rfl) rfl
theorem kw_8 : (Cond.code yJ9_floorMod_f86c9 cJ9_floorMod_f86c9 6 (some .long)) ∈ ALLW := alw (tm2 (i := 207) rfl) rfl
theorem kw_9 : (Cond.methodLink RX3 81 yJ9_floorMod_f86c9) ∈ ALLW := alw (tm2 (i := 205) rfl) rfl
theorem kw_10 : (Cond.static yJ9_floorMod_f86c9) ∈ ALLW := alw (tm2 (i := 206) rfl) rfl
theorem kw_11 : (Cond.initialized RJ9) ∈ ALLW := alw (tm1 (i := 8) rfl) rfl
theorem kw_12 : (Cond.constantLong RX6 57 (2)) ∈ ALLW := alw (tm3 (i := 84) rfl) rfl
theorem kw_13 : (Cond.constantLong RX6 59 (97)) ∈ ALLW := alw (tm3 (i := 85) rfl) rfl
theorem kw_14 : (Cond.code yX6_in cX6_in 6 (some .boolean)) ∈ ALLW := alw (tm3 (i := 88) rfl) rfl
theorem kw_15 : (Cond.methodLink RX6 61 yX6_in) ∈ ALLW := alw (tm3 (i := 86) rfl) rfl
theorem kw_16 : (Cond.static yX6_in) ∈ ALLW := alw (tm3 (i := 87) rfl) rfl
theorem kw_17 : (Cond.initialized RX6) ∈ ALLW := alw (tm1 (i := 7) rfl) rfl
theorem kw_18 : (Cond.constantLong RX6 109 (5)) ∈ ALLW := alw (tm3 (i := 153) rfl) rfl
theorem kw_19 : (Cond.constantLong RX6 156 (1000003)) ∈ ALLW := alw (tm3 (i := 238) rfl) rfl
theorem kw_X4 : ∀ w ∈ u_ws RX4 TX4 5, w ∈ ALLW := uwk (fun k hk => match k, hk with | 0, _ => alw (tm1 (i := 51) rfl) rfl | 1, _ => alw (tm1 (i := 53) rfl) rfl | 2, _ => alw (tm1 (i := 55) rfl) rfl | 3, _ => alw (tm1 (i := 57) rfl) rfl | 4, _ => alw (tm1 (i := 59) rfl) rfl | n + 5, hk => absurd hk (by omega))
theorem kw_21 : (Cond.fieldLink RX4 16 "FewThatMatter$Table" "inverses" "[I") ∈ ALLW := alw (tm1 (i := 50) rfl) rfl
theorem kw_22 : (Cond.fieldLink RX4 24 "FewThatMatter$Table" "prime" "I") ∈ ALLW := alw (tm1 (i := 34) rfl) rfl
theorem kw_23 : (Cond.code yJ9_floorMod_7cf53 cJ9_floorMod_7cf53 3 (some .int)) ∈ ALLW := alw (tm1 (i := 235) rfl) rfl
theorem kw_24 : (Cond.methodLink RX4 38 yJ9_floorMod_7cf53) ∈ ALLW := alw (tm1 (i := 233) rfl) rfl
theorem kw_25 : (Cond.static yJ9_floorMod_7cf53) ∈ ALLW := alw (tm1 (i := 234) rfl) rfl
theorem kw_26 : (Cond.fieldLink RX4 28 "FewThatMatter$Table" "height" "I") ∈ ALLW := alw (tm1 (i := 37) rfl) rfl
theorem kw_27 : (Cond.fieldLink RX4 31 "FewThatMatter$Table" "width" "I") ∈ ALLW := alw (tm1 (i := 43) rfl) rfl
theorem kw_28 : (Cond.fieldLink RX4 11 "FewThatMatter$Table" "cells" "[[I") ∈ ALLW := alw (tm1 (i := 46) rfl) rfl
theorem kw_29 : (Cond.code yX5_clear cX5_clear 2 none) ∈ ALLW := alw (tm1 (i := 33) rfl) rfl
theorem kw_30 : (Cond.initialized RX5) ∈ ALLW := alw (tm1 (i := 1) rfl) rfl
theorem kw_31 : (Cond.static yX5_clear) ∈ ALLW := alw (tm1 (i := 32) rfl) rfl
theorem kw_32 : (Cond.code yX4_quotient cX4_quotient 3 (some .int)) ∈ ALLW := alw (tm2 (i := 66) rfl) rfl
theorem kw_33 : (Cond.methodLink RX4 54 yX4_quotient) ∈ ALLW := alw (tm2 (i := 63) rfl) rfl
theorem kw_34 : (Cond.instanceMethod yX4_quotient) ∈ ALLW := alw (tm2 (i := 64) rfl) rfl
theorem kw_35 : (Cond.selects RX4 yX4_quotient yX4_quotient) ∈ ALLW := alw (tm2 (i := 65) rfl) rfl
theorem kw_36 : (Cond.initialized RX4) ∈ ALLW := alw (tm1 (i := 2) rfl) rfl
theorem kw_37 : (Cond.code yX4_placesWithFactorOf cX4_placesWithFactorOf 7 (some .int)) ∈ ALLW := alw (tm2 (i := 62) rfl) rfl
theorem kw_38 : (Cond.methodLink RX4 50 yX4_placesWithFactorOf) ∈ ALLW := alw (tm2 (i := 59) rfl) rfl
theorem kw_39 : (Cond.instanceMethod yX4_placesWithFactorOf) ∈ ALLW := alw (tm2 (i := 61) rfl) rfl
theorem kw_40 : (Cond.selects RX4 yX4_placesWithFactorOf yX4_placesWithFactorOf) ∈ ALLW := alw (tmP (i := 8) rfl) rfl
theorem kw_41 : (Cond.methodLink RX4 47 Lib.Math.max.name) ∈ ALLW := alw (tm2 (i := 67) rfl) rfl
theorem kw_42 : (Cond.static Lib.Math.max.name) ∈ ALLW := alw (tm2 (i := 68) rfl) rfl
theorem kw_43 : (Cond.code Lib.Math.max.name Lib.Math.max.code 2 (some .int)) ∈ ALLW := alw (tm2 (i := 69) rfl) rfl
theorem kw_44 : (Cond.code yX4_likeness cX4_likeness 6 (some .int)) ∈ ALLW := alw (tm2 (i := 58) rfl) rfl
theorem kw_45 : (Cond.methodLink RX4 44 yX4_likeness) ∈ ALLW := alw (tm2 (i := 55) rfl) rfl
theorem kw_46 : (Cond.instanceMethod yX4_likeness) ∈ ALLW := alw (tm2 (i := 57) rfl) rfl
theorem kw_47 : (Cond.selects RX4 yX4_likeness yX4_likeness) ∈ ALLW := alw (tmP (i := 7) rfl) rfl
theorem kw_X2 : ∀ w ∈ u_ws RX2 TX2 11, w ∈ ALLW := uwk (fun k hk => match k, hk with | 0, _ => alw (tm1 (i := 84) rfl) rfl | 1, _ => alw (tm1 (i := 86) rfl) rfl | 2, _ => alw (tm1 (i := 88) rfl) rfl | 3, _ => alw (tm1 (i := 90) rfl) rfl | 4, _ => alw (tm1 (i := 92) rfl) rfl | 5, _ => alw (tm1 (i := 94) rfl) rfl | 6, _ => alw (tm1 (i := 96) rfl) rfl | 7, _ => alw (tm1 (i := 98) rfl) rfl | 8, _ => alw (tm1 (i := 100) rfl) rfl | 9, _ => alw (tm1 (i := 102) rfl) rfl | 10, _ => alw (tm1 (i := 104) rfl) rfl | n + 11, hk => absurd hk (by omega))
theorem kw_49 : (Cond.fieldLink RX2 109 "FewThatMatter$Sets" "height" "I") ∈ ALLW := alw (tm1 (i := 77) rfl) rfl
theorem kw_50 : (Cond.fieldLink RX2 26 "FewThatMatter$Sets" "table" "LFewThatMatter$Table;") ∈ ALLW := alw (tm1 (i := 70) rfl) rfl
theorem kw_51 : (Cond.fieldLink RX2 11 "FewThatMatter$Sets" "left" "[[I") ∈ ALLW := alw (tm1 (i := 71) rfl) rfl
theorem kw_52 : (Cond.code yX2_firstPlace cX2_firstPlace 4 (some .int)) ∈ ALLW := alw (tm2 (i := 27) rfl) rfl
theorem kw_53 : (Cond.methodLink RX2 113 yX2_firstPlace) ∈ ALLW := alw (tm2 (i := 24) rfl) rfl
theorem kw_54 : (Cond.instanceMethod yX2_firstPlace) ∈ ALLW := alw (tm2 (i := 26) rfl) rfl
theorem kw_55 : (Cond.selects RX2 yX2_firstPlace yX2_firstPlace) ∈ ALLW := alw (tmP (i := 2) rfl) rfl
theorem kw_56 : (Cond.initialized RX2) ∈ ALLW := alw (tm1 (i := 3) rfl) rfl
theorem kw_57 : (Cond.fieldLink RX2 20 "FewThatMatter$Sets" "pivots" "[I") ∈ ALLW := alw (tm1 (i := 73) rfl) rfl
theorem kw_58 : (Cond.fieldLink RX2 71 "FewThatMatter$Sets" "size" "I") ∈ ALLW := alw (tm1 (i := 78) rfl) rfl
theorem kw_59 : (Cond.fieldLink RX2 23 "FewThatMatter$Sets" "answer" "[I") ∈ ALLW := alw (tm1 (i := 74) rfl) rfl
theorem kw_60 : (Cond.fieldLink RX2 16 "FewThatMatter$Sets" "taken" "[I") ∈ ALLW := alw (tm1 (i := 72) rfl) rfl
theorem kw_61 : (Cond.methodLink RX2 106 yX4_quotient) ∈ ALLW := alw (tm2 (i := 125) rfl) rfl
theorem kw_62 : (Cond.fieldLink RX2 77 "FewThatMatter$Sets" "ways" "I") ∈ ALLW := alw (tm1 (i := 80) rfl) rfl
theorem kw_63 : (Cond.fieldLink RX2 92 "FewThatMatter$Sets" "firstSet" "I") ∈ ALLW := alw (tm1 (i := 82) rfl) rfl
theorem kw_64 : (Cond.code yX2_factorAt cX2_factorAt 5 (some .int)) ∈ ALLW := alw (tm2 (i := 124) rfl) rfl
theorem kw_65 : (Cond.methodLink RX2 99 yX2_factorAt) ∈ ALLW := alw (tm2 (i := 121) rfl) rfl
theorem kw_66 : (Cond.instanceMethod yX2_factorAt) ∈ ALLW := alw (tm2 (i := 123) rfl) rfl
theorem kw_67 : (Cond.selects RX2 yX2_factorAt yX2_factorAt) ∈ ALLW := alw (tmP (i := 12) rfl) rfl
theorem kw_68 : (Cond.code yX2_takeOutOf cX2_takeOutOf 11 none) ∈ ALLW := alw (tm2 (i := 35) rfl) rfl
theorem kw_69 : (Cond.methodLink RX2 89 yX2_takeOutOf) ∈ ALLW := alw (tm2 (i := 32) rfl) rfl
theorem kw_70 : (Cond.instanceMethod yX2_takeOutOf) ∈ ALLW := alw (tm2 (i := 34) rfl) rfl
theorem kw_71 : (Cond.selects RX2 yX2_takeOutOf yX2_takeOutOf) ∈ ALLW := alw (tmP (i := 4) rfl) rfl
theorem kw_72 : (Cond.code yX2_takeOut cX2_takeOut 5 none) ∈ ALLW := alw (tm2 (i := 31) rfl) rfl
theorem kw_73 : (Cond.methodLink RX2 44 yX2_takeOut) ∈ ALLW := alw (tm2 (i := 28) rfl) rfl
theorem kw_74 : (Cond.instanceMethod yX2_takeOut) ∈ ALLW := alw (tm2 (i := 30) rfl) rfl
theorem kw_75 : (Cond.selects RX2 yX2_takeOut yX2_takeOut) ∈ ALLW := alw (tmP (i := 3) rfl) rfl
theorem kw_76 : (Cond.code yX2_seekTelling cX2_seekTelling 6 none) ∈ ALLW := alw (tm2 (i := 115) rfl) rfl
theorem kw_77 : (Cond.methodLink RX2 80 yX2_seekTelling) ∈ ALLW := alw (tm2 (i := 112) rfl) rfl
theorem kw_78 : (Cond.instanceMethod yX2_seekTelling) ∈ ALLW := alw (tm2 (i := 114) rfl) rfl
theorem kw_79 : (Cond.selects RX2 yX2_seekTelling yX2_seekTelling) ∈ ALLW := alw (tmP (i := 10) rfl) rfl
theorem kw_80 : (Cond.fieldLink RX2 74 "FewThatMatter$Sets" "enough" "I") ∈ ALLW := alw (tm1 (i := 79) rfl) rfl
theorem kw_81 : (Cond.code yX2_isNought cX2_isNought 3 (some .boolean)) ∈ ALLW := alw (tm2 (i := 23) rfl) rfl
theorem kw_82 : (Cond.methodLink RX2 40 yX2_isNought) ∈ ALLW := alw (tm2 (i := 20) rfl) rfl
theorem kw_83 : (Cond.instanceMethod yX2_isNought) ∈ ALLW := alw (tm2 (i := 22) rfl) rfl
theorem kw_84 : (Cond.selects RX2 yX2_isNought yX2_isNought) ∈ ALLW := alw (tmP (i := 1) rfl) rfl
theorem kw_85 : (Cond.code yX2_seekTellingWith cX2_seekTellingWith 5 none) ∈ ALLW := alw (tm2 (i := 129) rfl) rfl
theorem kw_86 : (Cond.methodLink RX2 86 yX2_seekTellingWith) ∈ ALLW := alw (tm2 (i := 126) rfl) rfl
theorem kw_87 : (Cond.instanceMethod yX2_seekTellingWith) ∈ ALLW := alw (tm2 (i := 128) rfl) rfl
theorem kw_88 : (Cond.selects RX2 yX2_seekTellingWith yX2_seekTellingWith) ∈ ALLW := alw (tmP (i := 13) rfl) rfl
theorem kw_89 : (Cond.code yX2_noteTelling cX2_noteTelling 3 none) ∈ ALLW := alw (tm2 (i := 119) rfl) rfl
theorem kw_90 : (Cond.methodLink RX2 83 yX2_noteTelling) ∈ ALLW := alw (tm2 (i := 116) rfl) rfl
theorem kw_91 : (Cond.instanceMethod yX2_noteTelling) ∈ ALLW := alw (tm2 (i := 118) rfl) rfl
theorem kw_92 : (Cond.selects RX2 yX2_noteTelling yX2_noteTelling) ∈ ALLW := alw (tmP (i := 11) rfl) rfl
theorem kw_93 : (Cond.code yX2_loadColumns cX2_loadColumns 4 none) ∈ ALLW := alw (tm2 (i := 19) rfl) rfl
theorem kw_94 : (Cond.methodLink RX2 30 yX2_loadColumns) ∈ ALLW := alw (tm2 (i := 16) rfl) rfl
theorem kw_95 : (Cond.instanceMethod yX2_loadColumns) ∈ ALLW := alw (tm2 (i := 18) rfl) rfl
theorem kw_96 : (Cond.selects RX2 yX2_loadColumns yX2_loadColumns) ∈ ALLW := alw (tmP (i := 0) rfl) rfl
theorem kw_97 : (Cond.code yX2_loadSums cX2_loadSums 5 none) ∈ ALLW := alw (tm2 (i := 111) rfl) rfl
theorem kw_98 : (Cond.methodLink RX2 67 yX2_loadSums) ∈ ALLW := alw (tm2 (i := 108) rfl) rfl
theorem kw_99 : (Cond.instanceMethod yX2_loadSums) ∈ ALLW := alw (tm2 (i := 110) rfl) rfl
theorem kw_100 : (Cond.selects RX2 yX2_loadSums yX2_loadSums) ∈ ALLW := alw (tmP (i := 9) rfl) rfl
theorem kw_101 : (Cond.code yX2_seekBound cX2_seekBound 4 none) ∈ ALLW := alw (tm2 (i := 46) rfl) rfl
theorem kw_102 : (Cond.methodLink RX2 60 yX2_seekBound) ∈ ALLW := alw (tm2 (i := 43) rfl) rfl
theorem kw_103 : (Cond.instanceMethod yX2_seekBound) ∈ ALLW := alw (tm2 (i := 45) rfl) rfl
theorem kw_104 : (Cond.selects RX2 yX2_seekBound yX2_seekBound) ∈ ALLW := alw (tmP (i := 5) rfl) rfl
theorem kw_105 : (Cond.fieldLink RX2 57 "FewThatMatter$Sets" "leastBound" "I") ∈ ALLW := alw (tm1 (i := 83) rfl) rfl
theorem kw_106 : (Cond.code yX2_seekBoundTo cX2_seekBoundTo 3 none) ∈ ALLW := alw (tm2 (i := 50) rfl) rfl
theorem kw_107 : (Cond.methodLink RX2 64 yX2_seekBoundTo) ∈ ALLW := alw (tm2 (i := 47) rfl) rfl
theorem kw_108 : (Cond.instanceMethod yX2_seekBoundTo) ∈ ALLW := alw (tm2 (i := 49) rfl) rfl
theorem kw_109 : (Cond.selects RX2 yX2_seekBoundTo yX2_seekBoundTo) ∈ ALLW := alw (tmP (i := 6) rfl) rfl
theorem kw_110 : (Cond.methodLink RX2 51 Lib.Math.min.name) ∈ ALLW := alw (tm2 (i := 40) rfl) rfl
theorem kw_X1 : ∀ w ∈ u_ws RX1 TX1 3, w ∈ ALLW := uwk (fun k hk => match k, hk with | 0, _ => alw (tm1 (i := 117) rfl) rfl | 1, _ => alw (tm1 (i := 119) rfl) rfl | 2, _ => alw (tm1 (i := 121) rfl) rfl | n + 3, hk => absurd hk (by omega))
theorem kw_112 : (Cond.fieldLink RX1 15 "FewThatMatter$Misses" "table" "LFewThatMatter$Table;") ∈ ALLW := alw (tm1 (i := 113) rfl) rfl
theorem kw_113 : (Cond.code yJ6_bitCount_0f7a4 cJ6_bitCount_0f7a4 1 (some .int)) ∈ ALLW := alw (tm2 (i := 144) rfl) rfl
theorem kw_114 : (Cond.methodLink RX1 29 yJ6_bitCount_0f7a4) ∈ ALLW := alw (tm2 (i := 142) rfl) rfl
theorem kw_115 : (Cond.static yJ6_bitCount_0f7a4) ∈ ALLW := alw (tm2 (i := 143) rfl) rfl
theorem kw_116 : (Cond.initialized RJ6) ∈ ALLW := alw (tm1 (i := 9) rfl) rfl
theorem kw_117 : (Cond.fieldLink RX1 19 "FewThatMatter$Misses" "sets" "LFewThatMatter$Sets;") ∈ ALLW := alw (tm1 (i := 114) rfl) rfl
theorem kw_118 : (Cond.code yX2_waysToTell cX2_waysToTell 5 (some .int)) ∈ ALLW := alw (tm2 (i := 107) rfl) rfl
theorem kw_119 : (Cond.methodLink RX1 35 yX2_waysToTell) ∈ ALLW := alw (tm2 (i := 148) rfl) rfl
theorem kw_120 : (Cond.instanceMethod yX2_waysToTell) ∈ ALLW := alw (tm2 (i := 105) rfl) rfl
theorem kw_121 : (Cond.selects RX2 yX2_waysToTell yX2_waysToTell) ∈ ALLW := alw (tm2 (i := 106) rfl) rfl
theorem kw_122 : (Cond.fieldLink RX1 9 "FewThatMatter$Misses" "answer" "[I") ∈ ALLW := alw (tm1 (i := 115) rfl) rfl
theorem kw_123 : (Cond.code yX5_copy cX5_copy 4 none) ∈ ALLW := alw (tm2 (i := 132) rfl) rfl
theorem kw_124 : (Cond.static yX5_copy) ∈ ALLW := alw (tm2 (i := 131) rfl) rfl
theorem kw_125 : (Cond.code yX1_isLess cX1_isLess 3 (some .boolean)) ∈ ALLW := alw (tm2 (i := 151) rfl) rfl
theorem kw_126 : (Cond.methodLink RX1 45 yX1_isLess) ∈ ALLW := alw (tm2 (i := 149) rfl) rfl
theorem kw_127 : (Cond.static yX1_isLess) ∈ ALLW := alw (tm2 (i := 150) rfl) rfl
theorem kw_128 : (Cond.initialized RX1) ∈ ALLW := alw (tm1 (i := 4) rfl) rfl
theorem kw_X0 : ∀ w ∈ u_ws RX0 TX0 5, w ∈ ALLW := uwk (fun k hk => match k, hk with | 0, _ => alw (tm1 (i := 135) rfl) rfl | 1, _ => alw (tm1 (i := 137) rfl) rfl | 2, _ => alw (tm1 (i := 139) rfl) rfl | 3, _ => alw (tm1 (i := 141) rfl) rfl | 4, _ => alw (tm1 (i := 143) rfl) rfl | n + 5, hk => absurd hk (by omega))
theorem kw_130 : (Cond.fieldLink RX0 15 "FewThatMatter$Greedy" "table" "LFewThatMatter$Table;") ∈ ALLW := alw (tm1 (i := 130) rfl) rfl
theorem kw_131 : (Cond.fieldLink RX0 9 "FewThatMatter$Greedy" "rest" "[I") ∈ ALLW := alw (tm1 (i := 131) rfl) rfl
theorem kw_132 : (Cond.code yX4_remainder cX4_remainder 2 (some .int)) ∈ ALLW := alw (tm1 (i := 232) rfl) rfl
theorem kw_133 : (Cond.methodLink RX0 71 yX4_remainder) ∈ ALLW := alw (tm2 (i := 177) rfl) rfl
theorem kw_134 : (Cond.instanceMethod yX4_remainder) ∈ ALLW := alw (tm1 (i := 230) rfl) rfl
theorem kw_135 : (Cond.selects RX4 yX4_remainder yX4_remainder) ∈ ALLW := alw (tm1 (i := 231) rfl) rfl
theorem kw_136 : (Cond.code yX0_restWithout cX0_restWithout 4 (some .int)) ∈ ALLW := alw (tm2 (i := 176) rfl) rfl
theorem kw_137 : (Cond.methodLink RX0 67 yX0_restWithout) ∈ ALLW := alw (tm2 (i := 173) rfl) rfl
theorem kw_138 : (Cond.instanceMethod yX0_restWithout) ∈ ALLW := alw (tm2 (i := 175) rfl) rfl
theorem kw_139 : (Cond.selects RX0 yX0_restWithout yX0_restWithout) ∈ ALLW := alw (tmP (i := 16) rfl) rfl
theorem kw_140 : (Cond.initialized RX0) ∈ ALLW := alw (tm1 (i := 5) rfl) rfl
theorem kw_141 : (Cond.fieldLink RX0 35 "FewThatMatter$Greedy" "bestColumn" "I") ∈ ALLW := alw (tm1 (i := 132) rfl) rfl
theorem kw_142 : (Cond.fieldLink RX0 45 "FewThatMatter$Greedy" "bestWeight" "I") ∈ ALLW := alw (tm1 (i := 134) rfl) rfl
theorem kw_143 : (Cond.fieldLink RX0 39 "FewThatMatter$Greedy" "bestFactor" "I") ∈ ALLW := alw (tm1 (i := 133) rfl) rfl
theorem kw_144 : (Cond.methodLink RX0 60 yX4_quotient) ∈ ALLW := alw (tm2 (i := 168) rfl) rfl
theorem kw_145 : (Cond.code yX0_weigh cX0_weigh 5 none) ∈ ALLW := alw (tm2 (i := 172) rfl) rfl
theorem kw_146 : (Cond.methodLink RX0 64 yX0_weigh) ∈ ALLW := alw (tm2 (i := 169) rfl) rfl
theorem kw_147 : (Cond.instanceMethod yX0_weigh) ∈ ALLW := alw (tm2 (i := 171) rfl) rfl
theorem kw_148 : (Cond.selects RX0 yX0_weigh yX0_weigh) ∈ ALLW := alw (tmP (i := 15) rfl) rfl
theorem kw_149 : (Cond.code yX5_weight cX5_weight 3 (some .int)) ∈ ALLW := alw (tm2 (i := 79) rfl) rfl
theorem kw_150 : (Cond.static yX5_weight) ∈ ALLW := alw (tm2 (i := 78) rfl) rfl
theorem kw_151 : (Cond.code yX0_choose cX0_choose 5 none) ∈ ALLW := alw (tm2 (i := 167) rfl) rfl
theorem kw_152 : (Cond.methodLink RX0 31 yX0_choose) ∈ ALLW := alw (tm2 (i := 164) rfl) rfl
theorem kw_153 : (Cond.instanceMethod yX0_choose) ∈ ALLW := alw (tm2 (i := 166) rfl) rfl
theorem kw_154 : (Cond.selects RX0 yX0_choose yX0_choose) ∈ ALLW := alw (tmP (i := 14) rfl) rfl
theorem kw_155 : (Cond.code yX0_takeOff cX0_takeOff 2 none) ∈ ALLW := alw (tm2 (i := 181) rfl) rfl
theorem kw_156 : (Cond.methodLink RX0 42 yX0_takeOff) ∈ ALLW := alw (tm2 (i := 178) rfl) rfl
theorem kw_157 : (Cond.instanceMethod yX0_takeOff) ∈ ALLW := alw (tm2 (i := 180) rfl) rfl
theorem kw_158 : (Cond.selects RX0 yX0_takeOff yX0_takeOff) ∈ ALLW := alw (tmP (i := 17) rfl) rfl
theorem kw_X3 : ∀ w ∈ u_ws RX3 TX3 8, w ∈ ALLW := uwk (fun k hk => match k, hk with | 0, _ => alw (tm1 (i := 171) rfl) rfl | 1, _ => alw (tm1 (i := 173) rfl) rfl | 2, _ => alw (tm1 (i := 175) rfl) rfl | 3, _ => alw (tm1 (i := 177) rfl) rfl | 4, _ => alw (tm1 (i := 179) rfl) rfl | 5, _ => alw (tm1 (i := 181) rfl) rfl | 6, _ => alw (tm1 (i := 183) rfl) rfl | 7, _ => alw (tm1 (i := 185) rfl) rfl | n + 8, hk => absurd hk (by omega))
theorem kw_160 : (Cond.fieldLink RX3 27 "FewThatMatter$Sketch" "lines" "I") ∈ ALLW := alw (tm1 (i := 156) rfl) rfl
theorem kw_161 : (Cond.fieldLink RX3 31 "FewThatMatter$Sketch" "buckets" "I") ∈ ALLW := alw (tm1 (i := 158) rfl) rfl
theorem kw_162 : (Cond.fieldLink RX3 34 "FewThatMatter$Sketch" "puts" "I") ∈ ALLW := alw (tm1 (i := 160) rfl) rfl
theorem kw_163 : (Cond.fieldLink RX3 37 "FewThatMatter$Sketch" "told" "I") ∈ ALLW := alw (tm1 (i := 162) rfl) rfl
theorem kw_164 : (Cond.fieldLink RX3 9 "FewThatMatter$Sketch" "kept" "[J") ∈ ALLW := alw (tm1 (i := 164) rfl) rfl
theorem kw_165 : (Cond.code yX3_squareSum cX3_squareSum 4 (some .long)) ∈ ALLW := alw (tm2 (i := 203) rfl) rfl
theorem kw_166 : (Cond.methodLink RX3 75 yX3_squareSum) ∈ ALLW := alw (tm2 (i := 201) rfl) rfl
theorem kw_167 : (Cond.static yX3_squareSum) ∈ ALLW := alw (tm2 (i := 202) rfl) rfl
theorem kw_168 : (Cond.initialized RX3) ∈ ALLW := alw (tm1 (i := 6) rfl) rfl
theorem kw_169 : (Cond.code yX3_bucketOf cX3_bucketOf 3 (some .int)) ∈ ALLW := alw (tm2 (i := 211) rfl) rfl
theorem kw_170 : (Cond.methodLink RX3 72 yX3_bucketOf) ∈ ALLW := alw (tm2 (i := 208) rfl) rfl
theorem kw_171 : (Cond.instanceMethod yX3_bucketOf) ∈ ALLW := alw (tm2 (i := 210) rfl) rfl
theorem kw_172 : (Cond.selects RX3 yX3_bucketOf yX3_bucketOf) ∈ ALLW := alw (tmP (i := 19) rfl) rfl
theorem kw_173 : (Cond.code yX3_start cX3_start 2 (some .int)) ∈ ALLW := alw (tm2 (i := 214) rfl) rfl
theorem kw_174 : (Cond.methodLink RX3 66 yX3_start) ∈ ALLW := alw (tm2 (i := 212) rfl) rfl
theorem kw_175 : (Cond.static yX3_start) ∈ ALLW := alw (tm2 (i := 213) rfl) rfl
theorem kw_176 : (Cond.code yX3_join cX3_join 9 none) ∈ ALLW := alw (tm2 (i := 200) rfl) rfl
theorem kw_177 : (Cond.methodLink RX3 40 yX3_join) ∈ ALLW := alw (tm2 (i := 197) rfl) rfl
theorem kw_178 : (Cond.instanceMethod yX3_join) ∈ ALLW := alw (tm2 (i := 199) rfl) rfl
theorem kw_179 : (Cond.selects RX3 yX3_join yX3_join) ∈ ALLW := alw (tmP (i := 18) rfl) rfl
theorem kw_180 : (Cond.fieldLink RX3 13 "FewThatMatter$Sketch" "rest" "[J") ∈ ALLW := alw (tm1 (i := 166) rfl) rfl
theorem kw_181 : (Cond.constantLong RX3 70 (999999)) ∈ ALLW := alw (tm2 (i := 234) rfl) rfl
theorem kw_182 : (Cond.code yX3_isSingle cX3_isSingle 8 (some .boolean)) ∈ ALLW := alw (tm2 (i := 233) rfl) rfl
theorem kw_183 : (Cond.methodLink RX3 62 yX3_isSingle) ∈ ALLW := alw (tm2 (i := 230) rfl) rfl
theorem kw_184 : (Cond.instanceMethod yX3_isSingle) ∈ ALLW := alw (tm2 (i := 232) rfl) rfl
theorem kw_185 : (Cond.selects RX3 yX3_isSingle yX3_isSingle) ∈ ALLW := alw (tmP (i := 21) rfl) rfl
theorem kw_186 : (Cond.fieldLink RX3 16 "FewThatMatter$Sketch" "toldPlaces" "[I") ∈ ALLW := alw (tm1 (i := 167) rfl) rfl
theorem kw_187 : (Cond.fieldLink RX3 20 "FewThatMatter$Sketch" "toldNumbers" "[I") ∈ ALLW := alw (tm1 (i := 169) rfl) rfl
theorem kw_188 : (Cond.methodLink RX3 44 arraycopyName) ∈ ALLW := alw (tm2 (i := 223) rfl) rfl
theorem kw_189 : (Cond.native arraycopyName) ∈ ALLW := alw (tm2 (i := 225) rfl) rfl
theorem kw_190 : (Cond.static arraycopyName) ∈ ALLW := alw (tm2 (i := 224) rfl) rfl
theorem kw_191 : (Cond.initialized "java/lang/System") ∈ ALLW := alw (tm1 (i := 10) rfl) rfl
theorem kw_192 : (Cond.code yX3_firstSingle cX3_firstSingle 3 (some .int)) ∈ ALLW := alw (tm2 (i := 229) rfl) rfl
theorem kw_193 : (Cond.methodLink RX3 50 yX3_firstSingle) ∈ ALLW := alw (tm2 (i := 226) rfl) rfl
theorem kw_194 : (Cond.instanceMethod yX3_firstSingle) ∈ ALLW := alw (tm2 (i := 228) rfl) rfl
theorem kw_195 : (Cond.selects RX3 yX3_firstSingle yX3_firstSingle) ∈ ALLW := alw (tmP (i := 20) rfl) rfl
theorem kw_196 : (Cond.code yX3_tellPlace cX3_tellPlace 5 none) ∈ ALLW := alw (tm3 (i := 2) rfl) rfl
theorem kw_197 : (Cond.methodLink RX3 58 yX3_tellPlace) ∈ ALLW := alw (tm2 (i := 239) rfl) rfl
theorem kw_198 : (Cond.instanceMethod yX3_tellPlace) ∈ ALLW := alw (tm3 (i := 1) rfl) rfl
theorem kw_199 : (Cond.selects RX3 yX3_tellPlace yX3_tellPlace) ∈ ALLW := alw (tmP (i := 23) rfl) rfl
theorem kw_200 : (Cond.code yX3_nothingLeft cX3_nothingLeft 2 (some .boolean)) ∈ ALLW := alw (tm2 (i := 238) rfl) rfl
theorem kw_201 : (Cond.methodLink RX3 54 yX3_nothingLeft) ∈ ALLW := alw (tm2 (i := 235) rfl) rfl
theorem kw_202 : (Cond.instanceMethod yX3_nothingLeft) ∈ ALLW := alw (tm2 (i := 237) rfl) rfl
theorem kw_203 : (Cond.selects RX3 yX3_nothingLeft yX3_nothingLeft) ∈ ALLW := alw (tmP (i := 22) rfl) rfl
theorem kw_204 : (Cond.code yX5_isPrime cX5_isPrime 2 (some .boolean)) ∈ ALLW := alw (tm1 (i := 218) rfl) rfl
theorem kw_205 : (Cond.methodLink RX5 56 yX5_isPrime) ∈ ALLW := alw (tm1 (i := 216) rfl) rfl
theorem kw_206 : (Cond.static yX5_isPrime) ∈ ALLW := alw (tm1 (i := 217) rfl) rfl
theorem kw_X5 : ∀ w ∈ u_ws RX5 TX5 7, w ∈ ALLW := uwk (fun k hk => match k, hk with | 0, _ => alw (tm1 (i := 197) rfl) rfl | 1, _ => alw (tm1 (i := 199) rfl) rfl | 2, _ => alw (tm1 (i := 201) rfl) rfl | 3, _ => alw (tm1 (i := 203) rfl) rfl | 4, _ => alw (tm1 (i := 205) rfl) rfl | 5, _ => alw (tm1 (i := 207) rfl) rfl | 6, _ => alw (tm1 (i := 209) rfl) rfl | n + 7, hk => absurd hk (by omega))
theorem kw_208 : (Cond.fieldLink RX5 10 "FewThatMatter" "table" "LFewThatMatter$Table;") ∈ ALLW := alw (tm1 (i := 190) rfl) rfl
theorem kw_209 : (Cond.code yX4_shape cX4_shape 5 none) ∈ ALLW := alw (tm1 (i := 30) rfl) rfl
theorem kw_210 : (Cond.methodLink RX5 60 yX4_shape) ∈ ALLW := alw (tm1 (i := 219) rfl) rfl
theorem kw_211 : (Cond.instanceMethod yX4_shape) ∈ ALLW := alw (tm1 (i := 28) rfl) rfl
theorem kw_212 : (Cond.selects RX4 yX4_shape yX4_shape) ∈ ALLW := alw (tm1 (i := 29) rfl) rfl
theorem kw_213 : (Cond.fieldLink RX5 50 "FewThatMatter" "keptRows" "[[I") ∈ ALLW := alw (tm1 (i := 195) rfl) rfl
theorem kw_214 : (Cond.methodLink RX5 64 yX5_clear) ∈ ALLW := alw (tm1 (i := 220) rfl) rfl
theorem kw_215 : (Cond.fieldLink RX5 53 "FewThatMatter" "keptSums" "[[I") ∈ ALLW := alw (tm1 (i := 196) rfl) rfl
theorem kw_216 : (Cond.code yX4_has cX4_has 3 (some .boolean)) ∈ ALLW := alw (tm1 (i := 228) rfl) rfl
theorem kw_217 : (Cond.methodLink RX5 68 yX4_has) ∈ ALLW := alw (tm1 (i := 225) rfl) rfl
theorem kw_218 : (Cond.instanceMethod yX4_has) ∈ ALLW := alw (tm1 (i := 226) rfl) rfl
theorem kw_219 : (Cond.selects RX4 yX4_has yX4_has) ∈ ALLW := alw (tm1 (i := 227) rfl) rfl
theorem kw_220 : (Cond.methodLink RX5 75 yX4_remainder) ∈ ALLW := alw (tm1 (i := 229) rfl) rfl
theorem kw_221 : (Cond.code yX4_fillWithPowers cX4_fillWithPowers 5 none) ∈ ALLW := alw (tm2 (i := 3) rfl) rfl
theorem kw_222 : (Cond.methodLink RX5 83 yX4_fillWithPowers) ∈ ALLW := alw (tm2 (i := 0) rfl) rfl
theorem kw_223 : (Cond.instanceMethod yX4_fillWithPowers) ∈ ALLW := alw (tm2 (i := 1) rfl) rfl
theorem kw_224 : (Cond.selects RX4 yX4_fillWithPowers yX4_fillWithPowers) ∈ ALLW := alw (tm2 (i := 2) rfl) rfl
theorem kw_225 : (Cond.fieldLink RX5 21 "FewThatMatter" "sets" "LFewThatMatter$Sets;") ∈ ALLW := alw (tm1 (i := 191) rfl) rfl
theorem kw_226 : (Cond.code yX2_rank cX2_rank 3 (some .int)) ∈ ALLW := alw (tm2 (i := 15) rfl) rfl
theorem kw_227 : (Cond.methodLink RX5 87 yX2_rank) ∈ ALLW := alw (tm2 (i := 12) rfl) rfl
theorem kw_228 : (Cond.instanceMethod yX2_rank) ∈ ALLW := alw (tm2 (i := 13) rfl) rfl
theorem kw_229 : (Cond.selects RX2 yX2_rank yX2_rank) ∈ ALLW := alw (tm2 (i := 14) rfl) rfl
theorem kw_230 : (Cond.code yX2_spark cX2_spark 1 (some .int)) ∈ ALLW := alw (tm2 (i := 39) rfl) rfl
theorem kw_231 : (Cond.methodLink RX5 91 yX2_spark) ∈ ALLW := alw (tm2 (i := 36) rfl) rfl
theorem kw_232 : (Cond.instanceMethod yX2_spark) ∈ ALLW := alw (tm2 (i := 37) rfl) rfl
theorem kw_233 : (Cond.selects RX2 yX2_spark yX2_spark) ∈ ALLW := alw (tm2 (i := 38) rfl) rfl
theorem kw_234 : (Cond.code yX4_mostLike cX4_mostLike 4 (some .int)) ∈ ALLW := alw (tm2 (i := 54) rfl) rfl
theorem kw_235 : (Cond.methodLink RX5 94 yX4_mostLike) ∈ ALLW := alw (tm2 (i := 51) rfl) rfl
theorem kw_236 : (Cond.instanceMethod yX4_mostLike) ∈ ALLW := alw (tm2 (i := 52) rfl) rfl
theorem kw_237 : (Cond.selects RX4 yX4_mostLike yX4_mostLike) ∈ ALLW := alw (tm2 (i := 53) rfl) rfl
theorem kw_238 : (Cond.code yX5_isKept cX5_isKept 1 (some .boolean)) ∈ ALLW := alw (tm2 (i := 76) rfl) rfl
theorem kw_239 : (Cond.methodLink RX5 97 yX5_isKept) ∈ ALLW := alw (tm2 (i := 74) rfl) rfl
theorem kw_240 : (Cond.static yX5_isKept) ∈ ALLW := alw (tm2 (i := 75) rfl) rfl
theorem kw_241 : (Cond.methodLink RX5 103 yX5_weight) ∈ ALLW := alw (tm2 (i := 77) rfl) rfl
theorem kw_242 : (Cond.code yX4_sumsOf cX4_sumsOf 6 none) ∈ ALLW := alw (tm2 (i := 99) rfl) rfl
theorem kw_243 : (Cond.methodLink RX5 110 yX4_sumsOf) ∈ ALLW := alw (tm2 (i := 96) rfl) rfl
theorem kw_244 : (Cond.instanceMethod yX4_sumsOf) ∈ ALLW := alw (tm2 (i := 97) rfl) rfl
theorem kw_245 : (Cond.selects RX4 yX4_sumsOf yX4_sumsOf) ∈ ALLW := alw (tm2 (i := 98) rfl) rfl
theorem kw_246 : (Cond.methodLink RX5 114 yX2_waysToTell) ∈ ALLW := alw (tm2 (i := 104) rfl) rfl
theorem kw_247 : (Cond.methodLink RX5 122 yX5_copy) ∈ ALLW := alw (tm2 (i := 130) rfl) rfl
theorem kw_248 : (Cond.fieldLink RX5 30 "FewThatMatter" "misses" "LFewThatMatter$Misses;") ∈ ALLW := alw (tm1 (i := 192) rfl) rfl
theorem kw_249 : (Cond.code yX1_look cX1_look 7 (some .boolean)) ∈ ALLW := alw (tm2 (i := 141) rfl) rfl
theorem kw_250 : (Cond.methodLink RX5 125 yX1_look) ∈ ALLW := alw (tm2 (i := 138) rfl) rfl
theorem kw_251 : (Cond.instanceMethod yX1_look) ∈ ALLW := alw (tm2 (i := 139) rfl) rfl
theorem kw_252 : (Cond.selects RX1 yX1_look yX1_look) ∈ ALLW := alw (tm2 (i := 140) rfl) rfl
theorem kw_253 : (Cond.fieldLink RX5 37 "FewThatMatter" "steps" "LFewThatMatter$Greedy;") ∈ ALLW := alw (tm1 (i := 193) rfl) rfl
theorem kw_254 : (Cond.code yX0_walk cX0_walk 7 (some .int)) ∈ ALLW := alw (tm2 (i := 160) rfl) rfl
theorem kw_255 : (Cond.methodLink RX5 130 yX0_walk) ∈ ALLW := alw (tm2 (i := 157) rfl) rfl
theorem kw_256 : (Cond.instanceMethod yX0_walk) ∈ ALLW := alw (tm2 (i := 158) rfl) rfl
theorem kw_257 : (Cond.selects RX0 yX0_walk yX0_walk) ∈ ALLW := alw (tm2 (i := 159) rfl) rfl
theorem kw_258 : (Cond.fieldLink RX5 44 "FewThatMatter" "sketched" "LFewThatMatter$Sketch;") ∈ ALLW := alw (tm1 (i := 194) rfl) rfl
theorem kw_259 : (Cond.code yX3_shape cX3_shape 4 none) ∈ ALLW := alw (tm1 (i := 155) rfl) rfl
theorem kw_260 : (Cond.methodLink RX5 134 yX3_shape) ∈ ALLW := alw (tm2 (i := 186) rfl) rfl
theorem kw_261 : (Cond.instanceMethod yX3_shape) ∈ ALLW := alw (tm1 (i := 153) rfl) rfl
theorem kw_262 : (Cond.selects RX3 yX3_shape yX3_shape) ∈ ALLW := alw (tm1 (i := 154) rfl) rfl
theorem kw_263 : (Cond.constant RX5 137 (999999)) ∈ ALLW := alw (tm2 (i := 191) rfl) rfl
theorem kw_264 : (Cond.constant RX5 141 (100000)) ∈ ALLW := alw (tm2 (i := 192) rfl) rfl
theorem kw_265 : (Cond.code yX3_putNumber cX3_putNumber 3 none) ∈ ALLW := alw (tm2 (i := 196) rfl) rfl
theorem kw_266 : (Cond.methodLink RX5 142 yX3_putNumber) ∈ ALLW := alw (tm2 (i := 193) rfl) rfl
theorem kw_267 : (Cond.instanceMethod yX3_putNumber) ∈ ALLW := alw (tm2 (i := 194) rfl) rfl
theorem kw_268 : (Cond.selects RX3 yX3_putNumber yX3_putNumber) ∈ ALLW := alw (tm2 (i := 195) rfl) rfl
theorem kw_269 : (Cond.code yX3_tellAll cX3_tellAll 3 (some .boolean)) ∈ ALLW := alw (tm2 (i := 222) rfl) rfl
theorem kw_270 : (Cond.methodLink RX5 145 yX3_tellAll) ∈ ALLW := alw (tm2 (i := 219) rfl) rfl
theorem kw_271 : (Cond.instanceMethod yX3_tellAll) ∈ ALLW := alw (tm2 (i := 220) rfl) rfl
theorem kw_272 : (Cond.selects RX3 yX3_tellAll yX3_tellAll) ∈ ALLW := alw (tm2 (i := 221) rfl) rfl
theorem kw_273 : (Cond.constant RX5 152 (-1000000001)) ∈ ALLW := alw (tm3 (i := 7) rfl) rfl
theorem kw_274 : (Cond.constant RX5 153 (-1000000004)) ∈ ALLW := alw (tm3 (i := 8) rfl) rfl
theorem kw_275 : (Cond.constantLong RX5 166 (-1000000000000000000)) ∈ ALLW := alw (tm3 (i := 13) rfl) rfl
theorem kw_276 : (Cond.methodLink RX5 172 yX3_start) ∈ ALLW := alw (tm3 (i := 14) rfl) rfl
theorem kw_X6 : ∀ w ∈ u_ws RX6 TX6 17, w ∈ ALLW := uwk (fun k hk => match k, hk with | 0, _ => alw (tm3 (i := 42) rfl) rfl | 1, _ => alw (tm3 (i := 44) rfl) rfl | 2, _ => alw (tm3 (i := 46) rfl) rfl | 3, _ => alw (tm3 (i := 48) rfl) rfl | 4, _ => alw (tm3 (i := 50) rfl) rfl | 5, _ => alw (tm3 (i := 52) rfl) rfl | 6, _ => alw (tm3 (i := 54) rfl) rfl | 7, _ => alw (tm3 (i := 56) rfl) rfl | 8, _ => alw (tm3 (i := 58) rfl) rfl | 9, _ => alw (tm3 (i := 60) rfl) rfl | 10, _ => alw (tm3 (i := 62) rfl) rfl | 11, _ => alw (tm3 (i := 64) rfl) rfl | 12, _ => alw (tm3 (i := 66) rfl) rfl | 13, _ => alw (tm3 (i := 68) rfl) rfl | 14, _ => alw (tm3 (i := 70) rfl) rfl | 15, _ => alw (tm3 (i := 72) rfl) rfl | 16, _ => alw (tm3 (i := 74) rfl) rfl | n + 17, hk => absurd hk (by omega))
theorem kw_278 : (Cond.fieldLink RX6 7 "FewThatMatterModel" "p" "I") ∈ ALLW := alw (tm3 (i := 25) rfl) rfl
theorem kw_279 : (Cond.code yX6_isPrime cX6_isPrime 3 (some .boolean)) ∈ ALLW := alw (tm3 (i := 83) rfl) rfl
theorem kw_280 : (Cond.methodLink RX6 65 yX6_isPrime) ∈ ALLW := alw (tm3 (i := 81) rfl) rfl
theorem kw_281 : (Cond.static yX6_isPrime) ∈ ALLW := alw (tm3 (i := 82) rfl) rfl
theorem kw_282 : (Cond.constantLong RX6 69 (6)) ∈ ALLW := alw (tm3 (i := 89) rfl) rfl
theorem kw_283 : (Cond.constantLong RX6 71 (12)) ∈ ALLW := alw (tm3 (i := 90) rfl) rfl
theorem kw_284 : (Cond.fieldLink RX6 13 "FewThatMatterModel" "m" "I") ∈ ALLW := alw (tm3 (i := 26) rfl) rfl
theorem kw_285 : (Cond.fieldLink RX6 16 "FewThatMatterModel" "n" "I") ∈ ALLW := alw (tm3 (i := 27) rfl) rfl
theorem kw_286 : (Cond.fieldLink RX6 19 "FewThatMatterModel" "table" "[I") ∈ ALLW := alw (tm3 (i := 28) rfl) rfl
theorem kw_287 : (Cond.fieldLink RX6 23 "FewThatMatterModel" "rows" "[I") ∈ ALLW := alw (tm3 (i := 29) rfl) rfl
theorem kw_288 : (Cond.fieldLink RX6 26 "FewThatMatterModel" "sums" "[I") ∈ ALLW := alw (tm3 (i := 30) rfl) rfl
theorem kw_289 : (Cond.code yX6_isPlace cX6_isPlace 3 (some .boolean)) ∈ ALLW := alw (tm3 (i := 98) rfl) rfl
theorem kw_290 : (Cond.methodLink RX6 73 yX6_isPlace) ∈ ALLW := alw (tm3 (i := 95) rfl) rfl
theorem kw_291 : (Cond.instanceMethod yX6_isPlace) ∈ ALLW := alw (tm3 (i := 97) rfl) rfl
theorem kw_292 : (Cond.selects RX6 yX6_isPlace yX6_isPlace) ∈ ALLW := alw (tmP (i := 24) rfl) rfl
theorem kw_293 : (Cond.code yX6_by cX6_by 3 (some .int)) ∈ ALLW := alw (tm3 (i := 102) rfl) rfl
theorem kw_294 : (Cond.methodLink RX6 77 yX6_by) ∈ ALLW := alw (tm3 (i := 99) rfl) rfl
theorem kw_295 : (Cond.instanceMethod yX6_by) ∈ ALLW := alw (tm3 (i := 101) rfl) rfl
theorem kw_296 : (Cond.selects RX6 yX6_by yX6_by) ∈ ALLW := alw (tmP (i := 25) rfl) rfl
theorem kw_297 : (Cond.fieldLink RX6 45 "FewThatMatterModel" "work" "[I") ∈ ALLW := alw (tm3 (i := 38) rfl) rfl
theorem kw_298 : (Cond.code yX6_bits cX6_bits 3 (some .int)) ∈ ALLW := alw (tm3 (i := 125) rfl) rfl
theorem kw_299 : (Cond.methodLink RX6 81 yX6_bits) ∈ ALLW := alw (tm3 (i := 123) rfl) rfl
theorem kw_300 : (Cond.static yX6_bits) ∈ ALLW := alw (tm3 (i := 124) rfl) rfl
theorem kw_301 : (Cond.code yX6_swaps cX6_swaps 5 none) ∈ ALLW := alw (tm3 (i := 129) rfl) rfl
theorem kw_302 : (Cond.methodLink RX6 84 yX6_swaps) ∈ ALLW := alw (tm3 (i := 126) rfl) rfl
theorem kw_303 : (Cond.instanceMethod yX6_swaps) ∈ ALLW := alw (tm3 (i := 128) rfl) rfl
theorem kw_304 : (Cond.selects RX6 yX6_swaps yX6_swaps) ∈ ALLW := alw (tmP (i := 28) rfl) rfl
theorem kw_305 : (Cond.code yX6_turned cX6_turned 3 (some .int)) ∈ ALLW := alw (tm3 (i := 133) rfl) rfl
theorem kw_306 : (Cond.methodLink RX6 88 yX6_turned) ∈ ALLW := alw (tm3 (i := 130) rfl) rfl
theorem kw_307 : (Cond.instanceMethod yX6_turned) ∈ ALLW := alw (tm3 (i := 132) rfl) rfl
theorem kw_308 : (Cond.selects RX6 yX6_turned yX6_turned) ∈ ALLW := alw (tmP (i := 29) rfl) rfl
theorem kw_309 : (Cond.code yX6_takes cX6_takes 7 none) ∈ ALLW := alw (tm3 (i := 137) rfl) rfl
theorem kw_310 : (Cond.methodLink RX6 91 yX6_takes) ∈ ALLW := alw (tm3 (i := 134) rfl) rfl
theorem kw_311 : (Cond.instanceMethod yX6_takes) ∈ ALLW := alw (tm3 (i := 136) rfl) rfl
theorem kw_312 : (Cond.selects RX6 yX6_takes yX6_takes) ∈ ALLW := alw (tmP (i := 30) rfl) rfl
theorem kw_313 : (Cond.code yX6_clears cX6_clears 11 (some .int)) ∈ ALLW := alw (tm3 (i := 122) rfl) rfl
theorem kw_314 : (Cond.methodLink RX6 95 yX6_clears) ∈ ALLW := alw (tm3 (i := 119) rfl) rfl
theorem kw_315 : (Cond.instanceMethod yX6_clears) ∈ ALLW := alw (tm3 (i := 121) rfl) rfl
theorem kw_316 : (Cond.selects RX6 yX6_clears yX6_clears) ∈ ALLW := alw (tmP (i := 27) rfl) rfl
theorem kw_317 : (Cond.code yX6_rankOf cX6_rankOf 2 (some .int)) ∈ ALLW := alw (tm3 (i := 118) rfl) rfl
theorem kw_318 : (Cond.methodLink RX6 99 yX6_rankOf) ∈ ALLW := alw (tm3 (i := 115) rfl) rfl
theorem kw_319 : (Cond.instanceMethod yX6_rankOf) ∈ ALLW := alw (tm3 (i := 117) rfl) rfl
theorem kw_320 : (Cond.selects RX6 yX6_rankOf yX6_rankOf) ∈ ALLW := alw (tmP (i := 26) rfl) rfl
theorem kw_321 : (Cond.code yX6_spark cX6_spark 3 (some .int)) ∈ ALLW := alw (tm3 (i := 141) rfl) rfl
theorem kw_322 : (Cond.methodLink RX6 102 yX6_spark) ∈ ALLW := alw (tm3 (i := 138) rfl) rfl
theorem kw_323 : (Cond.instanceMethod yX6_spark) ∈ ALLW := alw (tm3 (i := 140) rfl) rfl
theorem kw_324 : (Cond.selects RX6 yX6_spark yX6_spark) ∈ ALLW := alw (tmP (i := 31) rfl) rfl
theorem kw_325 : (Cond.code yX6_alike cX6_alike 7 (some .int)) ∈ ALLW := alw (tm3 (i := 145) rfl) rfl
theorem kw_326 : (Cond.methodLink RX6 106 yX6_alike) ∈ ALLW := alw (tm3 (i := 142) rfl) rfl
theorem kw_327 : (Cond.instanceMethod yX6_alike) ∈ ALLW := alw (tm3 (i := 144) rfl) rfl
theorem kw_328 : (Cond.selects RX6 yX6_alike yX6_alike) ∈ ALLW := alw (tmP (i := 32) rfl) rfl
theorem kw_329 : (Cond.code yX6_isSix cX6_isSix 1 (some .boolean)) ∈ ALLW := alw (tm3 (i := 152) rfl) rfl
theorem kw_330 : (Cond.methodLink RX6 111 yX6_isSix) ∈ ALLW := alw (tm3 (i := 150) rfl) rfl
theorem kw_331 : (Cond.static yX6_isSix) ∈ ALLW := alw (tm3 (i := 151) rfl) rfl
theorem kw_332 : (Cond.code yX6_weight cX6_weight 6 (some .int)) ∈ ALLW := alw (tm3 (i := 157) rfl) rfl
theorem kw_333 : (Cond.methodLink RX6 114 yX6_weight) ∈ ALLW := alw (tm3 (i := 154) rfl) rfl
theorem kw_334 : (Cond.instanceMethod yX6_weight) ∈ ALLW := alw (tm3 (i := 156) rfl) rfl
theorem kw_335 : (Cond.selects RX6 yX6_weight yX6_weight) ∈ ALLW := alw (tmP (i := 33) rfl) rfl
theorem kw_336 : (Cond.constantLong RX6 118 (-1)) ∈ ALLW := alw (tm3 (i := 162) rfl) rfl
theorem kw_337 : (Cond.fieldLink RX6 48 "FewThatMatterModel" "solved" "[I") ∈ ALLW := alw (tm3 (i := 39) rfl) rfl
theorem kw_338 : (Cond.fieldLink RX6 51 "FewThatMatterModel" "best" "[I") ∈ ALLW := alw (tm3 (i := 40) rfl) rfl
theorem kw_339 : (Cond.constantLong RX6 120 (4)) ∈ ALLW := alw (tm3 (i := 179) rfl) rfl
theorem kw_340 : (Cond.code yX6_solves cX6_solves 8 (some .boolean)) ∈ ALLW := alw (tm3 (i := 183) rfl) rfl
theorem kw_341 : (Cond.methodLink RX6 122 yX6_solves) ∈ ALLW := alw (tm3 (i := 180) rfl) rfl
theorem kw_342 : (Cond.instanceMethod yX6_solves) ∈ ALLW := alw (tm3 (i := 182) rfl) rfl
theorem kw_343 : (Cond.selects RX6 yX6_solves yX6_solves) ∈ ALLW := alw (tmP (i := 34) rfl) rfl
theorem kw_344 : (Cond.code yX6_isBest cX6_isBest 2 none) ∈ ALLW := alw (tm3 (i := 187) rfl) rfl
theorem kw_345 : (Cond.methodLink RX6 126 yX6_isBest) ∈ ALLW := alw (tm3 (i := 184) rfl) rfl
theorem kw_346 : (Cond.instanceMethod yX6_isBest) ∈ ALLW := alw (tm3 (i := 186) rfl) rfl
theorem kw_347 : (Cond.selects RX6 yX6_isBest yX6_isBest) ∈ ALLW := alw (tmP (i := 35) rfl) rfl
theorem kw_348 : (Cond.code yX6_keeps cX6_keeps 3 none) ∈ ALLW := alw (tm3 (i := 191) rfl) rfl
theorem kw_349 : (Cond.methodLink RX6 129 yX6_keeps) ∈ ALLW := alw (tm3 (i := 188) rfl) rfl
theorem kw_350 : (Cond.instanceMethod yX6_keeps) ∈ ALLW := alw (tm3 (i := 190) rfl) rfl
theorem kw_351 : (Cond.selects RX6 yX6_keeps yX6_keeps) ∈ ALLW := alw (tmP (i := 36) rfl) rfl
theorem kw_352 : (Cond.constantLong RX6 133 (3)) ∈ ALLW := alw (tm3 (i := 196) rfl) rfl
theorem kw_353 : (Cond.code yX6_differs cX6_differs 6 (some .int)) ∈ ALLW := alw (tm3 (i := 200) rfl) rfl
theorem kw_354 : (Cond.methodLink RX6 135 yX6_differs) ∈ ALLW := alw (tm3 (i := 197) rfl) rfl
theorem kw_355 : (Cond.instanceMethod yX6_differs) ∈ ALLW := alw (tm3 (i := 199) rfl) rfl
theorem kw_356 : (Cond.selects RX6 yX6_differs yX6_differs) ∈ ALLW := alw (tmP (i := 37) rfl) rfl
theorem kw_357 : (Cond.code yX6_isLess cX6_isLess 2 (some .boolean)) ∈ ALLW := alw (tm3 (i := 204) rfl) rfl
theorem kw_358 : (Cond.methodLink RX6 138 yX6_isLess) ∈ ALLW := alw (tm3 (i := 201) rfl) rfl
theorem kw_359 : (Cond.instanceMethod yX6_isLess) ∈ ALLW := alw (tm3 (i := 203) rfl) rfl
theorem kw_360 : (Cond.selects RX6 yX6_isLess yX6_isLess) ∈ ALLW := alw (tmP (i := 38) rfl) rfl
theorem kw_361 : (Cond.fieldLink RX6 54 "FewThatMatterModel" "rest" "[I") ∈ ALLW := alw (tm3 (i := 41) rfl) rfl
theorem kw_362 : (Cond.constantLong RX6 142 (8)) ∈ ALLW := alw (tm3 (i := 209) rfl) rfl
theorem kw_363 : (Cond.code yX6_without cX6_without 5 (some .int)) ∈ ALLW := alw (tm3 (i := 213) rfl) rfl
theorem kw_364 : (Cond.methodLink RX6 144 yX6_without) ∈ ALLW := alw (tm3 (i := 210) rfl) rfl
theorem kw_365 : (Cond.instanceMethod yX6_without) ∈ ALLW := alw (tm3 (i := 212) rfl) rfl
theorem kw_366 : (Cond.selects RX6 yX6_without yX6_without) ∈ ALLW := alw (tmP (i := 39) rfl) rfl
theorem kw_367 : (Cond.constantLong RX6 148 (32)) ∈ ALLW := alw (tm3 (i := 218) rfl) rfl
theorem kw_368 : (Cond.fieldLink RX6 29 "FewThatMatterModel" "lines" "I") ∈ ALLW := alw (tm3 (i := 31) rfl) rfl
theorem kw_369 : (Cond.fieldLink RX6 32 "FewThatMatterModel" "buckets" "I") ∈ ALLW := alw (tm3 (i := 32) rfl) rfl
theorem kw_370 : (Cond.fieldLink RX6 150 "FewThatMatterModel" "puts" "I") ∈ ALLW := alw (tm3 (i := 33) rfl) rfl
theorem kw_371 : (Cond.fieldLink RX6 153 "FewThatMatterModel" "toldMany" "I") ∈ ALLW := alw (tm3 (i := 35) rfl) rfl
theorem kw_372 : (Cond.fieldLink RX6 35 "FewThatMatterModel" "kept" "[J") ∈ ALLW := alw (tm3 (i := 34) rfl) rfl
theorem kw_373 : (Cond.code yX6_bucketOf cX6_bucketOf 3 (some .int)) ∈ ALLW := alw (tm3 (i := 234) rfl) rfl
theorem kw_374 : (Cond.methodLink RX6 158 yX6_bucketOf) ∈ ALLW := alw (tm3 (i := 231) rfl) rfl
theorem kw_375 : (Cond.instanceMethod yX6_bucketOf) ∈ ALLW := alw (tm3 (i := 233) rfl) rfl
theorem kw_376 : (Cond.selects RX6 yX6_bucketOf yX6_bucketOf) ∈ ALLW := alw (tmP (i := 41) rfl) rfl
theorem kw_377 : (Cond.code yX6_third cX6_third 4 (some .long)) ∈ ALLW := alw (tm3 (i := 237) rfl) rfl
theorem kw_378 : (Cond.methodLink RX6 161 yX6_third) ∈ ALLW := alw (tm3 (i := 235) rfl) rfl
theorem kw_379 : (Cond.static yX6_third) ∈ ALLW := alw (tm3 (i := 236) rfl) rfl
theorem kw_380 : (Cond.constantLong RX6 165 (999999)) ∈ ALLW := alw (tm3 (i := 223) rfl) rfl
theorem kw_381 : (Cond.constantLong RX6 167 (-1000)) ∈ ALLW := alw (tm3 (i := 224) rfl) rfl
theorem kw_382 : (Cond.constantLong RX6 169 (1000)) ∈ ALLW := alw (tm3 (i := 225) rfl) rfl
theorem kw_383 : (Cond.constant RX6 171 (100000)) ∈ ALLW := alw (tm3 (i := 226) rfl) rfl
theorem kw_384 : (Cond.code yX6_adds cX6_adds 7 none) ∈ ALLW := alw (tm3 (i := 230) rfl) rfl
theorem kw_385 : (Cond.methodLink RX6 172 yX6_adds) ∈ ALLW := alw (tm3 (i := 227) rfl) rfl
theorem kw_386 : (Cond.instanceMethod yX6_adds) ∈ ALLW := alw (tm3 (i := 229) rfl) rfl
theorem kw_387 : (Cond.selects RX6 yX6_adds yX6_adds) ∈ ALLW := alw (tmP (i := 40) rfl) rfl
theorem kw_388 : (Cond.code yX6_single cX6_single 8 (some .int)) ∈ ALLW := alw (tm4 (i := 6) rfl) rfl
theorem kw_389 : (Cond.methodLink RX6 176 yX6_single) ∈ ALLW := alw (tm4 (i := 3) rfl) rfl
theorem kw_390 : (Cond.instanceMethod yX6_single) ∈ ALLW := alw (tm4 (i := 5) rfl) rfl
theorem kw_391 : (Cond.selects RX6 yX6_single yX6_single) ∈ ALLW := alw (tmP (i := 42) rfl) rfl
theorem kw_392 : (Cond.fieldLink RX6 39 "FewThatMatterModel" "toldPlace" "[I") ∈ ALLW := alw (tm3 (i := 36) rfl) rfl
theorem kw_393 : (Cond.fieldLink RX6 42 "FewThatMatterModel" "toldNumber" "[I") ∈ ALLW := alw (tm3 (i := 37) rfl) rfl
theorem kw_394 : (Cond.constant RX6 179 (-1000000001)) ∈ ALLW := alw (tm4 (i := 11) rfl) rfl
theorem kw_395 : (Cond.constant RX6 180 (-1000000004)) ∈ ALLW := alw (tm4 (i := 12) rfl) rfl
theorem kw_396 : (Cond.constantLong RX6 181 (-1000000000000000000)) ∈ ALLW := alw (tm4 (i := 17) rfl) rfl
theorem kw_397 : (Cond.code yX5_begin cX5_begin 5 (some .int)) ∈ ALLW := alw (tm1 (i := 215) rfl) rfl
theorem kw_398 : (Cond.methodLink RL 13 yX5_begin) ∈ ALLW := alw (tm1 (i := 212) rfl) rfl
theorem kw_399 : (Cond.instanceMethod yX5_begin) ∈ ALLW := alw (tm1 (i := 213) rfl) rfl
theorem kw_400 : (Cond.selects RX5 yX5_begin yX5_begin) ∈ ALLW := alw (tm1 (i := 214) rfl) rfl
theorem kw_401 : (Cond.code yX6_begin cX6_begin 5 (some .int)) ∈ ALLW := alw (tm3 (i := 80) rfl) rfl
theorem kw_402 : (Cond.methodLink RL 17 yX6_begin) ∈ ALLW := alw (tm3 (i := 77) rfl) rfl
theorem kw_403 : (Cond.instanceMethod yX6_begin) ∈ ALLW := alw (tm3 (i := 78) rfl) rfl
theorem kw_404 : (Cond.selects RX6 yX6_begin yX6_begin) ∈ ALLW := alw (tm3 (i := 79) rfl) rfl
theorem kw_405 : (Cond.code yX5_set cX5_set 5 (some .int)) ∈ ALLW := alw (tm1 (i := 224) rfl) rfl
theorem kw_406 : (Cond.methodLink RL 18 yX5_set) ∈ ALLW := alw (tm1 (i := 221) rfl) rfl
theorem kw_407 : (Cond.instanceMethod yX5_set) ∈ ALLW := alw (tm1 (i := 222) rfl) rfl
theorem kw_408 : (Cond.selects RX5 yX5_set yX5_set) ∈ ALLW := alw (tm1 (i := 223) rfl) rfl
theorem kw_409 : (Cond.code yX6_set cX6_set 5 (some .int)) ∈ ALLW := alw (tm3 (i := 94) rfl) rfl
theorem kw_410 : (Cond.methodLink RL 21 yX6_set) ∈ ALLW := alw (tm3 (i := 91) rfl) rfl
theorem kw_411 : (Cond.instanceMethod yX6_set) ∈ ALLW := alw (tm3 (i := 92) rfl) rfl
theorem kw_412 : (Cond.selects RX6 yX6_set yX6_set) ∈ ALLW := alw (tm3 (i := 93) rfl) rfl
theorem kw_413 : (Cond.code yX5_powers cX5_powers 2 (some .int)) ∈ ALLW := alw (tm1 (i := 239) rfl) rfl
theorem kw_414 : (Cond.methodLink RL 22 yX5_powers) ∈ ALLW := alw (tm1 (i := 236) rfl) rfl
theorem kw_415 : (Cond.instanceMethod yX5_powers) ∈ ALLW := alw (tm1 (i := 237) rfl) rfl
theorem kw_416 : (Cond.selects RX5 yX5_powers yX5_powers) ∈ ALLW := alw (tm1 (i := 238) rfl) rfl
theorem kw_417 : (Cond.code yX6_powers cX6_powers 5 (some .int)) ∈ ALLW := alw (tm3 (i := 106) rfl) rfl
theorem kw_418 : (Cond.methodLink RL 26 yX6_powers) ∈ ALLW := alw (tm3 (i := 103) rfl) rfl
theorem kw_419 : (Cond.instanceMethod yX6_powers) ∈ ALLW := alw (tm3 (i := 104) rfl) rfl
theorem kw_420 : (Cond.selects RX6 yX6_powers yX6_powers) ∈ ALLW := alw (tm3 (i := 105) rfl) rfl
theorem kw_421 : (Cond.code yX5_at cX5_at 3 (some .int)) ∈ ALLW := alw (tm2 (i := 7) rfl) rfl
theorem kw_422 : (Cond.methodLink RL 27 yX5_at) ∈ ALLW := alw (tm2 (i := 4) rfl) rfl
theorem kw_423 : (Cond.instanceMethod yX5_at) ∈ ALLW := alw (tm2 (i := 5) rfl) rfl
theorem kw_424 : (Cond.selects RX5 yX5_at yX5_at) ∈ ALLW := alw (tm2 (i := 6) rfl) rfl
theorem kw_425 : (Cond.code yX6_at cX6_at 3 (some .int)) ∈ ALLW := alw (tm3 (i := 110) rfl) rfl
theorem kw_426 : (Cond.methodLink RL 31 yX6_at) ∈ ALLW := alw (tm3 (i := 107) rfl) rfl
theorem kw_427 : (Cond.instanceMethod yX6_at) ∈ ALLW := alw (tm3 (i := 108) rfl) rfl
theorem kw_428 : (Cond.selects RX6 yX6_at yX6_at) ∈ ALLW := alw (tm3 (i := 109) rfl) rfl
theorem kw_429 : (Cond.code yX5_judge cX5_judge 2 (some .int)) ∈ ALLW := alw (tm2 (i := 11) rfl) rfl
theorem kw_430 : (Cond.methodLink RL 32 yX5_judge) ∈ ALLW := alw (tm2 (i := 8) rfl) rfl
theorem kw_431 : (Cond.instanceMethod yX5_judge) ∈ ALLW := alw (tm2 (i := 9) rfl) rfl
theorem kw_432 : (Cond.selects RX5 yX5_judge yX5_judge) ∈ ALLW := alw (tm2 (i := 10) rfl) rfl
theorem kw_433 : (Cond.code yX6_judge cX6_judge 2 (some .int)) ∈ ALLW := alw (tm3 (i := 114) rfl) rfl
theorem kw_434 : (Cond.methodLink RL 35 yX6_judge) ∈ ALLW := alw (tm3 (i := 111) rfl) rfl
theorem kw_435 : (Cond.instanceMethod yX6_judge) ∈ ALLW := alw (tm3 (i := 112) rfl) rfl
theorem kw_436 : (Cond.selects RX6 yX6_judge yX6_judge) ∈ ALLW := alw (tm3 (i := 113) rfl) rfl
theorem kw_437 : (Cond.code yX5_put cX5_put 4 (some .int)) ∈ ALLW := alw (tm2 (i := 73) rfl) rfl
theorem kw_438 : (Cond.methodLink RL 36 yX5_put) ∈ ALLW := alw (tm2 (i := 70) rfl) rfl
theorem kw_439 : (Cond.instanceMethod yX5_put) ∈ ALLW := alw (tm2 (i := 71) rfl) rfl
theorem kw_440 : (Cond.selects RX5 yX5_put yX5_put) ∈ ALLW := alw (tm2 (i := 72) rfl) rfl
theorem kw_441 : (Cond.code yX6_put cX6_put 4 (some .int)) ∈ ALLW := alw (tm3 (i := 149) rfl) rfl
theorem kw_442 : (Cond.methodLink RL 39 yX6_put) ∈ ALLW := alw (tm3 (i := 146) rfl) rfl
theorem kw_443 : (Cond.instanceMethod yX6_put) ∈ ALLW := alw (tm3 (i := 147) rfl) rfl
theorem kw_444 : (Cond.selects RX6 yX6_put yX6_put) ∈ ALLW := alw (tm3 (i := 148) rfl) rfl
theorem kw_445 : (Cond.code yX5_row cX5_row 3 (some .int)) ∈ ALLW := alw (tm2 (i := 83) rfl) rfl
theorem kw_446 : (Cond.methodLink RL 40 yX5_row) ∈ ALLW := alw (tm2 (i := 80) rfl) rfl
theorem kw_447 : (Cond.instanceMethod yX5_row) ∈ ALLW := alw (tm2 (i := 81) rfl) rfl
theorem kw_448 : (Cond.selects RX5 yX5_row yX5_row) ∈ ALLW := alw (tm2 (i := 82) rfl) rfl
theorem kw_449 : (Cond.code yX6_row cX6_row 3 (some .int)) ∈ ALLW := alw (tm3 (i := 161) rfl) rfl
theorem kw_450 : (Cond.methodLink RL 43 yX6_row) ∈ ALLW := alw (tm3 (i := 158) rfl) rfl
theorem kw_451 : (Cond.instanceMethod yX6_row) ∈ ALLW := alw (tm3 (i := 159) rfl) rfl
theorem kw_452 : (Cond.selects RX6 yX6_row yX6_row) ∈ ALLW := alw (tm3 (i := 160) rfl) rfl
theorem kw_453 : (Cond.code yX5_sum cX5_sum 4 (some .int)) ∈ ALLW := alw (tm2 (i := 87) rfl) rfl
theorem kw_454 : (Cond.methodLink RL 44 yX5_sum) ∈ ALLW := alw (tm2 (i := 84) rfl) rfl
theorem kw_455 : (Cond.instanceMethod yX5_sum) ∈ ALLW := alw (tm2 (i := 85) rfl) rfl
theorem kw_456 : (Cond.selects RX5 yX5_sum yX5_sum) ∈ ALLW := alw (tm2 (i := 86) rfl) rfl
theorem kw_457 : (Cond.code yX6_sum cX6_sum 4 (some .int)) ∈ ALLW := alw (tm3 (i := 166) rfl) rfl
theorem kw_458 : (Cond.methodLink RL 47 yX6_sum) ∈ ALLW := alw (tm3 (i := 163) rfl) rfl
theorem kw_459 : (Cond.instanceMethod yX6_sum) ∈ ALLW := alw (tm3 (i := 164) rfl) rfl
theorem kw_460 : (Cond.selects RX6 yX6_sum yX6_sum) ∈ ALLW := alw (tm3 (i := 165) rfl) rfl
theorem kw_461 : (Cond.code yX5_told cX5_told 3 (some .int)) ∈ ALLW := alw (tm2 (i := 91) rfl) rfl
theorem kw_462 : (Cond.methodLink RL 48 yX5_told) ∈ ALLW := alw (tm2 (i := 88) rfl) rfl
theorem kw_463 : (Cond.instanceMethod yX5_told) ∈ ALLW := alw (tm2 (i := 89) rfl) rfl
theorem kw_464 : (Cond.selects RX5 yX5_told yX5_told) ∈ ALLW := alw (tm2 (i := 90) rfl) rfl
theorem kw_465 : (Cond.code yX6_told cX6_told 3 (some .int)) ∈ ALLW := alw (tm3 (i := 170) rfl) rfl
theorem kw_466 : (Cond.methodLink RL 51 yX6_told) ∈ ALLW := alw (tm3 (i := 167) rfl) rfl
theorem kw_467 : (Cond.instanceMethod yX6_told) ∈ ALLW := alw (tm3 (i := 168) rfl) rfl
theorem kw_468 : (Cond.selects RX6 yX6_told yX6_told) ∈ ALLW := alw (tm3 (i := 169) rfl) rfl
theorem kw_469 : (Cond.code yX5_tell cX5_tell 3 (some .int)) ∈ ALLW := alw (tm2 (i := 95) rfl) rfl
theorem kw_470 : (Cond.methodLink RL 52 yX5_tell) ∈ ALLW := alw (tm2 (i := 92) rfl) rfl
theorem kw_471 : (Cond.instanceMethod yX5_tell) ∈ ALLW := alw (tm2 (i := 93) rfl) rfl
theorem kw_472 : (Cond.selects RX5 yX5_tell yX5_tell) ∈ ALLW := alw (tm2 (i := 94) rfl) rfl
theorem kw_473 : (Cond.code yX6_tell cX6_tell 6 (some .int)) ∈ ALLW := alw (tm3 (i := 174) rfl) rfl
theorem kw_474 : (Cond.methodLink RL 55 yX6_tell) ∈ ALLW := alw (tm3 (i := 171) rfl) rfl
theorem kw_475 : (Cond.instanceMethod yX6_tell) ∈ ALLW := alw (tm3 (i := 172) rfl) rfl
theorem kw_476 : (Cond.selects RX6 yX6_tell yX6_tell) ∈ ALLW := alw (tm3 (i := 173) rfl) rfl
theorem kw_477 : (Cond.code yX5_find cX5_find 6 (some .int)) ∈ ALLW := alw (tm2 (i := 103) rfl) rfl
theorem kw_478 : (Cond.methodLink RL 56 yX5_find) ∈ ALLW := alw (tm2 (i := 100) rfl) rfl
theorem kw_479 : (Cond.instanceMethod yX5_find) ∈ ALLW := alw (tm2 (i := 101) rfl) rfl
theorem kw_480 : (Cond.selects RX5 yX5_find yX5_find) ∈ ALLW := alw (tm2 (i := 102) rfl) rfl
theorem kw_481 : (Cond.code yX6_find cX6_find 7 (some .int)) ∈ ALLW := alw (tm3 (i := 178) rfl) rfl
theorem kw_482 : (Cond.methodLink RL 59 yX6_find) ∈ ALLW := alw (tm3 (i := 175) rfl) rfl
theorem kw_483 : (Cond.instanceMethod yX6_find) ∈ ALLW := alw (tm3 (i := 176) rfl) rfl
theorem kw_484 : (Cond.selects RX6 yX6_find yX6_find) ∈ ALLW := alw (tm3 (i := 177) rfl) rfl
theorem kw_485 : (Cond.code yX5_miss cX5_miss 7 (some .int)) ∈ ALLW := alw (tm2 (i := 137) rfl) rfl
theorem kw_486 : (Cond.methodLink RL 60 yX5_miss) ∈ ALLW := alw (tm2 (i := 134) rfl) rfl
theorem kw_487 : (Cond.instanceMethod yX5_miss) ∈ ALLW := alw (tm2 (i := 135) rfl) rfl
theorem kw_488 : (Cond.selects RX5 yX5_miss yX5_miss) ∈ ALLW := alw (tm2 (i := 136) rfl) rfl
theorem kw_489 : (Cond.code yX6_miss cX6_miss 11 (some .int)) ∈ ALLW := alw (tm3 (i := 195) rfl) rfl
theorem kw_490 : (Cond.methodLink RL 64 yX6_miss) ∈ ALLW := alw (tm3 (i := 192) rfl) rfl
theorem kw_491 : (Cond.instanceMethod yX6_miss) ∈ ALLW := alw (tm3 (i := 193) rfl) rfl
theorem kw_492 : (Cond.selects RX6 yX6_miss yX6_miss) ∈ ALLW := alw (tm3 (i := 194) rfl) rfl
theorem kw_493 : (Cond.code yX5_greedy cX5_greedy 6 (some .int)) ∈ ALLW := alw (tm2 (i := 156) rfl) rfl
theorem kw_494 : (Cond.methodLink RL 65 yX5_greedy) ∈ ALLW := alw (tm2 (i := 153) rfl) rfl
theorem kw_495 : (Cond.instanceMethod yX5_greedy) ∈ ALLW := alw (tm2 (i := 154) rfl) rfl
theorem kw_496 : (Cond.selects RX5 yX5_greedy yX5_greedy) ∈ ALLW := alw (tm2 (i := 155) rfl) rfl
theorem kw_497 : (Cond.code yX6_greedy cX6_greedy 13 (some .int)) ∈ ALLW := alw (tm3 (i := 208) rfl) rfl
theorem kw_498 : (Cond.methodLink RL 68 yX6_greedy) ∈ ALLW := alw (tm3 (i := 205) rfl) rfl
theorem kw_499 : (Cond.instanceMethod yX6_greedy) ∈ ALLW := alw (tm3 (i := 206) rfl) rfl
theorem kw_500 : (Cond.selects RX6 yX6_greedy yX6_greedy) ∈ ALLW := alw (tm3 (i := 207) rfl) rfl
theorem kw_501 : (Cond.code yX5_sketch cX5_sketch 3 (some .int)) ∈ ALLW := alw (tm2 (i := 185) rfl) rfl
theorem kw_502 : (Cond.methodLink RL 69 yX5_sketch) ∈ ALLW := alw (tm2 (i := 182) rfl) rfl
theorem kw_503 : (Cond.instanceMethod yX5_sketch) ∈ ALLW := alw (tm2 (i := 183) rfl) rfl
theorem kw_504 : (Cond.selects RX5 yX5_sketch yX5_sketch) ∈ ALLW := alw (tm2 (i := 184) rfl) rfl
theorem kw_505 : (Cond.code yX6_sketch cX6_sketch 4 (some .int)) ∈ ALLW := alw (tm3 (i := 217) rfl) rfl
theorem kw_506 : (Cond.methodLink RL 72 yX6_sketch) ∈ ALLW := alw (tm3 (i := 214) rfl) rfl
theorem kw_507 : (Cond.instanceMethod yX6_sketch) ∈ ALLW := alw (tm3 (i := 215) rfl) rfl
theorem kw_508 : (Cond.selects RX6 yX6_sketch yX6_sketch) ∈ ALLW := alw (tm3 (i := 216) rfl) rfl
theorem kw_509 : (Cond.code yX5_add cX5_add 3 (some .int)) ∈ ALLW := alw (tm2 (i := 190) rfl) rfl
theorem kw_510 : (Cond.methodLink RL 73 yX5_add) ∈ ALLW := alw (tm2 (i := 187) rfl) rfl
theorem kw_511 : (Cond.instanceMethod yX5_add) ∈ ALLW := alw (tm2 (i := 188) rfl) rfl
theorem kw_512 : (Cond.selects RX5 yX5_add yX5_add) ∈ ALLW := alw (tm2 (i := 189) rfl) rfl
theorem kw_513 : (Cond.code yX6_add cX6_add 3 (some .int)) ∈ ALLW := alw (tm3 (i := 222) rfl) rfl
theorem kw_514 : (Cond.methodLink RL 76 yX6_add) ∈ ALLW := alw (tm3 (i := 219) rfl) rfl
theorem kw_515 : (Cond.instanceMethod yX6_add) ∈ ALLW := alw (tm3 (i := 220) rfl) rfl
theorem kw_516 : (Cond.selects RX6 yX6_add yX6_add) ∈ ALLW := alw (tm3 (i := 221) rfl) rfl
theorem kw_517 : (Cond.code yX5_decode cX5_decode 2 (some .int)) ∈ ALLW := alw (tm2 (i := 218) rfl) rfl
theorem kw_518 : (Cond.methodLink RL 77 yX5_decode) ∈ ALLW := alw (tm2 (i := 215) rfl) rfl
theorem kw_519 : (Cond.instanceMethod yX5_decode) ∈ ALLW := alw (tm2 (i := 216) rfl) rfl
theorem kw_520 : (Cond.selects RX5 yX5_decode yX5_decode) ∈ ALLW := alw (tm2 (i := 217) rfl) rfl
theorem kw_521 : (Cond.code yX6_decode cX6_decode 8 (some .int)) ∈ ALLW := alw (tm4 (i := 2) rfl) rfl
theorem kw_522 : (Cond.methodLink RL 81 yX6_decode) ∈ ALLW := alw (tm3 (i := 239) rfl) rfl
theorem kw_523 : (Cond.instanceMethod yX6_decode) ∈ ALLW := alw (tm4 (i := 0) rfl) rfl
theorem kw_524 : (Cond.selects RX6 yX6_decode yX6_decode) ∈ ALLW := alw (tm4 (i := 1) rfl) rfl
theorem kw_525 : (Cond.code yX5_decoded cX5_decoded 3 (some .int)) ∈ ALLW := alw (tm3 (i := 6) rfl) rfl
theorem kw_526 : (Cond.methodLink RL 82 yX5_decoded) ∈ ALLW := alw (tm3 (i := 3) rfl) rfl
theorem kw_527 : (Cond.instanceMethod yX5_decoded) ∈ ALLW := alw (tm3 (i := 4) rfl) rfl
theorem kw_528 : (Cond.selects RX5 yX5_decoded yX5_decoded) ∈ ALLW := alw (tm3 (i := 5) rfl) rfl
theorem kw_529 : (Cond.code yX6_decoded cX6_decoded 3 (some .int)) ∈ ALLW := alw (tm4 (i := 10) rfl) rfl
theorem kw_530 : (Cond.methodLink RL 85 yX6_decoded) ∈ ALLW := alw (tm4 (i := 7) rfl) rfl
theorem kw_531 : (Cond.instanceMethod yX6_decoded) ∈ ALLW := alw (tm4 (i := 8) rfl) rfl
theorem kw_532 : (Cond.selects RX6 yX6_decoded yX6_decoded) ∈ ALLW := alw (tm4 (i := 9) rfl) rfl
theorem kw_533 : (Cond.code yX5_bucket cX5_bucket 4 (some .long)) ∈ ALLW := alw (tm3 (i := 12) rfl) rfl
theorem kw_534 : (Cond.methodLink RL 86 yX5_bucket) ∈ ALLW := alw (tm3 (i := 9) rfl) rfl
theorem kw_535 : (Cond.instanceMethod yX5_bucket) ∈ ALLW := alw (tm3 (i := 10) rfl) rfl
theorem kw_536 : (Cond.selects RX5 yX5_bucket yX5_bucket) ∈ ALLW := alw (tm3 (i := 11) rfl) rfl
theorem kw_537 : (Cond.code yX6_bucket cX6_bucket 4 (some .long)) ∈ ALLW := alw (tm4 (i := 16) rfl) rfl
theorem kw_538 : (Cond.methodLink RL 90 yX6_bucket) ∈ ALLW := alw (tm4 (i := 13) rfl) rfl
theorem kw_539 : (Cond.instanceMethod yX6_bucket) ∈ ALLW := alw (tm4 (i := 14) rfl) rfl
theorem kw_540 : (Cond.selects RX6 yX6_bucket yX6_bucket) ∈ ALLW := alw (tm4 (i := 15) rfl) rfl
theorem kw_541 : (Cond.code yX5_count cX5_count 2 (some .int)) ∈ ALLW := alw (tm3 (i := 18) rfl) rfl
theorem kw_542 : (Cond.methodLink RL 91 yX5_count) ∈ ALLW := alw (tm3 (i := 15) rfl) rfl
theorem kw_543 : (Cond.instanceMethod yX5_count) ∈ ALLW := alw (tm3 (i := 16) rfl) rfl
theorem kw_544 : (Cond.selects RX5 yX5_count yX5_count) ∈ ALLW := alw (tm3 (i := 17) rfl) rfl
theorem kw_545 : (Cond.code yX6_count cX6_count 2 (some .int)) ∈ ALLW := alw (tm4 (i := 21) rfl) rfl
theorem kw_546 : (Cond.methodLink RL 94 yX6_count) ∈ ALLW := alw (tm4 (i := 18) rfl) rfl
theorem kw_547 : (Cond.instanceMethod yX6_count) ∈ ALLW := alw (tm4 (i := 19) rfl) rfl
theorem kw_548 : (Cond.selects RX6 yX6_count yX6_count) ∈ ALLW := alw (tm4 (i := 20) rfl) rfl
end
section
/-! THE WORLD: one list of components (objects and arrays, by number), whose ints stand in G, whose longs in B -/
abbrev GS : Type := Nat → Nat → Int32
abbrev BS : Type := Nat → Nat → Int64
abbrev WE : Type := (Nat → Nat) × (ClassId × ClassId × ClassId) × va_G
abbrev cl (i : Int32) : Nat := i.toNatClampNeg
def wr (G : GS) (c k : Nat) (v : Int32) : GS := fun c' => if c' = c then upd (G c) k v else G c'
def wrL (B : BS) (c k : Nat) (v : Int64) : BS := fun c' => if c' = c then vp_updL (B c) k v else B c'
def cpL (B : BS) (c d sp dp n : Nat) : BS := fun c' => if c' = d then va_cpy (B c) (B d) sp dp n else B c'
theorem wr_at (G : GS) (c k : Nat) (v : Int32) : wr G c k v c = upd (G c) k v := if_pos rfl
theorem wr_ne {G : GS} {c k : Nat} {v : Int32} {c' : Nat} (h : c' ≠ c) : wr G c k v c' = G c' := if_neg h
theorem wr_ss (G : GS) (c k : Nat) (v : Int32) : wr G c k v c k = v := by rw [wr_at]; exact if_pos rfl
theorem wr_sn {G : GS} {c k : Nat} {v : Int32} {k' : Nat} (h : k' ≠ k) : wr G c k v c k' = G c k' := by rw [wr_at]; exact if_neg h
theorem wrL_at (G : BS) (c k : Nat) (v : Int64) : wrL G c k v c = vp_updL (G c) k v := if_pos rfl
theorem wrL_ne {G : BS} {c k : Nat} {v : Int64} {c' : Nat} (h : c' ≠ c) : wrL G c k v c' = G c' := if_neg h
theorem wrL_ss (G : BS) (c k : Nat) (v : Int64) : wrL G c k v c k = v := by rw [wrL_at]; exact if_pos rfl
theorem wrL_sn {G : BS} {c k : Nat} {v : Int64} {k' : Nat} (h : k' ≠ k) : wrL G c k v c k' = G c k' := by rw [wrL_at]; exact if_neg h
theorem cpL_at (G : BS) (c d sp dp n : Nat) : cpL G c d sp dp n d = va_cpy (G c) (G d) sp dp n := if_pos rfl
theorem cpL_ne {G : BS} {c d sp dp n c' : Nat} (h : c' ≠ d) : cpL G c d sp dp n c' = G c' := if_neg h
/-- the lengths of the arrays -/
def ln (c : Nat) : Nat := if c < 20 then (if c = 9 then 98 else if c = 11 ∨ c = 12 then 7 else if c = 13 ∨ c = 14 then 12 else if c = 15 then 6 else if c = 16 ∨ c = 17 then 384 else if c = 18 ∨ c = 19 then 100 else 0) else if c < 26 then 12 else if c < 32 then 6 else if c < 38 then 12 else if c < 45 then 78 else if c = 46 ∨ c = 47 then 72 else if c = 48 then 36 else if c = 49 then 768 else if c = 50 ∨ c = 51 then 100 else if c = 52 then 78 else if c = 53 ∨ c = 54 then 12 else if c = 55 then 6 else 0
/-- the rows of the arrays of arrays: how many, and where they begin -/
def on (c : Nat) : Nat := if c = 10 then 7 else 6
def bas (c : Nat) : Nat := if c = 6 then 20 else if c = 7 then 26 else if c = 8 then 32 else 38
def ob (ad : Nat → Nat) (c : Nat) (f : Nat → Int32) : Nat × List Value :=
  if c = 0 then (5, [.ref (ad 1), .ref (ad 2), .ref (ad 3), .ref (ad 4), .ref (ad 5), .ref (ad 6), .ref (ad 7)])
  else if c = 1 then (4, [.int (f 0), .int (f 1), .int (f 2), .ref (ad 8), .ref (ad 9)])
  else if c = 2 then (2, [.ref (ad 1), .ref (ad 10), .ref (ad 11), .ref (ad 12), .ref (ad 13), .int (f 5), .int (f 6), .int (f 7), .int (f 8), .int (f 9), .int (f 10)])
  else if c = 3 then (1, [.ref (ad 1), .ref (ad 2), .ref (ad 14)])
  else if c = 4 then (0, [.ref (ad 1), .ref (ad 15), .int (f 2), .int (f 3), .int (f 4)])
  else if c = 5 then (3, [.int (f 0), .int (f 1), .int (f 2), .int (f 3), .ref (ad 16), .ref (ad 17), .ref (ad 18), .ref (ad 19)])
  else (6, [.int (f 0), .int (f 1), .int (f 2), .ref (ad 46), .ref (ad 47), .ref (ad 48), .int (f 6), .int (f 7), .int (f 8), .ref (ad 49), .int (f 10), .ref (ad 50), .ref (ad 51), .ref (ad 52), .ref (ad 53), .ref (ad 54), .ref (ad 55)])
def isI (c : Nat) : Prop := ¬ (c < 6 ∨ c = 45) ∧ ¬ (c < 9 ∨ c = 10) ∧ ¬ (c = 16 ∨ c = 17 ∨ c = 49)
def isJ (c : Nat) : Prop := c = 16 ∨ c = 17 ∨ c = 49
def isO (c : Nat) : Prop := c = 6 ∨ c = 7 ∨ c = 8 ∨ c = 10
def isB (c : Nat) : Prop := c < 6 ∨ c = 45
def lay (w : WE) (c : Nat) (f : Nat → Int32) (g : Nat → Int64) : va_E :=
  if c < 6 ∨ c = 45 then .inr (ob w.1 c f)
  else if c < 9 ∨ c = 10 then .inl (w.2.1.2.2, on c, .inr (.inr (.inr (.inr (fun i => if i < on c then some (w.1 (bas c + i)) else none)))))
  else if c = 16 ∨ c = 17 ∨ c = 49 then .inl (w.2.1.2.1, ln c, .inr (.inl g))
  else .inl (w.2.1.1, ln c, .inl f)
theorem lay_I {w : WE} {c : Nat} (h : isI c) (f : Nat → Int32) (g : Nat → Int64) : lay w c f g = .inl (w.2.1.1, ln c, .inl f) := by
  unfold lay; rw [if_neg h.1, if_neg h.2.1, if_neg h.2.2]
theorem lay_J {w : WE} {c : Nat} (h : isJ c) (f : Nat → Int32) (g : Nat → Int64) : lay w c f g = .inl (w.2.1.2.1, ln c, .inr (.inl g)) := by
  unfold isJ at h; unfold lay; rw [if_neg (by omega), if_neg (by omega), if_pos h]
theorem lay_O {w : WE} {c : Nat} (h : isO c) (f : Nat → Int32) (g : Nat → Int64) : lay w c f g = .inl (w.2.1.2.2, on c, .inr (.inr (.inr (.inr (fun i => if i < on c then some (w.1 (bas c + i)) else none))))) := by
  unfold isO at h; unfold lay; rw [if_neg (by omega), if_pos (by omega)]
theorem lay_B {w : WE} {c : Nat} (h : isB c) (f : Nat → Int32) (g : Nat → Int64) : lay w c f g = .inr (ob w.1 c f) := by
  unfold isB at h; unfold lay; rw [if_pos h]
theorem isI_row {c : Nat} (h : 20 ≤ c) (h2 : c < 45) : isI c := by unfold isI; omega
theorem ln_20 {i : Nat} (h : i < 6) : ln (20 + i) = 12 := by unfold ln; rw [if_neg (by omega), if_pos (by omega)]
theorem ln_26 {i : Nat} (h : i < 6) : ln (26 + i) = 6 := by unfold ln; rw [if_neg (by omega), if_neg (by omega), if_pos (by omega)]
theorem ln_32 {i : Nat} (h : i < 6) : ln (32 + i) = 12 := by unfold ln; rw [if_neg (by omega), if_neg (by omega), if_neg (by omega), if_pos (by omega)]
theorem ln_38 {i : Nat} (h : i < 7) : ln (38 + i) = 78 := by unfold ln; rw [if_neg (by omega), if_neg (by omega), if_neg (by omega), if_neg (by omega), if_pos (by omega)]
theorem ln_iv20 {a : Nat} (h : 20 ≤ a ∧ a < 26) : ln a = 12 := by unfold ln; rw [if_neg (by omega), if_pos (by omega)]
theorem ln_iv26 {a : Nat} (h : 26 ≤ a ∧ a < 32) : ln a = 6 := by unfold ln; rw [if_neg (by omega), if_neg (by omega), if_pos (by omega)]
theorem ln_iv32 {a : Nat} (h : 32 ≤ a ∧ a < 38) : ln a = 12 := by unfold ln; rw [if_neg (by omega), if_neg (by omega), if_neg (by omega), if_pos (by omega)]
theorem ln_iv38 {a : Nat} (h : 38 ≤ a ∧ a < 45) : ln a = 78 := by unfold ln; rw [if_neg (by omega), if_neg (by omega), if_neg (by omega), if_neg (by omega), if_pos (by omega)]
theorem vp_lt {i : Int32} {n : Nat} (h : vp_in i n) : cl i < n := Nat.not_le.mp fun q => h (Or.inr q)
theorem vp_iv {b n : Nat} {i : Int32} (h : vp_in i n) : b ≤ b + cl i ∧ b + cl i < b + n := ⟨Nat.le_add_right _ _, Nat.add_lt_add_left (vp_lt h) b⟩
theorem tsw_out3 {x : Int32} (h0 : ¬ x = 0) (h1 : ¬ x = 1) (h2 : ¬ x = 2) (h3 : ¬ x = 3) : x.toInt < 0 ∨ 3 < x.toInt := by
  have a0 := lv_neT h0 (a := 0) rfl
  have a1 := lv_neT h1 (a := 1) rfl
  have a2 := lv_neT h2 (a := 2) rfl
  have a3 := lv_neT h3 (a := 3) rfl
  omega
theorem tsw_out5 {x : Int32} (h0 : ¬ x = 0) (h1 : ¬ x = 1) (h2 : ¬ x = 2) (h3 : ¬ x = 3) (h4 : ¬ x = 4) (h5 : ¬ x = 5) : x.toInt < 0 ∨ 5 < x.toInt := by
  have a0 := lv_neT h0 (a := 0) rfl
  have a1 := lv_neT h1 (a := 1) rfl
  have a2 := lv_neT h2 (a := 2) rfl
  have a3 := lv_neT h3 (a := 3) rfl
  have a4 := lv_neT h4 (a := 4) rfl
  have a5 := lv_neT h5 (a := 5) rfl
  omega
/-- the words on nest mates -/
def nwl : List Cond := [
  .methodLinkNest RX4 34 yX5_clear RX5, .fieldLinkNest RX5 79 RX4 "prime" "I" RX5, .fieldLinkNest RX2 103 RX4 "prime" "I" RX5, .fieldLinkNest RX1 23 RX4 "height" "I" RX5, .fieldLinkNest RX2 48 RX4 "height" "I" RX5, .fieldLinkNest RX0 53 RX4 "height" "I" RX5, .fieldLinkNest RX5 107 RX4 "height" "I" RX5, .fieldLinkNest RX2 34 RX4 "width" "I" RX5, .fieldLinkNest RX0 48 RX4 "width" "I" RX5, .fieldLinkNest RX5 100 RX4 "width" "I" RX5,
  .fieldLinkNest RX5 72 RX4 "cells" "[[I" RX5, .fieldLinkNest RX0 56 RX4 "cells" "[[I" RX5, .fieldLinkNest RX2 110 RX4 "cells" "[[I" RX5, .fieldLinkNest RX1 44 RX2 "answer" "[I" RX5, .fieldLinkNest RX5 118 RX2 "answer" "[I" RX5, .fieldLinkNest RX1 41 RX2 "firstSet" "I" RX5, .fieldLinkNest RX5 129 RX1 "answer" "[I" RX5, .fieldLinkNest RX5 160 RX3 "lines" "I" RX5, .fieldLinkNest RX5 163 RX3 "buckets" "I" RX5, .fieldLinkNest RX5 138 RX3 "puts" "I" RX5,
  .fieldLinkNest RX5 149 RX3 "told" "I" RX5, .fieldLinkNest RX5 168 RX3 "kept" "[J" RX5, .fieldLinkNest RX5 154 RX3 "toldPlaces" "[I" RX5, .fieldLinkNest RX5 157 RX3 "toldNumbers" "[I" RX5, .methodLinkNest RX2 95 yX5_clear RX5, .methodLinkNest RX1 49 yX5_copy RX5, .methodLinkNest RX0 19 yX5_copy RX5, .methodLinkNest RX0 23 yX5_clear RX5, .methodLinkNest RX0 27 yX5_weight RX5]
def nwOk (w : Cond) : Bool := match w with
  | .methodLinkNest _ _ _ _ => true
  | .fieldLinkNest _ _ _ _ _ _ => true
  | _ => false
theorem nwl_ok : nwl.all nwOk = true := by decide +kernel
def NW (U : State) : Prop := ∀ w ∈ nwl, va_Nw w U
theorem nw_warm1 {w : Cond} {s U : State} (hw : nwOk w = true) (hW : s.WarmedH U.vm) (h : va_Nw w s) : va_Nw w U := by
  cases w <;> first | exact va_Nw.warmF hW h | exact va_Nw.warmM hW h | exact absurd (show false = true from hw) Bool.false_ne_true
theorem NW.warm {s U : State} (hW : s.WarmedH U.vm) (h : NW s) : NW U := fun w hw => nw_warm1 (List.all_eq_true.mp nwl_ok w hw) hW (h w hw)
theorem nw_same1 {w : Cond} {s U : State} (hw : nwOk w = true) (hW : s.vm = U.vm) (h : va_Nw w s) : va_Nw w U := by
  cases w <;> first | exact va_Nw.same rfl hW h | exact absurd (show false = true from hw) Bool.false_ne_true
theorem NW.same {s U : State} (hW : s.vm = U.vm) (h : NW s) : NW U := fun w hw => nw_same1 (List.all_eq_true.mp nwl_ok w hw) hW (h w hw)
def wsl (w : WE) (cs : List Nat) (G : GS) (B : BS) : va_W := cs.map (fun c => (w.1 c, lay w c (G c) (B c)))
abbrev tysW (w : WE) : List (ClassId × FieldType) := [(w.2.1.1, .int), (w.2.1.2.1, .long), (w.2.1.2.2, .array .int)]
def KW (w : WE) (U : State) : Prop := va_K w.2.2 vwCl (tysW w) U ∧ NW U
def AA (w : WE) (cs : List Nat) (sz : Nat) : Nat → Prop := fun q => (∃ c, c ∈ cs ∧ w.1 c = q) ∨ sz ≤ q
def WO (w : WE) (cs : List Nat) (A : Nat → Prop) (H0 : Heap) (G : GS) (B : BS) (H : Heap) (locs : List Loc) : Prop :=
  va_P w.2.2 vwCl (wsl w cs G B) H ∧ va_D A (wsl w cs G B) ∧ va_S A H0 H locs ∧ ∀ q, H0.size ≤ q → A q
def PcW (w : WE) (cs : List Nat) (sz : Nat) (G : GS) (B : BS) (av : List Value) : Array Value → State → Prop :=
  va_Pc av (fun U => U.heap.size = sz ∧ va_P w.2.2 vwCl (wsl w cs G B) U.heap ∧ va_D (fun _ => True) (wsl w cs G B) ∧ KW w U)
def atW (w : WE) (cs : List Nat) (A : Nat → Prop) (u : GS × BS) (t : State) : Prop := va_P w.2.2 vwCl (wsl w cs u.1 u.2) t.heap ∧ va_D A (wsl w cs u.1 u.2)
abbrev QI (w : WE) (cs : List Nat) (sz : Nat) (P : Int32 → GS → BS → Prop) := va_Qi (fun r (u : GS × BS) => P r u.1 u.2) (atW w cs (AA w cs sz)) (AA w cs sz)
abbrev QL (w : WE) (cs : List Nat) (sz : Nat) (P : Int64 → GS → BS → Prop) := va_Ql (fun r (u : GS × BS) => P r u.1 u.2) (atW w cs (AA w cs sz)) (AA w cs sz)
abbrev QV (w : WE) (cs : List Nat) (sz : Nat) (P : GS → BS → Prop) := va_Qv (fun (u : GS × BS) => P u.1 u.2) (atW w cs (AA w cs sz)) (AA w cs sz)
abbrev rmW (n : Nat) : Room := { frames := n, cells := 0, slots := 0, locals := 40 * n }
theorem wsl_get {w : WE} {cs : List Nat} {G : GS} {B : BS} {c : Nat} (hc : c ∈ cs) : ∃ k : Nat, cs[k]? = some c ∧ (wsl w cs G B)[k]? = some (w.1 c, lay w c (G c) (B c)) := by
  obtain ⟨k, hk⟩ := List.getElem?_of_mem hc
  exact ⟨k, hk, by unfold wsl; rw [List.getElem?_map, hk]; rfl⟩
theorem wsl_set {w : WE} {cs : List Nat} {G G' : GS} {B B' : BS} {A : Nat → Prop} {c k : Nat} (hD : va_D A (wsl w cs G B)) (hk : cs[k]? = some c) (hG : ∀ c', c' ≠ c → G' c' = G c') (hB : ∀ c', c' ≠ c → B' c' = B c') : (wsl w cs G B).set k (w.1 c, lay w c (G' c) (B' c)) = wsl w cs G' B' := by
  have hl := (List.getElem?_eq_some_iff.mp hk).1
  have hat : ∀ (j c' : Nat), cs[j]? = some c' → (wsl w cs G B)[j]? = some (w.1 c', lay w c' (G c') (B c')) := fun j c' h => by unfold wsl; rw [List.getElem?_map, h]; rfl
  apply List.ext_getElem?
  intro j
  by_cases hj : j = k
  · subst hj
    rw [List.getElem?_set_self (by unfold wsl; rw [List.length_map]; exact hl)]
    unfold wsl
    rw [List.getElem?_map, hk]
    rfl
  · rw [List.getElem?_set_ne (Ne.symm hj)]
    cases hc : cs[j]? with
    | none => unfold wsl; rw [List.getElem?_map, List.getElem?_map, hc]; rfl
    | some c' =>
      have hne : c' ≠ c := fun e => by
        subst e
        exact hj (hD.1 j k _ _ (hat j c' hc) (hat k c' hk) rfl)
      unfold wsl
      rw [List.getElem?_map, List.getElem?_map, hc]
      simp only [Option.map_some]
      rw [hG c' hne, hB c' hne]
theorem KW.warm {w : WE} {s U : State} (hW : s.WarmedH U.vm) (h : KW w s) : KW w U := ⟨va_K.moved hW.alike h.1, h.2.warm hW⟩
theorem fbW (w : WE) (cs : List Nat) (sz : Nat) (G : GS) (B : BS) (av : List Value) : FrameBlind (PcW w cs sz G B av) := by
  intro a U g mk q
  obtain ⟨q0, q1, q2, q3, q4, q5⟩ := q
  exact ⟨q0, q1, q2, q3, va_K.moved (u := U) (U := U.calling g mk a) (Vm.Alike.refl U.vm) q4, NW.same (s := U) (U := U.calling g mk a) rfl q5⟩
section QW
variable {p : Program} {l : Launch} {e : Env} {R : Room} {s : State} {m : MethodId} {args : Array Value} {below : List Frame} {meth : Method} {c : Code} {H : Heap} {locs : List Loc} {cells slots : Nat} {Q : State → Prop}
variable {cc : ByteArray} {pc : Nat} {ls : Array Slot} {rest : List Value} {w : WE} {cs : List Nat} {A : Nat → Prop} {H0 : Heap} {G : GS} {B : BS}
theorem WO.free (hw : WO w cs A H0 G B H locs) : ∀ q, AA w cs H.size q → A q := by
  intro q h
  rcases h with ⟨c, h1, rfl⟩ | h
  · obtain ⟨k, -, hk⟩ := wsl_get (w := w) (G := G) (B := B) h1
    exact hw.2.1.2 k _ hk
  · exact hw.2.2.2 q (Nat.le_trans hw.2.2.1.1 h)
/-- getfield -/
theorem q_get (hx : p.tables.exec = Jvm.exec) (hb : c.code = cc) {own ref C : String} {T : u_T} {N ci index : Nat} {Ts : List Cond} (hts : ∀ w ∈ Ts, w.before args s = true) (hin : ∀ w ∈ u_ws C T N, w ∈ Ts) (hown : s.vm.findClass own = some m.cls) (hK : KW w s) (hw : WO w cs A H0 G B H locs) (a : Nat) (ha : a ∈ cs) (hB : isB a) {fs : List Value} (ho : ob w.1 a (G a) = (ci, fs)) (hc : vwCl[ci]? = some (C, T, N)) (k : Nat) (hk : k < N) (hlink : (Cond.fieldLink own index ref (T k).2.1 (T k).2.2.1).before args s = true) (hsame : (T k).1 = ref) {v : Value} (hv : fs[k]? = some v) (hdg : decode cc pc = .ok (.getfield index, 3))
    (kk : W p l e R s m args below meth c H locs cells slots Q (F0 m (pc + 3) ls (v :: rest))) : W p l e R s m args below meth c H locs cells slots Q (F0 m pc ls (.ref (w.1 a) :: rest)) := by
  obtain ⟨q0, -, h2⟩ := wsl_get (w := w) (G := G) (B := B) ha
  rw [lay_B hB, ho] at h2
  exact va_get hx hb hts hin hown hK.1 hw.1 q0 h2 hc k hk hlink (fun x h => by rw [← hsame]; exact h) hv hdg kk
theorem q_getN (hx : p.tables.exec = Jvm.exec) (hb : c.code = cc) {own ref C host : String} {T : u_T} {N ci index : Nat} {Ts : List Cond} (hts : ∀ w ∈ Ts, w.before args s = true) (hin : ∀ w ∈ u_ws C T N, w ∈ Ts) (hown : s.vm.findClass own = some m.cls) (hK : KW w s) (hw : WO w cs A H0 G B H locs) (a : Nat) (ha : a ∈ cs) (hB : isB a) {fs : List Value} (ho : ob w.1 a (G a) = (ci, fs)) (hc : vwCl[ci]? = some (C, T, N)) (k : Nat) (hk : k < N) (hlink : (Cond.fieldLinkNest own index ref (T k).2.1 (T k).2.2.1 host) ∈ nwl) (hsame : (T k).1 = ref) {v : Value} (hv : fs[k]? = some v) (hdg : decode cc pc = .ok (.getfield index, 3))
    (kk : W p l e R s m args below meth c H locs cells slots Q (F0 m (pc + 3) ls (v :: rest))) : W p l e R s m args below meth c H locs cells slots Q (F0 m pc ls (.ref (w.1 a) :: rest)) := by
  obtain ⟨q0, -, h2⟩ := wsl_get (w := w) (G := G) (B := B) ha
  rw [lay_B hB, ho] at h2
  exact va_getN hx hb hts hin hown hK.1 hw.1 q0 h2 hc k hk (va_Nw.use rfl (hK.2 _ hlink)) (fun x h => by rw [← hsame]; exact h) hv hdg kk
/-- putfield of an int -/
theorem q_put (hx : p.tables.exec = Jvm.exec) (hb : c.code = cc) {own ref C : String} {T : u_T} {N ci index : Nat} {Ts : List Cond} (hts : ∀ w ∈ Ts, w.before args s = true) (hin : ∀ w ∈ u_ws C T N, w ∈ Ts) (ty0 : Nat → FieldType) (hty : ∀ k, k < N → parseFieldDescriptor (T k).2.2.1 = some (ty0 k)) (hnm : ∀ a, a < N → ∀ b, b < N → a ≠ b → (T a).2.1 ≠ (T b).2.1) (hown : s.vm.findClass own = some m.cls) (hK : KW w s) (hw : WO w cs A H0 G B H locs) (a : Nat) (ha : a ∈ cs) (hB : isB a) {fs : List Value} (ho : ob w.1 a (G a) = (ci, fs)) (hc : vwCl[ci]? = some (C, T, N)) (k : Nat) (hk : k < N) (hlink : (Cond.fieldLink own index ref (T k).2.1 (T k).2.2.1).before args s = true) (hsame : (T k).1 = ref) (hfin : (T k).2.2.2 = false) {x : Int32} (hd : parseFieldDescriptor (T k).2.2.1 = some .int) (hl : k < fs.length) (ho2 : ob w.1 a (upd (G a) k x) = (ci, fs.set k (.int x))) (hdg : decode cc pc = .ok (.putfield index, 3))
    (kk : ∀ (H1 : Heap) (locs1 : List Loc) (G1 : GS), G1 = wr G a k x → WO w cs A H0 G1 B H1 locs1 → W p l e R s m args below meth c H1 locs1 cells slots Q (F0 m (pc + 3) ls rest)) : W p l e R s m args below meth c H locs cells slots Q (F0 m pc ls (.int x :: .ref (w.1 a) :: rest)) := by
  obtain ⟨q0, h1, h2⟩ := wsl_get (w := w) (G := G) (B := B) ha
  rw [lay_B hB, ho] at h2
  have hset : (wsl w cs G B).set q0 (w.1 a, .inr (ci, fs.set k (.int x))) = wsl w cs (wr G a k x) B := by
    rw [← wsl_set (G' := wr G a k x) (B' := B) hw.2.1 h1 (fun c' h => wr_ne h) (fun _ _ => rfl), lay_B hB, wr_at, ho2]
  refine va_put (v := .int x) (ty := .int) hx hb hts hin ty0 hty hnm hown hK.1 hw.1 hw.2.1 hw.2.2.1 q0 h2 hc k hk hlink (fun x h => by rw [← hsame]; exact h) hfin hd rfl rfl hl hdg (fun H1 locs1 hP hD hS => ?_)
  rw [hset] at hP hD
  exact kk H1 locs1 _ rfl ⟨hP, hD, hS, hw.2.2.2⟩
theorem q_iald (hx : p.tables.exec = Jvm.exec) (hb : c.code = cc) (hK : KW w s) (hw : WO w cs A H0 G B H locs) {a : Nat} (ha : a ∈ cs) (hI : isI a) {i : Int32} {n : Nat} (hn : ln a = n) (hin : vp_in i n) (hdg : decode cc pc = .ok (.iaload, 1))
    (kk : W p l e R s m args below meth c H locs cells slots Q (F0 m (pc + 1) ls (.int (G a (cl i)) :: rest))) : W p l e R s m args below meth c H locs cells slots Q (F0 m pc ls (.int i :: .ref (w.1 a) :: rest)) := by
  subst hn
  obtain ⟨q0, -, h2⟩ := wsl_get (w := w) (G := G) (B := B) ha
  rw [lay_I hI] at h2
  exact va_iald hx hb hK.1 hw.1 q0 0 h2 rfl hin hdg kk
theorem q_lald (hx : p.tables.exec = Jvm.exec) (hb : c.code = cc) (hK : KW w s) (hw : WO w cs A H0 G B H locs) {a : Nat} (ha : a ∈ cs) (hI : isJ a) {i : Int32} {n : Nat} (hn : ln a = n) (hin : vp_in i n) (hdg : decode cc pc = .ok (.laload, 1))
    (kk : W p l e R s m args below meth c H locs cells slots Q (F0 m (pc + 1) ls (.long (B a (cl i)) :: rest))) : W p l e R s m args below meth c H locs cells slots Q (F0 m pc ls (.int i :: .ref (w.1 a) :: rest)) := by
  subst hn
  obtain ⟨q0, -, h2⟩ := wsl_get (w := w) (G := G) (B := B) ha
  rw [lay_J hI] at h2
  exact va_lald hx hb hK.1 hw.1 q0 1 h2 rfl hin hdg kk
theorem q_iast (hx : p.tables.exec = Jvm.exec) (hb : c.code = cc) (hK : KW w s) (hw : WO w cs A H0 G B H locs) {a : Nat} (ha : a ∈ cs) (hI : isI a) {i x : Int32} {n : Nat} (hn : ln a = n) (hin : vp_in i n) (hdg : decode cc pc = .ok (.iastore, 1))
    (kk : ∀ (H1 : Heap) (locs1 : List Loc) (G1 : GS), G1 = wr G a (cl i) x → WO w cs A H0 G1 B H1 locs1 → W p l e R s m args below meth c H1 locs1 cells slots Q (F0 m (pc + 1) ls rest)) : W p l e R s m args below meth c H locs cells slots Q (F0 m pc ls (.int x :: .int i :: .ref (w.1 a) :: rest)) := by
  subst hn
  obtain ⟨q0, h1, h2⟩ := wsl_get (w := w) (G := G) (B := B) ha
  rw [lay_I hI] at h2
  have hset : (wsl w cs G B).set q0 (w.1 a, .inl (w.2.1.1, ln a, .inl (upd (G a) (cl i) x))) = wsl w cs (wr G a (cl i) x) B := by
    rw [← wsl_set (G' := wr G a (cl i) x) (B' := B) hw.2.1 h1 (fun c' h => wr_ne h) (fun _ _ => rfl), lay_I hI, wr_at]
  refine va_iast hx hb hK.1 hw.1 hw.2.1 hw.2.2.1 q0 0 h2 rfl hin hdg (fun H1 locs1 hP hD hS => ?_)
  rw [hset] at hP hD
  exact kk H1 locs1 _ rfl ⟨hP, hD, hS, hw.2.2.2⟩
theorem q_last (hx : p.tables.exec = Jvm.exec) (hb : c.code = cc) (hK : KW w s) (hw : WO w cs A H0 G B H locs) {a : Nat} (ha : a ∈ cs) (hI : isJ a) {i : Int32} {x : Int64} {n : Nat} (hn : ln a = n) (hin : vp_in i n) (hdg : decode cc pc = .ok (.lastore, 1))
    (kk : ∀ (H1 : Heap) (locs1 : List Loc) (B1 : BS), B1 = wrL B a (cl i) x → WO w cs A H0 G B1 H1 locs1 → W p l e R s m args below meth c H1 locs1 cells slots Q (F0 m (pc + 1) ls rest)) : W p l e R s m args below meth c H locs cells slots Q (F0 m pc ls (.long x :: .int i :: .ref (w.1 a) :: rest)) := by
  subst hn
  obtain ⟨q0, h1, h2⟩ := wsl_get (w := w) (G := G) (B := B) ha
  rw [lay_J hI] at h2
  have hset : (wsl w cs G B).set q0 (w.1 a, .inl (w.2.1.2.1, ln a, .inr (.inl (vp_updL (B a) (cl i) x)))) = wsl w cs G (wrL B a (cl i) x) := by
    rw [← wsl_set (G' := G) (B' := wrL B a (cl i) x) hw.2.1 h1 (fun _ _ => rfl) (fun c' h => wrL_ne h), lay_J hI, wrL_at]
  refine va_last hx hb hK.1 hw.1 hw.2.1 hw.2.2.1 q0 1 h2 rfl hin hdg (fun H1 locs1 hP hD hS => ?_)
  rw [hset] at hP hD
  exact kk H1 locs1 _ rfl ⟨hP, hD, hS, hw.2.2.2⟩
theorem q_aald (hx : p.tables.exec = Jvm.exec) (hb : c.code = cc) (hK : KW w s) (hw : WO w cs A H0 G B H locs) {a : Nat} (ha : a ∈ cs) (hO : isO a) {b n : Nat} (hbs : bas a = b) (hon : on a = n) {i : Int32} (hin : vp_in i n) (hdg : decode cc pc = .ok (.aaload, 1))
    (kk : W p l e R s m args below meth c H locs cells slots Q (F0 m (pc + 1) ls (.ref (w.1 (b + cl i)) :: rest))) : W p l e R s m args below meth c H locs cells slots Q (F0 m pc ls (.int i :: .ref (w.1 a) :: rest)) := by
  subst hbs
  subst hon
  obtain ⟨q0, -, h2⟩ := wsl_get (w := w) (G := G) (B := B) ha
  rw [lay_O hO] at h2
  have hlt : i.toNatClampNeg < on a := Nat.not_le.mp fun q => hin (Or.inr q)
  exact W.aald (v := .ref (w.1 (bas a + cl i))) (ty := .array .int) hx hb (hw.1 q0 _ h2) ((hK.1.2 2 _ rfl).1 (on a) (fun j => va_rf (if j < on a then some (w.1 (bas a + j)) else none))) rfl (fun q => by cases q) (by show ¬ (i < 0 ∨ (arrV _ _ _).slots.size ≤ _); rw [arrV_size]; exact hin) (by show (arrV _ _ _).slots[_]? = _; rw [arrV_read _ _ hlt]; dsimp only; rw [if_pos hlt]; rfl) rfl rfl hdg kk
theorem q_alenI (hx : p.tables.exec = Jvm.exec) (hb : c.code = cc) (hK : KW w s) (hw : WO w cs A H0 G B H locs) {a : Nat} (ha : a ∈ cs) (hI : isI a) {n : Nat} (hn : ln a = n) (hdg : decode cc pc = .ok (.arraylength, 1))
    (kk : W p l e R s m args below meth c H locs cells slots Q (F0 m (pc + 1) ls (.int (nI n) :: rest))) : W p l e R s m args below meth c H locs cells slots Q (F0 m pc ls (.ref (w.1 a) :: rest)) := by
  subst hn
  obtain ⟨q0, -, h2⟩ := wsl_get (w := w) (G := G) (B := B) ha
  rw [lay_I hI] at h2
  exact va_alen hx hb hK.1 hw.1 q0 0 h2 (ty := .int) rfl rfl hdg kk
theorem q_alenJ (hx : p.tables.exec = Jvm.exec) (hb : c.code = cc) (hK : KW w s) (hw : WO w cs A H0 G B H locs) {a : Nat} (ha : a ∈ cs) (hI : isJ a) {n : Nat} (hn : ln a = n) (hdg : decode cc pc = .ok (.arraylength, 1))
    (kk : W p l e R s m args below meth c H locs cells slots Q (F0 m (pc + 1) ls (.int (nI n) :: rest))) : W p l e R s m args below meth c H locs cells slots Q (F0 m pc ls (.ref (w.1 a) :: rest)) := by
  subst hn
  obtain ⟨q0, -, h2⟩ := wsl_get (w := w) (G := G) (B := B) ha
  rw [lay_J hI] at h2
  exact va_alen hx hb hK.1 hw.1 q0 1 h2 (ty := .long) rfl rfl hdg kk
theorem q_copyl (hx : p.tables.exec = Jvm.exec) (hb : c.code = cc) (hml : c.maxLocals = ls.size) {own : String} {index : Nat} (hown : s.vm.findClass own = some m.cls) (hlink : (Cond.methodLink own index arraycopyName).before args s = true) (hnat : (Cond.native arraycopyName).before args s = true) (hstat : (Cond.static arraycopyName).before args s = true) (hini : (Cond.initialized "java/lang/System").before args s = true) (hK : KW w s) (hw : WO w cs A H0 G B H locs) {a d : Nat} (ha : a ∈ cs) (hd : d ∈ cs) (haJ : isJ a) (hdJ : isJ d) {sp dp n : Int32} (had : a ≠ d) (h1 : ¬ sp < 0) (h2 : ¬ dp < 0) (h3 : ¬ n < 0) (h4 : sp.toNatClampNeg + n.toNatClampNeg ≤ ln a) (h5 : dp.toNatClampNeg + n.toNatClampNeg ≤ ln d) (hframes : 1 ≤ R.frames) (hlocals : (rest.map fun v => v.category).sum + (nativeFrameWords "java/lang/System" "arraycopy" 5 + 11) ≤ R.locals) (hdg : decode cc pc = .ok (.invokestatic index, 3))
    (kk : ∀ (H1 : Heap) (locs1 : List Loc) (B1 : BS), B1 = cpL B a d (cl sp) (cl dp) (cl n) → WO w cs A H0 G B1 H1 locs1 → W p l e R s m args below meth c H1 locs1 cells slots Q (F0 m (pc + 3) ls rest)) : W p l e R s m args below meth c H locs cells slots Q (F0 m pc ls (.int n :: .int dp :: .ref (w.1 d) :: .int sp :: .ref (w.1 a) :: rest)) := by
  obtain ⟨q0, -, g0⟩ := wsl_get (w := w) (G := G) (B := B) ha
  obtain ⟨q1, k1, g1⟩ := wsl_get (w := w) (G := G) (B := B) hd
  rw [lay_J haJ] at g0
  rw [lay_J hdJ] at g1
  have hset : (wsl w cs G B).set q1 (w.1 d, .inl (w.2.1.2.1, ln d, .inr (.inl (va_cpy (B a) (B d) (cl sp) (cl dp) (cl n))))) = wsl w cs G (cpL B a d (cl sp) (cl dp) (cl n)) := by
    rw [← wsl_set (G' := G) (B' := cpL B a d (cl sp) (cl dp) (cl n)) hw.2.1 k1 (fun _ _ => rfl) (fun c' h => cpL_ne h), lay_J hdJ, cpL_at]
  refine va_copyl (ty := .long) hx hb hml hown hlink hnat hstat hini hK.1 hw.1 hw.2.1 hw.2.2.1 q0 q1 1 1 g0 g1 rfl rfl rfl h1 h2 h3 h4 h5 (fun _ _ => rfl) hframes hlocals hdg (fun H1 locs1 hP hD hS => ?_)
  rw [hset] at hP hD
  exact kk H1 locs1 _ rfl ⟨hP, hD, hS, hw.2.2.2⟩
/-- the ends of a method -/
theorem q_reti {P : Int32 → GS → BS → Prop} {v : Int32} (hx : p.tables.exec = Jvm.exec) (hb : c.code = cc) (hr : meth.sig.returnType = some .int ∧ meth.locks = false) (hw : WO w cs (AA w cs s.heap.size) s.heap G B H locs) (h : P v G B) (hdg : decode cc pc = .ok (.ireturn, 1)) : W p l e R s m args below meth c H locs 0 0 (MQ below (QI w cs s.heap.size P) args s 0 0 (AA w cs s.heap.size)) (F0 m pc ls [.int v]) := by
  have hlocks := hr.2
  exact W.iret hx hb hr.1 (fun t ht hW => ⟨⟨v, (G, B), rfl, h, ⟨by rw [ht]; exact hw.1, hw.2.1⟩⟩, hw.2.2.1.F ht⟩) hw.2.2.1.2.2 hdg
def vb (v : Int32) : Prop := v = 0 ∨ v = 1
theorem q_retz {P : Int32 → GS → BS → Prop} {v : Int32} (hx : p.tables.exec = Jvm.exec) (hb : c.code = cc) (hr : meth.sig.returnType = some .boolean ∧ meth.locks = false) (hw : WO w cs (AA w cs s.heap.size) s.heap G B H locs) (hv : vb v) (h : P v G B) (hdg : decode cc pc = .ok (.ireturn, 1)) : W p l e R s m args below meth c H locs 0 0 (MQ below (QI w cs s.heap.size P) args s 0 0 (AA w cs s.heap.size)) (F0 m pc ls [.int v]) := by
  have hlocks := hr.2
  exact W.zret hx hb hr.1 (by rcases hv with rfl | rfl <;> rfl) (fun t ht hW => ⟨⟨v, (G, B), rfl, h, ⟨by rw [ht]; exact hw.1, hw.2.1⟩⟩, hw.2.2.1.F ht⟩) hw.2.2.1.2.2 hdg
theorem q_retl {P : Int64 → GS → BS → Prop} {v : Int64} (hx : p.tables.exec = Jvm.exec) (hb : c.code = cc) (hr : meth.sig.returnType = some .long ∧ meth.locks = false) (hw : WO w cs (AA w cs s.heap.size) s.heap G B H locs) (h : P v G B) (hdg : decode cc pc = .ok (.lreturn, 1)) : W p l e R s m args below meth c H locs 0 0 (MQ below (QL w cs s.heap.size P) args s 0 0 (AA w cs s.heap.size)) (F0 m pc ls [.long v]) := by
  have hlocks := hr.2
  exact W.lret hx hb hr.1 (fun t ht hW => ⟨⟨v, (G, B), rfl, h, ⟨by rw [ht]; exact hw.1, hw.2.1⟩⟩, hw.2.2.1.F ht⟩) hw.2.2.1.2.2 hdg
theorem q_retv {P : GS → BS → Prop} (hx : p.tables.exec = Jvm.exec) (hb : c.code = cc) (hr : meth.sig.returnType = none ∧ meth.locks = false) (hw : WO w cs (AA w cs s.heap.size) s.heap G B H locs) (h : P G B) (hdg : decode cc pc = .ok (.return_, 1)) : W p l e R s m args below meth c H locs 0 0 (MQ below (QV w cs s.heap.size P) args s 0 0 (AA w cs s.heap.size)) (F0 m pc ls []) := by
  have hlocks := hr.2
  exact W.vret hx hb hr.1 (fun t ht hW => ⟨⟨(G, B), rfl, h, ⟨by rw [ht]; exact hw.1, hw.2.1⟩⟩, hw.2.2.1.F ht⟩) hw.2.2.1.2.2 hdg
/-- calls: the whole world goes through -/
theorem preS (hK : KW w s) (hw : WO w cs A H0 G B H locs) (As : List Value) : PreS s H (PcW w cs H.size G B As) As :=
  ⟨fbW w cs H.size G B As, fun U hU hW => ⟨rfl, by rw [hU], by rw [hU]; exact hw.1, hw.2.1.weaken (fun _ _ _ _ => trivial), hK.warm hW⟩⟩
theorem preV (hK : KW w s) (hw : WO w cs A H0 G B H locs) (a : Nat) (ha : a ∈ cs) (hB : isB a) {ci : Nat} {fs : List Value} {q : vw_C} (ho : ob w.1 a (G a) = (ci, fs)) (hc : vwCl[ci]? = some q) (As : List Value) : PreV s H q.1 (w.1 a) (PcW w cs H.size G B (.ref (w.1 a) :: As)) As := by
  obtain ⟨q0, -, h2⟩ := wsl_get (w := w) (G := G) (B := B) ha
  rw [lay_B hB, ho] at h2
  exact ⟨fbW w cs H.size G B _, va_recv hK.1 hw.1 hc h2, fun U hU hW => ⟨rfl, by rw [hU], by rw [hU]; exact hw.1, hw.2.1.weaken (fun _ _ _ _ => trivial), hK.warm hW⟩⟩
theorem q_calli {P : Int32 → GS → BS → Prop} {st0 : List Value} {a : Array Value} (hw : WO w cs A H0 G B H locs) (hr : va_Run p l e R s m args below meth c H locs cells slots 0 0 (F0 m pc ls st0) rest (QI w cs H.size P a) (AA w cs H.size))
    (kk : ∀ (r : Int32) (G1 : GS) (B1 : BS) (H1 : Heap) (locs1 : List Loc), P r G1 B1 → WO w cs A H0 G1 B1 H1 locs1 → W p l e R s m args below meth c H1 locs1 cells slots Q (F0 m (pc + 3) ls (.int r :: rest))) : W p l e R s m args below meth c H locs cells slots Q (F0 m pc ls st0) := by
  refine va_calli hr hw.2.2.1 (fun q _ h => hw.free q h) hw.free (fun r u t H1 locs1 ht hvm hp hB hz hk hS => ?_)
  refine kk r u.1 u.2 H1 locs1 hp ⟨by rw [← ht]; exact hB.1, ?_, hS, hw.2.2.2⟩
  exact hB.2.weaken (fun k q _ h => hw.free q.1 h)
theorem q_calll {P : Int64 → GS → BS → Prop} {st0 : List Value} {a : Array Value} (hw : WO w cs A H0 G B H locs) (hr : va_Run p l e R s m args below meth c H locs cells slots 0 0 (F0 m pc ls st0) rest (QL w cs H.size P a) (AA w cs H.size))
    (kk : ∀ (r : Int64) (G1 : GS) (B1 : BS) (H1 : Heap) (locs1 : List Loc), P r G1 B1 → WO w cs A H0 G1 B1 H1 locs1 → W p l e R s m args below meth c H1 locs1 cells slots Q (F0 m (pc + 3) ls (.long r :: rest))) : W p l e R s m args below meth c H locs cells slots Q (F0 m pc ls st0) := by
  refine va_calll hr hw.2.2.1 (fun q _ h => hw.free q h) hw.free (fun r u t H1 locs1 ht hvm hp hB hz hk hS => ?_)
  refine kk r u.1 u.2 H1 locs1 hp ⟨by rw [← ht]; exact hB.1, ?_, hS, hw.2.2.2⟩
  exact hB.2.weaken (fun k q _ h => hw.free q.1 h)
theorem q_callv {P : GS → BS → Prop} {st0 : List Value} {a : Array Value} (hw : WO w cs A H0 G B H locs) (hr : va_Run p l e R s m args below meth c H locs cells slots 0 0 (F0 m pc ls st0) rest (QV w cs H.size P a) (AA w cs H.size))
    (kk : ∀ (G1 : GS) (B1 : BS) (H1 : Heap) (locs1 : List Loc), P G1 B1 → WO w cs A H0 G1 B1 H1 locs1 → W p l e R s m args below meth c H1 locs1 cells slots Q (F0 m (pc + 3) ls rest)) : W p l e R s m args below meth c H locs cells slots Q (F0 m pc ls st0) := by
  refine va_callv hr hw.2.2.1 (fun q _ h => hw.free q h) hw.free (fun u t H1 locs1 ht hvm hp hB hz hk hS => ?_)
  refine kk u.1 u.2 H1 locs1 hp ⟨by rw [← ht]; exact hB.1, ?_, hS, hw.2.2.2⟩
  exact hB.2.weaken (fun k q _ h => hw.free q.1 h)
end QW
/-- a contract out of a walk, for a method that no native row replaces -/
theorem metOfW {l : Launch} {y : MethodName} {ws ws' : List Cond} {rm : Room} {Pc : Array Value → State → Prop} {Qc : Array Value → State → Outcome → State → Prop} {mc ms : Nat} {free : Addr → Prop} {cc : ByteArray} {maxL : Nat} {ret : Option FieldType} (hy : plainFor y = true) (hw : ws = Cond.code y cc maxL ret :: ws')
    (body : ∀ p e s m args below meth c s₁, BodyLoose p l y (headSpec ws rm) cc maxL ret e s m args below meth c s₁ → c.maxLocals = maxL → Pc args s → W p l e (headSpec ws rm).room s m args below meth c s.heap [] 0 0 (MQ below Qc args s mc ms free) (entryFrame m args maxL)) : Met l y ws rm Pc Qc mc ms free := by
  refine MetFree.of_bodySF (code := cc) (maxLocals := maxL) (ret := ret) hy ?_ ?_
  · intro args s m h hn
    obtain ⟨meth, c, h1, h2, h3, h4, h5, h6, -, -⟩ := Cond.code_spec hn (atoms_spec (ws := ws) h _ (by rw [hw]; exact List.mem_cons_self))
    exact ⟨meth, c, h1, h2, h3, h4, h5, h6⟩
  · intro p e s m args below meth c s₁ K hml hP _
    have hh0 : s₁.heap = s.heap := by rw [K.state]; rfl
    obtain ⟨t, a1, o, b1, b2, b3⟩ := body p e s m args below meth c s₁ K hml hP s₁ hh0 (Stand.of_body K)
    exact ⟨t, o, a1, b1, b2, ⟨b3.1, b3.2⟩⟩
/-- a method's contract out of the walk of its body -/
theorem metW {l : Launch} {y : MethodName} {ws ws' : List Cond} {rm : Room} {cc : ByteArray} {maxL : Nat} {ret : Option FieldType} {own : String} {w : WE} {cs : List Nat} {G : GS} {B : BS} {sz : Nat} (av : List Value) {Qc : Array Value → State → Outcome → State → Prop} (hy : plainFor y = true) (hw : ws = Cond.code y cc maxL ret :: ws') (ho : y.cls = own) (hav : (lg_sl av).length ≤ maxL)
    (body : ∀ (p : Program) (e : Env) (s : State) (m : MethodId) (below : List Frame) (meth : Method) (c : Code) (ls : Array Slot), s.heap.size = sz → CallFix p m c cc maxL s av.toArray ws own → meth.sig.returnType = ret ∧ meth.locks = false → KW w s → WO w cs (AA w cs s.heap.size) s.heap G B s.heap [] → lv_has ls maxL (lv_args 0 av) →
      W p l e rm s m av.toArray below meth c s.heap [] 0 0 (MQ below Qc av.toArray s 0 0 (AA w cs sz)) (F0 m 0 ls [])) : Met l y ws rm (PcW w cs sz G B av) Qc 0 0 (AA w cs sz) := by
  refine metOfW (cc := cc) (maxL := maxL) (ret := ret) hy hw ?_
  intro p e s m args below meth c s₁ K hml hv
  obtain ⟨rfl, hsz, hP, hD, hKW⟩ := hv
  have hl := lv_entry av (n := maxL) hav
  rw [lg_entry_eq]
  generalize (lg_sl av ++ List.replicate (maxL - (lg_sl av).length) Slot.unset).toArray = ls at hl ⊢
  have hown : s.vm.findClass y.cls = some m.cls := findClass_of_methodNamed K.named
  rw [ho] at hown
  refine body p e s m below meth c ls hsz ⟨K.exec, K.bytes, hml, hown, atoms_spec (ws := ws) K.pre⟩ ⟨K.returns, K.notSynchronized⟩ hKW ⟨hP, ⟨hD.1, fun k q hk => ?_⟩, va_S.rf, fun q h => Or.inr h⟩ hl
  have hm := List.mem_of_getElem? hk
  unfold wsl at hm
  obtain ⟨c9, h1, rfl⟩ := List.mem_map.mp hm
  exact Or.inl ⟨c9, h1, rfl⟩
end
section
/-! THE CLAIM OUT OF ONE WALK OF THE LAW'S BODY. Your part is whole_start (and what it stands on); all else here is the same for every law, but numbers. -/
def R_law : String := "FewThatMatterLaw"
def lw_P (b : Addr) (xs : List Int32) (args : Array Value) (s : State) : Prop := args = #[.ref b] ∧ s.IntsAt b xs ∧ xs.length ≤ 2560 ∧ (Jvm.Cond.and given_1 narrow_1).before args s = true
def lw_Q (_ : Array Value) (s : State) (o : Outcome) (t : State) : Prop := o = .returned (some (.int 1)) ∧ Framed s o t [] 600000 7302250
def lw_Z (below : List Frame) (a : Array Value) (s : State) : State → Prop := fun t => ∃ o, t.status = .running ∧ Ended t below o ∧ lw_Q a s o t
/-- the law's own end, with 1 on the stack, nothing written that was there before, its room as the claim has it -/
theorem lw_ret {p : Program} {l : Launch} {e : Env} {s : State} {m : MethodId} {below : List Frame} {meth : Method} {c : Code} {b : Nat} (hx : p.tables.exec = Jvm.exec) (hb : c.code = code) (hr : meth.sig.returnType = ret) (hlocks : meth.locks = false) {pc : Nat} {H : Heap} {ls : Array Slot} (hdg : decode code pc = .ok (.ireturn, 1)) : W p l e room_1 s m #[Value.ref b] below meth c H [] 600000 7302250 (lw_Z below #[Value.ref b] s) (F0 m pc ls [.int 1]) := by
  intro T hT X
  obtain ⟨fs, hret, hrun, hended, hW, hframe⟩ := X.leave (v := some (.int 1)) (hlocks := hlocks) (fun h => by rw [hr] at h; cases h)
  have hmeth' : T.vm.method? m = some meth := X.method'
  refine ⟨T.setFrames fs, ?_, .returned (some (.int 1)), hrun, hended, rfl, ⟨_, rfl⟩, hW, hframe⟩
  jvm_step X.here [X.here.top, hx, hb, hdg, hmeth', hr, ret, narrow_b1]
  (try refine ⟨rfl, ?_⟩); (try refine ⟨rfl, ?_⟩)
  first | (intro acts; rw [hret _ acts rfl rfl rfl]) | rw [hret _ _ rfl rfl rfl]
  exact Steps.refl _
/-- what holds at the law's entry: the machine, the code, the tables' words (any of lw_tbl by 'hts w (by decide +kernel)'), the script of L ints xs at the cell b, what the Statement gives of the start (any of its parts by flat_of_before) -/
def lw_At (p : Program) (s : State) (m : MethodId) (meth : Method) (c : Code) (b L : Nat) (xs : Nat → Int32) : Prop :=
  p.tables.exec = Jvm.exec ∧ c.code = code ∧ meth.sig.returnType = ret ∧ c.maxLocals = 4 ∧ s.vm.findClass R_law = some m.cls ∧ (∀ w ∈ lw_tbl, w.before #[Value.ref b] s = true) ∧ va_X b L xs s s.heap ∧ b < s.heap.size ∧ meth.locks = false ∧ (Jvm.Cond.and given_1 narrow_1).before #[Value.ref b] s = true
theorem nwl_in : ∀ w ∈ nwl, w ∈ lw_tbl := List.forall_mem_cons.mpr ⟨(tm1 (i := 31) rfl), List.forall_mem_cons.mpr ⟨(tm1 (i := 35) rfl), List.forall_mem_cons.mpr ⟨(tm1 (i := 36) rfl), List.forall_mem_cons.mpr ⟨(tm1 (i := 38) rfl), List.forall_mem_cons.mpr ⟨(tm1 (i := 39) rfl), List.forall_mem_cons.mpr ⟨(tm1 (i := 40) rfl), List.forall_mem_cons.mpr ⟨(tm1 (i := 41) rfl), List.forall_mem_cons.mpr ⟨(tm1 (i := 42) rfl), List.forall_mem_cons.mpr ⟨(tm1 (i := 44) rfl), List.forall_mem_cons.mpr ⟨(tm1 (i := 45) rfl), List.forall_mem_cons.mpr ⟨(tm1 (i := 47) rfl), List.forall_mem_cons.mpr ⟨(tm1 (i := 48) rfl), List.forall_mem_cons.mpr ⟨(tm1 (i := 49) rfl), List.forall_mem_cons.mpr ⟨(tm1 (i := 75) rfl), List.forall_mem_cons.mpr ⟨(tm1 (i := 76) rfl), List.forall_mem_cons.mpr ⟨(tm1 (i := 81) rfl), List.forall_mem_cons.mpr ⟨(tm1 (i := 116) rfl), List.forall_mem_cons.mpr ⟨(tm1 (i := 157) rfl), List.forall_mem_cons.mpr ⟨(tm1 (i := 159) rfl), List.forall_mem_cons.mpr ⟨(tm1 (i := 161) rfl), List.forall_mem_cons.mpr ⟨(tm1 (i := 163) rfl), List.forall_mem_cons.mpr ⟨(tm1 (i := 165) rfl), List.forall_mem_cons.mpr ⟨(tm1 (i := 168) rfl), List.forall_mem_cons.mpr ⟨(tm1 (i := 170) rfl), List.forall_mem_cons.mpr ⟨(tm2 (i := 120) rfl), List.forall_mem_cons.mpr ⟨(tm2 (i := 152) rfl), List.forall_mem_cons.mpr ⟨(tm2 (i := 161) rfl), List.forall_mem_cons.mpr ⟨(tm2 (i := 162) rfl), List.forall_mem_cons.mpr ⟨(tm2 (i := 163) rfl), fun _ h => absurd h List.not_mem_nil⟩⟩⟩⟩⟩⟩⟩⟩⟩⟩⟩⟩⟩⟩⟩⟩⟩⟩⟩⟩⟩⟩⟩⟩⟩⟩⟩⟩⟩
theorem tsw_out18 {x : Int32} (h0 : ¬ x = 0) (h1 : ¬ x = 1) (h2 : ¬ x = 2) (h3 : ¬ x = 3) (h4 : ¬ x = 4) (h5 : ¬ x = 5) (h6 : ¬ x = 6) (h7 : ¬ x = 7) (h8 : ¬ x = 8) (h9 : ¬ x = 9) (h10 : ¬ x = 10) (h11 : ¬ x = 11) (h12 : ¬ x = 12) (h13 : ¬ x = 13) (h14 : ¬ x = 14) (h15 : ¬ x = 15) (h16 : ¬ x = 16) (h17 : ¬ x = 17) (h18 : ¬ x = 18) : x.toInt < 0 ∨ 18 < x.toInt := by
  have a0 := lv_neT h0 (a := 0) rfl
  have a1 := lv_neT h1 (a := 1) rfl
  have a2 := lv_neT h2 (a := 2) rfl
  have a3 := lv_neT h3 (a := 3) rfl
  have a4 := lv_neT h4 (a := 4) rfl
  have a5 := lv_neT h5 (a := 5) rfl
  have a6 := lv_neT h6 (a := 6) rfl
  have a7 := lv_neT h7 (a := 7) rfl
  have a8 := lv_neT h8 (a := 8) rfl
  have a9 := lv_neT h9 (a := 9) rfl
  have a10 := lv_neT h10 (a := 10) rfl
  have a11 := lv_neT h11 (a := 11) rfl
  have a12 := lv_neT h12 (a := 12) rfl
  have a13 := lv_neT h13 (a := 13) rfl
  have a14 := lv_neT h14 (a := 14) rfl
  have a15 := lv_neT h15 (a := 15) rfl
  have a16 := lv_neT h16 (a := 16) rfl
  have a17 := lv_neT h17 (a := 17) rfl
  have a18 := lv_neT h18 (a := 18) rfl
  omega
end
section
/-! CONSTRUCTORS: worlds that grow, by explicit lists of cells -/
def va_AOA (ty : FieldType) (U : State) : Prop := (Cond.arrayOver (.array ty)).before #[] U = true
theorem va_AOA.use {ty : FieldType} {A : Array Value} {U : State} (h : va_AOA ty U) : (Cond.arrayOver (.array ty)).before A U = true := h
theorem va_AOA.moved {ty : FieldType} {u U : State} (hvm : u.vm.Alike U.vm) (h : va_AOA ty u) : va_AOA ty U := by
  have h2 : (Cond.arrayOver (.array ty)).before #[] (u.setVm U.vm) = true := by rw [Cond.arrayOver_setVmC hvm]; exact h
  unfold va_AOA
  simp only [Cond.before, Cond.holds, Cond.value, State.vm_setVm] at h2 ⊢
  exact h2
theorem vr_outer (c : ClassId) (N h0 : Nat) : ∀ i : Nat, Jvm.Free.Multi.outerC c N h0 i = arrV c N (fun j => va_rf (if j < i then some (h0 + 1 + j) else none))
  | 0 => by
    show ({ cls := c, slots := Array.replicate N .null, vm := .none } : Cell) = _
    rw [arrV_new]
    refine congrArg (arrV c N) (funext fun j => ?_)
    simp [va_rf]
  | i + 1 => by
    show (Jvm.Free.Multi.outerC c N h0 i).setSlot i (.ref (h0 + 1 + i)) = _
    rw [vr_outer c N h0 i, arrV_store]
    refine congrArg (arrV c N) (funext fun j => ?_)
    by_cases e : j = i
    · subst e
      simp [updV, va_rf]
    · by_cases h : j < i
      · simp [updV, e, h, Nat.lt_succ_of_lt h]
      · simp [updV, e, h, show ¬ j < i + 1 by omega]
def CW (w : WE) (ws : va_W) (A : Nat → Prop) (H0 H : Heap) (locs : List Loc) : Prop := va_P w.2.2 vwCl ws H ∧ va_D A ws ∧ va_S A H0 H locs ∧ ∀ q, H0.size ≤ q → A q
abbrev outF (q N : Nat) : Nat → Option Nat := fun i => if i < N then some (q + 1 + i) else none
abbrev outC (w : WE) (q N : Nat) : Nat × va_E := (q, .inl (w.2.1.2.2, N, .inr (.inr (.inr (.inr (outF q N))))))
abbrev iaC (w : WE) (q n : Nat) (f : Nat → Int32) : Nat × va_E := (q, .inl (w.2.1.1, n, .inl f))
abbrev laC (w : WE) (q n : Nat) (f : Nat → Int64) : Nat × va_E := (q, .inl (w.2.1.2.1, n, .inr (.inl f)))
def KWo (w : WE) (U : State) : Prop := KW w U ∧ va_AOA .int U
section NW1
variable {p : Program} {l : Launch} {e : Env} {R : Room} {s : State} {m : MethodId} {args : Array Value} {below : List Frame} {meth : Method} {c : Code} {H : Heap} {locs : List Loc} {cells slots : Nat} {Q : State → Prop}
variable {cc : ByteArray} {pc : Nat} {ls : Array Slot} {rest : List Value} {w : WE} {ws : va_W} {A : Nat → Prop} {H0 : Heap}
theorem n_new (hx : p.tables.exec = Jvm.exec) (hb : c.code = cc) {own C : String} {T : u_T} {N ci index : Nat} {Ts : List Cond} (hts : ∀ w ∈ Ts, w.before args s = true) (hin : ∀ w ∈ u_ws C T N, w ∈ Ts) (ty : Nat → FieldType) (hty : ∀ k, k < N → parseFieldDescriptor (T k).2.2.1 = some (ty k)) (hown : s.vm.findClass own = some m.cls) (hcl : (Cond.classLink own index C).before args s = true) (hinst : (Cond.instantiable C N).before args s = true) (hini : (Cond.initialized C).before args s = true) (hK : KWo w s) (hw : CW w ws A H0 H locs) (hc : vwCl[ci]? = some (C, T, N)) {fs : List Value} (hfs : ∀ j, j < N → defaultValue (ty j) = vp_V fs j) (hcells : cells + 1 ≤ R.cells) (hslots : slots + N ≤ R.slots) (hdg : decode cc pc = .ok (.new index, 3))
    (kk : ∀ (q : Nat) (H1 : Heap), CW w (ws ++ [(q, .inr (ci, fs))]) A H0 H1 locs → W p l e R s m args below meth c H1 locs (cells + 1) (slots + N) Q (F0 m (pc + 3) ls (.ref q :: rest))) : W p l e R s m args below meth c H locs cells slots Q (F0 m pc ls rest) :=
  va_new hx hb hts hin ty hty hown hcl hinst hini hK.1.1 hw.1 hw.2.1 hw.2.2.1 hw.2.2.2 hc hfs hcells hslots hdg (fun q H1 hP hD hS => kk q H1 ⟨hP, hD, hS, hw.2.2.2⟩)
theorem n_newI (hx : p.tables.exec = Jvm.exec) (hb : c.code = cc) (harr : (Cond.arrayClass .int).before args s = true) (hK : KWo w s) (hw : CW w ws A H0 H locs) {n : Int32} (N' : Nat) (hn : ¬ n < 0) (hN : n.toNatClampNeg = N') (hbytes : N' * componentBytes .int ≤ 536870912) (hcells : cells + 1 ≤ R.cells) (hslots : slots + N' ≤ R.slots) (hdg : decode cc pc = .ok (.newarray .int, 2))
    (kk : ∀ (q : Nat) (H1 : Heap), CW w (ws ++ [iaC w q N' (fun _ => 0)]) A H0 H1 locs → W p l e R s m args below meth c H1 locs (cells + 1) (slots + N') Q (F0 m (pc + 2) ls (.ref q :: rest))) : W p l e R s m args below meth c H locs cells slots Q (F0 m pc ls (.int n :: rest)) := by
  refine va_newa (atype := .int) (ty := .int) (a0 := (N', .inl (fun _ => 0))) hx hb harr rfl hK.1.1 hw.1 hw.2.1 hw.2.2.1 hw.2.2.2 (fun cA => by rw [vp_cell_i]; rfl) hn hN hbytes hcells hslots hdg (fun q cA H1 hK2 hP hD hS => ?_)
  have e1 : s.vm.findClass ("[" ++ (FieldType.int).toString) = some w.2.1.1 := (hK.1.1.2 0 _ rfl).2
  have e2 : s.vm.findClass ("[" ++ (FieldType.int).toString) = some cA := (hK2.2 3 _ rfl).2
  have e3 : w.2.1.1 = cA := Option.some.inj (e1.symm.trans e2)
  subst e3
  exact kk q H1 ⟨hP, hD, hS, hw.2.2.2⟩
theorem n_newJ (hx : p.tables.exec = Jvm.exec) (hb : c.code = cc) (harr : (Cond.arrayClass .long).before args s = true) (hK : KWo w s) (hw : CW w ws A H0 H locs) {n : Int32} (N' : Nat) (hn : ¬ n < 0) (hN : n.toNatClampNeg = N') (hbytes : N' * componentBytes .long ≤ 536870912) (hcells : cells + 1 ≤ R.cells) (hslots : slots + N' ≤ R.slots) (hdg : decode cc pc = .ok (.newarray .long, 2))
    (kk : ∀ (q : Nat) (H1 : Heap), CW w (ws ++ [laC w q N' (fun _ => 0)]) A H0 H1 locs → W p l e R s m args below meth c H1 locs (cells + 1) (slots + N') Q (F0 m (pc + 2) ls (.ref q :: rest))) : W p l e R s m args below meth c H locs cells slots Q (F0 m pc ls (.int n :: rest)) := by
  refine va_newa (atype := .long) (ty := .long) (a0 := (N', .inr (.inl (fun _ => 0)))) hx hb harr rfl hK.1.1 hw.1 hw.2.1 hw.2.2.1 hw.2.2.2 (fun cA => by rw [vp_cell_l]; rfl) hn hN hbytes hcells hslots hdg (fun q cA H1 hK2 hP hD hS => ?_)
  have e1 : s.vm.findClass ("[" ++ (FieldType.long).toString) = some w.2.1.2.1 := (hK.1.1.2 1 _ rfl).2
  have e2 : s.vm.findClass ("[" ++ (FieldType.long).toString) = some cA := (hK2.2 3 _ rfl).2
  have e3 : w.2.1.2.1 = cA := Option.some.inj (e1.symm.trans e2)
  subst e3
  exact kk q H1 ⟨hP, hD, hS, hw.2.2.2⟩
theorem n_mna (hx : p.tables.exec = Jvm.exec) (hb : c.code = cc) {own : String} {index : Nat} (hown : s.vm.findClass own = some m.cls) (hclink : (Cond.classLink own index "[[I").before args s = true) (harr : (Cond.arrayClass .int).before args s = true) (hK : KWo w s) (hw : CW w ws A H0 H locs) {n k : Int32} (N' K' : Nat) (hn : ¬ n < 0) (hk : ¬ k < 0) (hN : n.toNatClampNeg = N') (hM : k.toNatClampNeg = K') (hb1 : N' * 4 ≤ 536870912) (hb2 : K' * componentBytes .int ≤ 536870912) (hb3 : K' ≤ 536870912) (hcells : cells + (1 + N') ≤ R.cells) (hslots : slots + (N' + N' * K') ≤ R.slots) (hdg : decode cc pc = .ok (.multianewarray index 2, 4))
    (kk : ∀ (q : Nat) (H1 : Heap), CW w (ws ++ (outC w q N' :: (List.range N').map (fun i => iaC w (q + 1 + i) K' (fun _ => 0)))) A H0 H1 locs → W p l e R s m args below meth c H1 locs (cells + 1 + N') (slots + N' + N' * K') Q (F0 m (pc + 4) ls (.ref q :: rest))) : W p l e R s m args below meth c H locs cells slots Q (F0 m pc ls (.int k :: .int n :: rest)) := by
  subst hN
  subst hM
  intro T hT Xs
  obtain ⟨vm₁, cA, comp, -, fA, fC, hO, -, X', step⟩ := Xs.multianewarray2F (ty := .int) hx hown hclink (va_AOA.use hK.2) harr (g := F0 m pc ls (.int k :: .int n :: rest)) rfl (by rw [hb]; exact hdg) rfl hn hk hb1 hb2 hb3 rfl rfl hcells hslots
  have ec : w.2.1.1 = comp := Option.some.inj (((hK.1.1.2 0 _ rfl).2 : s.vm.findClass ("[" ++ (FieldType.int).toString) = some w.2.1.1).symm.trans fC)
  have eA : w.2.1.2.2 = cA := Option.some.inj (((hK.1.1.2 2 _ rfl).2 : s.vm.findClass ("[" ++ (FieldType.array .int).toString) = some w.2.1.2.2).symm.trans fA)
  subst ec
  subst eA
  generalize hF : Jvm.Free.Multi.fill (T.setVm vm₁) w.2.1.2.2 w.2.1.1 n.toNatClampNeg k.toNatClampNeg (defaultValue .int) n.toNatClampNeg = F at X' step
  have hTh : (T.setVm vm₁).heap = H := hT
  obtain ⟨f1, f2, -, -⟩ := Jvm.Free.Multi.fill_facts (T.setVm vm₁) w.2.1.2.2 w.2.1.1 n.toNatClampNeg k.toNatClampNeg (defaultValue .int) n.toNatClampNeg
  rw [hF, hTh] at f1 f2
  have hold : ∀ x : Nat, x < H.size → F.heap[x]? = H[x]? := fun x hx => by
    have := Jvm.Free.Multi.fill_old (T.setVm vm₁) w.2.1.2.2 w.2.1.1 n.toNatClampNeg k.toNatClampNeg (defaultValue .int) (a := x) (by rw [hTh]; exact hx) n.toNatClampNeg
    rw [hF, hTh] at this
    exact this
  have hz : ∀ c : ClassId, Jvm.Free.Multi.innerC c k.toNatClampNeg (defaultValue .int) = vp_cell c (k.toNatClampNeg, .inl (fun _ => 0)) := fun c => by
    rw [vp_cell_i]
    show ({ cls := c, slots := Array.replicate k.toNatClampNeg (defaultValue .int), vm := .none } : Cell) = _
    rw [arrV_new]
    rfl
  have hrow : ∀ j : Nat, j < n.toNatClampNeg → F.heap[H.size + 1 + j]? = some (vp_cell w.2.1.1 (k.toNatClampNeg, .inl (fun _ => 0))) := fun j hj => by
    have := Jvm.Free.Multi.fill_inner (T.setVm vm₁) w.2.1.2.2 w.2.1.1 n.toNatClampNeg k.toNatClampNeg (defaultValue .int) n.toNatClampNeg j hj
    rw [hF, hTh, hz] at this
    exact this
  have hout : Jvm.Free.Multi.outerC w.2.1.2.2 n.toNatClampNeg H.size n.toNatClampNeg = vp_cell w.2.1.2.2 (n.toNatClampNeg, .inr (.inr (.inr (.inr (outF H.size n.toNatClampNeg))))) := by
    rw [vp_cell_q]
    exact vr_outer w.2.1.2.2 n.toNatClampNeg H.size n.toNatClampNeg
  rw [hout] at f2
  have hP0 : va_P w.2.2 vwCl ws F.heap := hw.1.kept (fun k9 x hx => hold x.1 ((hw.1 k9 x hx).lt))
  have hnew : ∀ (k9 : Nat) (x : Nat × va_E), (outC w H.size n.toNatClampNeg :: (List.range n.toNatClampNeg).map (fun i => iaC w (H.size + 1 + i) k.toNatClampNeg (fun _ => 0)))[k9]? = some x → va_at w.2.2 vwCl x F.heap ∧ x.1 = H.size + k9 := fun k9 x hx => by
    cases k9 with
    | zero => cases hx; exact ⟨f2, rfl⟩
    | succ k9 =>
      rw [List.getElem?_cons_succ, List.getElem?_map] at hx
      by_cases h9 : k9 < n.toNatClampNeg
      · rw [List.getElem?_range h9] at hx
        cases hx
        exact ⟨hrow k9 h9, by show H.size + 1 + k9 = _; omega⟩
      · have hn0 : (List.range n.toNatClampNeg)[k9]? = none := List.getElem?_eq_none (by rw [List.length_range]; omega)
        rw [hn0] at hx
        cases hx
  have hP1 : va_P w.2.2 vwCl (ws ++ (outC w H.size n.toNatClampNeg :: (List.range n.toNatClampNeg).map (fun i => iaC w (H.size + 1 + i) k.toNatClampNeg (fun _ => 0)))) F.heap := hP0.app (fun k9 x hx => (hnew k9 x hx).1)
  have hD1 : va_D A (ws ++ (outC w H.size n.toNatClampNeg :: (List.range n.toNatClampNeg).map (fun i => iaC w (H.size + 1 + i) k.toNatClampNeg (fun _ => 0)))) := by
    refine va_D.app hw.2.1 ⟨fun i j x y hi hj hxy => ?_, fun k9 x hx => ?_⟩ (fun i j x y hi hj => ?_)
    · have := (hnew i x hi).2
      have := (hnew j y hj).2
      omega
    · have := (hnew k9 x hx).2
      exact hw.2.2.2 _ (by have := hw.2.2.1.1; omega)
    · have := (hnew j y hj).2
      have := (hw.1 i x hi).lt
      omega
  obtain ⟨t, a1, b1⟩ := kk H.size F.heap ⟨hP1, hD1, ⟨by rw [f1]; have := hw.2.2.1.1; omega, fun x h1 h2 => (hold x (Nat.lt_of_lt_of_le h1 hw.2.2.1.1)).trans (hw.2.2.1.2.1 x h1 h2), hw.2.2.1.2.2⟩, hw.2.2.2⟩ F rfl X'
  refine ⟨t, step t ?_, b1⟩
  have e : T.heap.size = H.size := by rw [hT]
  rw [e]
  exact a1
/-- a final field in a constructor -/
theorem n_putF (hx : p.tables.exec = Jvm.exec) (hb : c.code = cc) {own C : String} {T : u_T} {N ci index : Nat} {Ts : List Cond} (hts : ∀ w ∈ Ts, w.before args s = true) (hin : ∀ w ∈ u_ws C T N, w ∈ Ts) (ty0 : Nat → FieldType) (hty : ∀ k, k < N → parseFieldDescriptor (T k).2.2.1 = some (ty0 k)) (hnm : ∀ a, a < N → ∀ b, b < N → a ≠ b → (T a).2.1 ≠ (T b).2.1) (hown : s.vm.findClass own = some m.cls) (hK : KWo w s) (hw : CW w ws A H0 H locs) {a : Nat} (q0 : Nat) {fs : List Value} (he : ws[q0]? = some (a, .inr (ci, fs))) (hc : vwCl[ci]? = some (C, T, N)) (k : Nat) (hk : k < N) (hlink : (Cond.fieldLink own index own (T k).2.1 (T k).2.2.1).before args s = true) (hsame : (T k).1 = own) (hfin : (T k).2.2.2 = true) (hin2 : meth.name = "<init>") {ty : FieldType} {v : Value} (hd : parseFieldDescriptor (T k).2.2.1 = some ty) (hn : narrow ty v = v) (hfit : fits ty v = true) (hl : k < fs.length) (hdg : decode cc pc = .ok (.putfield index, 3))
    (kk : ∀ (H1 : Heap) (locs1 : List Loc), CW w (ws.set q0 (a, .inr (ci, fs.set k v))) A H0 H1 locs1 → W p l e R s m args below meth c H1 locs1 cells slots Q (F0 m (pc + 3) ls rest)) : W p l e R s m args below meth c H locs cells slots Q (F0 m pc ls (v :: .ref a :: rest)) :=
  va_putF hx hb hts hin ty0 hty hnm hown hK.1.1 hw.1 hw.2.1 hw.2.2.1 q0 he hc k hk hlink (fun x h => by rw [← hsame]; exact h) hfin hin2 hsame hd hn hfit hl hdg (fun H1 locs1 hP hD hS => kk H1 locs1 ⟨hP, hD, hS, hw.2.2.2⟩)
theorem n_put (hx : p.tables.exec = Jvm.exec) (hb : c.code = cc) {own C : String} {T : u_T} {N ci index : Nat} {Ts : List Cond} (hts : ∀ w ∈ Ts, w.before args s = true) (hin : ∀ w ∈ u_ws C T N, w ∈ Ts) (ty0 : Nat → FieldType) (hty : ∀ k, k < N → parseFieldDescriptor (T k).2.2.1 = some (ty0 k)) (hnm : ∀ a, a < N → ∀ b, b < N → a ≠ b → (T a).2.1 ≠ (T b).2.1) (hown : s.vm.findClass own = some m.cls) (hK : KWo w s) (hw : CW w ws A H0 H locs) {a : Nat} (q0 : Nat) {fs : List Value} (he : ws[q0]? = some (a, .inr (ci, fs))) (hc : vwCl[ci]? = some (C, T, N)) (k : Nat) (hk : k < N) (hlink : (Cond.fieldLink own index own (T k).2.1 (T k).2.2.1).before args s = true) (hsame : (T k).1 = own) (hfin : (T k).2.2.2 = false) {ty : FieldType} {v : Value} (hd : parseFieldDescriptor (T k).2.2.1 = some ty) (hn : narrow ty v = v) (hfit : fits ty v = true) (hl : k < fs.length) (hdg : decode cc pc = .ok (.putfield index, 3))
    (kk : ∀ (H1 : Heap) (locs1 : List Loc), CW w (ws.set q0 (a, .inr (ci, fs.set k v))) A H0 H1 locs1 → W p l e R s m args below meth c H1 locs1 cells slots Q (F0 m (pc + 3) ls rest)) : W p l e R s m args below meth c H locs cells slots Q (F0 m pc ls (v :: .ref a :: rest)) :=
  va_put hx hb hts hin ty0 hty hnm hown hK.1.1 hw.1 hw.2.1 hw.2.2.1 q0 he hc k hk hlink (fun x h => by rw [← hsame]; exact h) hfin hd hn hfit hl hdg (fun H1 locs1 hP hD hS => kk H1 locs1 ⟨hP, hD, hS, hw.2.2.2⟩)
theorem n_get (hx : p.tables.exec = Jvm.exec) (hb : c.code = cc) {own C : String} {T : u_T} {N ci index : Nat} {Ts : List Cond} (hts : ∀ w ∈ Ts, w.before args s = true) (hin : ∀ w ∈ u_ws C T N, w ∈ Ts) (hown : s.vm.findClass own = some m.cls) (hK : KWo w s) (hw : CW w ws A H0 H locs) {a : Nat} (q0 : Nat) {fs : List Value} (he : ws[q0]? = some (a, .inr (ci, fs))) (hc : vwCl[ci]? = some (C, T, N)) (k : Nat) (hk : k < N) (hlink : (Cond.fieldLink own index own (T k).2.1 (T k).2.2.1).before args s = true) (hsame : (T k).1 = own) {v : Value} (hv : fs[k]? = some v) (hdg : decode cc pc = .ok (.getfield index, 3))
    (kk : W p l e R s m args below meth c H locs cells slots Q (F0 m (pc + 3) ls (v :: rest))) : W p l e R s m args below meth c H locs cells slots Q (F0 m pc ls (.ref a :: rest)) :=
  va_get hx hb hts hin hown hK.1.1 hw.1 q0 he hc k hk hlink (fun x h => by rw [← hsame]; exact h) hv hdg kk
end NW1
/-- the frame: what stood before the new cells stays -/
theorem n_frame {D : va_G} {cl : List vw_C} {A : Nat → Prop} {ws wc w1 : va_W} {H H1 : Heap} (hP : va_P D cl (ws ++ wc) H) (hD : va_D A (ws ++ wc)) (hk : ∀ q : Nat, q < H.size → ¬ va_A wc H.size q → H1[q]? = H[q]?) (hF : ∀ q, va_A wc H.size q → A q) (hP1 : va_P D cl w1 H1) (hD1 : va_D (va_A wc H.size) w1) : va_P D cl (ws ++ w1) H1 ∧ va_D A (ws ++ w1) := by
  have at1 : ∀ (k : Nat) (q : Nat × va_E), ws[k]? = some q → (ws ++ wc)[k]? = some q ∧ k < ws.length := fun k q h => by
    have hl := (List.getElem?_eq_some_iff.mp h).1
    exact ⟨by rw [List.getElem?_append_left hl]; exact h, hl⟩
  have apart : ∀ (k : Nat) (q : Nat × va_E), ws[k]? = some q → ¬ va_A wc H.size q.1 := fun k q h => by
    obtain ⟨h1, h2⟩ := at1 k q h
    rintro (⟨j, e, hj⟩ | hj)
    · have h3 : (ws ++ wc)[ws.length + j]? = some (q.1, e) := by rw [List.getElem?_append_right (by omega), Nat.add_sub_cancel_left]; exact hj
      have := hD.1 _ _ _ _ h1 h3 rfl
      omega
    · have := (hP _ _ h1).lt
      omega
  refine ⟨va_P.app (fun k q h => ?_) hP1, va_D.app ⟨fun i j x y hi hj hxy => hD.1 i j x y (at1 i x hi).1 (at1 j y hj).1 hxy, fun k q h => hD.2 k q (at1 k q h).1⟩ (hD1.weaken (fun k q _ h => hF q.1 h)) (fun i j x y hi hj hxy => ?_)⟩
  · exact (hP _ _ (at1 k q h).1).kept (hk q.1 (hP _ _ (at1 k q h).1).lt (apart k q h))
  · exact apart i x hi (by rw [hxy]; exact hD1.2 j y hj)
abbrev rmC (n mc ms : Nat) : Room := { frames := n, cells := mc, slots := ms, locals := 40 * n }
/-- a constructor's start -/
def PcC (w : WE) (sz : Nat) (ob : Nat × va_E) (av : List Value) : Array Value → State → Prop :=
  va_Pc av (fun U => U.heap.size = sz ∧ va_P w.2.2 vwCl [ob] U.heap ∧ va_D (fun _ => True) [ob] ∧ KWo w U)
theorem fbC (w : WE) (sz : Nat) (ob : Nat × va_E) (av : List Value) : FrameBlind (PcC w sz ob av) := by
  intro a U g mk q
  obtain ⟨q0, q1, q2, q3, ⟨q4, q5⟩, q6⟩ := q
  exact ⟨q0, q1, q2, q3, ⟨va_K.moved (u := U) (U := U.calling g mk a) (Vm.Alike.refl U.vm) q4, NW.same (s := U) (U := U.calling g mk a) rfl q5⟩, va_AOA.moved (u := U) (U := U.calling g mk a) (Vm.Alike.refl U.vm) q6⟩
theorem KWo.warm {w : WE} {s U : State} (hW : s.WarmedH U.vm) (h : KWo w s) : KWo w U := ⟨h.1.warm hW, va_AOA.moved hW.alike h.2⟩
/-- a constructor's end: its world by a list that its value u names -/
def QC {S : Type} (w : WE) (sz : Nat) (ob : Nat × va_E) (post : S → Prop) (lst : S → va_W) : Array Value → State → Outcome → State → Prop :=
  va_Qv post (fun u t => va_P w.2.2 vwCl (lst u) t.heap ∧ va_D (va_A [ob] sz) (lst u)) (va_A [ob] sz)
theorem metC {l : Launch} {y : MethodName} {ws ws' : List Cond} {rm : Room} {cc : ByteArray} {maxL mc ms : Nat} {ret : Option FieldType} {own : String} {w : WE} {ob : Nat × va_E} {sz : Nat} (av : List Value) {Qc : Array Value → State → Outcome → State → Prop} (hy : plainFor y = true) (hw : ws = Cond.code y cc maxL ret :: ws') (ho : y.cls = own) (hi : y.name = "<init>") (hav : (lg_sl av).length ≤ maxL)
    (body : ∀ (p : Program) (e : Env) (s : State) (m : MethodId) (below : List Frame) (meth : Method) (c : Code) (ls : Array Slot), s.heap.size = sz → CallFix p m c cc maxL s av.toArray ws own → meth.sig.returnType = ret ∧ meth.locks = false → meth.name = "<init>" → KWo w s → CW w [ob] (va_A [ob] s.heap.size) s.heap s.heap [] → lv_has ls maxL (lv_args 0 av) →
      W p l e rm s m av.toArray below meth c s.heap [] 0 0 (MQ below Qc av.toArray s mc ms (va_A [ob] sz)) (F0 m 0 ls [])) : Met l y ws rm (PcC w sz ob av) Qc mc ms (va_A [ob] sz) := by
  refine metOfW (cc := cc) (maxL := maxL) (ret := ret) hy hw ?_
  intro p e s m args below meth c s₁ K hml hv
  obtain ⟨rfl, hsz, hP, hD, hKW⟩ := hv
  have hl := lv_entry av (n := maxL) hav
  rw [lg_entry_eq]
  generalize (lg_sl av ++ List.replicate (maxL - (lg_sl av).length) Slot.unset).toArray = ls at hl ⊢
  have hown : s.vm.findClass y.cls = some m.cls := findClass_of_methodNamed K.named
  rw [ho] at hown
  have hn : meth.name = "<init>" := by rw [← hi]; exact (name_of_methodNamed K.named K.method).1
  exact body p e s m below meth c ls hsz ⟨K.exec, K.bytes, hml, hown, atoms_spec (ws := ws) K.pre⟩ ⟨K.returns, K.notSynchronized⟩ hn hKW ⟨hP, hD.self, va_S.rf, fun q h => Or.inr h⟩ hl
section NW2
variable {p : Program} {l : Launch} {e : Env} {R : Room} {s : State} {m : MethodId} {args : Array Value} {below : List Frame} {meth : Method} {c : Code} {H : Heap} {locs : List Loc} {cells slots : Nat} {Q : State → Prop}
variable {cc : ByteArray} {pc : Nat} {ls : Array Slot} {rest : List Value} {w : WE} {ws : va_W} {A : Nat → Prop} {H0 : Heap} {mc ms : Nat}
theorem n_ret {S : Type} {ob : Nat × va_E} {post : S → Prop} {lst : S → va_W} (u : S) (hx : p.tables.exec = Jvm.exec) (hb : c.code = cc) (hr : meth.sig.returnType = none ∧ meth.locks = false) (hw : CW w ws (va_A [ob] s.heap.size) s.heap H locs) (he : lst u = ws) (h : post u) (hdg : decode cc pc = .ok (.return_, 1)) : W p l e R s m args below meth c H locs mc ms (MQ below (QC w s.heap.size ob post lst) args s mc ms (va_A [ob] s.heap.size)) (F0 m pc ls []) := by
  have hlocks := hr.2
  subst he
  exact W.vret hx hb hr.1 (fun t ht hW => ⟨⟨u, rfl, h, ⟨by rw [ht]; exact hw.1, hw.2.1⟩⟩, hw.2.2.1.F ht⟩) hw.2.2.1.2.2 hdg
/-- new X(..) behind 'new': the constructor's call, framed -/
theorem n_callI {S : Type} {post : S → Prop} {lst : S → va_W} {st0 : List Value} {a : Array Value} {ob : Nat × va_E} (hw : CW w (ws ++ [ob]) A H0 H locs) (hr : va_Run p l e R s m args below meth c H locs cells slots mc ms (F0 m pc ls st0) rest (QC w H.size ob post lst a) (va_A [ob] H.size))
    (kk : ∀ (u : S) (H1 : Heap) (locs1 : List Loc), post u → CW w (ws ++ lst u) A H0 H1 locs1 → W p l e R s m args below meth c H1 locs1 (cells + mc) (slots + ms) Q (F0 m (pc + 3) ls rest)) : W p l e R s m args below meth c H locs cells slots Q (F0 m pc ls st0) := by
  have hF : ∀ q, va_A [ob] H.size q → A q := by
    rintro q (⟨k, e9, h⟩ | h)
    · have h0 : k < 1 := (List.getElem?_eq_some_iff.mp h).1
      rw [show k = 0 by omega] at h
      exact hw.2.1.2 ws.length (q, e9) (by rw [List.getElem?_append_right (Nat.le_refl _), Nat.sub_self]; exact h)
    · exact hw.2.2.2 q (Nat.le_trans hw.2.2.1.1 h)
  refine va_callv hr hw.2.2.1 (fun q _ h => hF q h) hF (fun u t H1 locs1 ht hvm hp hB hz hk hS => ?_)
  obtain ⟨hP1, hD1⟩ := hB
  rw [ht] at hP1
  obtain ⟨g1, g2⟩ := n_frame hw.1 hw.2.1 hk hF hP1 hD1
  exact kk u H1 locs1 hp ⟨g1, g2, hS, hw.2.2.2⟩
theorem n_preI {ob : Nat × va_E} (hK : KWo w s) (hw : CW w (ws ++ [ob]) A H0 H locs) (As : List Value) : PreS s H (PcC w H.size ob As) As :=
  ⟨fbC w H.size ob As, fun U hU hW => ⟨rfl, by rw [hU], by rw [hU]; exact fun k q h => hw.1 (ws.length + k) q (by rw [List.getElem?_append_right (by omega), Nat.add_sub_cancel_left]; exact h), ⟨fun i j x y hi hj _ => by
    have h1 : i < 1 := (List.getElem?_eq_some_iff.mp hi).1
    have h2 : j < 1 := (List.getElem?_eq_some_iff.mp hj).1
    omega, fun _ _ _ => trivial⟩, hK.warm hW⟩⟩
end NW2
end
