section
-- ===== PART A: goes FIRST, ahead of the names: the tables' words, and 'selects' of the private methods out of them =====
/-- a private method of a class that the tables say can be made, by its rows of tables_1 -/
def lw_okq (q : MethodName × Nat) : Prop := (q.1.cls ≠ "java/lang/invoke/MethodHandle" ∧ q.1.cls ≠ "java/lang/invoke/VarHandle") ∧ Cond.instantiable q.1.cls q.2 ∈ tables_1 ∧ Cond.privateMethod q.1 ∈ tables_1 ∧ Cond.instanceMethod q.1 ∈ tables_1
theorem lw_p0 : lw_okq (⟨"SingleCopy$CityText", "append", "(I)Z"⟩, 7) := ⟨⟨by decide +kernel, by decide +kernel⟩, List.mem_of_getElem? (i := 21) (by decide +kernel), List.mem_of_getElem? (i := 275) (by decide +kernel), List.mem_of_getElem? (i := 276) (by decide +kernel)⟩
theorem lw_p1 : lw_okq (⟨"SingleCopy$CityText", "readInto", "(LSingleCopy$City;)I"⟩, 7) := ⟨⟨by decide +kernel, by decide +kernel⟩, List.mem_of_getElem? (i := 21) (by decide +kernel), List.mem_of_getElem? (i := 287) (by decide +kernel), List.mem_of_getElem? (i := 288) (by decide +kernel)⟩
theorem lw_p2 : lw_okq (⟨"SingleCopy$City", "clear", "()V"⟩, 10) := ⟨⟨by decide +kernel, by decide +kernel⟩, List.mem_of_getElem? (i := 52) (by decide +kernel), List.mem_of_getElem? (i := 291) (by decide +kernel), List.mem_of_getElem? (i := 292) (by decide +kernel)⟩
theorem lw_p3 : lw_okq (⟨"SingleCopy$CityText", "skipBlanks", "()V"⟩, 7) := ⟨⟨by decide +kernel, by decide +kernel⟩, List.mem_of_getElem? (i := 21) (by decide +kernel), List.mem_of_getElem? (i := 295) (by decide +kernel), List.mem_of_getElem? (i := 296) (by decide +kernel)⟩
theorem lw_p4 : lw_okq (⟨"SingleCopy$CityText", "next", "()I"⟩, 7) := ⟨⟨by decide +kernel, by decide +kernel⟩, List.mem_of_getElem? (i := 21) (by decide +kernel), List.mem_of_getElem? (i := 299) (by decide +kernel), List.mem_of_getElem? (i := 300) (by decide +kernel)⟩
theorem lw_p5 : lw_okq (⟨"SingleCopy$CityText", "readClause", "(LSingleCopy$City;)V"⟩, 7) := ⟨⟨by decide +kernel, by decide +kernel⟩, List.mem_of_getElem? (i := 21) (by decide +kernel), List.mem_of_getElem? (i := 306) (by decide +kernel), List.mem_of_getElem? (i := 307) (by decide +kernel)⟩
theorem lw_p6 : lw_okq (⟨"SingleCopy$CityText", "mark", "(II)V"⟩, 7) := ⟨⟨by decide +kernel, by decide +kernel⟩, List.mem_of_getElem? (i := 21) (by decide +kernel), List.mem_of_getElem? (i := 310) (by decide +kernel), List.mem_of_getElem? (i := 311) (by decide +kernel)⟩
theorem lw_p7 : lw_okq (⟨"SingleCopy$CityText", "toldAlready", "(LSingleCopy$City;I)Z"⟩, 7) := ⟨⟨by decide +kernel, by decide +kernel⟩, List.mem_of_getElem? (i := 21) (by decide +kernel), List.mem_of_getElem? (i := 314) (by decide +kernel), List.mem_of_getElem? (i := 315) (by decide +kernel)⟩
theorem lw_p8 : lw_okq (⟨"SingleCopy$CityText", "readReader", "(LSingleCopy$City;)V"⟩, 7) := ⟨⟨by decide +kernel, by decide +kernel⟩, List.mem_of_getElem? (i := 21) (by decide +kernel), List.mem_of_getElem? (i := 318) (by decide +kernel), List.mem_of_getElem? (i := 319) (by decide +kernel)⟩
theorem lw_p9 : lw_okq (⟨"SingleCopy$CityText", "readNumber", "(II)I"⟩, 7) := ⟨⟨by decide +kernel, by decide +kernel⟩, List.mem_of_getElem? (i := 21) (by decide +kernel), List.mem_of_getElem? (i := 322) (by decide +kernel), List.mem_of_getElem? (i := 323) (by decide +kernel)⟩
theorem lw_p10 : lw_okq (⟨"SingleCopy$CityText", "atFigure", "()Z"⟩, 7) := ⟨⟨by decide +kernel, by decide +kernel⟩, List.mem_of_getElem? (i := 21) (by decide +kernel), List.mem_of_getElem? (i := 326) (by decide +kernel), List.mem_of_getElem? (i := 327) (by decide +kernel)⟩
theorem lw_p11 : lw_okq (⟨"SingleCopy$CityText", "takes", "(I)Z"⟩, 7) := ⟨⟨by decide +kernel, by decide +kernel⟩, List.mem_of_getElem? (i := 21) (by decide +kernel), List.mem_of_getElem? (i := 331) (by decide +kernel), List.mem_of_getElem? (i := 332) (by decide +kernel)⟩
theorem lw_p12 : lw_okq (⟨"SingleCopy$CityText", "readFactOf", "(LSingleCopy$City;)V"⟩, 7) := ⟨⟨by decide +kernel, by decide +kernel⟩, List.mem_of_getElem? (i := 21) (by decide +kernel), List.mem_of_getElem? (i := 335) (by decide +kernel), List.mem_of_getElem? (i := 336) (by decide +kernel)⟩
theorem lw_p13 : lw_okq (⟨"SingleCopy$City", "hasOpinion", "(I)Z"⟩, 10) := ⟨⟨by decide +kernel, by decide +kernel⟩, List.mem_of_getElem? (i := 52) (by decide +kernel), List.mem_of_getElem? (i := 339) (by decide +kernel), List.mem_of_getElem? (i := 340) (by decide +kernel)⟩
theorem lw_p14 : lw_okq (⟨"SingleCopy$City", "copyFrom", "(LSingleCopy$City;)V"⟩, 10) := ⟨⟨by decide +kernel, by decide +kernel⟩, List.mem_of_getElem? (i := 52) (by decide +kernel), List.mem_of_getElem? (i := 343) (by decide +kernel), List.mem_of_getElem? (i := 344) (by decide +kernel)⟩
theorem lw_p15 : lw_okq (⟨"SingleCopy$Mind", "begin", "(LSingleCopy$City;)V"⟩, 6) := ⟨⟨by decide +kernel, by decide +kernel⟩, List.mem_of_getElem? (i := 117) (by decide +kernel), List.mem_of_getElem? (i := 349) (by decide +kernel), List.mem_of_getElem? (i := 350) (by decide +kernel)⟩
def lw_privs_1 : List (MethodName × Nat) := [(⟨"SingleCopy$CityText", "append", "(I)Z"⟩, 7), (⟨"SingleCopy$CityText", "readInto", "(LSingleCopy$City;)I"⟩, 7), (⟨"SingleCopy$City", "clear", "()V"⟩, 10), (⟨"SingleCopy$CityText", "skipBlanks", "()V"⟩, 7), (⟨"SingleCopy$CityText", "next", "()I"⟩, 7), (⟨"SingleCopy$CityText", "readClause", "(LSingleCopy$City;)V"⟩, 7), (⟨"SingleCopy$CityText", "mark", "(II)V"⟩, 7), (⟨"SingleCopy$CityText", "toldAlready", "(LSingleCopy$City;I)Z"⟩, 7), (⟨"SingleCopy$CityText", "readReader", "(LSingleCopy$City;)V"⟩, 7), (⟨"SingleCopy$CityText", "readNumber", "(II)I"⟩, 7), (⟨"SingleCopy$CityText", "atFigure", "()Z"⟩, 7), (⟨"SingleCopy$CityText", "takes", "(I)Z"⟩, 7), (⟨"SingleCopy$CityText", "readFactOf", "(LSingleCopy$City;)V"⟩, 7), (⟨"SingleCopy$City", "hasOpinion", "(I)Z"⟩, 10), (⟨"SingleCopy$City", "copyFrom", "(LSingleCopy$City;)V"⟩, 10), (⟨"SingleCopy$Mind", "begin", "(LSingleCopy$City;)V"⟩, 6)]
theorem lw_r1 : ∀ q ∈ lw_privs_1, lw_okq q := List.forall_mem_cons.mpr ⟨lw_p0, List.forall_mem_cons.mpr ⟨lw_p1, List.forall_mem_cons.mpr ⟨lw_p2, List.forall_mem_cons.mpr ⟨lw_p3, List.forall_mem_cons.mpr ⟨lw_p4, List.forall_mem_cons.mpr ⟨lw_p5, List.forall_mem_cons.mpr ⟨lw_p6, List.forall_mem_cons.mpr ⟨lw_p7, List.forall_mem_cons.mpr ⟨lw_p8, List.forall_mem_cons.mpr ⟨lw_p9, List.forall_mem_cons.mpr ⟨lw_p10, List.forall_mem_cons.mpr ⟨lw_p11, List.forall_mem_cons.mpr ⟨lw_p12, List.forall_mem_cons.mpr ⟨lw_p13, List.forall_mem_cons.mpr ⟨lw_p14, List.forall_mem_cons.mpr ⟨lw_p15, fun _ h => absurd h List.not_mem_nil⟩⟩⟩⟩⟩⟩⟩⟩⟩⟩⟩⟩⟩⟩⟩⟩
theorem lw_p16 : lw_okq (⟨"SingleCopy$City", "hasFact", "(I)Z"⟩, 10) := ⟨⟨by decide +kernel, by decide +kernel⟩, List.mem_of_getElem? (i := 52) (by decide +kernel), List.mem_of_getElem? (i := 356) (by decide +kernel), List.mem_of_getElem? (i := 357) (by decide +kernel)⟩
theorem lw_p17 : lw_okq (⟨"SingleCopy$Past", "clear", "()V"⟩, 3) := ⟨⟨by decide +kernel, by decide +kernel⟩, List.mem_of_getElem? (i := 174) (by decide +kernel), List.mem_of_getElem? (i := 360) (by decide +kernel), List.mem_of_getElem? (i := 361) (by decide +kernel)⟩
theorem lw_p18 : lw_okq (⟨"SingleCopy$Beliefs", "clear", "()V"⟩, 3) := ⟨⟨by decide +kernel, by decide +kernel⟩, List.mem_of_getElem? (i := 209) (by decide +kernel), List.mem_of_getElem? (i := 364) (by decide +kernel), List.mem_of_getElem? (i := 365) (by decide +kernel)⟩
theorem lw_p19 : lw_okq (⟨"SingleCopy$Mind", "convincedOf", "(LSingleCopy$City;)I"⟩, 6) := ⟨⟨by decide +kernel, by decide +kernel⟩, List.mem_of_getElem? (i := 117) (by decide +kernel), List.mem_of_getElem? (i := 376) (by decide +kernel), List.mem_of_getElem? (i := 377) (by decide +kernel)⟩
theorem lw_p20 : lw_okq (⟨"SingleCopy$City", "hasFacts", "(I)Z"⟩, 10) := ⟨⟨by decide +kernel, by decide +kernel⟩, List.mem_of_getElem? (i := 52) (by decide +kernel), List.mem_of_getElem? (i := 399) (by decide +kernel), List.mem_of_getElem? (i := 400) (by decide +kernel)⟩
theorem lw_p21 : lw_okq (⟨"SingleCopy", "mayBe", "(I)Z"⟩, 14) := ⟨⟨by decide +kernel, by decide +kernel⟩, List.mem_of_getElem? (i := 13) (by decide +kernel), List.mem_of_getElem? (i := 403) (by decide +kernel), List.mem_of_getElem? (i := 404) (by decide +kernel)⟩
theorem lw_p22 : lw_okq (⟨"SingleCopy$City", "fits", "(I)Z"⟩, 10) := ⟨⟨by decide +kernel, by decide +kernel⟩, List.mem_of_getElem? (i := 52) (by decide +kernel), List.mem_of_getElem? (i := 407) (by decide +kernel), List.mem_of_getElem? (i := 408) (by decide +kernel)⟩
theorem lw_p23 : lw_okq (⟨"SingleCopy$Past", "push", "(LSingleCopy$Mind;)V"⟩, 3) := ⟨⟨by decide +kernel, by decide +kernel⟩, List.mem_of_getElem? (i := 174) (by decide +kernel), List.mem_of_getElem? (i := 419) (by decide +kernel), List.mem_of_getElem? (i := 420) (by decide +kernel)⟩
theorem lw_p24 : lw_okq (⟨"SingleCopy$Shelf", "store", "(ILSingleCopy$Mind;)V"⟩, 1) := ⟨⟨by decide +kernel, by decide +kernel⟩, List.mem_of_getElem? (i := 180) (by decide +kernel), List.mem_of_getElem? (i := 423) (by decide +kernel), List.mem_of_getElem? (i := 424) (by decide +kernel)⟩
theorem lw_p25 : lw_okq (⟨"SingleCopy$Mind", "spendNight", "(LSingleCopy$City;I)V"⟩, 6) := ⟨⟨by decide +kernel, by decide +kernel⟩, List.mem_of_getElem? (i := 117) (by decide +kernel), List.mem_of_getElem? (i := 430) (by decide +kernel), List.mem_of_getElem? (i := 431) (by decide +kernel)⟩
theorem lw_p26 : lw_okq (⟨"SingleCopy$Mind", "readFact", "(LSingleCopy$City;I)Z"⟩, 6) := ⟨⟨by decide +kernel, by decide +kernel⟩, List.mem_of_getElem? (i := 117) (by decide +kernel), List.mem_of_getElem? (i := 435) (by decide +kernel), List.mem_of_getElem? (i := 436) (by decide +kernel)⟩
theorem lw_p27 : lw_okq (⟨"SingleCopy", "drawnSheet", "()I"⟩, 14) := ⟨⟨by decide +kernel, by decide +kernel⟩, List.mem_of_getElem? (i := 13) (by decide +kernel), List.mem_of_getElem? (i := 463) (by decide +kernel), List.mem_of_getElem? (i := 464) (by decide +kernel)⟩
theorem lw_p28 : lw_okq (⟨"SingleCopy", "drawOf", "(I)I"⟩, 14) := ⟨⟨by decide +kernel, by decide +kernel⟩, List.mem_of_getElem? (i := 13) (by decide +kernel), List.mem_of_getElem? (i := 467) (by decide +kernel), List.mem_of_getElem? (i := 468) (by decide +kernel)⟩
theorem lw_p29 : lw_okq (⟨"SingleCopy$Past", "pop", "(LSingleCopy$Mind;)Z"⟩, 3) := ⟨⟨by decide +kernel, by decide +kernel⟩, List.mem_of_getElem? (i := 174) (by decide +kernel), List.mem_of_getElem? (i := 479) (by decide +kernel), List.mem_of_getElem? (i := 480) (by decide +kernel)⟩
theorem lw_p30 : lw_okq (⟨"SingleCopy$Shelf", "fetch", "(ILSingleCopy$Mind;)V"⟩, 1) := ⟨⟨by decide +kernel, by decide +kernel⟩, List.mem_of_getElem? (i := 180) (by decide +kernel), List.mem_of_getElem? (i := 483) (by decide +kernel), List.mem_of_getElem? (i := 484) (by decide +kernel)⟩
theorem lw_p31 : lw_okq (⟨"SingleCopy$Mind", "copyFrom", "(LSingleCopy$Mind;)V"⟩, 6) := ⟨⟨by decide +kernel, by decide +kernel⟩, List.mem_of_getElem? (i := 117) (by decide +kernel), List.mem_of_getElem? (i := 491) (by decide +kernel), List.mem_of_getElem? (i := 492) (by decide +kernel)⟩
def lw_privs_2 : List (MethodName × Nat) := [(⟨"SingleCopy$City", "hasFact", "(I)Z"⟩, 10), (⟨"SingleCopy$Past", "clear", "()V"⟩, 3), (⟨"SingleCopy$Beliefs", "clear", "()V"⟩, 3), (⟨"SingleCopy$Mind", "convincedOf", "(LSingleCopy$City;)I"⟩, 6), (⟨"SingleCopy$City", "hasFacts", "(I)Z"⟩, 10), (⟨"SingleCopy", "mayBe", "(I)Z"⟩, 14), (⟨"SingleCopy$City", "fits", "(I)Z"⟩, 10), (⟨"SingleCopy$Past", "push", "(LSingleCopy$Mind;)V"⟩, 3), (⟨"SingleCopy$Shelf", "store", "(ILSingleCopy$Mind;)V"⟩, 1), (⟨"SingleCopy$Mind", "spendNight", "(LSingleCopy$City;I)V"⟩, 6), (⟨"SingleCopy$Mind", "readFact", "(LSingleCopy$City;I)Z"⟩, 6), (⟨"SingleCopy", "drawnSheet", "()I"⟩, 14), (⟨"SingleCopy", "drawOf", "(I)I"⟩, 14), (⟨"SingleCopy$Past", "pop", "(LSingleCopy$Mind;)Z"⟩, 3), (⟨"SingleCopy$Shelf", "fetch", "(ILSingleCopy$Mind;)V"⟩, 1), (⟨"SingleCopy$Mind", "copyFrom", "(LSingleCopy$Mind;)V"⟩, 6)]
theorem lw_r2 : ∀ q ∈ lw_privs_2, lw_okq q := List.forall_mem_cons.mpr ⟨lw_p16, List.forall_mem_cons.mpr ⟨lw_p17, List.forall_mem_cons.mpr ⟨lw_p18, List.forall_mem_cons.mpr ⟨lw_p19, List.forall_mem_cons.mpr ⟨lw_p20, List.forall_mem_cons.mpr ⟨lw_p21, List.forall_mem_cons.mpr ⟨lw_p22, List.forall_mem_cons.mpr ⟨lw_p23, List.forall_mem_cons.mpr ⟨lw_p24, List.forall_mem_cons.mpr ⟨lw_p25, List.forall_mem_cons.mpr ⟨lw_p26, List.forall_mem_cons.mpr ⟨lw_p27, List.forall_mem_cons.mpr ⟨lw_p28, List.forall_mem_cons.mpr ⟨lw_p29, List.forall_mem_cons.mpr ⟨lw_p30, List.forall_mem_cons.mpr ⟨lw_p31, fun _ h => absurd h List.not_mem_nil⟩⟩⟩⟩⟩⟩⟩⟩⟩⟩⟩⟩⟩⟩⟩⟩
theorem lw_p32 : lw_okq (⟨"SingleCopy$City", "hasOpinions", "(I)Z"⟩, 10) := ⟨⟨by decide +kernel, by decide +kernel⟩, List.mem_of_getElem? (i := 52) (by decide +kernel), List.mem_of_getElem? (i := 499) (by decide +kernel), List.mem_of_getElem? (i := 500) (by decide +kernel)⟩
theorem lw_p33 : lw_okq (⟨"SingleCopy", "findSoonest", "(II)Z"⟩, 14) := ⟨⟨by decide +kernel, by decide +kernel⟩, List.mem_of_getElem? (i := 13) (by decide +kernel), List.mem_of_getElem? (i := 503) (by decide +kernel), List.mem_of_getElem? (i := 504) (by decide +kernel)⟩
theorem lw_p34 : lw_okq (⟨"SingleCopy$Mind", "isConvinced", "(LSingleCopy$City;II)Z"⟩, 6) := ⟨⟨by decide +kernel, by decide +kernel⟩, List.mem_of_getElem? (i := 117) (by decide +kernel), List.mem_of_getElem? (i := 507) (by decide +kernel), List.mem_of_getElem? (i := 508) (by decide +kernel)⟩
theorem lw_p35 : lw_okq (⟨"SingleCopy$Row", "become", "(III)V"⟩, 3) := ⟨⟨by decide +kernel, by decide +kernel⟩, List.mem_of_getElem? (i := 155) (by decide +kernel), List.mem_of_getElem? (i := 512) (by decide +kernel), List.mem_of_getElem? (i := 513) (by decide +kernel)⟩
theorem lw_p36 : lw_okq (⟨"SingleCopy", "findOneNight", "(LSingleCopy$Mind;LSingleCopy$Mind;III)Z"⟩, 14) := ⟨⟨by decide +kernel, by decide +kernel⟩, List.mem_of_getElem? (i := 13) (by decide +kernel), List.mem_of_getElem? (i := 516) (by decide +kernel), List.mem_of_getElem? (i := 517) (by decide +kernel)⟩
theorem lw_p37 : lw_okq (⟨"SingleCopy", "findTwoNights", "(II)Z"⟩, 14) := ⟨⟨by decide +kernel, by decide +kernel⟩, List.mem_of_getElem? (i := 13) (by decide +kernel), List.mem_of_getElem? (i := 520) (by decide +kernel), List.mem_of_getElem? (i := 521) (by decide +kernel)⟩
theorem lw_p38 : lw_okq (⟨"SingleCopy", "reachedBehind", "(I)I"⟩, 14) := ⟨⟨by decide +kernel, by decide +kernel⟩, List.mem_of_getElem? (i := 13) (by decide +kernel), List.mem_of_getElem? (i := 528) (by decide +kernel), List.mem_of_getElem? (i := 529) (by decide +kernel)⟩
theorem lw_p39 : lw_okq (⟨"SingleCopy$City", "costOf", "(I)I"⟩, 10) := ⟨⟨by decide +kernel, by decide +kernel⟩, List.mem_of_getElem? (i := 52) (by decide +kernel), List.mem_of_getElem? (i := 536) (by decide +kernel), List.mem_of_getElem? (i := 537) (by decide +kernel)⟩
theorem lw_p40 : lw_okq (⟨"SingleCopy", "convincesOf", "(II)Z"⟩, 14) := ⟨⟨by decide +kernel, by decide +kernel⟩, List.mem_of_getElem? (i := 13) (by decide +kernel), List.mem_of_getElem? (i := 541) (by decide +kernel), List.mem_of_getElem? (i := 542) (by decide +kernel)⟩
theorem lw_p41 : lw_okq (⟨"SingleCopy$Mind", "unread", "(III)V"⟩, 6) := ⟨⟨by decide +kernel, by decide +kernel⟩, List.mem_of_getElem? (i := 117) (by decide +kernel), List.mem_of_getElem? (i := 553) (by decide +kernel), List.mem_of_getElem? (i := 554) (by decide +kernel)⟩
theorem lw_p42 : lw_okq (⟨"SingleCopy", "noteIn", "(LSingleCopy$Beliefs;II)I"⟩, 14) := ⟨⟨by decide +kernel, by decide +kernel⟩, List.mem_of_getElem? (i := 13) (by decide +kernel), List.mem_of_getElem? (i := 578) (by decide +kernel), List.mem_of_getElem? (i := 579) (by decide +kernel)⟩
theorem lw_p43 : lw_okq (⟨"SingleCopy$Beliefs", "append", "(II)Z"⟩, 3) := ⟨⟨by decide +kernel, by decide +kernel⟩, List.mem_of_getElem? (i := 209) (by decide +kernel), List.mem_of_getElem? (i := 582) (by decide +kernel), List.mem_of_getElem? (i := 583) (by decide +kernel)⟩
theorem lw_p44 : lw_okq (⟨"SingleCopy", "thoughtBehind", "(LSingleCopy$City;I)Z"⟩, 14) := ⟨⟨by decide +kernel, by decide +kernel⟩, List.mem_of_getElem? (i := 13) (by decide +kernel), List.mem_of_getElem? (i := 591) (by decide +kernel), List.mem_of_getElem? (i := 592) (by decide +kernel)⟩
theorem lw_p45 : lw_okq (⟨"SingleCopy$Beliefs", "firstOtherwise", "(LSingleCopy$Mind;)I"⟩, 3) := ⟨⟨by decide +kernel, by decide +kernel⟩, List.mem_of_getElem? (i := 209) (by decide +kernel), List.mem_of_getElem? (i := 595) (by decide +kernel), List.mem_of_getElem? (i := 596) (by decide +kernel)⟩
theorem lw_p46 : lw_okq (⟨"SingleCopyModel", "begins", "()V"⟩, 29) := ⟨⟨by decide +kernel, by decide +kernel⟩, List.mem_of_getElem? (i := 630) (by decide +kernel), List.mem_of_getElem? (i := 636) (by decide +kernel), List.mem_of_getElem? (i := 637) (by decide +kernel)⟩
theorem lw_p47 : lw_okq (⟨"SingleCopyModel", "step", "()V"⟩, 29) := ⟨⟨by decide +kernel, by decide +kernel⟩, List.mem_of_getElem? (i := 630) (by decide +kernel), List.mem_of_getElem? (i := 743) (by decide +kernel), List.mem_of_getElem? (i := 744) (by decide +kernel)⟩
def lw_privs_3 : List (MethodName × Nat) := [(⟨"SingleCopy$City", "hasOpinions", "(I)Z"⟩, 10), (⟨"SingleCopy", "findSoonest", "(II)Z"⟩, 14), (⟨"SingleCopy$Mind", "isConvinced", "(LSingleCopy$City;II)Z"⟩, 6), (⟨"SingleCopy$Row", "become", "(III)V"⟩, 3), (⟨"SingleCopy", "findOneNight", "(LSingleCopy$Mind;LSingleCopy$Mind;III)Z"⟩, 14), (⟨"SingleCopy", "findTwoNights", "(II)Z"⟩, 14), (⟨"SingleCopy", "reachedBehind", "(I)I"⟩, 14), (⟨"SingleCopy$City", "costOf", "(I)I"⟩, 10), (⟨"SingleCopy", "convincesOf", "(II)Z"⟩, 14), (⟨"SingleCopy$Mind", "unread", "(III)V"⟩, 6), (⟨"SingleCopy", "noteIn", "(LSingleCopy$Beliefs;II)I"⟩, 14), (⟨"SingleCopy$Beliefs", "append", "(II)Z"⟩, 3), (⟨"SingleCopy", "thoughtBehind", "(LSingleCopy$City;I)Z"⟩, 14), (⟨"SingleCopy$Beliefs", "firstOtherwise", "(LSingleCopy$Mind;)I"⟩, 3), (⟨"SingleCopyModel", "begins", "()V"⟩, 29), (⟨"SingleCopyModel", "step", "()V"⟩, 29)]
theorem lw_r3 : ∀ q ∈ lw_privs_3, lw_okq q := List.forall_mem_cons.mpr ⟨lw_p32, List.forall_mem_cons.mpr ⟨lw_p33, List.forall_mem_cons.mpr ⟨lw_p34, List.forall_mem_cons.mpr ⟨lw_p35, List.forall_mem_cons.mpr ⟨lw_p36, List.forall_mem_cons.mpr ⟨lw_p37, List.forall_mem_cons.mpr ⟨lw_p38, List.forall_mem_cons.mpr ⟨lw_p39, List.forall_mem_cons.mpr ⟨lw_p40, List.forall_mem_cons.mpr ⟨lw_p41, List.forall_mem_cons.mpr ⟨lw_p42, List.forall_mem_cons.mpr ⟨lw_p43, List.forall_mem_cons.mpr ⟨lw_p44, List.forall_mem_cons.mpr ⟨lw_p45, List.forall_mem_cons.mpr ⟨lw_p46, List.forall_mem_cons.mpr ⟨lw_p47, fun _ h => absurd h List.not_mem_nil⟩⟩⟩⟩⟩⟩⟩⟩⟩⟩⟩⟩⟩⟩⟩⟩
theorem lw_p48 : lw_okq (⟨"SingleCopyModel", "here", "()I"⟩, 29) := ⟨⟨by decide +kernel, by decide +kernel⟩, List.mem_of_getElem? (i := 630) (by decide +kernel), List.mem_of_getElem? (i := 747) (by decide +kernel), List.mem_of_getElem? (i := 748) (by decide +kernel)⟩
theorem lw_p49 : lw_okq (⟨"SingleCopyModel", "readsClause", "()Z"⟩, 29) := ⟨⟨by decide +kernel, by decide +kernel⟩, List.mem_of_getElem? (i := 630) (by decide +kernel), List.mem_of_getElem? (i := 753) (by decide +kernel), List.mem_of_getElem? (i := 754) (by decide +kernel)⟩
theorem lw_p50 : lw_okq (⟨"SingleCopyModel", "readsReader", "()Z"⟩, 29) := ⟨⟨by decide +kernel, by decide +kernel⟩, List.mem_of_getElem? (i := 630) (by decide +kernel), List.mem_of_getElem? (i := 757) (by decide +kernel), List.mem_of_getElem? (i := 758) (by decide +kernel)⟩
theorem lw_p51 : lw_okq (⟨"SingleCopyModel", "fails", "(I)Z"⟩, 29) := ⟨⟨by decide +kernel, by decide +kernel⟩, List.mem_of_getElem? (i := 630) (by decide +kernel), List.mem_of_getElem? (i := 761) (by decide +kernel), List.mem_of_getElem? (i := 762) (by decide +kernel)⟩
theorem lw_p52 : lw_okq (⟨"SingleCopyModel", "number", "(III)Z"⟩, 29) := ⟨⟨by decide +kernel, by decide +kernel⟩, List.mem_of_getElem? (i := 630) (by decide +kernel), List.mem_of_getElem? (i := 765) (by decide +kernel), List.mem_of_getElem? (i := 766) (by decide +kernel)⟩
theorem lw_p53 : lw_okq (⟨"SingleCopyModel", "readsFact", "()Z"⟩, 29) := ⟨⟨by decide +kernel, by decide +kernel⟩, List.mem_of_getElem? (i := 630) (by decide +kernel), List.mem_of_getElem? (i := 769) (by decide +kernel), List.mem_of_getElem? (i := 770) (by decide +kernel)⟩
theorem lw_p54 : lw_okq (⟨"SingleCopyModel", "ends", "()Z"⟩, 29) := ⟨⟨by decide +kernel, by decide +kernel⟩, List.mem_of_getElem? (i := 630) (by decide +kernel), List.mem_of_getElem? (i := 773) (by decide +kernel), List.mem_of_getElem? (i := 774) (by decide +kernel)⟩
theorem lw_p55 : lw_okq (⟨"SingleCopyModel", "readsSure", "()Z"⟩, 29) := ⟨⟨by decide +kernel, by decide +kernel⟩, List.mem_of_getElem? (i := 630) (by decide +kernel), List.mem_of_getElem? (i := 777) (by decide +kernel), List.mem_of_getElem? (i := 778) (by decide +kernel)⟩
theorem lw_p56 : lw_okq (⟨"SingleCopyModel", "convinced", "([I)I"⟩, 29) := ⟨⟨by decide +kernel, by decide +kernel⟩, List.mem_of_getElem? (i := 630) (by decide +kernel), List.mem_of_getElem? (i := 789) (by decide +kernel), List.mem_of_getElem? (i := 790) (by decide +kernel)⟩
theorem lw_p57 : lw_okq (⟨"SingleCopyModel", "isOpinion", "(I)Z"⟩, 29) := ⟨⟨by decide +kernel, by decide +kernel⟩, List.mem_of_getElem? (i := 630) (by decide +kernel), List.mem_of_getElem? (i := 797) (by decide +kernel), List.mem_of_getElem? (i := 798) (by decide +kernel)⟩
theorem lw_p58 : lw_okq (⟨"SingleCopyModel", "isFact", "(I)Z"⟩, 29) := ⟨⟨by decide +kernel, by decide +kernel⟩, List.mem_of_getElem? (i := 630) (by decide +kernel), List.mem_of_getElem? (i := 806) (by decide +kernel), List.mem_of_getElem? (i := 807) (by decide +kernel)⟩
theorem lw_p59 : lw_okq (⟨"SingleCopyModel", "areFacts", "(I)Z"⟩, 29) := ⟨⟨by decide +kernel, by decide +kernel⟩, List.mem_of_getElem? (i := 630) (by decide +kernel), List.mem_of_getElem? (i := 817) (by decide +kernel), List.mem_of_getElem? (i := 818) (by decide +kernel)⟩
theorem lw_p60 : lw_okq (⟨"SingleCopyModel", "maySheet", "(II)Z"⟩, 29) := ⟨⟨by decide +kernel, by decide +kernel⟩, List.mem_of_getElem? (i := 630) (by decide +kernel), List.mem_of_getElem? (i := 821) (by decide +kernel), List.mem_of_getElem? (i := 822) (by decide +kernel)⟩
theorem lw_p61 : lw_okq (⟨"SingleCopyModel", "remember", "()V"⟩, 29) := ⟨⟨by decide +kernel, by decide +kernel⟩, List.mem_of_getElem? (i := 630) (by decide +kernel), List.mem_of_getElem? (i := 830) (by decide +kernel), List.mem_of_getElem? (i := 831) (by decide +kernel)⟩
theorem lw_p62 : lw_okq (⟨"SingleCopyModel", "prints", "(I)V"⟩, 29) := ⟨⟨by decide +kernel, by decide +kernel⟩, List.mem_of_getElem? (i := 630) (by decide +kernel), List.mem_of_getElem? (i := 837) (by decide +kernel), List.mem_of_getElem? (i := 838) (by decide +kernel)⟩
theorem lw_p63 : lw_okq (⟨"SingleCopyModel", "readsSheet", "([II)I"⟩, 29) := ⟨⟨by decide +kernel, by decide +kernel⟩, List.mem_of_getElem? (i := 630) (by decide +kernel), List.mem_of_getElem? (i := 841) (by decide +kernel), List.mem_of_getElem? (i := 842) (by decide +kernel)⟩
def lw_privs_4 : List (MethodName × Nat) := [(⟨"SingleCopyModel", "here", "()I"⟩, 29), (⟨"SingleCopyModel", "readsClause", "()Z"⟩, 29), (⟨"SingleCopyModel", "readsReader", "()Z"⟩, 29), (⟨"SingleCopyModel", "fails", "(I)Z"⟩, 29), (⟨"SingleCopyModel", "number", "(III)Z"⟩, 29), (⟨"SingleCopyModel", "readsFact", "()Z"⟩, 29), (⟨"SingleCopyModel", "ends", "()Z"⟩, 29), (⟨"SingleCopyModel", "readsSure", "()Z"⟩, 29), (⟨"SingleCopyModel", "convinced", "([I)I"⟩, 29), (⟨"SingleCopyModel", "isOpinion", "(I)Z"⟩, 29), (⟨"SingleCopyModel", "isFact", "(I)Z"⟩, 29), (⟨"SingleCopyModel", "areFacts", "(I)Z"⟩, 29), (⟨"SingleCopyModel", "maySheet", "(II)Z"⟩, 29), (⟨"SingleCopyModel", "remember", "()V"⟩, 29), (⟨"SingleCopyModel", "prints", "(I)V"⟩, 29), (⟨"SingleCopyModel", "readsSheet", "([II)I"⟩, 29)]
theorem lw_r4 : ∀ q ∈ lw_privs_4, lw_okq q := List.forall_mem_cons.mpr ⟨lw_p48, List.forall_mem_cons.mpr ⟨lw_p49, List.forall_mem_cons.mpr ⟨lw_p50, List.forall_mem_cons.mpr ⟨lw_p51, List.forall_mem_cons.mpr ⟨lw_p52, List.forall_mem_cons.mpr ⟨lw_p53, List.forall_mem_cons.mpr ⟨lw_p54, List.forall_mem_cons.mpr ⟨lw_p55, List.forall_mem_cons.mpr ⟨lw_p56, List.forall_mem_cons.mpr ⟨lw_p57, List.forall_mem_cons.mpr ⟨lw_p58, List.forall_mem_cons.mpr ⟨lw_p59, List.forall_mem_cons.mpr ⟨lw_p60, List.forall_mem_cons.mpr ⟨lw_p61, List.forall_mem_cons.mpr ⟨lw_p62, List.forall_mem_cons.mpr ⟨lw_p63, fun _ h => absurd h List.not_mem_nil⟩⟩⟩⟩⟩⟩⟩⟩⟩⟩⟩⟩⟩⟩⟩⟩
theorem lw_p64 : lw_okq (⟨"SingleCopyModel", "byOf", "(I)I"⟩, 29) := ⟨⟨by decide +kernel, by decide +kernel⟩, List.mem_of_getElem? (i := 630) (by decide +kernel), List.mem_of_getElem? (i := 845) (by decide +kernel), List.mem_of_getElem? (i := 846) (by decide +kernel)⟩
theorem lw_p65 : lw_okq (⟨"SingleCopyModel", "reads", "([III)Z"⟩, 29) := ⟨⟨by decide +kernel, by decide +kernel⟩, List.mem_of_getElem? (i := 630) (by decide +kernel), List.mem_of_getElem? (i := 849) (by decide +kernel), List.mem_of_getElem? (i := 850) (by decide +kernel)⟩
theorem lw_p66 : lw_okq (⟨"SingleCopyModel", "draw", "(I)I"⟩, 29) := ⟨⟨by decide +kernel, by decide +kernel⟩, List.mem_of_getElem? (i := 630) (by decide +kernel), List.mem_of_getElem? (i := 870) (by decide +kernel), List.mem_of_getElem? (i := 871) (by decide +kernel)⟩
theorem lw_p67 : lw_okq (⟨"SingleCopyModel", "triesTonight", "(I)I"⟩, 29) := ⟨⟨by decide +kernel, by decide +kernel⟩, List.mem_of_getElem? (i := 630) (by decide +kernel), List.mem_of_getElem? (i := 886) (by decide +kernel), List.mem_of_getElem? (i := 887) (by decide +kernel)⟩
theorem lw_p68 : lw_okq (⟨"SingleCopyModel", "areOpinions", "(I)Z"⟩, 29) := ⟨⟨by decide +kernel, by decide +kernel⟩, List.mem_of_getElem? (i := 630) (by decide +kernel), List.mem_of_getElem? (i := 894) (by decide +kernel), List.mem_of_getElem? (i := 895) (by decide +kernel)⟩
theorem lw_p69 : lw_okq (⟨"SingleCopyModel", "layNights", "(II)I"⟩, 29) := ⟨⟨by decide +kernel, by decide +kernel⟩, List.mem_of_getElem? (i := 630) (by decide +kernel), List.mem_of_getElem? (i := 898) (by decide +kernel), List.mem_of_getElem? (i := 899) (by decide +kernel)⟩
theorem lw_p70 : lw_okq (⟨"SingleCopyModel", "isWanted", "([III)Z"⟩, 29) := ⟨⟨by decide +kernel, by decide +kernel⟩, List.mem_of_getElem? (i := 630) (by decide +kernel), List.mem_of_getElem? (i := 902) (by decide +kernel), List.mem_of_getElem? (i := 903) (by decide +kernel)⟩
theorem lw_p71 : lw_okq (⟨"SingleCopyModel", "costOf", "(I)I"⟩, 29) := ⟨⟨by decide +kernel, by decide +kernel⟩, List.mem_of_getElem? (i := 630) (by decide +kernel), List.mem_of_getElem? (i := 915) (by decide +kernel), List.mem_of_getElem? (i := 916) (by decide +kernel)⟩
theorem lw_p72 : lw_okq (⟨"SingleCopyModel", "convinces", "(II)Z"⟩, 29) := ⟨⟨by decide +kernel, by decide +kernel⟩, List.mem_of_getElem? (i := 630) (by decide +kernel), List.mem_of_getElem? (i := 919) (by decide +kernel), List.mem_of_getElem? (i := 920) (by decide +kernel)⟩
theorem lw_p73 : lw_okq (⟨"SingleCopyModel", "beginsStep", "(I)V"⟩, 29) := ⟨⟨by decide +kernel, by decide +kernel⟩, List.mem_of_getElem? (i := 630) (by decide +kernel), List.mem_of_getElem? (i := 928) (by decide +kernel), List.mem_of_getElem? (i := 929) (by decide +kernel)⟩
theorem lw_p74 : lw_okq (⟨"SingleCopyModel", "weighs", "(II)V"⟩, 29) := ⟨⟨by decide +kernel, by decide +kernel⟩, List.mem_of_getElem? (i := 630) (by decide +kernel), List.mem_of_getElem? (i := 932) (by decide +kernel), List.mem_of_getElem? (i := 933) (by decide +kernel)⟩
theorem lw_p75 : lw_okq (⟨"SingleCopyModel", "goes", "(I)Z"⟩, 29) := ⟨⟨by decide +kernel, by decide +kernel⟩, List.mem_of_getElem? (i := 630) (by decide +kernel), List.mem_of_getElem? (i := 936) (by decide +kernel), List.mem_of_getElem? (i := 937) (by decide +kernel)⟩
theorem lw_p76 : lw_okq (⟨"SingleCopyModel", "isThought", "()Z"⟩, 29) := ⟨⟨by decide +kernel, by decide +kernel⟩, List.mem_of_getElem? (i := 630) (by decide +kernel), List.mem_of_getElem? (i := 962) (by decide +kernel), List.mem_of_getElem? (i := 963) (by decide +kernel)⟩
def lw_privs_5 : List (MethodName × Nat) := [(⟨"SingleCopyModel", "byOf", "(I)I"⟩, 29), (⟨"SingleCopyModel", "reads", "([III)Z"⟩, 29), (⟨"SingleCopyModel", "draw", "(I)I"⟩, 29), (⟨"SingleCopyModel", "triesTonight", "(I)I"⟩, 29), (⟨"SingleCopyModel", "areOpinions", "(I)Z"⟩, 29), (⟨"SingleCopyModel", "layNights", "(II)I"⟩, 29), (⟨"SingleCopyModel", "isWanted", "([III)Z"⟩, 29), (⟨"SingleCopyModel", "costOf", "(I)I"⟩, 29), (⟨"SingleCopyModel", "convinces", "(II)Z"⟩, 29), (⟨"SingleCopyModel", "beginsStep", "(I)V"⟩, 29), (⟨"SingleCopyModel", "weighs", "(II)V"⟩, 29), (⟨"SingleCopyModel", "goes", "(I)Z"⟩, 29), (⟨"SingleCopyModel", "isThought", "()Z"⟩, 29)]
theorem lw_r5 : ∀ q ∈ lw_privs_5, lw_okq q := List.forall_mem_cons.mpr ⟨lw_p64, List.forall_mem_cons.mpr ⟨lw_p65, List.forall_mem_cons.mpr ⟨lw_p66, List.forall_mem_cons.mpr ⟨lw_p67, List.forall_mem_cons.mpr ⟨lw_p68, List.forall_mem_cons.mpr ⟨lw_p69, List.forall_mem_cons.mpr ⟨lw_p70, List.forall_mem_cons.mpr ⟨lw_p71, List.forall_mem_cons.mpr ⟨lw_p72, List.forall_mem_cons.mpr ⟨lw_p73, List.forall_mem_cons.mpr ⟨lw_p74, List.forall_mem_cons.mpr ⟨lw_p75, List.forall_mem_cons.mpr ⟨lw_p76, fun _ h => absurd h List.not_mem_nil⟩⟩⟩⟩⟩⟩⟩⟩⟩⟩⟩⟩⟩
def lw_privs : List (MethodName × Nat) := lw_privs_1 ++ (lw_privs_2 ++ (lw_privs_3 ++ (lw_privs_4 ++ (lw_privs_5))))
def lw_tbl : List Cond := k2_sels lw_privs ++ tables_1
theorem lw_privs_ok : ∀ q ∈ lw_privs, lw_okq q := by
  show ∀ q ∈ lw_privs_1 ++ (lw_privs_2 ++ (lw_privs_3 ++ (lw_privs_4 ++ (lw_privs_5)))), lw_okq q
  exact List.forall_mem_append.mpr ⟨lw_r1, List.forall_mem_append.mpr ⟨lw_r2, List.forall_mem_append.mpr ⟨lw_r3, List.forall_mem_append.mpr ⟨lw_r4, lw_r5⟩⟩⟩⟩
end
section
def RX0 : String := "SingleCopy$Beliefs"
def TX0 : u_T := fun k => match k with
  | 0 => ("SingleCopy$Beliefs", "opinions", "[I", true)
  | 1 => ("SingleCopy$Beliefs", "amounts", "[I", true)
  | _ => ("SingleCopy$Beliefs", "count", "I", false)
def tyX0 : Nat → FieldType := fun k => match k with
  | 0 => .array .int
  | 1 => .array .int
  | _ => .int
abbrev wsX00 : List Cond := u_ws RX0 TX0 3
theorem nmX0 : ∀ a, a < 3 → ∀ b, b < 3 → a ≠ b → (TX0 a).2.1 ≠ (TX0 b).2.1 := by decide +kernel
theorem tyX0_ok : ∀ k, k < 3 → parseFieldDescriptor (TX0 k).2.2.1 = some (tyX0 k) := by decide +kernel
abbrev cX0_init : ByteArray := prog_2_method_1_code
def yX0_init : MethodName := ⟨RX0, "<init>", "(I)V"⟩
abbrev cX0_clear : ByteArray := prog_2_method_2_code
def yX0_clear : MethodName := ⟨RX0, "clear", "()V"⟩
abbrev cX0_append : ByteArray := prog_2_method_3_code
def yX0_append : MethodName := ⟨RX0, "append", "(II)Z"⟩
abbrev cX0_firstOtherwise : ByteArray := prog_2_method_4_code
def yX0_firstOtherwise : MethodName := ⟨RX0, "firstOtherwise", "(LSingleCopy$Mind;)I"⟩
def RX1 : String := "SingleCopy$City"
def TX1 : u_T := fun k => match k with
  | 0 => ("SingleCopy$City", "sheetSize", "I", false)
  | 1 => ("SingleCopy$City", "opinions", "I", false)
  | 2 => ("SingleCopy$City", "facts", "I", false)
  | 3 => ("SingleCopy$City", "convincedFrom", "I", false)
  | 4 => ("SingleCopy$City", "firstBeliefs", "[I", true)
  | 5 => ("SingleCopy$City", "moved", "[I", true)
  | 6 => ("SingleCopy$City", "moves", "[I", true)
  | 7 => ("SingleCopy$City", "asked", "[I", true)
  | 8 => ("SingleCopy$City", "askedFrom", "[I", true)
  | _ => ("SingleCopy$City", "costs", "[I", true)
def tyX1 : Nat → FieldType := fun k => match k with
  | 0 => .int
  | 1 => .int
  | 2 => .int
  | 3 => .int
  | 4 => .array .int
  | 5 => .array .int
  | 6 => .array .int
  | 7 => .array .int
  | 8 => .array .int
  | _ => .array .int
abbrev wsX10 : List Cond := u_ws RX1 TX1 10
theorem nmX1 : ∀ a, a < 10 → ∀ b, b < 10 → a ≠ b → (TX1 a).2.1 ≠ (TX1 b).2.1 := by decide +kernel
theorem tyX1_ok : ∀ k, k < 10 → parseFieldDescriptor (TX1 k).2.2.1 = some (tyX1 k) := by decide +kernel
abbrev cX1_init : ByteArray := prog_3_method_1_code
def yX1_init : MethodName := ⟨RX1, "<init>", "()V"⟩
abbrev cX1_clear : ByteArray := prog_3_method_2_code
def yX1_clear : MethodName := ⟨RX1, "clear", "()V"⟩
abbrev cX1_copyFrom : ByteArray := prog_3_method_3_code
def yX1_copyFrom : MethodName := ⟨RX1, "copyFrom", "(LSingleCopy$City;)V"⟩
abbrev cX1_hasOpinion : ByteArray := prog_3_method_4_code
def yX1_hasOpinion : MethodName := ⟨RX1, "hasOpinion", "(I)Z"⟩
abbrev cX1_hasFact : ByteArray := prog_3_method_5_code
def yX1_hasFact : MethodName := ⟨RX1, "hasFact", "(I)Z"⟩
abbrev cX1_hasOpinions : ByteArray := prog_3_method_6_code
def yX1_hasOpinions : MethodName := ⟨RX1, "hasOpinions", "(I)Z"⟩
abbrev cX1_hasFacts : ByteArray := prog_3_method_7_code
def yX1_hasFacts : MethodName := ⟨RX1, "hasFacts", "(I)Z"⟩
abbrev cX1_fits : ByteArray := prog_3_method_8_code
def yX1_fits : MethodName := ⟨RX1, "fits", "(I)Z"⟩
abbrev cX1_costOf : ByteArray := prog_3_method_9_code
def yX1_costOf : MethodName := ⟨RX1, "costOf", "(I)I"⟩
def RX2 : String := "SingleCopy$CityText"
def TX2 : u_T := fun k => match k with
  | 0 => ("SingleCopy$CityText", "letters", "[I", true)
  | 1 => ("SingleCopy$CityText", "count", "I", false)
  | 2 => ("SingleCopy$CityText", "place", "I", false)
  | 3 => ("SingleCopy$CityText", "numberPlace", "I", false)
  | 4 => ("SingleCopy$CityText", "faultNumber", "I", false)
  | 5 => ("SingleCopy$CityText", "faultPlace", "I", false)
  | _ => ("SingleCopy$CityText", "convincedTold", "Z", false)
def tyX2 : Nat → FieldType := fun k => match k with
  | 0 => .array .int
  | 1 => .int
  | 2 => .int
  | 3 => .int
  | 4 => .int
  | 5 => .int
  | _ => .boolean
abbrev wsX20 : List Cond := u_ws RX2 TX2 7
theorem nmX2 : ∀ a, a < 7 → ∀ b, b < 7 → a ≠ b → (TX2 a).2.1 ≠ (TX2 b).2.1 := by decide +kernel
theorem tyX2_ok : ∀ k, k < 7 → parseFieldDescriptor (TX2 k).2.2.1 = some (tyX2 k) := by decide +kernel
abbrev cX2_init : ByteArray := prog_4_method_1_code
def yX2_init : MethodName := ⟨RX2, "<init>", "()V"⟩
abbrev cX2_append : ByteArray := prog_4_method_2_code
def yX2_append : MethodName := ⟨RX2, "append", "(I)Z"⟩
abbrev cX2_readInto : ByteArray := prog_4_method_3_code
def yX2_readInto : MethodName := ⟨RX2, "readInto", "(LSingleCopy$City;)I"⟩
abbrev cX2_next : ByteArray := prog_4_method_4_code
def yX2_next : MethodName := ⟨RX2, "next", "()I"⟩
abbrev cX2_skipBlanks : ByteArray := prog_4_method_5_code
def yX2_skipBlanks : MethodName := ⟨RX2, "skipBlanks", "()V"⟩
abbrev cX2_atFigure : ByteArray := prog_4_method_6_code
def yX2_atFigure : MethodName := ⟨RX2, "atFigure", "()Z"⟩
abbrev cX2_mark : ByteArray := prog_4_method_7_code
def yX2_mark : MethodName := ⟨RX2, "mark", "(II)V"⟩
abbrev cX2_readClause : ByteArray := prog_4_method_8_code
def yX2_readClause : MethodName := ⟨RX2, "readClause", "(LSingleCopy$City;)V"⟩
abbrev cX2_toldAlready : ByteArray := prog_4_method_9_code
def yX2_toldAlready : MethodName := ⟨RX2, "toldAlready", "(LSingleCopy$City;I)Z"⟩
abbrev cX2_readReader : ByteArray := prog_4_method_10_code
def yX2_readReader : MethodName := ⟨RX2, "readReader", "(LSingleCopy$City;)V"⟩
abbrev cX2_readFactOf : ByteArray := prog_4_method_11_code
def yX2_readFactOf : MethodName := ⟨RX2, "readFactOf", "(LSingleCopy$City;)V"⟩
abbrev cX2_takes : ByteArray := prog_4_method_12_code
def yX2_takes : MethodName := ⟨RX2, "takes", "(I)Z"⟩
abbrev cX2_readNumber : ByteArray := prog_4_method_13_code
def yX2_readNumber : MethodName := ⟨RX2, "readNumber", "(II)I"⟩
def RX3 : String := "SingleCopy$Mind"
def TX3 : u_T := fun k => match k with
  | 0 => ("SingleCopy$Mind", "beliefs", "[I", true)
  | 1 => ("SingleCopy$Mind", "reads", "[I", true)
  | 2 => ("SingleCopy$Mind", "so", "I", false)
  | 3 => ("SingleCopy$Mind", "nights", "I", false)
  | 4 => ("SingleCopy$Mind", "cost", "I", false)
  | _ => ("SingleCopy$Mind", "shown", "I", false)
def tyX3 : Nat → FieldType := fun k => match k with
  | 0 => .array .int
  | 1 => .array .int
  | 2 => .int
  | 3 => .int
  | 4 => .int
  | _ => .int
abbrev wsX30 : List Cond := u_ws RX3 TX3 6
theorem nmX3 : ∀ a, a < 6 → ∀ b, b < 6 → a ≠ b → (TX3 a).2.1 ≠ (TX3 b).2.1 := by decide +kernel
theorem tyX3_ok : ∀ k, k < 6 → parseFieldDescriptor (TX3 k).2.2.1 = some (tyX3 k) := by decide +kernel
abbrev cX3_init : ByteArray := prog_5_method_1_code
def yX3_init : MethodName := ⟨RX3, "<init>", "()V"⟩
abbrev cX3_begin : ByteArray := prog_5_method_2_code
def yX3_begin : MethodName := ⟨RX3, "begin", "(LSingleCopy$City;)V"⟩
abbrev cX3_copyFrom : ByteArray := prog_5_method_3_code
def yX3_copyFrom : MethodName := ⟨RX3, "copyFrom", "(LSingleCopy$Mind;)V"⟩
abbrev cX3_convincedOf : ByteArray := prog_5_method_4_code
def yX3_convincedOf : MethodName := ⟨RX3, "convincedOf", "(LSingleCopy$City;)I"⟩
abbrev cX3_isConvinced : ByteArray := prog_5_method_5_code
def yX3_isConvinced : MethodName := ⟨RX3, "isConvinced", "(LSingleCopy$City;II)Z"⟩
abbrev cX3_readFact : ByteArray := prog_5_method_6_code
def yX3_readFact : MethodName := ⟨RX3, "readFact", "(LSingleCopy$City;I)Z"⟩
abbrev cX3_unread : ByteArray := prog_5_method_7_code
def yX3_unread : MethodName := ⟨RX3, "unread", "(III)V"⟩
abbrev cX3_spendNight : ByteArray := prog_5_method_8_code
def yX3_spendNight : MethodName := ⟨RX3, "spendNight", "(LSingleCopy$City;I)V"⟩
def RX4 : String := "SingleCopy$Past"
def TX4 : u_T := fun k => match k with
  | 0 => ("SingleCopy$Past", "shelf", "LSingleCopy$Shelf;", true)
  | 1 => ("SingleCopy$Past", "next", "I", false)
  | _ => ("SingleCopy$Past", "count", "I", false)
def tyX4 : Nat → FieldType := fun k => match k with
  | 0 => .object "SingleCopy$Shelf"
  | 1 => .int
  | _ => .int
abbrev wsX40 : List Cond := u_ws RX4 TX4 3
theorem nmX4 : ∀ a, a < 3 → ∀ b, b < 3 → a ≠ b → (TX4 a).2.1 ≠ (TX4 b).2.1 := by decide +kernel
theorem tyX4_ok : ∀ k, k < 3 → parseFieldDescriptor (TX4 k).2.2.1 = some (tyX4 k) := by decide +kernel
abbrev cX4_init : ByteArray := prog_6_method_1_code
def yX4_init : MethodName := ⟨RX4, "<init>", "()V"⟩
abbrev cX4_clear : ByteArray := prog_6_method_2_code
def yX4_clear : MethodName := ⟨RX4, "clear", "()V"⟩
abbrev cX4_push : ByteArray := prog_6_method_3_code
def yX4_push : MethodName := ⟨RX4, "push", "(LSingleCopy$Mind;)V"⟩
abbrev cX4_pop : ByteArray := prog_6_method_4_code
def yX4_pop : MethodName := ⟨RX4, "pop", "(LSingleCopy$Mind;)Z"⟩
def RX5 : String := "SingleCopy$Row"
def TX5 : u_T := fun k => match k with
  | 0 => ("SingleCopy$Row", "nights", "I", false)
  | 1 => ("SingleCopy$Row", "firstSheet", "I", false)
  | _ => ("SingleCopy$Row", "secondSheet", "I", false)
def tyX5 : Nat → FieldType := fun k => match k with
  | 0 => .int
  | 1 => .int
  | _ => .int
abbrev wsX50 : List Cond := u_ws RX5 TX5 3
theorem nmX5 : ∀ a, a < 3 → ∀ b, b < 3 → a ≠ b → (TX5 a).2.1 ≠ (TX5 b).2.1 := by decide +kernel
theorem tyX5_ok : ∀ k, k < 3 → parseFieldDescriptor (TX5 k).2.2.1 = some (tyX5 k) := by decide +kernel
abbrev cX5_init : ByteArray := prog_7_method_1_code
def yX5_init : MethodName := ⟨RX5, "<init>", "()V"⟩
abbrev cX5_become : ByteArray := prog_7_method_2_code
def yX5_become : MethodName := ⟨RX5, "become", "(III)V"⟩
def RX6 : String := "SingleCopy$Shelf"
def TX6 : u_T := fun k => match k with
  | _ => ("SingleCopy$Shelf", "numbers", "[I", true)
def tyX6 : Nat → FieldType := fun k => match k with
  | _ => .array .int
abbrev wsX60 : List Cond := u_ws RX6 TX6 1
theorem nmX6 : ∀ a, a < 1 → ∀ b, b < 1 → a ≠ b → (TX6 a).2.1 ≠ (TX6 b).2.1 := by decide +kernel
theorem tyX6_ok : ∀ k, k < 1 → parseFieldDescriptor (TX6 k).2.2.1 = some (tyX6 k) := by decide +kernel
abbrev cX6_init : ByteArray := prog_8_method_1_code
def yX6_init : MethodName := ⟨RX6, "<init>", "(I)V"⟩
abbrev cX6_store : ByteArray := prog_8_method_2_code
def yX6_store : MethodName := ⟨RX6, "store", "(ILSingleCopy$Mind;)V"⟩
abbrev cX6_fetch : ByteArray := prog_8_method_3_code
def yX6_fetch : MethodName := ⟨RX6, "fetch", "(ILSingleCopy$Mind;)V"⟩
def RX7 : String := "SingleCopy"
def TX7 : u_T := fun k => match k with
  | 0 => ("SingleCopy", "text", "LSingleCopy$CityText;", true)
  | 1 => ("SingleCopy", "town", "LSingleCopy$City;", true)
  | 2 => ("SingleCopy", "draft", "LSingleCopy$City;", true)
  | 3 => ("SingleCopy", "now", "LSingleCopy$Mind;", true)
  | 4 => ("SingleCopy", "behindFirst", "LSingleCopy$Mind;", true)
  | 5 => ("SingleCopy", "behindSecond", "LSingleCopy$Mind;", true)
  | 6 => ("SingleCopy", "soonestRow", "LSingleCopy$Row;", true)
  | 7 => ("SingleCopy", "past", "LSingleCopy$Past;", true)
  | 8 => ("SingleCopy", "images", "LSingleCopy$Shelf;", true)
  | 9 => ("SingleCopy", "imageDraws", "[I", true)
  | 10 => ("SingleCopy", "keptImages", "I", false)
  | 11 => ("SingleCopy", "lastDraw", "I", false)
  | 12 => ("SingleCopy", "thoughts", "LSingleCopy$Beliefs;", true)
  | _ => ("SingleCopy", "book", "LSingleCopy$Beliefs;", true)
def tyX7 : Nat → FieldType := fun k => match k with
  | 0 => .object "SingleCopy$CityText"
  | 1 => .object "SingleCopy$City"
  | 2 => .object "SingleCopy$City"
  | 3 => .object "SingleCopy$Mind"
  | 4 => .object "SingleCopy$Mind"
  | 5 => .object "SingleCopy$Mind"
  | 6 => .object "SingleCopy$Row"
  | 7 => .object "SingleCopy$Past"
  | 8 => .object "SingleCopy$Shelf"
  | 9 => .array .int
  | 10 => .int
  | 11 => .int
  | 12 => .object "SingleCopy$Beliefs"
  | _ => .object "SingleCopy$Beliefs"
abbrev wsX70 : List Cond := u_ws RX7 TX7 14
theorem nmX7 : ∀ a, a < 14 → ∀ b, b < 14 → a ≠ b → (TX7 a).2.1 ≠ (TX7 b).2.1 := by decide +kernel
theorem tyX7_ok : ∀ k, k < 14 → parseFieldDescriptor (TX7 k).2.2.1 = some (tyX7 k) := by decide +kernel
abbrev cX7_init : ByteArray := prog_1_method_1_code
def yX7_init : MethodName := ⟨RX7, "<init>", "()V"⟩
abbrev cX7_feed : ByteArray := prog_1_method_2_code
def yX7_feed : MethodName := ⟨RX7, "feed", "(I)I"⟩
abbrev cX7_city : ByteArray := prog_1_method_3_code
def yX7_city : MethodName := ⟨RX7, "city", "()I"⟩
abbrev cX7_fault : ByteArray := prog_1_method_4_code
def yX7_fault : MethodName := ⟨RX7, "fault", "()I"⟩
abbrev cX7_told : ByteArray := prog_1_method_5_code
def yX7_told : MethodName := ⟨RX7, "told", "(I)I"⟩
abbrev cX7_belief : ByteArray := prog_1_method_6_code
def yX7_belief : MethodName := ⟨RX7, "belief", "(I)I"⟩
abbrev cX7_fact : ByteArray := prog_1_method_7_code
def yX7_fact : MethodName := ⟨RX7, "fact", "(II)I"⟩
abbrev cX7_night : ByteArray := prog_1_method_8_code
def yX7_night : MethodName := ⟨RX7, "night", "(I)I"⟩
abbrev cX7_meet : ByteArray := prog_1_method_9_code
def yX7_meet : MethodName := ⟨RX7, "meet", "(II)I"⟩
abbrev cX7_make : ByteArray := prog_1_method_10_code
def yX7_make : MethodName := ⟨RX7, "make", "(I)I"⟩
abbrev cX7_drift : ByteArray := prog_1_method_11_code
def yX7_drift : MethodName := ⟨RX7, "drift", "(I)I"⟩
abbrev cX7_undo : ByteArray := prog_1_method_12_code
def yX7_undo : MethodName := ⟨RX7, "undo", "()I"⟩
abbrev cX7_thinks : ByteArray := prog_1_method_13_code
def yX7_thinks : MethodName := ⟨RX7, "thinks", "(II)I"⟩
abbrev cX7_soonest : ByteArray := prog_1_method_14_code
def yX7_soonest : MethodName := ⟨RX7, "soonest", "(III)I"⟩
abbrev cX7_cannot : ByteArray := prog_1_method_15_code
def yX7_cannot : MethodName := ⟨RX7, "cannot", "()I"⟩
abbrev cX7_least : ByteArray := prog_1_method_16_code
def yX7_least : MethodName := ⟨RX7, "least", "(II)I"⟩
abbrev cX7_rivals : ByteArray := prog_1_method_17_code
def yX7_rivals : MethodName := ⟨RX7, "rivals", "(II)I"⟩
abbrev cX7_shun : ByteArray := prog_1_method_18_code
def yX7_shun : MethodName := ⟨RX7, "shun", "(II)I"⟩
abbrev cX7_holds : ByteArray := prog_1_method_19_code
def yX7_holds : MethodName := ⟨RX7, "holds", "(II)I"⟩
abbrev cX7_worn : ByteArray := prog_1_method_20_code
def yX7_worn : MethodName := ⟨RX7, "worn", "()I"⟩
abbrev cX7_thought : ByteArray := prog_1_method_21_code
def yX7_thought : MethodName := ⟨RX7, "thought", "(II)I"⟩
abbrev cX7_leftOut : ByteArray := prog_1_method_22_code
def yX7_leftOut : MethodName := ⟨RX7, "leftOut", "(I)I"⟩
abbrev cX7_strengths : ByteArray := prog_1_method_23_code
def yX7_strengths : MethodName := ⟨RX7, "strengths", "(II)I"⟩
abbrev cX7_write : ByteArray := prog_1_method_24_code
def yX7_write : MethodName := ⟨RX7, "write", "(II)I"⟩
abbrev cX7_tear : ByteArray := prog_1_method_25_code
def yX7_tear : MethodName := ⟨RX7, "tear", "()I"⟩
abbrev cX7_judge : ByteArray := prog_1_method_26_code
def yX7_judge : MethodName := ⟨RX7, "judge", "()I"⟩
abbrev cX7_seed : ByteArray := prog_1_method_27_code
def yX7_seed : MethodName := ⟨RX7, "seed", "(I)I"⟩
abbrev cX7_keep : ByteArray := prog_1_method_28_code
def yX7_keep : MethodName := ⟨RX7, "keep", "(I)I"⟩
abbrev cX7_goBack : ByteArray := prog_1_method_29_code
def yX7_goBack : MethodName := ⟨RX7, "goBack", "(I)I"⟩
abbrev cX7_at : ByteArray := prog_1_method_30_code
def yX7_at : MethodName := ⟨RX7, "at", "([II)I"⟩
abbrev cX7_put : ByteArray := prog_1_method_31_code
def yX7_put : MethodName := ⟨RX7, "put", "([III)V"⟩
abbrev cX7_has : ByteArray := prog_1_method_32_code
def yX7_has : MethodName := ⟨RX7, "has", "(II)Z"⟩
abbrev cX7_isBelief : ByteArray := prog_1_method_33_code
def yX7_isBelief : MethodName := ⟨RX7, "isBelief", "(I)Z"⟩
abbrev cX7_behindMeeting : ByteArray := prog_1_method_34_code
def yX7_behindMeeting : MethodName := ⟨RX7, "behindMeeting", "(II)I"⟩
abbrev cX7_wornMove : ByteArray := prog_1_method_35_code
def yX7_wornMove : MethodName := ⟨RX7, "wornMove", "(II)I"⟩
abbrev cX7_mayBe : ByteArray := prog_1_method_36_code
def yX7_mayBe : MethodName := ⟨RX7, "mayBe", "(I)Z"⟩
abbrev cX7_drawOf : ByteArray := prog_1_method_37_code
def yX7_drawOf : MethodName := ⟨RX7, "drawOf", "(I)I"⟩
abbrev cX7_drawnSheet : ByteArray := prog_1_method_38_code
def yX7_drawnSheet : MethodName := ⟨RX7, "drawnSheet", "()I"⟩
abbrev cX7_noteIn : ByteArray := prog_1_method_39_code
def yX7_noteIn : MethodName := ⟨RX7, "noteIn", "(LSingleCopy$Beliefs;II)I"⟩
abbrev cX7_thoughtBehind : ByteArray := prog_1_method_40_code
def yX7_thoughtBehind : MethodName := ⟨RX7, "thoughtBehind", "(LSingleCopy$City;I)Z"⟩
abbrev cX7_convincesOf : ByteArray := prog_1_method_41_code
def yX7_convincesOf : MethodName := ⟨RX7, "convincesOf", "(II)Z"⟩
abbrev cX7_reachedBehind : ByteArray := prog_1_method_42_code
def yX7_reachedBehind : MethodName := ⟨RX7, "reachedBehind", "(I)I"⟩
abbrev cX7_findSoonest : ByteArray := prog_1_method_43_code
def yX7_findSoonest : MethodName := ⟨RX7, "findSoonest", "(II)Z"⟩
abbrev cX7_findOneNight : ByteArray := prog_1_method_44_code
def yX7_findOneNight : MethodName := ⟨RX7, "findOneNight", "(LSingleCopy$Mind;LSingleCopy$Mind;III)Z"⟩
abbrev cX7_findTwoNights : ByteArray := prog_1_method_45_code
def yX7_findTwoNights : MethodName := ⟨RX7, "findTwoNights", "(II)Z"⟩
abbrev cX7_rivalsEnd : ByteArray := prog_1_method_46_code
def yX7_rivalsEnd : MethodName := ⟨RX7, "rivalsEnd", "(LSingleCopy$City;LSingleCopy$Mind;IIII)I"⟩
def RX8 : String := "SingleCopyModel"
def TX8 : u_T := fun k => match k with
  | 0 => ("SingleCopyModel", "city", "[I", true)
  | 1 => ("SingleCopyModel", "read", "[I", true)
  | 2 => ("SingleCopyModel", "now", "[I", true)
  | 3 => ("SingleCopyModel", "past", "[I", true)
  | 4 => ("SingleCopyModel", "undos", "I", false)
  | 5 => ("SingleCopyModel", "images", "[I", true)
  | 6 => ("SingleCopyModel", "kept", "[Z", true)
  | 7 => ("SingleCopyModel", "seed", "J", false)
  | 8 => ("SingleCopyModel", "text", "[I", true)
  | 9 => ("SingleCopyModel", "size", "I", false)
  | 10 => ("SingleCopyModel", "fault", "I", false)
  | 11 => ("SingleCopyModel", "thoughts", "[I", true)
  | 12 => ("SingleCopyModel", "thoughtMany", "I", false)
  | 13 => ("SingleCopyModel", "book", "[I", true)
  | 14 => ("SingleCopyModel", "bookMany", "I", false)
  | 15 => ("SingleCopyModel", "at", "I", false)
  | 16 => ("SingleCopyModel", "begin", "I", false)
  | 17 => ("SingleCopyModel", "sign", "I", false)
  | 18 => ("SingleCopyModel", "figures", "I", false)
  | 19 => ("SingleCopyModel", "value", "I", false)
  | 20 => ("SingleCopyModel", "wrong", "I", false)
  | 21 => ("SingleCopyModel", "tonight", "[I", true)
  | 22 => ("SingleCopyModel", "tomorrow", "[I", true)
  | 23 => ("SingleCopyModel", "firstSheet", "I", false)
  | 24 => ("SingleCopyModel", "secondSheet", "I", false)
  | 25 => ("SingleCopyModel", "steps", "[I", true)
  | 26 => ("SingleCopyModel", "printed", "[I", true)
  | 27 => ("SingleCopyModel", "tried", "[I", true)
  | _ => ("SingleCopyModel", "best", "[I", true)
def tyX8 : Nat → FieldType := fun k => match k with
  | 0 => .array .int
  | 1 => .array .int
  | 2 => .array .int
  | 3 => .array .int
  | 4 => .int
  | 5 => .array .int
  | 6 => .array .boolean
  | 7 => .long
  | 8 => .array .int
  | 9 => .int
  | 10 => .int
  | 11 => .array .int
  | 12 => .int
  | 13 => .array .int
  | 14 => .int
  | 15 => .int
  | 16 => .int
  | 17 => .int
  | 18 => .int
  | 19 => .int
  | 20 => .int
  | 21 => .array .int
  | 22 => .array .int
  | 23 => .int
  | 24 => .int
  | 25 => .array .int
  | 26 => .array .int
  | 27 => .array .int
  | _ => .array .int
abbrev wsX80 : List Cond := u_ws RX8 TX8 29
theorem nmX8 : ∀ a, a < 29 → ∀ b, b < 29 → a ≠ b → (TX8 a).2.1 ≠ (TX8 b).2.1 := by decide +kernel
theorem tyX8_ok : ∀ k, k < 29 → parseFieldDescriptor (TX8 k).2.2.1 = some (tyX8 k) := by decide +kernel
abbrev cX8_init : ByteArray := prog_10_method_1_code
def yX8_init : MethodName := ⟨RX8, "<init>", "()V"⟩
abbrev cX8_in : ByteArray := prog_10_method_3_code
def yX8_in : MethodName := ⟨RX8, "in", "(JJJ)Z"⟩
abbrev cX8_has : ByteArray := prog_10_method_4_code
def yX8_has : MethodName := ⟨RX8, "has", "(II)Z"⟩
abbrev cX8_bits : ByteArray := prog_10_method_5_code
def yX8_bits : MethodName := ⟨RX8, "bits", "(I)I"⟩
abbrev cX8_begins : ByteArray := prog_10_method_6_code
def yX8_begins : MethodName := ⟨RX8, "begins", "()V"⟩
abbrev cX8_feed : ByteArray := prog_10_method_7_code
def yX8_feed : MethodName := ⟨RX8, "feed", "(I)I"⟩
abbrev cX8_here : ByteArray := prog_10_method_8_code
def yX8_here : MethodName := ⟨RX8, "here", "()I"⟩
abbrev cX8_step : ByteArray := prog_10_method_9_code
def yX8_step : MethodName := ⟨RX8, "step", "()V"⟩
abbrev cX8_fails : ByteArray := prog_10_method_10_code
def yX8_fails : MethodName := ⟨RX8, "fails", "(I)Z"⟩
abbrev cX8_number : ByteArray := prog_10_method_11_code
def yX8_number : MethodName := ⟨RX8, "number", "(III)Z"⟩
abbrev cX8_ends : ByteArray := prog_10_method_12_code
def yX8_ends : MethodName := ⟨RX8, "ends", "()Z"⟩
abbrev cX8_readsReader : ByteArray := prog_10_method_13_code
def yX8_readsReader : MethodName := ⟨RX8, "readsReader", "()Z"⟩
abbrev cX8_readsFact : ByteArray := prog_10_method_14_code
def yX8_readsFact : MethodName := ⟨RX8, "readsFact", "()Z"⟩
abbrev cX8_readsSure : ByteArray := prog_10_method_15_code
def yX8_readsSure : MethodName := ⟨RX8, "readsSure", "()Z"⟩
abbrev cX8_readsClause : ByteArray := prog_10_method_16_code
def yX8_readsClause : MethodName := ⟨RX8, "readsClause", "()Z"⟩
abbrev cX8_city : ByteArray := prog_10_method_17_code
def yX8_city : MethodName := ⟨RX8, "city", "()I"⟩
abbrev cX8_fault : ByteArray := prog_10_method_18_code
def yX8_fault : MethodName := ⟨RX8, "fault", "()I"⟩
abbrev cX8_isOpinion : ByteArray := prog_10_method_19_code
def yX8_isOpinion : MethodName := ⟨RX8, "isOpinion", "(I)Z"⟩
abbrev cX8_isFact : ByteArray := prog_10_method_20_code
def yX8_isFact : MethodName := ⟨RX8, "isFact", "(I)Z"⟩
abbrev cX8_areFacts : ByteArray := prog_10_method_21_code
def yX8_areFacts : MethodName := ⟨RX8, "areFacts", "(I)Z"⟩
abbrev cX8_areOpinions : ByteArray := prog_10_method_22_code
def yX8_areOpinions : MethodName := ⟨RX8, "areOpinions", "(I)Z"⟩
abbrev cX8_convinced : ByteArray := prog_10_method_23_code
def yX8_convinced : MethodName := ⟨RX8, "convinced", "([I)I"⟩
abbrev cX8_told : ByteArray := prog_10_method_24_code
def yX8_told : MethodName := ⟨RX8, "told", "(I)I"⟩
abbrev cX8_belief : ByteArray := prog_10_method_25_code
def yX8_belief : MethodName := ⟨RX8, "belief", "(I)I"⟩
abbrev cX8_fact : ByteArray := prog_10_method_26_code
def yX8_fact : MethodName := ⟨RX8, "fact", "(II)I"⟩
abbrev cX8_bound : ByteArray := prog_10_method_27_code
def yX8_bound : MethodName := ⟨RX8, "bound", "(I)I"⟩
abbrev cX8_reads : ByteArray := prog_10_method_28_code
def yX8_reads : MethodName := ⟨RX8, "reads", "([III)Z"⟩
abbrev cX8_byOf : ByteArray := prog_10_method_29_code
def yX8_byOf : MethodName := ⟨RX8, "byOf", "(I)I"⟩
abbrev cX8_readsSheet : ByteArray := prog_10_method_30_code
def yX8_readsSheet : MethodName := ⟨RX8, "readsSheet", "([II)I"⟩
abbrev cX8_maySheet : ByteArray := prog_10_method_31_code
def yX8_maySheet : MethodName := ⟨RX8, "maySheet", "(II)Z"⟩
abbrev cX8_copies : ByteArray := prog_10_method_32_code
def yX8_copies : MethodName := ⟨RX8, "copies", "([II[III)V"⟩
abbrev cX8_remember : ByteArray := prog_10_method_33_code
def yX8_remember : MethodName := ⟨RX8, "remember", "()V"⟩
abbrev cX8_prints : ByteArray := prog_10_method_34_code
def yX8_prints : MethodName := ⟨RX8, "prints", "(I)V"⟩
abbrev cX8_night : ByteArray := prog_10_method_35_code
def yX8_night : MethodName := ⟨RX8, "night", "(I)I"⟩
abbrev cX8_meet : ByteArray := prog_10_method_36_code
def yX8_meet : MethodName := ⟨RX8, "meet", "(II)I"⟩
abbrev cX8_make : ByteArray := prog_10_method_37_code
def yX8_make : MethodName := ⟨RX8, "make", "(I)I"⟩
abbrev cX8_draw : ByteArray := prog_10_method_38_code
def yX8_draw : MethodName := ⟨RX8, "draw", "(I)I"⟩
abbrev cX8_drift : ByteArray := prog_10_method_39_code
def yX8_drift : MethodName := ⟨RX8, "drift", "(I)I"⟩
abbrev cX8_undo : ByteArray := prog_10_method_40_code
def yX8_undo : MethodName := ⟨RX8, "undo", "()I"⟩
abbrev cX8_triesTonight : ByteArray := prog_10_method_41_code
def yX8_triesTonight : MethodName := ⟨RX8, "triesTonight", "(I)I"⟩
abbrev cX8_thinks : ByteArray := prog_10_method_42_code
def yX8_thinks : MethodName := ⟨RX8, "thinks", "(II)I"⟩
abbrev cX8_isWanted : ByteArray := prog_10_method_43_code
def yX8_isWanted : MethodName := ⟨RX8, "isWanted", "([III)Z"⟩
abbrev cX8_layNights : ByteArray := prog_10_method_44_code
def yX8_layNights : MethodName := ⟨RX8, "layNights", "(II)I"⟩
abbrev cX8_soonest : ByteArray := prog_10_method_45_code
def yX8_soonest : MethodName := ⟨RX8, "soonest", "(III)I"⟩
abbrev cX8_cannot : ByteArray := prog_10_method_46_code
def yX8_cannot : MethodName := ⟨RX8, "cannot", "()I"⟩
abbrev cX8_costOf : ByteArray := prog_10_method_47_code
def yX8_costOf : MethodName := ⟨RX8, "costOf", "(I)I"⟩
abbrev cX8_convinces : ByteArray := prog_10_method_48_code
def yX8_convinces : MethodName := ⟨RX8, "convinces", "(II)Z"⟩
abbrev cX8_least : ByteArray := prog_10_method_49_code
def yX8_least : MethodName := ⟨RX8, "least", "(II)I"⟩
abbrev cX8_beginsStep : ByteArray := prog_10_method_50_code
def yX8_beginsStep : MethodName := ⟨RX8, "beginsStep", "(I)V"⟩
abbrev cX8_weighs : ByteArray := prog_10_method_51_code
def yX8_weighs : MethodName := ⟨RX8, "weighs", "(II)V"⟩
abbrev cX8_goes : ByteArray := prog_10_method_52_code
def yX8_goes : MethodName := ⟨RX8, "goes", "(I)Z"⟩
abbrev cX8_rivals : ByteArray := prog_10_method_53_code
def yX8_rivals : MethodName := ⟨RX8, "rivals", "(II)I"⟩
abbrev cX8_shun : ByteArray := prog_10_method_54_code
def yX8_shun : MethodName := ⟨RX8, "shun", "(II)I"⟩
abbrev cX8_holds : ByteArray := prog_10_method_55_code
def yX8_holds : MethodName := ⟨RX8, "holds", "(II)I"⟩
abbrev cX8_worn : ByteArray := prog_10_method_56_code
def yX8_worn : MethodName := ⟨RX8, "worn", "()I"⟩
abbrev cX8_thought : ByteArray := prog_10_method_57_code
def yX8_thought : MethodName := ⟨RX8, "thought", "(II)I"⟩
abbrev cX8_isThought : ByteArray := prog_10_method_58_code
def yX8_isThought : MethodName := ⟨RX8, "isThought", "()Z"⟩
abbrev cX8_leftOut : ByteArray := prog_10_method_59_code
def yX8_leftOut : MethodName := ⟨RX8, "leftOut", "(I)I"⟩
abbrev cX8_strengths : ByteArray := prog_10_method_60_code
def yX8_strengths : MethodName := ⟨RX8, "strengths", "(II)I"⟩
abbrev cX8_write : ByteArray := prog_10_method_61_code
def yX8_write : MethodName := ⟨RX8, "write", "(II)I"⟩
abbrev cX8_tear : ByteArray := prog_10_method_62_code
def yX8_tear : MethodName := ⟨RX8, "tear", "()I"⟩
abbrev cX8_judge : ByteArray := prog_10_method_63_code
def yX8_judge : MethodName := ⟨RX8, "judge", "()I"⟩
abbrev cX8_seed : ByteArray := prog_10_method_64_code
def yX8_seed : MethodName := ⟨RX8, "seed", "(I)I"⟩
abbrev cX8_keep : ByteArray := prog_10_method_65_code
def yX8_keep : MethodName := ⟨RX8, "keep", "(I)I"⟩
abbrev cX8_goBack : ByteArray := prog_10_method_66_code
def yX8_goBack : MethodName := ⟨RX8, "goBack", "(I)I"⟩
def RJ6 : String := "java/lang/Integer"
def TJ6 : u_T := fun k => match k with
  | _ => ("", "", "", false)
def tyJ6 : Nat → FieldType := fun k => match k with
  | _ => .int
abbrev wsJ60 : List Cond := u_ws RJ6 TJ6 0
theorem nmJ6 : ∀ a, a < 0 → ∀ b, b < 0 → a ≠ b → (TJ6 a).2.1 ≠ (TJ6 b).2.1 := by decide +kernel
theorem tyJ6_ok : ∀ k, k < 0 → parseFieldDescriptor (TJ6 k).2.2.1 = some (tyJ6 k) := by decide +kernel
abbrev cJ6_bitCount_0f7a4 : ByteArray := prog_11_method_49_code
def yJ6_bitCount_0f7a4 : MethodName := ⟨RJ6, "bitCount", "(I)I"⟩
def RJ9 : String := "java/lang/Math"
def TJ9 : u_T := fun k => match k with
  | _ => ("", "", "", false)
def tyJ9 : Nat → FieldType := fun k => match k with
  | _ => .int
abbrev wsJ90 : List Cond := u_ws RJ9 TJ9 0
theorem nmJ9 : ∀ a, a < 0 → ∀ b, b < 0 → a ≠ b → (TJ9 a).2.1 ≠ (TJ9 b).2.1 := by decide +kernel
theorem tyJ9_ok : ∀ k, k < 0 → parseFieldDescriptor (TJ9 k).2.2.1 = some (tyJ9 k) := by decide +kernel
abbrev cJ9_max_7cf53 : ByteArray := prog_12_method_65_code
def yJ9_max_7cf53 : MethodName := ⟨RJ9, "max", "(II)I"⟩
abbrev cJ9_min_7cf53 : ByteArray := prog_12_method_69_code
def yJ9_min_7cf53 : MethodName := ⟨RJ9, "min", "(II)I"⟩
def RL : String := "SingleCopyLaw"
abbrev cL_law : ByteArray := code
def yL_law : MethodName := ⟨RL, "law", "([I)Z"⟩
abbrev vwCl : List vw_C := [(RX0, TX0, 3), (RX1, TX1, 10), (RX2, TX2, 7), (RX3, TX3, 6), (RX4, TX4, 3), (RX5, TX5, 3), (RX6, TX6, 1), (RX7, TX7, 14), (RX8, TX8, 29)]
end
section
theorem dX0_init_0 : decode cX0_init 0 = .ok (.aload_n 0, 1) := by decide +kernel
theorem dX0_init_1 : decode cX0_init 1 = .ok (.invokespecial 3, 3) := by decide +kernel
theorem dX0_init_4 : decode cX0_init 4 = .ok (.aload_n 0, 1) := by decide +kernel
theorem dX0_init_5 : decode cX0_init 5 = .ok (.iconst 0, 1) := by decide +kernel
theorem dX0_init_6 : decode cX0_init 6 = .ok (.putfield 9, 3) := by decide +kernel
theorem dX0_init_9 : decode cX0_init 9 = .ok (.aload_n 0, 1) := by decide +kernel
theorem dX0_init_10 : decode cX0_init 10 = .ok (.iconst 0, 1) := by decide +kernel
theorem dX0_init_11 : decode cX0_init 11 = .ok (.iload_n 1, 1) := by decide +kernel
theorem dX0_init_12 : decode cX0_init 12 = .ok (.invokestatic 15, 3) := by decide +kernel
theorem dX0_init_15 : decode cX0_init 15 = .ok (.newarray .int, 2) := by decide +kernel
theorem dX0_init_17 : decode cX0_init 17 = .ok (.putfield 21, 3) := by decide +kernel
theorem dX0_init_20 : decode cX0_init 20 = .ok (.aload_n 0, 1) := by decide +kernel
theorem dX0_init_21 : decode cX0_init 21 = .ok (.iconst 0, 1) := by decide +kernel
theorem dX0_init_22 : decode cX0_init 22 = .ok (.iload_n 1, 1) := by decide +kernel
theorem dX0_init_23 : decode cX0_init 23 = .ok (.invokestatic 15, 3) := by decide +kernel
theorem dX0_init_26 : decode cX0_init 26 = .ok (.newarray .int, 2) := by decide +kernel
theorem dX0_init_28 : decode cX0_init 28 = .ok (.putfield 25, 3) := by decide +kernel
theorem dX0_init_31 : decode cX0_init 31 = .ok (.return_, 1) := by decide +kernel
theorem dX0_clear_0 : decode cX0_clear 0 = .ok (.aload_n 0, 1) := by decide +kernel
theorem dX0_clear_1 : decode cX0_clear 1 = .ok (.iconst 0, 1) := by decide +kernel
theorem dX0_clear_2 : decode cX0_clear 2 = .ok (.putfield 9, 3) := by decide +kernel
theorem dX0_clear_5 : decode cX0_clear 5 = .ok (.return_, 1) := by decide +kernel
theorem dX0_append_0 : decode cX0_append 0 = .ok (.aload_n 0, 1) := by decide +kernel
theorem dX0_append_1 : decode cX0_append 1 = .ok (.getfield 9, 3) := by decide +kernel
theorem dX0_append_4 : decode cX0_append 4 = .ok (.aload_n 0, 1) := by decide +kernel
theorem dX0_append_5 : decode cX0_append 5 = .ok (.getfield 21, 3) := by decide +kernel
theorem dX0_append_8 : decode cX0_append 8 = .ok (.arraylength, 1) := by decide +kernel
theorem dX0_append_9 : decode cX0_append 9 = .ok (.if_icmp .lt 5, 3) := by decide +kernel
theorem dX0_append_12 : decode cX0_append 12 = .ok (.iconst 0, 1) := by decide +kernel
theorem dX0_append_13 : decode cX0_append 13 = .ok (.ireturn, 1) := by decide +kernel
theorem dX0_append_14 : decode cX0_append 14 = .ok (.aload_n 0, 1) := by decide +kernel
theorem dX0_append_15 : decode cX0_append 15 = .ok (.getfield 21, 3) := by decide +kernel
theorem dX0_append_18 : decode cX0_append 18 = .ok (.aload_n 0, 1) := by decide +kernel
theorem dX0_append_19 : decode cX0_append 19 = .ok (.getfield 9, 3) := by decide +kernel
theorem dX0_append_22 : decode cX0_append 22 = .ok (.iload_n 1, 1) := by decide +kernel
theorem dX0_append_23 : decode cX0_append 23 = .ok (.invokestatic 28, 3) := by decide +kernel
theorem dX0_append_26 : decode cX0_append 26 = .ok (.aload_n 0, 1) := by decide +kernel
theorem dX0_append_27 : decode cX0_append 27 = .ok (.getfield 25, 3) := by decide +kernel
theorem dX0_append_30 : decode cX0_append 30 = .ok (.aload_n 0, 1) := by decide +kernel
theorem dX0_append_31 : decode cX0_append 31 = .ok (.getfield 9, 3) := by decide +kernel
theorem dX0_append_34 : decode cX0_append 34 = .ok (.iload_n 2, 1) := by decide +kernel
theorem dX0_append_35 : decode cX0_append 35 = .ok (.invokestatic 28, 3) := by decide +kernel
theorem dX0_append_38 : decode cX0_append 38 = .ok (.aload_n 0, 1) := by decide +kernel
theorem dX0_append_39 : decode cX0_append 39 = .ok (.dup, 1) := by decide +kernel
theorem dX0_append_40 : decode cX0_append 40 = .ok (.getfield 9, 3) := by decide +kernel
theorem dX0_append_43 : decode cX0_append 43 = .ok (.iconst 1, 1) := by decide +kernel
theorem dX0_append_44 : decode cX0_append 44 = .ok (.iadd, 1) := by decide +kernel
theorem dX0_append_45 : decode cX0_append 45 = .ok (.putfield 9, 3) := by decide +kernel
theorem dX0_append_48 : decode cX0_append 48 = .ok (.iconst 1, 1) := by decide +kernel
theorem dX0_append_49 : decode cX0_append 49 = .ok (.ireturn, 1) := by decide +kernel
theorem dX0_firstOtherwise_0 : decode cX0_firstOtherwise 0 = .ok (.iconst 0, 1) := by decide +kernel
theorem dX0_firstOtherwise_1 : decode cX0_firstOtherwise 1 = .ok (.istore_n 2, 1) := by decide +kernel
theorem dX0_firstOtherwise_2 : decode cX0_firstOtherwise 2 = .ok (.iload_n 2, 1) := by decide +kernel
theorem dX0_firstOtherwise_3 : decode cX0_firstOtherwise 3 = .ok (.aload_n 0, 1) := by decide +kernel
theorem dX0_firstOtherwise_4 : decode cX0_firstOtherwise 4 = .ok (.getfield 9, 3) := by decide +kernel
theorem dX0_firstOtherwise_7 : decode cX0_firstOtherwise 7 = .ok (.if_icmp .ge 37, 3) := by decide +kernel
theorem dX0_firstOtherwise_10 : decode cX0_firstOtherwise 10 = .ok (.aload_n 1, 1) := by decide +kernel
theorem dX0_firstOtherwise_11 : decode cX0_firstOtherwise 11 = .ok (.getfield 32, 3) := by decide +kernel
theorem dX0_firstOtherwise_14 : decode cX0_firstOtherwise 14 = .ok (.aload_n 0, 1) := by decide +kernel
theorem dX0_firstOtherwise_15 : decode cX0_firstOtherwise 15 = .ok (.getfield 21, 3) := by decide +kernel
theorem dX0_firstOtherwise_18 : decode cX0_firstOtherwise 18 = .ok (.iload_n 2, 1) := by decide +kernel
theorem dX0_firstOtherwise_19 : decode cX0_firstOtherwise 19 = .ok (.invokestatic 37, 3) := by decide +kernel
theorem dX0_firstOtherwise_22 : decode cX0_firstOtherwise 22 = .ok (.invokestatic 37, 3) := by decide +kernel
theorem dX0_firstOtherwise_25 : decode cX0_firstOtherwise 25 = .ok (.aload_n 0, 1) := by decide +kernel
theorem dX0_firstOtherwise_26 : decode cX0_firstOtherwise 26 = .ok (.getfield 25, 3) := by decide +kernel
theorem dX0_firstOtherwise_29 : decode cX0_firstOtherwise 29 = .ok (.iload_n 2, 1) := by decide +kernel
theorem dX0_firstOtherwise_30 : decode cX0_firstOtherwise 30 = .ok (.invokestatic 37, 3) := by decide +kernel
theorem dX0_firstOtherwise_33 : decode cX0_firstOtherwise 33 = .ok (.if_icmp .eq 5, 3) := by decide +kernel
theorem dX0_firstOtherwise_36 : decode cX0_firstOtherwise 36 = .ok (.iload_n 2, 1) := by decide +kernel
theorem dX0_firstOtherwise_37 : decode cX0_firstOtherwise 37 = .ok (.ireturn, 1) := by decide +kernel
theorem dX0_firstOtherwise_38 : decode cX0_firstOtherwise 38 = .ok (.iinc 2 1, 3) := by decide +kernel
theorem dX0_firstOtherwise_41 : decode cX0_firstOtherwise 41 = .ok (.goto (-39), 3) := by decide +kernel
theorem dX0_firstOtherwise_44 : decode cX0_firstOtherwise 44 = .ok (.iconst (-1), 1) := by decide +kernel
theorem dX0_firstOtherwise_45 : decode cX0_firstOtherwise 45 = .ok (.ireturn, 1) := by decide +kernel
theorem dX1_init_0 : decode cX1_init 0 = .ok (.aload_n 0, 1) := by decide +kernel
theorem dX1_init_1 : decode cX1_init 1 = .ok (.invokespecial 3, 3) := by decide +kernel
theorem dX1_init_4 : decode cX1_init 4 = .ok (.aload_n 0, 1) := by decide +kernel
theorem dX1_init_5 : decode cX1_init 5 = .ok (.bipush 10, 2) := by decide +kernel
theorem dX1_init_7 : decode cX1_init 7 = .ok (.putfield 9, 3) := by decide +kernel
theorem dX1_init_10 : decode cX1_init 10 = .ok (.aload_n 0, 1) := by decide +kernel
theorem dX1_init_11 : decode cX1_init 11 = .ok (.iconst 5, 1) := by decide +kernel
theorem dX1_init_12 : decode cX1_init 12 = .ok (.newarray .int, 2) := by decide +kernel
theorem dX1_init_14 : decode cX1_init 14 = .ok (.putfield 15, 3) := by decide +kernel
theorem dX1_init_17 : decode cX1_init 17 = .ok (.aload_n 0, 1) := by decide +kernel
theorem dX1_init_18 : decode cX1_init 18 = .ok (.bipush 8, 2) := by decide +kernel
theorem dX1_init_20 : decode cX1_init 20 = .ok (.newarray .int, 2) := by decide +kernel
theorem dX1_init_22 : decode cX1_init 22 = .ok (.putfield 19, 3) := by decide +kernel
theorem dX1_init_25 : decode cX1_init 25 = .ok (.aload_n 0, 1) := by decide +kernel
theorem dX1_init_26 : decode cX1_init 26 = .ok (.bipush 8, 2) := by decide +kernel
theorem dX1_init_28 : decode cX1_init 28 = .ok (.newarray .int, 2) := by decide +kernel
theorem dX1_init_30 : decode cX1_init 30 = .ok (.putfield 22, 3) := by decide +kernel
theorem dX1_init_33 : decode cX1_init 33 = .ok (.aload_n 0, 1) := by decide +kernel
theorem dX1_init_34 : decode cX1_init 34 = .ok (.bipush 8, 2) := by decide +kernel
theorem dX1_init_36 : decode cX1_init 36 = .ok (.newarray .int, 2) := by decide +kernel
theorem dX1_init_38 : decode cX1_init 38 = .ok (.putfield 25, 3) := by decide +kernel
theorem dX1_init_41 : decode cX1_init 41 = .ok (.aload_n 0, 1) := by decide +kernel
theorem dX1_init_42 : decode cX1_init 42 = .ok (.bipush 8, 2) := by decide +kernel
theorem dX1_init_44 : decode cX1_init 44 = .ok (.newarray .int, 2) := by decide +kernel
theorem dX1_init_46 : decode cX1_init 46 = .ok (.putfield 28, 3) := by decide +kernel
theorem dX1_init_49 : decode cX1_init 49 = .ok (.aload_n 0, 1) := by decide +kernel
theorem dX1_init_50 : decode cX1_init 50 = .ok (.bipush 8, 2) := by decide +kernel
theorem dX1_init_52 : decode cX1_init 52 = .ok (.newarray .int, 2) := by decide +kernel
theorem dX1_init_54 : decode cX1_init 54 = .ok (.putfield 31, 3) := by decide +kernel
theorem dX1_init_57 : decode cX1_init 57 = .ok (.return_, 1) := by decide +kernel
theorem dX1_clear_0 : decode cX1_clear 0 = .ok (.aload_n 0, 1) := by decide +kernel
theorem dX1_clear_1 : decode cX1_clear 1 = .ok (.iconst 0, 1) := by decide +kernel
theorem dX1_clear_2 : decode cX1_clear 2 = .ok (.putfield 34, 3) := by decide +kernel
theorem dX1_clear_5 : decode cX1_clear 5 = .ok (.aload_n 0, 1) := by decide +kernel
theorem dX1_clear_6 : decode cX1_clear 6 = .ok (.iconst 0, 1) := by decide +kernel
theorem dX1_clear_7 : decode cX1_clear 7 = .ok (.putfield 37, 3) := by decide +kernel
theorem dX1_clear_10 : decode cX1_clear 10 = .ok (.aload_n 0, 1) := by decide +kernel
theorem dX1_clear_11 : decode cX1_clear 11 = .ok (.iconst 0, 1) := by decide +kernel
theorem dX1_clear_12 : decode cX1_clear 12 = .ok (.putfield 40, 3) := by decide +kernel
theorem dX1_clear_15 : decode cX1_clear 15 = .ok (.aload_n 0, 1) := by decide +kernel
theorem dX1_clear_16 : decode cX1_clear 16 = .ok (.bipush 10, 2) := by decide +kernel
theorem dX1_clear_18 : decode cX1_clear 18 = .ok (.putfield 9, 3) := by decide +kernel
theorem dX1_clear_21 : decode cX1_clear 21 = .ok (.return_, 1) := by decide +kernel
theorem dX1_copyFrom_0 : decode cX1_copyFrom 0 = .ok (.aload_n 0, 1) := by decide +kernel
theorem dX1_copyFrom_1 : decode cX1_copyFrom 1 = .ok (.aload_n 1, 1) := by decide +kernel
theorem dX1_copyFrom_2 : decode cX1_copyFrom 2 = .ok (.getfield 34, 3) := by decide +kernel
theorem dX1_copyFrom_5 : decode cX1_copyFrom 5 = .ok (.putfield 34, 3) := by decide +kernel
theorem dX1_copyFrom_8 : decode cX1_copyFrom 8 = .ok (.aload_n 0, 1) := by decide +kernel
theorem dX1_copyFrom_9 : decode cX1_copyFrom 9 = .ok (.aload_n 1, 1) := by decide +kernel
theorem dX1_copyFrom_10 : decode cX1_copyFrom 10 = .ok (.getfield 37, 3) := by decide +kernel
theorem dX1_copyFrom_13 : decode cX1_copyFrom 13 = .ok (.putfield 37, 3) := by decide +kernel
theorem dX1_copyFrom_16 : decode cX1_copyFrom 16 = .ok (.aload_n 0, 1) := by decide +kernel
theorem dX1_copyFrom_17 : decode cX1_copyFrom 17 = .ok (.aload_n 1, 1) := by decide +kernel
theorem dX1_copyFrom_18 : decode cX1_copyFrom 18 = .ok (.getfield 40, 3) := by decide +kernel
theorem dX1_copyFrom_21 : decode cX1_copyFrom 21 = .ok (.putfield 40, 3) := by decide +kernel
theorem dX1_copyFrom_24 : decode cX1_copyFrom 24 = .ok (.aload_n 0, 1) := by decide +kernel
theorem dX1_copyFrom_25 : decode cX1_copyFrom 25 = .ok (.aload_n 1, 1) := by decide +kernel
theorem dX1_copyFrom_26 : decode cX1_copyFrom 26 = .ok (.getfield 9, 3) := by decide +kernel
theorem dX1_copyFrom_29 : decode cX1_copyFrom 29 = .ok (.putfield 9, 3) := by decide +kernel
theorem dX1_copyFrom_32 : decode cX1_copyFrom 32 = .ok (.iconst 0, 1) := by decide +kernel
theorem dX1_copyFrom_33 : decode cX1_copyFrom 33 = .ok (.istore_n 2, 1) := by decide +kernel
theorem dX1_copyFrom_34 : decode cX1_copyFrom 34 = .ok (.iload_n 2, 1) := by decide +kernel
theorem dX1_copyFrom_35 : decode cX1_copyFrom 35 = .ok (.iconst 5, 1) := by decide +kernel
theorem dX1_copyFrom_36 : decode cX1_copyFrom 36 = .ok (.if_icmp .ge 25, 3) := by decide +kernel
theorem dX1_copyFrom_39 : decode cX1_copyFrom 39 = .ok (.aload_n 0, 1) := by decide +kernel
theorem dX1_copyFrom_40 : decode cX1_copyFrom 40 = .ok (.getfield 15, 3) := by decide +kernel
theorem dX1_copyFrom_43 : decode cX1_copyFrom 43 = .ok (.iload_n 2, 1) := by decide +kernel
theorem dX1_copyFrom_44 : decode cX1_copyFrom 44 = .ok (.aload_n 1, 1) := by decide +kernel
theorem dX1_copyFrom_45 : decode cX1_copyFrom 45 = .ok (.getfield 15, 3) := by decide +kernel
theorem dX1_copyFrom_48 : decode cX1_copyFrom 48 = .ok (.iload_n 2, 1) := by decide +kernel
theorem dX1_copyFrom_49 : decode cX1_copyFrom 49 = .ok (.invokestatic 43, 3) := by decide +kernel
theorem dX1_copyFrom_52 : decode cX1_copyFrom 52 = .ok (.invokestatic 47, 3) := by decide +kernel
theorem dX1_copyFrom_55 : decode cX1_copyFrom 55 = .ok (.iinc 2 1, 3) := by decide +kernel
theorem dX1_copyFrom_58 : decode cX1_copyFrom 58 = .ok (.goto (-24), 3) := by decide +kernel
theorem dX1_copyFrom_61 : decode cX1_copyFrom 61 = .ok (.iconst 0, 1) := by decide +kernel
theorem dX1_copyFrom_62 : decode cX1_copyFrom 62 = .ok (.istore_n 2, 1) := by decide +kernel
theorem dX1_copyFrom_63 : decode cX1_copyFrom 63 = .ok (.iload_n 2, 1) := by decide +kernel
theorem dX1_copyFrom_64 : decode cX1_copyFrom 64 = .ok (.bipush 8, 2) := by decide +kernel
theorem dX1_copyFrom_66 : decode cX1_copyFrom 66 = .ok (.if_icmp .ge 89, 3) := by decide +kernel
theorem dX1_copyFrom_69 : decode cX1_copyFrom 69 = .ok (.aload_n 0, 1) := by decide +kernel
theorem dX1_copyFrom_70 : decode cX1_copyFrom 70 = .ok (.getfield 19, 3) := by decide +kernel
theorem dX1_copyFrom_73 : decode cX1_copyFrom 73 = .ok (.iload_n 2, 1) := by decide +kernel
theorem dX1_copyFrom_74 : decode cX1_copyFrom 74 = .ok (.aload_n 1, 1) := by decide +kernel
theorem dX1_copyFrom_75 : decode cX1_copyFrom 75 = .ok (.getfield 19, 3) := by decide +kernel
theorem dX1_copyFrom_78 : decode cX1_copyFrom 78 = .ok (.iload_n 2, 1) := by decide +kernel
theorem dX1_copyFrom_79 : decode cX1_copyFrom 79 = .ok (.invokestatic 43, 3) := by decide +kernel
theorem dX1_copyFrom_82 : decode cX1_copyFrom 82 = .ok (.invokestatic 47, 3) := by decide +kernel
theorem dX1_copyFrom_85 : decode cX1_copyFrom 85 = .ok (.aload_n 0, 1) := by decide +kernel
theorem dX1_copyFrom_86 : decode cX1_copyFrom 86 = .ok (.getfield 22, 3) := by decide +kernel
theorem dX1_copyFrom_89 : decode cX1_copyFrom 89 = .ok (.iload_n 2, 1) := by decide +kernel
theorem dX1_copyFrom_90 : decode cX1_copyFrom 90 = .ok (.aload_n 1, 1) := by decide +kernel
theorem dX1_copyFrom_91 : decode cX1_copyFrom 91 = .ok (.getfield 22, 3) := by decide +kernel
theorem dX1_copyFrom_94 : decode cX1_copyFrom 94 = .ok (.iload_n 2, 1) := by decide +kernel
theorem dX1_copyFrom_95 : decode cX1_copyFrom 95 = .ok (.invokestatic 43, 3) := by decide +kernel
theorem dX1_copyFrom_98 : decode cX1_copyFrom 98 = .ok (.invokestatic 47, 3) := by decide +kernel
theorem dX1_copyFrom_101 : decode cX1_copyFrom 101 = .ok (.aload_n 0, 1) := by decide +kernel
theorem dX1_copyFrom_102 : decode cX1_copyFrom 102 = .ok (.getfield 25, 3) := by decide +kernel
theorem dX1_copyFrom_105 : decode cX1_copyFrom 105 = .ok (.iload_n 2, 1) := by decide +kernel
theorem dX1_copyFrom_106 : decode cX1_copyFrom 106 = .ok (.aload_n 1, 1) := by decide +kernel
theorem dX1_copyFrom_107 : decode cX1_copyFrom 107 = .ok (.getfield 25, 3) := by decide +kernel
theorem dX1_copyFrom_110 : decode cX1_copyFrom 110 = .ok (.iload_n 2, 1) := by decide +kernel
theorem dX1_copyFrom_111 : decode cX1_copyFrom 111 = .ok (.invokestatic 43, 3) := by decide +kernel
theorem dX1_copyFrom_114 : decode cX1_copyFrom 114 = .ok (.invokestatic 47, 3) := by decide +kernel
theorem dX1_copyFrom_117 : decode cX1_copyFrom 117 = .ok (.aload_n 0, 1) := by decide +kernel
theorem dX1_copyFrom_118 : decode cX1_copyFrom 118 = .ok (.getfield 28, 3) := by decide +kernel
theorem dX1_copyFrom_121 : decode cX1_copyFrom 121 = .ok (.iload_n 2, 1) := by decide +kernel
theorem dX1_copyFrom_122 : decode cX1_copyFrom 122 = .ok (.aload_n 1, 1) := by decide +kernel
theorem dX1_copyFrom_123 : decode cX1_copyFrom 123 = .ok (.getfield 28, 3) := by decide +kernel
theorem dX1_copyFrom_126 : decode cX1_copyFrom 126 = .ok (.iload_n 2, 1) := by decide +kernel
theorem dX1_copyFrom_127 : decode cX1_copyFrom 127 = .ok (.invokestatic 43, 3) := by decide +kernel
theorem dX1_copyFrom_130 : decode cX1_copyFrom 130 = .ok (.invokestatic 47, 3) := by decide +kernel
theorem dX1_copyFrom_133 : decode cX1_copyFrom 133 = .ok (.aload_n 0, 1) := by decide +kernel
theorem dX1_copyFrom_134 : decode cX1_copyFrom 134 = .ok (.getfield 31, 3) := by decide +kernel
theorem dX1_copyFrom_137 : decode cX1_copyFrom 137 = .ok (.iload_n 2, 1) := by decide +kernel
theorem dX1_copyFrom_138 : decode cX1_copyFrom 138 = .ok (.aload_n 1, 1) := by decide +kernel
theorem dX1_copyFrom_139 : decode cX1_copyFrom 139 = .ok (.getfield 31, 3) := by decide +kernel
theorem dX1_copyFrom_142 : decode cX1_copyFrom 142 = .ok (.iload_n 2, 1) := by decide +kernel
theorem dX1_copyFrom_143 : decode cX1_copyFrom 143 = .ok (.invokestatic 43, 3) := by decide +kernel
theorem dX1_copyFrom_146 : decode cX1_copyFrom 146 = .ok (.invokestatic 47, 3) := by decide +kernel
theorem dX1_copyFrom_149 : decode cX1_copyFrom 149 = .ok (.iinc 2 1, 3) := by decide +kernel
theorem dX1_copyFrom_152 : decode cX1_copyFrom 152 = .ok (.goto (-89), 3) := by decide +kernel
theorem dX1_copyFrom_155 : decode cX1_copyFrom 155 = .ok (.return_, 1) := by decide +kernel
theorem dX1_hasOpinion_0 : decode cX1_hasOpinion 0 = .ok (.iload_n 1, 1) := by decide +kernel
theorem dX1_hasOpinion_1 : decode cX1_hasOpinion 1 = .ok (.ifCond .lt 15, 3) := by decide +kernel
theorem dX1_hasOpinion_4 : decode cX1_hasOpinion 4 = .ok (.iload_n 1, 1) := by decide +kernel
theorem dX1_hasOpinion_5 : decode cX1_hasOpinion 5 = .ok (.aload_n 0, 1) := by decide +kernel
theorem dX1_hasOpinion_6 : decode cX1_hasOpinion 6 = .ok (.getfield 37, 3) := by decide +kernel
theorem dX1_hasOpinion_9 : decode cX1_hasOpinion 9 = .ok (.if_icmp .ge 7, 3) := by decide +kernel
theorem dX1_hasOpinion_12 : decode cX1_hasOpinion 12 = .ok (.iconst 1, 1) := by decide +kernel
theorem dX1_hasOpinion_13 : decode cX1_hasOpinion 13 = .ok (.goto 4, 3) := by decide +kernel
theorem dX1_hasOpinion_16 : decode cX1_hasOpinion 16 = .ok (.iconst 0, 1) := by decide +kernel
theorem dX1_hasOpinion_17 : decode cX1_hasOpinion 17 = .ok (.ireturn, 1) := by decide +kernel
theorem dX1_hasFact_0 : decode cX1_hasFact 0 = .ok (.iload_n 1, 1) := by decide +kernel
theorem dX1_hasFact_1 : decode cX1_hasFact 1 = .ok (.ifCond .lt 15, 3) := by decide +kernel
theorem dX1_hasFact_4 : decode cX1_hasFact 4 = .ok (.iload_n 1, 1) := by decide +kernel
theorem dX1_hasFact_5 : decode cX1_hasFact 5 = .ok (.aload_n 0, 1) := by decide +kernel
theorem dX1_hasFact_6 : decode cX1_hasFact 6 = .ok (.getfield 40, 3) := by decide +kernel
theorem dX1_hasFact_9 : decode cX1_hasFact 9 = .ok (.if_icmp .ge 7, 3) := by decide +kernel
theorem dX1_hasFact_12 : decode cX1_hasFact 12 = .ok (.iconst 1, 1) := by decide +kernel
theorem dX1_hasFact_13 : decode cX1_hasFact 13 = .ok (.goto 4, 3) := by decide +kernel
theorem dX1_hasFact_16 : decode cX1_hasFact 16 = .ok (.iconst 0, 1) := by decide +kernel
theorem dX1_hasFact_17 : decode cX1_hasFact 17 = .ok (.ireturn, 1) := by decide +kernel
theorem dX1_hasOpinions_0 : decode cX1_hasOpinions 0 = .ok (.iload_n 1, 1) := by decide +kernel
theorem dX1_hasOpinions_1 : decode cX1_hasOpinions 1 = .ok (.iconst 1, 1) := by decide +kernel
theorem dX1_hasOpinions_2 : decode cX1_hasOpinions 2 = .ok (.aload_n 0, 1) := by decide +kernel
theorem dX1_hasOpinions_3 : decode cX1_hasOpinions 3 = .ok (.getfield 37, 3) := by decide +kernel
theorem dX1_hasOpinions_6 : decode cX1_hasOpinions 6 = .ok (.ishl, 1) := by decide +kernel
theorem dX1_hasOpinions_7 : decode cX1_hasOpinions 7 = .ok (.ineg, 1) := by decide +kernel
theorem dX1_hasOpinions_8 : decode cX1_hasOpinions 8 = .ok (.iand, 1) := by decide +kernel
theorem dX1_hasOpinions_9 : decode cX1_hasOpinions 9 = .ok (.ifCond .ne 7, 3) := by decide +kernel
theorem dX1_hasOpinions_12 : decode cX1_hasOpinions 12 = .ok (.iconst 1, 1) := by decide +kernel
theorem dX1_hasOpinions_13 : decode cX1_hasOpinions 13 = .ok (.goto 4, 3) := by decide +kernel
theorem dX1_hasOpinions_16 : decode cX1_hasOpinions 16 = .ok (.iconst 0, 1) := by decide +kernel
theorem dX1_hasOpinions_17 : decode cX1_hasOpinions 17 = .ok (.ireturn, 1) := by decide +kernel
theorem dX1_hasFacts_0 : decode cX1_hasFacts 0 = .ok (.iload_n 1, 1) := by decide +kernel
theorem dX1_hasFacts_1 : decode cX1_hasFacts 1 = .ok (.iconst 1, 1) := by decide +kernel
theorem dX1_hasFacts_2 : decode cX1_hasFacts 2 = .ok (.aload_n 0, 1) := by decide +kernel
theorem dX1_hasFacts_3 : decode cX1_hasFacts 3 = .ok (.getfield 40, 3) := by decide +kernel
theorem dX1_hasFacts_6 : decode cX1_hasFacts 6 = .ok (.ishl, 1) := by decide +kernel
theorem dX1_hasFacts_7 : decode cX1_hasFacts 7 = .ok (.ineg, 1) := by decide +kernel
theorem dX1_hasFacts_8 : decode cX1_hasFacts 8 = .ok (.iand, 1) := by decide +kernel
theorem dX1_hasFacts_9 : decode cX1_hasFacts 9 = .ok (.ifCond .ne 7, 3) := by decide +kernel
theorem dX1_hasFacts_12 : decode cX1_hasFacts 12 = .ok (.iconst 1, 1) := by decide +kernel
theorem dX1_hasFacts_13 : decode cX1_hasFacts 13 = .ok (.goto 4, 3) := by decide +kernel
theorem dX1_hasFacts_16 : decode cX1_hasFacts 16 = .ok (.iconst 0, 1) := by decide +kernel
theorem dX1_hasFacts_17 : decode cX1_hasFacts 17 = .ok (.ireturn, 1) := by decide +kernel
theorem dX1_fits_0 : decode cX1_fits 0 = .ok (.iload_n 1, 1) := by decide +kernel
theorem dX1_fits_1 : decode cX1_fits 1 = .ok (.invokestatic 51, 3) := by decide +kernel
theorem dX1_fits_4 : decode cX1_fits 4 = .ok (.aload_n 0, 1) := by decide +kernel
theorem dX1_fits_5 : decode cX1_fits 5 = .ok (.getfield 34, 3) := by decide +kernel
theorem dX1_fits_8 : decode cX1_fits 8 = .ok (.if_icmp .gt 7, 3) := by decide +kernel
theorem dX1_fits_11 : decode cX1_fits 11 = .ok (.iconst 1, 1) := by decide +kernel
theorem dX1_fits_12 : decode cX1_fits 12 = .ok (.goto 4, 3) := by decide +kernel
theorem dX1_fits_15 : decode cX1_fits 15 = .ok (.iconst 0, 1) := by decide +kernel
theorem dX1_fits_16 : decode cX1_fits 16 = .ok (.ireturn, 1) := by decide +kernel
theorem dX1_costOf_0 : decode cX1_costOf 0 = .ok (.iconst 0, 1) := by decide +kernel
theorem dX1_costOf_1 : decode cX1_costOf 1 = .ok (.istore_n 2, 1) := by decide +kernel
theorem dX1_costOf_2 : decode cX1_costOf 2 = .ok (.iconst 0, 1) := by decide +kernel
theorem dX1_costOf_3 : decode cX1_costOf 3 = .ok (.istore_n 3, 1) := by decide +kernel
theorem dX1_costOf_4 : decode cX1_costOf 4 = .ok (.iload_n 3, 1) := by decide +kernel
theorem dX1_costOf_5 : decode cX1_costOf 5 = .ok (.aload_n 0, 1) := by decide +kernel
theorem dX1_costOf_6 : decode cX1_costOf 6 = .ok (.getfield 40, 3) := by decide +kernel
theorem dX1_costOf_9 : decode cX1_costOf 9 = .ok (.if_icmp .ge 32, 3) := by decide +kernel
theorem dX1_costOf_12 : decode cX1_costOf 12 = .ok (.iload_n 2, 1) := by decide +kernel
theorem dX1_costOf_13 : decode cX1_costOf 13 = .ok (.iload_n 1, 1) := by decide +kernel
theorem dX1_costOf_14 : decode cX1_costOf 14 = .ok (.iload_n 3, 1) := by decide +kernel
theorem dX1_costOf_15 : decode cX1_costOf 15 = .ok (.invokestatic 57, 3) := by decide +kernel
theorem dX1_costOf_18 : decode cX1_costOf 18 = .ok (.ifCond .eq 14, 3) := by decide +kernel
theorem dX1_costOf_21 : decode cX1_costOf 21 = .ok (.aload_n 0, 1) := by decide +kernel
theorem dX1_costOf_22 : decode cX1_costOf 22 = .ok (.getfield 31, 3) := by decide +kernel
theorem dX1_costOf_25 : decode cX1_costOf 25 = .ok (.iload_n 3, 1) := by decide +kernel
theorem dX1_costOf_26 : decode cX1_costOf 26 = .ok (.invokestatic 43, 3) := by decide +kernel
theorem dX1_costOf_29 : decode cX1_costOf 29 = .ok (.goto 4, 3) := by decide +kernel
theorem dX1_costOf_32 : decode cX1_costOf 32 = .ok (.iconst 0, 1) := by decide +kernel
theorem dX1_costOf_33 : decode cX1_costOf 33 = .ok (.iadd, 1) := by decide +kernel
theorem dX1_costOf_34 : decode cX1_costOf 34 = .ok (.istore_n 2, 1) := by decide +kernel
theorem dX1_costOf_35 : decode cX1_costOf 35 = .ok (.iinc 3 1, 3) := by decide +kernel
theorem dX1_costOf_38 : decode cX1_costOf 38 = .ok (.goto (-34), 3) := by decide +kernel
theorem dX1_costOf_41 : decode cX1_costOf 41 = .ok (.iload_n 2, 1) := by decide +kernel
theorem dX1_costOf_42 : decode cX1_costOf 42 = .ok (.ireturn, 1) := by decide +kernel
theorem dX2_init_0 : decode cX2_init 0 = .ok (.aload_n 0, 1) := by decide +kernel
theorem dX2_init_1 : decode cX2_init 1 = .ok (.invokespecial 3, 3) := by decide +kernel
theorem dX2_init_4 : decode cX2_init 4 = .ok (.aload_n 0, 1) := by decide +kernel
theorem dX2_init_5 : decode cX2_init 5 = .ok (.sipush 240, 3) := by decide +kernel
theorem dX2_init_8 : decode cX2_init 8 = .ok (.newarray .int, 2) := by decide +kernel
theorem dX2_init_10 : decode cX2_init 10 = .ok (.putfield 9, 3) := by decide +kernel
theorem dX2_init_13 : decode cX2_init 13 = .ok (.aload_n 0, 1) := by decide +kernel
theorem dX2_init_14 : decode cX2_init 14 = .ok (.iconst 0, 1) := by decide +kernel
theorem dX2_init_15 : decode cX2_init 15 = .ok (.putfield 15, 3) := by decide +kernel
theorem dX2_init_18 : decode cX2_init 18 = .ok (.aload_n 0, 1) := by decide +kernel
theorem dX2_init_19 : decode cX2_init 19 = .ok (.iconst 0, 1) := by decide +kernel
theorem dX2_init_20 : decode cX2_init 20 = .ok (.putfield 19, 3) := by decide +kernel
theorem dX2_init_23 : decode cX2_init 23 = .ok (.aload_n 0, 1) := by decide +kernel
theorem dX2_init_24 : decode cX2_init 24 = .ok (.iconst (-1), 1) := by decide +kernel
theorem dX2_init_25 : decode cX2_init 25 = .ok (.putfield 22, 3) := by decide +kernel
theorem dX2_init_28 : decode cX2_init 28 = .ok (.return_, 1) := by decide +kernel
theorem dX2_append_0 : decode cX2_append 0 = .ok (.aload_n 0, 1) := by decide +kernel
theorem dX2_append_1 : decode cX2_append 1 = .ok (.getfield 15, 3) := by decide +kernel
theorem dX2_append_4 : decode cX2_append 4 = .ok (.sipush 240, 3) := by decide +kernel
theorem dX2_append_7 : decode cX2_append 7 = .ok (.if_icmp .lt 5, 3) := by decide +kernel
theorem dX2_append_10 : decode cX2_append 10 = .ok (.iconst 0, 1) := by decide +kernel
theorem dX2_append_11 : decode cX2_append 11 = .ok (.ireturn, 1) := by decide +kernel
theorem dX2_append_12 : decode cX2_append 12 = .ok (.aload_n 0, 1) := by decide +kernel
theorem dX2_append_13 : decode cX2_append 13 = .ok (.getfield 9, 3) := by decide +kernel
theorem dX2_append_16 : decode cX2_append 16 = .ok (.aload_n 0, 1) := by decide +kernel
theorem dX2_append_17 : decode cX2_append 17 = .ok (.getfield 15, 3) := by decide +kernel
theorem dX2_append_20 : decode cX2_append 20 = .ok (.iload_n 1, 1) := by decide +kernel
theorem dX2_append_21 : decode cX2_append 21 = .ok (.invokestatic 25, 3) := by decide +kernel
theorem dX2_append_24 : decode cX2_append 24 = .ok (.aload_n 0, 1) := by decide +kernel
theorem dX2_append_25 : decode cX2_append 25 = .ok (.dup, 1) := by decide +kernel
theorem dX2_append_26 : decode cX2_append 26 = .ok (.getfield 15, 3) := by decide +kernel
theorem dX2_append_29 : decode cX2_append 29 = .ok (.iconst 1, 1) := by decide +kernel
theorem dX2_append_30 : decode cX2_append 30 = .ok (.iadd, 1) := by decide +kernel
theorem dX2_append_31 : decode cX2_append 31 = .ok (.putfield 15, 3) := by decide +kernel
theorem dX2_append_34 : decode cX2_append 34 = .ok (.iconst 1, 1) := by decide +kernel
theorem dX2_append_35 : decode cX2_append 35 = .ok (.ireturn, 1) := by decide +kernel
theorem dX2_readInto_0 : decode cX2_readInto 0 = .ok (.aload_n 1, 1) := by decide +kernel
theorem dX2_readInto_1 : decode cX2_readInto 1 = .ok (.invokevirtual 29, 3) := by decide +kernel
theorem dX2_readInto_4 : decode cX2_readInto 4 = .ok (.aload_n 0, 1) := by decide +kernel
theorem dX2_readInto_5 : decode cX2_readInto 5 = .ok (.iconst 0, 1) := by decide +kernel
theorem dX2_readInto_6 : decode cX2_readInto 6 = .ok (.putfield 34, 3) := by decide +kernel
theorem dX2_readInto_9 : decode cX2_readInto 9 = .ok (.aload_n 0, 1) := by decide +kernel
theorem dX2_readInto_10 : decode cX2_readInto 10 = .ok (.iconst 0, 1) := by decide +kernel
theorem dX2_readInto_11 : decode cX2_readInto 11 = .ok (.putfield 19, 3) := by decide +kernel
theorem dX2_readInto_14 : decode cX2_readInto 14 = .ok (.aload_n 0, 1) := by decide +kernel
theorem dX2_readInto_15 : decode cX2_readInto 15 = .ok (.iconst (-1), 1) := by decide +kernel
theorem dX2_readInto_16 : decode cX2_readInto 16 = .ok (.putfield 22, 3) := by decide +kernel
theorem dX2_readInto_19 : decode cX2_readInto 19 = .ok (.aload_n 0, 1) := by decide +kernel
theorem dX2_readInto_20 : decode cX2_readInto 20 = .ok (.iconst 0, 1) := by decide +kernel
theorem dX2_readInto_21 : decode cX2_readInto 21 = .ok (.putfield 37, 3) := by decide +kernel
theorem dX2_readInto_24 : decode cX2_readInto 24 = .ok (.aload_n 0, 1) := by decide +kernel
theorem dX2_readInto_25 : decode cX2_readInto 25 = .ok (.invokevirtual 41, 3) := by decide +kernel
theorem dX2_readInto_28 : decode cX2_readInto 28 = .ok (.iconst 0, 1) := by decide +kernel
theorem dX2_readInto_29 : decode cX2_readInto 29 = .ok (.istore_n 2, 1) := by decide +kernel
theorem dX2_readInto_30 : decode cX2_readInto 30 = .ok (.iload_n 2, 1) := by decide +kernel
theorem dX2_readInto_31 : decode cX2_readInto 31 = .ok (.sipush 240, 3) := by decide +kernel
theorem dX2_readInto_34 : decode cX2_readInto 34 = .ok (.if_icmp .ge 33, 3) := by decide +kernel
theorem dX2_readInto_37 : decode cX2_readInto 37 = .ok (.aload_n 0, 1) := by decide +kernel
theorem dX2_readInto_38 : decode cX2_readInto 38 = .ok (.invokevirtual 44, 3) := by decide +kernel
theorem dX2_readInto_41 : decode cX2_readInto 41 = .ok (.iconst (-1), 1) := by decide +kernel
theorem dX2_readInto_42 : decode cX2_readInto 42 = .ok (.if_icmp .eq 25, 3) := by decide +kernel
theorem dX2_readInto_45 : decode cX2_readInto 45 = .ok (.aload_n 0, 1) := by decide +kernel
theorem dX2_readInto_46 : decode cX2_readInto 46 = .ok (.getfield 19, 3) := by decide +kernel
theorem dX2_readInto_49 : decode cX2_readInto 49 = .ok (.ifCond .ne 18, 3) := by decide +kernel
theorem dX2_readInto_52 : decode cX2_readInto 52 = .ok (.aload_n 0, 1) := by decide +kernel
theorem dX2_readInto_53 : decode cX2_readInto 53 = .ok (.aload_n 1, 1) := by decide +kernel
theorem dX2_readInto_54 : decode cX2_readInto 54 = .ok (.invokevirtual 48, 3) := by decide +kernel
theorem dX2_readInto_57 : decode cX2_readInto 57 = .ok (.aload_n 0, 1) := by decide +kernel
theorem dX2_readInto_58 : decode cX2_readInto 58 = .ok (.invokevirtual 41, 3) := by decide +kernel
theorem dX2_readInto_61 : decode cX2_readInto 61 = .ok (.iinc 2 1, 3) := by decide +kernel
theorem dX2_readInto_64 : decode cX2_readInto 64 = .ok (.goto (-34), 3) := by decide +kernel
theorem dX2_readInto_67 : decode cX2_readInto 67 = .ok (.aload_n 0, 1) := by decide +kernel
theorem dX2_readInto_68 : decode cX2_readInto 68 = .ok (.getfield 19, 3) := by decide +kernel
theorem dX2_readInto_71 : decode cX2_readInto 71 = .ok (.ireturn, 1) := by decide +kernel
theorem dX2_next_0 : decode cX2_next 0 = .ok (.aload_n 0, 1) := by decide +kernel
theorem dX2_next_1 : decode cX2_next 1 = .ok (.getfield 34, 3) := by decide +kernel
theorem dX2_next_4 : decode cX2_next 4 = .ok (.aload_n 0, 1) := by decide +kernel
theorem dX2_next_5 : decode cX2_next 5 = .ok (.getfield 15, 3) := by decide +kernel
theorem dX2_next_8 : decode cX2_next 8 = .ok (.if_icmp .ge 17, 3) := by decide +kernel
theorem dX2_next_11 : decode cX2_next 11 = .ok (.aload_n 0, 1) := by decide +kernel
theorem dX2_next_12 : decode cX2_next 12 = .ok (.getfield 9, 3) := by decide +kernel
theorem dX2_next_15 : decode cX2_next 15 = .ok (.aload_n 0, 1) := by decide +kernel
theorem dX2_next_16 : decode cX2_next 16 = .ok (.getfield 34, 3) := by decide +kernel
theorem dX2_next_19 : decode cX2_next 19 = .ok (.invokestatic 52, 3) := by decide +kernel
theorem dX2_next_22 : decode cX2_next 22 = .ok (.goto 4, 3) := by decide +kernel
theorem dX2_next_25 : decode cX2_next 25 = .ok (.iconst (-1), 1) := by decide +kernel
theorem dX2_next_26 : decode cX2_next 26 = .ok (.ireturn, 1) := by decide +kernel
theorem dX2_skipBlanks_0 : decode cX2_skipBlanks 0 = .ok (.iconst 0, 1) := by decide +kernel
theorem dX2_skipBlanks_1 : decode cX2_skipBlanks 1 = .ok (.istore_n 1, 1) := by decide +kernel
theorem dX2_skipBlanks_2 : decode cX2_skipBlanks 2 = .ok (.iload_n 1, 1) := by decide +kernel
theorem dX2_skipBlanks_3 : decode cX2_skipBlanks 3 = .ok (.sipush 240, 3) := by decide +kernel
theorem dX2_skipBlanks_6 : decode cX2_skipBlanks 6 = .ok (.if_icmp .ge 28, 3) := by decide +kernel
theorem dX2_skipBlanks_9 : decode cX2_skipBlanks 9 = .ok (.aload_n 0, 1) := by decide +kernel
theorem dX2_skipBlanks_10 : decode cX2_skipBlanks 10 = .ok (.invokevirtual 44, 3) := by decide +kernel
theorem dX2_skipBlanks_13 : decode cX2_skipBlanks 13 = .ok (.bipush 32, 2) := by decide +kernel
theorem dX2_skipBlanks_15 : decode cX2_skipBlanks 15 = .ok (.if_icmp .ne 19, 3) := by decide +kernel
theorem dX2_skipBlanks_18 : decode cX2_skipBlanks 18 = .ok (.aload_n 0, 1) := by decide +kernel
theorem dX2_skipBlanks_19 : decode cX2_skipBlanks 19 = .ok (.dup, 1) := by decide +kernel
theorem dX2_skipBlanks_20 : decode cX2_skipBlanks 20 = .ok (.getfield 34, 3) := by decide +kernel
theorem dX2_skipBlanks_23 : decode cX2_skipBlanks 23 = .ok (.iconst 1, 1) := by decide +kernel
theorem dX2_skipBlanks_24 : decode cX2_skipBlanks 24 = .ok (.iadd, 1) := by decide +kernel
theorem dX2_skipBlanks_25 : decode cX2_skipBlanks 25 = .ok (.putfield 34, 3) := by decide +kernel
theorem dX2_skipBlanks_28 : decode cX2_skipBlanks 28 = .ok (.iinc 1 1, 3) := by decide +kernel
theorem dX2_skipBlanks_31 : decode cX2_skipBlanks 31 = .ok (.goto (-29), 3) := by decide +kernel
theorem dX2_skipBlanks_34 : decode cX2_skipBlanks 34 = .ok (.return_, 1) := by decide +kernel
theorem dX2_atFigure_0 : decode cX2_atFigure 0 = .ok (.aload_n 0, 1) := by decide +kernel
theorem dX2_atFigure_1 : decode cX2_atFigure 1 = .ok (.invokevirtual 44, 3) := by decide +kernel
theorem dX2_atFigure_4 : decode cX2_atFigure 4 = .ok (.bipush 48, 2) := by decide +kernel
theorem dX2_atFigure_6 : decode cX2_atFigure 6 = .ok (.if_icmp .lt 16, 3) := by decide +kernel
theorem dX2_atFigure_9 : decode cX2_atFigure 9 = .ok (.aload_n 0, 1) := by decide +kernel
theorem dX2_atFigure_10 : decode cX2_atFigure 10 = .ok (.invokevirtual 44, 3) := by decide +kernel
theorem dX2_atFigure_13 : decode cX2_atFigure 13 = .ok (.bipush 57, 2) := by decide +kernel
theorem dX2_atFigure_15 : decode cX2_atFigure 15 = .ok (.if_icmp .gt 7, 3) := by decide +kernel
theorem dX2_atFigure_18 : decode cX2_atFigure 18 = .ok (.iconst 1, 1) := by decide +kernel
theorem dX2_atFigure_19 : decode cX2_atFigure 19 = .ok (.goto 4, 3) := by decide +kernel
theorem dX2_atFigure_22 : decode cX2_atFigure 22 = .ok (.iconst 0, 1) := by decide +kernel
theorem dX2_atFigure_23 : decode cX2_atFigure 23 = .ok (.ireturn, 1) := by decide +kernel
theorem dX2_mark_0 : decode cX2_mark 0 = .ok (.aload_n 0, 1) := by decide +kernel
theorem dX2_mark_1 : decode cX2_mark 1 = .ok (.getfield 19, 3) := by decide +kernel
theorem dX2_mark_4 : decode cX2_mark 4 = .ok (.ifCond .ne 13, 3) := by decide +kernel
theorem dX2_mark_7 : decode cX2_mark 7 = .ok (.aload_n 0, 1) := by decide +kernel
theorem dX2_mark_8 : decode cX2_mark 8 = .ok (.iload_n 1, 1) := by decide +kernel
theorem dX2_mark_9 : decode cX2_mark 9 = .ok (.putfield 19, 3) := by decide +kernel
theorem dX2_mark_12 : decode cX2_mark 12 = .ok (.aload_n 0, 1) := by decide +kernel
theorem dX2_mark_13 : decode cX2_mark 13 = .ok (.iload_n 2, 1) := by decide +kernel
theorem dX2_mark_14 : decode cX2_mark 14 = .ok (.putfield 22, 3) := by decide +kernel
theorem dX2_mark_17 : decode cX2_mark 17 = .ok (.return_, 1) := by decide +kernel
theorem dX2_readClause_0 : decode cX2_readClause 0 = .ok (.aload_n 0, 1) := by decide +kernel
theorem dX2_readClause_1 : decode cX2_readClause 1 = .ok (.invokevirtual 44, 3) := by decide +kernel
theorem dX2_readClause_4 : decode cX2_readClause 4 = .ok (.istore_n 2, 1) := by decide +kernel
theorem dX2_readClause_5 : decode cX2_readClause 5 = .ok (.iload_n 2, 1) := by decide +kernel
theorem dX2_readClause_6 : decode cX2_readClause 6 = .ok (.bipush 114, 2) := by decide +kernel
theorem dX2_readClause_8 : decode cX2_readClause 8 = .ok (.if_icmp .eq 32, 3) := by decide +kernel
theorem dX2_readClause_11 : decode cX2_readClause 11 = .ok (.aload_n 1, 1) := by decide +kernel
theorem dX2_readClause_12 : decode cX2_readClause 12 = .ok (.getfield 56, 3) := by decide +kernel
theorem dX2_readClause_15 : decode cX2_readClause 15 = .ok (.ifCond .eq 15, 3) := by decide +kernel
theorem dX2_readClause_18 : decode cX2_readClause 18 = .ok (.iload_n 2, 1) := by decide +kernel
theorem dX2_readClause_19 : decode cX2_readClause 19 = .ok (.bipush 102, 2) := by decide +kernel
theorem dX2_readClause_21 : decode cX2_readClause 21 = .ok (.if_icmp .eq 19, 3) := by decide +kernel
theorem dX2_readClause_24 : decode cX2_readClause 24 = .ok (.iload_n 2, 1) := by decide +kernel
theorem dX2_readClause_25 : decode cX2_readClause 25 = .ok (.bipush 104, 2) := by decide +kernel
theorem dX2_readClause_27 : decode cX2_readClause 27 = .ok (.if_icmp .eq 13, 3) := by decide +kernel
theorem dX2_readClause_30 : decode cX2_readClause 30 = .ok (.aload_n 0, 1) := by decide +kernel
theorem dX2_readClause_31 : decode cX2_readClause 31 = .ok (.iconst 1, 1) := by decide +kernel
theorem dX2_readClause_32 : decode cX2_readClause 32 = .ok (.aload_n 0, 1) := by decide +kernel
theorem dX2_readClause_33 : decode cX2_readClause 33 = .ok (.getfield 34, 3) := by decide +kernel
theorem dX2_readClause_36 : decode cX2_readClause 36 = .ok (.invokevirtual 59, 3) := by decide +kernel
theorem dX2_readClause_39 : decode cX2_readClause 39 = .ok (.return_, 1) := by decide +kernel
theorem dX2_readClause_40 : decode cX2_readClause 40 = .ok (.aload_n 0, 1) := by decide +kernel
theorem dX2_readClause_41 : decode cX2_readClause 41 = .ok (.aload_n 1, 1) := by decide +kernel
theorem dX2_readClause_42 : decode cX2_readClause 42 = .ok (.iload_n 2, 1) := by decide +kernel
theorem dX2_readClause_43 : decode cX2_readClause 43 = .ok (.invokevirtual 63, 3) := by decide +kernel
theorem dX2_readClause_46 : decode cX2_readClause 46 = .ok (.ifCond .eq 13, 3) := by decide +kernel
theorem dX2_readClause_49 : decode cX2_readClause 49 = .ok (.aload_n 0, 1) := by decide +kernel
theorem dX2_readClause_50 : decode cX2_readClause 50 = .ok (.iconst 3, 1) := by decide +kernel
theorem dX2_readClause_51 : decode cX2_readClause 51 = .ok (.aload_n 0, 1) := by decide +kernel
theorem dX2_readClause_52 : decode cX2_readClause 52 = .ok (.getfield 34, 3) := by decide +kernel
theorem dX2_readClause_55 : decode cX2_readClause 55 = .ok (.invokevirtual 59, 3) := by decide +kernel
theorem dX2_readClause_58 : decode cX2_readClause 58 = .ok (.return_, 1) := by decide +kernel
theorem dX2_readClause_59 : decode cX2_readClause 59 = .ok (.aload_n 0, 1) := by decide +kernel
theorem dX2_readClause_60 : decode cX2_readClause 60 = .ok (.dup, 1) := by decide +kernel
theorem dX2_readClause_61 : decode cX2_readClause 61 = .ok (.getfield 34, 3) := by decide +kernel
theorem dX2_readClause_64 : decode cX2_readClause 64 = .ok (.iconst 1, 1) := by decide +kernel
theorem dX2_readClause_65 : decode cX2_readClause 65 = .ok (.iadd, 1) := by decide +kernel
theorem dX2_readClause_66 : decode cX2_readClause 66 = .ok (.putfield 34, 3) := by decide +kernel
theorem dX2_readClause_69 : decode cX2_readClause 69 = .ok (.iload_n 2, 1) := by decide +kernel
theorem dX2_readClause_70 : decode cX2_readClause 70 = .ok (.lookupswitch 42 #[(102, 34), (114, 26)], 26) := by decide +kernel
theorem dX2_readClause_96 : decode cX2_readClause 96 = .ok (.aload_n 0, 1) := by decide +kernel
theorem dX2_readClause_97 : decode cX2_readClause 97 = .ok (.aload_n 1, 1) := by decide +kernel
theorem dX2_readClause_98 : decode cX2_readClause 98 = .ok (.invokevirtual 67, 3) := by decide +kernel
theorem dX2_readClause_101 : decode cX2_readClause 101 = .ok (.goto 27, 3) := by decide +kernel
theorem dX2_readClause_104 : decode cX2_readClause 104 = .ok (.aload_n 0, 1) := by decide +kernel
theorem dX2_readClause_105 : decode cX2_readClause 105 = .ok (.aload_n 1, 1) := by decide +kernel
theorem dX2_readClause_106 : decode cX2_readClause 106 = .ok (.invokevirtual 70, 3) := by decide +kernel
theorem dX2_readClause_109 : decode cX2_readClause 109 = .ok (.goto 19, 3) := by decide +kernel
theorem dX2_readClause_112 : decode cX2_readClause 112 = .ok (.aload_n 1, 1) := by decide +kernel
theorem dX2_readClause_113 : decode cX2_readClause 113 = .ok (.aload_n 0, 1) := by decide +kernel
theorem dX2_readClause_114 : decode cX2_readClause 114 = .ok (.iconst 1, 1) := by decide +kernel
theorem dX2_readClause_115 : decode cX2_readClause 115 = .ok (.bipush 20, 2) := by decide +kernel
theorem dX2_readClause_117 : decode cX2_readClause 117 = .ok (.invokevirtual 73, 3) := by decide +kernel
theorem dX2_readClause_120 : decode cX2_readClause 120 = .ok (.putfield 77, 3) := by decide +kernel
theorem dX2_readClause_123 : decode cX2_readClause 123 = .ok (.aload_n 0, 1) := by decide +kernel
theorem dX2_readClause_124 : decode cX2_readClause 124 = .ok (.iconst 1, 1) := by decide +kernel
theorem dX2_readClause_125 : decode cX2_readClause 125 = .ok (.putfield 37, 3) := by decide +kernel
theorem dX2_readClause_128 : decode cX2_readClause 128 = .ok (.aload_n 0, 1) := by decide +kernel
theorem dX2_readClause_129 : decode cX2_readClause 129 = .ok (.bipush 59, 2) := by decide +kernel
theorem dX2_readClause_131 : decode cX2_readClause 131 = .ok (.invokevirtual 80, 3) := by decide +kernel
theorem dX2_readClause_134 : decode cX2_readClause 134 = .ok (.ifCond .ne 12, 3) := by decide +kernel
theorem dX2_readClause_137 : decode cX2_readClause 137 = .ok (.aload_n 0, 1) := by decide +kernel
theorem dX2_readClause_138 : decode cX2_readClause 138 = .ok (.iconst 1, 1) := by decide +kernel
theorem dX2_readClause_139 : decode cX2_readClause 139 = .ok (.aload_n 0, 1) := by decide +kernel
theorem dX2_readClause_140 : decode cX2_readClause 140 = .ok (.getfield 34, 3) := by decide +kernel
theorem dX2_readClause_143 : decode cX2_readClause 143 = .ok (.invokevirtual 59, 3) := by decide +kernel
theorem dX2_readClause_146 : decode cX2_readClause 146 = .ok (.return_, 1) := by decide +kernel
theorem dX2_toldAlready_0 : decode cX2_toldAlready 0 = .ok (.iload_n 2, 1) := by decide +kernel
theorem dX2_toldAlready_1 : decode cX2_toldAlready 1 = .ok (.lookupswitch 55 #[(102, 40), (114, 27)], 27) := by decide +kernel
theorem dX2_toldAlready_28 : decode cX2_toldAlready 28 = .ok (.aload_n 1, 1) := by decide +kernel
theorem dX2_toldAlready_29 : decode cX2_toldAlready 29 = .ok (.getfield 56, 3) := by decide +kernel
theorem dX2_toldAlready_32 : decode cX2_toldAlready 32 = .ok (.ifCond .le 7, 3) := by decide +kernel
theorem dX2_toldAlready_35 : decode cX2_toldAlready 35 = .ok (.iconst 1, 1) := by decide +kernel
theorem dX2_toldAlready_36 : decode cX2_toldAlready 36 = .ok (.goto 4, 3) := by decide +kernel
theorem dX2_toldAlready_39 : decode cX2_toldAlready 39 = .ok (.iconst 0, 1) := by decide +kernel
theorem dX2_toldAlready_40 : decode cX2_toldAlready 40 = .ok (.ireturn, 1) := by decide +kernel
theorem dX2_toldAlready_41 : decode cX2_toldAlready 41 = .ok (.aload_n 1, 1) := by decide +kernel
theorem dX2_toldAlready_42 : decode cX2_toldAlready 42 = .ok (.getfield 84, 3) := by decide +kernel
theorem dX2_toldAlready_45 : decode cX2_toldAlready 45 = .ok (.bipush 8, 2) := by decide +kernel
theorem dX2_toldAlready_47 : decode cX2_toldAlready 47 = .ok (.if_icmp .lt 7, 3) := by decide +kernel
theorem dX2_toldAlready_50 : decode cX2_toldAlready 50 = .ok (.iconst 1, 1) := by decide +kernel
theorem dX2_toldAlready_51 : decode cX2_toldAlready 51 = .ok (.goto 4, 3) := by decide +kernel
theorem dX2_toldAlready_54 : decode cX2_toldAlready 54 = .ok (.iconst 0, 1) := by decide +kernel
theorem dX2_toldAlready_55 : decode cX2_toldAlready 55 = .ok (.ireturn, 1) := by decide +kernel
theorem dX2_toldAlready_56 : decode cX2_toldAlready 56 = .ok (.aload_n 0, 1) := by decide +kernel
theorem dX2_toldAlready_57 : decode cX2_toldAlready 57 = .ok (.getfield 37, 3) := by decide +kernel
theorem dX2_toldAlready_60 : decode cX2_toldAlready 60 = .ok (.ireturn, 1) := by decide +kernel
theorem dX2_readReader_0 : decode cX2_readReader 0 = .ok (.aload_n 1, 1) := by decide +kernel
theorem dX2_readReader_1 : decode cX2_readReader 1 = .ok (.aload_n 0, 1) := by decide +kernel
theorem dX2_readReader_2 : decode cX2_readReader 2 = .ok (.iconst 1, 1) := by decide +kernel
theorem dX2_readReader_3 : decode cX2_readReader 3 = .ok (.iconst 3, 1) := by decide +kernel
theorem dX2_readReader_4 : decode cX2_readReader 4 = .ok (.invokevirtual 73, 3) := by decide +kernel
theorem dX2_readReader_7 : decode cX2_readReader 7 = .ok (.putfield 87, 3) := by decide +kernel
theorem dX2_readReader_10 : decode cX2_readReader 10 = .ok (.iconst 0, 1) := by decide +kernel
theorem dX2_readReader_11 : decode cX2_readReader 11 = .ok (.istore_n 2, 1) := by decide +kernel
theorem dX2_readReader_12 : decode cX2_readReader 12 = .ok (.iload_n 2, 1) := by decide +kernel
theorem dX2_readReader_13 : decode cX2_readReader 13 = .ok (.iconst 5, 1) := by decide +kernel
theorem dX2_readReader_14 : decode cX2_readReader 14 = .ok (.if_icmp .ge 47, 3) := by decide +kernel
theorem dX2_readReader_17 : decode cX2_readReader 17 = .ok (.iload_n 2, 1) := by decide +kernel
theorem dX2_readReader_18 : decode cX2_readReader 18 = .ok (.ifCond .eq 12, 3) := by decide +kernel
theorem dX2_readReader_21 : decode cX2_readReader 21 = .ok (.aload_n 0, 1) := by decide +kernel
theorem dX2_readReader_22 : decode cX2_readReader 22 = .ok (.bipush 44, 2) := by decide +kernel
theorem dX2_readReader_24 : decode cX2_readReader 24 = .ok (.invokevirtual 80, 3) := by decide +kernel
theorem dX2_readReader_27 : decode cX2_readReader 27 = .ok (.ifCond .eq 34, 3) := by decide +kernel
theorem dX2_readReader_30 : decode cX2_readReader 30 = .ok (.aload_n 1, 1) := by decide +kernel
theorem dX2_readReader_31 : decode cX2_readReader 31 = .ok (.getfield 90, 3) := by decide +kernel
theorem dX2_readReader_34 : decode cX2_readReader 34 = .ok (.iload_n 2, 1) := by decide +kernel
theorem dX2_readReader_35 : decode cX2_readReader 35 = .ok (.aload_n 0, 1) := by decide +kernel
theorem dX2_readReader_36 : decode cX2_readReader 36 = .ok (.iconst 0, 1) := by decide +kernel
theorem dX2_readReader_37 : decode cX2_readReader 37 = .ok (.bipush 20, 2) := by decide +kernel
theorem dX2_readReader_39 : decode cX2_readReader 39 = .ok (.invokevirtual 73, 3) := by decide +kernel
theorem dX2_readReader_42 : decode cX2_readReader 42 = .ok (.invokestatic 25, 3) := by decide +kernel
theorem dX2_readReader_45 : decode cX2_readReader 45 = .ok (.aload_n 1, 1) := by decide +kernel
theorem dX2_readReader_46 : decode cX2_readReader 46 = .ok (.dup, 1) := by decide +kernel
theorem dX2_readReader_47 : decode cX2_readReader 47 = .ok (.getfield 56, 3) := by decide +kernel
theorem dX2_readReader_50 : decode cX2_readReader 50 = .ok (.iconst 1, 1) := by decide +kernel
theorem dX2_readReader_51 : decode cX2_readReader 51 = .ok (.iadd, 1) := by decide +kernel
theorem dX2_readReader_52 : decode cX2_readReader 52 = .ok (.putfield 56, 3) := by decide +kernel
theorem dX2_readReader_55 : decode cX2_readReader 55 = .ok (.iinc 2 1, 3) := by decide +kernel
theorem dX2_readReader_58 : decode cX2_readReader 58 = .ok (.goto (-46), 3) := by decide +kernel
theorem dX2_readReader_61 : decode cX2_readReader 61 = .ok (.return_, 1) := by decide +kernel
theorem dX2_readFactOf_0 : decode cX2_readFactOf 0 = .ok (.aload_n 1, 1) := by decide +kernel
theorem dX2_readFactOf_1 : decode cX2_readFactOf 1 = .ok (.getfield 84, 3) := by decide +kernel
theorem dX2_readFactOf_4 : decode cX2_readFactOf 4 = .ok (.istore_n 2, 1) := by decide +kernel
theorem dX2_readFactOf_5 : decode cX2_readFactOf 5 = .ok (.aload_n 1, 1) := by decide +kernel
theorem dX2_readFactOf_6 : decode cX2_readFactOf 6 = .ok (.getfield 93, 3) := by decide +kernel
theorem dX2_readFactOf_9 : decode cX2_readFactOf 9 = .ok (.iload_n 2, 1) := by decide +kernel
theorem dX2_readFactOf_10 : decode cX2_readFactOf 10 = .ok (.aload_n 0, 1) := by decide +kernel
theorem dX2_readFactOf_11 : decode cX2_readFactOf 11 = .ok (.iconst 0, 1) := by decide +kernel
theorem dX2_readFactOf_12 : decode cX2_readFactOf 12 = .ok (.aload_n 1, 1) := by decide +kernel
theorem dX2_readFactOf_13 : decode cX2_readFactOf 13 = .ok (.getfield 56, 3) := by decide +kernel
theorem dX2_readFactOf_16 : decode cX2_readFactOf 16 = .ok (.iconst 1, 1) := by decide +kernel
theorem dX2_readFactOf_17 : decode cX2_readFactOf 17 = .ok (.isub, 1) := by decide +kernel
theorem dX2_readFactOf_18 : decode cX2_readFactOf 18 = .ok (.invokevirtual 73, 3) := by decide +kernel
theorem dX2_readFactOf_21 : decode cX2_readFactOf 21 = .ok (.invokestatic 25, 3) := by decide +kernel
theorem dX2_readFactOf_24 : decode cX2_readFactOf 24 = .ok (.aload_n 1, 1) := by decide +kernel
theorem dX2_readFactOf_25 : decode cX2_readFactOf 25 = .ok (.getfield 96, 3) := by decide +kernel
theorem dX2_readFactOf_28 : decode cX2_readFactOf 28 = .ok (.iload_n 2, 1) := by decide +kernel
theorem dX2_readFactOf_29 : decode cX2_readFactOf 29 = .ok (.aload_n 0, 1) := by decide +kernel
theorem dX2_readFactOf_30 : decode cX2_readFactOf 30 = .ok (.iconst 0, 1) := by decide +kernel
theorem dX2_readFactOf_31 : decode cX2_readFactOf 31 = .ok (.bipush 18, 2) := by decide +kernel
theorem dX2_readFactOf_33 : decode cX2_readFactOf 33 = .ok (.invokevirtual 73, 3) := by decide +kernel
theorem dX2_readFactOf_36 : decode cX2_readFactOf 36 = .ok (.bipush 9, 2) := by decide +kernel
theorem dX2_readFactOf_38 : decode cX2_readFactOf 38 = .ok (.isub, 1) := by decide +kernel
theorem dX2_readFactOf_39 : decode cX2_readFactOf 39 = .ok (.invokestatic 25, 3) := by decide +kernel
theorem dX2_readFactOf_42 : decode cX2_readFactOf 42 = .ok (.aload_n 0, 1) := by decide +kernel
theorem dX2_readFactOf_43 : decode cX2_readFactOf 43 = .ok (.iconst 0, 1) := by decide +kernel
theorem dX2_readFactOf_44 : decode cX2_readFactOf 44 = .ok (.bipush 9, 2) := by decide +kernel
theorem dX2_readFactOf_46 : decode cX2_readFactOf 46 = .ok (.invokevirtual 73, 3) := by decide +kernel
theorem dX2_readFactOf_49 : decode cX2_readFactOf 49 = .ok (.istore_n 3, 1) := by decide +kernel
theorem dX2_readFactOf_50 : decode cX2_readFactOf 50 = .ok (.iload_n 3, 1) := by decide +kernel
theorem dX2_readFactOf_51 : decode cX2_readFactOf 51 = .ok (.bipush 9, 2) := by decide +kernel
theorem dX2_readFactOf_53 : decode cX2_readFactOf 53 = .ok (.if_icmp .eq 20, 3) := by decide +kernel
theorem dX2_readFactOf_56 : decode cX2_readFactOf 56 = .ok (.aload_n 1, 1) := by decide +kernel
theorem dX2_readFactOf_57 : decode cX2_readFactOf 57 = .ok (.iload_n 3, 1) := by decide +kernel
theorem dX2_readFactOf_58 : decode cX2_readFactOf 58 = .ok (.invokevirtual 99, 3) := by decide +kernel
theorem dX2_readFactOf_61 : decode cX2_readFactOf 61 = .ok (.ifCond .ne 12, 3) := by decide +kernel
theorem dX2_readFactOf_64 : decode cX2_readFactOf 64 = .ok (.aload_n 0, 1) := by decide +kernel
theorem dX2_readFactOf_65 : decode cX2_readFactOf 65 = .ok (.iconst 2, 1) := by decide +kernel
theorem dX2_readFactOf_66 : decode cX2_readFactOf 66 = .ok (.aload_n 0, 1) := by decide +kernel
theorem dX2_readFactOf_67 : decode cX2_readFactOf 67 = .ok (.getfield 102, 3) := by decide +kernel
theorem dX2_readFactOf_70 : decode cX2_readFactOf 70 = .ok (.invokevirtual 59, 3) := by decide +kernel
theorem dX2_readFactOf_73 : decode cX2_readFactOf 73 = .ok (.aload_n 1, 1) := by decide +kernel
theorem dX2_readFactOf_74 : decode cX2_readFactOf 74 = .ok (.getfield 105, 3) := by decide +kernel
theorem dX2_readFactOf_77 : decode cX2_readFactOf 77 = .ok (.iload_n 2, 1) := by decide +kernel
theorem dX2_readFactOf_78 : decode cX2_readFactOf 78 = .ok (.iload_n 3, 1) := by decide +kernel
theorem dX2_readFactOf_79 : decode cX2_readFactOf 79 = .ok (.bipush 9, 2) := by decide +kernel
theorem dX2_readFactOf_81 : decode cX2_readFactOf 81 = .ok (.if_icmp .ne 7, 3) := by decide +kernel
theorem dX2_readFactOf_84 : decode cX2_readFactOf 84 = .ok (.iconst (-1), 1) := by decide +kernel
theorem dX2_readFactOf_85 : decode cX2_readFactOf 85 = .ok (.goto 4, 3) := by decide +kernel
theorem dX2_readFactOf_88 : decode cX2_readFactOf 88 = .ok (.iload_n 3, 1) := by decide +kernel
theorem dX2_readFactOf_89 : decode cX2_readFactOf 89 = .ok (.invokestatic 25, 3) := by decide +kernel
theorem dX2_readFactOf_92 : decode cX2_readFactOf 92 = .ok (.aload_n 1, 1) := by decide +kernel
theorem dX2_readFactOf_93 : decode cX2_readFactOf 93 = .ok (.getfield 108, 3) := by decide +kernel
theorem dX2_readFactOf_96 : decode cX2_readFactOf 96 = .ok (.iload_n 2, 1) := by decide +kernel
theorem dX2_readFactOf_97 : decode cX2_readFactOf 97 = .ok (.aload_n 0, 1) := by decide +kernel
theorem dX2_readFactOf_98 : decode cX2_readFactOf 98 = .ok (.iconst 0, 1) := by decide +kernel
theorem dX2_readFactOf_99 : decode cX2_readFactOf 99 = .ok (.bipush 20, 2) := by decide +kernel
theorem dX2_readFactOf_101 : decode cX2_readFactOf 101 = .ok (.invokevirtual 73, 3) := by decide +kernel
theorem dX2_readFactOf_104 : decode cX2_readFactOf 104 = .ok (.invokestatic 25, 3) := by decide +kernel
theorem dX2_readFactOf_107 : decode cX2_readFactOf 107 = .ok (.aload_n 1, 1) := by decide +kernel
theorem dX2_readFactOf_108 : decode cX2_readFactOf 108 = .ok (.getfield 111, 3) := by decide +kernel
theorem dX2_readFactOf_111 : decode cX2_readFactOf 111 = .ok (.iload_n 2, 1) := by decide +kernel
theorem dX2_readFactOf_112 : decode cX2_readFactOf 112 = .ok (.aload_n 0, 1) := by decide +kernel
theorem dX2_readFactOf_113 : decode cX2_readFactOf 113 = .ok (.iconst 0, 1) := by decide +kernel
theorem dX2_readFactOf_114 : decode cX2_readFactOf 114 = .ok (.bipush 9, 2) := by decide +kernel
theorem dX2_readFactOf_116 : decode cX2_readFactOf 116 = .ok (.invokevirtual 73, 3) := by decide +kernel
theorem dX2_readFactOf_119 : decode cX2_readFactOf 119 = .ok (.invokestatic 25, 3) := by decide +kernel
theorem dX2_readFactOf_122 : decode cX2_readFactOf 122 = .ok (.aload_n 1, 1) := by decide +kernel
theorem dX2_readFactOf_123 : decode cX2_readFactOf 123 = .ok (.dup, 1) := by decide +kernel
theorem dX2_readFactOf_124 : decode cX2_readFactOf 124 = .ok (.getfield 84, 3) := by decide +kernel
theorem dX2_readFactOf_127 : decode cX2_readFactOf 127 = .ok (.iconst 1, 1) := by decide +kernel
theorem dX2_readFactOf_128 : decode cX2_readFactOf 128 = .ok (.iadd, 1) := by decide +kernel
theorem dX2_readFactOf_129 : decode cX2_readFactOf 129 = .ok (.putfield 84, 3) := by decide +kernel
theorem dX2_readFactOf_132 : decode cX2_readFactOf 132 = .ok (.return_, 1) := by decide +kernel
theorem dX2_takes_0 : decode cX2_takes 0 = .ok (.aload_n 0, 1) := by decide +kernel
theorem dX2_takes_1 : decode cX2_takes 1 = .ok (.invokevirtual 41, 3) := by decide +kernel
theorem dX2_takes_4 : decode cX2_takes 4 = .ok (.aload_n 0, 1) := by decide +kernel
theorem dX2_takes_5 : decode cX2_takes 5 = .ok (.getfield 19, 3) := by decide +kernel
theorem dX2_takes_8 : decode cX2_takes 8 = .ok (.ifCond .ne 11, 3) := by decide +kernel
theorem dX2_takes_11 : decode cX2_takes 11 = .ok (.aload_n 0, 1) := by decide +kernel
theorem dX2_takes_12 : decode cX2_takes 12 = .ok (.invokevirtual 44, 3) := by decide +kernel
theorem dX2_takes_15 : decode cX2_takes 15 = .ok (.iload_n 1, 1) := by decide +kernel
theorem dX2_takes_16 : decode cX2_takes 16 = .ok (.if_icmp .eq 5, 3) := by decide +kernel
theorem dX2_takes_19 : decode cX2_takes 19 = .ok (.iconst 0, 1) := by decide +kernel
theorem dX2_takes_20 : decode cX2_takes 20 = .ok (.ireturn, 1) := by decide +kernel
theorem dX2_takes_21 : decode cX2_takes 21 = .ok (.aload_n 0, 1) := by decide +kernel
theorem dX2_takes_22 : decode cX2_takes 22 = .ok (.dup, 1) := by decide +kernel
theorem dX2_takes_23 : decode cX2_takes 23 = .ok (.getfield 34, 3) := by decide +kernel
theorem dX2_takes_26 : decode cX2_takes 26 = .ok (.iconst 1, 1) := by decide +kernel
theorem dX2_takes_27 : decode cX2_takes 27 = .ok (.iadd, 1) := by decide +kernel
theorem dX2_takes_28 : decode cX2_takes 28 = .ok (.putfield 34, 3) := by decide +kernel
theorem dX2_takes_31 : decode cX2_takes 31 = .ok (.iconst 1, 1) := by decide +kernel
theorem dX2_takes_32 : decode cX2_takes 32 = .ok (.ireturn, 1) := by decide +kernel
theorem dX2_readNumber_0 : decode cX2_readNumber 0 = .ok (.aload_n 0, 1) := by decide +kernel
theorem dX2_readNumber_1 : decode cX2_readNumber 1 = .ok (.invokevirtual 41, 3) := by decide +kernel
theorem dX2_readNumber_4 : decode cX2_readNumber 4 = .ok (.aload_n 0, 1) := by decide +kernel
theorem dX2_readNumber_5 : decode cX2_readNumber 5 = .ok (.aload_n 0, 1) := by decide +kernel
theorem dX2_readNumber_6 : decode cX2_readNumber 6 = .ok (.getfield 34, 3) := by decide +kernel
theorem dX2_readNumber_9 : decode cX2_readNumber 9 = .ok (.putfield 102, 3) := by decide +kernel
theorem dX2_readNumber_12 : decode cX2_readNumber 12 = .ok (.aload_n 0, 1) := by decide +kernel
theorem dX2_readNumber_13 : decode cX2_readNumber 13 = .ok (.getfield 19, 3) := by decide +kernel
theorem dX2_readNumber_16 : decode cX2_readNumber 16 = .ok (.ifCond .ne 10, 3) := by decide +kernel
theorem dX2_readNumber_19 : decode cX2_readNumber 19 = .ok (.aload_n 0, 1) := by decide +kernel
theorem dX2_readNumber_20 : decode cX2_readNumber 20 = .ok (.invokevirtual 114, 3) := by decide +kernel
theorem dX2_readNumber_23 : decode cX2_readNumber 23 = .ok (.ifCond .ne 14, 3) := by decide +kernel
theorem dX2_readNumber_26 : decode cX2_readNumber 26 = .ok (.aload_n 0, 1) := by decide +kernel
theorem dX2_readNumber_27 : decode cX2_readNumber 27 = .ok (.iconst 1, 1) := by decide +kernel
theorem dX2_readNumber_28 : decode cX2_readNumber 28 = .ok (.aload_n 0, 1) := by decide +kernel
theorem dX2_readNumber_29 : decode cX2_readNumber 29 = .ok (.getfield 34, 3) := by decide +kernel
theorem dX2_readNumber_32 : decode cX2_readNumber 32 = .ok (.invokevirtual 59, 3) := by decide +kernel
theorem dX2_readNumber_35 : decode cX2_readNumber 35 = .ok (.iload_n 1, 1) := by decide +kernel
theorem dX2_readNumber_36 : decode cX2_readNumber 36 = .ok (.ireturn, 1) := by decide +kernel
theorem dX2_readNumber_37 : decode cX2_readNumber 37 = .ok (.iconst 0, 1) := by decide +kernel
theorem dX2_readNumber_38 : decode cX2_readNumber 38 = .ok (.istore_n 3, 1) := by decide +kernel
theorem dX2_readNumber_39 : decode cX2_readNumber 39 = .ok (.iconst 0, 1) := by decide +kernel
theorem dX2_readNumber_40 : decode cX2_readNumber 40 = .ok (.istore 4, 2) := by decide +kernel
theorem dX2_readNumber_42 : decode cX2_readNumber 42 = .ok (.iload 4, 2) := by decide +kernel
theorem dX2_readNumber_44 : decode cX2_readNumber 44 = .ok (.sipush 240, 3) := by decide +kernel
theorem dX2_readNumber_47 : decode cX2_readNumber 47 = .ok (.if_icmp .ge 45, 3) := by decide +kernel
theorem dX2_readNumber_50 : decode cX2_readNumber 50 = .ok (.aload_n 0, 1) := by decide +kernel
theorem dX2_readNumber_51 : decode cX2_readNumber 51 = .ok (.invokevirtual 114, 3) := by decide +kernel
theorem dX2_readNumber_54 : decode cX2_readNumber 54 = .ok (.ifCond .eq 38, 3) := by decide +kernel
theorem dX2_readNumber_57 : decode cX2_readNumber 57 = .ok (.sipush 1000, 3) := by decide +kernel
theorem dX2_readNumber_60 : decode cX2_readNumber 60 = .ok (.iload_n 3, 1) := by decide +kernel
theorem dX2_readNumber_61 : decode cX2_readNumber 61 = .ok (.bipush 10, 2) := by decide +kernel
theorem dX2_readNumber_63 : decode cX2_readNumber 63 = .ok (.imul, 1) := by decide +kernel
theorem dX2_readNumber_64 : decode cX2_readNumber 64 = .ok (.aload_n 0, 1) := by decide +kernel
theorem dX2_readNumber_65 : decode cX2_readNumber 65 = .ok (.invokevirtual 44, 3) := by decide +kernel
theorem dX2_readNumber_68 : decode cX2_readNumber 68 = .ok (.iadd, 1) := by decide +kernel
theorem dX2_readNumber_69 : decode cX2_readNumber 69 = .ok (.bipush 48, 2) := by decide +kernel
theorem dX2_readNumber_71 : decode cX2_readNumber 71 = .ok (.isub, 1) := by decide +kernel
theorem dX2_readNumber_72 : decode cX2_readNumber 72 = .ok (.invokestatic 118, 3) := by decide +kernel
theorem dX2_readNumber_75 : decode cX2_readNumber 75 = .ok (.istore_n 3, 1) := by decide +kernel
theorem dX2_readNumber_76 : decode cX2_readNumber 76 = .ok (.aload_n 0, 1) := by decide +kernel
theorem dX2_readNumber_77 : decode cX2_readNumber 77 = .ok (.dup, 1) := by decide +kernel
theorem dX2_readNumber_78 : decode cX2_readNumber 78 = .ok (.getfield 34, 3) := by decide +kernel
theorem dX2_readNumber_81 : decode cX2_readNumber 81 = .ok (.iconst 1, 1) := by decide +kernel
theorem dX2_readNumber_82 : decode cX2_readNumber 82 = .ok (.iadd, 1) := by decide +kernel
theorem dX2_readNumber_83 : decode cX2_readNumber 83 = .ok (.putfield 34, 3) := by decide +kernel
theorem dX2_readNumber_86 : decode cX2_readNumber 86 = .ok (.iinc 4 1, 3) := by decide +kernel
theorem dX2_readNumber_89 : decode cX2_readNumber 89 = .ok (.goto (-47), 3) := by decide +kernel
theorem dX2_readNumber_92 : decode cX2_readNumber 92 = .ok (.aload_n 0, 1) := by decide +kernel
theorem dX2_readNumber_93 : decode cX2_readNumber 93 = .ok (.getfield 34, 3) := by decide +kernel
theorem dX2_readNumber_96 : decode cX2_readNumber 96 = .ok (.aload_n 0, 1) := by decide +kernel
theorem dX2_readNumber_97 : decode cX2_readNumber 97 = .ok (.getfield 102, 3) := by decide +kernel
theorem dX2_readNumber_100 : decode cX2_readNumber 100 = .ok (.isub, 1) := by decide +kernel
theorem dX2_readNumber_101 : decode cX2_readNumber 101 = .ok (.iconst 3, 1) := by decide +kernel
theorem dX2_readNumber_102 : decode cX2_readNumber 102 = .ok (.if_icmp .gt 13, 3) := by decide +kernel
theorem dX2_readNumber_105 : decode cX2_readNumber 105 = .ok (.iload_n 3, 1) := by decide +kernel
theorem dX2_readNumber_106 : decode cX2_readNumber 106 = .ok (.iload_n 1, 1) := by decide +kernel
theorem dX2_readNumber_107 : decode cX2_readNumber 107 = .ok (.if_icmp .lt 8, 3) := by decide +kernel
theorem dX2_readNumber_110 : decode cX2_readNumber 110 = .ok (.iload_n 3, 1) := by decide +kernel
theorem dX2_readNumber_111 : decode cX2_readNumber 111 = .ok (.iload_n 2, 1) := by decide +kernel
theorem dX2_readNumber_112 : decode cX2_readNumber 112 = .ok (.if_icmp .le 14, 3) := by decide +kernel
theorem dX2_readNumber_115 : decode cX2_readNumber 115 = .ok (.aload_n 0, 1) := by decide +kernel
theorem dX2_readNumber_116 : decode cX2_readNumber 116 = .ok (.iconst 2, 1) := by decide +kernel
theorem dX2_readNumber_117 : decode cX2_readNumber 117 = .ok (.aload_n 0, 1) := by decide +kernel
theorem dX2_readNumber_118 : decode cX2_readNumber 118 = .ok (.getfield 102, 3) := by decide +kernel
theorem dX2_readNumber_121 : decode cX2_readNumber 121 = .ok (.invokevirtual 59, 3) := by decide +kernel
theorem dX2_readNumber_124 : decode cX2_readNumber 124 = .ok (.iload_n 1, 1) := by decide +kernel
theorem dX2_readNumber_125 : decode cX2_readNumber 125 = .ok (.ireturn, 1) := by decide +kernel
theorem dX2_readNumber_126 : decode cX2_readNumber 126 = .ok (.iload_n 3, 1) := by decide +kernel
theorem dX2_readNumber_127 : decode cX2_readNumber 127 = .ok (.ireturn, 1) := by decide +kernel
theorem dX3_init_0 : decode cX3_init 0 = .ok (.aload_n 0, 1) := by decide +kernel
theorem dX3_init_1 : decode cX3_init 1 = .ok (.invokespecial 3, 3) := by decide +kernel
theorem dX3_init_4 : decode cX3_init 4 = .ok (.aload_n 0, 1) := by decide +kernel
theorem dX3_init_5 : decode cX3_init 5 = .ok (.iconst 5, 1) := by decide +kernel
theorem dX3_init_6 : decode cX3_init 6 = .ok (.newarray .int, 2) := by decide +kernel
theorem dX3_init_8 : decode cX3_init 8 = .ok (.putfield 9, 3) := by decide +kernel
theorem dX3_init_11 : decode cX3_init 11 = .ok (.aload_n 0, 1) := by decide +kernel
theorem dX3_init_12 : decode cX3_init 12 = .ok (.bipush 8, 2) := by decide +kernel
theorem dX3_init_14 : decode cX3_init 14 = .ok (.newarray .int, 2) := by decide +kernel
theorem dX3_init_16 : decode cX3_init 16 = .ok (.putfield 15, 3) := by decide +kernel
theorem dX3_init_19 : decode cX3_init 19 = .ok (.aload_n 0, 1) := by decide +kernel
theorem dX3_init_20 : decode cX3_init 20 = .ok (.iconst (-1), 1) := by decide +kernel
theorem dX3_init_21 : decode cX3_init 21 = .ok (.putfield 18, 3) := by decide +kernel
theorem dX3_init_24 : decode cX3_init 24 = .ok (.return_, 1) := by decide +kernel
theorem dX3_begin_0 : decode cX3_begin 0 = .ok (.aload_n 0, 1) := by decide +kernel
theorem dX3_begin_1 : decode cX3_begin 1 = .ok (.iconst 0, 1) := by decide +kernel
theorem dX3_begin_2 : decode cX3_begin 2 = .ok (.putfield 22, 3) := by decide +kernel
theorem dX3_begin_5 : decode cX3_begin 5 = .ok (.aload_n 0, 1) := by decide +kernel
theorem dX3_begin_6 : decode cX3_begin 6 = .ok (.iconst 0, 1) := by decide +kernel
theorem dX3_begin_7 : decode cX3_begin 7 = .ok (.putfield 25, 3) := by decide +kernel
theorem dX3_begin_10 : decode cX3_begin 10 = .ok (.aload_n 0, 1) := by decide +kernel
theorem dX3_begin_11 : decode cX3_begin 11 = .ok (.iconst 0, 1) := by decide +kernel
theorem dX3_begin_12 : decode cX3_begin 12 = .ok (.putfield 28, 3) := by decide +kernel
theorem dX3_begin_15 : decode cX3_begin 15 = .ok (.aload_n 0, 1) := by decide +kernel
theorem dX3_begin_16 : decode cX3_begin 16 = .ok (.iconst (-1), 1) := by decide +kernel
theorem dX3_begin_17 : decode cX3_begin 17 = .ok (.putfield 18, 3) := by decide +kernel
theorem dX3_begin_20 : decode cX3_begin 20 = .ok (.iconst 0, 1) := by decide +kernel
theorem dX3_begin_21 : decode cX3_begin 21 = .ok (.istore_n 2, 1) := by decide +kernel
theorem dX3_begin_22 : decode cX3_begin 22 = .ok (.iload_n 2, 1) := by decide +kernel
theorem dX3_begin_23 : decode cX3_begin 23 = .ok (.iconst 5, 1) := by decide +kernel
theorem dX3_begin_24 : decode cX3_begin 24 = .ok (.if_icmp .ge 37, 3) := by decide +kernel
theorem dX3_begin_27 : decode cX3_begin 27 = .ok (.aload_n 0, 1) := by decide +kernel
theorem dX3_begin_28 : decode cX3_begin 28 = .ok (.getfield 9, 3) := by decide +kernel
theorem dX3_begin_31 : decode cX3_begin 31 = .ok (.iload_n 2, 1) := by decide +kernel
theorem dX3_begin_32 : decode cX3_begin 32 = .ok (.aload_n 1, 1) := by decide +kernel
theorem dX3_begin_33 : decode cX3_begin 33 = .ok (.iload_n 2, 1) := by decide +kernel
theorem dX3_begin_34 : decode cX3_begin 34 = .ok (.invokevirtual 31, 3) := by decide +kernel
theorem dX3_begin_37 : decode cX3_begin 37 = .ok (.ifCond .eq 14, 3) := by decide +kernel
theorem dX3_begin_40 : decode cX3_begin 40 = .ok (.aload_n 1, 1) := by decide +kernel
theorem dX3_begin_41 : decode cX3_begin 41 = .ok (.getfield 37, 3) := by decide +kernel
theorem dX3_begin_44 : decode cX3_begin 44 = .ok (.iload_n 2, 1) := by decide +kernel
theorem dX3_begin_45 : decode cX3_begin 45 = .ok (.invokestatic 40, 3) := by decide +kernel
theorem dX3_begin_48 : decode cX3_begin 48 = .ok (.goto 4, 3) := by decide +kernel
theorem dX3_begin_51 : decode cX3_begin 51 = .ok (.iconst 0, 1) := by decide +kernel
theorem dX3_begin_52 : decode cX3_begin 52 = .ok (.invokestatic 44, 3) := by decide +kernel
theorem dX3_begin_55 : decode cX3_begin 55 = .ok (.iinc 2 1, 3) := by decide +kernel
theorem dX3_begin_58 : decode cX3_begin 58 = .ok (.goto (-36), 3) := by decide +kernel
theorem dX3_begin_61 : decode cX3_begin 61 = .ok (.iconst 0, 1) := by decide +kernel
theorem dX3_begin_62 : decode cX3_begin 62 = .ok (.istore_n 2, 1) := by decide +kernel
theorem dX3_begin_63 : decode cX3_begin 63 = .ok (.iload_n 2, 1) := by decide +kernel
theorem dX3_begin_64 : decode cX3_begin 64 = .ok (.bipush 8, 2) := by decide +kernel
theorem dX3_begin_66 : decode cX3_begin 66 = .ok (.if_icmp .ge 53, 3) := by decide +kernel
theorem dX3_begin_69 : decode cX3_begin 69 = .ok (.aload_n 0, 1) := by decide +kernel
theorem dX3_begin_70 : decode cX3_begin 70 = .ok (.getfield 15, 3) := by decide +kernel
theorem dX3_begin_73 : decode cX3_begin 73 = .ok (.iload_n 2, 1) := by decide +kernel
theorem dX3_begin_74 : decode cX3_begin 74 = .ok (.iconst 0, 1) := by decide +kernel
theorem dX3_begin_75 : decode cX3_begin 75 = .ok (.invokestatic 44, 3) := by decide +kernel
theorem dX3_begin_78 : decode cX3_begin 78 = .ok (.aload_n 0, 1) := by decide +kernel
theorem dX3_begin_79 : decode cX3_begin 79 = .ok (.dup, 1) := by decide +kernel
theorem dX3_begin_80 : decode cX3_begin 80 = .ok (.getfield 22, 3) := by decide +kernel
theorem dX3_begin_83 : decode cX3_begin 83 = .ok (.aload_n 1, 1) := by decide +kernel
theorem dX3_begin_84 : decode cX3_begin 84 = .ok (.iload_n 2, 1) := by decide +kernel
theorem dX3_begin_85 : decode cX3_begin 85 = .ok (.invokevirtual 48, 3) := by decide +kernel
theorem dX3_begin_88 : decode cX3_begin 88 = .ok (.ifCond .eq 20, 3) := by decide +kernel
theorem dX3_begin_91 : decode cX3_begin 91 = .ok (.aload_n 1, 1) := by decide +kernel
theorem dX3_begin_92 : decode cX3_begin 92 = .ok (.getfield 51, 3) := by decide +kernel
theorem dX3_begin_95 : decode cX3_begin 95 = .ok (.iload_n 2, 1) := by decide +kernel
theorem dX3_begin_96 : decode cX3_begin 96 = .ok (.invokestatic 40, 3) := by decide +kernel
theorem dX3_begin_99 : decode cX3_begin 99 = .ok (.ifCond .ne 9, 3) := by decide +kernel
theorem dX3_begin_102 : decode cX3_begin 102 = .ok (.iconst 1, 1) := by decide +kernel
theorem dX3_begin_103 : decode cX3_begin 103 = .ok (.iload_n 2, 1) := by decide +kernel
theorem dX3_begin_104 : decode cX3_begin 104 = .ok (.ishl, 1) := by decide +kernel
theorem dX3_begin_105 : decode cX3_begin 105 = .ok (.goto 4, 3) := by decide +kernel
theorem dX3_begin_108 : decode cX3_begin 108 = .ok (.iconst 0, 1) := by decide +kernel
theorem dX3_begin_109 : decode cX3_begin 109 = .ok (.ior, 1) := by decide +kernel
theorem dX3_begin_110 : decode cX3_begin 110 = .ok (.putfield 22, 3) := by decide +kernel
theorem dX3_begin_113 : decode cX3_begin 113 = .ok (.iinc 2 1, 3) := by decide +kernel
theorem dX3_begin_116 : decode cX3_begin 116 = .ok (.goto (-53), 3) := by decide +kernel
theorem dX3_begin_119 : decode cX3_begin 119 = .ok (.return_, 1) := by decide +kernel
theorem dX3_copyFrom_0 : decode cX3_copyFrom 0 = .ok (.aload_n 0, 1) := by decide +kernel
theorem dX3_copyFrom_1 : decode cX3_copyFrom 1 = .ok (.aload_n 1, 1) := by decide +kernel
theorem dX3_copyFrom_2 : decode cX3_copyFrom 2 = .ok (.getfield 22, 3) := by decide +kernel
theorem dX3_copyFrom_5 : decode cX3_copyFrom 5 = .ok (.putfield 22, 3) := by decide +kernel
theorem dX3_copyFrom_8 : decode cX3_copyFrom 8 = .ok (.aload_n 0, 1) := by decide +kernel
theorem dX3_copyFrom_9 : decode cX3_copyFrom 9 = .ok (.aload_n 1, 1) := by decide +kernel
theorem dX3_copyFrom_10 : decode cX3_copyFrom 10 = .ok (.getfield 25, 3) := by decide +kernel
theorem dX3_copyFrom_13 : decode cX3_copyFrom 13 = .ok (.putfield 25, 3) := by decide +kernel
theorem dX3_copyFrom_16 : decode cX3_copyFrom 16 = .ok (.aload_n 0, 1) := by decide +kernel
theorem dX3_copyFrom_17 : decode cX3_copyFrom 17 = .ok (.aload_n 1, 1) := by decide +kernel
theorem dX3_copyFrom_18 : decode cX3_copyFrom 18 = .ok (.getfield 28, 3) := by decide +kernel
theorem dX3_copyFrom_21 : decode cX3_copyFrom 21 = .ok (.putfield 28, 3) := by decide +kernel
theorem dX3_copyFrom_24 : decode cX3_copyFrom 24 = .ok (.aload_n 0, 1) := by decide +kernel
theorem dX3_copyFrom_25 : decode cX3_copyFrom 25 = .ok (.aload_n 1, 1) := by decide +kernel
theorem dX3_copyFrom_26 : decode cX3_copyFrom 26 = .ok (.getfield 18, 3) := by decide +kernel
theorem dX3_copyFrom_29 : decode cX3_copyFrom 29 = .ok (.putfield 18, 3) := by decide +kernel
theorem dX3_copyFrom_32 : decode cX3_copyFrom 32 = .ok (.iconst 0, 1) := by decide +kernel
theorem dX3_copyFrom_33 : decode cX3_copyFrom 33 = .ok (.istore_n 2, 1) := by decide +kernel
theorem dX3_copyFrom_34 : decode cX3_copyFrom 34 = .ok (.iload_n 2, 1) := by decide +kernel
theorem dX3_copyFrom_35 : decode cX3_copyFrom 35 = .ok (.iconst 5, 1) := by decide +kernel
theorem dX3_copyFrom_36 : decode cX3_copyFrom 36 = .ok (.if_icmp .ge 25, 3) := by decide +kernel
theorem dX3_copyFrom_39 : decode cX3_copyFrom 39 = .ok (.aload_n 0, 1) := by decide +kernel
theorem dX3_copyFrom_40 : decode cX3_copyFrom 40 = .ok (.getfield 9, 3) := by decide +kernel
theorem dX3_copyFrom_43 : decode cX3_copyFrom 43 = .ok (.iload_n 2, 1) := by decide +kernel
theorem dX3_copyFrom_44 : decode cX3_copyFrom 44 = .ok (.aload_n 1, 1) := by decide +kernel
theorem dX3_copyFrom_45 : decode cX3_copyFrom 45 = .ok (.getfield 9, 3) := by decide +kernel
theorem dX3_copyFrom_48 : decode cX3_copyFrom 48 = .ok (.iload_n 2, 1) := by decide +kernel
theorem dX3_copyFrom_49 : decode cX3_copyFrom 49 = .ok (.invokestatic 40, 3) := by decide +kernel
theorem dX3_copyFrom_52 : decode cX3_copyFrom 52 = .ok (.invokestatic 44, 3) := by decide +kernel
theorem dX3_copyFrom_55 : decode cX3_copyFrom 55 = .ok (.iinc 2 1, 3) := by decide +kernel
theorem dX3_copyFrom_58 : decode cX3_copyFrom 58 = .ok (.goto (-24), 3) := by decide +kernel
theorem dX3_copyFrom_61 : decode cX3_copyFrom 61 = .ok (.iconst 0, 1) := by decide +kernel
theorem dX3_copyFrom_62 : decode cX3_copyFrom 62 = .ok (.istore_n 2, 1) := by decide +kernel
theorem dX3_copyFrom_63 : decode cX3_copyFrom 63 = .ok (.iload_n 2, 1) := by decide +kernel
theorem dX3_copyFrom_64 : decode cX3_copyFrom 64 = .ok (.bipush 8, 2) := by decide +kernel
theorem dX3_copyFrom_66 : decode cX3_copyFrom 66 = .ok (.if_icmp .ge 25, 3) := by decide +kernel
theorem dX3_copyFrom_69 : decode cX3_copyFrom 69 = .ok (.aload_n 0, 1) := by decide +kernel
theorem dX3_copyFrom_70 : decode cX3_copyFrom 70 = .ok (.getfield 15, 3) := by decide +kernel
theorem dX3_copyFrom_73 : decode cX3_copyFrom 73 = .ok (.iload_n 2, 1) := by decide +kernel
theorem dX3_copyFrom_74 : decode cX3_copyFrom 74 = .ok (.aload_n 1, 1) := by decide +kernel
theorem dX3_copyFrom_75 : decode cX3_copyFrom 75 = .ok (.getfield 15, 3) := by decide +kernel
theorem dX3_copyFrom_78 : decode cX3_copyFrom 78 = .ok (.iload_n 2, 1) := by decide +kernel
theorem dX3_copyFrom_79 : decode cX3_copyFrom 79 = .ok (.invokestatic 40, 3) := by decide +kernel
theorem dX3_copyFrom_82 : decode cX3_copyFrom 82 = .ok (.invokestatic 44, 3) := by decide +kernel
theorem dX3_copyFrom_85 : decode cX3_copyFrom 85 = .ok (.iinc 2 1, 3) := by decide +kernel
theorem dX3_copyFrom_88 : decode cX3_copyFrom 88 = .ok (.goto (-25), 3) := by decide +kernel
theorem dX3_copyFrom_91 : decode cX3_copyFrom 91 = .ok (.return_, 1) := by decide +kernel
theorem dX3_convincedOf_0 : decode cX3_convincedOf 0 = .ok (.iconst 0, 1) := by decide +kernel
theorem dX3_convincedOf_1 : decode cX3_convincedOf 1 = .ok (.istore_n 2, 1) := by decide +kernel
theorem dX3_convincedOf_2 : decode cX3_convincedOf 2 = .ok (.iconst 0, 1) := by decide +kernel
theorem dX3_convincedOf_3 : decode cX3_convincedOf 3 = .ok (.istore_n 3, 1) := by decide +kernel
theorem dX3_convincedOf_4 : decode cX3_convincedOf 4 = .ok (.iload_n 3, 1) := by decide +kernel
theorem dX3_convincedOf_5 : decode cX3_convincedOf 5 = .ok (.aload_n 1, 1) := by decide +kernel
theorem dX3_convincedOf_6 : decode cX3_convincedOf 6 = .ok (.getfield 54, 3) := by decide +kernel
theorem dX3_convincedOf_9 : decode cX3_convincedOf 9 = .ok (.if_icmp .ge 34, 3) := by decide +kernel
theorem dX3_convincedOf_12 : decode cX3_convincedOf 12 = .ok (.iload_n 2, 1) := by decide +kernel
theorem dX3_convincedOf_13 : decode cX3_convincedOf 13 = .ok (.aload_n 0, 1) := by decide +kernel
theorem dX3_convincedOf_14 : decode cX3_convincedOf 14 = .ok (.getfield 9, 3) := by decide +kernel
theorem dX3_convincedOf_17 : decode cX3_convincedOf 17 = .ok (.iload_n 3, 1) := by decide +kernel
theorem dX3_convincedOf_18 : decode cX3_convincedOf 18 = .ok (.invokestatic 40, 3) := by decide +kernel
theorem dX3_convincedOf_21 : decode cX3_convincedOf 21 = .ok (.aload_n 1, 1) := by decide +kernel
theorem dX3_convincedOf_22 : decode cX3_convincedOf 22 = .ok (.getfield 57, 3) := by decide +kernel
theorem dX3_convincedOf_25 : decode cX3_convincedOf 25 = .ok (.if_icmp .lt 9, 3) := by decide +kernel
theorem dX3_convincedOf_28 : decode cX3_convincedOf 28 = .ok (.iconst 1, 1) := by decide +kernel
theorem dX3_convincedOf_29 : decode cX3_convincedOf 29 = .ok (.iload_n 3, 1) := by decide +kernel
theorem dX3_convincedOf_30 : decode cX3_convincedOf 30 = .ok (.ishl, 1) := by decide +kernel
theorem dX3_convincedOf_31 : decode cX3_convincedOf 31 = .ok (.goto 4, 3) := by decide +kernel
theorem dX3_convincedOf_34 : decode cX3_convincedOf 34 = .ok (.iconst 0, 1) := by decide +kernel
theorem dX3_convincedOf_35 : decode cX3_convincedOf 35 = .ok (.ior, 1) := by decide +kernel
theorem dX3_convincedOf_36 : decode cX3_convincedOf 36 = .ok (.istore_n 2, 1) := by decide +kernel
theorem dX3_convincedOf_37 : decode cX3_convincedOf 37 = .ok (.iinc 3 1, 3) := by decide +kernel
theorem dX3_convincedOf_40 : decode cX3_convincedOf 40 = .ok (.goto (-36), 3) := by decide +kernel
theorem dX3_convincedOf_43 : decode cX3_convincedOf 43 = .ok (.iload_n 2, 1) := by decide +kernel
theorem dX3_convincedOf_44 : decode cX3_convincedOf 44 = .ok (.ireturn, 1) := by decide +kernel
theorem dX3_isConvinced_0 : decode cX3_isConvinced 0 = .ok (.aload_n 0, 1) := by decide +kernel
theorem dX3_isConvinced_1 : decode cX3_isConvinced 1 = .ok (.aload_n 1, 1) := by decide +kernel
theorem dX3_isConvinced_2 : decode cX3_isConvinced 2 = .ok (.invokevirtual 60, 3) := by decide +kernel
theorem dX3_isConvinced_5 : decode cX3_isConvinced 5 = .ok (.istore 4, 2) := by decide +kernel
theorem dX3_isConvinced_7 : decode cX3_isConvinced 7 = .ok (.iload 4, 2) := by decide +kernel
theorem dX3_isConvinced_9 : decode cX3_isConvinced 9 = .ok (.iload_n 2, 1) := by decide +kernel
theorem dX3_isConvinced_10 : decode cX3_isConvinced 10 = .ok (.iand, 1) := by decide +kernel
theorem dX3_isConvinced_11 : decode cX3_isConvinced 11 = .ok (.iload_n 2, 1) := by decide +kernel
theorem dX3_isConvinced_12 : decode cX3_isConvinced 12 = .ok (.if_icmp .ne 14, 3) := by decide +kernel
theorem dX3_isConvinced_15 : decode cX3_isConvinced 15 = .ok (.iload 4, 2) := by decide +kernel
theorem dX3_isConvinced_17 : decode cX3_isConvinced 17 = .ok (.iload_n 3, 1) := by decide +kernel
theorem dX3_isConvinced_18 : decode cX3_isConvinced 18 = .ok (.iand, 1) := by decide +kernel
theorem dX3_isConvinced_19 : decode cX3_isConvinced 19 = .ok (.ifCond .ne 7, 3) := by decide +kernel
theorem dX3_isConvinced_22 : decode cX3_isConvinced 22 = .ok (.iconst 1, 1) := by decide +kernel
theorem dX3_isConvinced_23 : decode cX3_isConvinced 23 = .ok (.goto 4, 3) := by decide +kernel
theorem dX3_isConvinced_26 : decode cX3_isConvinced 26 = .ok (.iconst 0, 1) := by decide +kernel
theorem dX3_isConvinced_27 : decode cX3_isConvinced 27 = .ok (.ireturn, 1) := by decide +kernel
theorem dX3_readFact_0 : decode cX3_readFact 0 = .ok (.aload_n 1, 1) := by decide +kernel
theorem dX3_readFact_1 : decode cX3_readFact 1 = .ok (.getfield 64, 3) := by decide +kernel
theorem dX3_readFact_4 : decode cX3_readFact 4 = .ok (.iload_n 2, 1) := by decide +kernel
theorem dX3_readFact_5 : decode cX3_readFact 5 = .ok (.invokestatic 40, 3) := by decide +kernel
theorem dX3_readFact_8 : decode cX3_readFact 8 = .ok (.istore_n 3, 1) := by decide +kernel
theorem dX3_readFact_9 : decode cX3_readFact 9 = .ok (.aload_n 0, 1) := by decide +kernel
theorem dX3_readFact_10 : decode cX3_readFact 10 = .ok (.getfield 9, 3) := by decide +kernel
theorem dX3_readFact_13 : decode cX3_readFact 13 = .ok (.iload_n 3, 1) := by decide +kernel
theorem dX3_readFact_14 : decode cX3_readFact 14 = .ok (.invokestatic 40, 3) := by decide +kernel
theorem dX3_readFact_17 : decode cX3_readFact 17 = .ok (.istore 4, 2) := by decide +kernel
theorem dX3_readFact_19 : decode cX3_readFact 19 = .ok (.iload 4, 2) := by decide +kernel
theorem dX3_readFact_21 : decode cX3_readFact 21 = .ok (.istore 5, 2) := by decide +kernel
theorem dX3_readFact_23 : decode cX3_readFact 23 = .ok (.aload_n 0, 1) := by decide +kernel
theorem dX3_readFact_24 : decode cX3_readFact 24 = .ok (.getfield 15, 3) := by decide +kernel
theorem dX3_readFact_27 : decode cX3_readFact 27 = .ok (.iload_n 2, 1) := by decide +kernel
theorem dX3_readFact_28 : decode cX3_readFact 28 = .ok (.invokestatic 40, 3) := by decide +kernel
theorem dX3_readFact_31 : decode cX3_readFact 31 = .ok (.istore 6, 2) := by decide +kernel
theorem dX3_readFact_33 : decode cX3_readFact 33 = .ok (.aload_n 1, 1) := by decide +kernel
theorem dX3_readFact_34 : decode cX3_readFact 34 = .ok (.getfield 67, 3) := by decide +kernel
theorem dX3_readFact_37 : decode cX3_readFact 37 = .ok (.iload_n 2, 1) := by decide +kernel
theorem dX3_readFact_38 : decode cX3_readFact 38 = .ok (.invokestatic 40, 3) := by decide +kernel
theorem dX3_readFact_41 : decode cX3_readFact 41 = .ok (.istore 7, 2) := by decide +kernel
theorem dX3_readFact_43 : decode cX3_readFact 43 = .ok (.iload 7, 2) := by decide +kernel
theorem dX3_readFact_45 : decode cX3_readFact 45 = .ok (.iconst (-1), 1) := by decide +kernel
theorem dX3_readFact_46 : decode cX3_readFact 46 = .ok (.if_icmp .eq 23, 3) := by decide +kernel
theorem dX3_readFact_49 : decode cX3_readFact 49 = .ok (.aload_n 0, 1) := by decide +kernel
theorem dX3_readFact_50 : decode cX3_readFact 50 = .ok (.getfield 9, 3) := by decide +kernel
theorem dX3_readFact_53 : decode cX3_readFact 53 = .ok (.iload 7, 2) := by decide +kernel
theorem dX3_readFact_55 : decode cX3_readFact 55 = .ok (.invokestatic 40, 3) := by decide +kernel
theorem dX3_readFact_58 : decode cX3_readFact 58 = .ok (.aload_n 1, 1) := by decide +kernel
theorem dX3_readFact_59 : decode cX3_readFact 59 = .ok (.getfield 70, 3) := by decide +kernel
theorem dX3_readFact_62 : decode cX3_readFact 62 = .ok (.iload_n 2, 1) := by decide +kernel
theorem dX3_readFact_63 : decode cX3_readFact 63 = .ok (.invokestatic 40, 3) := by decide +kernel
theorem dX3_readFact_66 : decode cX3_readFact 66 = .ok (.if_icmp .lt 30, 3) := by decide +kernel
theorem dX3_readFact_69 : decode cX3_readFact 69 = .ok (.iconst 0, 1) := by decide +kernel
theorem dX3_readFact_70 : decode cX3_readFact 70 = .ok (.bipush 20, 2) := by decide +kernel
theorem dX3_readFact_72 : decode cX3_readFact 72 = .ok (.iload 4, 2) := by decide +kernel
theorem dX3_readFact_74 : decode cX3_readFact 74 = .ok (.aload_n 1, 1) := by decide +kernel
theorem dX3_readFact_75 : decode cX3_readFact 75 = .ok (.getfield 73, 3) := by decide +kernel
theorem dX3_readFact_78 : decode cX3_readFact 78 = .ok (.iload_n 2, 1) := by decide +kernel
theorem dX3_readFact_79 : decode cX3_readFact 79 = .ok (.invokestatic 40, 3) := by decide +kernel
theorem dX3_readFact_82 : decode cX3_readFact 82 = .ok (.iload 6, 2) := by decide +kernel
theorem dX3_readFact_84 : decode cX3_readFact 84 = .ok (.invokestatic 76, 3) := by decide +kernel
theorem dX3_readFact_87 : decode cX3_readFact 87 = .ok (.iadd, 1) := by decide +kernel
theorem dX3_readFact_88 : decode cX3_readFact 88 = .ok (.invokestatic 80, 3) := by decide +kernel
theorem dX3_readFact_91 : decode cX3_readFact 91 = .ok (.invokestatic 85, 3) := by decide +kernel
theorem dX3_readFact_94 : decode cX3_readFact 94 = .ok (.istore 5, 2) := by decide +kernel
theorem dX3_readFact_96 : decode cX3_readFact 96 = .ok (.aload_n 0, 1) := by decide +kernel
theorem dX3_readFact_97 : decode cX3_readFact 97 = .ok (.getfield 9, 3) := by decide +kernel
theorem dX3_readFact_100 : decode cX3_readFact 100 = .ok (.iload_n 3, 1) := by decide +kernel
theorem dX3_readFact_101 : decode cX3_readFact 101 = .ok (.iload 5, 2) := by decide +kernel
theorem dX3_readFact_103 : decode cX3_readFact 103 = .ok (.invokestatic 44, 3) := by decide +kernel
theorem dX3_readFact_106 : decode cX3_readFact 106 = .ok (.aload_n 0, 1) := by decide +kernel
theorem dX3_readFact_107 : decode cX3_readFact 107 = .ok (.getfield 15, 3) := by decide +kernel
theorem dX3_readFact_110 : decode cX3_readFact 110 = .ok (.iload_n 2, 1) := by decide +kernel
theorem dX3_readFact_111 : decode cX3_readFact 111 = .ok (.iload 6, 2) := by decide +kernel
theorem dX3_readFact_113 : decode cX3_readFact 113 = .ok (.iconst 1, 1) := by decide +kernel
theorem dX3_readFact_114 : decode cX3_readFact 114 = .ok (.iadd, 1) := by decide +kernel
theorem dX3_readFact_115 : decode cX3_readFact 115 = .ok (.invokestatic 44, 3) := by decide +kernel
theorem dX3_readFact_118 : decode cX3_readFact 118 = .ok (.iload 4, 2) := by decide +kernel
theorem dX3_readFact_120 : decode cX3_readFact 120 = .ok (.aload_n 1, 1) := by decide +kernel
theorem dX3_readFact_121 : decode cX3_readFact 121 = .ok (.getfield 57, 3) := by decide +kernel
theorem dX3_readFact_124 : decode cX3_readFact 124 = .ok (.if_icmp .ge 16, 3) := by decide +kernel
theorem dX3_readFact_127 : decode cX3_readFact 127 = .ok (.iload 5, 2) := by decide +kernel
theorem dX3_readFact_129 : decode cX3_readFact 129 = .ok (.aload_n 1, 1) := by decide +kernel
theorem dX3_readFact_130 : decode cX3_readFact 130 = .ok (.getfield 57, 3) := by decide +kernel
theorem dX3_readFact_133 : decode cX3_readFact 133 = .ok (.if_icmp .lt 7, 3) := by decide +kernel
theorem dX3_readFact_136 : decode cX3_readFact 136 = .ok (.iconst 1, 1) := by decide +kernel
theorem dX3_readFact_137 : decode cX3_readFact 137 = .ok (.goto 4, 3) := by decide +kernel
theorem dX3_readFact_140 : decode cX3_readFact 140 = .ok (.iconst 0, 1) := by decide +kernel
theorem dX3_readFact_141 : decode cX3_readFact 141 = .ok (.ireturn, 1) := by decide +kernel
theorem dX3_unread_0 : decode cX3_unread 0 = .ok (.aload_n 0, 1) := by decide +kernel
theorem dX3_unread_1 : decode cX3_unread 1 = .ok (.getfield 9, 3) := by decide +kernel
theorem dX3_unread_4 : decode cX3_unread 4 = .ok (.iload_n 2, 1) := by decide +kernel
theorem dX3_unread_5 : decode cX3_unread 5 = .ok (.iload_n 3, 1) := by decide +kernel
theorem dX3_unread_6 : decode cX3_unread 6 = .ok (.invokestatic 44, 3) := by decide +kernel
theorem dX3_unread_9 : decode cX3_unread 9 = .ok (.aload_n 0, 1) := by decide +kernel
theorem dX3_unread_10 : decode cX3_unread 10 = .ok (.getfield 15, 3) := by decide +kernel
theorem dX3_unread_13 : decode cX3_unread 13 = .ok (.iload_n 1, 1) := by decide +kernel
theorem dX3_unread_14 : decode cX3_unread 14 = .ok (.aload_n 0, 1) := by decide +kernel
theorem dX3_unread_15 : decode cX3_unread 15 = .ok (.getfield 15, 3) := by decide +kernel
theorem dX3_unread_18 : decode cX3_unread 18 = .ok (.iload_n 1, 1) := by decide +kernel
theorem dX3_unread_19 : decode cX3_unread 19 = .ok (.invokestatic 40, 3) := by decide +kernel
theorem dX3_unread_22 : decode cX3_unread 22 = .ok (.iconst 1, 1) := by decide +kernel
theorem dX3_unread_23 : decode cX3_unread 23 = .ok (.isub, 1) := by decide +kernel
theorem dX3_unread_24 : decode cX3_unread 24 = .ok (.invokestatic 44, 3) := by decide +kernel
theorem dX3_unread_27 : decode cX3_unread 27 = .ok (.return_, 1) := by decide +kernel
theorem dX3_spendNight_0 : decode cX3_spendNight 0 = .ok (.aload_n 0, 1) := by decide +kernel
theorem dX3_spendNight_1 : decode cX3_spendNight 1 = .ok (.iconst (-1), 1) := by decide +kernel
theorem dX3_spendNight_2 : decode cX3_spendNight 2 = .ok (.putfield 18, 3) := by decide +kernel
theorem dX3_spendNight_5 : decode cX3_spendNight 5 = .ok (.iconst 0, 1) := by decide +kernel
theorem dX3_spendNight_6 : decode cX3_spendNight 6 = .ok (.istore_n 3, 1) := by decide +kernel
theorem dX3_spendNight_7 : decode cX3_spendNight 7 = .ok (.iload_n 3, 1) := by decide +kernel
theorem dX3_spendNight_8 : decode cX3_spendNight 8 = .ok (.aload_n 1, 1) := by decide +kernel
theorem dX3_spendNight_9 : decode cX3_spendNight 9 = .ok (.getfield 88, 3) := by decide +kernel
theorem dX3_spendNight_12 : decode cX3_spendNight 12 = .ok (.if_icmp .ge 39, 3) := by decide +kernel
theorem dX3_spendNight_15 : decode cX3_spendNight 15 = .ok (.iload_n 2, 1) := by decide +kernel
theorem dX3_spendNight_16 : decode cX3_spendNight 16 = .ok (.iload_n 3, 1) := by decide +kernel
theorem dX3_spendNight_17 : decode cX3_spendNight 17 = .ok (.invokestatic 91, 3) := by decide +kernel
theorem dX3_spendNight_20 : decode cX3_spendNight 20 = .ok (.ifCond .eq 25, 3) := by decide +kernel
theorem dX3_spendNight_23 : decode cX3_spendNight 23 = .ok (.aload_n 0, 1) := by decide +kernel
theorem dX3_spendNight_24 : decode cX3_spendNight 24 = .ok (.aload_n 1, 1) := by decide +kernel
theorem dX3_spendNight_25 : decode cX3_spendNight 25 = .ok (.iload_n 3, 1) := by decide +kernel
theorem dX3_spendNight_26 : decode cX3_spendNight 26 = .ok (.invokevirtual 95, 3) := by decide +kernel
theorem dX3_spendNight_29 : decode cX3_spendNight 29 = .ok (.ifCond .eq 16, 3) := by decide +kernel
theorem dX3_spendNight_32 : decode cX3_spendNight 32 = .ok (.aload_n 0, 1) := by decide +kernel
theorem dX3_spendNight_33 : decode cX3_spendNight 33 = .ok (.getfield 18, 3) := by decide +kernel
theorem dX3_spendNight_36 : decode cX3_spendNight 36 = .ok (.iconst (-1), 1) := by decide +kernel
theorem dX3_spendNight_37 : decode cX3_spendNight 37 = .ok (.if_icmp .ne 8, 3) := by decide +kernel
theorem dX3_spendNight_40 : decode cX3_spendNight 40 = .ok (.aload_n 0, 1) := by decide +kernel
theorem dX3_spendNight_41 : decode cX3_spendNight 41 = .ok (.iload_n 3, 1) := by decide +kernel
theorem dX3_spendNight_42 : decode cX3_spendNight 42 = .ok (.putfield 18, 3) := by decide +kernel
theorem dX3_spendNight_45 : decode cX3_spendNight 45 = .ok (.iinc 3 1, 3) := by decide +kernel
theorem dX3_spendNight_48 : decode cX3_spendNight 48 = .ok (.goto (-41), 3) := by decide +kernel
theorem dX3_spendNight_51 : decode cX3_spendNight 51 = .ok (.aload_n 0, 1) := by decide +kernel
theorem dX3_spendNight_52 : decode cX3_spendNight 52 = .ok (.dup, 1) := by decide +kernel
theorem dX3_spendNight_53 : decode cX3_spendNight 53 = .ok (.getfield 25, 3) := by decide +kernel
theorem dX3_spendNight_56 : decode cX3_spendNight 56 = .ok (.iconst 1, 1) := by decide +kernel
theorem dX3_spendNight_57 : decode cX3_spendNight 57 = .ok (.iadd, 1) := by decide +kernel
theorem dX3_spendNight_58 : decode cX3_spendNight 58 = .ok (.putfield 25, 3) := by decide +kernel
theorem dX3_spendNight_61 : decode cX3_spendNight 61 = .ok (.return_, 1) := by decide +kernel
theorem dX4_init_0 : decode cX4_init 0 = .ok (.aload_n 0, 1) := by decide +kernel
theorem dX4_init_1 : decode cX4_init 1 = .ok (.invokespecial 3, 3) := by decide +kernel
theorem dX4_init_4 : decode cX4_init 4 = .ok (.aload_n 0, 1) := by decide +kernel
theorem dX4_init_5 : decode cX4_init 5 = .ok (.new 9, 3) := by decide +kernel
theorem dX4_init_8 : decode cX4_init 8 = .ok (.dup, 1) := by decide +kernel
theorem dX4_init_9 : decode cX4_init 9 = .ok (.bipush 20, 2) := by decide +kernel
theorem dX4_init_11 : decode cX4_init 11 = .ok (.invokespecial 11, 3) := by decide +kernel
theorem dX4_init_14 : decode cX4_init 14 = .ok (.putfield 14, 3) := by decide +kernel
theorem dX4_init_17 : decode cX4_init 17 = .ok (.aload_n 0, 1) := by decide +kernel
theorem dX4_init_18 : decode cX4_init 18 = .ok (.iconst 0, 1) := by decide +kernel
theorem dX4_init_19 : decode cX4_init 19 = .ok (.putfield 20, 3) := by decide +kernel
theorem dX4_init_22 : decode cX4_init 22 = .ok (.aload_n 0, 1) := by decide +kernel
theorem dX4_init_23 : decode cX4_init 23 = .ok (.iconst 0, 1) := by decide +kernel
theorem dX4_init_24 : decode cX4_init 24 = .ok (.putfield 24, 3) := by decide +kernel
theorem dX4_init_27 : decode cX4_init 27 = .ok (.return_, 1) := by decide +kernel
theorem dX4_clear_0 : decode cX4_clear 0 = .ok (.aload_n 0, 1) := by decide +kernel
theorem dX4_clear_1 : decode cX4_clear 1 = .ok (.iconst 0, 1) := by decide +kernel
theorem dX4_clear_2 : decode cX4_clear 2 = .ok (.putfield 24, 3) := by decide +kernel
theorem dX4_clear_5 : decode cX4_clear 5 = .ok (.return_, 1) := by decide +kernel
theorem dX4_push_0 : decode cX4_push 0 = .ok (.aload_n 0, 1) := by decide +kernel
theorem dX4_push_1 : decode cX4_push 1 = .ok (.getfield 14, 3) := by decide +kernel
theorem dX4_push_4 : decode cX4_push 4 = .ok (.aload_n 0, 1) := by decide +kernel
theorem dX4_push_5 : decode cX4_push 5 = .ok (.getfield 20, 3) := by decide +kernel
theorem dX4_push_8 : decode cX4_push 8 = .ok (.aload_n 1, 1) := by decide +kernel
theorem dX4_push_9 : decode cX4_push 9 = .ok (.invokevirtual 27, 3) := by decide +kernel
theorem dX4_push_12 : decode cX4_push 12 = .ok (.aload_n 0, 1) := by decide +kernel
theorem dX4_push_13 : decode cX4_push 13 = .ok (.aload_n 0, 1) := by decide +kernel
theorem dX4_push_14 : decode cX4_push 14 = .ok (.getfield 20, 3) := by decide +kernel
theorem dX4_push_17 : decode cX4_push 17 = .ok (.iconst 1, 1) := by decide +kernel
theorem dX4_push_18 : decode cX4_push 18 = .ok (.iadd, 1) := by decide +kernel
theorem dX4_push_19 : decode cX4_push 19 = .ok (.bipush 20, 2) := by decide +kernel
theorem dX4_push_21 : decode cX4_push 21 = .ok (.irem, 1) := by decide +kernel
theorem dX4_push_22 : decode cX4_push 22 = .ok (.putfield 20, 3) := by decide +kernel
theorem dX4_push_25 : decode cX4_push 25 = .ok (.aload_n 0, 1) := by decide +kernel
theorem dX4_push_26 : decode cX4_push 26 = .ok (.bipush 20, 2) := by decide +kernel
theorem dX4_push_28 : decode cX4_push 28 = .ok (.aload_n 0, 1) := by decide +kernel
theorem dX4_push_29 : decode cX4_push 29 = .ok (.getfield 24, 3) := by decide +kernel
theorem dX4_push_32 : decode cX4_push 32 = .ok (.iconst 1, 1) := by decide +kernel
theorem dX4_push_33 : decode cX4_push 33 = .ok (.iadd, 1) := by decide +kernel
theorem dX4_push_34 : decode cX4_push 34 = .ok (.invokestatic 31, 3) := by decide +kernel
theorem dX4_push_37 : decode cX4_push 37 = .ok (.putfield 24, 3) := by decide +kernel
theorem dX4_push_40 : decode cX4_push 40 = .ok (.return_, 1) := by decide +kernel
theorem dX4_pop_0 : decode cX4_pop 0 = .ok (.aload_n 0, 1) := by decide +kernel
theorem dX4_pop_1 : decode cX4_pop 1 = .ok (.getfield 24, 3) := by decide +kernel
theorem dX4_pop_4 : decode cX4_pop 4 = .ok (.ifCond .ne 5, 3) := by decide +kernel
theorem dX4_pop_7 : decode cX4_pop 7 = .ok (.iconst 0, 1) := by decide +kernel
theorem dX4_pop_8 : decode cX4_pop 8 = .ok (.ireturn, 1) := by decide +kernel
theorem dX4_pop_9 : decode cX4_pop 9 = .ok (.aload_n 0, 1) := by decide +kernel
theorem dX4_pop_10 : decode cX4_pop 10 = .ok (.aload_n 0, 1) := by decide +kernel
theorem dX4_pop_11 : decode cX4_pop 11 = .ok (.getfield 20, 3) := by decide +kernel
theorem dX4_pop_14 : decode cX4_pop 14 = .ok (.bipush 20, 2) := by decide +kernel
theorem dX4_pop_16 : decode cX4_pop 16 = .ok (.iadd, 1) := by decide +kernel
theorem dX4_pop_17 : decode cX4_pop 17 = .ok (.iconst 1, 1) := by decide +kernel
theorem dX4_pop_18 : decode cX4_pop 18 = .ok (.isub, 1) := by decide +kernel
theorem dX4_pop_19 : decode cX4_pop 19 = .ok (.bipush 20, 2) := by decide +kernel
theorem dX4_pop_21 : decode cX4_pop 21 = .ok (.irem, 1) := by decide +kernel
theorem dX4_pop_22 : decode cX4_pop 22 = .ok (.putfield 20, 3) := by decide +kernel
theorem dX4_pop_25 : decode cX4_pop 25 = .ok (.aload_n 0, 1) := by decide +kernel
theorem dX4_pop_26 : decode cX4_pop 26 = .ok (.dup, 1) := by decide +kernel
theorem dX4_pop_27 : decode cX4_pop 27 = .ok (.getfield 24, 3) := by decide +kernel
theorem dX4_pop_30 : decode cX4_pop 30 = .ok (.iconst 1, 1) := by decide +kernel
theorem dX4_pop_31 : decode cX4_pop 31 = .ok (.isub, 1) := by decide +kernel
theorem dX4_pop_32 : decode cX4_pop 32 = .ok (.putfield 24, 3) := by decide +kernel
theorem dX4_pop_35 : decode cX4_pop 35 = .ok (.aload_n 0, 1) := by decide +kernel
theorem dX4_pop_36 : decode cX4_pop 36 = .ok (.getfield 14, 3) := by decide +kernel
theorem dX4_pop_39 : decode cX4_pop 39 = .ok (.aload_n 0, 1) := by decide +kernel
theorem dX4_pop_40 : decode cX4_pop 40 = .ok (.getfield 20, 3) := by decide +kernel
theorem dX4_pop_43 : decode cX4_pop 43 = .ok (.aload_n 1, 1) := by decide +kernel
theorem dX4_pop_44 : decode cX4_pop 44 = .ok (.invokevirtual 37, 3) := by decide +kernel
theorem dX4_pop_47 : decode cX4_pop 47 = .ok (.iconst 1, 1) := by decide +kernel
theorem dX4_pop_48 : decode cX4_pop 48 = .ok (.ireturn, 1) := by decide +kernel
theorem dX5_init_0 : decode cX5_init 0 = .ok (.aload_n 0, 1) := by decide +kernel
theorem dX5_init_1 : decode cX5_init 1 = .ok (.invokespecial 1, 3) := by decide +kernel
theorem dX5_init_4 : decode cX5_init 4 = .ok (.return_, 1) := by decide +kernel
theorem dX5_become_0 : decode cX5_become 0 = .ok (.aload_n 0, 1) := by decide +kernel
theorem dX5_become_1 : decode cX5_become 1 = .ok (.iload_n 1, 1) := by decide +kernel
theorem dX5_become_2 : decode cX5_become 2 = .ok (.putfield 7, 3) := by decide +kernel
theorem dX5_become_5 : decode cX5_become 5 = .ok (.aload_n 0, 1) := by decide +kernel
theorem dX5_become_6 : decode cX5_become 6 = .ok (.iload_n 2, 1) := by decide +kernel
theorem dX5_become_7 : decode cX5_become 7 = .ok (.putfield 13, 3) := by decide +kernel
theorem dX5_become_10 : decode cX5_become 10 = .ok (.aload_n 0, 1) := by decide +kernel
theorem dX5_become_11 : decode cX5_become 11 = .ok (.iload_n 3, 1) := by decide +kernel
theorem dX5_become_12 : decode cX5_become 12 = .ok (.putfield 16, 3) := by decide +kernel
theorem dX5_become_15 : decode cX5_become 15 = .ok (.return_, 1) := by decide +kernel
theorem dX6_init_0 : decode cX6_init 0 = .ok (.aload_n 0, 1) := by decide +kernel
theorem dX6_init_1 : decode cX6_init 1 = .ok (.invokespecial 5, 3) := by decide +kernel
theorem dX6_init_4 : decode cX6_init 4 = .ok (.aload_n 0, 1) := by decide +kernel
theorem dX6_init_5 : decode cX6_init 5 = .ok (.iconst 0, 1) := by decide +kernel
theorem dX6_init_6 : decode cX6_init 6 = .ok (.bipush 20, 2) := by decide +kernel
theorem dX6_init_8 : decode cX6_init 8 = .ok (.iload_n 1, 1) := by decide +kernel
theorem dX6_init_9 : decode cX6_init 9 = .ok (.invokestatic 11, 3) := by decide +kernel
theorem dX6_init_12 : decode cX6_init 12 = .ok (.invokestatic 17, 3) := by decide +kernel
theorem dX6_init_15 : decode cX6_init 15 = .ok (.bipush 17, 2) := by decide +kernel
theorem dX6_init_17 : decode cX6_init 17 = .ok (.imul, 1) := by decide +kernel
theorem dX6_init_18 : decode cX6_init 18 = .ok (.newarray .int, 2) := by decide +kernel
theorem dX6_init_20 : decode cX6_init 20 = .ok (.putfield 20, 3) := by decide +kernel
theorem dX6_init_23 : decode cX6_init 23 = .ok (.return_, 1) := by decide +kernel
theorem dX6_store_0 : decode cX6_store 0 = .ok (.iload_n 1, 1) := by decide +kernel
theorem dX6_store_1 : decode cX6_store 1 = .ok (.bipush 17, 2) := by decide +kernel
theorem dX6_store_3 : decode cX6_store 3 = .ok (.imul, 1) := by decide +kernel
theorem dX6_store_4 : decode cX6_store 4 = .ok (.istore_n 3, 1) := by decide +kernel
theorem dX6_store_5 : decode cX6_store 5 = .ok (.iconst 0, 1) := by decide +kernel
theorem dX6_store_6 : decode cX6_store 6 = .ok (.istore 4, 2) := by decide +kernel
theorem dX6_store_8 : decode cX6_store 8 = .ok (.iload 4, 2) := by decide +kernel
theorem dX6_store_10 : decode cX6_store 10 = .ok (.iconst 5, 1) := by decide +kernel
theorem dX6_store_11 : decode cX6_store 11 = .ok (.if_icmp .ge 29, 3) := by decide +kernel
theorem dX6_store_14 : decode cX6_store 14 = .ok (.aload_n 0, 1) := by decide +kernel
theorem dX6_store_15 : decode cX6_store 15 = .ok (.getfield 20, 3) := by decide +kernel
theorem dX6_store_18 : decode cX6_store 18 = .ok (.iload_n 3, 1) := by decide +kernel
theorem dX6_store_19 : decode cX6_store 19 = .ok (.iload 4, 2) := by decide +kernel
theorem dX6_store_21 : decode cX6_store 21 = .ok (.iadd, 1) := by decide +kernel
theorem dX6_store_22 : decode cX6_store 22 = .ok (.aload_n 2, 1) := by decide +kernel
theorem dX6_store_23 : decode cX6_store 23 = .ok (.getfield 24, 3) := by decide +kernel
theorem dX6_store_26 : decode cX6_store 26 = .ok (.iload 4, 2) := by decide +kernel
theorem dX6_store_28 : decode cX6_store 28 = .ok (.invokestatic 29, 3) := by decide +kernel
theorem dX6_store_31 : decode cX6_store 31 = .ok (.invokestatic 33, 3) := by decide +kernel
theorem dX6_store_34 : decode cX6_store 34 = .ok (.iinc 4 1, 3) := by decide +kernel
theorem dX6_store_37 : decode cX6_store 37 = .ok (.goto (-29), 3) := by decide +kernel
theorem dX6_store_40 : decode cX6_store 40 = .ok (.iconst 0, 1) := by decide +kernel
theorem dX6_store_41 : decode cX6_store 41 = .ok (.istore 4, 2) := by decide +kernel
theorem dX6_store_43 : decode cX6_store 43 = .ok (.iload 4, 2) := by decide +kernel
theorem dX6_store_45 : decode cX6_store 45 = .ok (.bipush 8, 2) := by decide +kernel
theorem dX6_store_47 : decode cX6_store 47 = .ok (.if_icmp .ge 31, 3) := by decide +kernel
theorem dX6_store_50 : decode cX6_store 50 = .ok (.aload_n 0, 1) := by decide +kernel
theorem dX6_store_51 : decode cX6_store 51 = .ok (.getfield 20, 3) := by decide +kernel
theorem dX6_store_54 : decode cX6_store 54 = .ok (.iload_n 3, 1) := by decide +kernel
theorem dX6_store_55 : decode cX6_store 55 = .ok (.iconst 5, 1) := by decide +kernel
theorem dX6_store_56 : decode cX6_store 56 = .ok (.iadd, 1) := by decide +kernel
theorem dX6_store_57 : decode cX6_store 57 = .ok (.iload 4, 2) := by decide +kernel
theorem dX6_store_59 : decode cX6_store 59 = .ok (.iadd, 1) := by decide +kernel
theorem dX6_store_60 : decode cX6_store 60 = .ok (.aload_n 2, 1) := by decide +kernel
theorem dX6_store_61 : decode cX6_store 61 = .ok (.getfield 37, 3) := by decide +kernel
theorem dX6_store_64 : decode cX6_store 64 = .ok (.iload 4, 2) := by decide +kernel
theorem dX6_store_66 : decode cX6_store 66 = .ok (.invokestatic 29, 3) := by decide +kernel
theorem dX6_store_69 : decode cX6_store 69 = .ok (.invokestatic 33, 3) := by decide +kernel
theorem dX6_store_72 : decode cX6_store 72 = .ok (.iinc 4 1, 3) := by decide +kernel
theorem dX6_store_75 : decode cX6_store 75 = .ok (.goto (-32), 3) := by decide +kernel
theorem dX6_store_78 : decode cX6_store 78 = .ok (.aload_n 0, 1) := by decide +kernel
theorem dX6_store_79 : decode cX6_store 79 = .ok (.getfield 20, 3) := by decide +kernel
theorem dX6_store_82 : decode cX6_store 82 = .ok (.iload_n 3, 1) := by decide +kernel
theorem dX6_store_83 : decode cX6_store 83 = .ok (.bipush 13, 2) := by decide +kernel
theorem dX6_store_85 : decode cX6_store 85 = .ok (.iadd, 1) := by decide +kernel
theorem dX6_store_86 : decode cX6_store 86 = .ok (.aload_n 2, 1) := by decide +kernel
theorem dX6_store_87 : decode cX6_store 87 = .ok (.getfield 40, 3) := by decide +kernel
theorem dX6_store_90 : decode cX6_store 90 = .ok (.invokestatic 33, 3) := by decide +kernel
theorem dX6_store_93 : decode cX6_store 93 = .ok (.aload_n 0, 1) := by decide +kernel
theorem dX6_store_94 : decode cX6_store 94 = .ok (.getfield 20, 3) := by decide +kernel
theorem dX6_store_97 : decode cX6_store 97 = .ok (.iload_n 3, 1) := by decide +kernel
theorem dX6_store_98 : decode cX6_store 98 = .ok (.bipush 14, 2) := by decide +kernel
theorem dX6_store_100 : decode cX6_store 100 = .ok (.iadd, 1) := by decide +kernel
theorem dX6_store_101 : decode cX6_store 101 = .ok (.aload_n 2, 1) := by decide +kernel
theorem dX6_store_102 : decode cX6_store 102 = .ok (.getfield 44, 3) := by decide +kernel
theorem dX6_store_105 : decode cX6_store 105 = .ok (.invokestatic 33, 3) := by decide +kernel
theorem dX6_store_108 : decode cX6_store 108 = .ok (.aload_n 0, 1) := by decide +kernel
theorem dX6_store_109 : decode cX6_store 109 = .ok (.getfield 20, 3) := by decide +kernel
theorem dX6_store_112 : decode cX6_store 112 = .ok (.iload_n 3, 1) := by decide +kernel
theorem dX6_store_113 : decode cX6_store 113 = .ok (.bipush 15, 2) := by decide +kernel
theorem dX6_store_115 : decode cX6_store 115 = .ok (.iadd, 1) := by decide +kernel
theorem dX6_store_116 : decode cX6_store 116 = .ok (.aload_n 2, 1) := by decide +kernel
theorem dX6_store_117 : decode cX6_store 117 = .ok (.getfield 47, 3) := by decide +kernel
theorem dX6_store_120 : decode cX6_store 120 = .ok (.invokestatic 33, 3) := by decide +kernel
theorem dX6_store_123 : decode cX6_store 123 = .ok (.aload_n 0, 1) := by decide +kernel
theorem dX6_store_124 : decode cX6_store 124 = .ok (.getfield 20, 3) := by decide +kernel
theorem dX6_store_127 : decode cX6_store 127 = .ok (.iload_n 3, 1) := by decide +kernel
theorem dX6_store_128 : decode cX6_store 128 = .ok (.bipush 16, 2) := by decide +kernel
theorem dX6_store_130 : decode cX6_store 130 = .ok (.iadd, 1) := by decide +kernel
theorem dX6_store_131 : decode cX6_store 131 = .ok (.aload_n 2, 1) := by decide +kernel
theorem dX6_store_132 : decode cX6_store 132 = .ok (.getfield 50, 3) := by decide +kernel
theorem dX6_store_135 : decode cX6_store 135 = .ok (.invokestatic 33, 3) := by decide +kernel
theorem dX6_store_138 : decode cX6_store 138 = .ok (.return_, 1) := by decide +kernel
theorem dX6_fetch_0 : decode cX6_fetch 0 = .ok (.iload_n 1, 1) := by decide +kernel
theorem dX6_fetch_1 : decode cX6_fetch 1 = .ok (.bipush 17, 2) := by decide +kernel
theorem dX6_fetch_3 : decode cX6_fetch 3 = .ok (.imul, 1) := by decide +kernel
theorem dX6_fetch_4 : decode cX6_fetch 4 = .ok (.istore_n 3, 1) := by decide +kernel
theorem dX6_fetch_5 : decode cX6_fetch 5 = .ok (.iconst 0, 1) := by decide +kernel
theorem dX6_fetch_6 : decode cX6_fetch 6 = .ok (.istore 4, 2) := by decide +kernel
theorem dX6_fetch_8 : decode cX6_fetch 8 = .ok (.iload 4, 2) := by decide +kernel
theorem dX6_fetch_10 : decode cX6_fetch 10 = .ok (.iconst 5, 1) := by decide +kernel
theorem dX6_fetch_11 : decode cX6_fetch 11 = .ok (.if_icmp .ge 29, 3) := by decide +kernel
theorem dX6_fetch_14 : decode cX6_fetch 14 = .ok (.aload_n 2, 1) := by decide +kernel
theorem dX6_fetch_15 : decode cX6_fetch 15 = .ok (.getfield 24, 3) := by decide +kernel
theorem dX6_fetch_18 : decode cX6_fetch 18 = .ok (.iload 4, 2) := by decide +kernel
theorem dX6_fetch_20 : decode cX6_fetch 20 = .ok (.aload_n 0, 1) := by decide +kernel
theorem dX6_fetch_21 : decode cX6_fetch 21 = .ok (.getfield 20, 3) := by decide +kernel
theorem dX6_fetch_24 : decode cX6_fetch 24 = .ok (.iload_n 3, 1) := by decide +kernel
theorem dX6_fetch_25 : decode cX6_fetch 25 = .ok (.iload 4, 2) := by decide +kernel
theorem dX6_fetch_27 : decode cX6_fetch 27 = .ok (.iadd, 1) := by decide +kernel
theorem dX6_fetch_28 : decode cX6_fetch 28 = .ok (.invokestatic 29, 3) := by decide +kernel
theorem dX6_fetch_31 : decode cX6_fetch 31 = .ok (.invokestatic 33, 3) := by decide +kernel
theorem dX6_fetch_34 : decode cX6_fetch 34 = .ok (.iinc 4 1, 3) := by decide +kernel
theorem dX6_fetch_37 : decode cX6_fetch 37 = .ok (.goto (-29), 3) := by decide +kernel
theorem dX6_fetch_40 : decode cX6_fetch 40 = .ok (.iconst 0, 1) := by decide +kernel
theorem dX6_fetch_41 : decode cX6_fetch 41 = .ok (.istore 4, 2) := by decide +kernel
theorem dX6_fetch_43 : decode cX6_fetch 43 = .ok (.iload 4, 2) := by decide +kernel
theorem dX6_fetch_45 : decode cX6_fetch 45 = .ok (.bipush 8, 2) := by decide +kernel
theorem dX6_fetch_47 : decode cX6_fetch 47 = .ok (.if_icmp .ge 31, 3) := by decide +kernel
theorem dX6_fetch_50 : decode cX6_fetch 50 = .ok (.aload_n 2, 1) := by decide +kernel
theorem dX6_fetch_51 : decode cX6_fetch 51 = .ok (.getfield 37, 3) := by decide +kernel
theorem dX6_fetch_54 : decode cX6_fetch 54 = .ok (.iload 4, 2) := by decide +kernel
theorem dX6_fetch_56 : decode cX6_fetch 56 = .ok (.aload_n 0, 1) := by decide +kernel
theorem dX6_fetch_57 : decode cX6_fetch 57 = .ok (.getfield 20, 3) := by decide +kernel
theorem dX6_fetch_60 : decode cX6_fetch 60 = .ok (.iload_n 3, 1) := by decide +kernel
theorem dX6_fetch_61 : decode cX6_fetch 61 = .ok (.iconst 5, 1) := by decide +kernel
theorem dX6_fetch_62 : decode cX6_fetch 62 = .ok (.iadd, 1) := by decide +kernel
theorem dX6_fetch_63 : decode cX6_fetch 63 = .ok (.iload 4, 2) := by decide +kernel
theorem dX6_fetch_65 : decode cX6_fetch 65 = .ok (.iadd, 1) := by decide +kernel
theorem dX6_fetch_66 : decode cX6_fetch 66 = .ok (.invokestatic 29, 3) := by decide +kernel
theorem dX6_fetch_69 : decode cX6_fetch 69 = .ok (.invokestatic 33, 3) := by decide +kernel
theorem dX6_fetch_72 : decode cX6_fetch 72 = .ok (.iinc 4 1, 3) := by decide +kernel
theorem dX6_fetch_75 : decode cX6_fetch 75 = .ok (.goto (-32), 3) := by decide +kernel
theorem dX6_fetch_78 : decode cX6_fetch 78 = .ok (.aload_n 2, 1) := by decide +kernel
theorem dX6_fetch_79 : decode cX6_fetch 79 = .ok (.aload_n 0, 1) := by decide +kernel
theorem dX6_fetch_80 : decode cX6_fetch 80 = .ok (.getfield 20, 3) := by decide +kernel
theorem dX6_fetch_83 : decode cX6_fetch 83 = .ok (.iload_n 3, 1) := by decide +kernel
theorem dX6_fetch_84 : decode cX6_fetch 84 = .ok (.bipush 13, 2) := by decide +kernel
theorem dX6_fetch_86 : decode cX6_fetch 86 = .ok (.iadd, 1) := by decide +kernel
theorem dX6_fetch_87 : decode cX6_fetch 87 = .ok (.invokestatic 29, 3) := by decide +kernel
theorem dX6_fetch_90 : decode cX6_fetch 90 = .ok (.putfield 40, 3) := by decide +kernel
theorem dX6_fetch_93 : decode cX6_fetch 93 = .ok (.aload_n 2, 1) := by decide +kernel
theorem dX6_fetch_94 : decode cX6_fetch 94 = .ok (.aload_n 0, 1) := by decide +kernel
theorem dX6_fetch_95 : decode cX6_fetch 95 = .ok (.getfield 20, 3) := by decide +kernel
theorem dX6_fetch_98 : decode cX6_fetch 98 = .ok (.iload_n 3, 1) := by decide +kernel
theorem dX6_fetch_99 : decode cX6_fetch 99 = .ok (.bipush 14, 2) := by decide +kernel
theorem dX6_fetch_101 : decode cX6_fetch 101 = .ok (.iadd, 1) := by decide +kernel
theorem dX6_fetch_102 : decode cX6_fetch 102 = .ok (.invokestatic 29, 3) := by decide +kernel
theorem dX6_fetch_105 : decode cX6_fetch 105 = .ok (.putfield 44, 3) := by decide +kernel
theorem dX6_fetch_108 : decode cX6_fetch 108 = .ok (.aload_n 2, 1) := by decide +kernel
theorem dX6_fetch_109 : decode cX6_fetch 109 = .ok (.aload_n 0, 1) := by decide +kernel
theorem dX6_fetch_110 : decode cX6_fetch 110 = .ok (.getfield 20, 3) := by decide +kernel
theorem dX6_fetch_113 : decode cX6_fetch 113 = .ok (.iload_n 3, 1) := by decide +kernel
theorem dX6_fetch_114 : decode cX6_fetch 114 = .ok (.bipush 15, 2) := by decide +kernel
theorem dX6_fetch_116 : decode cX6_fetch 116 = .ok (.iadd, 1) := by decide +kernel
theorem dX6_fetch_117 : decode cX6_fetch 117 = .ok (.invokestatic 29, 3) := by decide +kernel
theorem dX6_fetch_120 : decode cX6_fetch 120 = .ok (.putfield 47, 3) := by decide +kernel
theorem dX6_fetch_123 : decode cX6_fetch 123 = .ok (.aload_n 2, 1) := by decide +kernel
theorem dX6_fetch_124 : decode cX6_fetch 124 = .ok (.aload_n 0, 1) := by decide +kernel
theorem dX6_fetch_125 : decode cX6_fetch 125 = .ok (.getfield 20, 3) := by decide +kernel
theorem dX6_fetch_128 : decode cX6_fetch 128 = .ok (.iload_n 3, 1) := by decide +kernel
theorem dX6_fetch_129 : decode cX6_fetch 129 = .ok (.bipush 16, 2) := by decide +kernel
theorem dX6_fetch_131 : decode cX6_fetch 131 = .ok (.iadd, 1) := by decide +kernel
theorem dX6_fetch_132 : decode cX6_fetch 132 = .ok (.invokestatic 29, 3) := by decide +kernel
theorem dX6_fetch_135 : decode cX6_fetch 135 = .ok (.putfield 50, 3) := by decide +kernel
theorem dX6_fetch_138 : decode cX6_fetch 138 = .ok (.return_, 1) := by decide +kernel
end
section
theorem dX7_init_0 : decode cX7_init 0 = .ok (.aload_n 0, 1) := by decide +kernel
theorem dX7_init_1 : decode cX7_init 1 = .ok (.invokespecial 1, 3) := by decide +kernel
theorem dX7_init_4 : decode cX7_init 4 = .ok (.aload_n 0, 1) := by decide +kernel
theorem dX7_init_5 : decode cX7_init 5 = .ok (.new 7, 3) := by decide +kernel
theorem dX7_init_8 : decode cX7_init 8 = .ok (.dup, 1) := by decide +kernel
theorem dX7_init_9 : decode cX7_init 9 = .ok (.invokespecial 9, 3) := by decide +kernel
theorem dX7_init_12 : decode cX7_init 12 = .ok (.putfield 10, 3) := by decide +kernel
theorem dX7_init_15 : decode cX7_init 15 = .ok (.aload_n 0, 1) := by decide +kernel
theorem dX7_init_16 : decode cX7_init 16 = .ok (.new 16, 3) := by decide +kernel
theorem dX7_init_19 : decode cX7_init 19 = .ok (.dup, 1) := by decide +kernel
theorem dX7_init_20 : decode cX7_init 20 = .ok (.invokespecial 18, 3) := by decide +kernel
theorem dX7_init_23 : decode cX7_init 23 = .ok (.putfield 19, 3) := by decide +kernel
theorem dX7_init_26 : decode cX7_init 26 = .ok (.aload_n 0, 1) := by decide +kernel
theorem dX7_init_27 : decode cX7_init 27 = .ok (.new 16, 3) := by decide +kernel
theorem dX7_init_30 : decode cX7_init 30 = .ok (.dup, 1) := by decide +kernel
theorem dX7_init_31 : decode cX7_init 31 = .ok (.invokespecial 18, 3) := by decide +kernel
theorem dX7_init_34 : decode cX7_init 34 = .ok (.putfield 23, 3) := by decide +kernel
theorem dX7_init_37 : decode cX7_init 37 = .ok (.aload_n 0, 1) := by decide +kernel
theorem dX7_init_38 : decode cX7_init 38 = .ok (.new 26, 3) := by decide +kernel
theorem dX7_init_41 : decode cX7_init 41 = .ok (.dup, 1) := by decide +kernel
theorem dX7_init_42 : decode cX7_init 42 = .ok (.invokespecial 28, 3) := by decide +kernel
theorem dX7_init_45 : decode cX7_init 45 = .ok (.putfield 29, 3) := by decide +kernel
theorem dX7_init_48 : decode cX7_init 48 = .ok (.aload_n 0, 1) := by decide +kernel
theorem dX7_init_49 : decode cX7_init 49 = .ok (.new 26, 3) := by decide +kernel
theorem dX7_init_52 : decode cX7_init 52 = .ok (.dup, 1) := by decide +kernel
theorem dX7_init_53 : decode cX7_init 53 = .ok (.invokespecial 28, 3) := by decide +kernel
theorem dX7_init_56 : decode cX7_init 56 = .ok (.putfield 33, 3) := by decide +kernel
theorem dX7_init_59 : decode cX7_init 59 = .ok (.aload_n 0, 1) := by decide +kernel
theorem dX7_init_60 : decode cX7_init 60 = .ok (.new 26, 3) := by decide +kernel
theorem dX7_init_63 : decode cX7_init 63 = .ok (.dup, 1) := by decide +kernel
theorem dX7_init_64 : decode cX7_init 64 = .ok (.invokespecial 28, 3) := by decide +kernel
theorem dX7_init_67 : decode cX7_init 67 = .ok (.putfield 36, 3) := by decide +kernel
theorem dX7_init_70 : decode cX7_init 70 = .ok (.aload_n 0, 1) := by decide +kernel
theorem dX7_init_71 : decode cX7_init 71 = .ok (.new 39, 3) := by decide +kernel
theorem dX7_init_74 : decode cX7_init 74 = .ok (.dup, 1) := by decide +kernel
theorem dX7_init_75 : decode cX7_init 75 = .ok (.invokespecial 41, 3) := by decide +kernel
theorem dX7_init_78 : decode cX7_init 78 = .ok (.putfield 42, 3) := by decide +kernel
theorem dX7_init_81 : decode cX7_init 81 = .ok (.aload_n 0, 1) := by decide +kernel
theorem dX7_init_82 : decode cX7_init 82 = .ok (.new 46, 3) := by decide +kernel
theorem dX7_init_85 : decode cX7_init 85 = .ok (.dup, 1) := by decide +kernel
theorem dX7_init_86 : decode cX7_init 86 = .ok (.invokespecial 48, 3) := by decide +kernel
theorem dX7_init_89 : decode cX7_init 89 = .ok (.putfield 49, 3) := by decide +kernel
theorem dX7_init_92 : decode cX7_init 92 = .ok (.aload_n 0, 1) := by decide +kernel
theorem dX7_init_93 : decode cX7_init 93 = .ok (.new 53, 3) := by decide +kernel
theorem dX7_init_96 : decode cX7_init 96 = .ok (.dup, 1) := by decide +kernel
theorem dX7_init_97 : decode cX7_init 97 = .ok (.iconst 2, 1) := by decide +kernel
theorem dX7_init_98 : decode cX7_init 98 = .ok (.invokespecial 55, 3) := by decide +kernel
theorem dX7_init_101 : decode cX7_init 101 = .ok (.putfield 58, 3) := by decide +kernel
theorem dX7_init_104 : decode cX7_init 104 = .ok (.aload_n 0, 1) := by decide +kernel
theorem dX7_init_105 : decode cX7_init 105 = .ok (.iconst 2, 1) := by decide +kernel
theorem dX7_init_106 : decode cX7_init 106 = .ok (.newarray .int, 2) := by decide +kernel
theorem dX7_init_108 : decode cX7_init 108 = .ok (.putfield 62, 3) := by decide +kernel
theorem dX7_init_111 : decode cX7_init 111 = .ok (.aload_n 0, 1) := by decide +kernel
theorem dX7_init_112 : decode cX7_init 112 = .ok (.iconst 0, 1) := by decide +kernel
theorem dX7_init_113 : decode cX7_init 113 = .ok (.putfield 66, 3) := by decide +kernel
theorem dX7_init_116 : decode cX7_init 116 = .ok (.aload_n 0, 1) := by decide +kernel
theorem dX7_init_117 : decode cX7_init 117 = .ok (.iconst 0, 1) := by decide +kernel
theorem dX7_init_118 : decode cX7_init 118 = .ok (.putfield 70, 3) := by decide +kernel
theorem dX7_init_121 : decode cX7_init 121 = .ok (.aload_n 0, 1) := by decide +kernel
theorem dX7_init_122 : decode cX7_init 122 = .ok (.new 73, 3) := by decide +kernel
theorem dX7_init_125 : decode cX7_init 125 = .ok (.dup, 1) := by decide +kernel
theorem dX7_init_126 : decode cX7_init 126 = .ok (.bipush 6, 2) := by decide +kernel
theorem dX7_init_128 : decode cX7_init 128 = .ok (.invokespecial 75, 3) := by decide +kernel
theorem dX7_init_131 : decode cX7_init 131 = .ok (.putfield 76, 3) := by decide +kernel
theorem dX7_init_134 : decode cX7_init 134 = .ok (.aload_n 0, 1) := by decide +kernel
theorem dX7_init_135 : decode cX7_init 135 = .ok (.new 73, 3) := by decide +kernel
theorem dX7_init_138 : decode cX7_init 138 = .ok (.dup, 1) := by decide +kernel
theorem dX7_init_139 : decode cX7_init 139 = .ok (.bipush 15, 2) := by decide +kernel
theorem dX7_init_141 : decode cX7_init 141 = .ok (.invokespecial 75, 3) := by decide +kernel
theorem dX7_init_144 : decode cX7_init 144 = .ok (.putfield 80, 3) := by decide +kernel
theorem dX7_init_147 : decode cX7_init 147 = .ok (.return_, 1) := by decide +kernel
theorem dX7_feed_0 : decode cX7_feed 0 = .ok (.iload_n 1, 1) := by decide +kernel
theorem dX7_feed_1 : decode cX7_feed 1 = .ok (.ifCond .lt 10, 3) := by decide +kernel
theorem dX7_feed_4 : decode cX7_feed 4 = .ok (.iload_n 1, 1) := by decide +kernel
theorem dX7_feed_5 : decode cX7_feed 5 = .ok (.sipush 255, 3) := by decide +kernel
theorem dX7_feed_8 : decode cX7_feed 8 = .ok (.if_icmp .le 6, 3) := by decide +kernel
theorem dX7_feed_11 : decode cX7_feed 11 = .ok (.ldc 83, 2) := by decide +kernel
theorem dX7_feed_13 : decode cX7_feed 13 = .ok (.ireturn, 1) := by decide +kernel
theorem dX7_feed_14 : decode cX7_feed 14 = .ok (.aload_n 0, 1) := by decide +kernel
theorem dX7_feed_15 : decode cX7_feed 15 = .ok (.getfield 10, 3) := by decide +kernel
theorem dX7_feed_18 : decode cX7_feed 18 = .ok (.iload_n 1, 1) := by decide +kernel
theorem dX7_feed_19 : decode cX7_feed 19 = .ok (.invokevirtual 84, 3) := by decide +kernel
theorem dX7_feed_22 : decode cX7_feed 22 = .ok (.ifCond .eq 13, 3) := by decide +kernel
theorem dX7_feed_25 : decode cX7_feed 25 = .ok (.aload_n 0, 1) := by decide +kernel
theorem dX7_feed_26 : decode cX7_feed 26 = .ok (.getfield 10, 3) := by decide +kernel
theorem dX7_feed_29 : decode cX7_feed 29 = .ok (.getfield 88, 3) := by decide +kernel
theorem dX7_feed_32 : decode cX7_feed 32 = .ok (.goto 5, 3) := by decide +kernel
theorem dX7_feed_35 : decode cX7_feed 35 = .ok (.ldc 91, 2) := by decide +kernel
theorem dX7_feed_37 : decode cX7_feed 37 = .ok (.ireturn, 1) := by decide +kernel
theorem dX7_city_0 : decode cX7_city 0 = .ok (.aload_n 0, 1) := by decide +kernel
theorem dX7_city_1 : decode cX7_city 1 = .ok (.getfield 10, 3) := by decide +kernel
theorem dX7_city_4 : decode cX7_city 4 = .ok (.aload_n 0, 1) := by decide +kernel
theorem dX7_city_5 : decode cX7_city 5 = .ok (.getfield 23, 3) := by decide +kernel
theorem dX7_city_8 : decode cX7_city 8 = .ok (.invokevirtual 92, 3) := by decide +kernel
theorem dX7_city_11 : decode cX7_city 11 = .ok (.istore_n 1, 1) := by decide +kernel
theorem dX7_city_12 : decode cX7_city 12 = .ok (.aload_n 0, 1) := by decide +kernel
theorem dX7_city_13 : decode cX7_city 13 = .ok (.getfield 10, 3) := by decide +kernel
theorem dX7_city_16 : decode cX7_city 16 = .ok (.iconst 0, 1) := by decide +kernel
theorem dX7_city_17 : decode cX7_city 17 = .ok (.putfield 88, 3) := by decide +kernel
theorem dX7_city_20 : decode cX7_city 20 = .ok (.iload_n 1, 1) := by decide +kernel
theorem dX7_city_21 : decode cX7_city 21 = .ok (.ifCond .eq 8, 3) := by decide +kernel
theorem dX7_city_24 : decode cX7_city 24 = .ok (.bipush (-10), 2) := by decide +kernel
theorem dX7_city_26 : decode cX7_city 26 = .ok (.iload_n 1, 1) := by decide +kernel
theorem dX7_city_27 : decode cX7_city 27 = .ok (.isub, 1) := by decide +kernel
theorem dX7_city_28 : decode cX7_city 28 = .ok (.ireturn, 1) := by decide +kernel
theorem dX7_city_29 : decode cX7_city 29 = .ok (.aload_n 0, 1) := by decide +kernel
theorem dX7_city_30 : decode cX7_city 30 = .ok (.getfield 19, 3) := by decide +kernel
theorem dX7_city_33 : decode cX7_city 33 = .ok (.aload_n 0, 1) := by decide +kernel
theorem dX7_city_34 : decode cX7_city 34 = .ok (.getfield 23, 3) := by decide +kernel
theorem dX7_city_37 : decode cX7_city 37 = .ok (.invokevirtual 96, 3) := by decide +kernel
theorem dX7_city_40 : decode cX7_city 40 = .ok (.aload_n 0, 1) := by decide +kernel
theorem dX7_city_41 : decode cX7_city 41 = .ok (.getfield 29, 3) := by decide +kernel
theorem dX7_city_44 : decode cX7_city 44 = .ok (.aload_n 0, 1) := by decide +kernel
theorem dX7_city_45 : decode cX7_city 45 = .ok (.getfield 19, 3) := by decide +kernel
theorem dX7_city_48 : decode cX7_city 48 = .ok (.invokevirtual 100, 3) := by decide +kernel
theorem dX7_city_51 : decode cX7_city 51 = .ok (.aload_n 0, 1) := by decide +kernel
theorem dX7_city_52 : decode cX7_city 52 = .ok (.getfield 49, 3) := by decide +kernel
theorem dX7_city_55 : decode cX7_city 55 = .ok (.invokevirtual 103, 3) := by decide +kernel
theorem dX7_city_58 : decode cX7_city 58 = .ok (.aload_n 0, 1) := by decide +kernel
theorem dX7_city_59 : decode cX7_city 59 = .ok (.getfield 76, 3) := by decide +kernel
theorem dX7_city_62 : decode cX7_city 62 = .ok (.invokevirtual 106, 3) := by decide +kernel
theorem dX7_city_65 : decode cX7_city 65 = .ok (.aload_n 0, 1) := by decide +kernel
theorem dX7_city_66 : decode cX7_city 66 = .ok (.getfield 80, 3) := by decide +kernel
theorem dX7_city_69 : decode cX7_city 69 = .ok (.invokevirtual 106, 3) := by decide +kernel
theorem dX7_city_72 : decode cX7_city 72 = .ok (.aload_n 0, 1) := by decide +kernel
theorem dX7_city_73 : decode cX7_city 73 = .ok (.iconst 0, 1) := by decide +kernel
theorem dX7_city_74 : decode cX7_city 74 = .ok (.putfield 66, 3) := by decide +kernel
theorem dX7_city_77 : decode cX7_city 77 = .ok (.aload_n 0, 1) := by decide +kernel
theorem dX7_city_78 : decode cX7_city 78 = .ok (.getfield 19, 3) := by decide +kernel
theorem dX7_city_81 : decode cX7_city 81 = .ok (.getfield 107, 3) := by decide +kernel
theorem dX7_city_84 : decode cX7_city 84 = .ok (.ireturn, 1) := by decide +kernel
theorem dX7_fault_0 : decode cX7_fault 0 = .ok (.aload_n 0, 1) := by decide +kernel
theorem dX7_fault_1 : decode cX7_fault 1 = .ok (.getfield 10, 3) := by decide +kernel
theorem dX7_fault_4 : decode cX7_fault 4 = .ok (.getfield 110, 3) := by decide +kernel
theorem dX7_fault_7 : decode cX7_fault 7 = .ok (.ireturn, 1) := by decide +kernel
theorem dX7_told_0 : decode cX7_told 0 = .ok (.iload_n 1, 1) := by decide +kernel
theorem dX7_told_1 : decode cX7_told 1 = .ok (.tableswitch 175 0 12 #[67, 75, 83, 91, 99, 107, 115, 123, 135, 143, 151, 159, 167], 67) := by decide +kernel
theorem dX7_told_68 : decode cX7_told 68 = .ok (.aload_n 0, 1) := by decide +kernel
theorem dX7_told_69 : decode cX7_told 69 = .ok (.getfield 19, 3) := by decide +kernel
theorem dX7_told_72 : decode cX7_told 72 = .ok (.getfield 113, 3) := by decide +kernel
theorem dX7_told_75 : decode cX7_told 75 = .ok (.ireturn, 1) := by decide +kernel
theorem dX7_told_76 : decode cX7_told 76 = .ok (.aload_n 0, 1) := by decide +kernel
theorem dX7_told_77 : decode cX7_told 77 = .ok (.getfield 19, 3) := by decide +kernel
theorem dX7_told_80 : decode cX7_told 80 = .ok (.getfield 116, 3) := by decide +kernel
theorem dX7_told_83 : decode cX7_told 83 = .ok (.ireturn, 1) := by decide +kernel
theorem dX7_told_84 : decode cX7_told 84 = .ok (.aload_n 0, 1) := by decide +kernel
theorem dX7_told_85 : decode cX7_told 85 = .ok (.getfield 19, 3) := by decide +kernel
theorem dX7_told_88 : decode cX7_told 88 = .ok (.getfield 107, 3) := by decide +kernel
theorem dX7_told_91 : decode cX7_told 91 = .ok (.ireturn, 1) := by decide +kernel
theorem dX7_told_92 : decode cX7_told 92 = .ok (.aload_n 0, 1) := by decide +kernel
theorem dX7_told_93 : decode cX7_told 93 = .ok (.getfield 19, 3) := by decide +kernel
theorem dX7_told_96 : decode cX7_told 96 = .ok (.getfield 119, 3) := by decide +kernel
theorem dX7_told_99 : decode cX7_told 99 = .ok (.ireturn, 1) := by decide +kernel
theorem dX7_told_100 : decode cX7_told 100 = .ok (.aload_n 0, 1) := by decide +kernel
theorem dX7_told_101 : decode cX7_told 101 = .ok (.getfield 10, 3) := by decide +kernel
theorem dX7_told_104 : decode cX7_told 104 = .ok (.getfield 88, 3) := by decide +kernel
theorem dX7_told_107 : decode cX7_told 107 = .ok (.ireturn, 1) := by decide +kernel
theorem dX7_told_108 : decode cX7_told 108 = .ok (.aload_n 0, 1) := by decide +kernel
theorem dX7_told_109 : decode cX7_told 109 = .ok (.getfield 29, 3) := by decide +kernel
theorem dX7_told_112 : decode cX7_told 112 = .ok (.getfield 122, 3) := by decide +kernel
theorem dX7_told_115 : decode cX7_told 115 = .ok (.ireturn, 1) := by decide +kernel
theorem dX7_told_116 : decode cX7_told 116 = .ok (.aload_n 0, 1) := by decide +kernel
theorem dX7_told_117 : decode cX7_told 117 = .ok (.getfield 29, 3) := by decide +kernel
theorem dX7_told_120 : decode cX7_told 120 = .ok (.getfield 125, 3) := by decide +kernel
theorem dX7_told_123 : decode cX7_told 123 = .ok (.ireturn, 1) := by decide +kernel
theorem dX7_told_124 : decode cX7_told 124 = .ok (.aload_n 0, 1) := by decide +kernel
theorem dX7_told_125 : decode cX7_told 125 = .ok (.getfield 29, 3) := by decide +kernel
theorem dX7_told_128 : decode cX7_told 128 = .ok (.aload_n 0, 1) := by decide +kernel
theorem dX7_told_129 : decode cX7_told 129 = .ok (.getfield 19, 3) := by decide +kernel
theorem dX7_told_132 : decode cX7_told 132 = .ok (.invokevirtual 128, 3) := by decide +kernel
theorem dX7_told_135 : decode cX7_told 135 = .ok (.ireturn, 1) := by decide +kernel
theorem dX7_told_136 : decode cX7_told 136 = .ok (.aload_n 0, 1) := by decide +kernel
theorem dX7_told_137 : decode cX7_told 137 = .ok (.getfield 29, 3) := by decide +kernel
theorem dX7_told_140 : decode cX7_told 140 = .ok (.getfield 131, 3) := by decide +kernel
theorem dX7_told_143 : decode cX7_told 143 = .ok (.ireturn, 1) := by decide +kernel
theorem dX7_told_144 : decode cX7_told 144 = .ok (.aload_n 0, 1) := by decide +kernel
theorem dX7_told_145 : decode cX7_told 145 = .ok (.getfield 29, 3) := by decide +kernel
theorem dX7_told_148 : decode cX7_told 148 = .ok (.getfield 134, 3) := by decide +kernel
theorem dX7_told_151 : decode cX7_told 151 = .ok (.ireturn, 1) := by decide +kernel
theorem dX7_told_152 : decode cX7_told 152 = .ok (.aload_n 0, 1) := by decide +kernel
theorem dX7_told_153 : decode cX7_told 153 = .ok (.getfield 76, 3) := by decide +kernel
theorem dX7_told_156 : decode cX7_told 156 = .ok (.getfield 137, 3) := by decide +kernel
theorem dX7_told_159 : decode cX7_told 159 = .ok (.ireturn, 1) := by decide +kernel
theorem dX7_told_160 : decode cX7_told 160 = .ok (.aload_n 0, 1) := by decide +kernel
theorem dX7_told_161 : decode cX7_told 161 = .ok (.getfield 80, 3) := by decide +kernel
theorem dX7_told_164 : decode cX7_told 164 = .ok (.getfield 137, 3) := by decide +kernel
theorem dX7_told_167 : decode cX7_told 167 = .ok (.ireturn, 1) := by decide +kernel
theorem dX7_told_168 : decode cX7_told 168 = .ok (.aload_n 0, 1) := by decide +kernel
theorem dX7_told_169 : decode cX7_told 169 = .ok (.getfield 49, 3) := by decide +kernel
theorem dX7_told_172 : decode cX7_told 172 = .ok (.getfield 138, 3) := by decide +kernel
theorem dX7_told_175 : decode cX7_told 175 = .ok (.ireturn, 1) := by decide +kernel
theorem dX7_told_176 : decode cX7_told 176 = .ok (.ldc 83, 2) := by decide +kernel
theorem dX7_told_178 : decode cX7_told 178 = .ok (.ireturn, 1) := by decide +kernel
theorem dX7_belief_0 : decode cX7_belief 0 = .ok (.aload_n 0, 1) := by decide +kernel
theorem dX7_belief_1 : decode cX7_belief 1 = .ok (.getfield 19, 3) := by decide +kernel
theorem dX7_belief_4 : decode cX7_belief 4 = .ok (.iload_n 1, 1) := by decide +kernel
theorem dX7_belief_5 : decode cX7_belief 5 = .ok (.invokevirtual 139, 3) := by decide +kernel
theorem dX7_belief_8 : decode cX7_belief 8 = .ok (.ifCond .eq 17, 3) := by decide +kernel
theorem dX7_belief_11 : decode cX7_belief 11 = .ok (.aload_n 0, 1) := by decide +kernel
theorem dX7_belief_12 : decode cX7_belief 12 = .ok (.getfield 29, 3) := by decide +kernel
theorem dX7_belief_15 : decode cX7_belief 15 = .ok (.getfield 142, 3) := by decide +kernel
theorem dX7_belief_18 : decode cX7_belief 18 = .ok (.iload_n 1, 1) := by decide +kernel
theorem dX7_belief_19 : decode cX7_belief 19 = .ok (.invokestatic 145, 3) := by decide +kernel
theorem dX7_belief_22 : decode cX7_belief 22 = .ok (.goto 5, 3) := by decide +kernel
theorem dX7_belief_25 : decode cX7_belief 25 = .ok (.ldc 149, 2) := by decide +kernel
theorem dX7_belief_27 : decode cX7_belief 27 = .ok (.ireturn, 1) := by decide +kernel
theorem dX7_fact_0 : decode cX7_fact 0 = .ok (.aload_n 0, 1) := by decide +kernel
theorem dX7_fact_1 : decode cX7_fact 1 = .ok (.getfield 19, 3) := by decide +kernel
theorem dX7_fact_4 : decode cX7_fact 4 = .ok (.iload_n 1, 1) := by decide +kernel
theorem dX7_fact_5 : decode cX7_fact 5 = .ok (.invokevirtual 150, 3) := by decide +kernel
theorem dX7_fact_8 : decode cX7_fact 8 = .ok (.ifCond .ne 6, 3) := by decide +kernel
theorem dX7_fact_11 : decode cX7_fact 11 = .ok (.ldc 149, 2) := by decide +kernel
theorem dX7_fact_13 : decode cX7_fact 13 = .ok (.ireturn, 1) := by decide +kernel
theorem dX7_fact_14 : decode cX7_fact 14 = .ok (.iload_n 2, 1) := by decide +kernel
theorem dX7_fact_15 : decode cX7_fact 15 = .ok (.tableswitch 136 0 6 #[41, 53, 68, 80, 92, 104, 124], 41) := by decide +kernel
theorem dX7_fact_56 : decode cX7_fact 56 = .ok (.aload_n 0, 1) := by decide +kernel
theorem dX7_fact_57 : decode cX7_fact 57 = .ok (.getfield 19, 3) := by decide +kernel
theorem dX7_fact_60 : decode cX7_fact 60 = .ok (.getfield 153, 3) := by decide +kernel
theorem dX7_fact_63 : decode cX7_fact 63 = .ok (.iload_n 1, 1) := by decide +kernel
theorem dX7_fact_64 : decode cX7_fact 64 = .ok (.invokestatic 145, 3) := by decide +kernel
theorem dX7_fact_67 : decode cX7_fact 67 = .ok (.ireturn, 1) := by decide +kernel
theorem dX7_fact_68 : decode cX7_fact 68 = .ok (.aload_n 0, 1) := by decide +kernel
theorem dX7_fact_69 : decode cX7_fact 69 = .ok (.getfield 19, 3) := by decide +kernel
theorem dX7_fact_72 : decode cX7_fact 72 = .ok (.getfield 156, 3) := by decide +kernel
theorem dX7_fact_75 : decode cX7_fact 75 = .ok (.iload_n 1, 1) := by decide +kernel
theorem dX7_fact_76 : decode cX7_fact 76 = .ok (.invokestatic 145, 3) := by decide +kernel
theorem dX7_fact_79 : decode cX7_fact 79 = .ok (.bipush 9, 2) := by decide +kernel
theorem dX7_fact_81 : decode cX7_fact 81 = .ok (.iadd, 1) := by decide +kernel
theorem dX7_fact_82 : decode cX7_fact 82 = .ok (.ireturn, 1) := by decide +kernel
theorem dX7_fact_83 : decode cX7_fact 83 = .ok (.aload_n 0, 1) := by decide +kernel
theorem dX7_fact_84 : decode cX7_fact 84 = .ok (.getfield 19, 3) := by decide +kernel
theorem dX7_fact_87 : decode cX7_fact 87 = .ok (.getfield 159, 3) := by decide +kernel
theorem dX7_fact_90 : decode cX7_fact 90 = .ok (.iload_n 1, 1) := by decide +kernel
theorem dX7_fact_91 : decode cX7_fact 91 = .ok (.invokestatic 145, 3) := by decide +kernel
theorem dX7_fact_94 : decode cX7_fact 94 = .ok (.ireturn, 1) := by decide +kernel
theorem dX7_fact_95 : decode cX7_fact 95 = .ok (.aload_n 0, 1) := by decide +kernel
theorem dX7_fact_96 : decode cX7_fact 96 = .ok (.getfield 19, 3) := by decide +kernel
theorem dX7_fact_99 : decode cX7_fact 99 = .ok (.getfield 162, 3) := by decide +kernel
theorem dX7_fact_102 : decode cX7_fact 102 = .ok (.iload_n 1, 1) := by decide +kernel
theorem dX7_fact_103 : decode cX7_fact 103 = .ok (.invokestatic 145, 3) := by decide +kernel
theorem dX7_fact_106 : decode cX7_fact 106 = .ok (.ireturn, 1) := by decide +kernel
theorem dX7_fact_107 : decode cX7_fact 107 = .ok (.aload_n 0, 1) := by decide +kernel
theorem dX7_fact_108 : decode cX7_fact 108 = .ok (.getfield 19, 3) := by decide +kernel
theorem dX7_fact_111 : decode cX7_fact 111 = .ok (.getfield 165, 3) := by decide +kernel
theorem dX7_fact_114 : decode cX7_fact 114 = .ok (.iload_n 1, 1) := by decide +kernel
theorem dX7_fact_115 : decode cX7_fact 115 = .ok (.invokestatic 145, 3) := by decide +kernel
theorem dX7_fact_118 : decode cX7_fact 118 = .ok (.ireturn, 1) := by decide +kernel
theorem dX7_fact_119 : decode cX7_fact 119 = .ok (.aload_n 0, 1) := by decide +kernel
theorem dX7_fact_120 : decode cX7_fact 120 = .ok (.getfield 29, 3) := by decide +kernel
theorem dX7_fact_123 : decode cX7_fact 123 = .ok (.getfield 131, 3) := by decide +kernel
theorem dX7_fact_126 : decode cX7_fact 126 = .ok (.iload_n 1, 1) := by decide +kernel
theorem dX7_fact_127 : decode cX7_fact 127 = .ok (.invokestatic 168, 3) := by decide +kernel
theorem dX7_fact_130 : decode cX7_fact 130 = .ok (.ifCond .eq 7, 3) := by decide +kernel
theorem dX7_fact_133 : decode cX7_fact 133 = .ok (.iconst 1, 1) := by decide +kernel
theorem dX7_fact_134 : decode cX7_fact 134 = .ok (.goto 4, 3) := by decide +kernel
theorem dX7_fact_137 : decode cX7_fact 137 = .ok (.iconst 0, 1) := by decide +kernel
theorem dX7_fact_138 : decode cX7_fact 138 = .ok (.ireturn, 1) := by decide +kernel
theorem dX7_fact_139 : decode cX7_fact 139 = .ok (.aload_n 0, 1) := by decide +kernel
theorem dX7_fact_140 : decode cX7_fact 140 = .ok (.getfield 29, 3) := by decide +kernel
theorem dX7_fact_143 : decode cX7_fact 143 = .ok (.getfield 172, 3) := by decide +kernel
theorem dX7_fact_146 : decode cX7_fact 146 = .ok (.iload_n 1, 1) := by decide +kernel
theorem dX7_fact_147 : decode cX7_fact 147 = .ok (.invokestatic 145, 3) := by decide +kernel
theorem dX7_fact_150 : decode cX7_fact 150 = .ok (.ireturn, 1) := by decide +kernel
theorem dX7_fact_151 : decode cX7_fact 151 = .ok (.ldc 83, 2) := by decide +kernel
theorem dX7_fact_153 : decode cX7_fact 153 = .ok (.ireturn, 1) := by decide +kernel
theorem dX7_night_0 : decode cX7_night 0 = .ok (.aload_n 0, 1) := by decide +kernel
theorem dX7_night_1 : decode cX7_night 1 = .ok (.getfield 19, 3) := by decide +kernel
theorem dX7_night_4 : decode cX7_night 4 = .ok (.iload_n 1, 1) := by decide +kernel
theorem dX7_night_5 : decode cX7_night 5 = .ok (.invokevirtual 175, 3) := by decide +kernel
theorem dX7_night_8 : decode cX7_night 8 = .ok (.ifCond .ne 6, 3) := by decide +kernel
theorem dX7_night_11 : decode cX7_night 11 = .ok (.ldc 149, 2) := by decide +kernel
theorem dX7_night_13 : decode cX7_night 13 = .ok (.ireturn, 1) := by decide +kernel
theorem dX7_night_14 : decode cX7_night 14 = .ok (.aload_n 0, 1) := by decide +kernel
theorem dX7_night_15 : decode cX7_night 15 = .ok (.iload_n 1, 1) := by decide +kernel
theorem dX7_night_16 : decode cX7_night 16 = .ok (.invokevirtual 178, 3) := by decide +kernel
theorem dX7_night_19 : decode cX7_night 19 = .ok (.ifCond .ne 6, 3) := by decide +kernel
theorem dX7_night_22 : decode cX7_night 22 = .ok (.ldc 181, 2) := by decide +kernel
theorem dX7_night_24 : decode cX7_night 24 = .ok (.ireturn, 1) := by decide +kernel
theorem dX7_night_25 : decode cX7_night 25 = .ok (.aload_n 0, 1) := by decide +kernel
theorem dX7_night_26 : decode cX7_night 26 = .ok (.getfield 29, 3) := by decide +kernel
theorem dX7_night_29 : decode cX7_night 29 = .ok (.getfield 122, 3) := by decide +kernel
theorem dX7_night_32 : decode cX7_night 32 = .ok (.ldc 182, 2) := by decide +kernel
theorem dX7_night_34 : decode cX7_night 34 = .ok (.if_icmp .le 6, 3) := by decide +kernel
theorem dX7_night_37 : decode cX7_night 37 = .ok (.ldc 91, 2) := by decide +kernel
theorem dX7_night_39 : decode cX7_night 39 = .ok (.ireturn, 1) := by decide +kernel
theorem dX7_night_40 : decode cX7_night 40 = .ok (.aload_n 0, 1) := by decide +kernel
theorem dX7_night_41 : decode cX7_night 41 = .ok (.getfield 49, 3) := by decide +kernel
theorem dX7_night_44 : decode cX7_night 44 = .ok (.aload_n 0, 1) := by decide +kernel
theorem dX7_night_45 : decode cX7_night 45 = .ok (.getfield 29, 3) := by decide +kernel
theorem dX7_night_48 : decode cX7_night 48 = .ok (.invokevirtual 183, 3) := by decide +kernel
theorem dX7_night_51 : decode cX7_night 51 = .ok (.aload_n 0, 1) := by decide +kernel
theorem dX7_night_52 : decode cX7_night 52 = .ok (.getfield 29, 3) := by decide +kernel
theorem dX7_night_55 : decode cX7_night 55 = .ok (.aload_n 0, 1) := by decide +kernel
theorem dX7_night_56 : decode cX7_night 56 = .ok (.getfield 19, 3) := by decide +kernel
theorem dX7_night_59 : decode cX7_night 59 = .ok (.iload_n 1, 1) := by decide +kernel
theorem dX7_night_60 : decode cX7_night 60 = .ok (.invokevirtual 187, 3) := by decide +kernel
theorem dX7_night_63 : decode cX7_night 63 = .ok (.aload_n 0, 1) := by decide +kernel
theorem dX7_night_64 : decode cX7_night 64 = .ok (.getfield 29, 3) := by decide +kernel
theorem dX7_night_67 : decode cX7_night 67 = .ok (.getfield 134, 3) := by decide +kernel
theorem dX7_night_70 : decode cX7_night 70 = .ok (.ireturn, 1) := by decide +kernel
theorem dX7_meet_0 : decode cX7_meet 0 = .ok (.aload_n 0, 1) := by decide +kernel
theorem dX7_meet_1 : decode cX7_meet 1 = .ok (.getfield 19, 3) := by decide +kernel
theorem dX7_meet_4 : decode cX7_meet 4 = .ok (.iload_n 1, 1) := by decide +kernel
theorem dX7_meet_5 : decode cX7_meet 5 = .ok (.invokevirtual 139, 3) := by decide +kernel
theorem dX7_meet_8 : decode cX7_meet 8 = .ok (.ifCond .ne 6, 3) := by decide +kernel
theorem dX7_meet_11 : decode cX7_meet 11 = .ok (.ldc 149, 2) := by decide +kernel
theorem dX7_meet_13 : decode cX7_meet 13 = .ok (.ireturn, 1) := by decide +kernel
theorem dX7_meet_14 : decode cX7_meet 14 = .ok (.iload_n 2, 1) := by decide +kernel
theorem dX7_meet_15 : decode cX7_meet 15 = .ok (.invokestatic 191, 3) := by decide +kernel
theorem dX7_meet_18 : decode cX7_meet 18 = .ok (.ifCond .ne 6, 3) := by decide +kernel
theorem dX7_meet_21 : decode cX7_meet 21 = .ok (.ldc 83, 2) := by decide +kernel
theorem dX7_meet_23 : decode cX7_meet 23 = .ok (.ireturn, 1) := by decide +kernel
theorem dX7_meet_24 : decode cX7_meet 24 = .ok (.aload_n 0, 1) := by decide +kernel
theorem dX7_meet_25 : decode cX7_meet 25 = .ok (.getfield 49, 3) := by decide +kernel
theorem dX7_meet_28 : decode cX7_meet 28 = .ok (.aload_n 0, 1) := by decide +kernel
theorem dX7_meet_29 : decode cX7_meet 29 = .ok (.getfield 29, 3) := by decide +kernel
theorem dX7_meet_32 : decode cX7_meet 32 = .ok (.invokevirtual 183, 3) := by decide +kernel
theorem dX7_meet_35 : decode cX7_meet 35 = .ok (.aload_n 0, 1) := by decide +kernel
theorem dX7_meet_36 : decode cX7_meet 36 = .ok (.getfield 29, 3) := by decide +kernel
theorem dX7_meet_39 : decode cX7_meet 39 = .ok (.getfield 142, 3) := by decide +kernel
theorem dX7_meet_42 : decode cX7_meet 42 = .ok (.iload_n 1, 1) := by decide +kernel
theorem dX7_meet_43 : decode cX7_meet 43 = .ok (.invokestatic 145, 3) := by decide +kernel
theorem dX7_meet_46 : decode cX7_meet 46 = .ok (.iload_n 2, 1) := by decide +kernel
theorem dX7_meet_47 : decode cX7_meet 47 = .ok (.invokestatic 194, 3) := by decide +kernel
theorem dX7_meet_50 : decode cX7_meet 50 = .ok (.istore_n 3, 1) := by decide +kernel
theorem dX7_meet_51 : decode cX7_meet 51 = .ok (.aload_n 0, 1) := by decide +kernel
theorem dX7_meet_52 : decode cX7_meet 52 = .ok (.getfield 29, 3) := by decide +kernel
theorem dX7_meet_55 : decode cX7_meet 55 = .ok (.getfield 142, 3) := by decide +kernel
theorem dX7_meet_58 : decode cX7_meet 58 = .ok (.iload_n 1, 1) := by decide +kernel
theorem dX7_meet_59 : decode cX7_meet 59 = .ok (.iload_n 3, 1) := by decide +kernel
theorem dX7_meet_60 : decode cX7_meet 60 = .ok (.invokestatic 198, 3) := by decide +kernel
theorem dX7_meet_63 : decode cX7_meet 63 = .ok (.iload_n 3, 1) := by decide +kernel
theorem dX7_meet_64 : decode cX7_meet 64 = .ok (.ireturn, 1) := by decide +kernel
theorem dX7_make_0 : decode cX7_make 0 = .ok (.aload_n 0, 1) := by decide +kernel
theorem dX7_make_1 : decode cX7_make 1 = .ok (.getfield 19, 3) := by decide +kernel
theorem dX7_make_4 : decode cX7_make 4 = .ok (.iload_n 1, 1) := by decide +kernel
theorem dX7_make_5 : decode cX7_make 5 = .ok (.invokevirtual 150, 3) := by decide +kernel
theorem dX7_make_8 : decode cX7_make 8 = .ok (.ifCond .ne 6, 3) := by decide +kernel
theorem dX7_make_11 : decode cX7_make 11 = .ok (.ldc 149, 2) := by decide +kernel
theorem dX7_make_13 : decode cX7_make 13 = .ok (.ireturn, 1) := by decide +kernel
theorem dX7_make_14 : decode cX7_make 14 = .ok (.aload_n 0, 1) := by decide +kernel
theorem dX7_make_15 : decode cX7_make 15 = .ok (.getfield 29, 3) := by decide +kernel
theorem dX7_make_18 : decode cX7_make 18 = .ok (.getfield 131, 3) := by decide +kernel
theorem dX7_make_21 : decode cX7_make 21 = .ok (.iload_n 1, 1) := by decide +kernel
theorem dX7_make_22 : decode cX7_make 22 = .ok (.invokestatic 168, 3) := by decide +kernel
theorem dX7_make_25 : decode cX7_make 25 = .ok (.ifCond .eq 6, 3) := by decide +kernel
theorem dX7_make_28 : decode cX7_make 28 = .ok (.ldc 181, 2) := by decide +kernel
theorem dX7_make_30 : decode cX7_make 30 = .ok (.ireturn, 1) := by decide +kernel
theorem dX7_make_31 : decode cX7_make 31 = .ok (.aload_n 0, 1) := by decide +kernel
theorem dX7_make_32 : decode cX7_make 32 = .ok (.getfield 49, 3) := by decide +kernel
theorem dX7_make_35 : decode cX7_make 35 = .ok (.aload_n 0, 1) := by decide +kernel
theorem dX7_make_36 : decode cX7_make 36 = .ok (.getfield 29, 3) := by decide +kernel
theorem dX7_make_39 : decode cX7_make 39 = .ok (.invokevirtual 183, 3) := by decide +kernel
theorem dX7_make_42 : decode cX7_make 42 = .ok (.aload_n 0, 1) := by decide +kernel
theorem dX7_make_43 : decode cX7_make 43 = .ok (.getfield 29, 3) := by decide +kernel
theorem dX7_make_46 : decode cX7_make 46 = .ok (.dup, 1) := by decide +kernel
theorem dX7_make_47 : decode cX7_make 47 = .ok (.getfield 131, 3) := by decide +kernel
theorem dX7_make_50 : decode cX7_make 50 = .ok (.iconst 1, 1) := by decide +kernel
theorem dX7_make_51 : decode cX7_make 51 = .ok (.iload_n 1, 1) := by decide +kernel
theorem dX7_make_52 : decode cX7_make 52 = .ok (.ishl, 1) := by decide +kernel
theorem dX7_make_53 : decode cX7_make 53 = .ok (.ior, 1) := by decide +kernel
theorem dX7_make_54 : decode cX7_make 54 = .ok (.putfield 131, 3) := by decide +kernel
theorem dX7_make_57 : decode cX7_make 57 = .ok (.aload_n 0, 1) := by decide +kernel
theorem dX7_make_58 : decode cX7_make 58 = .ok (.getfield 29, 3) := by decide +kernel
theorem dX7_make_61 : decode cX7_make 61 = .ok (.dup, 1) := by decide +kernel
theorem dX7_make_62 : decode cX7_make 62 = .ok (.getfield 125, 3) := by decide +kernel
theorem dX7_make_65 : decode cX7_make 65 = .ok (.aload_n 0, 1) := by decide +kernel
theorem dX7_make_66 : decode cX7_make 66 = .ok (.getfield 19, 3) := by decide +kernel
theorem dX7_make_69 : decode cX7_make 69 = .ok (.getfield 165, 3) := by decide +kernel
theorem dX7_make_72 : decode cX7_make 72 = .ok (.iload_n 1, 1) := by decide +kernel
theorem dX7_make_73 : decode cX7_make 73 = .ok (.invokestatic 145, 3) := by decide +kernel
theorem dX7_make_76 : decode cX7_make 76 = .ok (.iadd, 1) := by decide +kernel
theorem dX7_make_77 : decode cX7_make 77 = .ok (.putfield 125, 3) := by decide +kernel
theorem dX7_make_80 : decode cX7_make 80 = .ok (.aload_n 0, 1) := by decide +kernel
theorem dX7_make_81 : decode cX7_make 81 = .ok (.getfield 29, 3) := by decide +kernel
theorem dX7_make_84 : decode cX7_make 84 = .ok (.getfield 125, 3) := by decide +kernel
theorem dX7_make_87 : decode cX7_make 87 = .ok (.ireturn, 1) := by decide +kernel
theorem dX7_drift_0 : decode cX7_drift 0 = .ok (.iload_n 1, 1) := by decide +kernel
theorem dX7_drift_1 : decode cX7_drift 1 = .ok (.iconst 1, 1) := by decide +kernel
theorem dX7_drift_2 : decode cX7_drift 2 = .ok (.if_icmp .lt 9, 3) := by decide +kernel
theorem dX7_drift_5 : decode cX7_drift 5 = .ok (.iload_n 1, 1) := by decide +kernel
theorem dX7_drift_6 : decode cX7_drift 6 = .ok (.bipush 60, 2) := by decide +kernel
theorem dX7_drift_8 : decode cX7_drift 8 = .ok (.if_icmp .le 6, 3) := by decide +kernel
theorem dX7_drift_11 : decode cX7_drift 11 = .ok (.ldc 83, 2) := by decide +kernel
theorem dX7_drift_13 : decode cX7_drift 13 = .ok (.ireturn, 1) := by decide +kernel
theorem dX7_drift_14 : decode cX7_drift 14 = .ok (.aload_n 0, 1) := by decide +kernel
theorem dX7_drift_15 : decode cX7_drift 15 = .ok (.getfield 19, 3) := by decide +kernel
theorem dX7_drift_18 : decode cX7_drift 18 = .ok (.getfield 116, 3) := by decide +kernel
theorem dX7_drift_21 : decode cX7_drift 21 = .ok (.ifCond .ne 6, 3) := by decide +kernel
theorem dX7_drift_24 : decode cX7_drift 24 = .ok (.ldc 181, 2) := by decide +kernel
theorem dX7_drift_26 : decode cX7_drift 26 = .ok (.ireturn, 1) := by decide +kernel
theorem dX7_drift_27 : decode cX7_drift 27 = .ok (.aload_n 0, 1) := by decide +kernel
theorem dX7_drift_28 : decode cX7_drift 28 = .ok (.getfield 29, 3) := by decide +kernel
theorem dX7_drift_31 : decode cX7_drift 31 = .ok (.getfield 122, 3) := by decide +kernel
theorem dX7_drift_34 : decode cX7_drift 34 = .ok (.ldc 182, 2) := by decide +kernel
theorem dX7_drift_36 : decode cX7_drift 36 = .ok (.if_icmp .le 6, 3) := by decide +kernel
theorem dX7_drift_39 : decode cX7_drift 39 = .ok (.ldc 91, 2) := by decide +kernel
theorem dX7_drift_41 : decode cX7_drift 41 = .ok (.ireturn, 1) := by decide +kernel
theorem dX7_drift_42 : decode cX7_drift 42 = .ok (.aload_n 0, 1) := by decide +kernel
theorem dX7_drift_43 : decode cX7_drift 43 = .ok (.getfield 49, 3) := by decide +kernel
theorem dX7_drift_46 : decode cX7_drift 46 = .ok (.aload_n 0, 1) := by decide +kernel
theorem dX7_drift_47 : decode cX7_drift 47 = .ok (.getfield 29, 3) := by decide +kernel
theorem dX7_drift_50 : decode cX7_drift 50 = .ok (.invokevirtual 183, 3) := by decide +kernel
theorem dX7_drift_53 : decode cX7_drift 53 = .ok (.iconst 0, 1) := by decide +kernel
theorem dX7_drift_54 : decode cX7_drift 54 = .ok (.istore_n 2, 1) := by decide +kernel
theorem dX7_drift_55 : decode cX7_drift 55 = .ok (.iload_n 2, 1) := by decide +kernel
theorem dX7_drift_56 : decode cX7_drift 56 = .ok (.iload_n 1, 1) := by decide +kernel
theorem dX7_drift_57 : decode cX7_drift 57 = .ok (.if_icmp .ge 24, 3) := by decide +kernel
theorem dX7_drift_60 : decode cX7_drift 60 = .ok (.aload_n 0, 1) := by decide +kernel
theorem dX7_drift_61 : decode cX7_drift 61 = .ok (.getfield 29, 3) := by decide +kernel
theorem dX7_drift_64 : decode cX7_drift 64 = .ok (.aload_n 0, 1) := by decide +kernel
theorem dX7_drift_65 : decode cX7_drift 65 = .ok (.getfield 19, 3) := by decide +kernel
theorem dX7_drift_68 : decode cX7_drift 68 = .ok (.aload_n 0, 1) := by decide +kernel
theorem dX7_drift_69 : decode cX7_drift 69 = .ok (.invokevirtual 202, 3) := by decide +kernel
theorem dX7_drift_72 : decode cX7_drift 72 = .ok (.invokevirtual 187, 3) := by decide +kernel
theorem dX7_drift_75 : decode cX7_drift 75 = .ok (.iinc 2 1, 3) := by decide +kernel
theorem dX7_drift_78 : decode cX7_drift 78 = .ok (.goto (-23), 3) := by decide +kernel
theorem dX7_drift_81 : decode cX7_drift 81 = .ok (.aload_n 0, 1) := by decide +kernel
theorem dX7_drift_82 : decode cX7_drift 82 = .ok (.getfield 29, 3) := by decide +kernel
theorem dX7_drift_85 : decode cX7_drift 85 = .ok (.getfield 122, 3) := by decide +kernel
theorem dX7_drift_88 : decode cX7_drift 88 = .ok (.ireturn, 1) := by decide +kernel
theorem dX7_undo_0 : decode cX7_undo 0 = .ok (.aload_n 0, 1) := by decide +kernel
theorem dX7_undo_1 : decode cX7_undo 1 = .ok (.getfield 49, 3) := by decide +kernel
theorem dX7_undo_4 : decode cX7_undo 4 = .ok (.aload_n 0, 1) := by decide +kernel
theorem dX7_undo_5 : decode cX7_undo 5 = .ok (.getfield 29, 3) := by decide +kernel
theorem dX7_undo_8 : decode cX7_undo 8 = .ok (.invokevirtual 206, 3) := by decide +kernel
theorem dX7_undo_11 : decode cX7_undo 11 = .ok (.ifCond .eq 13, 3) := by decide +kernel
theorem dX7_undo_14 : decode cX7_undo 14 = .ok (.aload_n 0, 1) := by decide +kernel
theorem dX7_undo_15 : decode cX7_undo 15 = .ok (.getfield 49, 3) := by decide +kernel
theorem dX7_undo_18 : decode cX7_undo 18 = .ok (.getfield 138, 3) := by decide +kernel
theorem dX7_undo_21 : decode cX7_undo 21 = .ok (.goto 5, 3) := by decide +kernel
theorem dX7_undo_24 : decode cX7_undo 24 = .ok (.ldc 181, 2) := by decide +kernel
theorem dX7_undo_26 : decode cX7_undo 26 = .ok (.ireturn, 1) := by decide +kernel
theorem dX7_thinks_0 : decode cX7_thinks 0 = .ok (.aload_n 0, 1) := by decide +kernel
theorem dX7_thinks_1 : decode cX7_thinks 1 = .ok (.getfield 19, 3) := by decide +kernel
theorem dX7_thinks_4 : decode cX7_thinks 4 = .ok (.iload_n 1, 1) := by decide +kernel
theorem dX7_thinks_5 : decode cX7_thinks 5 = .ok (.invokevirtual 175, 3) := by decide +kernel
theorem dX7_thinks_8 : decode cX7_thinks 8 = .ok (.ifCond .eq 19, 3) := by decide +kernel
theorem dX7_thinks_11 : decode cX7_thinks 11 = .ok (.iload_n 2, 1) := by decide +kernel
theorem dX7_thinks_12 : decode cX7_thinks 12 = .ok (.iconst (-1), 1) := by decide +kernel
theorem dX7_thinks_13 : decode cX7_thinks 13 = .ok (.if_icmp .eq 17, 3) := by decide +kernel
theorem dX7_thinks_16 : decode cX7_thinks 16 = .ok (.aload_n 0, 1) := by decide +kernel
theorem dX7_thinks_17 : decode cX7_thinks 17 = .ok (.getfield 19, 3) := by decide +kernel
theorem dX7_thinks_20 : decode cX7_thinks 20 = .ok (.iload_n 2, 1) := by decide +kernel
theorem dX7_thinks_21 : decode cX7_thinks 21 = .ok (.invokevirtual 139, 3) := by decide +kernel
theorem dX7_thinks_24 : decode cX7_thinks 24 = .ok (.ifCond .ne 6, 3) := by decide +kernel
theorem dX7_thinks_27 : decode cX7_thinks 27 = .ok (.ldc 149, 2) := by decide +kernel
theorem dX7_thinks_29 : decode cX7_thinks 29 = .ok (.ireturn, 1) := by decide +kernel
theorem dX7_thinks_30 : decode cX7_thinks 30 = .ok (.aload_n 0, 1) := by decide +kernel
theorem dX7_thinks_31 : decode cX7_thinks 31 = .ok (.iload_n 1, 1) := by decide +kernel
theorem dX7_thinks_32 : decode cX7_thinks 32 = .ok (.invokevirtual 178, 3) := by decide +kernel
theorem dX7_thinks_35 : decode cX7_thinks 35 = .ok (.ifCond .ne 6, 3) := by decide +kernel
theorem dX7_thinks_38 : decode cX7_thinks 38 = .ok (.ldc 181, 2) := by decide +kernel
theorem dX7_thinks_40 : decode cX7_thinks 40 = .ok (.ireturn, 1) := by decide +kernel
theorem dX7_thinks_41 : decode cX7_thinks 41 = .ok (.aload_n 0, 1) := by decide +kernel
theorem dX7_thinks_42 : decode cX7_thinks 42 = .ok (.getfield 33, 3) := by decide +kernel
theorem dX7_thinks_45 : decode cX7_thinks 45 = .ok (.aload_n 0, 1) := by decide +kernel
theorem dX7_thinks_46 : decode cX7_thinks 46 = .ok (.getfield 29, 3) := by decide +kernel
theorem dX7_thinks_49 : decode cX7_thinks 49 = .ok (.invokevirtual 210, 3) := by decide +kernel
theorem dX7_thinks_52 : decode cX7_thinks 52 = .ok (.aload_n 0, 1) := by decide +kernel
theorem dX7_thinks_53 : decode cX7_thinks 53 = .ok (.getfield 33, 3) := by decide +kernel
theorem dX7_thinks_56 : decode cX7_thinks 56 = .ok (.aload_n 0, 1) := by decide +kernel
theorem dX7_thinks_57 : decode cX7_thinks 57 = .ok (.getfield 19, 3) := by decide +kernel
theorem dX7_thinks_60 : decode cX7_thinks 60 = .ok (.iload_n 1, 1) := by decide +kernel
theorem dX7_thinks_61 : decode cX7_thinks 61 = .ok (.invokevirtual 187, 3) := by decide +kernel
theorem dX7_thinks_64 : decode cX7_thinks 64 = .ok (.iload_n 2, 1) := by decide +kernel
theorem dX7_thinks_65 : decode cX7_thinks 65 = .ok (.iconst (-1), 1) := by decide +kernel
theorem dX7_thinks_66 : decode cX7_thinks 66 = .ok (.if_icmp .ne 13, 3) := by decide +kernel
theorem dX7_thinks_69 : decode cX7_thinks 69 = .ok (.aload_n 0, 1) := by decide +kernel
theorem dX7_thinks_70 : decode cX7_thinks 70 = .ok (.getfield 33, 3) := by decide +kernel
theorem dX7_thinks_73 : decode cX7_thinks 73 = .ok (.getfield 134, 3) := by decide +kernel
theorem dX7_thinks_76 : decode cX7_thinks 76 = .ok (.goto 14, 3) := by decide +kernel
theorem dX7_thinks_79 : decode cX7_thinks 79 = .ok (.aload_n 0, 1) := by decide +kernel
theorem dX7_thinks_80 : decode cX7_thinks 80 = .ok (.getfield 33, 3) := by decide +kernel
theorem dX7_thinks_83 : decode cX7_thinks 83 = .ok (.getfield 142, 3) := by decide +kernel
theorem dX7_thinks_86 : decode cX7_thinks 86 = .ok (.iload_n 2, 1) := by decide +kernel
theorem dX7_thinks_87 : decode cX7_thinks 87 = .ok (.invokestatic 145, 3) := by decide +kernel
theorem dX7_thinks_90 : decode cX7_thinks 90 = .ok (.ireturn, 1) := by decide +kernel
theorem dX7_soonest_0 : decode cX7_soonest 0 = .ok (.aload_n 0, 1) := by decide +kernel
theorem dX7_soonest_1 : decode cX7_soonest 1 = .ok (.getfield 19, 3) := by decide +kernel
theorem dX7_soonest_4 : decode cX7_soonest 4 = .ok (.iload_n 1, 1) := by decide +kernel
theorem dX7_soonest_5 : decode cX7_soonest 5 = .ok (.invokevirtual 212, 3) := by decide +kernel
theorem dX7_soonest_8 : decode cX7_soonest 8 = .ok (.ifCond .eq 14, 3) := by decide +kernel
theorem dX7_soonest_11 : decode cX7_soonest 11 = .ok (.aload_n 0, 1) := by decide +kernel
theorem dX7_soonest_12 : decode cX7_soonest 12 = .ok (.getfield 19, 3) := by decide +kernel
theorem dX7_soonest_15 : decode cX7_soonest 15 = .ok (.iload_n 2, 1) := by decide +kernel
theorem dX7_soonest_16 : decode cX7_soonest 16 = .ok (.invokevirtual 212, 3) := by decide +kernel
theorem dX7_soonest_19 : decode cX7_soonest 19 = .ok (.ifCond .ne 6, 3) := by decide +kernel
theorem dX7_soonest_22 : decode cX7_soonest 22 = .ok (.ldc 149, 2) := by decide +kernel
theorem dX7_soonest_24 : decode cX7_soonest 24 = .ok (.ireturn, 1) := by decide +kernel
theorem dX7_soonest_25 : decode cX7_soonest 25 = .ok (.iload_n 3, 1) := by decide +kernel
theorem dX7_soonest_26 : decode cX7_soonest 26 = .ok (.iconst (-1), 1) := by decide +kernel
theorem dX7_soonest_27 : decode cX7_soonest 27 = .ok (.if_icmp .lt 12, 3) := by decide +kernel
theorem dX7_soonest_30 : decode cX7_soonest 30 = .ok (.aload_n 0, 1) := by decide +kernel
theorem dX7_soonest_31 : decode cX7_soonest 31 = .ok (.iload_n 1, 1) := by decide +kernel
theorem dX7_soonest_32 : decode cX7_soonest 32 = .ok (.iload_n 2, 1) := by decide +kernel
theorem dX7_soonest_33 : decode cX7_soonest 33 = .ok (.invokevirtual 215, 3) := by decide +kernel
theorem dX7_soonest_36 : decode cX7_soonest 36 = .ok (.ifCond .ne 5, 3) := by decide +kernel
theorem dX7_soonest_39 : decode cX7_soonest 39 = .ok (.iconst (-1), 1) := by decide +kernel
theorem dX7_soonest_40 : decode cX7_soonest 40 = .ok (.ireturn, 1) := by decide +kernel
theorem dX7_soonest_41 : decode cX7_soonest 41 = .ok (.iload_n 3, 1) := by decide +kernel
theorem dX7_soonest_42 : decode cX7_soonest 42 = .ok (.iconst (-1), 1) := by decide +kernel
theorem dX7_soonest_43 : decode cX7_soonest 43 = .ok (.if_icmp .ne 11, 3) := by decide +kernel
theorem dX7_soonest_46 : decode cX7_soonest 46 = .ok (.aload_n 0, 1) := by decide +kernel
theorem dX7_soonest_47 : decode cX7_soonest 47 = .ok (.getfield 42, 3) := by decide +kernel
theorem dX7_soonest_50 : decode cX7_soonest 50 = .ok (.getfield 218, 3) := by decide +kernel
theorem dX7_soonest_53 : decode cX7_soonest 53 = .ok (.ireturn, 1) := by decide +kernel
theorem dX7_soonest_54 : decode cX7_soonest 54 = .ok (.iload_n 3, 1) := by decide +kernel
theorem dX7_soonest_55 : decode cX7_soonest 55 = .ok (.aload_n 0, 1) := by decide +kernel
theorem dX7_soonest_56 : decode cX7_soonest 56 = .ok (.getfield 42, 3) := by decide +kernel
theorem dX7_soonest_59 : decode cX7_soonest 59 = .ok (.getfield 218, 3) := by decide +kernel
theorem dX7_soonest_62 : decode cX7_soonest 62 = .ok (.if_icmp .lt 5, 3) := by decide +kernel
theorem dX7_soonest_65 : decode cX7_soonest 65 = .ok (.iconst (-1), 1) := by decide +kernel
theorem dX7_soonest_66 : decode cX7_soonest 66 = .ok (.ireturn, 1) := by decide +kernel
theorem dX7_soonest_67 : decode cX7_soonest 67 = .ok (.iload_n 3, 1) := by decide +kernel
theorem dX7_soonest_68 : decode cX7_soonest 68 = .ok (.ifCond .ne 13, 3) := by decide +kernel
theorem dX7_soonest_71 : decode cX7_soonest 71 = .ok (.aload_n 0, 1) := by decide +kernel
theorem dX7_soonest_72 : decode cX7_soonest 72 = .ok (.getfield 42, 3) := by decide +kernel
theorem dX7_soonest_75 : decode cX7_soonest 75 = .ok (.getfield 219, 3) := by decide +kernel
theorem dX7_soonest_78 : decode cX7_soonest 78 = .ok (.goto 10, 3) := by decide +kernel
theorem dX7_soonest_81 : decode cX7_soonest 81 = .ok (.aload_n 0, 1) := by decide +kernel
theorem dX7_soonest_82 : decode cX7_soonest 82 = .ok (.getfield 42, 3) := by decide +kernel
theorem dX7_soonest_85 : decode cX7_soonest 85 = .ok (.getfield 222, 3) := by decide +kernel
theorem dX7_soonest_88 : decode cX7_soonest 88 = .ok (.ireturn, 1) := by decide +kernel
theorem dX7_cannot_0 : decode cX7_cannot 0 = .ok (.iconst 1, 1) := by decide +kernel
theorem dX7_cannot_1 : decode cX7_cannot 1 = .ok (.aload_n 0, 1) := by decide +kernel
theorem dX7_cannot_2 : decode cX7_cannot 2 = .ok (.getfield 19, 3) := by decide +kernel
theorem dX7_cannot_5 : decode cX7_cannot 5 = .ok (.getfield 116, 3) := by decide +kernel
theorem dX7_cannot_8 : decode cX7_cannot 8 = .ok (.ishl, 1) := by decide +kernel
theorem dX7_cannot_9 : decode cX7_cannot 9 = .ok (.iconst 1, 1) := by decide +kernel
theorem dX7_cannot_10 : decode cX7_cannot 10 = .ok (.isub, 1) := by decide +kernel
theorem dX7_cannot_11 : decode cX7_cannot 11 = .ok (.istore_n 1, 1) := by decide +kernel
theorem dX7_cannot_12 : decode cX7_cannot 12 = .ok (.aload_n 0, 1) := by decide +kernel
theorem dX7_cannot_13 : decode cX7_cannot 13 = .ok (.getfield 29, 3) := by decide +kernel
theorem dX7_cannot_16 : decode cX7_cannot 16 = .ok (.aload_n 0, 1) := by decide +kernel
theorem dX7_cannot_17 : decode cX7_cannot 17 = .ok (.getfield 19, 3) := by decide +kernel
theorem dX7_cannot_20 : decode cX7_cannot 20 = .ok (.invokevirtual 128, 3) := by decide +kernel
theorem dX7_cannot_23 : decode cX7_cannot 23 = .ok (.istore_n 2, 1) := by decide +kernel
theorem dX7_cannot_24 : decode cX7_cannot 24 = .ok (.iconst 0, 1) := by decide +kernel
theorem dX7_cannot_25 : decode cX7_cannot 25 = .ok (.istore_n 3, 1) := by decide +kernel
theorem dX7_cannot_26 : decode cX7_cannot 26 = .ok (.iload_n 3, 1) := by decide +kernel
theorem dX7_cannot_27 : decode cX7_cannot 27 = .ok (.iconst 1, 1) := by decide +kernel
theorem dX7_cannot_28 : decode cX7_cannot 28 = .ok (.aload_n 0, 1) := by decide +kernel
theorem dX7_cannot_29 : decode cX7_cannot 29 = .ok (.getfield 19, 3) := by decide +kernel
theorem dX7_cannot_32 : decode cX7_cannot 32 = .ok (.getfield 107, 3) := by decide +kernel
theorem dX7_cannot_35 : decode cX7_cannot 35 = .ok (.ishl, 1) := by decide +kernel
theorem dX7_cannot_36 : decode cX7_cannot 36 = .ok (.if_icmp .ge 30, 3) := by decide +kernel
theorem dX7_cannot_39 : decode cX7_cannot 39 = .ok (.iload_n 2, 1) := by decide +kernel
theorem dX7_cannot_40 : decode cX7_cannot 40 = .ok (.iload_n 1, 1) := by decide +kernel
theorem dX7_cannot_41 : decode cX7_cannot 41 = .ok (.if_icmp .eq 25, 3) := by decide +kernel
theorem dX7_cannot_44 : decode cX7_cannot 44 = .ok (.aload_n 0, 1) := by decide +kernel
theorem dX7_cannot_45 : decode cX7_cannot 45 = .ok (.iload_n 3, 1) := by decide +kernel
theorem dX7_cannot_46 : decode cX7_cannot 46 = .ok (.invokevirtual 178, 3) := by decide +kernel
theorem dX7_cannot_49 : decode cX7_cannot 49 = .ok (.ifCond .eq 11, 3) := by decide +kernel
theorem dX7_cannot_52 : decode cX7_cannot 52 = .ok (.iload_n 2, 1) := by decide +kernel
theorem dX7_cannot_53 : decode cX7_cannot 53 = .ok (.aload_n 0, 1) := by decide +kernel
theorem dX7_cannot_54 : decode cX7_cannot 54 = .ok (.iload_n 3, 1) := by decide +kernel
theorem dX7_cannot_55 : decode cX7_cannot 55 = .ok (.invokevirtual 225, 3) := by decide +kernel
theorem dX7_cannot_58 : decode cX7_cannot 58 = .ok (.ior, 1) := by decide +kernel
theorem dX7_cannot_59 : decode cX7_cannot 59 = .ok (.istore_n 2, 1) := by decide +kernel
theorem dX7_cannot_60 : decode cX7_cannot 60 = .ok (.iinc 3 1, 3) := by decide +kernel
theorem dX7_cannot_63 : decode cX7_cannot 63 = .ok (.goto (-37), 3) := by decide +kernel
theorem dX7_cannot_66 : decode cX7_cannot 66 = .ok (.iload_n 1, 1) := by decide +kernel
theorem dX7_cannot_67 : decode cX7_cannot 67 = .ok (.iload_n 2, 1) := by decide +kernel
theorem dX7_cannot_68 : decode cX7_cannot 68 = .ok (.iconst (-1), 1) := by decide +kernel
theorem dX7_cannot_69 : decode cX7_cannot 69 = .ok (.ixor, 1) := by decide +kernel
theorem dX7_cannot_70 : decode cX7_cannot 70 = .ok (.iand, 1) := by decide +kernel
theorem dX7_cannot_71 : decode cX7_cannot 71 = .ok (.ireturn, 1) := by decide +kernel
theorem dX7_least_0 : decode cX7_least 0 = .ok (.aload_n 0, 1) := by decide +kernel
theorem dX7_least_1 : decode cX7_least 1 = .ok (.getfield 19, 3) := by decide +kernel
theorem dX7_least_4 : decode cX7_least 4 = .ok (.iload_n 1, 1) := by decide +kernel
theorem dX7_least_5 : decode cX7_least 5 = .ok (.invokevirtual 139, 3) := by decide +kernel
theorem dX7_least_8 : decode cX7_least 8 = .ok (.ifCond .ne 6, 3) := by decide +kernel
theorem dX7_least_11 : decode cX7_least 11 = .ok (.ldc 149, 2) := by decide +kernel
theorem dX7_least_13 : decode cX7_least 13 = .ok (.ireturn, 1) := by decide +kernel
theorem dX7_least_14 : decode cX7_least 14 = .ok (.iload_n 2, 1) := by decide +kernel
theorem dX7_least_15 : decode cX7_least 15 = .ok (.ifCond .lt 8, 3) := by decide +kernel
theorem dX7_least_18 : decode cX7_least 18 = .ok (.iload_n 2, 1) := by decide +kernel
theorem dX7_least_19 : decode cX7_least 19 = .ok (.iconst 1, 1) := by decide +kernel
theorem dX7_least_20 : decode cX7_least 20 = .ok (.if_icmp .le 6, 3) := by decide +kernel
theorem dX7_least_23 : decode cX7_least 23 = .ok (.ldc 83, 2) := by decide +kernel
theorem dX7_least_25 : decode cX7_least 25 = .ok (.ireturn, 1) := by decide +kernel
theorem dX7_least_26 : decode cX7_least 26 = .ok (.iconst (-1), 1) := by decide +kernel
theorem dX7_least_27 : decode cX7_least 27 = .ok (.istore_n 3, 1) := by decide +kernel
theorem dX7_least_28 : decode cX7_least 28 = .ok (.iconst (-1), 1) := by decide +kernel
theorem dX7_least_29 : decode cX7_least 29 = .ok (.istore 4, 2) := by decide +kernel
theorem dX7_least_31 : decode cX7_least 31 = .ok (.iconst 0, 1) := by decide +kernel
theorem dX7_least_32 : decode cX7_least 32 = .ok (.istore 5, 2) := by decide +kernel
theorem dX7_least_34 : decode cX7_least 34 = .ok (.iload 5, 2) := by decide +kernel
theorem dX7_least_36 : decode cX7_least 36 = .ok (.iconst 1, 1) := by decide +kernel
theorem dX7_least_37 : decode cX7_least 37 = .ok (.aload_n 0, 1) := by decide +kernel
theorem dX7_least_38 : decode cX7_least 38 = .ok (.getfield 19, 3) := by decide +kernel
theorem dX7_least_41 : decode cX7_least 41 = .ok (.getfield 107, 3) := by decide +kernel
theorem dX7_least_44 : decode cX7_least 44 = .ok (.ishl, 1) := by decide +kernel
theorem dX7_least_45 : decode cX7_least 45 = .ok (.if_icmp .ge 99, 3) := by decide +kernel
theorem dX7_least_48 : decode cX7_least 48 = .ok (.iload 5, 2) := by decide +kernel
theorem dX7_least_50 : decode cX7_least 50 = .ok (.aload_n 0, 1) := by decide +kernel
theorem dX7_least_51 : decode cX7_least 51 = .ok (.getfield 29, 3) := by decide +kernel
theorem dX7_least_54 : decode cX7_least 54 = .ok (.getfield 131, 3) := by decide +kernel
theorem dX7_least_57 : decode cX7_least 57 = .ok (.iconst (-1), 1) := by decide +kernel
theorem dX7_least_58 : decode cX7_least 58 = .ok (.ixor, 1) := by decide +kernel
theorem dX7_least_59 : decode cX7_least 59 = .ok (.iand, 1) := by decide +kernel
theorem dX7_least_60 : decode cX7_least 60 = .ok (.istore 6, 2) := by decide +kernel
theorem dX7_least_62 : decode cX7_least 62 = .ok (.aload_n 0, 1) := by decide +kernel
theorem dX7_least_63 : decode cX7_least 63 = .ok (.getfield 19, 3) := by decide +kernel
theorem dX7_least_66 : decode cX7_least 66 = .ok (.iload 6, 2) := by decide +kernel
theorem dX7_least_68 : decode cX7_least 68 = .ok (.invokevirtual 229, 3) := by decide +kernel
theorem dX7_least_71 : decode cX7_least 71 = .ok (.istore 7, 2) := by decide +kernel
theorem dX7_least_73 : decode cX7_least 73 = .ok (.iload_n 3, 1) := by decide +kernel
theorem dX7_least_74 : decode cX7_least 74 = .ok (.iconst (-1), 1) := by decide +kernel
theorem dX7_least_75 : decode cX7_least 75 = .ok (.if_icmp .eq 22, 3) := by decide +kernel
theorem dX7_least_78 : decode cX7_least 78 = .ok (.iload 7, 2) := by decide +kernel
theorem dX7_least_80 : decode cX7_least 80 = .ok (.iload_n 3, 1) := by decide +kernel
theorem dX7_least_81 : decode cX7_least 81 = .ok (.if_icmp .lt 16, 3) := by decide +kernel
theorem dX7_least_84 : decode cX7_least 84 = .ok (.iload 7, 2) := by decide +kernel
theorem dX7_least_86 : decode cX7_least 86 = .ok (.iload_n 3, 1) := by decide +kernel
theorem dX7_least_87 : decode cX7_least 87 = .ok (.if_icmp .ne 14, 3) := by decide +kernel
theorem dX7_least_90 : decode cX7_least 90 = .ok (.iload 6, 2) := by decide +kernel
theorem dX7_least_92 : decode cX7_least 92 = .ok (.iload 4, 2) := by decide +kernel
theorem dX7_least_94 : decode cX7_least 94 = .ok (.if_icmp .ge 7, 3) := by decide +kernel
theorem dX7_least_97 : decode cX7_least 97 = .ok (.iconst 1, 1) := by decide +kernel
theorem dX7_least_98 : decode cX7_least 98 = .ok (.goto 4, 3) := by decide +kernel
theorem dX7_least_101 : decode cX7_least 101 = .ok (.iconst 0, 1) := by decide +kernel
theorem dX7_least_102 : decode cX7_least 102 = .ok (.istore 8, 2) := by decide +kernel
theorem dX7_least_104 : decode cX7_least 104 = .ok (.iload 8, 2) := by decide +kernel
theorem dX7_least_106 : decode cX7_least 106 = .ok (.ifCond .eq 32, 3) := by decide +kernel
theorem dX7_least_109 : decode cX7_least 109 = .ok (.aload_n 0, 1) := by decide +kernel
theorem dX7_least_110 : decode cX7_least 110 = .ok (.getfield 19, 3) := by decide +kernel
theorem dX7_least_113 : decode cX7_least 113 = .ok (.iload 5, 2) := by decide +kernel
theorem dX7_least_115 : decode cX7_least 115 = .ok (.invokevirtual 232, 3) := by decide +kernel
theorem dX7_least_118 : decode cX7_least 118 = .ok (.ifCond .eq 20, 3) := by decide +kernel
theorem dX7_least_121 : decode cX7_least 121 = .ok (.aload_n 0, 1) := by decide +kernel
theorem dX7_least_122 : decode cX7_least 122 = .ok (.iload 5, 2) := by decide +kernel
theorem dX7_least_124 : decode cX7_least 124 = .ok (.iload_n 1, 1) := by decide +kernel
theorem dX7_least_125 : decode cX7_least 125 = .ok (.invokevirtual 235, 3) := by decide +kernel
theorem dX7_least_128 : decode cX7_least 128 = .ok (.ifCond .eq 10, 3) := by decide +kernel
theorem dX7_least_131 : decode cX7_least 131 = .ok (.iload 7, 2) := by decide +kernel
theorem dX7_least_133 : decode cX7_least 133 = .ok (.istore_n 3, 1) := by decide +kernel
theorem dX7_least_134 : decode cX7_least 134 = .ok (.iload 6, 2) := by decide +kernel
theorem dX7_least_136 : decode cX7_least 136 = .ok (.istore 4, 2) := by decide +kernel
theorem dX7_least_138 : decode cX7_least 138 = .ok (.iinc 5 1, 3) := by decide +kernel
theorem dX7_least_141 : decode cX7_least 141 = .ok (.goto (-107), 3) := by decide +kernel
theorem dX7_least_144 : decode cX7_least 144 = .ok (.iload_n 2, 1) := by decide +kernel
theorem dX7_least_145 : decode cX7_least 145 = .ok (.ifCond .ne 7, 3) := by decide +kernel
theorem dX7_least_148 : decode cX7_least 148 = .ok (.iload_n 3, 1) := by decide +kernel
theorem dX7_least_149 : decode cX7_least 149 = .ok (.goto 5, 3) := by decide +kernel
theorem dX7_least_152 : decode cX7_least 152 = .ok (.iload 4, 2) := by decide +kernel
theorem dX7_least_154 : decode cX7_least 154 = .ok (.ireturn, 1) := by decide +kernel
theorem dX7_rivals_0 : decode cX7_rivals 0 = .ok (.aload_n 0, 1) := by decide +kernel
theorem dX7_rivals_1 : decode cX7_rivals 1 = .ok (.getfield 19, 3) := by decide +kernel
theorem dX7_rivals_4 : decode cX7_rivals 4 = .ok (.iload_n 1, 1) := by decide +kernel
theorem dX7_rivals_5 : decode cX7_rivals 5 = .ok (.invokevirtual 139, 3) := by decide +kernel
theorem dX7_rivals_8 : decode cX7_rivals 8 = .ok (.ifCond .ne 6, 3) := by decide +kernel
theorem dX7_rivals_11 : decode cX7_rivals 11 = .ok (.ldc 149, 2) := by decide +kernel
theorem dX7_rivals_13 : decode cX7_rivals 13 = .ok (.ireturn, 1) := by decide +kernel
theorem dX7_rivals_14 : decode cX7_rivals 14 = .ok (.iload_n 2, 1) := by decide +kernel
theorem dX7_rivals_15 : decode cX7_rivals 15 = .ok (.iconst 1, 1) := by decide +kernel
theorem dX7_rivals_16 : decode cX7_rivals 16 = .ok (.if_icmp .lt 8, 3) := by decide +kernel
theorem dX7_rivals_19 : decode cX7_rivals 19 = .ok (.iload_n 2, 1) := by decide +kernel
theorem dX7_rivals_20 : decode cX7_rivals 20 = .ok (.iconst 4, 1) := by decide +kernel
theorem dX7_rivals_21 : decode cX7_rivals 21 = .ok (.if_icmp .le 6, 3) := by decide +kernel
theorem dX7_rivals_24 : decode cX7_rivals 24 = .ok (.ldc 83, 2) := by decide +kernel
theorem dX7_rivals_26 : decode cX7_rivals 26 = .ok (.ireturn, 1) := by decide +kernel
theorem dX7_rivals_27 : decode cX7_rivals 27 = .ok (.aload_n 0, 1) := by decide +kernel
theorem dX7_rivals_28 : decode cX7_rivals 28 = .ok (.getfield 33, 3) := by decide +kernel
theorem dX7_rivals_31 : decode cX7_rivals 31 = .ok (.aload_n 0, 1) := by decide +kernel
theorem dX7_rivals_32 : decode cX7_rivals 32 = .ok (.getfield 29, 3) := by decide +kernel
theorem dX7_rivals_35 : decode cX7_rivals 35 = .ok (.invokevirtual 210, 3) := by decide +kernel
theorem dX7_rivals_38 : decode cX7_rivals 38 = .ok (.aload_n 0, 1) := by decide +kernel
theorem dX7_rivals_39 : decode cX7_rivals 39 = .ok (.getfield 19, 3) := by decide +kernel
theorem dX7_rivals_42 : decode cX7_rivals 42 = .ok (.aload_n 0, 1) := by decide +kernel
theorem dX7_rivals_43 : decode cX7_rivals 43 = .ok (.getfield 33, 3) := by decide +kernel
theorem dX7_rivals_46 : decode cX7_rivals 46 = .ok (.iload_n 1, 1) := by decide +kernel
theorem dX7_rivals_47 : decode cX7_rivals 47 = .ok (.iconst 0, 1) := by decide +kernel
theorem dX7_rivals_48 : decode cX7_rivals 48 = .ok (.iload_n 2, 1) := by decide +kernel
theorem dX7_rivals_49 : decode cX7_rivals 49 = .ok (.aload_n 0, 1) := by decide +kernel
theorem dX7_rivals_50 : decode cX7_rivals 50 = .ok (.getfield 29, 3) := by decide +kernel
theorem dX7_rivals_53 : decode cX7_rivals 53 = .ok (.getfield 131, 3) := by decide +kernel
theorem dX7_rivals_56 : decode cX7_rivals 56 = .ok (.invokestatic 238, 3) := by decide +kernel
theorem dX7_rivals_59 : decode cX7_rivals 59 = .ok (.ireturn, 1) := by decide +kernel
theorem dX7_shun_0 : decode cX7_shun 0 = .ok (.aload_n 0, 1) := by decide +kernel
theorem dX7_shun_1 : decode cX7_shun 1 = .ok (.getfield 19, 3) := by decide +kernel
theorem dX7_shun_4 : decode cX7_shun 4 = .ok (.iload_n 1, 1) := by decide +kernel
theorem dX7_shun_5 : decode cX7_shun 5 = .ok (.invokevirtual 139, 3) := by decide +kernel
theorem dX7_shun_8 : decode cX7_shun 8 = .ok (.ifCond .ne 6, 3) := by decide +kernel
theorem dX7_shun_11 : decode cX7_shun 11 = .ok (.ldc 149, 2) := by decide +kernel
theorem dX7_shun_13 : decode cX7_shun 13 = .ok (.ireturn, 1) := by decide +kernel
theorem dX7_shun_14 : decode cX7_shun 14 = .ok (.iload_n 2, 1) := by decide +kernel
theorem dX7_shun_15 : decode cX7_shun 15 = .ok (.ifCond .lt 8, 3) := by decide +kernel
theorem dX7_shun_18 : decode cX7_shun 18 = .ok (.iload_n 2, 1) := by decide +kernel
theorem dX7_shun_19 : decode cX7_shun 19 = .ok (.iconst 1, 1) := by decide +kernel
theorem dX7_shun_20 : decode cX7_shun 20 = .ok (.if_icmp .le 6, 3) := by decide +kernel
theorem dX7_shun_23 : decode cX7_shun 23 = .ok (.ldc 83, 2) := by decide +kernel
theorem dX7_shun_25 : decode cX7_shun 25 = .ok (.ireturn, 1) := by decide +kernel
theorem dX7_shun_26 : decode cX7_shun 26 = .ok (.aload_n 0, 1) := by decide +kernel
theorem dX7_shun_27 : decode cX7_shun 27 = .ok (.getfield 29, 3) := by decide +kernel
theorem dX7_shun_30 : decode cX7_shun 30 = .ok (.getfield 142, 3) := by decide +kernel
theorem dX7_shun_33 : decode cX7_shun 33 = .ok (.iload_n 1, 1) := by decide +kernel
theorem dX7_shun_34 : decode cX7_shun 34 = .ok (.invokestatic 145, 3) := by decide +kernel
theorem dX7_shun_37 : decode cX7_shun 37 = .ok (.istore_n 3, 1) := by decide +kernel
theorem dX7_shun_38 : decode cX7_shun 38 = .ok (.iconst (-1), 1) := by decide +kernel
theorem dX7_shun_39 : decode cX7_shun 39 = .ok (.istore 4, 2) := by decide +kernel
theorem dX7_shun_41 : decode cX7_shun 41 = .ok (.iconst (-1), 1) := by decide +kernel
theorem dX7_shun_42 : decode cX7_shun 42 = .ok (.istore 5, 2) := by decide +kernel
theorem dX7_shun_44 : decode cX7_shun 44 = .ok (.iconst 0, 1) := by decide +kernel
theorem dX7_shun_45 : decode cX7_shun 45 = .ok (.istore 6, 2) := by decide +kernel
theorem dX7_shun_47 : decode cX7_shun 47 = .ok (.iload 6, 2) := by decide +kernel
theorem dX7_shun_49 : decode cX7_shun 49 = .ok (.bipush 20, 2) := by decide +kernel
theorem dX7_shun_51 : decode cX7_shun 51 = .ok (.if_icmp .gt 55, 3) := by decide +kernel
theorem dX7_shun_54 : decode cX7_shun 54 = .ok (.iload_n 3, 1) := by decide +kernel
theorem dX7_shun_55 : decode cX7_shun 55 = .ok (.aload_n 0, 1) := by decide +kernel
theorem dX7_shun_56 : decode cX7_shun 56 = .ok (.getfield 19, 3) := by decide +kernel
theorem dX7_shun_59 : decode cX7_shun 59 = .ok (.getfield 119, 3) := by decide +kernel
theorem dX7_shun_62 : decode cX7_shun 62 = .ok (.if_icmp .lt 44, 3) := by decide +kernel
theorem dX7_shun_65 : decode cX7_shun 65 = .ok (.iload_n 3, 1) := by decide +kernel
theorem dX7_shun_66 : decode cX7_shun 66 = .ok (.iload 6, 2) := by decide +kernel
theorem dX7_shun_68 : decode cX7_shun 68 = .ok (.invokestatic 194, 3) := by decide +kernel
theorem dX7_shun_71 : decode cX7_shun 71 = .ok (.aload_n 0, 1) := by decide +kernel
theorem dX7_shun_72 : decode cX7_shun 72 = .ok (.getfield 19, 3) := by decide +kernel
theorem dX7_shun_75 : decode cX7_shun 75 = .ok (.getfield 119, 3) := by decide +kernel
theorem dX7_shun_78 : decode cX7_shun 78 = .ok (.if_icmp .ge 22, 3) := by decide +kernel
theorem dX7_shun_81 : decode cX7_shun 81 = .ok (.iload 4, 2) := by decide +kernel
theorem dX7_shun_83 : decode cX7_shun 83 = .ok (.iconst (-1), 1) := by decide +kernel
theorem dX7_shun_84 : decode cX7_shun 84 = .ok (.if_icmp .ne 8, 3) := by decide +kernel
theorem dX7_shun_87 : decode cX7_shun 87 = .ok (.iload 6, 2) := by decide +kernel
theorem dX7_shun_89 : decode cX7_shun 89 = .ok (.goto 5, 3) := by decide +kernel
theorem dX7_shun_92 : decode cX7_shun 92 = .ok (.iload 4, 2) := by decide +kernel
theorem dX7_shun_94 : decode cX7_shun 94 = .ok (.istore 4, 2) := by decide +kernel
theorem dX7_shun_96 : decode cX7_shun 96 = .ok (.iload 6, 2) := by decide +kernel
theorem dX7_shun_98 : decode cX7_shun 98 = .ok (.istore 5, 2) := by decide +kernel
theorem dX7_shun_100 : decode cX7_shun 100 = .ok (.iinc 6 1, 3) := by decide +kernel
theorem dX7_shun_103 : decode cX7_shun 103 = .ok (.goto (-56), 3) := by decide +kernel
theorem dX7_shun_106 : decode cX7_shun 106 = .ok (.iload_n 2, 1) := by decide +kernel
theorem dX7_shun_107 : decode cX7_shun 107 = .ok (.ifCond .ne 8, 3) := by decide +kernel
theorem dX7_shun_110 : decode cX7_shun 110 = .ok (.iload 4, 2) := by decide +kernel
theorem dX7_shun_112 : decode cX7_shun 112 = .ok (.goto 5, 3) := by decide +kernel
theorem dX7_shun_115 : decode cX7_shun 115 = .ok (.iload 5, 2) := by decide +kernel
theorem dX7_shun_117 : decode cX7_shun 117 = .ok (.ireturn, 1) := by decide +kernel
theorem dX7_holds_0 : decode cX7_holds 0 = .ok (.iload_n 1, 1) := by decide +kernel
theorem dX7_holds_1 : decode cX7_holds 1 = .ok (.ifCond .lt 19, 3) := by decide +kernel
theorem dX7_holds_4 : decode cX7_holds 4 = .ok (.iload_n 1, 1) := by decide +kernel
theorem dX7_holds_5 : decode cX7_holds 5 = .ok (.bipush 60, 2) := by decide +kernel
theorem dX7_holds_7 : decode cX7_holds 7 = .ok (.if_icmp .gt 13, 3) := by decide +kernel
theorem dX7_holds_10 : decode cX7_holds 10 = .ok (.iload_n 2, 1) := by decide +kernel
theorem dX7_holds_11 : decode cX7_holds 11 = .ok (.ifCond .lt 9, 3) := by decide +kernel
theorem dX7_holds_14 : decode cX7_holds 14 = .ok (.iload_n 2, 1) := by decide +kernel
theorem dX7_holds_15 : decode cX7_holds 15 = .ok (.bipush 100, 2) := by decide +kernel
theorem dX7_holds_17 : decode cX7_holds 17 = .ok (.if_icmp .le 6, 3) := by decide +kernel
theorem dX7_holds_20 : decode cX7_holds 20 = .ok (.ldc 83, 2) := by decide +kernel
theorem dX7_holds_22 : decode cX7_holds 22 = .ok (.ireturn, 1) := by decide +kernel
theorem dX7_holds_23 : decode cX7_holds 23 = .ok (.ldc2_w 242, 3) := by decide +kernel
theorem dX7_holds_26 : decode cX7_holds 26 = .ok (.lstore_n 3, 1) := by decide +kernel
theorem dX7_holds_27 : decode cX7_holds 27 = .ok (.iconst 0, 1) := by decide +kernel
theorem dX7_holds_28 : decode cX7_holds 28 = .ok (.istore 5, 2) := by decide +kernel
theorem dX7_holds_30 : decode cX7_holds 30 = .ok (.iload 5, 2) := by decide +kernel
theorem dX7_holds_32 : decode cX7_holds 32 = .ok (.iload_n 1, 1) := by decide +kernel
theorem dX7_holds_33 : decode cX7_holds 33 = .ok (.if_icmp .ge 21, 3) := by decide +kernel
theorem dX7_holds_36 : decode cX7_holds 36 = .ok (.lload_n 3, 1) := by decide +kernel
theorem dX7_holds_37 : decode cX7_holds 37 = .ok (.bipush 100, 2) := by decide +kernel
theorem dX7_holds_39 : decode cX7_holds 39 = .ok (.iload_n 2, 1) := by decide +kernel
theorem dX7_holds_40 : decode cX7_holds 40 = .ok (.isub, 1) := by decide +kernel
theorem dX7_holds_41 : decode cX7_holds 41 = .ok (.i2l, 1) := by decide +kernel
theorem dX7_holds_42 : decode cX7_holds 42 = .ok (.lmul, 1) := by decide +kernel
theorem dX7_holds_43 : decode cX7_holds 43 = .ok (.ldc2_w 244, 3) := by decide +kernel
theorem dX7_holds_46 : decode cX7_holds 46 = .ok (.ldiv, 1) := by decide +kernel
theorem dX7_holds_47 : decode cX7_holds 47 = .ok (.lstore_n 3, 1) := by decide +kernel
theorem dX7_holds_48 : decode cX7_holds 48 = .ok (.iinc 5 1, 3) := by decide +kernel
theorem dX7_holds_51 : decode cX7_holds 51 = .ok (.goto (-21), 3) := by decide +kernel
theorem dX7_holds_54 : decode cX7_holds 54 = .ok (.lload_n 3, 1) := by decide +kernel
theorem dX7_holds_55 : decode cX7_holds 55 = .ok (.l2i, 1) := by decide +kernel
theorem dX7_holds_56 : decode cX7_holds 56 = .ok (.ireturn, 1) := by decide +kernel
theorem dX7_worn_0 : decode cX7_worn 0 = .ok (.iconst 0, 1) := by decide +kernel
theorem dX7_worn_1 : decode cX7_worn 1 = .ok (.istore_n 1, 1) := by decide +kernel
theorem dX7_worn_2 : decode cX7_worn 2 = .ok (.iconst 0, 1) := by decide +kernel
theorem dX7_worn_3 : decode cX7_worn 3 = .ok (.istore_n 2, 1) := by decide +kernel
theorem dX7_worn_4 : decode cX7_worn 4 = .ok (.iload_n 2, 1) := by decide +kernel
theorem dX7_worn_5 : decode cX7_worn 5 = .ok (.aload_n 0, 1) := by decide +kernel
theorem dX7_worn_6 : decode cX7_worn 6 = .ok (.getfield 19, 3) := by decide +kernel
theorem dX7_worn_9 : decode cX7_worn 9 = .ok (.getfield 107, 3) := by decide +kernel
theorem dX7_worn_12 : decode cX7_worn 12 = .ok (.if_icmp .ge 43, 3) := by decide +kernel
theorem dX7_worn_15 : decode cX7_worn 15 = .ok (.aload_n 0, 1) := by decide +kernel
theorem dX7_worn_16 : decode cX7_worn 16 = .ok (.getfield 19, 3) := by decide +kernel
theorem dX7_worn_19 : decode cX7_worn 19 = .ok (.getfield 156, 3) := by decide +kernel
theorem dX7_worn_22 : decode cX7_worn 22 = .ok (.iload_n 2, 1) := by decide +kernel
theorem dX7_worn_23 : decode cX7_worn 23 = .ok (.invokestatic 145, 3) := by decide +kernel
theorem dX7_worn_26 : decode cX7_worn 26 = .ok (.aload_n 0, 1) := by decide +kernel
theorem dX7_worn_27 : decode cX7_worn 27 = .ok (.getfield 29, 3) := by decide +kernel
theorem dX7_worn_30 : decode cX7_worn 30 = .ok (.getfield 172, 3) := by decide +kernel
theorem dX7_worn_33 : decode cX7_worn 33 = .ok (.iload_n 2, 1) := by decide +kernel
theorem dX7_worn_34 : decode cX7_worn 34 = .ok (.invokestatic 145, 3) := by decide +kernel
theorem dX7_worn_37 : decode cX7_worn 37 = .ok (.invokestatic 246, 3) := by decide +kernel
theorem dX7_worn_40 : decode cX7_worn 40 = .ok (.ifCond .ne 9, 3) := by decide +kernel
theorem dX7_worn_43 : decode cX7_worn 43 = .ok (.iload_n 1, 1) := by decide +kernel
theorem dX7_worn_44 : decode cX7_worn 44 = .ok (.iconst 1, 1) := by decide +kernel
theorem dX7_worn_45 : decode cX7_worn 45 = .ok (.iload_n 2, 1) := by decide +kernel
theorem dX7_worn_46 : decode cX7_worn 46 = .ok (.ishl, 1) := by decide +kernel
theorem dX7_worn_47 : decode cX7_worn 47 = .ok (.ior, 1) := by decide +kernel
theorem dX7_worn_48 : decode cX7_worn 48 = .ok (.istore_n 1, 1) := by decide +kernel
theorem dX7_worn_49 : decode cX7_worn 49 = .ok (.iinc 2 1, 3) := by decide +kernel
theorem dX7_worn_52 : decode cX7_worn 52 = .ok (.goto (-48), 3) := by decide +kernel
theorem dX7_worn_55 : decode cX7_worn 55 = .ok (.iload_n 1, 1) := by decide +kernel
theorem dX7_worn_56 : decode cX7_worn 56 = .ok (.ireturn, 1) := by decide +kernel
theorem dX7_thought_0 : decode cX7_thought 0 = .ok (.aload_n 0, 1) := by decide +kernel
theorem dX7_thought_1 : decode cX7_thought 1 = .ok (.aload_n 0, 1) := by decide +kernel
theorem dX7_thought_2 : decode cX7_thought 2 = .ok (.getfield 76, 3) := by decide +kernel
theorem dX7_thought_5 : decode cX7_thought 5 = .ok (.iload_n 1, 1) := by decide +kernel
theorem dX7_thought_6 : decode cX7_thought 6 = .ok (.iload_n 2, 1) := by decide +kernel
theorem dX7_thought_7 : decode cX7_thought 7 = .ok (.invokevirtual 249, 3) := by decide +kernel
theorem dX7_thought_10 : decode cX7_thought 10 = .ok (.ireturn, 1) := by decide +kernel
theorem dX7_leftOut_0 : decode cX7_leftOut 0 = .ok (.iconst 0, 1) := by decide +kernel
theorem dX7_leftOut_1 : decode cX7_leftOut 1 = .ok (.istore_n 2, 1) := by decide +kernel
theorem dX7_leftOut_2 : decode cX7_leftOut 2 = .ok (.iconst (-1), 1) := by decide +kernel
theorem dX7_leftOut_3 : decode cX7_leftOut 3 = .ok (.istore_n 3, 1) := by decide +kernel
theorem dX7_leftOut_4 : decode cX7_leftOut 4 = .ok (.iconst 0, 1) := by decide +kernel
theorem dX7_leftOut_5 : decode cX7_leftOut 5 = .ok (.istore 4, 2) := by decide +kernel
theorem dX7_leftOut_7 : decode cX7_leftOut 7 = .ok (.iconst 0, 1) := by decide +kernel
theorem dX7_leftOut_8 : decode cX7_leftOut 8 = .ok (.istore 5, 2) := by decide +kernel
theorem dX7_leftOut_10 : decode cX7_leftOut 10 = .ok (.iload 5, 2) := by decide +kernel
theorem dX7_leftOut_12 : decode cX7_leftOut 12 = .ok (.iconst 1, 1) := by decide +kernel
theorem dX7_leftOut_13 : decode cX7_leftOut 13 = .ok (.aload_n 0, 1) := by decide +kernel
theorem dX7_leftOut_14 : decode cX7_leftOut 14 = .ok (.getfield 19, 3) := by decide +kernel
theorem dX7_leftOut_17 : decode cX7_leftOut 17 = .ok (.getfield 107, 3) := by decide +kernel
theorem dX7_leftOut_20 : decode cX7_leftOut 20 = .ok (.ishl, 1) := by decide +kernel
theorem dX7_leftOut_21 : decode cX7_leftOut 21 = .ok (.if_icmp .ge 54, 3) := by decide +kernel
theorem dX7_leftOut_24 : decode cX7_leftOut 24 = .ok (.aload_n 0, 1) := by decide +kernel
theorem dX7_leftOut_25 : decode cX7_leftOut 25 = .ok (.iload 5, 2) := by decide +kernel
theorem dX7_leftOut_27 : decode cX7_leftOut 27 = .ok (.invokevirtual 178, 3) := by decide +kernel
theorem dX7_leftOut_30 : decode cX7_leftOut 30 = .ok (.ifCond .eq 39, 3) := by decide +kernel
theorem dX7_leftOut_33 : decode cX7_leftOut 33 = .ok (.aload_n 0, 1) := by decide +kernel
theorem dX7_leftOut_34 : decode cX7_leftOut 34 = .ok (.aload_n 0, 1) := by decide +kernel
theorem dX7_leftOut_35 : decode cX7_leftOut 35 = .ok (.getfield 19, 3) := by decide +kernel
theorem dX7_leftOut_38 : decode cX7_leftOut 38 = .ok (.iload 5, 2) := by decide +kernel
theorem dX7_leftOut_40 : decode cX7_leftOut 40 = .ok (.invokevirtual 253, 3) := by decide +kernel
theorem dX7_leftOut_43 : decode cX7_leftOut 43 = .ok (.ifCond .eq 26, 3) := by decide +kernel
theorem dX7_leftOut_46 : decode cX7_leftOut 46 = .ok (.iload_n 2, 1) := by decide +kernel
theorem dX7_leftOut_47 : decode cX7_leftOut 47 = .ok (.iload_n 1, 1) := by decide +kernel
theorem dX7_leftOut_48 : decode cX7_leftOut 48 = .ok (.if_icmp .ne 6, 3) := by decide +kernel
theorem dX7_leftOut_51 : decode cX7_leftOut 51 = .ok (.iload 5, 2) := by decide +kernel
theorem dX7_leftOut_53 : decode cX7_leftOut 53 = .ok (.ireturn, 1) := by decide +kernel
theorem dX7_leftOut_54 : decode cX7_leftOut 54 = .ok (.iinc 2 1, 3) := by decide +kernel
theorem dX7_leftOut_57 : decode cX7_leftOut 57 = .ok (.iload_n 3, 1) := by decide +kernel
theorem dX7_leftOut_58 : decode cX7_leftOut 58 = .ok (.iload 5, 2) := by decide +kernel
theorem dX7_leftOut_60 : decode cX7_leftOut 60 = .ok (.iand, 1) := by decide +kernel
theorem dX7_leftOut_61 : decode cX7_leftOut 61 = .ok (.istore_n 3, 1) := by decide +kernel
theorem dX7_leftOut_62 : decode cX7_leftOut 62 = .ok (.iload 4, 2) := by decide +kernel
theorem dX7_leftOut_64 : decode cX7_leftOut 64 = .ok (.iload 5, 2) := by decide +kernel
theorem dX7_leftOut_66 : decode cX7_leftOut 66 = .ok (.ior, 1) := by decide +kernel
theorem dX7_leftOut_67 : decode cX7_leftOut 67 = .ok (.istore 4, 2) := by decide +kernel
theorem dX7_leftOut_69 : decode cX7_leftOut 69 = .ok (.iinc 5 1, 3) := by decide +kernel
theorem dX7_leftOut_72 : decode cX7_leftOut 72 = .ok (.goto (-62), 3) := by decide +kernel
theorem dX7_leftOut_75 : decode cX7_leftOut 75 = .ok (.iload_n 1, 1) := by decide +kernel
theorem dX7_leftOut_76 : decode cX7_leftOut 76 = .ok (.tableswitch 53 (-3) (-1) #[40, 30, 28], 28) := by decide +kernel
theorem dX7_leftOut_104 : decode cX7_leftOut 104 = .ok (.iload_n 2, 1) := by decide +kernel
theorem dX7_leftOut_105 : decode cX7_leftOut 105 = .ok (.ireturn, 1) := by decide +kernel
theorem dX7_leftOut_106 : decode cX7_leftOut 106 = .ok (.iload_n 2, 1) := by decide +kernel
theorem dX7_leftOut_107 : decode cX7_leftOut 107 = .ok (.ifCond .ne 7, 3) := by decide +kernel
theorem dX7_leftOut_110 : decode cX7_leftOut 110 = .ok (.iconst 0, 1) := by decide +kernel
theorem dX7_leftOut_111 : decode cX7_leftOut 111 = .ok (.goto 4, 3) := by decide +kernel
theorem dX7_leftOut_114 : decode cX7_leftOut 114 = .ok (.iload_n 3, 1) := by decide +kernel
theorem dX7_leftOut_115 : decode cX7_leftOut 115 = .ok (.ireturn, 1) := by decide +kernel
theorem dX7_leftOut_116 : decode cX7_leftOut 116 = .ok (.aload_n 0, 1) := by decide +kernel
theorem dX7_leftOut_117 : decode cX7_leftOut 117 = .ok (.getfield 29, 3) := by decide +kernel
theorem dX7_leftOut_120 : decode cX7_leftOut 120 = .ok (.getfield 131, 3) := by decide +kernel
theorem dX7_leftOut_123 : decode cX7_leftOut 123 = .ok (.iload 4, 2) := by decide +kernel
theorem dX7_leftOut_125 : decode cX7_leftOut 125 = .ok (.iconst (-1), 1) := by decide +kernel
theorem dX7_leftOut_126 : decode cX7_leftOut 126 = .ok (.ixor, 1) := by decide +kernel
theorem dX7_leftOut_127 : decode cX7_leftOut 127 = .ok (.iand, 1) := by decide +kernel
theorem dX7_leftOut_128 : decode cX7_leftOut 128 = .ok (.ireturn, 1) := by decide +kernel
theorem dX7_leftOut_129 : decode cX7_leftOut 129 = .ok (.iconst (-1), 1) := by decide +kernel
theorem dX7_leftOut_130 : decode cX7_leftOut 130 = .ok (.ireturn, 1) := by decide +kernel
theorem dX7_strengths_0 : decode cX7_strengths 0 = .ok (.aload_n 0, 1) := by decide +kernel
theorem dX7_strengths_1 : decode cX7_strengths 1 = .ok (.getfield 19, 3) := by decide +kernel
theorem dX7_strengths_4 : decode cX7_strengths 4 = .ok (.iload_n 1, 1) := by decide +kernel
theorem dX7_strengths_5 : decode cX7_strengths 5 = .ok (.invokevirtual 150, 3) := by decide +kernel
theorem dX7_strengths_8 : decode cX7_strengths 8 = .ok (.ifCond .eq 14, 3) := by decide +kernel
theorem dX7_strengths_11 : decode cX7_strengths 11 = .ok (.aload_n 0, 1) := by decide +kernel
theorem dX7_strengths_12 : decode cX7_strengths 12 = .ok (.getfield 19, 3) := by decide +kernel
theorem dX7_strengths_15 : decode cX7_strengths 15 = .ok (.iload_n 2, 1) := by decide +kernel
theorem dX7_strengths_16 : decode cX7_strengths 16 = .ok (.invokevirtual 175, 3) := by decide +kernel
theorem dX7_strengths_19 : decode cX7_strengths 19 = .ok (.ifCond .ne 6, 3) := by decide +kernel
theorem dX7_strengths_22 : decode cX7_strengths 22 = .ok (.ldc 149, 2) := by decide +kernel
theorem dX7_strengths_24 : decode cX7_strengths 24 = .ok (.ireturn, 1) := by decide +kernel
theorem dX7_strengths_25 : decode cX7_strengths 25 = .ok (.aload_n 0, 1) := by decide +kernel
theorem dX7_strengths_26 : decode cX7_strengths 26 = .ok (.iload_n 2, 1) := by decide +kernel
theorem dX7_strengths_27 : decode cX7_strengths 27 = .ok (.invokevirtual 178, 3) := by decide +kernel
theorem dX7_strengths_30 : decode cX7_strengths 30 = .ok (.ifCond .ne 6, 3) := by decide +kernel
theorem dX7_strengths_33 : decode cX7_strengths 33 = .ok (.ldc 181, 2) := by decide +kernel
theorem dX7_strengths_35 : decode cX7_strengths 35 = .ok (.ireturn, 1) := by decide +kernel
theorem dX7_strengths_36 : decode cX7_strengths 36 = .ok (.iconst 0, 1) := by decide +kernel
theorem dX7_strengths_37 : decode cX7_strengths 37 = .ok (.istore_n 3, 1) := by decide +kernel
theorem dX7_strengths_38 : decode cX7_strengths 38 = .ok (.aload_n 0, 1) := by decide +kernel
theorem dX7_strengths_39 : decode cX7_strengths 39 = .ok (.getfield 23, 3) := by decide +kernel
theorem dX7_strengths_42 : decode cX7_strengths 42 = .ok (.aload_n 0, 1) := by decide +kernel
theorem dX7_strengths_43 : decode cX7_strengths 43 = .ok (.getfield 19, 3) := by decide +kernel
theorem dX7_strengths_46 : decode cX7_strengths 46 = .ok (.invokevirtual 96, 3) := by decide +kernel
theorem dX7_strengths_49 : decode cX7_strengths 49 = .ok (.iconst 0, 1) := by decide +kernel
theorem dX7_strengths_50 : decode cX7_strengths 50 = .ok (.istore 4, 2) := by decide +kernel
theorem dX7_strengths_52 : decode cX7_strengths 52 = .ok (.iload 4, 2) := by decide +kernel
theorem dX7_strengths_54 : decode cX7_strengths 54 = .ok (.bipush 18, 2) := by decide +kernel
theorem dX7_strengths_56 : decode cX7_strengths 56 = .ok (.if_icmp .gt 44, 3) := by decide +kernel
theorem dX7_strengths_59 : decode cX7_strengths 59 = .ok (.aload_n 0, 1) := by decide +kernel
theorem dX7_strengths_60 : decode cX7_strengths 60 = .ok (.getfield 23, 3) := by decide +kernel
theorem dX7_strengths_63 : decode cX7_strengths 63 = .ok (.getfield 156, 3) := by decide +kernel
theorem dX7_strengths_66 : decode cX7_strengths 66 = .ok (.iload_n 1, 1) := by decide +kernel
theorem dX7_strengths_67 : decode cX7_strengths 67 = .ok (.iload 4, 2) := by decide +kernel
theorem dX7_strengths_69 : decode cX7_strengths 69 = .ok (.bipush 9, 2) := by decide +kernel
theorem dX7_strengths_71 : decode cX7_strengths 71 = .ok (.isub, 1) := by decide +kernel
theorem dX7_strengths_72 : decode cX7_strengths 72 = .ok (.invokestatic 198, 3) := by decide +kernel
theorem dX7_strengths_75 : decode cX7_strengths 75 = .ok (.aload_n 0, 1) := by decide +kernel
theorem dX7_strengths_76 : decode cX7_strengths 76 = .ok (.aload_n 0, 1) := by decide +kernel
theorem dX7_strengths_77 : decode cX7_strengths 77 = .ok (.getfield 23, 3) := by decide +kernel
theorem dX7_strengths_80 : decode cX7_strengths 80 = .ok (.iload_n 2, 1) := by decide +kernel
theorem dX7_strengths_81 : decode cX7_strengths 81 = .ok (.invokevirtual 253, 3) := by decide +kernel
theorem dX7_strengths_84 : decode cX7_strengths 84 = .ok (.ifCond .eq 10, 3) := by decide +kernel
theorem dX7_strengths_87 : decode cX7_strengths 87 = .ok (.iload_n 3, 1) := by decide +kernel
theorem dX7_strengths_88 : decode cX7_strengths 88 = .ok (.iconst 1, 1) := by decide +kernel
theorem dX7_strengths_89 : decode cX7_strengths 89 = .ok (.iload 4, 2) := by decide +kernel
theorem dX7_strengths_91 : decode cX7_strengths 91 = .ok (.ishl, 1) := by decide +kernel
theorem dX7_strengths_92 : decode cX7_strengths 92 = .ok (.ior, 1) := by decide +kernel
theorem dX7_strengths_93 : decode cX7_strengths 93 = .ok (.istore_n 3, 1) := by decide +kernel
theorem dX7_strengths_94 : decode cX7_strengths 94 = .ok (.iinc 4 1, 3) := by decide +kernel
theorem dX7_strengths_97 : decode cX7_strengths 97 = .ok (.goto (-45), 3) := by decide +kernel
theorem dX7_strengths_100 : decode cX7_strengths 100 = .ok (.iload_n 3, 1) := by decide +kernel
theorem dX7_strengths_101 : decode cX7_strengths 101 = .ok (.ireturn, 1) := by decide +kernel
theorem dX7_write_0 : decode cX7_write 0 = .ok (.aload_n 0, 1) := by decide +kernel
theorem dX7_write_1 : decode cX7_write 1 = .ok (.aload_n 0, 1) := by decide +kernel
theorem dX7_write_2 : decode cX7_write 2 = .ok (.getfield 80, 3) := by decide +kernel
theorem dX7_write_5 : decode cX7_write 5 = .ok (.iload_n 1, 1) := by decide +kernel
theorem dX7_write_6 : decode cX7_write 6 = .ok (.iload_n 2, 1) := by decide +kernel
theorem dX7_write_7 : decode cX7_write 7 = .ok (.invokevirtual 249, 3) := by decide +kernel
theorem dX7_write_10 : decode cX7_write 10 = .ok (.ireturn, 1) := by decide +kernel
theorem dX7_tear_0 : decode cX7_tear 0 = .ok (.aload_n 0, 1) := by decide +kernel
theorem dX7_tear_1 : decode cX7_tear 1 = .ok (.getfield 76, 3) := by decide +kernel
theorem dX7_tear_4 : decode cX7_tear 4 = .ok (.getfield 137, 3) := by decide +kernel
theorem dX7_tear_7 : decode cX7_tear 7 = .ok (.aload_n 0, 1) := by decide +kernel
theorem dX7_tear_8 : decode cX7_tear 8 = .ok (.getfield 80, 3) := by decide +kernel
theorem dX7_tear_11 : decode cX7_tear 11 = .ok (.getfield 137, 3) := by decide +kernel
theorem dX7_tear_14 : decode cX7_tear 14 = .ok (.iadd, 1) := by decide +kernel
theorem dX7_tear_15 : decode cX7_tear 15 = .ok (.istore_n 1, 1) := by decide +kernel
theorem dX7_tear_16 : decode cX7_tear 16 = .ok (.aload_n 0, 1) := by decide +kernel
theorem dX7_tear_17 : decode cX7_tear 17 = .ok (.getfield 76, 3) := by decide +kernel
theorem dX7_tear_20 : decode cX7_tear 20 = .ok (.invokevirtual 106, 3) := by decide +kernel
theorem dX7_tear_23 : decode cX7_tear 23 = .ok (.aload_n 0, 1) := by decide +kernel
theorem dX7_tear_24 : decode cX7_tear 24 = .ok (.getfield 80, 3) := by decide +kernel
theorem dX7_tear_27 : decode cX7_tear 27 = .ok (.invokevirtual 106, 3) := by decide +kernel
theorem dX7_tear_30 : decode cX7_tear 30 = .ok (.iload_n 1, 1) := by decide +kernel
theorem dX7_tear_31 : decode cX7_tear 31 = .ok (.ireturn, 1) := by decide +kernel
theorem dX7_judge_0 : decode cX7_judge 0 = .ok (.aload_n 0, 1) := by decide +kernel
theorem dX7_judge_1 : decode cX7_judge 1 = .ok (.getfield 80, 3) := by decide +kernel
theorem dX7_judge_4 : decode cX7_judge 4 = .ok (.aload_n 0, 1) := by decide +kernel
theorem dX7_judge_5 : decode cX7_judge 5 = .ok (.getfield 29, 3) := by decide +kernel
theorem dX7_judge_8 : decode cX7_judge 8 = .ok (.invokevirtual 257, 3) := by decide +kernel
theorem dX7_judge_11 : decode cX7_judge 11 = .ok (.ireturn, 1) := by decide +kernel
theorem dX7_seed_0 : decode cX7_seed 0 = .ok (.iload_n 1, 1) := by decide +kernel
theorem dX7_seed_1 : decode cX7_seed 1 = .ok (.ifCond .ge 6, 3) := by decide +kernel
theorem dX7_seed_4 : decode cX7_seed 4 = .ok (.ldc 83, 2) := by decide +kernel
theorem dX7_seed_6 : decode cX7_seed 6 = .ok (.ireturn, 1) := by decide +kernel
theorem dX7_seed_7 : decode cX7_seed 7 = .ok (.aload_n 0, 1) := by decide +kernel
theorem dX7_seed_8 : decode cX7_seed 8 = .ok (.getfield 70, 3) := by decide +kernel
theorem dX7_seed_11 : decode cX7_seed 11 = .ok (.istore_n 2, 1) := by decide +kernel
theorem dX7_seed_12 : decode cX7_seed 12 = .ok (.aload_n 0, 1) := by decide +kernel
theorem dX7_seed_13 : decode cX7_seed 13 = .ok (.iload_n 1, 1) := by decide +kernel
theorem dX7_seed_14 : decode cX7_seed 14 = .ok (.putfield 70, 3) := by decide +kernel
theorem dX7_seed_17 : decode cX7_seed 17 = .ok (.iload_n 2, 1) := by decide +kernel
theorem dX7_seed_18 : decode cX7_seed 18 = .ok (.ireturn, 1) := by decide +kernel
theorem dX7_keep_0 : decode cX7_keep 0 = .ok (.iload_n 1, 1) := by decide +kernel
theorem dX7_keep_1 : decode cX7_keep 1 = .ok (.ifCond .lt 8, 3) := by decide +kernel
theorem dX7_keep_4 : decode cX7_keep 4 = .ok (.iload_n 1, 1) := by decide +kernel
theorem dX7_keep_5 : decode cX7_keep 5 = .ok (.iconst 2, 1) := by decide +kernel
theorem dX7_keep_6 : decode cX7_keep 6 = .ok (.if_icmp .lt 6, 3) := by decide +kernel
theorem dX7_keep_9 : decode cX7_keep 9 = .ok (.ldc 149, 2) := by decide +kernel
theorem dX7_keep_11 : decode cX7_keep 11 = .ok (.ireturn, 1) := by decide +kernel
theorem dX7_keep_12 : decode cX7_keep 12 = .ok (.aload_n 0, 1) := by decide +kernel
theorem dX7_keep_13 : decode cX7_keep 13 = .ok (.getfield 58, 3) := by decide +kernel
theorem dX7_keep_16 : decode cX7_keep 16 = .ok (.iload_n 1, 1) := by decide +kernel
theorem dX7_keep_17 : decode cX7_keep 17 = .ok (.aload_n 0, 1) := by decide +kernel
theorem dX7_keep_18 : decode cX7_keep 18 = .ok (.getfield 29, 3) := by decide +kernel
theorem dX7_keep_21 : decode cX7_keep 21 = .ok (.invokevirtual 261, 3) := by decide +kernel
theorem dX7_keep_24 : decode cX7_keep 24 = .ok (.aload_n 0, 1) := by decide +kernel
theorem dX7_keep_25 : decode cX7_keep 25 = .ok (.getfield 62, 3) := by decide +kernel
theorem dX7_keep_28 : decode cX7_keep 28 = .ok (.iload_n 1, 1) := by decide +kernel
theorem dX7_keep_29 : decode cX7_keep 29 = .ok (.aload_n 0, 1) := by decide +kernel
theorem dX7_keep_30 : decode cX7_keep 30 = .ok (.getfield 70, 3) := by decide +kernel
theorem dX7_keep_33 : decode cX7_keep 33 = .ok (.invokestatic 198, 3) := by decide +kernel
theorem dX7_keep_36 : decode cX7_keep 36 = .ok (.aload_n 0, 1) := by decide +kernel
theorem dX7_keep_37 : decode cX7_keep 37 = .ok (.dup, 1) := by decide +kernel
theorem dX7_keep_38 : decode cX7_keep 38 = .ok (.getfield 66, 3) := by decide +kernel
theorem dX7_keep_41 : decode cX7_keep 41 = .ok (.iconst 1, 1) := by decide +kernel
theorem dX7_keep_42 : decode cX7_keep 42 = .ok (.iload_n 1, 1) := by decide +kernel
theorem dX7_keep_43 : decode cX7_keep 43 = .ok (.ishl, 1) := by decide +kernel
theorem dX7_keep_44 : decode cX7_keep 44 = .ok (.ior, 1) := by decide +kernel
theorem dX7_keep_45 : decode cX7_keep 45 = .ok (.putfield 66, 3) := by decide +kernel
theorem dX7_keep_48 : decode cX7_keep 48 = .ok (.aload_n 0, 1) := by decide +kernel
theorem dX7_keep_49 : decode cX7_keep 49 = .ok (.getfield 49, 3) := by decide +kernel
theorem dX7_keep_52 : decode cX7_keep 52 = .ok (.invokevirtual 103, 3) := by decide +kernel
theorem dX7_keep_55 : decode cX7_keep 55 = .ok (.iconst 1, 1) := by decide +kernel
theorem dX7_keep_56 : decode cX7_keep 56 = .ok (.ireturn, 1) := by decide +kernel
theorem dX7_goBack_0 : decode cX7_goBack 0 = .ok (.iload_n 1, 1) := by decide +kernel
theorem dX7_goBack_1 : decode cX7_goBack 1 = .ok (.ifCond .lt 8, 3) := by decide +kernel
theorem dX7_goBack_4 : decode cX7_goBack 4 = .ok (.iload_n 1, 1) := by decide +kernel
theorem dX7_goBack_5 : decode cX7_goBack 5 = .ok (.iconst 2, 1) := by decide +kernel
theorem dX7_goBack_6 : decode cX7_goBack 6 = .ok (.if_icmp .lt 6, 3) := by decide +kernel
theorem dX7_goBack_9 : decode cX7_goBack 9 = .ok (.ldc 149, 2) := by decide +kernel
theorem dX7_goBack_11 : decode cX7_goBack 11 = .ok (.ireturn, 1) := by decide +kernel
theorem dX7_goBack_12 : decode cX7_goBack 12 = .ok (.aload_n 0, 1) := by decide +kernel
theorem dX7_goBack_13 : decode cX7_goBack 13 = .ok (.getfield 66, 3) := by decide +kernel
theorem dX7_goBack_16 : decode cX7_goBack 16 = .ok (.iload_n 1, 1) := by decide +kernel
theorem dX7_goBack_17 : decode cX7_goBack 17 = .ok (.invokestatic 168, 3) := by decide +kernel
theorem dX7_goBack_20 : decode cX7_goBack 20 = .ok (.ifCond .ne 6, 3) := by decide +kernel
theorem dX7_goBack_23 : decode cX7_goBack 23 = .ok (.ldc 181, 2) := by decide +kernel
theorem dX7_goBack_25 : decode cX7_goBack 25 = .ok (.ireturn, 1) := by decide +kernel
theorem dX7_goBack_26 : decode cX7_goBack 26 = .ok (.aload_n 0, 1) := by decide +kernel
theorem dX7_goBack_27 : decode cX7_goBack 27 = .ok (.getfield 58, 3) := by decide +kernel
theorem dX7_goBack_30 : decode cX7_goBack 30 = .ok (.iload_n 1, 1) := by decide +kernel
theorem dX7_goBack_31 : decode cX7_goBack 31 = .ok (.aload_n 0, 1) := by decide +kernel
theorem dX7_goBack_32 : decode cX7_goBack 32 = .ok (.getfield 29, 3) := by decide +kernel
theorem dX7_goBack_35 : decode cX7_goBack 35 = .ok (.invokevirtual 265, 3) := by decide +kernel
theorem dX7_goBack_38 : decode cX7_goBack 38 = .ok (.aload_n 0, 1) := by decide +kernel
theorem dX7_goBack_39 : decode cX7_goBack 39 = .ok (.aload_n 0, 1) := by decide +kernel
theorem dX7_goBack_40 : decode cX7_goBack 40 = .ok (.getfield 62, 3) := by decide +kernel
theorem dX7_goBack_43 : decode cX7_goBack 43 = .ok (.iload_n 1, 1) := by decide +kernel
theorem dX7_goBack_44 : decode cX7_goBack 44 = .ok (.invokestatic 145, 3) := by decide +kernel
theorem dX7_goBack_47 : decode cX7_goBack 47 = .ok (.putfield 70, 3) := by decide +kernel
theorem dX7_goBack_50 : decode cX7_goBack 50 = .ok (.aload_n 0, 1) := by decide +kernel
theorem dX7_goBack_51 : decode cX7_goBack 51 = .ok (.getfield 49, 3) := by decide +kernel
theorem dX7_goBack_54 : decode cX7_goBack 54 = .ok (.invokevirtual 103, 3) := by decide +kernel
theorem dX7_goBack_57 : decode cX7_goBack 57 = .ok (.iconst 1, 1) := by decide +kernel
theorem dX7_goBack_58 : decode cX7_goBack 58 = .ok (.ireturn, 1) := by decide +kernel
theorem dX7_at_0 : decode cX7_at 0 = .ok (.iload_n 1, 1) := by decide +kernel
theorem dX7_at_1 : decode cX7_at 1 = .ok (.ifCond .lt 15, 3) := by decide +kernel
theorem dX7_at_4 : decode cX7_at 4 = .ok (.iload_n 1, 1) := by decide +kernel
theorem dX7_at_5 : decode cX7_at 5 = .ok (.aload_n 0, 1) := by decide +kernel
theorem dX7_at_6 : decode cX7_at 6 = .ok (.arraylength, 1) := by decide +kernel
theorem dX7_at_7 : decode cX7_at 7 = .ok (.if_icmp .ge 9, 3) := by decide +kernel
theorem dX7_at_10 : decode cX7_at 10 = .ok (.aload_n 0, 1) := by decide +kernel
theorem dX7_at_11 : decode cX7_at 11 = .ok (.iload_n 1, 1) := by decide +kernel
theorem dX7_at_12 : decode cX7_at 12 = .ok (.iaload, 1) := by decide +kernel
theorem dX7_at_13 : decode cX7_at 13 = .ok (.goto 4, 3) := by decide +kernel
theorem dX7_at_16 : decode cX7_at 16 = .ok (.iconst 0, 1) := by decide +kernel
theorem dX7_at_17 : decode cX7_at 17 = .ok (.ireturn, 1) := by decide +kernel
theorem dX7_put_0 : decode cX7_put 0 = .ok (.iload_n 1, 1) := by decide +kernel
theorem dX7_put_1 : decode cX7_put 1 = .ok (.ifCond .lt 13, 3) := by decide +kernel
theorem dX7_put_4 : decode cX7_put 4 = .ok (.iload_n 1, 1) := by decide +kernel
theorem dX7_put_5 : decode cX7_put 5 = .ok (.aload_n 0, 1) := by decide +kernel
theorem dX7_put_6 : decode cX7_put 6 = .ok (.arraylength, 1) := by decide +kernel
theorem dX7_put_7 : decode cX7_put 7 = .ok (.if_icmp .ge 7, 3) := by decide +kernel
theorem dX7_put_10 : decode cX7_put 10 = .ok (.aload_n 0, 1) := by decide +kernel
theorem dX7_put_11 : decode cX7_put 11 = .ok (.iload_n 1, 1) := by decide +kernel
theorem dX7_put_12 : decode cX7_put 12 = .ok (.iload_n 2, 1) := by decide +kernel
theorem dX7_put_13 : decode cX7_put 13 = .ok (.iastore, 1) := by decide +kernel
theorem dX7_put_14 : decode cX7_put 14 = .ok (.return_, 1) := by decide +kernel
theorem dX7_has_0 : decode cX7_has 0 = .ok (.iload_n 1, 1) := by decide +kernel
theorem dX7_has_1 : decode cX7_has 1 = .ok (.ifCond .lt 22, 3) := by decide +kernel
theorem dX7_has_4 : decode cX7_has 4 = .ok (.iload_n 1, 1) := by decide +kernel
theorem dX7_has_5 : decode cX7_has 5 = .ok (.bipush 31, 2) := by decide +kernel
theorem dX7_has_7 : decode cX7_has 7 = .ok (.if_icmp .ge 16, 3) := by decide +kernel
theorem dX7_has_10 : decode cX7_has 10 = .ok (.iload_n 0, 1) := by decide +kernel
theorem dX7_has_11 : decode cX7_has 11 = .ok (.iload_n 1, 1) := by decide +kernel
theorem dX7_has_12 : decode cX7_has 12 = .ok (.ishr, 1) := by decide +kernel
theorem dX7_has_13 : decode cX7_has 13 = .ok (.iconst 1, 1) := by decide +kernel
theorem dX7_has_14 : decode cX7_has 14 = .ok (.iand, 1) := by decide +kernel
theorem dX7_has_15 : decode cX7_has 15 = .ok (.iconst 1, 1) := by decide +kernel
theorem dX7_has_16 : decode cX7_has 16 = .ok (.if_icmp .ne 7, 3) := by decide +kernel
theorem dX7_has_19 : decode cX7_has 19 = .ok (.iconst 1, 1) := by decide +kernel
theorem dX7_has_20 : decode cX7_has 20 = .ok (.goto 4, 3) := by decide +kernel
theorem dX7_has_23 : decode cX7_has 23 = .ok (.iconst 0, 1) := by decide +kernel
theorem dX7_has_24 : decode cX7_has 24 = .ok (.ireturn, 1) := by decide +kernel
theorem dX7_isBelief_0 : decode cX7_isBelief 0 = .ok (.iload_n 0, 1) := by decide +kernel
theorem dX7_isBelief_1 : decode cX7_isBelief 1 = .ok (.ifCond .lt 13, 3) := by decide +kernel
theorem dX7_isBelief_4 : decode cX7_isBelief 4 = .ok (.iload_n 0, 1) := by decide +kernel
theorem dX7_isBelief_5 : decode cX7_isBelief 5 = .ok (.bipush 20, 2) := by decide +kernel
theorem dX7_isBelief_7 : decode cX7_isBelief 7 = .ok (.if_icmp .gt 7, 3) := by decide +kernel
theorem dX7_isBelief_10 : decode cX7_isBelief 10 = .ok (.iconst 1, 1) := by decide +kernel
theorem dX7_isBelief_11 : decode cX7_isBelief 11 = .ok (.goto 4, 3) := by decide +kernel
theorem dX7_isBelief_14 : decode cX7_isBelief 14 = .ok (.iconst 0, 1) := by decide +kernel
theorem dX7_isBelief_15 : decode cX7_isBelief 15 = .ok (.ireturn, 1) := by decide +kernel
theorem dX7_behindMeeting_0 : decode cX7_behindMeeting 0 = .ok (.iconst 2, 1) := by decide +kernel
theorem dX7_behindMeeting_1 : decode cX7_behindMeeting 1 = .ok (.iload_n 0, 1) := by decide +kernel
theorem dX7_behindMeeting_2 : decode cX7_behindMeeting 2 = .ok (.imul, 1) := by decide +kernel
theorem dX7_behindMeeting_3 : decode cX7_behindMeeting 3 = .ok (.iload_n 1, 1) := by decide +kernel
theorem dX7_behindMeeting_4 : decode cX7_behindMeeting 4 = .ok (.iadd, 1) := by decide +kernel
theorem dX7_behindMeeting_5 : decode cX7_behindMeeting 5 = .ok (.iconst 3, 1) := by decide +kernel
theorem dX7_behindMeeting_6 : decode cX7_behindMeeting 6 = .ok (.idiv, 1) := by decide +kernel
theorem dX7_behindMeeting_7 : decode cX7_behindMeeting 7 = .ok (.ireturn, 1) := by decide +kernel
theorem dX7_wornMove_0 : decode cX7_wornMove 0 = .ok (.iconst 1, 1) := by decide +kernel
theorem dX7_wornMove_1 : decode cX7_wornMove 1 = .ok (.iload_n 1, 1) := by decide +kernel
theorem dX7_wornMove_2 : decode cX7_wornMove 2 = .ok (.iadd, 1) := by decide +kernel
theorem dX7_wornMove_3 : decode cX7_wornMove 3 = .ok (.istore_n 2, 1) := by decide +kernel
theorem dX7_wornMove_4 : decode cX7_wornMove 4 = .ok (.iload_n 2, 1) := by decide +kernel
theorem dX7_wornMove_5 : decode cX7_wornMove 5 = .ok (.ifCond .le 9, 3) := by decide +kernel
theorem dX7_wornMove_8 : decode cX7_wornMove 8 = .ok (.iload_n 0, 1) := by decide +kernel
theorem dX7_wornMove_9 : decode cX7_wornMove 9 = .ok (.iload_n 2, 1) := by decide +kernel
theorem dX7_wornMove_10 : decode cX7_wornMove 10 = .ok (.idiv, 1) := by decide +kernel
theorem dX7_wornMove_11 : decode cX7_wornMove 11 = .ok (.goto 4, 3) := by decide +kernel
theorem dX7_wornMove_14 : decode cX7_wornMove 14 = .ok (.iconst 0, 1) := by decide +kernel
theorem dX7_wornMove_15 : decode cX7_wornMove 15 = .ok (.ireturn, 1) := by decide +kernel
theorem dX7_mayBe_0 : decode cX7_mayBe 0 = .ok (.aload_n 0, 1) := by decide +kernel
theorem dX7_mayBe_1 : decode cX7_mayBe 1 = .ok (.getfield 19, 3) := by decide +kernel
theorem dX7_mayBe_4 : decode cX7_mayBe 4 = .ok (.getfield 116, 3) := by decide +kernel
theorem dX7_mayBe_7 : decode cX7_mayBe 7 = .ok (.ifCond .le 32, 3) := by decide +kernel
theorem dX7_mayBe_10 : decode cX7_mayBe 10 = .ok (.aload_n 0, 1) := by decide +kernel
theorem dX7_mayBe_11 : decode cX7_mayBe 11 = .ok (.getfield 19, 3) := by decide +kernel
theorem dX7_mayBe_14 : decode cX7_mayBe 14 = .ok (.iload_n 1, 1) := by decide +kernel
theorem dX7_mayBe_15 : decode cX7_mayBe 15 = .ok (.invokevirtual 232, 3) := by decide +kernel
theorem dX7_mayBe_18 : decode cX7_mayBe 18 = .ok (.ifCond .eq 21, 3) := by decide +kernel
theorem dX7_mayBe_21 : decode cX7_mayBe 21 = .ok (.iload_n 1, 1) := by decide +kernel
theorem dX7_mayBe_22 : decode cX7_mayBe 22 = .ok (.aload_n 0, 1) := by decide +kernel
theorem dX7_mayBe_23 : decode cX7_mayBe 23 = .ok (.getfield 29, 3) := by decide +kernel
theorem dX7_mayBe_26 : decode cX7_mayBe 26 = .ok (.getfield 131, 3) := by decide +kernel
theorem dX7_mayBe_29 : decode cX7_mayBe 29 = .ok (.iconst (-1), 1) := by decide +kernel
theorem dX7_mayBe_30 : decode cX7_mayBe 30 = .ok (.ixor, 1) := by decide +kernel
theorem dX7_mayBe_31 : decode cX7_mayBe 31 = .ok (.iand, 1) := by decide +kernel
theorem dX7_mayBe_32 : decode cX7_mayBe 32 = .ok (.ifCond .ne 7, 3) := by decide +kernel
theorem dX7_mayBe_35 : decode cX7_mayBe 35 = .ok (.iconst 1, 1) := by decide +kernel
theorem dX7_mayBe_36 : decode cX7_mayBe 36 = .ok (.goto 4, 3) := by decide +kernel
theorem dX7_mayBe_39 : decode cX7_mayBe 39 = .ok (.iconst 0, 1) := by decide +kernel
theorem dX7_mayBe_40 : decode cX7_mayBe 40 = .ok (.ireturn, 1) := by decide +kernel
theorem dX7_drawOf_0 : decode cX7_drawOf 0 = .ok (.aload_n 0, 1) := by decide +kernel
theorem dX7_drawOf_1 : decode cX7_drawOf 1 = .ok (.aload_n 0, 1) := by decide +kernel
theorem dX7_drawOf_2 : decode cX7_drawOf 2 = .ok (.getfield 70, 3) := by decide +kernel
theorem dX7_drawOf_5 : decode cX7_drawOf 5 = .ok (.i2l, 1) := by decide +kernel
theorem dX7_drawOf_6 : decode cX7_drawOf 6 = .ok (.ldc2_w 268, 3) := by decide +kernel
theorem dX7_drawOf_9 : decode cX7_drawOf 9 = .ok (.lmul, 1) := by decide +kernel
theorem dX7_drawOf_10 : decode cX7_drawOf 10 = .ok (.ldc2_w 270, 3) := by decide +kernel
theorem dX7_drawOf_13 : decode cX7_drawOf 13 = .ok (.ladd, 1) := by decide +kernel
theorem dX7_drawOf_14 : decode cX7_drawOf 14 = .ok (.ldc2_w 272, 3) := by decide +kernel
theorem dX7_drawOf_17 : decode cX7_drawOf 17 = .ok (.land, 1) := by decide +kernel
theorem dX7_drawOf_18 : decode cX7_drawOf 18 = .ok (.l2i, 1) := by decide +kernel
theorem dX7_drawOf_19 : decode cX7_drawOf 19 = .ok (.putfield 70, 3) := by decide +kernel
theorem dX7_drawOf_22 : decode cX7_drawOf 22 = .ok (.iload_n 1, 1) := by decide +kernel
theorem dX7_drawOf_23 : decode cX7_drawOf 23 = .ok (.ifCond .le 16, 3) := by decide +kernel
theorem dX7_drawOf_26 : decode cX7_drawOf 26 = .ok (.aload_n 0, 1) := by decide +kernel
theorem dX7_drawOf_27 : decode cX7_drawOf 27 = .ok (.getfield 70, 3) := by decide +kernel
theorem dX7_drawOf_30 : decode cX7_drawOf 30 = .ok (.ldc_w 274, 3) := by decide +kernel
theorem dX7_drawOf_33 : decode cX7_drawOf 33 = .ok (.idiv, 1) := by decide +kernel
theorem dX7_drawOf_34 : decode cX7_drawOf 34 = .ok (.iload_n 1, 1) := by decide +kernel
theorem dX7_drawOf_35 : decode cX7_drawOf 35 = .ok (.irem, 1) := by decide +kernel
theorem dX7_drawOf_36 : decode cX7_drawOf 36 = .ok (.goto 4, 3) := by decide +kernel
theorem dX7_drawOf_39 : decode cX7_drawOf 39 = .ok (.iconst 0, 1) := by decide +kernel
theorem dX7_drawOf_40 : decode cX7_drawOf 40 = .ok (.ireturn, 1) := by decide +kernel
theorem dX7_drawnSheet_0 : decode cX7_drawnSheet 0 = .ok (.iconst 0, 1) := by decide +kernel
theorem dX7_drawnSheet_1 : decode cX7_drawnSheet 1 = .ok (.istore_n 1, 1) := by decide +kernel
theorem dX7_drawnSheet_2 : decode cX7_drawnSheet 2 = .ok (.iconst 0, 1) := by decide +kernel
theorem dX7_drawnSheet_3 : decode cX7_drawnSheet 3 = .ok (.istore_n 2, 1) := by decide +kernel
theorem dX7_drawnSheet_4 : decode cX7_drawnSheet 4 = .ok (.iconst 0, 1) := by decide +kernel
theorem dX7_drawnSheet_5 : decode cX7_drawnSheet 5 = .ok (.istore_n 3, 1) := by decide +kernel
theorem dX7_drawnSheet_6 : decode cX7_drawnSheet 6 = .ok (.iload_n 3, 1) := by decide +kernel
theorem dX7_drawnSheet_7 : decode cX7_drawnSheet 7 = .ok (.aload_n 0, 1) := by decide +kernel
theorem dX7_drawnSheet_8 : decode cX7_drawnSheet 8 = .ok (.getfield 19, 3) := by decide +kernel
theorem dX7_drawnSheet_11 : decode cX7_drawnSheet 11 = .ok (.getfield 107, 3) := by decide +kernel
theorem dX7_drawnSheet_14 : decode cX7_drawnSheet 14 = .ok (.if_icmp .ge 51, 3) := by decide +kernel
theorem dX7_drawnSheet_17 : decode cX7_drawnSheet 17 = .ok (.aload_n 0, 1) := by decide +kernel
theorem dX7_drawnSheet_18 : decode cX7_drawnSheet 18 = .ok (.getfield 29, 3) := by decide +kernel
theorem dX7_drawnSheet_21 : decode cX7_drawnSheet 21 = .ok (.getfield 131, 3) := by decide +kernel
theorem dX7_drawnSheet_24 : decode cX7_drawnSheet 24 = .ok (.iload_n 3, 1) := by decide +kernel
theorem dX7_drawnSheet_25 : decode cX7_drawnSheet 25 = .ok (.invokestatic 168, 3) := by decide +kernel
theorem dX7_drawnSheet_28 : decode cX7_drawnSheet 28 = .ok (.ifCond .eq 31, 3) := by decide +kernel
theorem dX7_drawnSheet_31 : decode cX7_drawnSheet 31 = .ok (.iload_n 2, 1) := by decide +kernel
theorem dX7_drawnSheet_32 : decode cX7_drawnSheet 32 = .ok (.aload_n 0, 1) := by decide +kernel
theorem dX7_drawnSheet_33 : decode cX7_drawnSheet 33 = .ok (.getfield 19, 3) := by decide +kernel
theorem dX7_drawnSheet_36 : decode cX7_drawnSheet 36 = .ok (.getfield 113, 3) := by decide +kernel
theorem dX7_drawnSheet_39 : decode cX7_drawnSheet 39 = .ok (.if_icmp .ge 20, 3) := by decide +kernel
theorem dX7_drawnSheet_42 : decode cX7_drawnSheet 42 = .ok (.aload_n 0, 1) := by decide +kernel
theorem dX7_drawnSheet_43 : decode cX7_drawnSheet 43 = .ok (.iconst 3, 1) := by decide +kernel
theorem dX7_drawnSheet_44 : decode cX7_drawnSheet 44 = .ok (.invokevirtual 275, 3) := by decide +kernel
theorem dX7_drawnSheet_47 : decode cX7_drawnSheet 47 = .ok (.ifCond .ne 12, 3) := by decide +kernel
theorem dX7_drawnSheet_50 : decode cX7_drawnSheet 50 = .ok (.iload_n 1, 1) := by decide +kernel
theorem dX7_drawnSheet_51 : decode cX7_drawnSheet 51 = .ok (.iconst 1, 1) := by decide +kernel
theorem dX7_drawnSheet_52 : decode cX7_drawnSheet 52 = .ok (.iload_n 3, 1) := by decide +kernel
theorem dX7_drawnSheet_53 : decode cX7_drawnSheet 53 = .ok (.ishl, 1) := by decide +kernel
theorem dX7_drawnSheet_54 : decode cX7_drawnSheet 54 = .ok (.ior, 1) := by decide +kernel
theorem dX7_drawnSheet_55 : decode cX7_drawnSheet 55 = .ok (.istore_n 1, 1) := by decide +kernel
theorem dX7_drawnSheet_56 : decode cX7_drawnSheet 56 = .ok (.iinc 2 1, 3) := by decide +kernel
theorem dX7_drawnSheet_59 : decode cX7_drawnSheet 59 = .ok (.iinc 3 1, 3) := by decide +kernel
theorem dX7_drawnSheet_62 : decode cX7_drawnSheet 62 = .ok (.goto (-56), 3) := by decide +kernel
theorem dX7_drawnSheet_65 : decode cX7_drawnSheet 65 = .ok (.iload_n 1, 1) := by decide +kernel
theorem dX7_drawnSheet_66 : decode cX7_drawnSheet 66 = .ok (.ireturn, 1) := by decide +kernel
theorem dX7_noteIn_0 : decode cX7_noteIn 0 = .ok (.aload_n 0, 1) := by decide +kernel
theorem dX7_noteIn_1 : decode cX7_noteIn 1 = .ok (.getfield 19, 3) := by decide +kernel
theorem dX7_noteIn_4 : decode cX7_noteIn 4 = .ok (.iload_n 2, 1) := by decide +kernel
theorem dX7_noteIn_5 : decode cX7_noteIn 5 = .ok (.invokevirtual 139, 3) := by decide +kernel
theorem dX7_noteIn_8 : decode cX7_noteIn 8 = .ok (.ifCond .ne 6, 3) := by decide +kernel
theorem dX7_noteIn_11 : decode cX7_noteIn 11 = .ok (.ldc 149, 2) := by decide +kernel
theorem dX7_noteIn_13 : decode cX7_noteIn 13 = .ok (.ireturn, 1) := by decide +kernel
theorem dX7_noteIn_14 : decode cX7_noteIn 14 = .ok (.iload_n 3, 1) := by decide +kernel
theorem dX7_noteIn_15 : decode cX7_noteIn 15 = .ok (.invokestatic 191, 3) := by decide +kernel
theorem dX7_noteIn_18 : decode cX7_noteIn 18 = .ok (.ifCond .ne 6, 3) := by decide +kernel
theorem dX7_noteIn_21 : decode cX7_noteIn 21 = .ok (.ldc 83, 2) := by decide +kernel
theorem dX7_noteIn_23 : decode cX7_noteIn 23 = .ok (.ireturn, 1) := by decide +kernel
theorem dX7_noteIn_24 : decode cX7_noteIn 24 = .ok (.aload_n 1, 1) := by decide +kernel
theorem dX7_noteIn_25 : decode cX7_noteIn 25 = .ok (.iload_n 2, 1) := by decide +kernel
theorem dX7_noteIn_26 : decode cX7_noteIn 26 = .ok (.iload_n 3, 1) := by decide +kernel
theorem dX7_noteIn_27 : decode cX7_noteIn 27 = .ok (.invokevirtual 278, 3) := by decide +kernel
theorem dX7_noteIn_30 : decode cX7_noteIn 30 = .ok (.ifCond .eq 10, 3) := by decide +kernel
theorem dX7_noteIn_33 : decode cX7_noteIn 33 = .ok (.aload_n 1, 1) := by decide +kernel
theorem dX7_noteIn_34 : decode cX7_noteIn 34 = .ok (.getfield 137, 3) := by decide +kernel
theorem dX7_noteIn_37 : decode cX7_noteIn 37 = .ok (.goto 5, 3) := by decide +kernel
theorem dX7_noteIn_40 : decode cX7_noteIn 40 = .ok (.ldc 91, 2) := by decide +kernel
theorem dX7_noteIn_42 : decode cX7_noteIn 42 = .ok (.ireturn, 1) := by decide +kernel
theorem dX7_thoughtBehind_0 : decode cX7_thoughtBehind 0 = .ok (.aload_n 0, 1) := by decide +kernel
theorem dX7_thoughtBehind_1 : decode cX7_thoughtBehind 1 = .ok (.getfield 33, 3) := by decide +kernel
theorem dX7_thoughtBehind_4 : decode cX7_thoughtBehind 4 = .ok (.aload_n 0, 1) := by decide +kernel
theorem dX7_thoughtBehind_5 : decode cX7_thoughtBehind 5 = .ok (.getfield 29, 3) := by decide +kernel
theorem dX7_thoughtBehind_8 : decode cX7_thoughtBehind 8 = .ok (.invokevirtual 210, 3) := by decide +kernel
theorem dX7_thoughtBehind_11 : decode cX7_thoughtBehind 11 = .ok (.aload_n 0, 1) := by decide +kernel
theorem dX7_thoughtBehind_12 : decode cX7_thoughtBehind 12 = .ok (.getfield 33, 3) := by decide +kernel
theorem dX7_thoughtBehind_15 : decode cX7_thoughtBehind 15 = .ok (.aload_n 1, 1) := by decide +kernel
theorem dX7_thoughtBehind_16 : decode cX7_thoughtBehind 16 = .ok (.iload_n 2, 1) := by decide +kernel
theorem dX7_thoughtBehind_17 : decode cX7_thoughtBehind 17 = .ok (.invokevirtual 187, 3) := by decide +kernel
theorem dX7_thoughtBehind_20 : decode cX7_thoughtBehind 20 = .ok (.aload_n 0, 1) := by decide +kernel
theorem dX7_thoughtBehind_21 : decode cX7_thoughtBehind 21 = .ok (.getfield 76, 3) := by decide +kernel
theorem dX7_thoughtBehind_24 : decode cX7_thoughtBehind 24 = .ok (.aload_n 0, 1) := by decide +kernel
theorem dX7_thoughtBehind_25 : decode cX7_thoughtBehind 25 = .ok (.getfield 33, 3) := by decide +kernel
theorem dX7_thoughtBehind_28 : decode cX7_thoughtBehind 28 = .ok (.invokevirtual 257, 3) := by decide +kernel
theorem dX7_thoughtBehind_31 : decode cX7_thoughtBehind 31 = .ok (.iconst (-1), 1) := by decide +kernel
theorem dX7_thoughtBehind_32 : decode cX7_thoughtBehind 32 = .ok (.if_icmp .ne 7, 3) := by decide +kernel
theorem dX7_thoughtBehind_35 : decode cX7_thoughtBehind 35 = .ok (.iconst 1, 1) := by decide +kernel
theorem dX7_thoughtBehind_36 : decode cX7_thoughtBehind 36 = .ok (.goto 4, 3) := by decide +kernel
theorem dX7_thoughtBehind_39 : decode cX7_thoughtBehind 39 = .ok (.iconst 0, 1) := by decide +kernel
theorem dX7_thoughtBehind_40 : decode cX7_thoughtBehind 40 = .ok (.ireturn, 1) := by decide +kernel
theorem dX7_convincesOf_0 : decode cX7_convincesOf 0 = .ok (.aload_n 0, 1) := by decide +kernel
theorem dX7_convincesOf_1 : decode cX7_convincesOf 1 = .ok (.getfield 33, 3) := by decide +kernel
theorem dX7_convincesOf_4 : decode cX7_convincesOf 4 = .ok (.aload_n 0, 1) := by decide +kernel
theorem dX7_convincesOf_5 : decode cX7_convincesOf 5 = .ok (.getfield 29, 3) := by decide +kernel
theorem dX7_convincesOf_8 : decode cX7_convincesOf 8 = .ok (.invokevirtual 210, 3) := by decide +kernel
theorem dX7_convincesOf_11 : decode cX7_convincesOf 11 = .ok (.aload_n 0, 1) := by decide +kernel
theorem dX7_convincesOf_12 : decode cX7_convincesOf 12 = .ok (.getfield 33, 3) := by decide +kernel
theorem dX7_convincesOf_15 : decode cX7_convincesOf 15 = .ok (.aload_n 0, 1) := by decide +kernel
theorem dX7_convincesOf_16 : decode cX7_convincesOf 16 = .ok (.getfield 19, 3) := by decide +kernel
theorem dX7_convincesOf_19 : decode cX7_convincesOf 19 = .ok (.iload_n 1, 1) := by decide +kernel
theorem dX7_convincesOf_20 : decode cX7_convincesOf 20 = .ok (.invokevirtual 187, 3) := by decide +kernel
theorem dX7_convincesOf_23 : decode cX7_convincesOf 23 = .ok (.aload_n 0, 1) := by decide +kernel
theorem dX7_convincesOf_24 : decode cX7_convincesOf 24 = .ok (.getfield 33, 3) := by decide +kernel
theorem dX7_convincesOf_27 : decode cX7_convincesOf 27 = .ok (.aload_n 0, 1) := by decide +kernel
theorem dX7_convincesOf_28 : decode cX7_convincesOf 28 = .ok (.getfield 19, 3) := by decide +kernel
theorem dX7_convincesOf_31 : decode cX7_convincesOf 31 = .ok (.invokevirtual 128, 3) := by decide +kernel
theorem dX7_convincesOf_34 : decode cX7_convincesOf 34 = .ok (.iload_n 2, 1) := by decide +kernel
theorem dX7_convincesOf_35 : decode cX7_convincesOf 35 = .ok (.invokestatic 168, 3) := by decide +kernel
theorem dX7_convincesOf_38 : decode cX7_convincesOf 38 = .ok (.ireturn, 1) := by decide +kernel
theorem dX7_reachedBehind_0 : decode cX7_reachedBehind 0 = .ok (.aload_n 0, 1) := by decide +kernel
theorem dX7_reachedBehind_1 : decode cX7_reachedBehind 1 = .ok (.getfield 33, 3) := by decide +kernel
theorem dX7_reachedBehind_4 : decode cX7_reachedBehind 4 = .ok (.aload_n 0, 1) := by decide +kernel
theorem dX7_reachedBehind_5 : decode cX7_reachedBehind 5 = .ok (.getfield 29, 3) := by decide +kernel
theorem dX7_reachedBehind_8 : decode cX7_reachedBehind 8 = .ok (.invokevirtual 210, 3) := by decide +kernel
theorem dX7_reachedBehind_11 : decode cX7_reachedBehind 11 = .ok (.aload_n 0, 1) := by decide +kernel
theorem dX7_reachedBehind_12 : decode cX7_reachedBehind 12 = .ok (.getfield 33, 3) := by decide +kernel
theorem dX7_reachedBehind_15 : decode cX7_reachedBehind 15 = .ok (.aload_n 0, 1) := by decide +kernel
theorem dX7_reachedBehind_16 : decode cX7_reachedBehind 16 = .ok (.getfield 19, 3) := by decide +kernel
theorem dX7_reachedBehind_19 : decode cX7_reachedBehind 19 = .ok (.iload_n 1, 1) := by decide +kernel
theorem dX7_reachedBehind_20 : decode cX7_reachedBehind 20 = .ok (.invokevirtual 187, 3) := by decide +kernel
theorem dX7_reachedBehind_23 : decode cX7_reachedBehind 23 = .ok (.aload_n 0, 1) := by decide +kernel
theorem dX7_reachedBehind_24 : decode cX7_reachedBehind 24 = .ok (.getfield 33, 3) := by decide +kernel
theorem dX7_reachedBehind_27 : decode cX7_reachedBehind 27 = .ok (.aload_n 0, 1) := by decide +kernel
theorem dX7_reachedBehind_28 : decode cX7_reachedBehind 28 = .ok (.getfield 19, 3) := by decide +kernel
theorem dX7_reachedBehind_31 : decode cX7_reachedBehind 31 = .ok (.invokevirtual 128, 3) := by decide +kernel
theorem dX7_reachedBehind_34 : decode cX7_reachedBehind 34 = .ok (.istore_n 2, 1) := by decide +kernel
theorem dX7_reachedBehind_35 : decode cX7_reachedBehind 35 = .ok (.iconst 0, 1) := by decide +kernel
theorem dX7_reachedBehind_36 : decode cX7_reachedBehind 36 = .ok (.istore_n 3, 1) := by decide +kernel
theorem dX7_reachedBehind_37 : decode cX7_reachedBehind 37 = .ok (.iload_n 3, 1) := by decide +kernel
theorem dX7_reachedBehind_38 : decode cX7_reachedBehind 38 = .ok (.iconst 1, 1) := by decide +kernel
theorem dX7_reachedBehind_39 : decode cX7_reachedBehind 39 = .ok (.aload_n 0, 1) := by decide +kernel
theorem dX7_reachedBehind_40 : decode cX7_reachedBehind 40 = .ok (.getfield 19, 3) := by decide +kernel
theorem dX7_reachedBehind_43 : decode cX7_reachedBehind 43 = .ok (.getfield 107, 3) := by decide +kernel
theorem dX7_reachedBehind_46 : decode cX7_reachedBehind 46 = .ok (.ishl, 1) := by decide +kernel
theorem dX7_reachedBehind_47 : decode cX7_reachedBehind 47 = .ok (.if_icmp .ge 54, 3) := by decide +kernel
theorem dX7_reachedBehind_50 : decode cX7_reachedBehind 50 = .ok (.aload_n 0, 1) := by decide +kernel
theorem dX7_reachedBehind_51 : decode cX7_reachedBehind 51 = .ok (.iload_n 3, 1) := by decide +kernel
theorem dX7_reachedBehind_52 : decode cX7_reachedBehind 52 = .ok (.invokevirtual 178, 3) := by decide +kernel
theorem dX7_reachedBehind_55 : decode cX7_reachedBehind 55 = .ok (.ifCond .eq 40, 3) := by decide +kernel
theorem dX7_reachedBehind_58 : decode cX7_reachedBehind 58 = .ok (.aload_n 0, 1) := by decide +kernel
theorem dX7_reachedBehind_59 : decode cX7_reachedBehind 59 = .ok (.getfield 36, 3) := by decide +kernel
theorem dX7_reachedBehind_62 : decode cX7_reachedBehind 62 = .ok (.aload_n 0, 1) := by decide +kernel
theorem dX7_reachedBehind_63 : decode cX7_reachedBehind 63 = .ok (.getfield 33, 3) := by decide +kernel
theorem dX7_reachedBehind_66 : decode cX7_reachedBehind 66 = .ok (.invokevirtual 210, 3) := by decide +kernel
theorem dX7_reachedBehind_69 : decode cX7_reachedBehind 69 = .ok (.aload_n 0, 1) := by decide +kernel
theorem dX7_reachedBehind_70 : decode cX7_reachedBehind 70 = .ok (.getfield 36, 3) := by decide +kernel
theorem dX7_reachedBehind_73 : decode cX7_reachedBehind 73 = .ok (.aload_n 0, 1) := by decide +kernel
theorem dX7_reachedBehind_74 : decode cX7_reachedBehind 74 = .ok (.getfield 19, 3) := by decide +kernel
theorem dX7_reachedBehind_77 : decode cX7_reachedBehind 77 = .ok (.iload_n 3, 1) := by decide +kernel
theorem dX7_reachedBehind_78 : decode cX7_reachedBehind 78 = .ok (.invokevirtual 187, 3) := by decide +kernel
theorem dX7_reachedBehind_81 : decode cX7_reachedBehind 81 = .ok (.iload_n 2, 1) := by decide +kernel
theorem dX7_reachedBehind_82 : decode cX7_reachedBehind 82 = .ok (.aload_n 0, 1) := by decide +kernel
theorem dX7_reachedBehind_83 : decode cX7_reachedBehind 83 = .ok (.getfield 36, 3) := by decide +kernel
theorem dX7_reachedBehind_86 : decode cX7_reachedBehind 86 = .ok (.aload_n 0, 1) := by decide +kernel
theorem dX7_reachedBehind_87 : decode cX7_reachedBehind 87 = .ok (.getfield 19, 3) := by decide +kernel
theorem dX7_reachedBehind_90 : decode cX7_reachedBehind 90 = .ok (.invokevirtual 128, 3) := by decide +kernel
theorem dX7_reachedBehind_93 : decode cX7_reachedBehind 93 = .ok (.ior, 1) := by decide +kernel
theorem dX7_reachedBehind_94 : decode cX7_reachedBehind 94 = .ok (.istore_n 2, 1) := by decide +kernel
theorem dX7_reachedBehind_95 : decode cX7_reachedBehind 95 = .ok (.iinc 3 1, 3) := by decide +kernel
theorem dX7_reachedBehind_98 : decode cX7_reachedBehind 98 = .ok (.goto (-61), 3) := by decide +kernel
theorem dX7_reachedBehind_101 : decode cX7_reachedBehind 101 = .ok (.iload_n 2, 1) := by decide +kernel
theorem dX7_reachedBehind_102 : decode cX7_reachedBehind 102 = .ok (.ireturn, 1) := by decide +kernel
theorem dX7_findSoonest_0 : decode cX7_findSoonest 0 = .ok (.aload_n 0, 1) := by decide +kernel
theorem dX7_findSoonest_1 : decode cX7_findSoonest 1 = .ok (.getfield 29, 3) := by decide +kernel
theorem dX7_findSoonest_4 : decode cX7_findSoonest 4 = .ok (.aload_n 0, 1) := by decide +kernel
theorem dX7_findSoonest_5 : decode cX7_findSoonest 5 = .ok (.getfield 19, 3) := by decide +kernel
theorem dX7_findSoonest_8 : decode cX7_findSoonest 8 = .ok (.iload_n 1, 1) := by decide +kernel
theorem dX7_findSoonest_9 : decode cX7_findSoonest 9 = .ok (.iload_n 2, 1) := by decide +kernel
theorem dX7_findSoonest_10 : decode cX7_findSoonest 10 = .ok (.invokevirtual 280, 3) := by decide +kernel
theorem dX7_findSoonest_13 : decode cX7_findSoonest 13 = .ok (.ifCond .eq 15, 3) := by decide +kernel
theorem dX7_findSoonest_16 : decode cX7_findSoonest 16 = .ok (.aload_n 0, 1) := by decide +kernel
theorem dX7_findSoonest_17 : decode cX7_findSoonest 17 = .ok (.getfield 42, 3) := by decide +kernel
theorem dX7_findSoonest_20 : decode cX7_findSoonest 20 = .ok (.iconst 0, 1) := by decide +kernel
theorem dX7_findSoonest_21 : decode cX7_findSoonest 21 = .ok (.iconst (-1), 1) := by decide +kernel
theorem dX7_findSoonest_22 : decode cX7_findSoonest 22 = .ok (.iconst (-1), 1) := by decide +kernel
theorem dX7_findSoonest_23 : decode cX7_findSoonest 23 = .ok (.invokevirtual 284, 3) := by decide +kernel
theorem dX7_findSoonest_26 : decode cX7_findSoonest 26 = .ok (.iconst 1, 1) := by decide +kernel
theorem dX7_findSoonest_27 : decode cX7_findSoonest 27 = .ok (.ireturn, 1) := by decide +kernel
theorem dX7_findSoonest_28 : decode cX7_findSoonest 28 = .ok (.aload_n 0, 1) := by decide +kernel
theorem dX7_findSoonest_29 : decode cX7_findSoonest 29 = .ok (.aload_n 0, 1) := by decide +kernel
theorem dX7_findSoonest_30 : decode cX7_findSoonest 30 = .ok (.getfield 29, 3) := by decide +kernel
theorem dX7_findSoonest_33 : decode cX7_findSoonest 33 = .ok (.aload_n 0, 1) := by decide +kernel
theorem dX7_findSoonest_34 : decode cX7_findSoonest 34 = .ok (.getfield 33, 3) := by decide +kernel
theorem dX7_findSoonest_37 : decode cX7_findSoonest 37 = .ok (.iload_n 1, 1) := by decide +kernel
theorem dX7_findSoonest_38 : decode cX7_findSoonest 38 = .ok (.iload_n 2, 1) := by decide +kernel
theorem dX7_findSoonest_39 : decode cX7_findSoonest 39 = .ok (.iconst (-1), 1) := by decide +kernel
theorem dX7_findSoonest_40 : decode cX7_findSoonest 40 = .ok (.invokevirtual 288, 3) := by decide +kernel
theorem dX7_findSoonest_43 : decode cX7_findSoonest 43 = .ok (.ifCond .ne 12, 3) := by decide +kernel
theorem dX7_findSoonest_46 : decode cX7_findSoonest 46 = .ok (.aload_n 0, 1) := by decide +kernel
theorem dX7_findSoonest_47 : decode cX7_findSoonest 47 = .ok (.iload_n 1, 1) := by decide +kernel
theorem dX7_findSoonest_48 : decode cX7_findSoonest 48 = .ok (.iload_n 2, 1) := by decide +kernel
theorem dX7_findSoonest_49 : decode cX7_findSoonest 49 = .ok (.invokevirtual 292, 3) := by decide +kernel
theorem dX7_findSoonest_52 : decode cX7_findSoonest 52 = .ok (.ifCond .eq 7, 3) := by decide +kernel
theorem dX7_findSoonest_55 : decode cX7_findSoonest 55 = .ok (.iconst 1, 1) := by decide +kernel
theorem dX7_findSoonest_56 : decode cX7_findSoonest 56 = .ok (.goto 4, 3) := by decide +kernel
theorem dX7_findSoonest_59 : decode cX7_findSoonest 59 = .ok (.iconst 0, 1) := by decide +kernel
theorem dX7_findSoonest_60 : decode cX7_findSoonest 60 = .ok (.ireturn, 1) := by decide +kernel
theorem dX7_findOneNight_0 : decode cX7_findOneNight 0 = .ok (.iconst 0, 1) := by decide +kernel
theorem dX7_findOneNight_1 : decode cX7_findOneNight 1 = .ok (.istore 6, 2) := by decide +kernel
theorem dX7_findOneNight_3 : decode cX7_findOneNight 3 = .ok (.iload 6, 2) := by decide +kernel
theorem dX7_findOneNight_5 : decode cX7_findOneNight 5 = .ok (.iconst 1, 1) := by decide +kernel
theorem dX7_findOneNight_6 : decode cX7_findOneNight 6 = .ok (.aload_n 0, 1) := by decide +kernel
theorem dX7_findOneNight_7 : decode cX7_findOneNight 7 = .ok (.getfield 19, 3) := by decide +kernel
theorem dX7_findOneNight_10 : decode cX7_findOneNight 10 = .ok (.getfield 107, 3) := by decide +kernel
theorem dX7_findOneNight_13 : decode cX7_findOneNight 13 = .ok (.ishl, 1) := by decide +kernel
theorem dX7_findOneNight_14 : decode cX7_findOneNight 14 = .ok (.if_icmp .ge 82, 3) := by decide +kernel
theorem dX7_findOneNight_17 : decode cX7_findOneNight 17 = .ok (.aload_n 0, 1) := by decide +kernel
theorem dX7_findOneNight_18 : decode cX7_findOneNight 18 = .ok (.iload 6, 2) := by decide +kernel
theorem dX7_findOneNight_20 : decode cX7_findOneNight 20 = .ok (.invokevirtual 178, 3) := by decide +kernel
theorem dX7_findOneNight_23 : decode cX7_findOneNight 23 = .ok (.ifCond .eq 67, 3) := by decide +kernel
theorem dX7_findOneNight_26 : decode cX7_findOneNight 26 = .ok (.aload_n 2, 1) := by decide +kernel
theorem dX7_findOneNight_27 : decode cX7_findOneNight 27 = .ok (.aload_n 1, 1) := by decide +kernel
theorem dX7_findOneNight_28 : decode cX7_findOneNight 28 = .ok (.invokevirtual 210, 3) := by decide +kernel
theorem dX7_findOneNight_31 : decode cX7_findOneNight 31 = .ok (.aload_n 2, 1) := by decide +kernel
theorem dX7_findOneNight_32 : decode cX7_findOneNight 32 = .ok (.aload_n 0, 1) := by decide +kernel
theorem dX7_findOneNight_33 : decode cX7_findOneNight 33 = .ok (.getfield 19, 3) := by decide +kernel
theorem dX7_findOneNight_36 : decode cX7_findOneNight 36 = .ok (.iload 6, 2) := by decide +kernel
theorem dX7_findOneNight_38 : decode cX7_findOneNight 38 = .ok (.invokevirtual 187, 3) := by decide +kernel
theorem dX7_findOneNight_41 : decode cX7_findOneNight 41 = .ok (.aload_n 2, 1) := by decide +kernel
theorem dX7_findOneNight_42 : decode cX7_findOneNight 42 = .ok (.aload_n 0, 1) := by decide +kernel
theorem dX7_findOneNight_43 : decode cX7_findOneNight 43 = .ok (.getfield 19, 3) := by decide +kernel
theorem dX7_findOneNight_46 : decode cX7_findOneNight 46 = .ok (.iload_n 3, 1) := by decide +kernel
theorem dX7_findOneNight_47 : decode cX7_findOneNight 47 = .ok (.iload 4, 2) := by decide +kernel
theorem dX7_findOneNight_49 : decode cX7_findOneNight 49 = .ok (.invokevirtual 280, 3) := by decide +kernel
theorem dX7_findOneNight_52 : decode cX7_findOneNight 52 = .ok (.ifCond .eq 38, 3) := by decide +kernel
theorem dX7_findOneNight_55 : decode cX7_findOneNight 55 = .ok (.aload_n 0, 1) := by decide +kernel
theorem dX7_findOneNight_56 : decode cX7_findOneNight 56 = .ok (.getfield 42, 3) := by decide +kernel
theorem dX7_findOneNight_59 : decode cX7_findOneNight 59 = .ok (.iload 5, 2) := by decide +kernel
theorem dX7_findOneNight_61 : decode cX7_findOneNight 61 = .ok (.iconst (-1), 1) := by decide +kernel
theorem dX7_findOneNight_62 : decode cX7_findOneNight 62 = .ok (.if_icmp .ne 7, 3) := by decide +kernel
theorem dX7_findOneNight_65 : decode cX7_findOneNight 65 = .ok (.iconst 1, 1) := by decide +kernel
theorem dX7_findOneNight_66 : decode cX7_findOneNight 66 = .ok (.goto 4, 3) := by decide +kernel
theorem dX7_findOneNight_69 : decode cX7_findOneNight 69 = .ok (.iconst 2, 1) := by decide +kernel
theorem dX7_findOneNight_70 : decode cX7_findOneNight 70 = .ok (.iload 5, 2) := by decide +kernel
theorem dX7_findOneNight_72 : decode cX7_findOneNight 72 = .ok (.iconst (-1), 1) := by decide +kernel
theorem dX7_findOneNight_73 : decode cX7_findOneNight 73 = .ok (.if_icmp .ne 8, 3) := by decide +kernel
theorem dX7_findOneNight_76 : decode cX7_findOneNight 76 = .ok (.iload 6, 2) := by decide +kernel
theorem dX7_findOneNight_78 : decode cX7_findOneNight 78 = .ok (.goto 5, 3) := by decide +kernel
theorem dX7_findOneNight_81 : decode cX7_findOneNight 81 = .ok (.iload 5, 2) := by decide +kernel
theorem dX7_findOneNight_83 : decode cX7_findOneNight 83 = .ok (.iload 6, 2) := by decide +kernel
theorem dX7_findOneNight_85 : decode cX7_findOneNight 85 = .ok (.invokevirtual 284, 3) := by decide +kernel
theorem dX7_findOneNight_88 : decode cX7_findOneNight 88 = .ok (.iconst 1, 1) := by decide +kernel
theorem dX7_findOneNight_89 : decode cX7_findOneNight 89 = .ok (.ireturn, 1) := by decide +kernel
theorem dX7_findOneNight_90 : decode cX7_findOneNight 90 = .ok (.iinc 6 1, 3) := by decide +kernel
theorem dX7_findOneNight_93 : decode cX7_findOneNight 93 = .ok (.goto (-90), 3) := by decide +kernel
theorem dX7_findOneNight_96 : decode cX7_findOneNight 96 = .ok (.iconst 0, 1) := by decide +kernel
theorem dX7_findOneNight_97 : decode cX7_findOneNight 97 = .ok (.ireturn, 1) := by decide +kernel
theorem dX7_findTwoNights_0 : decode cX7_findTwoNights 0 = .ok (.iconst 0, 1) := by decide +kernel
theorem dX7_findTwoNights_1 : decode cX7_findTwoNights 1 = .ok (.istore_n 3, 1) := by decide +kernel
theorem dX7_findTwoNights_2 : decode cX7_findTwoNights 2 = .ok (.iload_n 3, 1) := by decide +kernel
theorem dX7_findTwoNights_3 : decode cX7_findTwoNights 3 = .ok (.iconst 1, 1) := by decide +kernel
theorem dX7_findTwoNights_4 : decode cX7_findTwoNights 4 = .ok (.aload_n 0, 1) := by decide +kernel
theorem dX7_findTwoNights_5 : decode cX7_findTwoNights 5 = .ok (.getfield 19, 3) := by decide +kernel
theorem dX7_findTwoNights_8 : decode cX7_findTwoNights 8 = .ok (.getfield 107, 3) := by decide +kernel
theorem dX7_findTwoNights_11 : decode cX7_findTwoNights 11 = .ok (.ishl, 1) := by decide +kernel
theorem dX7_findTwoNights_12 : decode cX7_findTwoNights 12 = .ok (.if_icmp .ge 60, 3) := by decide +kernel
theorem dX7_findTwoNights_15 : decode cX7_findTwoNights 15 = .ok (.aload_n 0, 1) := by decide +kernel
theorem dX7_findTwoNights_16 : decode cX7_findTwoNights 16 = .ok (.iload_n 3, 1) := by decide +kernel
theorem dX7_findTwoNights_17 : decode cX7_findTwoNights 17 = .ok (.invokevirtual 178, 3) := by decide +kernel
theorem dX7_findTwoNights_20 : decode cX7_findTwoNights 20 = .ok (.ifCond .eq 46, 3) := by decide +kernel
theorem dX7_findTwoNights_23 : decode cX7_findTwoNights 23 = .ok (.aload_n 0, 1) := by decide +kernel
theorem dX7_findTwoNights_24 : decode cX7_findTwoNights 24 = .ok (.getfield 33, 3) := by decide +kernel
theorem dX7_findTwoNights_27 : decode cX7_findTwoNights 27 = .ok (.aload_n 0, 1) := by decide +kernel
theorem dX7_findTwoNights_28 : decode cX7_findTwoNights 28 = .ok (.getfield 29, 3) := by decide +kernel
theorem dX7_findTwoNights_31 : decode cX7_findTwoNights 31 = .ok (.invokevirtual 210, 3) := by decide +kernel
theorem dX7_findTwoNights_34 : decode cX7_findTwoNights 34 = .ok (.aload_n 0, 1) := by decide +kernel
theorem dX7_findTwoNights_35 : decode cX7_findTwoNights 35 = .ok (.getfield 33, 3) := by decide +kernel
theorem dX7_findTwoNights_38 : decode cX7_findTwoNights 38 = .ok (.aload_n 0, 1) := by decide +kernel
theorem dX7_findTwoNights_39 : decode cX7_findTwoNights 39 = .ok (.getfield 19, 3) := by decide +kernel
theorem dX7_findTwoNights_42 : decode cX7_findTwoNights 42 = .ok (.iload_n 3, 1) := by decide +kernel
theorem dX7_findTwoNights_43 : decode cX7_findTwoNights 43 = .ok (.invokevirtual 187, 3) := by decide +kernel
theorem dX7_findTwoNights_46 : decode cX7_findTwoNights 46 = .ok (.aload_n 0, 1) := by decide +kernel
theorem dX7_findTwoNights_47 : decode cX7_findTwoNights 47 = .ok (.aload_n 0, 1) := by decide +kernel
theorem dX7_findTwoNights_48 : decode cX7_findTwoNights 48 = .ok (.getfield 33, 3) := by decide +kernel
theorem dX7_findTwoNights_51 : decode cX7_findTwoNights 51 = .ok (.aload_n 0, 1) := by decide +kernel
theorem dX7_findTwoNights_52 : decode cX7_findTwoNights 52 = .ok (.getfield 36, 3) := by decide +kernel
theorem dX7_findTwoNights_55 : decode cX7_findTwoNights 55 = .ok (.iload_n 1, 1) := by decide +kernel
theorem dX7_findTwoNights_56 : decode cX7_findTwoNights 56 = .ok (.iload_n 2, 1) := by decide +kernel
theorem dX7_findTwoNights_57 : decode cX7_findTwoNights 57 = .ok (.iload_n 3, 1) := by decide +kernel
theorem dX7_findTwoNights_58 : decode cX7_findTwoNights 58 = .ok (.invokevirtual 288, 3) := by decide +kernel
theorem dX7_findTwoNights_61 : decode cX7_findTwoNights 61 = .ok (.ifCond .eq 5, 3) := by decide +kernel
theorem dX7_findTwoNights_64 : decode cX7_findTwoNights 64 = .ok (.iconst 1, 1) := by decide +kernel
theorem dX7_findTwoNights_65 : decode cX7_findTwoNights 65 = .ok (.ireturn, 1) := by decide +kernel
theorem dX7_findTwoNights_66 : decode cX7_findTwoNights 66 = .ok (.iinc 3 1, 3) := by decide +kernel
theorem dX7_findTwoNights_69 : decode cX7_findTwoNights 69 = .ok (.goto (-67), 3) := by decide +kernel
theorem dX7_findTwoNights_72 : decode cX7_findTwoNights 72 = .ok (.iconst 0, 1) := by decide +kernel
theorem dX7_findTwoNights_73 : decode cX7_findTwoNights 73 = .ok (.ireturn, 1) := by decide +kernel
theorem dX7_rivalsEnd_0 : decode cX7_rivalsEnd 0 = .ok (.iload_n 3, 1) := by decide +kernel
theorem dX7_rivalsEnd_1 : decode cX7_rivalsEnd 1 = .ok (.iload 4, 2) := by decide +kernel
theorem dX7_rivalsEnd_3 : decode cX7_rivalsEnd 3 = .ok (.if_icmp .ge 13, 3) := by decide +kernel
theorem dX7_rivalsEnd_6 : decode cX7_rivalsEnd 6 = .ok (.iload_n 3, 1) := by decide +kernel
theorem dX7_rivalsEnd_7 : decode cX7_rivalsEnd 7 = .ok (.iconst 4, 1) := by decide +kernel
theorem dX7_rivalsEnd_8 : decode cX7_rivalsEnd 8 = .ok (.if_icmp .ge 8, 3) := by decide +kernel
theorem dX7_rivalsEnd_11 : decode cX7_rivalsEnd 11 = .ok (.iload 5, 2) := by decide +kernel
theorem dX7_rivalsEnd_13 : decode cX7_rivalsEnd 13 = .ok (.ifCond .ne 12, 3) := by decide +kernel
theorem dX7_rivalsEnd_16 : decode cX7_rivalsEnd 16 = .ok (.aload_n 1, 1) := by decide +kernel
theorem dX7_rivalsEnd_17 : decode cX7_rivalsEnd 17 = .ok (.getfield 142, 3) := by decide +kernel
theorem dX7_rivalsEnd_20 : decode cX7_rivalsEnd 20 = .ok (.iload_n 2, 1) := by decide +kernel
theorem dX7_rivalsEnd_21 : decode cX7_rivalsEnd 21 = .ok (.invokestatic 145, 3) := by decide +kernel
theorem dX7_rivalsEnd_24 : decode cX7_rivalsEnd 24 = .ok (.ireturn, 1) := by decide +kernel
theorem dX7_rivalsEnd_25 : decode cX7_rivalsEnd 25 = .ok (.iload_n 3, 1) := by decide +kernel
theorem dX7_rivalsEnd_26 : decode cX7_rivalsEnd 26 = .ok (.iconst 2, 1) := by decide +kernel
theorem dX7_rivalsEnd_27 : decode cX7_rivalsEnd 27 = .ok (.irem, 1) := by decide +kernel
theorem dX7_rivalsEnd_28 : decode cX7_rivalsEnd 28 = .ok (.ifCond .ne 7, 3) := by decide +kernel
theorem dX7_rivalsEnd_31 : decode cX7_rivalsEnd 31 = .ok (.iconst 1, 1) := by decide +kernel
theorem dX7_rivalsEnd_32 : decode cX7_rivalsEnd 32 = .ok (.goto 4, 3) := by decide +kernel
theorem dX7_rivalsEnd_35 : decode cX7_rivalsEnd 35 = .ok (.iconst 0, 1) := by decide +kernel
theorem dX7_rivalsEnd_36 : decode cX7_rivalsEnd 36 = .ok (.istore 6, 2) := by decide +kernel
theorem dX7_rivalsEnd_38 : decode cX7_rivalsEnd 38 = .ok (.iload 6, 2) := by decide +kernel
theorem dX7_rivalsEnd_40 : decode cX7_rivalsEnd 40 = .ok (.ifCond .eq 7, 3) := by decide +kernel
theorem dX7_rivalsEnd_43 : decode cX7_rivalsEnd 43 = .ok (.iconst (-1), 1) := by decide +kernel
theorem dX7_rivalsEnd_44 : decode cX7_rivalsEnd 44 = .ok (.goto 5, 3) := by decide +kernel
theorem dX7_rivalsEnd_47 : decode cX7_rivalsEnd 47 = .ok (.bipush 21, 2) := by decide +kernel
theorem dX7_rivalsEnd_49 : decode cX7_rivalsEnd 49 = .ok (.istore 7, 2) := by decide +kernel
theorem dX7_rivalsEnd_51 : decode cX7_rivalsEnd 51 = .ok (.iconst 0, 1) := by decide +kernel
theorem dX7_rivalsEnd_52 : decode cX7_rivalsEnd 52 = .ok (.istore 8, 2) := by decide +kernel
theorem dX7_rivalsEnd_54 : decode cX7_rivalsEnd 54 = .ok (.iload 8, 2) := by decide +kernel
theorem dX7_rivalsEnd_56 : decode cX7_rivalsEnd 56 = .ok (.aload_n 0, 1) := by decide +kernel
theorem dX7_rivalsEnd_57 : decode cX7_rivalsEnd 57 = .ok (.getfield 107, 3) := by decide +kernel
theorem dX7_rivalsEnd_60 : decode cX7_rivalsEnd 60 = .ok (.if_icmp .ge 105, 3) := by decide +kernel
theorem dX7_rivalsEnd_63 : decode cX7_rivalsEnd 63 = .ok (.iload 5, 2) := by decide +kernel
theorem dX7_rivalsEnd_65 : decode cX7_rivalsEnd 65 = .ok (.iload 8, 2) := by decide +kernel
theorem dX7_rivalsEnd_67 : decode cX7_rivalsEnd 67 = .ok (.invokestatic 168, 3) := by decide +kernel
theorem dX7_rivalsEnd_70 : decode cX7_rivalsEnd 70 = .ok (.ifCond .eq 89, 3) := by decide +kernel
theorem dX7_rivalsEnd_73 : decode cX7_rivalsEnd 73 = .ok (.aload_n 0, 1) := by decide +kernel
theorem dX7_rivalsEnd_74 : decode cX7_rivalsEnd 74 = .ok (.getfield 153, 3) := by decide +kernel
theorem dX7_rivalsEnd_77 : decode cX7_rivalsEnd 77 = .ok (.iload 8, 2) := by decide +kernel
theorem dX7_rivalsEnd_79 : decode cX7_rivalsEnd 79 = .ok (.invokestatic 145, 3) := by decide +kernel
theorem dX7_rivalsEnd_82 : decode cX7_rivalsEnd 82 = .ok (.istore 9, 2) := by decide +kernel
theorem dX7_rivalsEnd_84 : decode cX7_rivalsEnd 84 = .ok (.aload_n 1, 1) := by decide +kernel
theorem dX7_rivalsEnd_85 : decode cX7_rivalsEnd 85 = .ok (.getfield 142, 3) := by decide +kernel
theorem dX7_rivalsEnd_88 : decode cX7_rivalsEnd 88 = .ok (.iload 9, 2) := by decide +kernel
theorem dX7_rivalsEnd_90 : decode cX7_rivalsEnd 90 = .ok (.invokestatic 145, 3) := by decide +kernel
theorem dX7_rivalsEnd_93 : decode cX7_rivalsEnd 93 = .ok (.istore 10, 2) := by decide +kernel
theorem dX7_rivalsEnd_95 : decode cX7_rivalsEnd 95 = .ok (.aload_n 1, 1) := by decide +kernel
theorem dX7_rivalsEnd_96 : decode cX7_rivalsEnd 96 = .ok (.aload_n 0, 1) := by decide +kernel
theorem dX7_rivalsEnd_97 : decode cX7_rivalsEnd 97 = .ok (.iload 8, 2) := by decide +kernel
theorem dX7_rivalsEnd_99 : decode cX7_rivalsEnd 99 = .ok (.invokevirtual 295, 3) := by decide +kernel
theorem dX7_rivalsEnd_102 : decode cX7_rivalsEnd 102 = .ok (.pop, 1) := by decide +kernel
theorem dX7_rivalsEnd_103 : decode cX7_rivalsEnd 103 = .ok (.aload_n 0, 1) := by decide +kernel
theorem dX7_rivalsEnd_104 : decode cX7_rivalsEnd 104 = .ok (.aload_n 1, 1) := by decide +kernel
theorem dX7_rivalsEnd_105 : decode cX7_rivalsEnd 105 = .ok (.iload_n 2, 1) := by decide +kernel
theorem dX7_rivalsEnd_106 : decode cX7_rivalsEnd 106 = .ok (.iload_n 3, 1) := by decide +kernel
theorem dX7_rivalsEnd_107 : decode cX7_rivalsEnd 107 = .ok (.iconst 1, 1) := by decide +kernel
theorem dX7_rivalsEnd_108 : decode cX7_rivalsEnd 108 = .ok (.iadd, 1) := by decide +kernel
theorem dX7_rivalsEnd_109 : decode cX7_rivalsEnd 109 = .ok (.iload 4, 2) := by decide +kernel
theorem dX7_rivalsEnd_111 : decode cX7_rivalsEnd 111 = .ok (.iload 5, 2) := by decide +kernel
theorem dX7_rivalsEnd_113 : decode cX7_rivalsEnd 113 = .ok (.iconst 1, 1) := by decide +kernel
theorem dX7_rivalsEnd_114 : decode cX7_rivalsEnd 114 = .ok (.iload 8, 2) := by decide +kernel
theorem dX7_rivalsEnd_116 : decode cX7_rivalsEnd 116 = .ok (.ishl, 1) := by decide +kernel
theorem dX7_rivalsEnd_117 : decode cX7_rivalsEnd 117 = .ok (.iconst (-1), 1) := by decide +kernel
theorem dX7_rivalsEnd_118 : decode cX7_rivalsEnd 118 = .ok (.ixor, 1) := by decide +kernel
theorem dX7_rivalsEnd_119 : decode cX7_rivalsEnd 119 = .ok (.iand, 1) := by decide +kernel
theorem dX7_rivalsEnd_120 : decode cX7_rivalsEnd 120 = .ok (.invokestatic 238, 3) := by decide +kernel
theorem dX7_rivalsEnd_123 : decode cX7_rivalsEnd 123 = .ok (.istore 11, 2) := by decide +kernel
theorem dX7_rivalsEnd_125 : decode cX7_rivalsEnd 125 = .ok (.aload_n 1, 1) := by decide +kernel
theorem dX7_rivalsEnd_126 : decode cX7_rivalsEnd 126 = .ok (.iload 8, 2) := by decide +kernel
theorem dX7_rivalsEnd_128 : decode cX7_rivalsEnd 128 = .ok (.iload 9, 2) := by decide +kernel
theorem dX7_rivalsEnd_130 : decode cX7_rivalsEnd 130 = .ok (.iload 10, 2) := by decide +kernel
theorem dX7_rivalsEnd_132 : decode cX7_rivalsEnd 132 = .ok (.invokevirtual 298, 3) := by decide +kernel
theorem dX7_rivalsEnd_135 : decode cX7_rivalsEnd 135 = .ok (.iload 6, 2) := by decide +kernel
theorem dX7_rivalsEnd_137 : decode cX7_rivalsEnd 137 = .ok (.ifCond .eq 13, 3) := by decide +kernel
theorem dX7_rivalsEnd_140 : decode cX7_rivalsEnd 140 = .ok (.iload 7, 2) := by decide +kernel
theorem dX7_rivalsEnd_142 : decode cX7_rivalsEnd 142 = .ok (.iload 11, 2) := by decide +kernel
theorem dX7_rivalsEnd_144 : decode cX7_rivalsEnd 144 = .ok (.invokestatic 301, 3) := by decide +kernel
theorem dX7_rivalsEnd_147 : decode cX7_rivalsEnd 147 = .ok (.goto 10, 3) := by decide +kernel
theorem dX7_rivalsEnd_150 : decode cX7_rivalsEnd 150 = .ok (.iload 7, 2) := by decide +kernel
theorem dX7_rivalsEnd_152 : decode cX7_rivalsEnd 152 = .ok (.iload 11, 2) := by decide +kernel
theorem dX7_rivalsEnd_154 : decode cX7_rivalsEnd 154 = .ok (.invokestatic 306, 3) := by decide +kernel
theorem dX7_rivalsEnd_157 : decode cX7_rivalsEnd 157 = .ok (.istore 7, 2) := by decide +kernel
theorem dX7_rivalsEnd_159 : decode cX7_rivalsEnd 159 = .ok (.iinc 8 1, 3) := by decide +kernel
theorem dX7_rivalsEnd_162 : decode cX7_rivalsEnd 162 = .ok (.goto (-108), 3) := by decide +kernel
theorem dX7_rivalsEnd_165 : decode cX7_rivalsEnd 165 = .ok (.iload 7, 2) := by decide +kernel
theorem dX7_rivalsEnd_167 : decode cX7_rivalsEnd 167 = .ok (.ireturn, 1) := by decide +kernel
end
section
theorem dX8_init_0 : decode cX8_init 0 = .ok (.aload_n 0, 1) := by decide +kernel
theorem dX8_init_1 : decode cX8_init 1 = .ok (.invokespecial 1, 3) := by decide +kernel
theorem dX8_init_4 : decode cX8_init 4 = .ok (.aload_n 0, 1) := by decide +kernel
theorem dX8_init_5 : decode cX8_init 5 = .ok (.bipush 50, 2) := by decide +kernel
theorem dX8_init_7 : decode cX8_init 7 = .ok (.newarray .int, 2) := by decide +kernel
theorem dX8_init_9 : decode cX8_init 9 = .ok (.putfield 7, 3) := by decide +kernel
theorem dX8_init_12 : decode cX8_init 12 = .ok (.aload_n 0, 1) := by decide +kernel
theorem dX8_init_13 : decode cX8_init 13 = .ok (.bipush 50, 2) := by decide +kernel
theorem dX8_init_15 : decode cX8_init 15 = .ok (.newarray .int, 2) := by decide +kernel
theorem dX8_init_17 : decode cX8_init 17 = .ok (.putfield 13, 3) := by decide +kernel
theorem dX8_init_20 : decode cX8_init 20 = .ok (.aload_n 0, 1) := by decide +kernel
theorem dX8_init_21 : decode cX8_init 21 = .ok (.bipush 17, 2) := by decide +kernel
theorem dX8_init_23 : decode cX8_init 23 = .ok (.newarray .int, 2) := by decide +kernel
theorem dX8_init_25 : decode cX8_init 25 = .ok (.putfield 16, 3) := by decide +kernel
theorem dX8_init_28 : decode cX8_init 28 = .ok (.aload_n 0, 1) := by decide +kernel
theorem dX8_init_29 : decode cX8_init 29 = .ok (.sipush 340, 3) := by decide +kernel
theorem dX8_init_32 : decode cX8_init 32 = .ok (.newarray .int, 2) := by decide +kernel
theorem dX8_init_34 : decode cX8_init 34 = .ok (.putfield 19, 3) := by decide +kernel
theorem dX8_init_37 : decode cX8_init 37 = .ok (.aload_n 0, 1) := by decide +kernel
theorem dX8_init_38 : decode cX8_init 38 = .ok (.bipush 36, 2) := by decide +kernel
theorem dX8_init_40 : decode cX8_init 40 = .ok (.newarray .int, 2) := by decide +kernel
theorem dX8_init_42 : decode cX8_init 42 = .ok (.putfield 22, 3) := by decide +kernel
theorem dX8_init_45 : decode cX8_init 45 = .ok (.aload_n 0, 1) := by decide +kernel
theorem dX8_init_46 : decode cX8_init 46 = .ok (.iconst 2, 1) := by decide +kernel
theorem dX8_init_47 : decode cX8_init 47 = .ok (.newarray .boolean, 2) := by decide +kernel
theorem dX8_init_49 : decode cX8_init 49 = .ok (.putfield 25, 3) := by decide +kernel
theorem dX8_init_52 : decode cX8_init 52 = .ok (.aload_n 0, 1) := by decide +kernel
theorem dX8_init_53 : decode cX8_init 53 = .ok (.sipush 240, 3) := by decide +kernel
theorem dX8_init_56 : decode cX8_init 56 = .ok (.newarray .int, 2) := by decide +kernel
theorem dX8_init_58 : decode cX8_init 58 = .ok (.putfield 29, 3) := by decide +kernel
theorem dX8_init_61 : decode cX8_init 61 = .ok (.aload_n 0, 1) := by decide +kernel
theorem dX8_init_62 : decode cX8_init 62 = .ok (.iconst (-1), 1) := by decide +kernel
theorem dX8_init_63 : decode cX8_init 63 = .ok (.putfield 32, 3) := by decide +kernel
theorem dX8_init_66 : decode cX8_init 66 = .ok (.aload_n 0, 1) := by decide +kernel
theorem dX8_init_67 : decode cX8_init 67 = .ok (.bipush 12, 2) := by decide +kernel
theorem dX8_init_69 : decode cX8_init 69 = .ok (.newarray .int, 2) := by decide +kernel
theorem dX8_init_71 : decode cX8_init 71 = .ok (.putfield 36, 3) := by decide +kernel
theorem dX8_init_74 : decode cX8_init 74 = .ok (.aload_n 0, 1) := by decide +kernel
theorem dX8_init_75 : decode cX8_init 75 = .ok (.bipush 30, 2) := by decide +kernel
theorem dX8_init_77 : decode cX8_init 77 = .ok (.newarray .int, 2) := by decide +kernel
theorem dX8_init_79 : decode cX8_init 79 = .ok (.putfield 39, 3) := by decide +kernel
theorem dX8_init_82 : decode cX8_init 82 = .ok (.aload_n 0, 1) := by decide +kernel
theorem dX8_init_83 : decode cX8_init 83 = .ok (.bipush 17, 2) := by decide +kernel
theorem dX8_init_85 : decode cX8_init 85 = .ok (.newarray .int, 2) := by decide +kernel
theorem dX8_init_87 : decode cX8_init 87 = .ok (.putfield 42, 3) := by decide +kernel
theorem dX8_init_90 : decode cX8_init 90 = .ok (.aload_n 0, 1) := by decide +kernel
theorem dX8_init_91 : decode cX8_init 91 = .ok (.bipush 17, 2) := by decide +kernel
theorem dX8_init_93 : decode cX8_init 93 = .ok (.newarray .int, 2) := by decide +kernel
theorem dX8_init_95 : decode cX8_init 95 = .ok (.putfield 45, 3) := by decide +kernel
theorem dX8_init_98 : decode cX8_init 98 = .ok (.aload_n 0, 1) := by decide +kernel
theorem dX8_init_99 : decode cX8_init 99 = .ok (.bipush 85, 2) := by decide +kernel
theorem dX8_init_101 : decode cX8_init 101 = .ok (.newarray .int, 2) := by decide +kernel
theorem dX8_init_103 : decode cX8_init 103 = .ok (.putfield 48, 3) := by decide +kernel
theorem dX8_init_106 : decode cX8_init 106 = .ok (.aload_n 0, 1) := by decide +kernel
theorem dX8_init_107 : decode cX8_init 107 = .ok (.iconst 5, 1) := by decide +kernel
theorem dX8_init_108 : decode cX8_init 108 = .ok (.newarray .int, 2) := by decide +kernel
theorem dX8_init_110 : decode cX8_init 110 = .ok (.putfield 51, 3) := by decide +kernel
theorem dX8_init_113 : decode cX8_init 113 = .ok (.aload_n 0, 1) := by decide +kernel
theorem dX8_init_114 : decode cX8_init 114 = .ok (.iconst 5, 1) := by decide +kernel
theorem dX8_init_115 : decode cX8_init 115 = .ok (.newarray .int, 2) := by decide +kernel
theorem dX8_init_117 : decode cX8_init 117 = .ok (.putfield 54, 3) := by decide +kernel
theorem dX8_init_120 : decode cX8_init 120 = .ok (.aload_n 0, 1) := by decide +kernel
theorem dX8_init_121 : decode cX8_init 121 = .ok (.iconst 5, 1) := by decide +kernel
theorem dX8_init_122 : decode cX8_init 122 = .ok (.newarray .int, 2) := by decide +kernel
theorem dX8_init_124 : decode cX8_init 124 = .ok (.putfield 57, 3) := by decide +kernel
theorem dX8_init_127 : decode cX8_init 127 = .ok (.aload_n 0, 1) := by decide +kernel
theorem dX8_init_128 : decode cX8_init 128 = .ok (.getfield 7, 3) := by decide +kernel
theorem dX8_init_131 : decode cX8_init 131 = .ok (.iconst 3, 1) := by decide +kernel
theorem dX8_init_132 : decode cX8_init 132 = .ok (.bipush 10, 2) := by decide +kernel
theorem dX8_init_134 : decode cX8_init 134 = .ok (.iastore, 1) := by decide +kernel
theorem dX8_init_135 : decode cX8_init 135 = .ok (.aload_n 0, 1) := by decide +kernel
theorem dX8_init_136 : decode cX8_init 136 = .ok (.invokevirtual 60, 3) := by decide +kernel
theorem dX8_init_139 : decode cX8_init 139 = .ok (.return_, 1) := by decide +kernel
theorem dX8_in_0 : decode cX8_in 0 = .ok (.lload_n 0, 1) := by decide +kernel
theorem dX8_in_1 : decode cX8_in 1 = .ok (.lload_n 2, 1) := by decide +kernel
theorem dX8_in_2 : decode cX8_in 2 = .ok (.lcmp, 1) := by decide +kernel
theorem dX8_in_3 : decode cX8_in 3 = .ok (.ifCond .lt 14, 3) := by decide +kernel
theorem dX8_in_6 : decode cX8_in 6 = .ok (.lload_n 0, 1) := by decide +kernel
theorem dX8_in_7 : decode cX8_in 7 = .ok (.lload 4, 2) := by decide +kernel
theorem dX8_in_9 : decode cX8_in 9 = .ok (.lcmp, 1) := by decide +kernel
theorem dX8_in_10 : decode cX8_in 10 = .ok (.ifCond .gt 7, 3) := by decide +kernel
theorem dX8_in_13 : decode cX8_in 13 = .ok (.iconst 1, 1) := by decide +kernel
theorem dX8_in_14 : decode cX8_in 14 = .ok (.goto 4, 3) := by decide +kernel
theorem dX8_in_17 : decode cX8_in 17 = .ok (.iconst 0, 1) := by decide +kernel
theorem dX8_in_18 : decode cX8_in 18 = .ok (.ireturn, 1) := by decide +kernel
theorem dX8_has_0 : decode cX8_has 0 = .ok (.iload_n 0, 1) := by decide +kernel
theorem dX8_has_1 : decode cX8_has 1 = .ok (.iload_n 1, 1) := by decide +kernel
theorem dX8_has_2 : decode cX8_has 2 = .ok (.ishr, 1) := by decide +kernel
theorem dX8_has_3 : decode cX8_has 3 = .ok (.iconst 1, 1) := by decide +kernel
theorem dX8_has_4 : decode cX8_has 4 = .ok (.iand, 1) := by decide +kernel
theorem dX8_has_5 : decode cX8_has 5 = .ok (.iconst 1, 1) := by decide +kernel
theorem dX8_has_6 : decode cX8_has 6 = .ok (.if_icmp .ne 7, 3) := by decide +kernel
theorem dX8_has_9 : decode cX8_has 9 = .ok (.iconst 1, 1) := by decide +kernel
theorem dX8_has_10 : decode cX8_has 10 = .ok (.goto 4, 3) := by decide +kernel
theorem dX8_has_13 : decode cX8_has 13 = .ok (.iconst 0, 1) := by decide +kernel
theorem dX8_has_14 : decode cX8_has 14 = .ok (.ireturn, 1) := by decide +kernel
theorem dX8_bits_0 : decode cX8_bits 0 = .ok (.iconst 0, 1) := by decide +kernel
theorem dX8_bits_1 : decode cX8_bits 1 = .ok (.istore_n 1, 1) := by decide +kernel
theorem dX8_bits_2 : decode cX8_bits 2 = .ok (.iload_n 0, 1) := by decide +kernel
theorem dX8_bits_3 : decode cX8_bits 3 = .ok (.istore_n 2, 1) := by decide +kernel
theorem dX8_bits_4 : decode cX8_bits 4 = .ok (.iload_n 2, 1) := by decide +kernel
theorem dX8_bits_5 : decode cX8_bits 5 = .ok (.ifCond .eq 15, 3) := by decide +kernel
theorem dX8_bits_8 : decode cX8_bits 8 = .ok (.iinc 1 1, 3) := by decide +kernel
theorem dX8_bits_11 : decode cX8_bits 11 = .ok (.iload_n 2, 1) := by decide +kernel
theorem dX8_bits_12 : decode cX8_bits 12 = .ok (.iload_n 2, 1) := by decide +kernel
theorem dX8_bits_13 : decode cX8_bits 13 = .ok (.iconst 1, 1) := by decide +kernel
theorem dX8_bits_14 : decode cX8_bits 14 = .ok (.isub, 1) := by decide +kernel
theorem dX8_bits_15 : decode cX8_bits 15 = .ok (.iand, 1) := by decide +kernel
theorem dX8_bits_16 : decode cX8_bits 16 = .ok (.istore_n 2, 1) := by decide +kernel
theorem dX8_bits_17 : decode cX8_bits 17 = .ok (.goto (-13), 3) := by decide +kernel
theorem dX8_bits_20 : decode cX8_bits 20 = .ok (.iload_n 1, 1) := by decide +kernel
theorem dX8_bits_21 : decode cX8_bits 21 = .ok (.ireturn, 1) := by decide +kernel
theorem dX8_begins_0 : decode cX8_begins 0 = .ok (.iconst 0, 1) := by decide +kernel
theorem dX8_begins_1 : decode cX8_begins 1 = .ok (.istore_n 1, 1) := by decide +kernel
theorem dX8_begins_2 : decode cX8_begins 2 = .ok (.iload_n 1, 1) := by decide +kernel
theorem dX8_begins_3 : decode cX8_begins 3 = .ok (.bipush 17, 2) := by decide +kernel
theorem dX8_begins_5 : decode cX8_begins 5 = .ok (.if_icmp .ge 32, 3) := by decide +kernel
theorem dX8_begins_8 : decode cX8_begins 8 = .ok (.aload_n 0, 1) := by decide +kernel
theorem dX8_begins_9 : decode cX8_begins 9 = .ok (.getfield 16, 3) := by decide +kernel
theorem dX8_begins_12 : decode cX8_begins 12 = .ok (.iload_n 1, 1) := by decide +kernel
theorem dX8_begins_13 : decode cX8_begins 13 = .ok (.iload_n 1, 1) := by decide +kernel
theorem dX8_begins_14 : decode cX8_begins 14 = .ok (.iconst 5, 1) := by decide +kernel
theorem dX8_begins_15 : decode cX8_begins 15 = .ok (.if_icmp .ge 14, 3) := by decide +kernel
theorem dX8_begins_18 : decode cX8_begins 18 = .ok (.aload_n 0, 1) := by decide +kernel
theorem dX8_begins_19 : decode cX8_begins 19 = .ok (.getfield 7, 3) := by decide +kernel
theorem dX8_begins_22 : decode cX8_begins 22 = .ok (.iconst 5, 1) := by decide +kernel
theorem dX8_begins_23 : decode cX8_begins 23 = .ok (.iload_n 1, 1) := by decide +kernel
theorem dX8_begins_24 : decode cX8_begins 24 = .ok (.iadd, 1) := by decide +kernel
theorem dX8_begins_25 : decode cX8_begins 25 = .ok (.iaload, 1) := by decide +kernel
theorem dX8_begins_26 : decode cX8_begins 26 = .ok (.goto 4, 3) := by decide +kernel
theorem dX8_begins_29 : decode cX8_begins 29 = .ok (.iconst 0, 1) := by decide +kernel
theorem dX8_begins_30 : decode cX8_begins 30 = .ok (.iastore, 1) := by decide +kernel
theorem dX8_begins_31 : decode cX8_begins 31 = .ok (.iinc 1 1, 3) := by decide +kernel
theorem dX8_begins_34 : decode cX8_begins 34 = .ok (.goto (-32), 3) := by decide +kernel
theorem dX8_begins_37 : decode cX8_begins 37 = .ok (.iconst 0, 1) := by decide +kernel
theorem dX8_begins_38 : decode cX8_begins 38 = .ok (.istore_n 1, 1) := by decide +kernel
theorem dX8_begins_39 : decode cX8_begins 39 = .ok (.iload_n 1, 1) := by decide +kernel
theorem dX8_begins_40 : decode cX8_begins 40 = .ok (.aload_n 0, 1) := by decide +kernel
theorem dX8_begins_41 : decode cX8_begins 41 = .ok (.getfield 7, 3) := by decide +kernel
theorem dX8_begins_44 : decode cX8_begins 44 = .ok (.iconst 2, 1) := by decide +kernel
theorem dX8_begins_45 : decode cX8_begins 45 = .ok (.iaload, 1) := by decide +kernel
theorem dX8_begins_46 : decode cX8_begins 46 = .ok (.if_icmp .ge 38, 3) := by decide +kernel
theorem dX8_begins_49 : decode cX8_begins 49 = .ok (.aload_n 0, 1) := by decide +kernel
theorem dX8_begins_50 : decode cX8_begins 50 = .ok (.getfield 16, 3) := by decide +kernel
theorem dX8_begins_53 : decode cX8_begins 53 = .ok (.bipush 13, 2) := by decide +kernel
theorem dX8_begins_55 : decode cX8_begins 55 = .ok (.dup2, 1) := by decide +kernel
theorem dX8_begins_56 : decode cX8_begins 56 = .ok (.iaload, 1) := by decide +kernel
theorem dX8_begins_57 : decode cX8_begins 57 = .ok (.aload_n 0, 1) := by decide +kernel
theorem dX8_begins_58 : decode cX8_begins 58 = .ok (.getfield 7, 3) := by decide +kernel
theorem dX8_begins_61 : decode cX8_begins 61 = .ok (.bipush 42, 2) := by decide +kernel
theorem dX8_begins_63 : decode cX8_begins 63 = .ok (.iload_n 1, 1) := by decide +kernel
theorem dX8_begins_64 : decode cX8_begins 64 = .ok (.iadd, 1) := by decide +kernel
theorem dX8_begins_65 : decode cX8_begins 65 = .ok (.iaload, 1) := by decide +kernel
theorem dX8_begins_66 : decode cX8_begins 66 = .ok (.ifCond .ne 9, 3) := by decide +kernel
theorem dX8_begins_69 : decode cX8_begins 69 = .ok (.iconst 1, 1) := by decide +kernel
theorem dX8_begins_70 : decode cX8_begins 70 = .ok (.iload_n 1, 1) := by decide +kernel
theorem dX8_begins_71 : decode cX8_begins 71 = .ok (.ishl, 1) := by decide +kernel
theorem dX8_begins_72 : decode cX8_begins 72 = .ok (.goto 4, 3) := by decide +kernel
theorem dX8_begins_75 : decode cX8_begins 75 = .ok (.iconst 0, 1) := by decide +kernel
theorem dX8_begins_76 : decode cX8_begins 76 = .ok (.ior, 1) := by decide +kernel
theorem dX8_begins_77 : decode cX8_begins 77 = .ok (.iastore, 1) := by decide +kernel
theorem dX8_begins_78 : decode cX8_begins 78 = .ok (.iinc 1 1, 3) := by decide +kernel
theorem dX8_begins_81 : decode cX8_begins 81 = .ok (.goto (-42), 3) := by decide +kernel
theorem dX8_begins_84 : decode cX8_begins 84 = .ok (.aload_n 0, 1) := by decide +kernel
theorem dX8_begins_85 : decode cX8_begins 85 = .ok (.getfield 16, 3) := by decide +kernel
theorem dX8_begins_88 : decode cX8_begins 88 = .ok (.bipush 16, 2) := by decide +kernel
theorem dX8_begins_90 : decode cX8_begins 90 = .ok (.iconst (-1), 1) := by decide +kernel
theorem dX8_begins_91 : decode cX8_begins 91 = .ok (.iastore, 1) := by decide +kernel
theorem dX8_begins_92 : decode cX8_begins 92 = .ok (.aload_n 0, 1) := by decide +kernel
theorem dX8_begins_93 : decode cX8_begins 93 = .ok (.iconst 0, 1) := by decide +kernel
theorem dX8_begins_94 : decode cX8_begins 94 = .ok (.putfield 63, 3) := by decide +kernel
theorem dX8_begins_97 : decode cX8_begins 97 = .ok (.aload_n 0, 1) := by decide +kernel
theorem dX8_begins_98 : decode cX8_begins 98 = .ok (.iconst 0, 1) := by decide +kernel
theorem dX8_begins_99 : decode cX8_begins 99 = .ok (.putfield 66, 3) := by decide +kernel
theorem dX8_begins_102 : decode cX8_begins 102 = .ok (.aload_n 0, 1) := by decide +kernel
theorem dX8_begins_103 : decode cX8_begins 103 = .ok (.iconst 0, 1) := by decide +kernel
theorem dX8_begins_104 : decode cX8_begins 104 = .ok (.putfield 69, 3) := by decide +kernel
theorem dX8_begins_107 : decode cX8_begins 107 = .ok (.aload_n 0, 1) := by decide +kernel
theorem dX8_begins_108 : decode cX8_begins 108 = .ok (.getfield 25, 3) := by decide +kernel
theorem dX8_begins_111 : decode cX8_begins 111 = .ok (.iconst 0, 1) := by decide +kernel
theorem dX8_begins_112 : decode cX8_begins 112 = .ok (.iconst 0, 1) := by decide +kernel
theorem dX8_begins_113 : decode cX8_begins 113 = .ok (.bastore, 1) := by decide +kernel
theorem dX8_begins_114 : decode cX8_begins 114 = .ok (.aload_n 0, 1) := by decide +kernel
theorem dX8_begins_115 : decode cX8_begins 115 = .ok (.getfield 25, 3) := by decide +kernel
theorem dX8_begins_118 : decode cX8_begins 118 = .ok (.iconst 1, 1) := by decide +kernel
theorem dX8_begins_119 : decode cX8_begins 119 = .ok (.iconst 0, 1) := by decide +kernel
theorem dX8_begins_120 : decode cX8_begins 120 = .ok (.bastore, 1) := by decide +kernel
theorem dX8_begins_121 : decode cX8_begins 121 = .ok (.return_, 1) := by decide +kernel
theorem dX8_feed_0 : decode cX8_feed 0 = .ok (.iload_n 1, 1) := by decide +kernel
theorem dX8_feed_1 : decode cX8_feed 1 = .ok (.i2l, 1) := by decide +kernel
theorem dX8_feed_2 : decode cX8_feed 2 = .ok (.lconst 0, 1) := by decide +kernel
theorem dX8_feed_3 : decode cX8_feed 3 = .ok (.ldc2_w 72, 3) := by decide +kernel
theorem dX8_feed_6 : decode cX8_feed 6 = .ok (.invokestatic 74, 3) := by decide +kernel
theorem dX8_feed_9 : decode cX8_feed 9 = .ok (.ifCond .ne 6, 3) := by decide +kernel
theorem dX8_feed_12 : decode cX8_feed 12 = .ok (.ldc 78, 2) := by decide +kernel
theorem dX8_feed_14 : decode cX8_feed 14 = .ok (.ireturn, 1) := by decide +kernel
theorem dX8_feed_15 : decode cX8_feed 15 = .ok (.aload_n 0, 1) := by decide +kernel
theorem dX8_feed_16 : decode cX8_feed 16 = .ok (.getfield 79, 3) := by decide +kernel
theorem dX8_feed_19 : decode cX8_feed 19 = .ok (.sipush 240, 3) := by decide +kernel
theorem dX8_feed_22 : decode cX8_feed 22 = .ok (.if_icmp .ne 6, 3) := by decide +kernel
theorem dX8_feed_25 : decode cX8_feed 25 = .ok (.ldc 82, 2) := by decide +kernel
theorem dX8_feed_27 : decode cX8_feed 27 = .ok (.ireturn, 1) := by decide +kernel
theorem dX8_feed_28 : decode cX8_feed 28 = .ok (.aload_n 0, 1) := by decide +kernel
theorem dX8_feed_29 : decode cX8_feed 29 = .ok (.getfield 29, 3) := by decide +kernel
theorem dX8_feed_32 : decode cX8_feed 32 = .ok (.aload_n 0, 1) := by decide +kernel
theorem dX8_feed_33 : decode cX8_feed 33 = .ok (.getfield 79, 3) := by decide +kernel
theorem dX8_feed_36 : decode cX8_feed 36 = .ok (.iload_n 1, 1) := by decide +kernel
theorem dX8_feed_37 : decode cX8_feed 37 = .ok (.iastore, 1) := by decide +kernel
theorem dX8_feed_38 : decode cX8_feed 38 = .ok (.aload_n 0, 1) := by decide +kernel
theorem dX8_feed_39 : decode cX8_feed 39 = .ok (.dup, 1) := by decide +kernel
theorem dX8_feed_40 : decode cX8_feed 40 = .ok (.getfield 79, 3) := by decide +kernel
theorem dX8_feed_43 : decode cX8_feed 43 = .ok (.iconst 1, 1) := by decide +kernel
theorem dX8_feed_44 : decode cX8_feed 44 = .ok (.iadd, 1) := by decide +kernel
theorem dX8_feed_45 : decode cX8_feed 45 = .ok (.putfield 79, 3) := by decide +kernel
theorem dX8_feed_48 : decode cX8_feed 48 = .ok (.aload_n 0, 1) := by decide +kernel
theorem dX8_feed_49 : decode cX8_feed 49 = .ok (.getfield 79, 3) := by decide +kernel
theorem dX8_feed_52 : decode cX8_feed 52 = .ok (.ireturn, 1) := by decide +kernel
theorem dX8_here_0 : decode cX8_here 0 = .ok (.aload_n 0, 1) := by decide +kernel
theorem dX8_here_1 : decode cX8_here 1 = .ok (.getfield 83, 3) := by decide +kernel
theorem dX8_here_4 : decode cX8_here 4 = .ok (.aload_n 0, 1) := by decide +kernel
theorem dX8_here_5 : decode cX8_here 5 = .ok (.getfield 79, 3) := by decide +kernel
theorem dX8_here_8 : decode cX8_here 8 = .ok (.if_icmp .ge 15, 3) := by decide +kernel
theorem dX8_here_11 : decode cX8_here 11 = .ok (.aload_n 0, 1) := by decide +kernel
theorem dX8_here_12 : decode cX8_here 12 = .ok (.getfield 29, 3) := by decide +kernel
theorem dX8_here_15 : decode cX8_here 15 = .ok (.aload_n 0, 1) := by decide +kernel
theorem dX8_here_16 : decode cX8_here 16 = .ok (.getfield 83, 3) := by decide +kernel
theorem dX8_here_19 : decode cX8_here 19 = .ok (.iaload, 1) := by decide +kernel
theorem dX8_here_20 : decode cX8_here 20 = .ok (.goto 4, 3) := by decide +kernel
theorem dX8_here_23 : decode cX8_here 23 = .ok (.iconst (-1), 1) := by decide +kernel
theorem dX8_here_24 : decode cX8_here 24 = .ok (.ireturn, 1) := by decide +kernel
theorem dX8_step_0 : decode cX8_step 0 = .ok (.aload_n 0, 1) := by decide +kernel
theorem dX8_step_1 : decode cX8_step 1 = .ok (.invokevirtual 86, 3) := by decide +kernel
theorem dX8_step_4 : decode cX8_step 4 = .ok (.bipush 32, 2) := by decide +kernel
theorem dX8_step_6 : decode cX8_step 6 = .ok (.if_icmp .ne 16, 3) := by decide +kernel
theorem dX8_step_9 : decode cX8_step 9 = .ok (.aload_n 0, 1) := by decide +kernel
theorem dX8_step_10 : decode cX8_step 10 = .ok (.dup, 1) := by decide +kernel
theorem dX8_step_11 : decode cX8_step 11 = .ok (.getfield 83, 3) := by decide +kernel
theorem dX8_step_14 : decode cX8_step 14 = .ok (.iconst 1, 1) := by decide +kernel
theorem dX8_step_15 : decode cX8_step 15 = .ok (.iadd, 1) := by decide +kernel
theorem dX8_step_16 : decode cX8_step 16 = .ok (.putfield 83, 3) := by decide +kernel
theorem dX8_step_19 : decode cX8_step 19 = .ok (.goto (-19), 3) := by decide +kernel
theorem dX8_step_22 : decode cX8_step 22 = .ok (.aload_n 0, 1) := by decide +kernel
theorem dX8_step_23 : decode cX8_step 23 = .ok (.aload_n 0, 1) := by decide +kernel
theorem dX8_step_24 : decode cX8_step 24 = .ok (.getfield 83, 3) := by decide +kernel
theorem dX8_step_27 : decode cX8_step 27 = .ok (.putfield 90, 3) := by decide +kernel
theorem dX8_step_30 : decode cX8_step 30 = .ok (.aload_n 0, 1) := by decide +kernel
theorem dX8_step_31 : decode cX8_step 31 = .ok (.aload_n 0, 1) := by decide +kernel
theorem dX8_step_32 : decode cX8_step 32 = .ok (.invokevirtual 86, 3) := by decide +kernel
theorem dX8_step_35 : decode cX8_step 35 = .ok (.putfield 93, 3) := by decide +kernel
theorem dX8_step_38 : decode cX8_step 38 = .ok (.aload_n 0, 1) := by decide +kernel
theorem dX8_step_39 : decode cX8_step 39 = .ok (.iconst 0, 1) := by decide +kernel
theorem dX8_step_40 : decode cX8_step 40 = .ok (.putfield 96, 3) := by decide +kernel
theorem dX8_step_43 : decode cX8_step 43 = .ok (.aload_n 0, 1) := by decide +kernel
theorem dX8_step_44 : decode cX8_step 44 = .ok (.iconst 0, 1) := by decide +kernel
theorem dX8_step_45 : decode cX8_step 45 = .ok (.putfield 99, 3) := by decide +kernel
theorem dX8_step_48 : decode cX8_step 48 = .ok (.aload_n 0, 1) := by decide +kernel
theorem dX8_step_49 : decode cX8_step 49 = .ok (.getfield 93, 3) := by decide +kernel
theorem dX8_step_52 : decode cX8_step 52 = .ok (.i2l, 1) := by decide +kernel
theorem dX8_step_53 : decode cX8_step 53 = .ok (.ldc2_w 102, 3) := by decide +kernel
theorem dX8_step_56 : decode cX8_step 56 = .ok (.ldc2_w 104, 3) := by decide +kernel
theorem dX8_step_59 : decode cX8_step 59 = .ok (.invokestatic 74, 3) := by decide +kernel
theorem dX8_step_62 : decode cX8_step 62 = .ok (.ifCond .ne 25, 3) := by decide +kernel
theorem dX8_step_65 : decode cX8_step 65 = .ok (.aload_n 0, 1) := by decide +kernel
theorem dX8_step_66 : decode cX8_step 66 = .ok (.dup, 1) := by decide +kernel
theorem dX8_step_67 : decode cX8_step 67 = .ok (.getfield 83, 3) := by decide +kernel
theorem dX8_step_70 : decode cX8_step 70 = .ok (.aload_n 0, 1) := by decide +kernel
theorem dX8_step_71 : decode cX8_step 71 = .ok (.getfield 93, 3) := by decide +kernel
theorem dX8_step_74 : decode cX8_step 74 = .ok (.ifCond .ge 7, 3) := by decide +kernel
theorem dX8_step_77 : decode cX8_step 77 = .ok (.iconst 0, 1) := by decide +kernel
theorem dX8_step_78 : decode cX8_step 78 = .ok (.goto 4, 3) := by decide +kernel
theorem dX8_step_81 : decode cX8_step 81 = .ok (.iconst 1, 1) := by decide +kernel
theorem dX8_step_82 : decode cX8_step 82 = .ok (.iadd, 1) := by decide +kernel
theorem dX8_step_83 : decode cX8_step 83 = .ok (.putfield 83, 3) := by decide +kernel
theorem dX8_step_86 : decode cX8_step 86 = .ok (.return_, 1) := by decide +kernel
theorem dX8_step_87 : decode cX8_step 87 = .ok (.aload_n 0, 1) := by decide +kernel
theorem dX8_step_88 : decode cX8_step 88 = .ok (.bipush 48, 2) := by decide +kernel
theorem dX8_step_90 : decode cX8_step 90 = .ok (.putfield 93, 3) := by decide +kernel
theorem dX8_step_93 : decode cX8_step 93 = .ok (.aload_n 0, 1) := by decide +kernel
theorem dX8_step_94 : decode cX8_step 94 = .ok (.invokevirtual 86, 3) := by decide +kernel
theorem dX8_step_97 : decode cX8_step 97 = .ok (.i2l, 1) := by decide +kernel
theorem dX8_step_98 : decode cX8_step 98 = .ok (.ldc2_w 102, 3) := by decide +kernel
theorem dX8_step_101 : decode cX8_step 101 = .ok (.ldc2_w 104, 3) := by decide +kernel
theorem dX8_step_104 : decode cX8_step 104 = .ok (.invokestatic 74, 3) := by decide +kernel
theorem dX8_step_107 : decode cX8_step 107 = .ok (.ifCond .eq 60, 3) := by decide +kernel
theorem dX8_step_110 : decode cX8_step 110 = .ok (.aload_n 0, 1) := by decide +kernel
theorem dX8_step_111 : decode cX8_step 111 = .ok (.aload_n 0, 1) := by decide +kernel
theorem dX8_step_112 : decode cX8_step 112 = .ok (.getfield 96, 3) := by decide +kernel
theorem dX8_step_115 : decode cX8_step 115 = .ok (.iconst 3, 1) := by decide +kernel
theorem dX8_step_116 : decode cX8_step 116 = .ok (.if_icmp .ge 21, 3) := by decide +kernel
theorem dX8_step_119 : decode cX8_step 119 = .ok (.bipush 10, 2) := by decide +kernel
theorem dX8_step_121 : decode cX8_step 121 = .ok (.aload_n 0, 1) := by decide +kernel
theorem dX8_step_122 : decode cX8_step 122 = .ok (.getfield 99, 3) := by decide +kernel
theorem dX8_step_125 : decode cX8_step 125 = .ok (.imul, 1) := by decide +kernel
theorem dX8_step_126 : decode cX8_step 126 = .ok (.aload_n 0, 1) := by decide +kernel
theorem dX8_step_127 : decode cX8_step 127 = .ok (.invokevirtual 86, 3) := by decide +kernel
theorem dX8_step_130 : decode cX8_step 130 = .ok (.iadd, 1) := by decide +kernel
theorem dX8_step_131 : decode cX8_step 131 = .ok (.bipush 48, 2) := by decide +kernel
theorem dX8_step_133 : decode cX8_step 133 = .ok (.isub, 1) := by decide +kernel
theorem dX8_step_134 : decode cX8_step 134 = .ok (.goto 7, 3) := by decide +kernel
theorem dX8_step_137 : decode cX8_step 137 = .ok (.aload_n 0, 1) := by decide +kernel
theorem dX8_step_138 : decode cX8_step 138 = .ok (.getfield 99, 3) := by decide +kernel
theorem dX8_step_141 : decode cX8_step 141 = .ok (.putfield 99, 3) := by decide +kernel
theorem dX8_step_144 : decode cX8_step 144 = .ok (.aload_n 0, 1) := by decide +kernel
theorem dX8_step_145 : decode cX8_step 145 = .ok (.dup, 1) := by decide +kernel
theorem dX8_step_146 : decode cX8_step 146 = .ok (.getfield 96, 3) := by decide +kernel
theorem dX8_step_149 : decode cX8_step 149 = .ok (.iconst 1, 1) := by decide +kernel
theorem dX8_step_150 : decode cX8_step 150 = .ok (.iadd, 1) := by decide +kernel
theorem dX8_step_151 : decode cX8_step 151 = .ok (.putfield 96, 3) := by decide +kernel
theorem dX8_step_154 : decode cX8_step 154 = .ok (.aload_n 0, 1) := by decide +kernel
theorem dX8_step_155 : decode cX8_step 155 = .ok (.dup, 1) := by decide +kernel
theorem dX8_step_156 : decode cX8_step 156 = .ok (.getfield 83, 3) := by decide +kernel
theorem dX8_step_159 : decode cX8_step 159 = .ok (.iconst 1, 1) := by decide +kernel
theorem dX8_step_160 : decode cX8_step 160 = .ok (.iadd, 1) := by decide +kernel
theorem dX8_step_161 : decode cX8_step 161 = .ok (.putfield 83, 3) := by decide +kernel
theorem dX8_step_164 : decode cX8_step 164 = .ok (.goto (-71), 3) := by decide +kernel
theorem dX8_step_167 : decode cX8_step 167 = .ok (.return_, 1) := by decide +kernel
theorem dX8_fails_0 : decode cX8_fails 0 = .ok (.aload_n 0, 1) := by decide +kernel
theorem dX8_fails_1 : decode cX8_fails 1 = .ok (.iload_n 1, 1) := by decide +kernel
theorem dX8_fails_2 : decode cX8_fails 2 = .ok (.putfield 106, 3) := by decide +kernel
theorem dX8_fails_5 : decode cX8_fails 5 = .ok (.iconst 0, 1) := by decide +kernel
theorem dX8_fails_6 : decode cX8_fails 6 = .ok (.ireturn, 1) := by decide +kernel
theorem dX8_number_0 : decode cX8_number 0 = .ok (.aload_n 0, 1) := by decide +kernel
theorem dX8_number_1 : decode cX8_number 1 = .ok (.invokevirtual 109, 3) := by decide +kernel
theorem dX8_number_4 : decode cX8_number 4 = .ok (.aload_n 0, 1) := by decide +kernel
theorem dX8_number_5 : decode cX8_number 5 = .ok (.getfield 93, 3) := by decide +kernel
theorem dX8_number_8 : decode cX8_number 8 = .ok (.bipush 48, 2) := by decide +kernel
theorem dX8_number_10 : decode cX8_number 10 = .ok (.if_icmp .eq 9, 3) := by decide +kernel
theorem dX8_number_13 : decode cX8_number 13 = .ok (.aload_n 0, 1) := by decide +kernel
theorem dX8_number_14 : decode cX8_number 14 = .ok (.iconst 1, 1) := by decide +kernel
theorem dX8_number_15 : decode cX8_number 15 = .ok (.invokevirtual 112, 3) := by decide +kernel
theorem dX8_number_18 : decode cX8_number 18 = .ok (.ireturn, 1) := by decide +kernel
theorem dX8_number_19 : decode cX8_number 19 = .ok (.aload_n 0, 1) := by decide +kernel
theorem dX8_number_20 : decode cX8_number 20 = .ok (.getfield 96, 3) := by decide +kernel
theorem dX8_number_23 : decode cX8_number 23 = .ok (.iconst 3, 1) := by decide +kernel
theorem dX8_number_24 : decode cX8_number 24 = .ok (.if_icmp .gt 18, 3) := by decide +kernel
theorem dX8_number_27 : decode cX8_number 27 = .ok (.aload_n 0, 1) := by decide +kernel
theorem dX8_number_28 : decode cX8_number 28 = .ok (.getfield 99, 3) := by decide +kernel
theorem dX8_number_31 : decode cX8_number 31 = .ok (.i2l, 1) := by decide +kernel
theorem dX8_number_32 : decode cX8_number 32 = .ok (.iload_n 2, 1) := by decide +kernel
theorem dX8_number_33 : decode cX8_number 33 = .ok (.i2l, 1) := by decide +kernel
theorem dX8_number_34 : decode cX8_number 34 = .ok (.iload_n 3, 1) := by decide +kernel
theorem dX8_number_35 : decode cX8_number 35 = .ok (.i2l, 1) := by decide +kernel
theorem dX8_number_36 : decode cX8_number 36 = .ok (.invokestatic 74, 3) := by decide +kernel
theorem dX8_number_39 : decode cX8_number 39 = .ok (.ifCond .ne 9, 3) := by decide +kernel
theorem dX8_number_42 : decode cX8_number 42 = .ok (.aload_n 0, 1) := by decide +kernel
theorem dX8_number_43 : decode cX8_number 43 = .ok (.iconst 2, 1) := by decide +kernel
theorem dX8_number_44 : decode cX8_number 44 = .ok (.invokevirtual 112, 3) := by decide +kernel
theorem dX8_number_47 : decode cX8_number 47 = .ok (.ireturn, 1) := by decide +kernel
theorem dX8_number_48 : decode cX8_number 48 = .ok (.aload_n 0, 1) := by decide +kernel
theorem dX8_number_49 : decode cX8_number 49 = .ok (.getfield 13, 3) := by decide +kernel
theorem dX8_number_52 : decode cX8_number 52 = .ok (.iload_n 1, 1) := by decide +kernel
theorem dX8_number_53 : decode cX8_number 53 = .ok (.aload_n 0, 1) := by decide +kernel
theorem dX8_number_54 : decode cX8_number 54 = .ok (.getfield 99, 3) := by decide +kernel
theorem dX8_number_57 : decode cX8_number 57 = .ok (.iastore, 1) := by decide +kernel
theorem dX8_number_58 : decode cX8_number 58 = .ok (.iconst 1, 1) := by decide +kernel
theorem dX8_number_59 : decode cX8_number 59 = .ok (.ireturn, 1) := by decide +kernel
theorem dX8_ends_0 : decode cX8_ends 0 = .ok (.aload_n 0, 1) := by decide +kernel
theorem dX8_ends_1 : decode cX8_ends 1 = .ok (.invokevirtual 109, 3) := by decide +kernel
theorem dX8_ends_4 : decode cX8_ends 4 = .ok (.aload_n 0, 1) := by decide +kernel
theorem dX8_ends_5 : decode cX8_ends 5 = .ok (.getfield 93, 3) := by decide +kernel
theorem dX8_ends_8 : decode cX8_ends 8 = .ok (.bipush 59, 2) := by decide +kernel
theorem dX8_ends_10 : decode cX8_ends 10 = .ok (.if_icmp .eq 11, 3) := by decide +kernel
theorem dX8_ends_13 : decode cX8_ends 13 = .ok (.aload_n 0, 1) := by decide +kernel
theorem dX8_ends_14 : decode cX8_ends 14 = .ok (.iconst 1, 1) := by decide +kernel
theorem dX8_ends_15 : decode cX8_ends 15 = .ok (.invokevirtual 112, 3) := by decide +kernel
theorem dX8_ends_18 : decode cX8_ends 18 = .ok (.ifCond .eq 7, 3) := by decide +kernel
theorem dX8_ends_21 : decode cX8_ends 21 = .ok (.iconst 1, 1) := by decide +kernel
theorem dX8_ends_22 : decode cX8_ends 22 = .ok (.goto 4, 3) := by decide +kernel
theorem dX8_ends_25 : decode cX8_ends 25 = .ok (.iconst 0, 1) := by decide +kernel
theorem dX8_ends_26 : decode cX8_ends 26 = .ok (.ireturn, 1) := by decide +kernel
theorem dX8_readsReader_0 : decode cX8_readsReader 0 = .ok (.aload_n 0, 1) := by decide +kernel
theorem dX8_readsReader_1 : decode cX8_readsReader 1 = .ok (.getfield 13, 3) := by decide +kernel
theorem dX8_readsReader_4 : decode cX8_readsReader 4 = .ok (.iconst 1, 1) := by decide +kernel
theorem dX8_readsReader_5 : decode cX8_readsReader 5 = .ok (.iaload, 1) := by decide +kernel
theorem dX8_readsReader_6 : decode cX8_readsReader 6 = .ok (.ifCond .le 9, 3) := by decide +kernel
theorem dX8_readsReader_9 : decode cX8_readsReader 9 = .ok (.aload_n 0, 1) := by decide +kernel
theorem dX8_readsReader_10 : decode cX8_readsReader 10 = .ok (.iconst 3, 1) := by decide +kernel
theorem dX8_readsReader_11 : decode cX8_readsReader 11 = .ok (.invokevirtual 112, 3) := by decide +kernel
theorem dX8_readsReader_14 : decode cX8_readsReader 14 = .ok (.ireturn, 1) := by decide +kernel
theorem dX8_readsReader_15 : decode cX8_readsReader 15 = .ok (.aload_n 0, 1) := by decide +kernel
theorem dX8_readsReader_16 : decode cX8_readsReader 16 = .ok (.iconst 0, 1) := by decide +kernel
theorem dX8_readsReader_17 : decode cX8_readsReader 17 = .ok (.iconst 1, 1) := by decide +kernel
theorem dX8_readsReader_18 : decode cX8_readsReader 18 = .ok (.iconst 3, 1) := by decide +kernel
theorem dX8_readsReader_19 : decode cX8_readsReader 19 = .ok (.invokevirtual 116, 3) := by decide +kernel
theorem dX8_readsReader_22 : decode cX8_readsReader 22 = .ok (.ifCond .ne 5, 3) := by decide +kernel
theorem dX8_readsReader_25 : decode cX8_readsReader 25 = .ok (.iconst 0, 1) := by decide +kernel
theorem dX8_readsReader_26 : decode cX8_readsReader 26 = .ok (.ireturn, 1) := by decide +kernel
theorem dX8_readsReader_27 : decode cX8_readsReader 27 = .ok (.iconst 1, 1) := by decide +kernel
theorem dX8_readsReader_28 : decode cX8_readsReader 28 = .ok (.istore_n 1, 1) := by decide +kernel
theorem dX8_readsReader_29 : decode cX8_readsReader 29 = .ok (.iload_n 1, 1) := by decide +kernel
theorem dX8_readsReader_30 : decode cX8_readsReader 30 = .ok (.ifCond .eq 71, 3) := by decide +kernel
theorem dX8_readsReader_33 : decode cX8_readsReader 33 = .ok (.aload_n 0, 1) := by decide +kernel
theorem dX8_readsReader_34 : decode cX8_readsReader 34 = .ok (.getfield 13, 3) := by decide +kernel
theorem dX8_readsReader_37 : decode cX8_readsReader 37 = .ok (.iconst 1, 1) := by decide +kernel
theorem dX8_readsReader_38 : decode cX8_readsReader 38 = .ok (.iaload, 1) := by decide +kernel
theorem dX8_readsReader_39 : decode cX8_readsReader 39 = .ok (.iconst 5, 1) := by decide +kernel
theorem dX8_readsReader_40 : decode cX8_readsReader 40 = .ok (.if_icmp .ne 9, 3) := by decide +kernel
theorem dX8_readsReader_43 : decode cX8_readsReader 43 = .ok (.aload_n 0, 1) := by decide +kernel
theorem dX8_readsReader_44 : decode cX8_readsReader 44 = .ok (.iconst 1, 1) := by decide +kernel
theorem dX8_readsReader_45 : decode cX8_readsReader 45 = .ok (.invokevirtual 112, 3) := by decide +kernel
theorem dX8_readsReader_48 : decode cX8_readsReader 48 = .ok (.ireturn, 1) := by decide +kernel
theorem dX8_readsReader_49 : decode cX8_readsReader 49 = .ok (.aload_n 0, 1) := by decide +kernel
theorem dX8_readsReader_50 : decode cX8_readsReader 50 = .ok (.iconst 5, 1) := by decide +kernel
theorem dX8_readsReader_51 : decode cX8_readsReader 51 = .ok (.aload_n 0, 1) := by decide +kernel
theorem dX8_readsReader_52 : decode cX8_readsReader 52 = .ok (.getfield 13, 3) := by decide +kernel
theorem dX8_readsReader_55 : decode cX8_readsReader 55 = .ok (.iconst 1, 1) := by decide +kernel
theorem dX8_readsReader_56 : decode cX8_readsReader 56 = .ok (.iaload, 1) := by decide +kernel
theorem dX8_readsReader_57 : decode cX8_readsReader 57 = .ok (.iadd, 1) := by decide +kernel
theorem dX8_readsReader_58 : decode cX8_readsReader 58 = .ok (.iconst 0, 1) := by decide +kernel
theorem dX8_readsReader_59 : decode cX8_readsReader 59 = .ok (.bipush 20, 2) := by decide +kernel
theorem dX8_readsReader_61 : decode cX8_readsReader 61 = .ok (.invokevirtual 116, 3) := by decide +kernel
theorem dX8_readsReader_64 : decode cX8_readsReader 64 = .ok (.ifCond .ne 5, 3) := by decide +kernel
theorem dX8_readsReader_67 : decode cX8_readsReader 67 = .ok (.iconst 0, 1) := by decide +kernel
theorem dX8_readsReader_68 : decode cX8_readsReader 68 = .ok (.ireturn, 1) := by decide +kernel
theorem dX8_readsReader_69 : decode cX8_readsReader 69 = .ok (.aload_n 0, 1) := by decide +kernel
theorem dX8_readsReader_70 : decode cX8_readsReader 70 = .ok (.getfield 13, 3) := by decide +kernel
theorem dX8_readsReader_73 : decode cX8_readsReader 73 = .ok (.iconst 1, 1) := by decide +kernel
theorem dX8_readsReader_74 : decode cX8_readsReader 74 = .ok (.dup2, 1) := by decide +kernel
theorem dX8_readsReader_75 : decode cX8_readsReader 75 = .ok (.iaload, 1) := by decide +kernel
theorem dX8_readsReader_76 : decode cX8_readsReader 76 = .ok (.iconst 1, 1) := by decide +kernel
theorem dX8_readsReader_77 : decode cX8_readsReader 77 = .ok (.iadd, 1) := by decide +kernel
theorem dX8_readsReader_78 : decode cX8_readsReader 78 = .ok (.iastore, 1) := by decide +kernel
theorem dX8_readsReader_79 : decode cX8_readsReader 79 = .ok (.aload_n 0, 1) := by decide +kernel
theorem dX8_readsReader_80 : decode cX8_readsReader 80 = .ok (.invokevirtual 109, 3) := by decide +kernel
theorem dX8_readsReader_83 : decode cX8_readsReader 83 = .ok (.aload_n 0, 1) := by decide +kernel
theorem dX8_readsReader_84 : decode cX8_readsReader 84 = .ok (.getfield 93, 3) := by decide +kernel
theorem dX8_readsReader_87 : decode cX8_readsReader 87 = .ok (.bipush 44, 2) := by decide +kernel
theorem dX8_readsReader_89 : decode cX8_readsReader 89 = .ok (.if_icmp .ne 7, 3) := by decide +kernel
theorem dX8_readsReader_92 : decode cX8_readsReader 92 = .ok (.iconst 1, 1) := by decide +kernel
theorem dX8_readsReader_93 : decode cX8_readsReader 93 = .ok (.goto 4, 3) := by decide +kernel
theorem dX8_readsReader_96 : decode cX8_readsReader 96 = .ok (.iconst 0, 1) := by decide +kernel
theorem dX8_readsReader_97 : decode cX8_readsReader 97 = .ok (.istore_n 1, 1) := by decide +kernel
theorem dX8_readsReader_98 : decode cX8_readsReader 98 = .ok (.goto (-69), 3) := by decide +kernel
theorem dX8_readsReader_101 : decode cX8_readsReader 101 = .ok (.aload_n 0, 1) := by decide +kernel
theorem dX8_readsReader_102 : decode cX8_readsReader 102 = .ok (.getfield 93, 3) := by decide +kernel
theorem dX8_readsReader_105 : decode cX8_readsReader 105 = .ok (.bipush 59, 2) := by decide +kernel
theorem dX8_readsReader_107 : decode cX8_readsReader 107 = .ok (.if_icmp .eq 11, 3) := by decide +kernel
theorem dX8_readsReader_110 : decode cX8_readsReader 110 = .ok (.aload_n 0, 1) := by decide +kernel
theorem dX8_readsReader_111 : decode cX8_readsReader 111 = .ok (.iconst 1, 1) := by decide +kernel
theorem dX8_readsReader_112 : decode cX8_readsReader 112 = .ok (.invokevirtual 112, 3) := by decide +kernel
theorem dX8_readsReader_115 : decode cX8_readsReader 115 = .ok (.ifCond .eq 7, 3) := by decide +kernel
theorem dX8_readsReader_118 : decode cX8_readsReader 118 = .ok (.iconst 1, 1) := by decide +kernel
theorem dX8_readsReader_119 : decode cX8_readsReader 119 = .ok (.goto 4, 3) := by decide +kernel
theorem dX8_readsReader_122 : decode cX8_readsReader 122 = .ok (.iconst 0, 1) := by decide +kernel
theorem dX8_readsReader_123 : decode cX8_readsReader 123 = .ok (.ireturn, 1) := by decide +kernel
theorem dX8_readsFact_0 : decode cX8_readsFact 0 = .ok (.aload_n 0, 1) := by decide +kernel
theorem dX8_readsFact_1 : decode cX8_readsFact 1 = .ok (.getfield 13, 3) := by decide +kernel
theorem dX8_readsFact_4 : decode cX8_readsFact 4 = .ok (.iconst 2, 1) := by decide +kernel
theorem dX8_readsFact_5 : decode cX8_readsFact 5 = .ok (.iaload, 1) := by decide +kernel
theorem dX8_readsFact_6 : decode cX8_readsFact 6 = .ok (.istore_n 1, 1) := by decide +kernel
theorem dX8_readsFact_7 : decode cX8_readsFact 7 = .ok (.iload_n 1, 1) := by decide +kernel
theorem dX8_readsFact_8 : decode cX8_readsFact 8 = .ok (.bipush 8, 2) := by decide +kernel
theorem dX8_readsFact_10 : decode cX8_readsFact 10 = .ok (.if_icmp .ne 9, 3) := by decide +kernel
theorem dX8_readsFact_13 : decode cX8_readsFact 13 = .ok (.aload_n 0, 1) := by decide +kernel
theorem dX8_readsFact_14 : decode cX8_readsFact 14 = .ok (.iconst 3, 1) := by decide +kernel
theorem dX8_readsFact_15 : decode cX8_readsFact 15 = .ok (.invokevirtual 112, 3) := by decide +kernel
theorem dX8_readsFact_18 : decode cX8_readsFact 18 = .ok (.ireturn, 1) := by decide +kernel
theorem dX8_readsFact_19 : decode cX8_readsFact 19 = .ok (.aload_n 0, 1) := by decide +kernel
theorem dX8_readsFact_20 : decode cX8_readsFact 20 = .ok (.bipush 10, 2) := by decide +kernel
theorem dX8_readsFact_22 : decode cX8_readsFact 22 = .ok (.iload_n 1, 1) := by decide +kernel
theorem dX8_readsFact_23 : decode cX8_readsFact 23 = .ok (.iadd, 1) := by decide +kernel
theorem dX8_readsFact_24 : decode cX8_readsFact 24 = .ok (.iconst 0, 1) := by decide +kernel
theorem dX8_readsFact_25 : decode cX8_readsFact 25 = .ok (.aload_n 0, 1) := by decide +kernel
theorem dX8_readsFact_26 : decode cX8_readsFact 26 = .ok (.getfield 13, 3) := by decide +kernel
theorem dX8_readsFact_29 : decode cX8_readsFact 29 = .ok (.iconst 1, 1) := by decide +kernel
theorem dX8_readsFact_30 : decode cX8_readsFact 30 = .ok (.iaload, 1) := by decide +kernel
theorem dX8_readsFact_31 : decode cX8_readsFact 31 = .ok (.iconst 1, 1) := by decide +kernel
theorem dX8_readsFact_32 : decode cX8_readsFact 32 = .ok (.isub, 1) := by decide +kernel
theorem dX8_readsFact_33 : decode cX8_readsFact 33 = .ok (.invokevirtual 116, 3) := by decide +kernel
theorem dX8_readsFact_36 : decode cX8_readsFact 36 = .ok (.ifCond .eq 31, 3) := by decide +kernel
theorem dX8_readsFact_39 : decode cX8_readsFact 39 = .ok (.aload_n 0, 1) := by decide +kernel
theorem dX8_readsFact_40 : decode cX8_readsFact 40 = .ok (.bipush 18, 2) := by decide +kernel
theorem dX8_readsFact_42 : decode cX8_readsFact 42 = .ok (.iload_n 1, 1) := by decide +kernel
theorem dX8_readsFact_43 : decode cX8_readsFact 43 = .ok (.iadd, 1) := by decide +kernel
theorem dX8_readsFact_44 : decode cX8_readsFact 44 = .ok (.iconst 0, 1) := by decide +kernel
theorem dX8_readsFact_45 : decode cX8_readsFact 45 = .ok (.bipush 18, 2) := by decide +kernel
theorem dX8_readsFact_47 : decode cX8_readsFact 47 = .ok (.invokevirtual 116, 3) := by decide +kernel
theorem dX8_readsFact_50 : decode cX8_readsFact 50 = .ok (.ifCond .eq 17, 3) := by decide +kernel
theorem dX8_readsFact_53 : decode cX8_readsFact 53 = .ok (.aload_n 0, 1) := by decide +kernel
theorem dX8_readsFact_54 : decode cX8_readsFact 54 = .ok (.bipush 26, 2) := by decide +kernel
theorem dX8_readsFact_56 : decode cX8_readsFact 56 = .ok (.iload_n 1, 1) := by decide +kernel
theorem dX8_readsFact_57 : decode cX8_readsFact 57 = .ok (.iadd, 1) := by decide +kernel
theorem dX8_readsFact_58 : decode cX8_readsFact 58 = .ok (.iconst 0, 1) := by decide +kernel
theorem dX8_readsFact_59 : decode cX8_readsFact 59 = .ok (.bipush 9, 2) := by decide +kernel
theorem dX8_readsFact_61 : decode cX8_readsFact 61 = .ok (.invokevirtual 116, 3) := by decide +kernel
theorem dX8_readsFact_64 : decode cX8_readsFact 64 = .ok (.ifCond .ne 5, 3) := by decide +kernel
theorem dX8_readsFact_67 : decode cX8_readsFact 67 = .ok (.iconst 0, 1) := by decide +kernel
theorem dX8_readsFact_68 : decode cX8_readsFact 68 = .ok (.ireturn, 1) := by decide +kernel
theorem dX8_readsFact_69 : decode cX8_readsFact 69 = .ok (.aload_n 0, 1) := by decide +kernel
theorem dX8_readsFact_70 : decode cX8_readsFact 70 = .ok (.getfield 13, 3) := by decide +kernel
theorem dX8_readsFact_73 : decode cX8_readsFact 73 = .ok (.bipush 26, 2) := by decide +kernel
theorem dX8_readsFact_75 : decode cX8_readsFact 75 = .ok (.iload_n 1, 1) := by decide +kernel
theorem dX8_readsFact_76 : decode cX8_readsFact 76 = .ok (.iadd, 1) := by decide +kernel
theorem dX8_readsFact_77 : decode cX8_readsFact 77 = .ok (.iaload, 1) := by decide +kernel
theorem dX8_readsFact_78 : decode cX8_readsFact 78 = .ok (.aload_n 0, 1) := by decide +kernel
theorem dX8_readsFact_79 : decode cX8_readsFact 79 = .ok (.getfield 13, 3) := by decide +kernel
theorem dX8_readsFact_82 : decode cX8_readsFact 82 = .ok (.iconst 1, 1) := by decide +kernel
theorem dX8_readsFact_83 : decode cX8_readsFact 83 = .ok (.iaload, 1) := by decide +kernel
theorem dX8_readsFact_84 : decode cX8_readsFact 84 = .ok (.if_icmp .lt 23, 3) := by decide +kernel
theorem dX8_readsFact_87 : decode cX8_readsFact 87 = .ok (.aload_n 0, 1) := by decide +kernel
theorem dX8_readsFact_88 : decode cX8_readsFact 88 = .ok (.getfield 13, 3) := by decide +kernel
theorem dX8_readsFact_91 : decode cX8_readsFact 91 = .ok (.bipush 26, 2) := by decide +kernel
theorem dX8_readsFact_93 : decode cX8_readsFact 93 = .ok (.iload_n 1, 1) := by decide +kernel
theorem dX8_readsFact_94 : decode cX8_readsFact 94 = .ok (.iadd, 1) := by decide +kernel
theorem dX8_readsFact_95 : decode cX8_readsFact 95 = .ok (.iaload, 1) := by decide +kernel
theorem dX8_readsFact_96 : decode cX8_readsFact 96 = .ok (.bipush 9, 2) := by decide +kernel
theorem dX8_readsFact_98 : decode cX8_readsFact 98 = .ok (.if_icmp .eq 9, 3) := by decide +kernel
theorem dX8_readsFact_101 : decode cX8_readsFact 101 = .ok (.aload_n 0, 1) := by decide +kernel
theorem dX8_readsFact_102 : decode cX8_readsFact 102 = .ok (.iconst 2, 1) := by decide +kernel
theorem dX8_readsFact_103 : decode cX8_readsFact 103 = .ok (.invokevirtual 112, 3) := by decide +kernel
theorem dX8_readsFact_106 : decode cX8_readsFact 106 = .ok (.ireturn, 1) := by decide +kernel
theorem dX8_readsFact_107 : decode cX8_readsFact 107 = .ok (.aload_n 0, 1) := by decide +kernel
theorem dX8_readsFact_108 : decode cX8_readsFact 108 = .ok (.getfield 13, 3) := by decide +kernel
theorem dX8_readsFact_111 : decode cX8_readsFact 111 = .ok (.iconst 2, 1) := by decide +kernel
theorem dX8_readsFact_112 : decode cX8_readsFact 112 = .ok (.dup2, 1) := by decide +kernel
theorem dX8_readsFact_113 : decode cX8_readsFact 113 = .ok (.iaload, 1) := by decide +kernel
theorem dX8_readsFact_114 : decode cX8_readsFact 114 = .ok (.iconst 1, 1) := by decide +kernel
theorem dX8_readsFact_115 : decode cX8_readsFact 115 = .ok (.iadd, 1) := by decide +kernel
theorem dX8_readsFact_116 : decode cX8_readsFact 116 = .ok (.iastore, 1) := by decide +kernel
theorem dX8_readsFact_117 : decode cX8_readsFact 117 = .ok (.aload_n 0, 1) := by decide +kernel
theorem dX8_readsFact_118 : decode cX8_readsFact 118 = .ok (.bipush 34, 2) := by decide +kernel
theorem dX8_readsFact_120 : decode cX8_readsFact 120 = .ok (.iload_n 1, 1) := by decide +kernel
theorem dX8_readsFact_121 : decode cX8_readsFact 121 = .ok (.iadd, 1) := by decide +kernel
theorem dX8_readsFact_122 : decode cX8_readsFact 122 = .ok (.iconst 0, 1) := by decide +kernel
theorem dX8_readsFact_123 : decode cX8_readsFact 123 = .ok (.bipush 20, 2) := by decide +kernel
theorem dX8_readsFact_125 : decode cX8_readsFact 125 = .ok (.invokevirtual 116, 3) := by decide +kernel
theorem dX8_readsFact_128 : decode cX8_readsFact 128 = .ok (.ifCond .eq 28, 3) := by decide +kernel
theorem dX8_readsFact_131 : decode cX8_readsFact 131 = .ok (.aload_n 0, 1) := by decide +kernel
theorem dX8_readsFact_132 : decode cX8_readsFact 132 = .ok (.bipush 42, 2) := by decide +kernel
theorem dX8_readsFact_134 : decode cX8_readsFact 134 = .ok (.iload_n 1, 1) := by decide +kernel
theorem dX8_readsFact_135 : decode cX8_readsFact 135 = .ok (.iadd, 1) := by decide +kernel
theorem dX8_readsFact_136 : decode cX8_readsFact 136 = .ok (.iconst 0, 1) := by decide +kernel
theorem dX8_readsFact_137 : decode cX8_readsFact 137 = .ok (.bipush 9, 2) := by decide +kernel
theorem dX8_readsFact_139 : decode cX8_readsFact 139 = .ok (.invokevirtual 116, 3) := by decide +kernel
theorem dX8_readsFact_142 : decode cX8_readsFact 142 = .ok (.ifCond .eq 14, 3) := by decide +kernel
theorem dX8_readsFact_145 : decode cX8_readsFact 145 = .ok (.aload_n 0, 1) := by decide +kernel
theorem dX8_readsFact_146 : decode cX8_readsFact 146 = .ok (.invokevirtual 120, 3) := by decide +kernel
theorem dX8_readsFact_149 : decode cX8_readsFact 149 = .ok (.ifCond .eq 7, 3) := by decide +kernel
theorem dX8_readsFact_152 : decode cX8_readsFact 152 = .ok (.iconst 1, 1) := by decide +kernel
theorem dX8_readsFact_153 : decode cX8_readsFact 153 = .ok (.goto 4, 3) := by decide +kernel
theorem dX8_readsFact_156 : decode cX8_readsFact 156 = .ok (.iconst 0, 1) := by decide +kernel
theorem dX8_readsFact_157 : decode cX8_readsFact 157 = .ok (.ireturn, 1) := by decide +kernel
theorem dX8_readsSure_0 : decode cX8_readsSure 0 = .ok (.aload_n 0, 1) := by decide +kernel
theorem dX8_readsSure_1 : decode cX8_readsSure 1 = .ok (.getfield 13, 3) := by decide +kernel
theorem dX8_readsSure_4 : decode cX8_readsSure 4 = .ok (.iconst 4, 1) := by decide +kernel
theorem dX8_readsSure_5 : decode cX8_readsSure 5 = .ok (.iaload, 1) := by decide +kernel
theorem dX8_readsSure_6 : decode cX8_readsSure 6 = .ok (.iconst 1, 1) := by decide +kernel
theorem dX8_readsSure_7 : decode cX8_readsSure 7 = .ok (.if_icmp .ne 9, 3) := by decide +kernel
theorem dX8_readsSure_10 : decode cX8_readsSure 10 = .ok (.aload_n 0, 1) := by decide +kernel
theorem dX8_readsSure_11 : decode cX8_readsSure 11 = .ok (.iconst 3, 1) := by decide +kernel
theorem dX8_readsSure_12 : decode cX8_readsSure 12 = .ok (.invokevirtual 112, 3) := by decide +kernel
theorem dX8_readsSure_15 : decode cX8_readsSure 15 = .ok (.ireturn, 1) := by decide +kernel
theorem dX8_readsSure_16 : decode cX8_readsSure 16 = .ok (.aload_n 0, 1) := by decide +kernel
theorem dX8_readsSure_17 : decode cX8_readsSure 17 = .ok (.getfield 13, 3) := by decide +kernel
theorem dX8_readsSure_20 : decode cX8_readsSure 20 = .ok (.iconst 4, 1) := by decide +kernel
theorem dX8_readsSure_21 : decode cX8_readsSure 21 = .ok (.iconst 1, 1) := by decide +kernel
theorem dX8_readsSure_22 : decode cX8_readsSure 22 = .ok (.iastore, 1) := by decide +kernel
theorem dX8_readsSure_23 : decode cX8_readsSure 23 = .ok (.aload_n 0, 1) := by decide +kernel
theorem dX8_readsSure_24 : decode cX8_readsSure 24 = .ok (.iconst 3, 1) := by decide +kernel
theorem dX8_readsSure_25 : decode cX8_readsSure 25 = .ok (.iconst 1, 1) := by decide +kernel
theorem dX8_readsSure_26 : decode cX8_readsSure 26 = .ok (.bipush 20, 2) := by decide +kernel
theorem dX8_readsSure_28 : decode cX8_readsSure 28 = .ok (.invokevirtual 116, 3) := by decide +kernel
theorem dX8_readsSure_31 : decode cX8_readsSure 31 = .ok (.ifCond .eq 14, 3) := by decide +kernel
theorem dX8_readsSure_34 : decode cX8_readsSure 34 = .ok (.aload_n 0, 1) := by decide +kernel
theorem dX8_readsSure_35 : decode cX8_readsSure 35 = .ok (.invokevirtual 120, 3) := by decide +kernel
theorem dX8_readsSure_38 : decode cX8_readsSure 38 = .ok (.ifCond .eq 7, 3) := by decide +kernel
theorem dX8_readsSure_41 : decode cX8_readsSure 41 = .ok (.iconst 1, 1) := by decide +kernel
theorem dX8_readsSure_42 : decode cX8_readsSure 42 = .ok (.goto 4, 3) := by decide +kernel
theorem dX8_readsSure_45 : decode cX8_readsSure 45 = .ok (.iconst 0, 1) := by decide +kernel
theorem dX8_readsSure_46 : decode cX8_readsSure 46 = .ok (.ireturn, 1) := by decide +kernel
theorem dX8_readsClause_0 : decode cX8_readsClause 0 = .ok (.aload_n 0, 1) := by decide +kernel
theorem dX8_readsClause_1 : decode cX8_readsClause 1 = .ok (.getfield 13, 3) := by decide +kernel
theorem dX8_readsClause_4 : decode cX8_readsClause 4 = .ok (.iconst 1, 1) := by decide +kernel
theorem dX8_readsClause_5 : decode cX8_readsClause 5 = .ok (.iaload, 1) := by decide +kernel
theorem dX8_readsClause_6 : decode cX8_readsClause 6 = .ok (.ifCond .ne 7, 3) := by decide +kernel
theorem dX8_readsClause_9 : decode cX8_readsClause 9 = .ok (.iconst 1, 1) := by decide +kernel
theorem dX8_readsClause_10 : decode cX8_readsClause 10 = .ok (.goto 4, 3) := by decide +kernel
theorem dX8_readsClause_13 : decode cX8_readsClause 13 = .ok (.iconst 0, 1) := by decide +kernel
theorem dX8_readsClause_14 : decode cX8_readsClause 14 = .ok (.istore_n 1, 1) := by decide +kernel
theorem dX8_readsClause_15 : decode cX8_readsClause 15 = .ok (.aload_n 0, 1) := by decide +kernel
theorem dX8_readsClause_16 : decode cX8_readsClause 16 = .ok (.getfield 93, 3) := by decide +kernel
theorem dX8_readsClause_19 : decode cX8_readsClause 19 = .ok (.lookupswitch 72 #[(102, 38), (104, 55), (114, 33)], 33) := by decide +kernel
theorem dX8_readsClause_52 : decode cX8_readsClause 52 = .ok (.aload_n 0, 1) := by decide +kernel
theorem dX8_readsClause_53 : decode cX8_readsClause 53 = .ok (.invokevirtual 124, 3) := by decide +kernel
theorem dX8_readsClause_56 : decode cX8_readsClause 56 = .ok (.ireturn, 1) := by decide +kernel
theorem dX8_readsClause_57 : decode cX8_readsClause 57 = .ok (.iload_n 1, 1) := by decide +kernel
theorem dX8_readsClause_58 : decode cX8_readsClause 58 = .ok (.ifCond .eq 11, 3) := by decide +kernel
theorem dX8_readsClause_61 : decode cX8_readsClause 61 = .ok (.aload_n 0, 1) := by decide +kernel
theorem dX8_readsClause_62 : decode cX8_readsClause 62 = .ok (.iconst 1, 1) := by decide +kernel
theorem dX8_readsClause_63 : decode cX8_readsClause 63 = .ok (.invokevirtual 112, 3) := by decide +kernel
theorem dX8_readsClause_66 : decode cX8_readsClause 66 = .ok (.goto 7, 3) := by decide +kernel
theorem dX8_readsClause_69 : decode cX8_readsClause 69 = .ok (.aload_n 0, 1) := by decide +kernel
theorem dX8_readsClause_70 : decode cX8_readsClause 70 = .ok (.invokevirtual 127, 3) := by decide +kernel
theorem dX8_readsClause_73 : decode cX8_readsClause 73 = .ok (.ireturn, 1) := by decide +kernel
theorem dX8_readsClause_74 : decode cX8_readsClause 74 = .ok (.iload_n 1, 1) := by decide +kernel
theorem dX8_readsClause_75 : decode cX8_readsClause 75 = .ok (.ifCond .eq 11, 3) := by decide +kernel
theorem dX8_readsClause_78 : decode cX8_readsClause 78 = .ok (.aload_n 0, 1) := by decide +kernel
theorem dX8_readsClause_79 : decode cX8_readsClause 79 = .ok (.iconst 1, 1) := by decide +kernel
theorem dX8_readsClause_80 : decode cX8_readsClause 80 = .ok (.invokevirtual 112, 3) := by decide +kernel
theorem dX8_readsClause_83 : decode cX8_readsClause 83 = .ok (.goto 7, 3) := by decide +kernel
theorem dX8_readsClause_86 : decode cX8_readsClause 86 = .ok (.aload_n 0, 1) := by decide +kernel
theorem dX8_readsClause_87 : decode cX8_readsClause 87 = .ok (.invokevirtual 130, 3) := by decide +kernel
theorem dX8_readsClause_90 : decode cX8_readsClause 90 = .ok (.ireturn, 1) := by decide +kernel
theorem dX8_readsClause_91 : decode cX8_readsClause 91 = .ok (.aload_n 0, 1) := by decide +kernel
theorem dX8_readsClause_92 : decode cX8_readsClause 92 = .ok (.iconst 1, 1) := by decide +kernel
theorem dX8_readsClause_93 : decode cX8_readsClause 93 = .ok (.invokevirtual 112, 3) := by decide +kernel
theorem dX8_readsClause_96 : decode cX8_readsClause 96 = .ok (.ireturn, 1) := by decide +kernel
theorem dX8_city_0 : decode cX8_city 0 = .ok (.iconst 0, 1) := by decide +kernel
theorem dX8_city_1 : decode cX8_city 1 = .ok (.istore_n 1, 1) := by decide +kernel
theorem dX8_city_2 : decode cX8_city 2 = .ok (.iload_n 1, 1) := by decide +kernel
theorem dX8_city_3 : decode cX8_city 3 = .ok (.bipush 50, 2) := by decide +kernel
theorem dX8_city_5 : decode cX8_city 5 = .ok (.if_icmp .ge 16, 3) := by decide +kernel
theorem dX8_city_8 : decode cX8_city 8 = .ok (.aload_n 0, 1) := by decide +kernel
theorem dX8_city_9 : decode cX8_city 9 = .ok (.getfield 13, 3) := by decide +kernel
theorem dX8_city_12 : decode cX8_city 12 = .ok (.iload_n 1, 1) := by decide +kernel
theorem dX8_city_13 : decode cX8_city 13 = .ok (.iconst 0, 1) := by decide +kernel
theorem dX8_city_14 : decode cX8_city 14 = .ok (.iastore, 1) := by decide +kernel
theorem dX8_city_15 : decode cX8_city 15 = .ok (.iinc 1 1, 3) := by decide +kernel
theorem dX8_city_18 : decode cX8_city 18 = .ok (.goto (-16), 3) := by decide +kernel
theorem dX8_city_21 : decode cX8_city 21 = .ok (.aload_n 0, 1) := by decide +kernel
theorem dX8_city_22 : decode cX8_city 22 = .ok (.getfield 13, 3) := by decide +kernel
theorem dX8_city_25 : decode cX8_city 25 = .ok (.iconst 3, 1) := by decide +kernel
theorem dX8_city_26 : decode cX8_city 26 = .ok (.bipush 10, 2) := by decide +kernel
theorem dX8_city_28 : decode cX8_city 28 = .ok (.iastore, 1) := by decide +kernel
theorem dX8_city_29 : decode cX8_city 29 = .ok (.aload_n 0, 1) := by decide +kernel
theorem dX8_city_30 : decode cX8_city 30 = .ok (.iconst 0, 1) := by decide +kernel
theorem dX8_city_31 : decode cX8_city 31 = .ok (.putfield 83, 3) := by decide +kernel
theorem dX8_city_34 : decode cX8_city 34 = .ok (.aload_n 0, 1) := by decide +kernel
theorem dX8_city_35 : decode cX8_city 35 = .ok (.iconst (-1), 1) := by decide +kernel
theorem dX8_city_36 : decode cX8_city 36 = .ok (.putfield 32, 3) := by decide +kernel
theorem dX8_city_39 : decode cX8_city 39 = .ok (.iconst 1, 1) := by decide +kernel
theorem dX8_city_40 : decode cX8_city 40 = .ok (.istore_n 1, 1) := by decide +kernel
theorem dX8_city_41 : decode cX8_city 41 = .ok (.aload_n 0, 1) := by decide +kernel
theorem dX8_city_42 : decode cX8_city 42 = .ok (.invokevirtual 109, 3) := by decide +kernel
theorem dX8_city_45 : decode cX8_city 45 = .ok (.aload_n 0, 1) := by decide +kernel
theorem dX8_city_46 : decode cX8_city 46 = .ok (.getfield 93, 3) := by decide +kernel
theorem dX8_city_49 : decode cX8_city 49 = .ok (.ifCond .lt 23, 3) := by decide +kernel
theorem dX8_city_52 : decode cX8_city 52 = .ok (.iload_n 1, 1) := by decide +kernel
theorem dX8_city_53 : decode cX8_city 53 = .ok (.ifCond .eq 19, 3) := by decide +kernel
theorem dX8_city_56 : decode cX8_city 56 = .ok (.aload_n 0, 1) := by decide +kernel
theorem dX8_city_57 : decode cX8_city 57 = .ok (.invokevirtual 133, 3) := by decide +kernel
theorem dX8_city_60 : decode cX8_city 60 = .ok (.istore_n 1, 1) := by decide +kernel
theorem dX8_city_61 : decode cX8_city 61 = .ok (.iload_n 1, 1) := by decide +kernel
theorem dX8_city_62 : decode cX8_city 62 = .ok (.ifCond .eq (-17), 3) := by decide +kernel
theorem dX8_city_65 : decode cX8_city 65 = .ok (.aload_n 0, 1) := by decide +kernel
theorem dX8_city_66 : decode cX8_city 66 = .ok (.invokevirtual 109, 3) := by decide +kernel
theorem dX8_city_69 : decode cX8_city 69 = .ok (.goto (-24), 3) := by decide +kernel
theorem dX8_city_72 : decode cX8_city 72 = .ok (.aload_n 0, 1) := by decide +kernel
theorem dX8_city_73 : decode cX8_city 73 = .ok (.iconst 0, 1) := by decide +kernel
theorem dX8_city_74 : decode cX8_city 74 = .ok (.putfield 79, 3) := by decide +kernel
theorem dX8_city_77 : decode cX8_city 77 = .ok (.iload_n 1, 1) := by decide +kernel
theorem dX8_city_78 : decode cX8_city 78 = .ok (.ifCond .ne 19, 3) := by decide +kernel
theorem dX8_city_81 : decode cX8_city 81 = .ok (.aload_n 0, 1) := by decide +kernel
theorem dX8_city_82 : decode cX8_city 82 = .ok (.aload_n 0, 1) := by decide +kernel
theorem dX8_city_83 : decode cX8_city 83 = .ok (.getfield 90, 3) := by decide +kernel
theorem dX8_city_86 : decode cX8_city 86 = .ok (.putfield 32, 3) := by decide +kernel
theorem dX8_city_89 : decode cX8_city 89 = .ok (.bipush (-10), 2) := by decide +kernel
theorem dX8_city_91 : decode cX8_city 91 = .ok (.aload_n 0, 1) := by decide +kernel
theorem dX8_city_92 : decode cX8_city 92 = .ok (.getfield 106, 3) := by decide +kernel
theorem dX8_city_95 : decode cX8_city 95 = .ok (.isub, 1) := by decide +kernel
theorem dX8_city_96 : decode cX8_city 96 = .ok (.ireturn, 1) := by decide +kernel
theorem dX8_city_97 : decode cX8_city 97 = .ok (.iconst 0, 1) := by decide +kernel
theorem dX8_city_98 : decode cX8_city 98 = .ok (.istore_n 2, 1) := by decide +kernel
theorem dX8_city_99 : decode cX8_city 99 = .ok (.iload_n 2, 1) := by decide +kernel
theorem dX8_city_100 : decode cX8_city 100 = .ok (.bipush 50, 2) := by decide +kernel
theorem dX8_city_102 : decode cX8_city 102 = .ok (.if_icmp .ge 21, 3) := by decide +kernel
theorem dX8_city_105 : decode cX8_city 105 = .ok (.aload_n 0, 1) := by decide +kernel
theorem dX8_city_106 : decode cX8_city 106 = .ok (.getfield 7, 3) := by decide +kernel
theorem dX8_city_109 : decode cX8_city 109 = .ok (.iload_n 2, 1) := by decide +kernel
theorem dX8_city_110 : decode cX8_city 110 = .ok (.aload_n 0, 1) := by decide +kernel
theorem dX8_city_111 : decode cX8_city 111 = .ok (.getfield 13, 3) := by decide +kernel
theorem dX8_city_114 : decode cX8_city 114 = .ok (.iload_n 2, 1) := by decide +kernel
theorem dX8_city_115 : decode cX8_city 115 = .ok (.iaload, 1) := by decide +kernel
theorem dX8_city_116 : decode cX8_city 116 = .ok (.iastore, 1) := by decide +kernel
theorem dX8_city_117 : decode cX8_city 117 = .ok (.iinc 2 1, 3) := by decide +kernel
theorem dX8_city_120 : decode cX8_city 120 = .ok (.goto (-21), 3) := by decide +kernel
theorem dX8_city_123 : decode cX8_city 123 = .ok (.aload_n 0, 1) := by decide +kernel
theorem dX8_city_124 : decode cX8_city 124 = .ok (.invokevirtual 60, 3) := by decide +kernel
theorem dX8_city_127 : decode cX8_city 127 = .ok (.aload_n 0, 1) := by decide +kernel
theorem dX8_city_128 : decode cX8_city 128 = .ok (.getfield 7, 3) := by decide +kernel
theorem dX8_city_131 : decode cX8_city 131 = .ok (.iconst 2, 1) := by decide +kernel
theorem dX8_city_132 : decode cX8_city 132 = .ok (.iaload, 1) := by decide +kernel
theorem dX8_city_133 : decode cX8_city 133 = .ok (.ireturn, 1) := by decide +kernel
theorem dX8_fault_0 : decode cX8_fault 0 = .ok (.aload_n 0, 1) := by decide +kernel
theorem dX8_fault_1 : decode cX8_fault 1 = .ok (.getfield 32, 3) := by decide +kernel
theorem dX8_fault_4 : decode cX8_fault 4 = .ok (.ireturn, 1) := by decide +kernel
theorem dX8_isOpinion_0 : decode cX8_isOpinion 0 = .ok (.iload_n 1, 1) := by decide +kernel
theorem dX8_isOpinion_1 : decode cX8_isOpinion 1 = .ok (.i2l, 1) := by decide +kernel
theorem dX8_isOpinion_2 : decode cX8_isOpinion 2 = .ok (.lconst 0, 1) := by decide +kernel
theorem dX8_isOpinion_3 : decode cX8_isOpinion 3 = .ok (.aload_n 0, 1) := by decide +kernel
theorem dX8_isOpinion_4 : decode cX8_isOpinion 4 = .ok (.getfield 7, 3) := by decide +kernel
theorem dX8_isOpinion_7 : decode cX8_isOpinion 7 = .ok (.iconst 1, 1) := by decide +kernel
theorem dX8_isOpinion_8 : decode cX8_isOpinion 8 = .ok (.iaload, 1) := by decide +kernel
theorem dX8_isOpinion_9 : decode cX8_isOpinion 9 = .ok (.iconst 1, 1) := by decide +kernel
theorem dX8_isOpinion_10 : decode cX8_isOpinion 10 = .ok (.isub, 1) := by decide +kernel
theorem dX8_isOpinion_11 : decode cX8_isOpinion 11 = .ok (.i2l, 1) := by decide +kernel
theorem dX8_isOpinion_12 : decode cX8_isOpinion 12 = .ok (.invokestatic 74, 3) := by decide +kernel
theorem dX8_isOpinion_15 : decode cX8_isOpinion 15 = .ok (.ireturn, 1) := by decide +kernel
theorem dX8_isFact_0 : decode cX8_isFact 0 = .ok (.iload_n 1, 1) := by decide +kernel
theorem dX8_isFact_1 : decode cX8_isFact 1 = .ok (.i2l, 1) := by decide +kernel
theorem dX8_isFact_2 : decode cX8_isFact 2 = .ok (.lconst 0, 1) := by decide +kernel
theorem dX8_isFact_3 : decode cX8_isFact 3 = .ok (.aload_n 0, 1) := by decide +kernel
theorem dX8_isFact_4 : decode cX8_isFact 4 = .ok (.getfield 7, 3) := by decide +kernel
theorem dX8_isFact_7 : decode cX8_isFact 7 = .ok (.iconst 2, 1) := by decide +kernel
theorem dX8_isFact_8 : decode cX8_isFact 8 = .ok (.iaload, 1) := by decide +kernel
theorem dX8_isFact_9 : decode cX8_isFact 9 = .ok (.iconst 1, 1) := by decide +kernel
theorem dX8_isFact_10 : decode cX8_isFact 10 = .ok (.isub, 1) := by decide +kernel
theorem dX8_isFact_11 : decode cX8_isFact 11 = .ok (.i2l, 1) := by decide +kernel
theorem dX8_isFact_12 : decode cX8_isFact 12 = .ok (.invokestatic 74, 3) := by decide +kernel
theorem dX8_isFact_15 : decode cX8_isFact 15 = .ok (.ireturn, 1) := by decide +kernel
theorem dX8_areFacts_0 : decode cX8_areFacts 0 = .ok (.iload_n 1, 1) := by decide +kernel
theorem dX8_areFacts_1 : decode cX8_areFacts 1 = .ok (.i2l, 1) := by decide +kernel
theorem dX8_areFacts_2 : decode cX8_areFacts 2 = .ok (.lconst 0, 1) := by decide +kernel
theorem dX8_areFacts_3 : decode cX8_areFacts 3 = .ok (.iconst 1, 1) := by decide +kernel
theorem dX8_areFacts_4 : decode cX8_areFacts 4 = .ok (.aload_n 0, 1) := by decide +kernel
theorem dX8_areFacts_5 : decode cX8_areFacts 5 = .ok (.getfield 7, 3) := by decide +kernel
theorem dX8_areFacts_8 : decode cX8_areFacts 8 = .ok (.iconst 2, 1) := by decide +kernel
theorem dX8_areFacts_9 : decode cX8_areFacts 9 = .ok (.iaload, 1) := by decide +kernel
theorem dX8_areFacts_10 : decode cX8_areFacts 10 = .ok (.ishl, 1) := by decide +kernel
theorem dX8_areFacts_11 : decode cX8_areFacts 11 = .ok (.iconst 1, 1) := by decide +kernel
theorem dX8_areFacts_12 : decode cX8_areFacts 12 = .ok (.isub, 1) := by decide +kernel
theorem dX8_areFacts_13 : decode cX8_areFacts 13 = .ok (.i2l, 1) := by decide +kernel
theorem dX8_areFacts_14 : decode cX8_areFacts 14 = .ok (.invokestatic 74, 3) := by decide +kernel
theorem dX8_areFacts_17 : decode cX8_areFacts 17 = .ok (.ireturn, 1) := by decide +kernel
theorem dX8_areOpinions_0 : decode cX8_areOpinions 0 = .ok (.iload_n 1, 1) := by decide +kernel
theorem dX8_areOpinions_1 : decode cX8_areOpinions 1 = .ok (.i2l, 1) := by decide +kernel
theorem dX8_areOpinions_2 : decode cX8_areOpinions 2 = .ok (.lconst 0, 1) := by decide +kernel
theorem dX8_areOpinions_3 : decode cX8_areOpinions 3 = .ok (.iconst 1, 1) := by decide +kernel
theorem dX8_areOpinions_4 : decode cX8_areOpinions 4 = .ok (.aload_n 0, 1) := by decide +kernel
theorem dX8_areOpinions_5 : decode cX8_areOpinions 5 = .ok (.getfield 7, 3) := by decide +kernel
theorem dX8_areOpinions_8 : decode cX8_areOpinions 8 = .ok (.iconst 1, 1) := by decide +kernel
theorem dX8_areOpinions_9 : decode cX8_areOpinions 9 = .ok (.iaload, 1) := by decide +kernel
theorem dX8_areOpinions_10 : decode cX8_areOpinions 10 = .ok (.ishl, 1) := by decide +kernel
theorem dX8_areOpinions_11 : decode cX8_areOpinions 11 = .ok (.iconst 1, 1) := by decide +kernel
theorem dX8_areOpinions_12 : decode cX8_areOpinions 12 = .ok (.isub, 1) := by decide +kernel
theorem dX8_areOpinions_13 : decode cX8_areOpinions 13 = .ok (.i2l, 1) := by decide +kernel
theorem dX8_areOpinions_14 : decode cX8_areOpinions 14 = .ok (.invokestatic 74, 3) := by decide +kernel
theorem dX8_areOpinions_17 : decode cX8_areOpinions 17 = .ok (.ireturn, 1) := by decide +kernel
theorem dX8_convinced_0 : decode cX8_convinced 0 = .ok (.iconst 0, 1) := by decide +kernel
theorem dX8_convinced_1 : decode cX8_convinced 1 = .ok (.istore_n 2, 1) := by decide +kernel
theorem dX8_convinced_2 : decode cX8_convinced 2 = .ok (.iconst 0, 1) := by decide +kernel
theorem dX8_convinced_3 : decode cX8_convinced 3 = .ok (.istore_n 3, 1) := by decide +kernel
theorem dX8_convinced_4 : decode cX8_convinced 4 = .ok (.iload_n 3, 1) := by decide +kernel
theorem dX8_convinced_5 : decode cX8_convinced 5 = .ok (.aload_n 0, 1) := by decide +kernel
theorem dX8_convinced_6 : decode cX8_convinced 6 = .ok (.getfield 7, 3) := by decide +kernel
theorem dX8_convinced_9 : decode cX8_convinced 9 = .ok (.iconst 1, 1) := by decide +kernel
theorem dX8_convinced_10 : decode cX8_convinced 10 = .ok (.iaload, 1) := by decide +kernel
theorem dX8_convinced_11 : decode cX8_convinced 11 = .ok (.if_icmp .ge 31, 3) := by decide +kernel
theorem dX8_convinced_14 : decode cX8_convinced 14 = .ok (.iload_n 2, 1) := by decide +kernel
theorem dX8_convinced_15 : decode cX8_convinced 15 = .ok (.aload_n 1, 1) := by decide +kernel
theorem dX8_convinced_16 : decode cX8_convinced 16 = .ok (.iload_n 3, 1) := by decide +kernel
theorem dX8_convinced_17 : decode cX8_convinced 17 = .ok (.iaload, 1) := by decide +kernel
theorem dX8_convinced_18 : decode cX8_convinced 18 = .ok (.aload_n 0, 1) := by decide +kernel
theorem dX8_convinced_19 : decode cX8_convinced 19 = .ok (.getfield 7, 3) := by decide +kernel
theorem dX8_convinced_22 : decode cX8_convinced 22 = .ok (.iconst 3, 1) := by decide +kernel
theorem dX8_convinced_23 : decode cX8_convinced 23 = .ok (.iaload, 1) := by decide +kernel
theorem dX8_convinced_24 : decode cX8_convinced 24 = .ok (.if_icmp .lt 9, 3) := by decide +kernel
theorem dX8_convinced_27 : decode cX8_convinced 27 = .ok (.iconst 1, 1) := by decide +kernel
theorem dX8_convinced_28 : decode cX8_convinced 28 = .ok (.iload_n 3, 1) := by decide +kernel
theorem dX8_convinced_29 : decode cX8_convinced 29 = .ok (.ishl, 1) := by decide +kernel
theorem dX8_convinced_30 : decode cX8_convinced 30 = .ok (.goto 4, 3) := by decide +kernel
theorem dX8_convinced_33 : decode cX8_convinced 33 = .ok (.iconst 0, 1) := by decide +kernel
theorem dX8_convinced_34 : decode cX8_convinced 34 = .ok (.ior, 1) := by decide +kernel
theorem dX8_convinced_35 : decode cX8_convinced 35 = .ok (.istore_n 2, 1) := by decide +kernel
theorem dX8_convinced_36 : decode cX8_convinced 36 = .ok (.iinc 3 1, 3) := by decide +kernel
theorem dX8_convinced_39 : decode cX8_convinced 39 = .ok (.goto (-35), 3) := by decide +kernel
theorem dX8_convinced_42 : decode cX8_convinced 42 = .ok (.iload_n 2, 1) := by decide +kernel
theorem dX8_convinced_43 : decode cX8_convinced 43 = .ok (.ireturn, 1) := by decide +kernel
theorem dX8_told_0 : decode cX8_told 0 = .ok (.iload_n 1, 1) := by decide +kernel
theorem dX8_told_1 : decode cX8_told 1 = .ok (.tableswitch 135 0 12 #[67, 67, 67, 67, 74, 79, 87, 95, 104, 112, 120, 125, 130], 67) := by decide +kernel
theorem dX8_told_68 : decode cX8_told 68 = .ok (.aload_n 0, 1) := by decide +kernel
theorem dX8_told_69 : decode cX8_told 69 = .ok (.getfield 7, 3) := by decide +kernel
theorem dX8_told_72 : decode cX8_told 72 = .ok (.iload_n 1, 1) := by decide +kernel
theorem dX8_told_73 : decode cX8_told 73 = .ok (.iaload, 1) := by decide +kernel
theorem dX8_told_74 : decode cX8_told 74 = .ok (.ireturn, 1) := by decide +kernel
theorem dX8_told_75 : decode cX8_told 75 = .ok (.aload_n 0, 1) := by decide +kernel
theorem dX8_told_76 : decode cX8_told 76 = .ok (.getfield 79, 3) := by decide +kernel
theorem dX8_told_79 : decode cX8_told 79 = .ok (.ireturn, 1) := by decide +kernel
theorem dX8_told_80 : decode cX8_told 80 = .ok (.aload_n 0, 1) := by decide +kernel
theorem dX8_told_81 : decode cX8_told 81 = .ok (.getfield 16, 3) := by decide +kernel
theorem dX8_told_84 : decode cX8_told 84 = .ok (.bipush 14, 2) := by decide +kernel
theorem dX8_told_86 : decode cX8_told 86 = .ok (.iaload, 1) := by decide +kernel
theorem dX8_told_87 : decode cX8_told 87 = .ok (.ireturn, 1) := by decide +kernel
theorem dX8_told_88 : decode cX8_told 88 = .ok (.aload_n 0, 1) := by decide +kernel
theorem dX8_told_89 : decode cX8_told 89 = .ok (.getfield 16, 3) := by decide +kernel
theorem dX8_told_92 : decode cX8_told 92 = .ok (.bipush 15, 2) := by decide +kernel
theorem dX8_told_94 : decode cX8_told 94 = .ok (.iaload, 1) := by decide +kernel
theorem dX8_told_95 : decode cX8_told 95 = .ok (.ireturn, 1) := by decide +kernel
theorem dX8_told_96 : decode cX8_told 96 = .ok (.aload_n 0, 1) := by decide +kernel
theorem dX8_told_97 : decode cX8_told 97 = .ok (.aload_n 0, 1) := by decide +kernel
theorem dX8_told_98 : decode cX8_told 98 = .ok (.getfield 16, 3) := by decide +kernel
theorem dX8_told_101 : decode cX8_told 101 = .ok (.invokevirtual 136, 3) := by decide +kernel
theorem dX8_told_104 : decode cX8_told 104 = .ok (.ireturn, 1) := by decide +kernel
theorem dX8_told_105 : decode cX8_told 105 = .ok (.aload_n 0, 1) := by decide +kernel
theorem dX8_told_106 : decode cX8_told 106 = .ok (.getfield 16, 3) := by decide +kernel
theorem dX8_told_109 : decode cX8_told 109 = .ok (.bipush 13, 2) := by decide +kernel
theorem dX8_told_111 : decode cX8_told 111 = .ok (.iaload, 1) := by decide +kernel
theorem dX8_told_112 : decode cX8_told 112 = .ok (.ireturn, 1) := by decide +kernel
theorem dX8_told_113 : decode cX8_told 113 = .ok (.aload_n 0, 1) := by decide +kernel
theorem dX8_told_114 : decode cX8_told 114 = .ok (.getfield 16, 3) := by decide +kernel
theorem dX8_told_117 : decode cX8_told 117 = .ok (.bipush 16, 2) := by decide +kernel
theorem dX8_told_119 : decode cX8_told 119 = .ok (.iaload, 1) := by decide +kernel
theorem dX8_told_120 : decode cX8_told 120 = .ok (.ireturn, 1) := by decide +kernel
theorem dX8_told_121 : decode cX8_told 121 = .ok (.aload_n 0, 1) := by decide +kernel
theorem dX8_told_122 : decode cX8_told 122 = .ok (.getfield 66, 3) := by decide +kernel
theorem dX8_told_125 : decode cX8_told 125 = .ok (.ireturn, 1) := by decide +kernel
theorem dX8_told_126 : decode cX8_told 126 = .ok (.aload_n 0, 1) := by decide +kernel
theorem dX8_told_127 : decode cX8_told 127 = .ok (.getfield 69, 3) := by decide +kernel
theorem dX8_told_130 : decode cX8_told 130 = .ok (.ireturn, 1) := by decide +kernel
theorem dX8_told_131 : decode cX8_told 131 = .ok (.aload_n 0, 1) := by decide +kernel
theorem dX8_told_132 : decode cX8_told 132 = .ok (.getfield 63, 3) := by decide +kernel
theorem dX8_told_135 : decode cX8_told 135 = .ok (.ireturn, 1) := by decide +kernel
theorem dX8_told_136 : decode cX8_told 136 = .ok (.ldc 78, 2) := by decide +kernel
theorem dX8_told_138 : decode cX8_told 138 = .ok (.ireturn, 1) := by decide +kernel
theorem dX8_belief_0 : decode cX8_belief 0 = .ok (.aload_n 0, 1) := by decide +kernel
theorem dX8_belief_1 : decode cX8_belief 1 = .ok (.iload_n 1, 1) := by decide +kernel
theorem dX8_belief_2 : decode cX8_belief 2 = .ok (.invokevirtual 140, 3) := by decide +kernel
theorem dX8_belief_5 : decode cX8_belief 5 = .ok (.ifCond .eq 12, 3) := by decide +kernel
theorem dX8_belief_8 : decode cX8_belief 8 = .ok (.aload_n 0, 1) := by decide +kernel
theorem dX8_belief_9 : decode cX8_belief 9 = .ok (.getfield 16, 3) := by decide +kernel
theorem dX8_belief_12 : decode cX8_belief 12 = .ok (.iload_n 1, 1) := by decide +kernel
theorem dX8_belief_13 : decode cX8_belief 13 = .ok (.iaload, 1) := by decide +kernel
theorem dX8_belief_14 : decode cX8_belief 14 = .ok (.goto 5, 3) := by decide +kernel
theorem dX8_belief_17 : decode cX8_belief 17 = .ok (.ldc 143, 2) := by decide +kernel
theorem dX8_belief_19 : decode cX8_belief 19 = .ok (.ireturn, 1) := by decide +kernel
theorem dX8_fact_0 : decode cX8_fact 0 = .ok (.aload_n 0, 1) := by decide +kernel
theorem dX8_fact_1 : decode cX8_fact 1 = .ok (.iload_n 1, 1) := by decide +kernel
theorem dX8_fact_2 : decode cX8_fact 2 = .ok (.invokevirtual 144, 3) := by decide +kernel
theorem dX8_fact_5 : decode cX8_fact 5 = .ok (.ifCond .ne 6, 3) := by decide +kernel
theorem dX8_fact_8 : decode cX8_fact 8 = .ok (.ldc 143, 2) := by decide +kernel
theorem dX8_fact_10 : decode cX8_fact 10 = .ok (.ireturn, 1) := by decide +kernel
theorem dX8_fact_11 : decode cX8_fact 11 = .ok (.iload_n 2, 1) := by decide +kernel
theorem dX8_fact_12 : decode cX8_fact 12 = .ok (.tableswitch 116 0 6 #[44, 44, 59, 44, 44, 87, 107], 44) := by decide +kernel
theorem dX8_fact_56 : decode cX8_fact 56 = .ok (.aload_n 0, 1) := by decide +kernel
theorem dX8_fact_57 : decode cX8_fact 57 = .ok (.getfield 7, 3) := by decide +kernel
theorem dX8_fact_60 : decode cX8_fact 60 = .ok (.bipush 10, 2) := by decide +kernel
theorem dX8_fact_62 : decode cX8_fact 62 = .ok (.bipush 8, 2) := by decide +kernel
theorem dX8_fact_64 : decode cX8_fact 64 = .ok (.iload_n 2, 1) := by decide +kernel
theorem dX8_fact_65 : decode cX8_fact 65 = .ok (.imul, 1) := by decide +kernel
theorem dX8_fact_66 : decode cX8_fact 66 = .ok (.iadd, 1) := by decide +kernel
theorem dX8_fact_67 : decode cX8_fact 67 = .ok (.iload_n 1, 1) := by decide +kernel
theorem dX8_fact_68 : decode cX8_fact 68 = .ok (.iadd, 1) := by decide +kernel
theorem dX8_fact_69 : decode cX8_fact 69 = .ok (.iaload, 1) := by decide +kernel
theorem dX8_fact_70 : decode cX8_fact 70 = .ok (.ireturn, 1) := by decide +kernel
theorem dX8_fact_71 : decode cX8_fact 71 = .ok (.aload_n 0, 1) := by decide +kernel
theorem dX8_fact_72 : decode cX8_fact 72 = .ok (.getfield 7, 3) := by decide +kernel
theorem dX8_fact_75 : decode cX8_fact 75 = .ok (.bipush 26, 2) := by decide +kernel
theorem dX8_fact_77 : decode cX8_fact 77 = .ok (.iload_n 1, 1) := by decide +kernel
theorem dX8_fact_78 : decode cX8_fact 78 = .ok (.iadd, 1) := by decide +kernel
theorem dX8_fact_79 : decode cX8_fact 79 = .ok (.iaload, 1) := by decide +kernel
theorem dX8_fact_80 : decode cX8_fact 80 = .ok (.bipush 9, 2) := by decide +kernel
theorem dX8_fact_82 : decode cX8_fact 82 = .ok (.if_icmp .ne 7, 3) := by decide +kernel
theorem dX8_fact_85 : decode cX8_fact 85 = .ok (.iconst (-1), 1) := by decide +kernel
theorem dX8_fact_86 : decode cX8_fact 86 = .ok (.goto 12, 3) := by decide +kernel
theorem dX8_fact_89 : decode cX8_fact 89 = .ok (.aload_n 0, 1) := by decide +kernel
theorem dX8_fact_90 : decode cX8_fact 90 = .ok (.getfield 7, 3) := by decide +kernel
theorem dX8_fact_93 : decode cX8_fact 93 = .ok (.bipush 26, 2) := by decide +kernel
theorem dX8_fact_95 : decode cX8_fact 95 = .ok (.iload_n 1, 1) := by decide +kernel
theorem dX8_fact_96 : decode cX8_fact 96 = .ok (.iadd, 1) := by decide +kernel
theorem dX8_fact_97 : decode cX8_fact 97 = .ok (.iaload, 1) := by decide +kernel
theorem dX8_fact_98 : decode cX8_fact 98 = .ok (.ireturn, 1) := by decide +kernel
theorem dX8_fact_99 : decode cX8_fact 99 = .ok (.aload_n 0, 1) := by decide +kernel
theorem dX8_fact_100 : decode cX8_fact 100 = .ok (.getfield 16, 3) := by decide +kernel
theorem dX8_fact_103 : decode cX8_fact 103 = .ok (.bipush 13, 2) := by decide +kernel
theorem dX8_fact_105 : decode cX8_fact 105 = .ok (.iaload, 1) := by decide +kernel
theorem dX8_fact_106 : decode cX8_fact 106 = .ok (.iload_n 1, 1) := by decide +kernel
theorem dX8_fact_107 : decode cX8_fact 107 = .ok (.invokestatic 147, 3) := by decide +kernel
theorem dX8_fact_110 : decode cX8_fact 110 = .ok (.ifCond .eq 7, 3) := by decide +kernel
theorem dX8_fact_113 : decode cX8_fact 113 = .ok (.iconst 1, 1) := by decide +kernel
theorem dX8_fact_114 : decode cX8_fact 114 = .ok (.goto 4, 3) := by decide +kernel
theorem dX8_fact_117 : decode cX8_fact 117 = .ok (.iconst 0, 1) := by decide +kernel
theorem dX8_fact_118 : decode cX8_fact 118 = .ok (.ireturn, 1) := by decide +kernel
theorem dX8_fact_119 : decode cX8_fact 119 = .ok (.aload_n 0, 1) := by decide +kernel
theorem dX8_fact_120 : decode cX8_fact 120 = .ok (.getfield 16, 3) := by decide +kernel
theorem dX8_fact_123 : decode cX8_fact 123 = .ok (.iconst 5, 1) := by decide +kernel
theorem dX8_fact_124 : decode cX8_fact 124 = .ok (.iload_n 1, 1) := by decide +kernel
theorem dX8_fact_125 : decode cX8_fact 125 = .ok (.iadd, 1) := by decide +kernel
theorem dX8_fact_126 : decode cX8_fact 126 = .ok (.iaload, 1) := by decide +kernel
theorem dX8_fact_127 : decode cX8_fact 127 = .ok (.ireturn, 1) := by decide +kernel
theorem dX8_fact_128 : decode cX8_fact 128 = .ok (.ldc 78, 2) := by decide +kernel
theorem dX8_fact_130 : decode cX8_fact 130 = .ok (.ireturn, 1) := by decide +kernel
theorem dX8_bound_0 : decode cX8_bound 0 = .ok (.iload_n 0, 1) := by decide +kernel
theorem dX8_bound_1 : decode cX8_bound 1 = .ok (.ifCond .ge 7, 3) := by decide +kernel
theorem dX8_bound_4 : decode cX8_bound 4 = .ok (.iconst 0, 1) := by decide +kernel
theorem dX8_bound_5 : decode cX8_bound 5 = .ok (.goto 15, 3) := by decide +kernel
theorem dX8_bound_8 : decode cX8_bound 8 = .ok (.iload_n 0, 1) := by decide +kernel
theorem dX8_bound_9 : decode cX8_bound 9 = .ok (.bipush 20, 2) := by decide +kernel
theorem dX8_bound_11 : decode cX8_bound 11 = .ok (.if_icmp .le 8, 3) := by decide +kernel
theorem dX8_bound_14 : decode cX8_bound 14 = .ok (.bipush 20, 2) := by decide +kernel
theorem dX8_bound_16 : decode cX8_bound 16 = .ok (.goto 4, 3) := by decide +kernel
theorem dX8_bound_19 : decode cX8_bound 19 = .ok (.iload_n 0, 1) := by decide +kernel
theorem dX8_bound_20 : decode cX8_bound 20 = .ok (.ireturn, 1) := by decide +kernel
theorem dX8_reads_0 : decode cX8_reads 0 = .ok (.aload_n 0, 1) := by decide +kernel
theorem dX8_reads_1 : decode cX8_reads 1 = .ok (.getfield 7, 3) := by decide +kernel
theorem dX8_reads_4 : decode cX8_reads 4 = .ok (.bipush 10, 2) := by decide +kernel
theorem dX8_reads_6 : decode cX8_reads 6 = .ok (.iload_n 2, 1) := by decide +kernel
theorem dX8_reads_7 : decode cX8_reads 7 = .ok (.iadd, 1) := by decide +kernel
theorem dX8_reads_8 : decode cX8_reads 8 = .ok (.iaload, 1) := by decide +kernel
theorem dX8_reads_9 : decode cX8_reads 9 = .ok (.istore 4, 2) := by decide +kernel
theorem dX8_reads_11 : decode cX8_reads 11 = .ok (.aload_n 0, 1) := by decide +kernel
theorem dX8_reads_12 : decode cX8_reads 12 = .ok (.getfield 7, 3) := by decide +kernel
theorem dX8_reads_15 : decode cX8_reads 15 = .ok (.bipush 26, 2) := by decide +kernel
theorem dX8_reads_17 : decode cX8_reads 17 = .ok (.iload_n 2, 1) := by decide +kernel
theorem dX8_reads_18 : decode cX8_reads 18 = .ok (.iadd, 1) := by decide +kernel
theorem dX8_reads_19 : decode cX8_reads 19 = .ok (.iaload, 1) := by decide +kernel
theorem dX8_reads_20 : decode cX8_reads 20 = .ok (.istore 5, 2) := by decide +kernel
theorem dX8_reads_22 : decode cX8_reads 22 = .ok (.aload_n 1, 1) := by decide +kernel
theorem dX8_reads_23 : decode cX8_reads 23 = .ok (.iload 4, 2) := by decide +kernel
theorem dX8_reads_25 : decode cX8_reads 25 = .ok (.iaload, 1) := by decide +kernel
theorem dX8_reads_26 : decode cX8_reads 26 = .ok (.istore 6, 2) := by decide +kernel
theorem dX8_reads_28 : decode cX8_reads 28 = .ok (.iload 5, 2) := by decide +kernel
theorem dX8_reads_30 : decode cX8_reads 30 = .ok (.bipush 9, 2) := by decide +kernel
theorem dX8_reads_32 : decode cX8_reads 32 = .ok (.if_icmp .eq 19, 3) := by decide +kernel
theorem dX8_reads_35 : decode cX8_reads 35 = .ok (.aload_n 1, 1) := by decide +kernel
theorem dX8_reads_36 : decode cX8_reads 36 = .ok (.iload 5, 2) := by decide +kernel
theorem dX8_reads_38 : decode cX8_reads 38 = .ok (.iaload, 1) := by decide +kernel
theorem dX8_reads_39 : decode cX8_reads 39 = .ok (.aload_n 0, 1) := by decide +kernel
theorem dX8_reads_40 : decode cX8_reads 40 = .ok (.getfield 7, 3) := by decide +kernel
theorem dX8_reads_43 : decode cX8_reads 43 = .ok (.bipush 34, 2) := by decide +kernel
theorem dX8_reads_45 : decode cX8_reads 45 = .ok (.iload_n 2, 1) := by decide +kernel
theorem dX8_reads_46 : decode cX8_reads 46 = .ok (.iadd, 1) := by decide +kernel
theorem dX8_reads_47 : decode cX8_reads 47 = .ok (.iaload, 1) := by decide +kernel
theorem dX8_reads_48 : decode cX8_reads 48 = .ok (.if_icmp .lt 24, 3) := by decide +kernel
theorem dX8_reads_51 : decode cX8_reads 51 = .ok (.aload_n 1, 1) := by decide +kernel
theorem dX8_reads_52 : decode cX8_reads 52 = .ok (.iload 4, 2) := by decide +kernel
theorem dX8_reads_54 : decode cX8_reads 54 = .ok (.aload_n 1, 1) := by decide +kernel
theorem dX8_reads_55 : decode cX8_reads 55 = .ok (.iload 4, 2) := by decide +kernel
theorem dX8_reads_57 : decode cX8_reads 57 = .ok (.iaload, 1) := by decide +kernel
theorem dX8_reads_58 : decode cX8_reads 58 = .ok (.iload_n 3, 1) := by decide +kernel
theorem dX8_reads_59 : decode cX8_reads 59 = .ok (.iconst 1, 1) := by decide +kernel
theorem dX8_reads_60 : decode cX8_reads 60 = .ok (.aload_n 1, 1) := by decide +kernel
theorem dX8_reads_61 : decode cX8_reads 61 = .ok (.iconst 5, 1) := by decide +kernel
theorem dX8_reads_62 : decode cX8_reads 62 = .ok (.iload_n 2, 1) := by decide +kernel
theorem dX8_reads_63 : decode cX8_reads 63 = .ok (.iadd, 1) := by decide +kernel
theorem dX8_reads_64 : decode cX8_reads 64 = .ok (.iaload, 1) := by decide +kernel
theorem dX8_reads_65 : decode cX8_reads 65 = .ok (.iadd, 1) := by decide +kernel
theorem dX8_reads_66 : decode cX8_reads 66 = .ok (.idiv, 1) := by decide +kernel
theorem dX8_reads_67 : decode cX8_reads 67 = .ok (.iadd, 1) := by decide +kernel
theorem dX8_reads_68 : decode cX8_reads 68 = .ok (.invokestatic 151, 3) := by decide +kernel
theorem dX8_reads_71 : decode cX8_reads 71 = .ok (.iastore, 1) := by decide +kernel
theorem dX8_reads_72 : decode cX8_reads 72 = .ok (.aload_n 1, 1) := by decide +kernel
theorem dX8_reads_73 : decode cX8_reads 73 = .ok (.iconst 5, 1) := by decide +kernel
theorem dX8_reads_74 : decode cX8_reads 74 = .ok (.iload_n 2, 1) := by decide +kernel
theorem dX8_reads_75 : decode cX8_reads 75 = .ok (.iadd, 1) := by decide +kernel
theorem dX8_reads_76 : decode cX8_reads 76 = .ok (.dup2, 1) := by decide +kernel
theorem dX8_reads_77 : decode cX8_reads 77 = .ok (.iaload, 1) := by decide +kernel
theorem dX8_reads_78 : decode cX8_reads 78 = .ok (.iconst 1, 1) := by decide +kernel
theorem dX8_reads_79 : decode cX8_reads 79 = .ok (.iadd, 1) := by decide +kernel
theorem dX8_reads_80 : decode cX8_reads 80 = .ok (.iastore, 1) := by decide +kernel
theorem dX8_reads_81 : decode cX8_reads 81 = .ok (.iload 6, 2) := by decide +kernel
theorem dX8_reads_83 : decode cX8_reads 83 = .ok (.aload_n 0, 1) := by decide +kernel
theorem dX8_reads_84 : decode cX8_reads 84 = .ok (.getfield 7, 3) := by decide +kernel
theorem dX8_reads_87 : decode cX8_reads 87 = .ok (.iconst 3, 1) := by decide +kernel
theorem dX8_reads_88 : decode cX8_reads 88 = .ok (.iaload, 1) := by decide +kernel
theorem dX8_reads_89 : decode cX8_reads 89 = .ok (.if_icmp .ge 20, 3) := by decide +kernel
theorem dX8_reads_92 : decode cX8_reads 92 = .ok (.aload_n 1, 1) := by decide +kernel
theorem dX8_reads_93 : decode cX8_reads 93 = .ok (.iload 4, 2) := by decide +kernel
theorem dX8_reads_95 : decode cX8_reads 95 = .ok (.iaload, 1) := by decide +kernel
theorem dX8_reads_96 : decode cX8_reads 96 = .ok (.aload_n 0, 1) := by decide +kernel
theorem dX8_reads_97 : decode cX8_reads 97 = .ok (.getfield 7, 3) := by decide +kernel
theorem dX8_reads_100 : decode cX8_reads 100 = .ok (.iconst 3, 1) := by decide +kernel
theorem dX8_reads_101 : decode cX8_reads 101 = .ok (.iaload, 1) := by decide +kernel
theorem dX8_reads_102 : decode cX8_reads 102 = .ok (.if_icmp .lt 7, 3) := by decide +kernel
theorem dX8_reads_105 : decode cX8_reads 105 = .ok (.iconst 1, 1) := by decide +kernel
theorem dX8_reads_106 : decode cX8_reads 106 = .ok (.goto 4, 3) := by decide +kernel
theorem dX8_reads_109 : decode cX8_reads 109 = .ok (.iconst 0, 1) := by decide +kernel
theorem dX8_reads_110 : decode cX8_reads 110 = .ok (.ireturn, 1) := by decide +kernel
theorem dX8_byOf_0 : decode cX8_byOf 0 = .ok (.aload_n 0, 1) := by decide +kernel
theorem dX8_byOf_1 : decode cX8_byOf 1 = .ok (.getfield 7, 3) := by decide +kernel
theorem dX8_byOf_4 : decode cX8_byOf 4 = .ok (.bipush 18, 2) := by decide +kernel
theorem dX8_byOf_6 : decode cX8_byOf 6 = .ok (.iload_n 1, 1) := by decide +kernel
theorem dX8_byOf_7 : decode cX8_byOf 7 = .ok (.iadd, 1) := by decide +kernel
theorem dX8_byOf_8 : decode cX8_byOf 8 = .ok (.iaload, 1) := by decide +kernel
theorem dX8_byOf_9 : decode cX8_byOf 9 = .ok (.bipush 9, 2) := by decide +kernel
theorem dX8_byOf_11 : decode cX8_byOf 11 = .ok (.isub, 1) := by decide +kernel
theorem dX8_byOf_12 : decode cX8_byOf 12 = .ok (.ireturn, 1) := by decide +kernel
theorem dX8_readsSheet_0 : decode cX8_readsSheet 0 = .ok (.iconst (-1), 1) := by decide +kernel
theorem dX8_readsSheet_1 : decode cX8_readsSheet 1 = .ok (.istore_n 3, 1) := by decide +kernel
theorem dX8_readsSheet_2 : decode cX8_readsSheet 2 = .ok (.iconst 0, 1) := by decide +kernel
theorem dX8_readsSheet_3 : decode cX8_readsSheet 3 = .ok (.istore 4, 2) := by decide +kernel
theorem dX8_readsSheet_5 : decode cX8_readsSheet 5 = .ok (.iload 4, 2) := by decide +kernel
theorem dX8_readsSheet_7 : decode cX8_readsSheet 7 = .ok (.aload_n 0, 1) := by decide +kernel
theorem dX8_readsSheet_8 : decode cX8_readsSheet 8 = .ok (.getfield 7, 3) := by decide +kernel
theorem dX8_readsSheet_11 : decode cX8_readsSheet 11 = .ok (.iconst 2, 1) := by decide +kernel
theorem dX8_readsSheet_12 : decode cX8_readsSheet 12 = .ok (.iaload, 1) := by decide +kernel
theorem dX8_readsSheet_13 : decode cX8_readsSheet 13 = .ok (.if_icmp .ge 50, 3) := by decide +kernel
theorem dX8_readsSheet_16 : decode cX8_readsSheet 16 = .ok (.iload_n 2, 1) := by decide +kernel
theorem dX8_readsSheet_17 : decode cX8_readsSheet 17 = .ok (.iload 4, 2) := by decide +kernel
theorem dX8_readsSheet_19 : decode cX8_readsSheet 19 = .ok (.invokestatic 147, 3) := by decide +kernel
theorem dX8_readsSheet_22 : decode cX8_readsSheet 22 = .ok (.ifCond .eq 35, 3) := by decide +kernel
theorem dX8_readsSheet_25 : decode cX8_readsSheet 25 = .ok (.aload_n 0, 1) := by decide +kernel
theorem dX8_readsSheet_26 : decode cX8_readsSheet 26 = .ok (.aload_n 1, 1) := by decide +kernel
theorem dX8_readsSheet_27 : decode cX8_readsSheet 27 = .ok (.iload 4, 2) := by decide +kernel
theorem dX8_readsSheet_29 : decode cX8_readsSheet 29 = .ok (.aload_n 0, 1) := by decide +kernel
theorem dX8_readsSheet_30 : decode cX8_readsSheet 30 = .ok (.iload 4, 2) := by decide +kernel
theorem dX8_readsSheet_32 : decode cX8_readsSheet 32 = .ok (.invokevirtual 155, 3) := by decide +kernel
theorem dX8_readsSheet_35 : decode cX8_readsSheet 35 = .ok (.invokevirtual 158, 3) := by decide +kernel
theorem dX8_readsSheet_38 : decode cX8_readsSheet 38 = .ok (.istore 5, 2) := by decide +kernel
theorem dX8_readsSheet_40 : decode cX8_readsSheet 40 = .ok (.iload 5, 2) := by decide +kernel
theorem dX8_readsSheet_42 : decode cX8_readsSheet 42 = .ok (.ifCond .eq 13, 3) := by decide +kernel
theorem dX8_readsSheet_45 : decode cX8_readsSheet 45 = .ok (.iload_n 3, 1) := by decide +kernel
theorem dX8_readsSheet_46 : decode cX8_readsSheet 46 = .ok (.iconst (-1), 1) := by decide +kernel
theorem dX8_readsSheet_47 : decode cX8_readsSheet 47 = .ok (.if_icmp .ne 8, 3) := by decide +kernel
theorem dX8_readsSheet_50 : decode cX8_readsSheet 50 = .ok (.iload 4, 2) := by decide +kernel
theorem dX8_readsSheet_52 : decode cX8_readsSheet 52 = .ok (.goto 4, 3) := by decide +kernel
theorem dX8_readsSheet_55 : decode cX8_readsSheet 55 = .ok (.iload_n 3, 1) := by decide +kernel
theorem dX8_readsSheet_56 : decode cX8_readsSheet 56 = .ok (.istore_n 3, 1) := by decide +kernel
theorem dX8_readsSheet_57 : decode cX8_readsSheet 57 = .ok (.iinc 4 1, 3) := by decide +kernel
theorem dX8_readsSheet_60 : decode cX8_readsSheet 60 = .ok (.goto (-55), 3) := by decide +kernel
theorem dX8_readsSheet_63 : decode cX8_readsSheet 63 = .ok (.iload_n 3, 1) := by decide +kernel
theorem dX8_readsSheet_64 : decode cX8_readsSheet 64 = .ok (.ireturn, 1) := by decide +kernel
theorem dX8_maySheet_0 : decode cX8_maySheet 0 = .ok (.aload_n 0, 1) := by decide +kernel
theorem dX8_maySheet_1 : decode cX8_maySheet 1 = .ok (.getfield 7, 3) := by decide +kernel
theorem dX8_maySheet_4 : decode cX8_maySheet 4 = .ok (.iconst 1, 1) := by decide +kernel
theorem dX8_maySheet_5 : decode cX8_maySheet 5 = .ok (.iaload, 1) := by decide +kernel
theorem dX8_maySheet_6 : decode cX8_maySheet 6 = .ok (.ifCond .le 28, 3) := by decide +kernel
theorem dX8_maySheet_9 : decode cX8_maySheet 9 = .ok (.iload_n 1, 1) := by decide +kernel
theorem dX8_maySheet_10 : decode cX8_maySheet 10 = .ok (.iload_n 2, 1) := by decide +kernel
theorem dX8_maySheet_11 : decode cX8_maySheet 11 = .ok (.iconst (-1), 1) := by decide +kernel
theorem dX8_maySheet_12 : decode cX8_maySheet 12 = .ok (.ixor, 1) := by decide +kernel
theorem dX8_maySheet_13 : decode cX8_maySheet 13 = .ok (.iand, 1) := by decide +kernel
theorem dX8_maySheet_14 : decode cX8_maySheet 14 = .ok (.ifCond .ne 20, 3) := by decide +kernel
theorem dX8_maySheet_17 : decode cX8_maySheet 17 = .ok (.iload_n 1, 1) := by decide +kernel
theorem dX8_maySheet_18 : decode cX8_maySheet 18 = .ok (.invokestatic 162, 3) := by decide +kernel
theorem dX8_maySheet_21 : decode cX8_maySheet 21 = .ok (.aload_n 0, 1) := by decide +kernel
theorem dX8_maySheet_22 : decode cX8_maySheet 22 = .ok (.getfield 7, 3) := by decide +kernel
theorem dX8_maySheet_25 : decode cX8_maySheet 25 = .ok (.iconst 0, 1) := by decide +kernel
theorem dX8_maySheet_26 : decode cX8_maySheet 26 = .ok (.iaload, 1) := by decide +kernel
theorem dX8_maySheet_27 : decode cX8_maySheet 27 = .ok (.if_icmp .gt 7, 3) := by decide +kernel
theorem dX8_maySheet_30 : decode cX8_maySheet 30 = .ok (.iconst 1, 1) := by decide +kernel
theorem dX8_maySheet_31 : decode cX8_maySheet 31 = .ok (.goto 4, 3) := by decide +kernel
theorem dX8_maySheet_34 : decode cX8_maySheet 34 = .ok (.iconst 0, 1) := by decide +kernel
theorem dX8_maySheet_35 : decode cX8_maySheet 35 = .ok (.ireturn, 1) := by decide +kernel
theorem dX8_copies_0 : decode cX8_copies 0 = .ok (.iconst 0, 1) := by decide +kernel
theorem dX8_copies_1 : decode cX8_copies 1 = .ok (.istore 5, 2) := by decide +kernel
theorem dX8_copies_3 : decode cX8_copies 3 = .ok (.iload 5, 2) := by decide +kernel
theorem dX8_copies_5 : decode cX8_copies 5 = .ok (.iload 4, 2) := by decide +kernel
theorem dX8_copies_7 : decode cX8_copies 7 = .ok (.if_icmp .ge 21, 3) := by decide +kernel
theorem dX8_copies_10 : decode cX8_copies 10 = .ok (.aload_n 2, 1) := by decide +kernel
theorem dX8_copies_11 : decode cX8_copies 11 = .ok (.iload_n 3, 1) := by decide +kernel
theorem dX8_copies_12 : decode cX8_copies 12 = .ok (.iload 5, 2) := by decide +kernel
theorem dX8_copies_14 : decode cX8_copies 14 = .ok (.iadd, 1) := by decide +kernel
theorem dX8_copies_15 : decode cX8_copies 15 = .ok (.aload_n 0, 1) := by decide +kernel
theorem dX8_copies_16 : decode cX8_copies 16 = .ok (.iload_n 1, 1) := by decide +kernel
theorem dX8_copies_17 : decode cX8_copies 17 = .ok (.iload 5, 2) := by decide +kernel
theorem dX8_copies_19 : decode cX8_copies 19 = .ok (.iadd, 1) := by decide +kernel
theorem dX8_copies_20 : decode cX8_copies 20 = .ok (.iaload, 1) := by decide +kernel
theorem dX8_copies_21 : decode cX8_copies 21 = .ok (.iastore, 1) := by decide +kernel
theorem dX8_copies_22 : decode cX8_copies 22 = .ok (.iinc 5 1, 3) := by decide +kernel
theorem dX8_copies_25 : decode cX8_copies 25 = .ok (.goto (-22), 3) := by decide +kernel
theorem dX8_copies_28 : decode cX8_copies 28 = .ok (.return_, 1) := by decide +kernel
theorem dX8_remember_0 : decode cX8_remember 0 = .ok (.aload_n 0, 1) := by decide +kernel
theorem dX8_remember_1 : decode cX8_remember 1 = .ok (.getfield 63, 3) := by decide +kernel
theorem dX8_remember_4 : decode cX8_remember 4 = .ok (.bipush 20, 2) := by decide +kernel
theorem dX8_remember_6 : decode cX8_remember 6 = .ok (.if_icmp .ne 43, 3) := by decide +kernel
theorem dX8_remember_9 : decode cX8_remember 9 = .ok (.iconst 0, 1) := by decide +kernel
theorem dX8_remember_10 : decode cX8_remember 10 = .ok (.istore_n 1, 1) := by decide +kernel
theorem dX8_remember_11 : decode cX8_remember 11 = .ok (.iload_n 1, 1) := by decide +kernel
theorem dX8_remember_12 : decode cX8_remember 12 = .ok (.sipush 323, 3) := by decide +kernel
theorem dX8_remember_15 : decode cX8_remember 15 = .ok (.if_icmp .ge 24, 3) := by decide +kernel
theorem dX8_remember_18 : decode cX8_remember 18 = .ok (.aload_n 0, 1) := by decide +kernel
theorem dX8_remember_19 : decode cX8_remember 19 = .ok (.getfield 19, 3) := by decide +kernel
theorem dX8_remember_22 : decode cX8_remember 22 = .ok (.iload_n 1, 1) := by decide +kernel
theorem dX8_remember_23 : decode cX8_remember 23 = .ok (.aload_n 0, 1) := by decide +kernel
theorem dX8_remember_24 : decode cX8_remember 24 = .ok (.getfield 19, 3) := by decide +kernel
theorem dX8_remember_27 : decode cX8_remember 27 = .ok (.iload_n 1, 1) := by decide +kernel
theorem dX8_remember_28 : decode cX8_remember 28 = .ok (.bipush 17, 2) := by decide +kernel
theorem dX8_remember_30 : decode cX8_remember 30 = .ok (.iadd, 1) := by decide +kernel
theorem dX8_remember_31 : decode cX8_remember 31 = .ok (.iaload, 1) := by decide +kernel
theorem dX8_remember_32 : decode cX8_remember 32 = .ok (.iastore, 1) := by decide +kernel
theorem dX8_remember_33 : decode cX8_remember 33 = .ok (.iinc 1 1, 3) := by decide +kernel
theorem dX8_remember_36 : decode cX8_remember 36 = .ok (.goto (-25), 3) := by decide +kernel
theorem dX8_remember_39 : decode cX8_remember 39 = .ok (.aload_n 0, 1) := by decide +kernel
theorem dX8_remember_40 : decode cX8_remember 40 = .ok (.dup, 1) := by decide +kernel
theorem dX8_remember_41 : decode cX8_remember 41 = .ok (.getfield 63, 3) := by decide +kernel
theorem dX8_remember_44 : decode cX8_remember 44 = .ok (.iconst 1, 1) := by decide +kernel
theorem dX8_remember_45 : decode cX8_remember 45 = .ok (.isub, 1) := by decide +kernel
theorem dX8_remember_46 : decode cX8_remember 46 = .ok (.putfield 63, 3) := by decide +kernel
theorem dX8_remember_49 : decode cX8_remember 49 = .ok (.aload_n 0, 1) := by decide +kernel
theorem dX8_remember_50 : decode cX8_remember 50 = .ok (.getfield 16, 3) := by decide +kernel
theorem dX8_remember_53 : decode cX8_remember 53 = .ok (.iconst 0, 1) := by decide +kernel
theorem dX8_remember_54 : decode cX8_remember 54 = .ok (.aload_n 0, 1) := by decide +kernel
theorem dX8_remember_55 : decode cX8_remember 55 = .ok (.getfield 19, 3) := by decide +kernel
theorem dX8_remember_58 : decode cX8_remember 58 = .ok (.bipush 17, 2) := by decide +kernel
theorem dX8_remember_60 : decode cX8_remember 60 = .ok (.aload_n 0, 1) := by decide +kernel
theorem dX8_remember_61 : decode cX8_remember 61 = .ok (.getfield 63, 3) := by decide +kernel
theorem dX8_remember_64 : decode cX8_remember 64 = .ok (.imul, 1) := by decide +kernel
theorem dX8_remember_65 : decode cX8_remember 65 = .ok (.bipush 17, 2) := by decide +kernel
theorem dX8_remember_67 : decode cX8_remember 67 = .ok (.invokestatic 165, 3) := by decide +kernel
theorem dX8_remember_70 : decode cX8_remember 70 = .ok (.aload_n 0, 1) := by decide +kernel
theorem dX8_remember_71 : decode cX8_remember 71 = .ok (.dup, 1) := by decide +kernel
theorem dX8_remember_72 : decode cX8_remember 72 = .ok (.getfield 63, 3) := by decide +kernel
theorem dX8_remember_75 : decode cX8_remember 75 = .ok (.iconst 1, 1) := by decide +kernel
theorem dX8_remember_76 : decode cX8_remember 76 = .ok (.iadd, 1) := by decide +kernel
theorem dX8_remember_77 : decode cX8_remember 77 = .ok (.putfield 63, 3) := by decide +kernel
theorem dX8_remember_80 : decode cX8_remember 80 = .ok (.return_, 1) := by decide +kernel
theorem dX8_prints_0 : decode cX8_prints 0 = .ok (.aload_n 0, 1) := by decide +kernel
theorem dX8_prints_1 : decode cX8_prints 1 = .ok (.getfield 16, 3) := by decide +kernel
theorem dX8_prints_4 : decode cX8_prints 4 = .ok (.bipush 16, 2) := by decide +kernel
theorem dX8_prints_6 : decode cX8_prints 6 = .ok (.aload_n 0, 1) := by decide +kernel
theorem dX8_prints_7 : decode cX8_prints 7 = .ok (.aload_n 0, 1) := by decide +kernel
theorem dX8_prints_8 : decode cX8_prints 8 = .ok (.getfield 16, 3) := by decide +kernel
theorem dX8_prints_11 : decode cX8_prints 11 = .ok (.iload_n 1, 1) := by decide +kernel
theorem dX8_prints_12 : decode cX8_prints 12 = .ok (.invokevirtual 169, 3) := by decide +kernel
theorem dX8_prints_15 : decode cX8_prints 15 = .ok (.iastore, 1) := by decide +kernel
theorem dX8_prints_16 : decode cX8_prints 16 = .ok (.aload_n 0, 1) := by decide +kernel
theorem dX8_prints_17 : decode cX8_prints 17 = .ok (.getfield 16, 3) := by decide +kernel
theorem dX8_prints_20 : decode cX8_prints 20 = .ok (.bipush 14, 2) := by decide +kernel
theorem dX8_prints_22 : decode cX8_prints 22 = .ok (.dup2, 1) := by decide +kernel
theorem dX8_prints_23 : decode cX8_prints 23 = .ok (.iaload, 1) := by decide +kernel
theorem dX8_prints_24 : decode cX8_prints 24 = .ok (.iconst 1, 1) := by decide +kernel
theorem dX8_prints_25 : decode cX8_prints 25 = .ok (.iadd, 1) := by decide +kernel
theorem dX8_prints_26 : decode cX8_prints 26 = .ok (.iastore, 1) := by decide +kernel
theorem dX8_prints_27 : decode cX8_prints 27 = .ok (.return_, 1) := by decide +kernel
theorem dX8_night_0 : decode cX8_night 0 = .ok (.aload_n 0, 1) := by decide +kernel
theorem dX8_night_1 : decode cX8_night 1 = .ok (.iload_n 1, 1) := by decide +kernel
theorem dX8_night_2 : decode cX8_night 2 = .ok (.invokevirtual 173, 3) := by decide +kernel
theorem dX8_night_5 : decode cX8_night 5 = .ok (.ifCond .ne 6, 3) := by decide +kernel
theorem dX8_night_8 : decode cX8_night 8 = .ok (.ldc 143, 2) := by decide +kernel
theorem dX8_night_10 : decode cX8_night 10 = .ok (.ireturn, 1) := by decide +kernel
theorem dX8_night_11 : decode cX8_night 11 = .ok (.aload_n 0, 1) := by decide +kernel
theorem dX8_night_12 : decode cX8_night 12 = .ok (.iload_n 1, 1) := by decide +kernel
theorem dX8_night_13 : decode cX8_night 13 = .ok (.aload_n 0, 1) := by decide +kernel
theorem dX8_night_14 : decode cX8_night 14 = .ok (.getfield 16, 3) := by decide +kernel
theorem dX8_night_17 : decode cX8_night 17 = .ok (.bipush 13, 2) := by decide +kernel
theorem dX8_night_19 : decode cX8_night 19 = .ok (.iaload, 1) := by decide +kernel
theorem dX8_night_20 : decode cX8_night 20 = .ok (.invokevirtual 176, 3) := by decide +kernel
theorem dX8_night_23 : decode cX8_night 23 = .ok (.ifCond .ne 6, 3) := by decide +kernel
theorem dX8_night_26 : decode cX8_night 26 = .ok (.ldc 179, 2) := by decide +kernel
theorem dX8_night_28 : decode cX8_night 28 = .ok (.ireturn, 1) := by decide +kernel
theorem dX8_night_29 : decode cX8_night 29 = .ok (.aload_n 0, 1) := by decide +kernel
theorem dX8_night_30 : decode cX8_night 30 = .ok (.getfield 16, 3) := by decide +kernel
theorem dX8_night_33 : decode cX8_night 33 = .ok (.bipush 14, 2) := by decide +kernel
theorem dX8_night_35 : decode cX8_night 35 = .ok (.iaload, 1) := by decide +kernel
theorem dX8_night_36 : decode cX8_night 36 = .ok (.ldc 180, 2) := by decide +kernel
theorem dX8_night_38 : decode cX8_night 38 = .ok (.if_icmp .le 6, 3) := by decide +kernel
theorem dX8_night_41 : decode cX8_night 41 = .ok (.ldc 82, 2) := by decide +kernel
theorem dX8_night_43 : decode cX8_night 43 = .ok (.ireturn, 1) := by decide +kernel
theorem dX8_night_44 : decode cX8_night 44 = .ok (.aload_n 0, 1) := by decide +kernel
theorem dX8_night_45 : decode cX8_night 45 = .ok (.invokevirtual 181, 3) := by decide +kernel
theorem dX8_night_48 : decode cX8_night 48 = .ok (.aload_n 0, 1) := by decide +kernel
theorem dX8_night_49 : decode cX8_night 49 = .ok (.iload_n 1, 1) := by decide +kernel
theorem dX8_night_50 : decode cX8_night 50 = .ok (.invokevirtual 184, 3) := by decide +kernel
theorem dX8_night_53 : decode cX8_night 53 = .ok (.aload_n 0, 1) := by decide +kernel
theorem dX8_night_54 : decode cX8_night 54 = .ok (.getfield 16, 3) := by decide +kernel
theorem dX8_night_57 : decode cX8_night 57 = .ok (.bipush 16, 2) := by decide +kernel
theorem dX8_night_59 : decode cX8_night 59 = .ok (.iaload, 1) := by decide +kernel
theorem dX8_night_60 : decode cX8_night 60 = .ok (.ireturn, 1) := by decide +kernel
theorem dX8_meet_0 : decode cX8_meet 0 = .ok (.aload_n 0, 1) := by decide +kernel
theorem dX8_meet_1 : decode cX8_meet 1 = .ok (.iload_n 1, 1) := by decide +kernel
theorem dX8_meet_2 : decode cX8_meet 2 = .ok (.invokevirtual 140, 3) := by decide +kernel
theorem dX8_meet_5 : decode cX8_meet 5 = .ok (.ifCond .ne 6, 3) := by decide +kernel
theorem dX8_meet_8 : decode cX8_meet 8 = .ok (.ldc 143, 2) := by decide +kernel
theorem dX8_meet_10 : decode cX8_meet 10 = .ok (.ireturn, 1) := by decide +kernel
theorem dX8_meet_11 : decode cX8_meet 11 = .ok (.iload_n 2, 1) := by decide +kernel
theorem dX8_meet_12 : decode cX8_meet 12 = .ok (.i2l, 1) := by decide +kernel
theorem dX8_meet_13 : decode cX8_meet 13 = .ok (.lconst 0, 1) := by decide +kernel
theorem dX8_meet_14 : decode cX8_meet 14 = .ok (.ldc2_w 188, 3) := by decide +kernel
theorem dX8_meet_17 : decode cX8_meet 17 = .ok (.invokestatic 74, 3) := by decide +kernel
theorem dX8_meet_20 : decode cX8_meet 20 = .ok (.ifCond .ne 6, 3) := by decide +kernel
theorem dX8_meet_23 : decode cX8_meet 23 = .ok (.ldc 78, 2) := by decide +kernel
theorem dX8_meet_25 : decode cX8_meet 25 = .ok (.ireturn, 1) := by decide +kernel
theorem dX8_meet_26 : decode cX8_meet 26 = .ok (.aload_n 0, 1) := by decide +kernel
theorem dX8_meet_27 : decode cX8_meet 27 = .ok (.invokevirtual 181, 3) := by decide +kernel
theorem dX8_meet_30 : decode cX8_meet 30 = .ok (.aload_n 0, 1) := by decide +kernel
theorem dX8_meet_31 : decode cX8_meet 31 = .ok (.getfield 16, 3) := by decide +kernel
theorem dX8_meet_34 : decode cX8_meet 34 = .ok (.iload_n 1, 1) := by decide +kernel
theorem dX8_meet_35 : decode cX8_meet 35 = .ok (.iconst 2, 1) := by decide +kernel
theorem dX8_meet_36 : decode cX8_meet 36 = .ok (.aload_n 0, 1) := by decide +kernel
theorem dX8_meet_37 : decode cX8_meet 37 = .ok (.getfield 16, 3) := by decide +kernel
theorem dX8_meet_40 : decode cX8_meet 40 = .ok (.iload_n 1, 1) := by decide +kernel
theorem dX8_meet_41 : decode cX8_meet 41 = .ok (.iaload, 1) := by decide +kernel
theorem dX8_meet_42 : decode cX8_meet 42 = .ok (.imul, 1) := by decide +kernel
theorem dX8_meet_43 : decode cX8_meet 43 = .ok (.iload_n 2, 1) := by decide +kernel
theorem dX8_meet_44 : decode cX8_meet 44 = .ok (.iadd, 1) := by decide +kernel
theorem dX8_meet_45 : decode cX8_meet 45 = .ok (.iconst 3, 1) := by decide +kernel
theorem dX8_meet_46 : decode cX8_meet 46 = .ok (.idiv, 1) := by decide +kernel
theorem dX8_meet_47 : decode cX8_meet 47 = .ok (.iastore, 1) := by decide +kernel
theorem dX8_meet_48 : decode cX8_meet 48 = .ok (.aload_n 0, 1) := by decide +kernel
theorem dX8_meet_49 : decode cX8_meet 49 = .ok (.getfield 16, 3) := by decide +kernel
theorem dX8_meet_52 : decode cX8_meet 52 = .ok (.iload_n 1, 1) := by decide +kernel
theorem dX8_meet_53 : decode cX8_meet 53 = .ok (.iaload, 1) := by decide +kernel
theorem dX8_meet_54 : decode cX8_meet 54 = .ok (.ireturn, 1) := by decide +kernel
theorem dX8_make_0 : decode cX8_make 0 = .ok (.aload_n 0, 1) := by decide +kernel
theorem dX8_make_1 : decode cX8_make 1 = .ok (.iload_n 1, 1) := by decide +kernel
theorem dX8_make_2 : decode cX8_make 2 = .ok (.invokevirtual 144, 3) := by decide +kernel
theorem dX8_make_5 : decode cX8_make 5 = .ok (.ifCond .ne 6, 3) := by decide +kernel
theorem dX8_make_8 : decode cX8_make 8 = .ok (.ldc 143, 2) := by decide +kernel
theorem dX8_make_10 : decode cX8_make 10 = .ok (.ireturn, 1) := by decide +kernel
theorem dX8_make_11 : decode cX8_make 11 = .ok (.aload_n 0, 1) := by decide +kernel
theorem dX8_make_12 : decode cX8_make 12 = .ok (.getfield 16, 3) := by decide +kernel
theorem dX8_make_15 : decode cX8_make 15 = .ok (.bipush 13, 2) := by decide +kernel
theorem dX8_make_17 : decode cX8_make 17 = .ok (.iaload, 1) := by decide +kernel
theorem dX8_make_18 : decode cX8_make 18 = .ok (.iload_n 1, 1) := by decide +kernel
theorem dX8_make_19 : decode cX8_make 19 = .ok (.invokestatic 147, 3) := by decide +kernel
theorem dX8_make_22 : decode cX8_make 22 = .ok (.ifCond .eq 6, 3) := by decide +kernel
theorem dX8_make_25 : decode cX8_make 25 = .ok (.ldc 179, 2) := by decide +kernel
theorem dX8_make_27 : decode cX8_make 27 = .ok (.ireturn, 1) := by decide +kernel
theorem dX8_make_28 : decode cX8_make 28 = .ok (.aload_n 0, 1) := by decide +kernel
theorem dX8_make_29 : decode cX8_make 29 = .ok (.invokevirtual 181, 3) := by decide +kernel
theorem dX8_make_32 : decode cX8_make 32 = .ok (.aload_n 0, 1) := by decide +kernel
theorem dX8_make_33 : decode cX8_make 33 = .ok (.getfield 16, 3) := by decide +kernel
theorem dX8_make_36 : decode cX8_make 36 = .ok (.bipush 13, 2) := by decide +kernel
theorem dX8_make_38 : decode cX8_make 38 = .ok (.dup2, 1) := by decide +kernel
theorem dX8_make_39 : decode cX8_make 39 = .ok (.iaload, 1) := by decide +kernel
theorem dX8_make_40 : decode cX8_make 40 = .ok (.iconst 1, 1) := by decide +kernel
theorem dX8_make_41 : decode cX8_make 41 = .ok (.iload_n 1, 1) := by decide +kernel
theorem dX8_make_42 : decode cX8_make 42 = .ok (.ishl, 1) := by decide +kernel
theorem dX8_make_43 : decode cX8_make 43 = .ok (.ior, 1) := by decide +kernel
theorem dX8_make_44 : decode cX8_make 44 = .ok (.iastore, 1) := by decide +kernel
theorem dX8_make_45 : decode cX8_make 45 = .ok (.aload_n 0, 1) := by decide +kernel
theorem dX8_make_46 : decode cX8_make 46 = .ok (.getfield 16, 3) := by decide +kernel
theorem dX8_make_49 : decode cX8_make 49 = .ok (.bipush 15, 2) := by decide +kernel
theorem dX8_make_51 : decode cX8_make 51 = .ok (.dup2, 1) := by decide +kernel
theorem dX8_make_52 : decode cX8_make 52 = .ok (.iaload, 1) := by decide +kernel
theorem dX8_make_53 : decode cX8_make 53 = .ok (.aload_n 0, 1) := by decide +kernel
theorem dX8_make_54 : decode cX8_make 54 = .ok (.getfield 7, 3) := by decide +kernel
theorem dX8_make_57 : decode cX8_make 57 = .ok (.bipush 42, 2) := by decide +kernel
theorem dX8_make_59 : decode cX8_make 59 = .ok (.iload_n 1, 1) := by decide +kernel
theorem dX8_make_60 : decode cX8_make 60 = .ok (.iadd, 1) := by decide +kernel
theorem dX8_make_61 : decode cX8_make 61 = .ok (.iaload, 1) := by decide +kernel
theorem dX8_make_62 : decode cX8_make 62 = .ok (.iadd, 1) := by decide +kernel
theorem dX8_make_63 : decode cX8_make 63 = .ok (.iastore, 1) := by decide +kernel
theorem dX8_make_64 : decode cX8_make 64 = .ok (.aload_n 0, 1) := by decide +kernel
theorem dX8_make_65 : decode cX8_make 65 = .ok (.getfield 16, 3) := by decide +kernel
theorem dX8_make_68 : decode cX8_make 68 = .ok (.bipush 15, 2) := by decide +kernel
theorem dX8_make_70 : decode cX8_make 70 = .ok (.iaload, 1) := by decide +kernel
theorem dX8_make_71 : decode cX8_make 71 = .ok (.ireturn, 1) := by decide +kernel
theorem dX8_draw_0 : decode cX8_draw 0 = .ok (.aload_n 0, 1) := by decide +kernel
theorem dX8_draw_1 : decode cX8_draw 1 = .ok (.aload_n 0, 1) := by decide +kernel
theorem dX8_draw_2 : decode cX8_draw 2 = .ok (.getfield 190, 3) := by decide +kernel
theorem dX8_draw_5 : decode cX8_draw 5 = .ok (.ldc2_w 194, 3) := by decide +kernel
theorem dX8_draw_8 : decode cX8_draw 8 = .ok (.lmul, 1) := by decide +kernel
theorem dX8_draw_9 : decode cX8_draw 9 = .ok (.ldc2_w 196, 3) := by decide +kernel
theorem dX8_draw_12 : decode cX8_draw 12 = .ok (.ladd, 1) := by decide +kernel
theorem dX8_draw_13 : decode cX8_draw 13 = .ok (.ldc2_w 198, 3) := by decide +kernel
theorem dX8_draw_16 : decode cX8_draw 16 = .ok (.lrem, 1) := by decide +kernel
theorem dX8_draw_17 : decode cX8_draw 17 = .ok (.putfield 190, 3) := by decide +kernel
theorem dX8_draw_20 : decode cX8_draw 20 = .ok (.aload_n 0, 1) := by decide +kernel
theorem dX8_draw_21 : decode cX8_draw 21 = .ok (.getfield 190, 3) := by decide +kernel
theorem dX8_draw_24 : decode cX8_draw 24 = .ok (.ldc2_w 200, 3) := by decide +kernel
theorem dX8_draw_27 : decode cX8_draw 27 = .ok (.ldiv, 1) := by decide +kernel
theorem dX8_draw_28 : decode cX8_draw 28 = .ok (.iload_n 1, 1) := by decide +kernel
theorem dX8_draw_29 : decode cX8_draw 29 = .ok (.i2l, 1) := by decide +kernel
theorem dX8_draw_30 : decode cX8_draw 30 = .ok (.lrem, 1) := by decide +kernel
theorem dX8_draw_31 : decode cX8_draw 31 = .ok (.l2i, 1) := by decide +kernel
theorem dX8_draw_32 : decode cX8_draw 32 = .ok (.ireturn, 1) := by decide +kernel
theorem dX8_drift_0 : decode cX8_drift 0 = .ok (.iload_n 1, 1) := by decide +kernel
theorem dX8_drift_1 : decode cX8_drift 1 = .ok (.i2l, 1) := by decide +kernel
theorem dX8_drift_2 : decode cX8_drift 2 = .ok (.lconst 1, 1) := by decide +kernel
theorem dX8_drift_3 : decode cX8_drift 3 = .ok (.ldc2_w 202, 3) := by decide +kernel
theorem dX8_drift_6 : decode cX8_drift 6 = .ok (.invokestatic 74, 3) := by decide +kernel
theorem dX8_drift_9 : decode cX8_drift 9 = .ok (.ifCond .ne 6, 3) := by decide +kernel
theorem dX8_drift_12 : decode cX8_drift 12 = .ok (.ldc 78, 2) := by decide +kernel
theorem dX8_drift_14 : decode cX8_drift 14 = .ok (.ireturn, 1) := by decide +kernel
theorem dX8_drift_15 : decode cX8_drift 15 = .ok (.aload_n 0, 1) := by decide +kernel
theorem dX8_drift_16 : decode cX8_drift 16 = .ok (.getfield 7, 3) := by decide +kernel
theorem dX8_drift_19 : decode cX8_drift 19 = .ok (.iconst 1, 1) := by decide +kernel
theorem dX8_drift_20 : decode cX8_drift 20 = .ok (.iaload, 1) := by decide +kernel
theorem dX8_drift_21 : decode cX8_drift 21 = .ok (.ifCond .ne 6, 3) := by decide +kernel
theorem dX8_drift_24 : decode cX8_drift 24 = .ok (.ldc 179, 2) := by decide +kernel
theorem dX8_drift_26 : decode cX8_drift 26 = .ok (.ireturn, 1) := by decide +kernel
theorem dX8_drift_27 : decode cX8_drift 27 = .ok (.aload_n 0, 1) := by decide +kernel
theorem dX8_drift_28 : decode cX8_drift 28 = .ok (.getfield 16, 3) := by decide +kernel
theorem dX8_drift_31 : decode cX8_drift 31 = .ok (.bipush 14, 2) := by decide +kernel
theorem dX8_drift_33 : decode cX8_drift 33 = .ok (.iaload, 1) := by decide +kernel
theorem dX8_drift_34 : decode cX8_drift 34 = .ok (.ldc 180, 2) := by decide +kernel
theorem dX8_drift_36 : decode cX8_drift 36 = .ok (.if_icmp .le 6, 3) := by decide +kernel
theorem dX8_drift_39 : decode cX8_drift 39 = .ok (.ldc 82, 2) := by decide +kernel
theorem dX8_drift_41 : decode cX8_drift 41 = .ok (.ireturn, 1) := by decide +kernel
theorem dX8_drift_42 : decode cX8_drift 42 = .ok (.aload_n 0, 1) := by decide +kernel
theorem dX8_drift_43 : decode cX8_drift 43 = .ok (.invokevirtual 181, 3) := by decide +kernel
theorem dX8_drift_46 : decode cX8_drift 46 = .ok (.iconst 0, 1) := by decide +kernel
theorem dX8_drift_47 : decode cX8_drift 47 = .ok (.istore_n 2, 1) := by decide +kernel
theorem dX8_drift_48 : decode cX8_drift 48 = .ok (.iload_n 2, 1) := by decide +kernel
theorem dX8_drift_49 : decode cX8_drift 49 = .ok (.iload_n 1, 1) := by decide +kernel
theorem dX8_drift_50 : decode cX8_drift 50 = .ok (.if_icmp .ge 83, 3) := by decide +kernel
theorem dX8_drift_53 : decode cX8_drift 53 = .ok (.iconst 0, 1) := by decide +kernel
theorem dX8_drift_54 : decode cX8_drift 54 = .ok (.istore_n 3, 1) := by decide +kernel
theorem dX8_drift_55 : decode cX8_drift 55 = .ok (.iconst 0, 1) := by decide +kernel
theorem dX8_drift_56 : decode cX8_drift 56 = .ok (.istore 4, 2) := by decide +kernel
theorem dX8_drift_58 : decode cX8_drift 58 = .ok (.iload 4, 2) := by decide +kernel
theorem dX8_drift_60 : decode cX8_drift 60 = .ok (.aload_n 0, 1) := by decide +kernel
theorem dX8_drift_61 : decode cX8_drift 61 = .ok (.getfield 7, 3) := by decide +kernel
theorem dX8_drift_64 : decode cX8_drift 64 = .ok (.iconst 2, 1) := by decide +kernel
theorem dX8_drift_65 : decode cX8_drift 65 = .ok (.iaload, 1) := by decide +kernel
theorem dX8_drift_66 : decode cX8_drift 66 = .ok (.if_icmp .ge 56, 3) := by decide +kernel
theorem dX8_drift_69 : decode cX8_drift 69 = .ok (.aload_n 0, 1) := by decide +kernel
theorem dX8_drift_70 : decode cX8_drift 70 = .ok (.getfield 16, 3) := by decide +kernel
theorem dX8_drift_73 : decode cX8_drift 73 = .ok (.bipush 13, 2) := by decide +kernel
theorem dX8_drift_75 : decode cX8_drift 75 = .ok (.iaload, 1) := by decide +kernel
theorem dX8_drift_76 : decode cX8_drift 76 = .ok (.iload 4, 2) := by decide +kernel
theorem dX8_drift_78 : decode cX8_drift 78 = .ok (.invokestatic 147, 3) := by decide +kernel
theorem dX8_drift_81 : decode cX8_drift 81 = .ok (.ifCond .eq 35, 3) := by decide +kernel
theorem dX8_drift_84 : decode cX8_drift 84 = .ok (.iload_n 3, 1) := by decide +kernel
theorem dX8_drift_85 : decode cX8_drift 85 = .ok (.invokestatic 162, 3) := by decide +kernel
theorem dX8_drift_88 : decode cX8_drift 88 = .ok (.aload_n 0, 1) := by decide +kernel
theorem dX8_drift_89 : decode cX8_drift 89 = .ok (.getfield 7, 3) := by decide +kernel
theorem dX8_drift_92 : decode cX8_drift 92 = .ok (.iconst 0, 1) := by decide +kernel
theorem dX8_drift_93 : decode cX8_drift 93 = .ok (.iaload, 1) := by decide +kernel
theorem dX8_drift_94 : decode cX8_drift 94 = .ok (.if_icmp .ge 22, 3) := by decide +kernel
theorem dX8_drift_97 : decode cX8_drift 97 = .ok (.iload_n 3, 1) := by decide +kernel
theorem dX8_drift_98 : decode cX8_drift 98 = .ok (.aload_n 0, 1) := by decide +kernel
theorem dX8_drift_99 : decode cX8_drift 99 = .ok (.iconst 3, 1) := by decide +kernel
theorem dX8_drift_100 : decode cX8_drift 100 = .ok (.invokevirtual 204, 3) := by decide +kernel
theorem dX8_drift_103 : decode cX8_drift 103 = .ok (.ifCond .ne 10, 3) := by decide +kernel
theorem dX8_drift_106 : decode cX8_drift 106 = .ok (.iconst 1, 1) := by decide +kernel
theorem dX8_drift_107 : decode cX8_drift 107 = .ok (.iload 4, 2) := by decide +kernel
theorem dX8_drift_109 : decode cX8_drift 109 = .ok (.ishl, 1) := by decide +kernel
theorem dX8_drift_110 : decode cX8_drift 110 = .ok (.goto 4, 3) := by decide +kernel
theorem dX8_drift_113 : decode cX8_drift 113 = .ok (.iconst 0, 1) := by decide +kernel
theorem dX8_drift_114 : decode cX8_drift 114 = .ok (.ior, 1) := by decide +kernel
theorem dX8_drift_115 : decode cX8_drift 115 = .ok (.istore_n 3, 1) := by decide +kernel
theorem dX8_drift_116 : decode cX8_drift 116 = .ok (.iinc 4 1, 3) := by decide +kernel
theorem dX8_drift_119 : decode cX8_drift 119 = .ok (.goto (-61), 3) := by decide +kernel
theorem dX8_drift_122 : decode cX8_drift 122 = .ok (.aload_n 0, 1) := by decide +kernel
theorem dX8_drift_123 : decode cX8_drift 123 = .ok (.iload_n 3, 1) := by decide +kernel
theorem dX8_drift_124 : decode cX8_drift 124 = .ok (.invokevirtual 184, 3) := by decide +kernel
theorem dX8_drift_127 : decode cX8_drift 127 = .ok (.iinc 2 1, 3) := by decide +kernel
theorem dX8_drift_130 : decode cX8_drift 130 = .ok (.goto (-82), 3) := by decide +kernel
theorem dX8_drift_133 : decode cX8_drift 133 = .ok (.aload_n 0, 1) := by decide +kernel
theorem dX8_drift_134 : decode cX8_drift 134 = .ok (.getfield 16, 3) := by decide +kernel
theorem dX8_drift_137 : decode cX8_drift 137 = .ok (.bipush 14, 2) := by decide +kernel
theorem dX8_drift_139 : decode cX8_drift 139 = .ok (.iaload, 1) := by decide +kernel
theorem dX8_drift_140 : decode cX8_drift 140 = .ok (.ireturn, 1) := by decide +kernel
theorem dX8_undo_0 : decode cX8_undo 0 = .ok (.aload_n 0, 1) := by decide +kernel
theorem dX8_undo_1 : decode cX8_undo 1 = .ok (.getfield 63, 3) := by decide +kernel
theorem dX8_undo_4 : decode cX8_undo 4 = .ok (.ifCond .ne 6, 3) := by decide +kernel
theorem dX8_undo_7 : decode cX8_undo 7 = .ok (.ldc 179, 2) := by decide +kernel
theorem dX8_undo_9 : decode cX8_undo 9 = .ok (.ireturn, 1) := by decide +kernel
theorem dX8_undo_10 : decode cX8_undo 10 = .ok (.aload_n 0, 1) := by decide +kernel
theorem dX8_undo_11 : decode cX8_undo 11 = .ok (.dup, 1) := by decide +kernel
theorem dX8_undo_12 : decode cX8_undo 12 = .ok (.getfield 63, 3) := by decide +kernel
theorem dX8_undo_15 : decode cX8_undo 15 = .ok (.iconst 1, 1) := by decide +kernel
theorem dX8_undo_16 : decode cX8_undo 16 = .ok (.isub, 1) := by decide +kernel
theorem dX8_undo_17 : decode cX8_undo 17 = .ok (.putfield 63, 3) := by decide +kernel
theorem dX8_undo_20 : decode cX8_undo 20 = .ok (.aload_n 0, 1) := by decide +kernel
theorem dX8_undo_21 : decode cX8_undo 21 = .ok (.getfield 19, 3) := by decide +kernel
theorem dX8_undo_24 : decode cX8_undo 24 = .ok (.bipush 17, 2) := by decide +kernel
theorem dX8_undo_26 : decode cX8_undo 26 = .ok (.aload_n 0, 1) := by decide +kernel
theorem dX8_undo_27 : decode cX8_undo 27 = .ok (.getfield 63, 3) := by decide +kernel
theorem dX8_undo_30 : decode cX8_undo 30 = .ok (.imul, 1) := by decide +kernel
theorem dX8_undo_31 : decode cX8_undo 31 = .ok (.aload_n 0, 1) := by decide +kernel
theorem dX8_undo_32 : decode cX8_undo 32 = .ok (.getfield 16, 3) := by decide +kernel
theorem dX8_undo_35 : decode cX8_undo 35 = .ok (.iconst 0, 1) := by decide +kernel
theorem dX8_undo_36 : decode cX8_undo 36 = .ok (.bipush 17, 2) := by decide +kernel
theorem dX8_undo_38 : decode cX8_undo 38 = .ok (.invokestatic 165, 3) := by decide +kernel
theorem dX8_undo_41 : decode cX8_undo 41 = .ok (.aload_n 0, 1) := by decide +kernel
theorem dX8_undo_42 : decode cX8_undo 42 = .ok (.getfield 63, 3) := by decide +kernel
theorem dX8_undo_45 : decode cX8_undo 45 = .ok (.ireturn, 1) := by decide +kernel
theorem dX8_triesTonight_0 : decode cX8_triesTonight 0 = .ok (.aload_n 0, 1) := by decide +kernel
theorem dX8_triesTonight_1 : decode cX8_triesTonight 1 = .ok (.getfield 16, 3) := by decide +kernel
theorem dX8_triesTonight_4 : decode cX8_triesTonight 4 = .ok (.iconst 0, 1) := by decide +kernel
theorem dX8_triesTonight_5 : decode cX8_triesTonight 5 = .ok (.aload_n 0, 1) := by decide +kernel
theorem dX8_triesTonight_6 : decode cX8_triesTonight 6 = .ok (.getfield 42, 3) := by decide +kernel
theorem dX8_triesTonight_9 : decode cX8_triesTonight 9 = .ok (.iconst 0, 1) := by decide +kernel
theorem dX8_triesTonight_10 : decode cX8_triesTonight 10 = .ok (.bipush 17, 2) := by decide +kernel
theorem dX8_triesTonight_12 : decode cX8_triesTonight 12 = .ok (.invokestatic 165, 3) := by decide +kernel
theorem dX8_triesTonight_15 : decode cX8_triesTonight 15 = .ok (.aload_n 0, 1) := by decide +kernel
theorem dX8_triesTonight_16 : decode cX8_triesTonight 16 = .ok (.aload_n 0, 1) := by decide +kernel
theorem dX8_triesTonight_17 : decode cX8_triesTonight 17 = .ok (.getfield 42, 3) := by decide +kernel
theorem dX8_triesTonight_20 : decode cX8_triesTonight 20 = .ok (.iload_n 1, 1) := by decide +kernel
theorem dX8_triesTonight_21 : decode cX8_triesTonight 21 = .ok (.invokevirtual 169, 3) := by decide +kernel
theorem dX8_triesTonight_24 : decode cX8_triesTonight 24 = .ok (.ireturn, 1) := by decide +kernel
theorem dX8_thinks_0 : decode cX8_thinks 0 = .ok (.aload_n 0, 1) := by decide +kernel
theorem dX8_thinks_1 : decode cX8_thinks 1 = .ok (.iload_n 1, 1) := by decide +kernel
theorem dX8_thinks_2 : decode cX8_thinks 2 = .ok (.invokevirtual 173, 3) := by decide +kernel
theorem dX8_thinks_5 : decode cX8_thinks 5 = .ok (.ifCond .eq 16, 3) := by decide +kernel
theorem dX8_thinks_8 : decode cX8_thinks 8 = .ok (.iload_n 2, 1) := by decide +kernel
theorem dX8_thinks_9 : decode cX8_thinks 9 = .ok (.iconst (-1), 1) := by decide +kernel
theorem dX8_thinks_10 : decode cX8_thinks 10 = .ok (.if_icmp .eq 14, 3) := by decide +kernel
theorem dX8_thinks_13 : decode cX8_thinks 13 = .ok (.aload_n 0, 1) := by decide +kernel
theorem dX8_thinks_14 : decode cX8_thinks 14 = .ok (.iload_n 2, 1) := by decide +kernel
theorem dX8_thinks_15 : decode cX8_thinks 15 = .ok (.invokevirtual 140, 3) := by decide +kernel
theorem dX8_thinks_18 : decode cX8_thinks 18 = .ok (.ifCond .ne 6, 3) := by decide +kernel
theorem dX8_thinks_21 : decode cX8_thinks 21 = .ok (.ldc 143, 2) := by decide +kernel
theorem dX8_thinks_23 : decode cX8_thinks 23 = .ok (.ireturn, 1) := by decide +kernel
theorem dX8_thinks_24 : decode cX8_thinks 24 = .ok (.aload_n 0, 1) := by decide +kernel
theorem dX8_thinks_25 : decode cX8_thinks 25 = .ok (.iload_n 1, 1) := by decide +kernel
theorem dX8_thinks_26 : decode cX8_thinks 26 = .ok (.aload_n 0, 1) := by decide +kernel
theorem dX8_thinks_27 : decode cX8_thinks 27 = .ok (.getfield 16, 3) := by decide +kernel
theorem dX8_thinks_30 : decode cX8_thinks 30 = .ok (.bipush 13, 2) := by decide +kernel
theorem dX8_thinks_32 : decode cX8_thinks 32 = .ok (.iaload, 1) := by decide +kernel
theorem dX8_thinks_33 : decode cX8_thinks 33 = .ok (.invokevirtual 176, 3) := by decide +kernel
theorem dX8_thinks_36 : decode cX8_thinks 36 = .ok (.ifCond .ne 6, 3) := by decide +kernel
theorem dX8_thinks_39 : decode cX8_thinks 39 = .ok (.ldc 179, 2) := by decide +kernel
theorem dX8_thinks_41 : decode cX8_thinks 41 = .ok (.ireturn, 1) := by decide +kernel
theorem dX8_thinks_42 : decode cX8_thinks 42 = .ok (.aload_n 0, 1) := by decide +kernel
theorem dX8_thinks_43 : decode cX8_thinks 43 = .ok (.iload_n 1, 1) := by decide +kernel
theorem dX8_thinks_44 : decode cX8_thinks 44 = .ok (.invokevirtual 207, 3) := by decide +kernel
theorem dX8_thinks_47 : decode cX8_thinks 47 = .ok (.istore_n 3, 1) := by decide +kernel
theorem dX8_thinks_48 : decode cX8_thinks 48 = .ok (.iload_n 2, 1) := by decide +kernel
theorem dX8_thinks_49 : decode cX8_thinks 49 = .ok (.iconst (-1), 1) := by decide +kernel
theorem dX8_thinks_50 : decode cX8_thinks 50 = .ok (.if_icmp .ne 7, 3) := by decide +kernel
theorem dX8_thinks_53 : decode cX8_thinks 53 = .ok (.iload_n 3, 1) := by decide +kernel
theorem dX8_thinks_54 : decode cX8_thinks 54 = .ok (.goto 9, 3) := by decide +kernel
theorem dX8_thinks_57 : decode cX8_thinks 57 = .ok (.aload_n 0, 1) := by decide +kernel
theorem dX8_thinks_58 : decode cX8_thinks 58 = .ok (.getfield 42, 3) := by decide +kernel
theorem dX8_thinks_61 : decode cX8_thinks 61 = .ok (.iload_n 2, 1) := by decide +kernel
theorem dX8_thinks_62 : decode cX8_thinks 62 = .ok (.iaload, 1) := by decide +kernel
theorem dX8_thinks_63 : decode cX8_thinks 63 = .ok (.ireturn, 1) := by decide +kernel
theorem dX8_isWanted_0 : decode cX8_isWanted 0 = .ok (.aload_n 0, 1) := by decide +kernel
theorem dX8_isWanted_1 : decode cX8_isWanted 1 = .ok (.aload_n 1, 1) := by decide +kernel
theorem dX8_isWanted_2 : decode cX8_isWanted 2 = .ok (.invokevirtual 136, 3) := by decide +kernel
theorem dX8_isWanted_5 : decode cX8_isWanted 5 = .ok (.istore 4, 2) := by decide +kernel
theorem dX8_isWanted_7 : decode cX8_isWanted 7 = .ok (.iload_n 2, 1) := by decide +kernel
theorem dX8_isWanted_8 : decode cX8_isWanted 8 = .ok (.iload 4, 2) := by decide +kernel
theorem dX8_isWanted_10 : decode cX8_isWanted 10 = .ok (.iconst (-1), 1) := by decide +kernel
theorem dX8_isWanted_11 : decode cX8_isWanted 11 = .ok (.ixor, 1) := by decide +kernel
theorem dX8_isWanted_12 : decode cX8_isWanted 12 = .ok (.iand, 1) := by decide +kernel
theorem dX8_isWanted_13 : decode cX8_isWanted 13 = .ok (.ifCond .ne 14, 3) := by decide +kernel
theorem dX8_isWanted_16 : decode cX8_isWanted 16 = .ok (.iload_n 3, 1) := by decide +kernel
theorem dX8_isWanted_17 : decode cX8_isWanted 17 = .ok (.iload 4, 2) := by decide +kernel
theorem dX8_isWanted_19 : decode cX8_isWanted 19 = .ok (.iand, 1) := by decide +kernel
theorem dX8_isWanted_20 : decode cX8_isWanted 20 = .ok (.ifCond .ne 7, 3) := by decide +kernel
theorem dX8_isWanted_23 : decode cX8_isWanted 23 = .ok (.iconst 1, 1) := by decide +kernel
theorem dX8_isWanted_24 : decode cX8_isWanted 24 = .ok (.goto 4, 3) := by decide +kernel
theorem dX8_isWanted_27 : decode cX8_isWanted 27 = .ok (.iconst 0, 1) := by decide +kernel
theorem dX8_isWanted_28 : decode cX8_isWanted 28 = .ok (.ireturn, 1) := by decide +kernel
theorem dX8_layNights_0 : decode cX8_layNights 0 = .ok (.aload_n 0, 1) := by decide +kernel
theorem dX8_layNights_1 : decode cX8_layNights 1 = .ok (.aload_n 0, 1) := by decide +kernel
theorem dX8_layNights_2 : decode cX8_layNights 2 = .ok (.getfield 16, 3) := by decide +kernel
theorem dX8_layNights_5 : decode cX8_layNights 5 = .ok (.iload_n 1, 1) := by decide +kernel
theorem dX8_layNights_6 : decode cX8_layNights 6 = .ok (.iload_n 2, 1) := by decide +kernel
theorem dX8_layNights_7 : decode cX8_layNights 7 = .ok (.invokevirtual 210, 3) := by decide +kernel
theorem dX8_layNights_10 : decode cX8_layNights 10 = .ok (.ifCond .eq 5, 3) := by decide +kernel
theorem dX8_layNights_13 : decode cX8_layNights 13 = .ok (.iconst 0, 1) := by decide +kernel
theorem dX8_layNights_14 : decode cX8_layNights 14 = .ok (.ireturn, 1) := by decide +kernel
theorem dX8_layNights_15 : decode cX8_layNights 15 = .ok (.iconst 1, 1) := by decide +kernel
theorem dX8_layNights_16 : decode cX8_layNights 16 = .ok (.aload_n 0, 1) := by decide +kernel
theorem dX8_layNights_17 : decode cX8_layNights 17 = .ok (.getfield 7, 3) := by decide +kernel
theorem dX8_layNights_20 : decode cX8_layNights 20 = .ok (.iconst 2, 1) := by decide +kernel
theorem dX8_layNights_21 : decode cX8_layNights 21 = .ok (.iaload, 1) := by decide +kernel
theorem dX8_layNights_22 : decode cX8_layNights 22 = .ok (.ishl, 1) := by decide +kernel
theorem dX8_layNights_23 : decode cX8_layNights 23 = .ok (.istore_n 3, 1) := by decide +kernel
theorem dX8_layNights_24 : decode cX8_layNights 24 = .ok (.iconst 0, 1) := by decide +kernel
theorem dX8_layNights_25 : decode cX8_layNights 25 = .ok (.istore 4, 2) := by decide +kernel
theorem dX8_layNights_27 : decode cX8_layNights 27 = .ok (.iload 4, 2) := by decide +kernel
theorem dX8_layNights_29 : decode cX8_layNights 29 = .ok (.iload_n 3, 1) := by decide +kernel
theorem dX8_layNights_30 : decode cX8_layNights 30 = .ok (.if_icmp .ge 54, 3) := by decide +kernel
theorem dX8_layNights_33 : decode cX8_layNights 33 = .ok (.aload_n 0, 1) := by decide +kernel
theorem dX8_layNights_34 : decode cX8_layNights 34 = .ok (.iload 4, 2) := by decide +kernel
theorem dX8_layNights_36 : decode cX8_layNights 36 = .ok (.aload_n 0, 1) := by decide +kernel
theorem dX8_layNights_37 : decode cX8_layNights 37 = .ok (.getfield 16, 3) := by decide +kernel
theorem dX8_layNights_40 : decode cX8_layNights 40 = .ok (.bipush 13, 2) := by decide +kernel
theorem dX8_layNights_42 : decode cX8_layNights 42 = .ok (.iaload, 1) := by decide +kernel
theorem dX8_layNights_43 : decode cX8_layNights 43 = .ok (.invokevirtual 176, 3) := by decide +kernel
theorem dX8_layNights_46 : decode cX8_layNights 46 = .ok (.ifCond .eq 32, 3) := by decide +kernel
theorem dX8_layNights_49 : decode cX8_layNights 49 = .ok (.aload_n 0, 1) := by decide +kernel
theorem dX8_layNights_50 : decode cX8_layNights 50 = .ok (.iload 4, 2) := by decide +kernel
theorem dX8_layNights_52 : decode cX8_layNights 52 = .ok (.invokevirtual 207, 3) := by decide +kernel
theorem dX8_layNights_55 : decode cX8_layNights 55 = .ok (.istore 5, 2) := by decide +kernel
theorem dX8_layNights_57 : decode cX8_layNights 57 = .ok (.aload_n 0, 1) := by decide +kernel
theorem dX8_layNights_58 : decode cX8_layNights 58 = .ok (.aload_n 0, 1) := by decide +kernel
theorem dX8_layNights_59 : decode cX8_layNights 59 = .ok (.getfield 42, 3) := by decide +kernel
theorem dX8_layNights_62 : decode cX8_layNights 62 = .ok (.iload_n 1, 1) := by decide +kernel
theorem dX8_layNights_63 : decode cX8_layNights 63 = .ok (.iload_n 2, 1) := by decide +kernel
theorem dX8_layNights_64 : decode cX8_layNights 64 = .ok (.invokevirtual 210, 3) := by decide +kernel
theorem dX8_layNights_67 : decode cX8_layNights 67 = .ok (.ifCond .eq 11, 3) := by decide +kernel
theorem dX8_layNights_70 : decode cX8_layNights 70 = .ok (.aload_n 0, 1) := by decide +kernel
theorem dX8_layNights_71 : decode cX8_layNights 71 = .ok (.iload 4, 2) := by decide +kernel
theorem dX8_layNights_73 : decode cX8_layNights 73 = .ok (.putfield 213, 3) := by decide +kernel
theorem dX8_layNights_76 : decode cX8_layNights 76 = .ok (.iconst 1, 1) := by decide +kernel
theorem dX8_layNights_77 : decode cX8_layNights 77 = .ok (.ireturn, 1) := by decide +kernel
theorem dX8_layNights_78 : decode cX8_layNights 78 = .ok (.iinc 4 1, 3) := by decide +kernel
theorem dX8_layNights_81 : decode cX8_layNights 81 = .ok (.goto (-54), 3) := by decide +kernel
theorem dX8_layNights_84 : decode cX8_layNights 84 = .ok (.iconst 0, 1) := by decide +kernel
theorem dX8_layNights_85 : decode cX8_layNights 85 = .ok (.istore 4, 2) := by decide +kernel
theorem dX8_layNights_87 : decode cX8_layNights 87 = .ok (.iload 4, 2) := by decide +kernel
theorem dX8_layNights_89 : decode cX8_layNights 89 = .ok (.iload_n 3, 1) := by decide +kernel
theorem dX8_layNights_90 : decode cX8_layNights 90 = .ok (.if_icmp .ge 118, 3) := by decide +kernel
theorem dX8_layNights_93 : decode cX8_layNights 93 = .ok (.aload_n 0, 1) := by decide +kernel
theorem dX8_layNights_94 : decode cX8_layNights 94 = .ok (.iload 4, 2) := by decide +kernel
theorem dX8_layNights_96 : decode cX8_layNights 96 = .ok (.aload_n 0, 1) := by decide +kernel
theorem dX8_layNights_97 : decode cX8_layNights 97 = .ok (.getfield 16, 3) := by decide +kernel
theorem dX8_layNights_100 : decode cX8_layNights 100 = .ok (.bipush 13, 2) := by decide +kernel
theorem dX8_layNights_102 : decode cX8_layNights 102 = .ok (.iaload, 1) := by decide +kernel
theorem dX8_layNights_103 : decode cX8_layNights 103 = .ok (.invokevirtual 176, 3) := by decide +kernel
theorem dX8_layNights_106 : decode cX8_layNights 106 = .ok (.ifCond .eq 96, 3) := by decide +kernel
theorem dX8_layNights_109 : decode cX8_layNights 109 = .ok (.aload_n 0, 1) := by decide +kernel
theorem dX8_layNights_110 : decode cX8_layNights 110 = .ok (.iload 4, 2) := by decide +kernel
theorem dX8_layNights_112 : decode cX8_layNights 112 = .ok (.invokevirtual 207, 3) := by decide +kernel
theorem dX8_layNights_115 : decode cX8_layNights 115 = .ok (.istore 5, 2) := by decide +kernel
theorem dX8_layNights_117 : decode cX8_layNights 117 = .ok (.iconst 0, 1) := by decide +kernel
theorem dX8_layNights_118 : decode cX8_layNights 118 = .ok (.istore 6, 2) := by decide +kernel
theorem dX8_layNights_120 : decode cX8_layNights 120 = .ok (.iload 6, 2) := by decide +kernel
theorem dX8_layNights_122 : decode cX8_layNights 122 = .ok (.iload_n 3, 1) := by decide +kernel
theorem dX8_layNights_123 : decode cX8_layNights 123 = .ok (.if_icmp .ge 79, 3) := by decide +kernel
theorem dX8_layNights_126 : decode cX8_layNights 126 = .ok (.aload_n 0, 1) := by decide +kernel
theorem dX8_layNights_127 : decode cX8_layNights 127 = .ok (.iload 6, 2) := by decide +kernel
theorem dX8_layNights_129 : decode cX8_layNights 129 = .ok (.aload_n 0, 1) := by decide +kernel
theorem dX8_layNights_130 : decode cX8_layNights 130 = .ok (.getfield 16, 3) := by decide +kernel
theorem dX8_layNights_133 : decode cX8_layNights 133 = .ok (.bipush 13, 2) := by decide +kernel
theorem dX8_layNights_135 : decode cX8_layNights 135 = .ok (.iaload, 1) := by decide +kernel
theorem dX8_layNights_136 : decode cX8_layNights 136 = .ok (.invokevirtual 176, 3) := by decide +kernel
theorem dX8_layNights_139 : decode cX8_layNights 139 = .ok (.ifCond .eq 57, 3) := by decide +kernel
theorem dX8_layNights_142 : decode cX8_layNights 142 = .ok (.aload_n 0, 1) := by decide +kernel
theorem dX8_layNights_143 : decode cX8_layNights 143 = .ok (.getfield 42, 3) := by decide +kernel
theorem dX8_layNights_146 : decode cX8_layNights 146 = .ok (.iconst 0, 1) := by decide +kernel
theorem dX8_layNights_147 : decode cX8_layNights 147 = .ok (.aload_n 0, 1) := by decide +kernel
theorem dX8_layNights_148 : decode cX8_layNights 148 = .ok (.getfield 45, 3) := by decide +kernel
theorem dX8_layNights_151 : decode cX8_layNights 151 = .ok (.iconst 0, 1) := by decide +kernel
theorem dX8_layNights_152 : decode cX8_layNights 152 = .ok (.bipush 17, 2) := by decide +kernel
theorem dX8_layNights_154 : decode cX8_layNights 154 = .ok (.invokestatic 165, 3) := by decide +kernel
theorem dX8_layNights_157 : decode cX8_layNights 157 = .ok (.aload_n 0, 1) := by decide +kernel
theorem dX8_layNights_158 : decode cX8_layNights 158 = .ok (.aload_n 0, 1) := by decide +kernel
theorem dX8_layNights_159 : decode cX8_layNights 159 = .ok (.getfield 45, 3) := by decide +kernel
theorem dX8_layNights_162 : decode cX8_layNights 162 = .ok (.iload 6, 2) := by decide +kernel
theorem dX8_layNights_164 : decode cX8_layNights 164 = .ok (.invokevirtual 169, 3) := by decide +kernel
theorem dX8_layNights_167 : decode cX8_layNights 167 = .ok (.istore 7, 2) := by decide +kernel
theorem dX8_layNights_169 : decode cX8_layNights 169 = .ok (.aload_n 0, 1) := by decide +kernel
theorem dX8_layNights_170 : decode cX8_layNights 170 = .ok (.aload_n 0, 1) := by decide +kernel
theorem dX8_layNights_171 : decode cX8_layNights 171 = .ok (.getfield 45, 3) := by decide +kernel
theorem dX8_layNights_174 : decode cX8_layNights 174 = .ok (.iload_n 1, 1) := by decide +kernel
theorem dX8_layNights_175 : decode cX8_layNights 175 = .ok (.iload_n 2, 1) := by decide +kernel
theorem dX8_layNights_176 : decode cX8_layNights 176 = .ok (.invokevirtual 210, 3) := by decide +kernel
theorem dX8_layNights_179 : decode cX8_layNights 179 = .ok (.ifCond .eq 17, 3) := by decide +kernel
theorem dX8_layNights_182 : decode cX8_layNights 182 = .ok (.aload_n 0, 1) := by decide +kernel
theorem dX8_layNights_183 : decode cX8_layNights 183 = .ok (.iload 4, 2) := by decide +kernel
theorem dX8_layNights_185 : decode cX8_layNights 185 = .ok (.putfield 213, 3) := by decide +kernel
theorem dX8_layNights_188 : decode cX8_layNights 188 = .ok (.aload_n 0, 1) := by decide +kernel
theorem dX8_layNights_189 : decode cX8_layNights 189 = .ok (.iload 6, 2) := by decide +kernel
theorem dX8_layNights_191 : decode cX8_layNights 191 = .ok (.putfield 216, 3) := by decide +kernel
theorem dX8_layNights_194 : decode cX8_layNights 194 = .ok (.iconst 2, 1) := by decide +kernel
theorem dX8_layNights_195 : decode cX8_layNights 195 = .ok (.ireturn, 1) := by decide +kernel
theorem dX8_layNights_196 : decode cX8_layNights 196 = .ok (.iinc 6 1, 3) := by decide +kernel
theorem dX8_layNights_199 : decode cX8_layNights 199 = .ok (.goto (-79), 3) := by decide +kernel
theorem dX8_layNights_202 : decode cX8_layNights 202 = .ok (.iinc 4 1, 3) := by decide +kernel
theorem dX8_layNights_205 : decode cX8_layNights 205 = .ok (.goto (-118), 3) := by decide +kernel
theorem dX8_layNights_208 : decode cX8_layNights 208 = .ok (.ldc 219, 2) := by decide +kernel
theorem dX8_layNights_210 : decode cX8_layNights 210 = .ok (.ireturn, 1) := by decide +kernel
theorem dX8_soonest_0 : decode cX8_soonest 0 = .ok (.aload_n 0, 1) := by decide +kernel
theorem dX8_soonest_1 : decode cX8_soonest 1 = .ok (.iload_n 1, 1) := by decide +kernel
theorem dX8_soonest_2 : decode cX8_soonest 2 = .ok (.invokevirtual 220, 3) := by decide +kernel
theorem dX8_soonest_5 : decode cX8_soonest 5 = .ok (.ifCond .eq 11, 3) := by decide +kernel
theorem dX8_soonest_8 : decode cX8_soonest 8 = .ok (.aload_n 0, 1) := by decide +kernel
theorem dX8_soonest_9 : decode cX8_soonest 9 = .ok (.iload_n 2, 1) := by decide +kernel
theorem dX8_soonest_10 : decode cX8_soonest 10 = .ok (.invokevirtual 220, 3) := by decide +kernel
theorem dX8_soonest_13 : decode cX8_soonest 13 = .ok (.ifCond .ne 6, 3) := by decide +kernel
theorem dX8_soonest_16 : decode cX8_soonest 16 = .ok (.ldc 143, 2) := by decide +kernel
theorem dX8_soonest_18 : decode cX8_soonest 18 = .ok (.ireturn, 1) := by decide +kernel
theorem dX8_soonest_19 : decode cX8_soonest 19 = .ok (.aload_n 0, 1) := by decide +kernel
theorem dX8_soonest_20 : decode cX8_soonest 20 = .ok (.iload_n 1, 1) := by decide +kernel
theorem dX8_soonest_21 : decode cX8_soonest 21 = .ok (.iload_n 2, 1) := by decide +kernel
theorem dX8_soonest_22 : decode cX8_soonest 22 = .ok (.invokevirtual 223, 3) := by decide +kernel
theorem dX8_soonest_25 : decode cX8_soonest 25 = .ok (.istore 4, 2) := by decide +kernel
theorem dX8_soonest_27 : decode cX8_soonest 27 = .ok (.iload 4, 2) := by decide +kernel
theorem dX8_soonest_29 : decode cX8_soonest 29 = .ok (.ldc 219, 2) := by decide +kernel
theorem dX8_soonest_31 : decode cX8_soonest 31 = .ok (.if_icmp .ne 5, 3) := by decide +kernel
theorem dX8_soonest_34 : decode cX8_soonest 34 = .ok (.iconst (-1), 1) := by decide +kernel
theorem dX8_soonest_35 : decode cX8_soonest 35 = .ok (.ireturn, 1) := by decide +kernel
theorem dX8_soonest_36 : decode cX8_soonest 36 = .ok (.iload_n 3, 1) := by decide +kernel
theorem dX8_soonest_37 : decode cX8_soonest 37 = .ok (.iconst (-1), 1) := by decide +kernel
theorem dX8_soonest_38 : decode cX8_soonest 38 = .ok (.if_icmp .ne 8, 3) := by decide +kernel
theorem dX8_soonest_41 : decode cX8_soonest 41 = .ok (.iload 4, 2) := by decide +kernel
theorem dX8_soonest_43 : decode cX8_soonest 43 = .ok (.goto 36, 3) := by decide +kernel
theorem dX8_soonest_46 : decode cX8_soonest 46 = .ok (.iload_n 3, 1) := by decide +kernel
theorem dX8_soonest_47 : decode cX8_soonest 47 = .ok (.i2l, 1) := by decide +kernel
theorem dX8_soonest_48 : decode cX8_soonest 48 = .ok (.lconst 0, 1) := by decide +kernel
theorem dX8_soonest_49 : decode cX8_soonest 49 = .ok (.iload 4, 2) := by decide +kernel
theorem dX8_soonest_51 : decode cX8_soonest 51 = .ok (.iconst 1, 1) := by decide +kernel
theorem dX8_soonest_52 : decode cX8_soonest 52 = .ok (.isub, 1) := by decide +kernel
theorem dX8_soonest_53 : decode cX8_soonest 53 = .ok (.i2l, 1) := by decide +kernel
theorem dX8_soonest_54 : decode cX8_soonest 54 = .ok (.invokestatic 74, 3) := by decide +kernel
theorem dX8_soonest_57 : decode cX8_soonest 57 = .ok (.ifCond .ne 7, 3) := by decide +kernel
theorem dX8_soonest_60 : decode cX8_soonest 60 = .ok (.iconst (-1), 1) := by decide +kernel
theorem dX8_soonest_61 : decode cX8_soonest 61 = .ok (.goto 18, 3) := by decide +kernel
theorem dX8_soonest_64 : decode cX8_soonest 64 = .ok (.iload_n 3, 1) := by decide +kernel
theorem dX8_soonest_65 : decode cX8_soonest 65 = .ok (.ifCond .ne 10, 3) := by decide +kernel
theorem dX8_soonest_68 : decode cX8_soonest 68 = .ok (.aload_n 0, 1) := by decide +kernel
theorem dX8_soonest_69 : decode cX8_soonest 69 = .ok (.getfield 213, 3) := by decide +kernel
theorem dX8_soonest_72 : decode cX8_soonest 72 = .ok (.goto 7, 3) := by decide +kernel
theorem dX8_soonest_75 : decode cX8_soonest 75 = .ok (.aload_n 0, 1) := by decide +kernel
theorem dX8_soonest_76 : decode cX8_soonest 76 = .ok (.getfield 216, 3) := by decide +kernel
theorem dX8_soonest_79 : decode cX8_soonest 79 = .ok (.ireturn, 1) := by decide +kernel
theorem dX8_cannot_0 : decode cX8_cannot 0 = .ok (.aload_n 0, 1) := by decide +kernel
theorem dX8_cannot_1 : decode cX8_cannot 1 = .ok (.aload_n 0, 1) := by decide +kernel
theorem dX8_cannot_2 : decode cX8_cannot 2 = .ok (.getfield 16, 3) := by decide +kernel
theorem dX8_cannot_5 : decode cX8_cannot 5 = .ok (.invokevirtual 136, 3) := by decide +kernel
theorem dX8_cannot_8 : decode cX8_cannot 8 = .ok (.istore_n 1, 1) := by decide +kernel
theorem dX8_cannot_9 : decode cX8_cannot 9 = .ok (.iconst 1, 1) := by decide +kernel
theorem dX8_cannot_10 : decode cX8_cannot 10 = .ok (.aload_n 0, 1) := by decide +kernel
theorem dX8_cannot_11 : decode cX8_cannot 11 = .ok (.getfield 7, 3) := by decide +kernel
theorem dX8_cannot_14 : decode cX8_cannot 14 = .ok (.iconst 2, 1) := by decide +kernel
theorem dX8_cannot_15 : decode cX8_cannot 15 = .ok (.iaload, 1) := by decide +kernel
theorem dX8_cannot_16 : decode cX8_cannot 16 = .ok (.ishl, 1) := by decide +kernel
theorem dX8_cannot_17 : decode cX8_cannot 17 = .ok (.istore_n 2, 1) := by decide +kernel
theorem dX8_cannot_18 : decode cX8_cannot 18 = .ok (.iconst 0, 1) := by decide +kernel
theorem dX8_cannot_19 : decode cX8_cannot 19 = .ok (.istore_n 3, 1) := by decide +kernel
theorem dX8_cannot_20 : decode cX8_cannot 20 = .ok (.iload_n 3, 1) := by decide +kernel
theorem dX8_cannot_21 : decode cX8_cannot 21 = .ok (.iload_n 2, 1) := by decide +kernel
theorem dX8_cannot_22 : decode cX8_cannot 22 = .ok (.if_icmp .ge 111, 3) := by decide +kernel
theorem dX8_cannot_25 : decode cX8_cannot 25 = .ok (.aload_n 0, 1) := by decide +kernel
theorem dX8_cannot_26 : decode cX8_cannot 26 = .ok (.iload_n 3, 1) := by decide +kernel
theorem dX8_cannot_27 : decode cX8_cannot 27 = .ok (.aload_n 0, 1) := by decide +kernel
theorem dX8_cannot_28 : decode cX8_cannot 28 = .ok (.getfield 16, 3) := by decide +kernel
theorem dX8_cannot_31 : decode cX8_cannot 31 = .ok (.bipush 13, 2) := by decide +kernel
theorem dX8_cannot_33 : decode cX8_cannot 33 = .ok (.iaload, 1) := by decide +kernel
theorem dX8_cannot_34 : decode cX8_cannot 34 = .ok (.invokevirtual 176, 3) := by decide +kernel
theorem dX8_cannot_37 : decode cX8_cannot 37 = .ok (.ifCond .eq 90, 3) := by decide +kernel
theorem dX8_cannot_40 : decode cX8_cannot 40 = .ok (.aload_n 0, 1) := by decide +kernel
theorem dX8_cannot_41 : decode cX8_cannot 41 = .ok (.iload_n 3, 1) := by decide +kernel
theorem dX8_cannot_42 : decode cX8_cannot 42 = .ok (.invokevirtual 207, 3) := by decide +kernel
theorem dX8_cannot_45 : decode cX8_cannot 45 = .ok (.istore 4, 2) := by decide +kernel
theorem dX8_cannot_47 : decode cX8_cannot 47 = .ok (.iload_n 1, 1) := by decide +kernel
theorem dX8_cannot_48 : decode cX8_cannot 48 = .ok (.aload_n 0, 1) := by decide +kernel
theorem dX8_cannot_49 : decode cX8_cannot 49 = .ok (.aload_n 0, 1) := by decide +kernel
theorem dX8_cannot_50 : decode cX8_cannot 50 = .ok (.getfield 42, 3) := by decide +kernel
theorem dX8_cannot_53 : decode cX8_cannot 53 = .ok (.invokevirtual 136, 3) := by decide +kernel
theorem dX8_cannot_56 : decode cX8_cannot 56 = .ok (.ior, 1) := by decide +kernel
theorem dX8_cannot_57 : decode cX8_cannot 57 = .ok (.istore_n 1, 1) := by decide +kernel
theorem dX8_cannot_58 : decode cX8_cannot 58 = .ok (.iconst 0, 1) := by decide +kernel
theorem dX8_cannot_59 : decode cX8_cannot 59 = .ok (.istore 5, 2) := by decide +kernel
theorem dX8_cannot_61 : decode cX8_cannot 61 = .ok (.iload 5, 2) := by decide +kernel
theorem dX8_cannot_63 : decode cX8_cannot 63 = .ok (.iload_n 2, 1) := by decide +kernel
theorem dX8_cannot_64 : decode cX8_cannot 64 = .ok (.if_icmp .ge 63, 3) := by decide +kernel
theorem dX8_cannot_67 : decode cX8_cannot 67 = .ok (.aload_n 0, 1) := by decide +kernel
theorem dX8_cannot_68 : decode cX8_cannot 68 = .ok (.iload 5, 2) := by decide +kernel
theorem dX8_cannot_70 : decode cX8_cannot 70 = .ok (.aload_n 0, 1) := by decide +kernel
theorem dX8_cannot_71 : decode cX8_cannot 71 = .ok (.getfield 16, 3) := by decide +kernel
theorem dX8_cannot_74 : decode cX8_cannot 74 = .ok (.bipush 13, 2) := by decide +kernel
theorem dX8_cannot_76 : decode cX8_cannot 76 = .ok (.iaload, 1) := by decide +kernel
theorem dX8_cannot_77 : decode cX8_cannot 77 = .ok (.invokevirtual 176, 3) := by decide +kernel
theorem dX8_cannot_80 : decode cX8_cannot 80 = .ok (.ifCond .eq 41, 3) := by decide +kernel
theorem dX8_cannot_83 : decode cX8_cannot 83 = .ok (.aload_n 0, 1) := by decide +kernel
theorem dX8_cannot_84 : decode cX8_cannot 84 = .ok (.getfield 42, 3) := by decide +kernel
theorem dX8_cannot_87 : decode cX8_cannot 87 = .ok (.iconst 0, 1) := by decide +kernel
theorem dX8_cannot_88 : decode cX8_cannot 88 = .ok (.aload_n 0, 1) := by decide +kernel
theorem dX8_cannot_89 : decode cX8_cannot 89 = .ok (.getfield 45, 3) := by decide +kernel
theorem dX8_cannot_92 : decode cX8_cannot 92 = .ok (.iconst 0, 1) := by decide +kernel
theorem dX8_cannot_93 : decode cX8_cannot 93 = .ok (.bipush 17, 2) := by decide +kernel
theorem dX8_cannot_95 : decode cX8_cannot 95 = .ok (.invokestatic 165, 3) := by decide +kernel
theorem dX8_cannot_98 : decode cX8_cannot 98 = .ok (.aload_n 0, 1) := by decide +kernel
theorem dX8_cannot_99 : decode cX8_cannot 99 = .ok (.aload_n 0, 1) := by decide +kernel
theorem dX8_cannot_100 : decode cX8_cannot 100 = .ok (.getfield 45, 3) := by decide +kernel
theorem dX8_cannot_103 : decode cX8_cannot 103 = .ok (.iload 5, 2) := by decide +kernel
theorem dX8_cannot_105 : decode cX8_cannot 105 = .ok (.invokevirtual 169, 3) := by decide +kernel
theorem dX8_cannot_108 : decode cX8_cannot 108 = .ok (.istore 6, 2) := by decide +kernel
theorem dX8_cannot_110 : decode cX8_cannot 110 = .ok (.iload_n 1, 1) := by decide +kernel
theorem dX8_cannot_111 : decode cX8_cannot 111 = .ok (.aload_n 0, 1) := by decide +kernel
theorem dX8_cannot_112 : decode cX8_cannot 112 = .ok (.aload_n 0, 1) := by decide +kernel
theorem dX8_cannot_113 : decode cX8_cannot 113 = .ok (.getfield 45, 3) := by decide +kernel
theorem dX8_cannot_116 : decode cX8_cannot 116 = .ok (.invokevirtual 136, 3) := by decide +kernel
theorem dX8_cannot_119 : decode cX8_cannot 119 = .ok (.ior, 1) := by decide +kernel
theorem dX8_cannot_120 : decode cX8_cannot 120 = .ok (.istore_n 1, 1) := by decide +kernel
theorem dX8_cannot_121 : decode cX8_cannot 121 = .ok (.iinc 5 1, 3) := by decide +kernel
theorem dX8_cannot_124 : decode cX8_cannot 124 = .ok (.goto (-63), 3) := by decide +kernel
theorem dX8_cannot_127 : decode cX8_cannot 127 = .ok (.iinc 3 1, 3) := by decide +kernel
theorem dX8_cannot_130 : decode cX8_cannot 130 = .ok (.goto (-110), 3) := by decide +kernel
theorem dX8_cannot_133 : decode cX8_cannot 133 = .ok (.iconst 1, 1) := by decide +kernel
theorem dX8_cannot_134 : decode cX8_cannot 134 = .ok (.aload_n 0, 1) := by decide +kernel
theorem dX8_cannot_135 : decode cX8_cannot 135 = .ok (.getfield 7, 3) := by decide +kernel
theorem dX8_cannot_138 : decode cX8_cannot 138 = .ok (.iconst 1, 1) := by decide +kernel
theorem dX8_cannot_139 : decode cX8_cannot 139 = .ok (.iaload, 1) := by decide +kernel
theorem dX8_cannot_140 : decode cX8_cannot 140 = .ok (.ishl, 1) := by decide +kernel
theorem dX8_cannot_141 : decode cX8_cannot 141 = .ok (.iconst 1, 1) := by decide +kernel
theorem dX8_cannot_142 : decode cX8_cannot 142 = .ok (.isub, 1) := by decide +kernel
theorem dX8_cannot_143 : decode cX8_cannot 143 = .ok (.iload_n 1, 1) := by decide +kernel
theorem dX8_cannot_144 : decode cX8_cannot 144 = .ok (.iconst (-1), 1) := by decide +kernel
theorem dX8_cannot_145 : decode cX8_cannot 145 = .ok (.ixor, 1) := by decide +kernel
theorem dX8_cannot_146 : decode cX8_cannot 146 = .ok (.iand, 1) := by decide +kernel
theorem dX8_cannot_147 : decode cX8_cannot 147 = .ok (.ireturn, 1) := by decide +kernel
theorem dX8_costOf_0 : decode cX8_costOf 0 = .ok (.iconst 0, 1) := by decide +kernel
theorem dX8_costOf_1 : decode cX8_costOf 1 = .ok (.istore_n 2, 1) := by decide +kernel
theorem dX8_costOf_2 : decode cX8_costOf 2 = .ok (.iconst 0, 1) := by decide +kernel
theorem dX8_costOf_3 : decode cX8_costOf 3 = .ok (.istore_n 3, 1) := by decide +kernel
theorem dX8_costOf_4 : decode cX8_costOf 4 = .ok (.iload_n 3, 1) := by decide +kernel
theorem dX8_costOf_5 : decode cX8_costOf 5 = .ok (.aload_n 0, 1) := by decide +kernel
theorem dX8_costOf_6 : decode cX8_costOf 6 = .ok (.getfield 7, 3) := by decide +kernel
theorem dX8_costOf_9 : decode cX8_costOf 9 = .ok (.iconst 2, 1) := by decide +kernel
theorem dX8_costOf_10 : decode cX8_costOf 10 = .ok (.iaload, 1) := by decide +kernel
theorem dX8_costOf_11 : decode cX8_costOf 11 = .ok (.if_icmp .ge 33, 3) := by decide +kernel
theorem dX8_costOf_14 : decode cX8_costOf 14 = .ok (.iload_n 2, 1) := by decide +kernel
theorem dX8_costOf_15 : decode cX8_costOf 15 = .ok (.iload_n 1, 1) := by decide +kernel
theorem dX8_costOf_16 : decode cX8_costOf 16 = .ok (.iload_n 3, 1) := by decide +kernel
theorem dX8_costOf_17 : decode cX8_costOf 17 = .ok (.invokestatic 147, 3) := by decide +kernel
theorem dX8_costOf_20 : decode cX8_costOf 20 = .ok (.ifCond .eq 15, 3) := by decide +kernel
theorem dX8_costOf_23 : decode cX8_costOf 23 = .ok (.aload_n 0, 1) := by decide +kernel
theorem dX8_costOf_24 : decode cX8_costOf 24 = .ok (.getfield 7, 3) := by decide +kernel
theorem dX8_costOf_27 : decode cX8_costOf 27 = .ok (.bipush 42, 2) := by decide +kernel
theorem dX8_costOf_29 : decode cX8_costOf 29 = .ok (.iload_n 3, 1) := by decide +kernel
theorem dX8_costOf_30 : decode cX8_costOf 30 = .ok (.iadd, 1) := by decide +kernel
theorem dX8_costOf_31 : decode cX8_costOf 31 = .ok (.iaload, 1) := by decide +kernel
theorem dX8_costOf_32 : decode cX8_costOf 32 = .ok (.goto 4, 3) := by decide +kernel
theorem dX8_costOf_35 : decode cX8_costOf 35 = .ok (.iconst 0, 1) := by decide +kernel
theorem dX8_costOf_36 : decode cX8_costOf 36 = .ok (.iadd, 1) := by decide +kernel
theorem dX8_costOf_37 : decode cX8_costOf 37 = .ok (.istore_n 2, 1) := by decide +kernel
theorem dX8_costOf_38 : decode cX8_costOf 38 = .ok (.iinc 3 1, 3) := by decide +kernel
theorem dX8_costOf_41 : decode cX8_costOf 41 = .ok (.goto (-37), 3) := by decide +kernel
theorem dX8_costOf_44 : decode cX8_costOf 44 = .ok (.iload_n 2, 1) := by decide +kernel
theorem dX8_costOf_45 : decode cX8_costOf 45 = .ok (.ireturn, 1) := by decide +kernel
theorem dX8_convinces_0 : decode cX8_convinces 0 = .ok (.iconst 0, 1) := by decide +kernel
theorem dX8_convinces_1 : decode cX8_convinces 1 = .ok (.istore_n 3, 1) := by decide +kernel
theorem dX8_convinces_2 : decode cX8_convinces 2 = .ok (.iload_n 3, 1) := by decide +kernel
theorem dX8_convinces_3 : decode cX8_convinces 3 = .ok (.iconst 1, 1) := by decide +kernel
theorem dX8_convinces_4 : decode cX8_convinces 4 = .ok (.aload_n 0, 1) := by decide +kernel
theorem dX8_convinces_5 : decode cX8_convinces 5 = .ok (.getfield 7, 3) := by decide +kernel
theorem dX8_convinces_8 : decode cX8_convinces 8 = .ok (.iconst 2, 1) := by decide +kernel
theorem dX8_convinces_9 : decode cX8_convinces 9 = .ok (.iaload, 1) := by decide +kernel
theorem dX8_convinces_10 : decode cX8_convinces 10 = .ok (.ishl, 1) := by decide +kernel
theorem dX8_convinces_11 : decode cX8_convinces 11 = .ok (.if_icmp .ge 42, 3) := by decide +kernel
theorem dX8_convinces_14 : decode cX8_convinces 14 = .ok (.aload_n 0, 1) := by decide +kernel
theorem dX8_convinces_15 : decode cX8_convinces 15 = .ok (.iload_n 3, 1) := by decide +kernel
theorem dX8_convinces_16 : decode cX8_convinces 16 = .ok (.iload_n 2, 1) := by decide +kernel
theorem dX8_convinces_17 : decode cX8_convinces 17 = .ok (.invokevirtual 176, 3) := by decide +kernel
theorem dX8_convinces_20 : decode cX8_convinces 20 = .ok (.ifCond .eq 27, 3) := by decide +kernel
theorem dX8_convinces_23 : decode cX8_convinces 23 = .ok (.aload_n 0, 1) := by decide +kernel
theorem dX8_convinces_24 : decode cX8_convinces 24 = .ok (.iload_n 3, 1) := by decide +kernel
theorem dX8_convinces_25 : decode cX8_convinces 25 = .ok (.invokevirtual 207, 3) := by decide +kernel
theorem dX8_convinces_28 : decode cX8_convinces 28 = .ok (.istore 4, 2) := by decide +kernel
theorem dX8_convinces_30 : decode cX8_convinces 30 = .ok (.aload_n 0, 1) := by decide +kernel
theorem dX8_convinces_31 : decode cX8_convinces 31 = .ok (.getfield 42, 3) := by decide +kernel
theorem dX8_convinces_34 : decode cX8_convinces 34 = .ok (.iload_n 1, 1) := by decide +kernel
theorem dX8_convinces_35 : decode cX8_convinces 35 = .ok (.iaload, 1) := by decide +kernel
theorem dX8_convinces_36 : decode cX8_convinces 36 = .ok (.aload_n 0, 1) := by decide +kernel
theorem dX8_convinces_37 : decode cX8_convinces 37 = .ok (.getfield 7, 3) := by decide +kernel
theorem dX8_convinces_40 : decode cX8_convinces 40 = .ok (.iconst 3, 1) := by decide +kernel
theorem dX8_convinces_41 : decode cX8_convinces 41 = .ok (.iaload, 1) := by decide +kernel
theorem dX8_convinces_42 : decode cX8_convinces 42 = .ok (.if_icmp .lt 5, 3) := by decide +kernel
theorem dX8_convinces_45 : decode cX8_convinces 45 = .ok (.iconst 1, 1) := by decide +kernel
theorem dX8_convinces_46 : decode cX8_convinces 46 = .ok (.ireturn, 1) := by decide +kernel
theorem dX8_convinces_47 : decode cX8_convinces 47 = .ok (.iinc 3 1, 3) := by decide +kernel
theorem dX8_convinces_50 : decode cX8_convinces 50 = .ok (.goto (-48), 3) := by decide +kernel
theorem dX8_convinces_53 : decode cX8_convinces 53 = .ok (.iconst 0, 1) := by decide +kernel
theorem dX8_convinces_54 : decode cX8_convinces 54 = .ok (.ireturn, 1) := by decide +kernel
theorem dX8_least_0 : decode cX8_least 0 = .ok (.aload_n 0, 1) := by decide +kernel
theorem dX8_least_1 : decode cX8_least 1 = .ok (.iload_n 1, 1) := by decide +kernel
theorem dX8_least_2 : decode cX8_least 2 = .ok (.invokevirtual 140, 3) := by decide +kernel
theorem dX8_least_5 : decode cX8_least 5 = .ok (.ifCond .ne 6, 3) := by decide +kernel
theorem dX8_least_8 : decode cX8_least 8 = .ok (.ldc 143, 2) := by decide +kernel
theorem dX8_least_10 : decode cX8_least 10 = .ok (.ireturn, 1) := by decide +kernel
theorem dX8_least_11 : decode cX8_least 11 = .ok (.iload_n 2, 1) := by decide +kernel
theorem dX8_least_12 : decode cX8_least 12 = .ok (.i2l, 1) := by decide +kernel
theorem dX8_least_13 : decode cX8_least 13 = .ok (.lconst 0, 1) := by decide +kernel
theorem dX8_least_14 : decode cX8_least 14 = .ok (.lconst 1, 1) := by decide +kernel
theorem dX8_least_15 : decode cX8_least 15 = .ok (.invokestatic 74, 3) := by decide +kernel
theorem dX8_least_18 : decode cX8_least 18 = .ok (.ifCond .ne 6, 3) := by decide +kernel
theorem dX8_least_21 : decode cX8_least 21 = .ok (.ldc 78, 2) := by decide +kernel
theorem dX8_least_23 : decode cX8_least 23 = .ok (.ireturn, 1) := by decide +kernel
theorem dX8_least_24 : decode cX8_least 24 = .ok (.iconst (-1), 1) := by decide +kernel
theorem dX8_least_25 : decode cX8_least 25 = .ok (.istore_n 3, 1) := by decide +kernel
theorem dX8_least_26 : decode cX8_least 26 = .ok (.iconst 0, 1) := by decide +kernel
theorem dX8_least_27 : decode cX8_least 27 = .ok (.istore 4, 2) := by decide +kernel
theorem dX8_least_29 : decode cX8_least 29 = .ok (.iload 4, 2) := by decide +kernel
theorem dX8_least_31 : decode cX8_least 31 = .ok (.iconst 1, 1) := by decide +kernel
theorem dX8_least_32 : decode cX8_least 32 = .ok (.aload_n 0, 1) := by decide +kernel
theorem dX8_least_33 : decode cX8_least 33 = .ok (.getfield 7, 3) := by decide +kernel
theorem dX8_least_36 : decode cX8_least 36 = .ok (.iconst 2, 1) := by decide +kernel
theorem dX8_least_37 : decode cX8_least 37 = .ok (.iaload, 1) := by decide +kernel
theorem dX8_least_38 : decode cX8_least 38 = .ok (.ishl, 1) := by decide +kernel
theorem dX8_least_39 : decode cX8_least 39 = .ok (.if_icmp .ge 78, 3) := by decide +kernel
theorem dX8_least_42 : decode cX8_least 42 = .ok (.iload 4, 2) := by decide +kernel
theorem dX8_least_44 : decode cX8_least 44 = .ok (.aload_n 0, 1) := by decide +kernel
theorem dX8_least_45 : decode cX8_least 45 = .ok (.getfield 16, 3) := by decide +kernel
theorem dX8_least_48 : decode cX8_least 48 = .ok (.bipush 13, 2) := by decide +kernel
theorem dX8_least_50 : decode cX8_least 50 = .ok (.iaload, 1) := by decide +kernel
theorem dX8_least_51 : decode cX8_least 51 = .ok (.iand, 1) := by decide +kernel
theorem dX8_least_52 : decode cX8_least 52 = .ok (.ifCond .ne 26, 3) := by decide +kernel
theorem dX8_least_55 : decode cX8_least 55 = .ok (.iload_n 3, 1) := by decide +kernel
theorem dX8_least_56 : decode cX8_least 56 = .ok (.iconst (-1), 1) := by decide +kernel
theorem dX8_least_57 : decode cX8_least 57 = .ok (.if_icmp .eq 17, 3) := by decide +kernel
theorem dX8_least_60 : decode cX8_least 60 = .ok (.aload_n 0, 1) := by decide +kernel
theorem dX8_least_61 : decode cX8_least 61 = .ok (.iload 4, 2) := by decide +kernel
theorem dX8_least_63 : decode cX8_least 63 = .ok (.invokevirtual 227, 3) := by decide +kernel
theorem dX8_least_66 : decode cX8_least 66 = .ok (.aload_n 0, 1) := by decide +kernel
theorem dX8_least_67 : decode cX8_least 67 = .ok (.iload_n 3, 1) := by decide +kernel
theorem dX8_least_68 : decode cX8_least 68 = .ok (.invokevirtual 227, 3) := by decide +kernel
theorem dX8_least_71 : decode cX8_least 71 = .ok (.if_icmp .ge 7, 3) := by decide +kernel
theorem dX8_least_74 : decode cX8_least 74 = .ok (.iconst 1, 1) := by decide +kernel
theorem dX8_least_75 : decode cX8_least 75 = .ok (.goto 4, 3) := by decide +kernel
theorem dX8_least_78 : decode cX8_least 78 = .ok (.iconst 0, 1) := by decide +kernel
theorem dX8_least_79 : decode cX8_least 79 = .ok (.istore 5, 2) := by decide +kernel
theorem dX8_least_81 : decode cX8_least 81 = .ok (.iload 5, 2) := by decide +kernel
theorem dX8_least_83 : decode cX8_least 83 = .ok (.ifCond .eq 26, 3) := by decide +kernel
theorem dX8_least_86 : decode cX8_least 86 = .ok (.aload_n 0, 1) := by decide +kernel
theorem dX8_least_87 : decode cX8_least 87 = .ok (.iload_n 1, 1) := by decide +kernel
theorem dX8_least_88 : decode cX8_least 88 = .ok (.aload_n 0, 1) := by decide +kernel
theorem dX8_least_89 : decode cX8_least 89 = .ok (.getfield 16, 3) := by decide +kernel
theorem dX8_least_92 : decode cX8_least 92 = .ok (.bipush 13, 2) := by decide +kernel
theorem dX8_least_94 : decode cX8_least 94 = .ok (.iaload, 1) := by decide +kernel
theorem dX8_least_95 : decode cX8_least 95 = .ok (.iload 4, 2) := by decide +kernel
theorem dX8_least_97 : decode cX8_least 97 = .ok (.ior, 1) := by decide +kernel
theorem dX8_least_98 : decode cX8_least 98 = .ok (.invokevirtual 230, 3) := by decide +kernel
theorem dX8_least_101 : decode cX8_least 101 = .ok (.ifCond .eq 8, 3) := by decide +kernel
theorem dX8_least_104 : decode cX8_least 104 = .ok (.iload 4, 2) := by decide +kernel
theorem dX8_least_106 : decode cX8_least 106 = .ok (.goto 4, 3) := by decide +kernel
theorem dX8_least_109 : decode cX8_least 109 = .ok (.iload_n 3, 1) := by decide +kernel
theorem dX8_least_110 : decode cX8_least 110 = .ok (.istore_n 3, 1) := by decide +kernel
theorem dX8_least_111 : decode cX8_least 111 = .ok (.iinc 4 1, 3) := by decide +kernel
theorem dX8_least_114 : decode cX8_least 114 = .ok (.goto (-85), 3) := by decide +kernel
theorem dX8_least_117 : decode cX8_least 117 = .ok (.iload_n 3, 1) := by decide +kernel
theorem dX8_least_118 : decode cX8_least 118 = .ok (.iconst (-1), 1) := by decide +kernel
theorem dX8_least_119 : decode cX8_least 119 = .ok (.if_icmp .eq 8, 3) := by decide +kernel
theorem dX8_least_122 : decode cX8_least 122 = .ok (.iload_n 2, 1) := by decide +kernel
theorem dX8_least_123 : decode cX8_least 123 = .ok (.iconst 1, 1) := by decide +kernel
theorem dX8_least_124 : decode cX8_least 124 = .ok (.if_icmp .ne 7, 3) := by decide +kernel
theorem dX8_least_127 : decode cX8_least 127 = .ok (.iload_n 3, 1) := by decide +kernel
theorem dX8_least_128 : decode cX8_least 128 = .ok (.goto 8, 3) := by decide +kernel
theorem dX8_least_131 : decode cX8_least 131 = .ok (.aload_n 0, 1) := by decide +kernel
theorem dX8_least_132 : decode cX8_least 132 = .ok (.iload_n 3, 1) := by decide +kernel
theorem dX8_least_133 : decode cX8_least 133 = .ok (.invokevirtual 227, 3) := by decide +kernel
theorem dX8_least_136 : decode cX8_least 136 = .ok (.ireturn, 1) := by decide +kernel
theorem dX8_beginsStep_0 : decode cX8_beginsStep 0 = .ok (.aload_n 0, 1) := by decide +kernel
theorem dX8_beginsStep_1 : decode cX8_beginsStep 1 = .ok (.getfield 54, 3) := by decide +kernel
theorem dX8_beginsStep_4 : decode cX8_beginsStep 4 = .ok (.iload_n 1, 1) := by decide +kernel
theorem dX8_beginsStep_5 : decode cX8_beginsStep 5 = .ok (.iconst (-1), 1) := by decide +kernel
theorem dX8_beginsStep_6 : decode cX8_beginsStep 6 = .ok (.iastore, 1) := by decide +kernel
theorem dX8_beginsStep_7 : decode cX8_beginsStep 7 = .ok (.aload_n 0, 1) := by decide +kernel
theorem dX8_beginsStep_8 : decode cX8_beginsStep 8 = .ok (.getfield 57, 3) := by decide +kernel
theorem dX8_beginsStep_11 : decode cX8_beginsStep 11 = .ok (.iload_n 1, 1) := by decide +kernel
theorem dX8_beginsStep_12 : decode cX8_beginsStep 12 = .ok (.iconst (-1), 1) := by decide +kernel
theorem dX8_beginsStep_13 : decode cX8_beginsStep 13 = .ok (.iastore, 1) := by decide +kernel
theorem dX8_beginsStep_14 : decode cX8_beginsStep 14 = .ok (.return_, 1) := by decide +kernel
theorem dX8_weighs_0 : decode cX8_weighs 0 = .ok (.aload_n 0, 1) := by decide +kernel
theorem dX8_weighs_1 : decode cX8_weighs 1 = .ok (.getfield 57, 3) := by decide +kernel
theorem dX8_weighs_4 : decode cX8_weighs 4 = .ok (.iload_n 1, 1) := by decide +kernel
theorem dX8_weighs_5 : decode cX8_weighs 5 = .ok (.iaload, 1) := by decide +kernel
theorem dX8_weighs_6 : decode cX8_weighs 6 = .ok (.iconst (-1), 1) := by decide +kernel
theorem dX8_weighs_7 : decode cX8_weighs 7 = .ok (.if_icmp .eq 32, 3) := by decide +kernel
theorem dX8_weighs_10 : decode cX8_weighs 10 = .ok (.iload_n 1, 1) := by decide +kernel
theorem dX8_weighs_11 : decode cX8_weighs 11 = .ok (.iconst 2, 1) := by decide +kernel
theorem dX8_weighs_12 : decode cX8_weighs 12 = .ok (.irem, 1) := by decide +kernel
theorem dX8_weighs_13 : decode cX8_weighs 13 = .ok (.ifCond .ne 16, 3) := by decide +kernel
theorem dX8_weighs_16 : decode cX8_weighs 16 = .ok (.iload_n 2, 1) := by decide +kernel
theorem dX8_weighs_17 : decode cX8_weighs 17 = .ok (.aload_n 0, 1) := by decide +kernel
theorem dX8_weighs_18 : decode cX8_weighs 18 = .ok (.getfield 57, 3) := by decide +kernel
theorem dX8_weighs_21 : decode cX8_weighs 21 = .ok (.iload_n 1, 1) := by decide +kernel
theorem dX8_weighs_22 : decode cX8_weighs 22 = .ok (.iaload, 1) := by decide +kernel
theorem dX8_weighs_23 : decode cX8_weighs 23 = .ok (.if_icmp .le 20, 3) := by decide +kernel
theorem dX8_weighs_26 : decode cX8_weighs 26 = .ok (.goto 13, 3) := by decide +kernel
theorem dX8_weighs_29 : decode cX8_weighs 29 = .ok (.iload_n 2, 1) := by decide +kernel
theorem dX8_weighs_30 : decode cX8_weighs 30 = .ok (.aload_n 0, 1) := by decide +kernel
theorem dX8_weighs_31 : decode cX8_weighs 31 = .ok (.getfield 57, 3) := by decide +kernel
theorem dX8_weighs_34 : decode cX8_weighs 34 = .ok (.iload_n 1, 1) := by decide +kernel
theorem dX8_weighs_35 : decode cX8_weighs 35 = .ok (.iaload, 1) := by decide +kernel
theorem dX8_weighs_36 : decode cX8_weighs 36 = .ok (.if_icmp .ge 7, 3) := by decide +kernel
theorem dX8_weighs_39 : decode cX8_weighs 39 = .ok (.iconst 1, 1) := by decide +kernel
theorem dX8_weighs_40 : decode cX8_weighs 40 = .ok (.goto 4, 3) := by decide +kernel
theorem dX8_weighs_43 : decode cX8_weighs 43 = .ok (.iconst 0, 1) := by decide +kernel
theorem dX8_weighs_44 : decode cX8_weighs 44 = .ok (.istore_n 3, 1) := by decide +kernel
theorem dX8_weighs_45 : decode cX8_weighs 45 = .ok (.aload_n 0, 1) := by decide +kernel
theorem dX8_weighs_46 : decode cX8_weighs 46 = .ok (.getfield 57, 3) := by decide +kernel
theorem dX8_weighs_49 : decode cX8_weighs 49 = .ok (.iload_n 1, 1) := by decide +kernel
theorem dX8_weighs_50 : decode cX8_weighs 50 = .ok (.iload_n 3, 1) := by decide +kernel
theorem dX8_weighs_51 : decode cX8_weighs 51 = .ok (.ifCond .eq 7, 3) := by decide +kernel
theorem dX8_weighs_54 : decode cX8_weighs 54 = .ok (.iload_n 2, 1) := by decide +kernel
theorem dX8_weighs_55 : decode cX8_weighs 55 = .ok (.goto 9, 3) := by decide +kernel
theorem dX8_weighs_58 : decode cX8_weighs 58 = .ok (.aload_n 0, 1) := by decide +kernel
theorem dX8_weighs_59 : decode cX8_weighs 59 = .ok (.getfield 57, 3) := by decide +kernel
theorem dX8_weighs_62 : decode cX8_weighs 62 = .ok (.iload_n 1, 1) := by decide +kernel
theorem dX8_weighs_63 : decode cX8_weighs 63 = .ok (.iaload, 1) := by decide +kernel
theorem dX8_weighs_64 : decode cX8_weighs 64 = .ok (.iastore, 1) := by decide +kernel
theorem dX8_weighs_65 : decode cX8_weighs 65 = .ok (.return_, 1) := by decide +kernel
theorem dX8_goes_0 : decode cX8_goes 0 = .ok (.aload_n 0, 1) := by decide +kernel
theorem dX8_goes_1 : decode cX8_goes 1 = .ok (.getfield 54, 3) := by decide +kernel
theorem dX8_goes_4 : decode cX8_goes 4 = .ok (.iload_n 1, 1) := by decide +kernel
theorem dX8_goes_5 : decode cX8_goes 5 = .ok (.iaload, 1) := by decide +kernel
theorem dX8_goes_6 : decode cX8_goes 6 = .ok (.istore_n 2, 1) := by decide +kernel
theorem dX8_goes_7 : decode cX8_goes 7 = .ok (.aload_n 0, 1) := by decide +kernel
theorem dX8_goes_8 : decode cX8_goes 8 = .ok (.getfield 16, 3) := by decide +kernel
theorem dX8_goes_11 : decode cX8_goes 11 = .ok (.bipush 13, 2) := by decide +kernel
theorem dX8_goes_13 : decode cX8_goes 13 = .ok (.iaload, 1) := by decide +kernel
theorem dX8_goes_14 : decode cX8_goes 14 = .ok (.aload_n 0, 1) := by decide +kernel
theorem dX8_goes_15 : decode cX8_goes 15 = .ok (.getfield 51, 3) := by decide +kernel
theorem dX8_goes_18 : decode cX8_goes 18 = .ok (.iload_n 1, 1) := by decide +kernel
theorem dX8_goes_19 : decode cX8_goes 19 = .ok (.iaload, 1) := by decide +kernel
theorem dX8_goes_20 : decode cX8_goes 20 = .ok (.iconst (-1), 1) := by decide +kernel
theorem dX8_goes_21 : decode cX8_goes 21 = .ok (.ixor, 1) := by decide +kernel
theorem dX8_goes_22 : decode cX8_goes 22 = .ok (.iand, 1) := by decide +kernel
theorem dX8_goes_23 : decode cX8_goes 23 = .ok (.istore_n 3, 1) := by decide +kernel
theorem dX8_goes_24 : decode cX8_goes 24 = .ok (.iload_n 2, 1) := by decide +kernel
theorem dX8_goes_25 : decode cX8_goes 25 = .ok (.aload_n 0, 1) := by decide +kernel
theorem dX8_goes_26 : decode cX8_goes 26 = .ok (.getfield 7, 3) := by decide +kernel
theorem dX8_goes_29 : decode cX8_goes 29 = .ok (.iconst 2, 1) := by decide +kernel
theorem dX8_goes_30 : decode cX8_goes 30 = .ok (.iaload, 1) := by decide +kernel
theorem dX8_goes_31 : decode cX8_goes 31 = .ok (.if_icmp .ne 10, 3) := by decide +kernel
theorem dX8_goes_34 : decode cX8_goes 34 = .ok (.iload_n 3, 1) := by decide +kernel
theorem dX8_goes_35 : decode cX8_goes 35 = .ok (.ifCond .eq 16, 3) := by decide +kernel
theorem dX8_goes_38 : decode cX8_goes 38 = .ok (.goto 11, 3) := by decide +kernel
theorem dX8_goes_41 : decode cX8_goes 41 = .ok (.iload_n 3, 1) := by decide +kernel
theorem dX8_goes_42 : decode cX8_goes 42 = .ok (.iload_n 2, 1) := by decide +kernel
theorem dX8_goes_43 : decode cX8_goes 43 = .ok (.invokestatic 147, 3) := by decide +kernel
theorem dX8_goes_46 : decode cX8_goes 46 = .ok (.ifCond .ne 5, 3) := by decide +kernel
theorem dX8_goes_49 : decode cX8_goes 49 = .ok (.iconst 0, 1) := by decide +kernel
theorem dX8_goes_50 : decode cX8_goes 50 = .ok (.ireturn, 1) := by decide +kernel
theorem dX8_goes_51 : decode cX8_goes 51 = .ok (.aload_n 0, 1) := by decide +kernel
theorem dX8_goes_52 : decode cX8_goes 52 = .ok (.getfield 48, 3) := by decide +kernel
theorem dX8_goes_55 : decode cX8_goes 55 = .ok (.bipush 17, 2) := by decide +kernel
theorem dX8_goes_57 : decode cX8_goes 57 = .ok (.iload_n 1, 1) := by decide +kernel
theorem dX8_goes_58 : decode cX8_goes 58 = .ok (.imul, 1) := by decide +kernel
theorem dX8_goes_59 : decode cX8_goes 59 = .ok (.aload_n 0, 1) := by decide +kernel
theorem dX8_goes_60 : decode cX8_goes 60 = .ok (.getfield 42, 3) := by decide +kernel
theorem dX8_goes_63 : decode cX8_goes 63 = .ok (.iconst 0, 1) := by decide +kernel
theorem dX8_goes_64 : decode cX8_goes 64 = .ok (.bipush 17, 2) := by decide +kernel
theorem dX8_goes_66 : decode cX8_goes 66 = .ok (.invokestatic 165, 3) := by decide +kernel
theorem dX8_goes_69 : decode cX8_goes 69 = .ok (.iload_n 2, 1) := by decide +kernel
theorem dX8_goes_70 : decode cX8_goes 70 = .ok (.aload_n 0, 1) := by decide +kernel
theorem dX8_goes_71 : decode cX8_goes 71 = .ok (.getfield 7, 3) := by decide +kernel
theorem dX8_goes_74 : decode cX8_goes 74 = .ok (.iconst 2, 1) := by decide +kernel
theorem dX8_goes_75 : decode cX8_goes 75 = .ok (.iaload, 1) := by decide +kernel
theorem dX8_goes_76 : decode cX8_goes 76 = .ok (.if_icmp .ge 19, 3) := by decide +kernel
theorem dX8_goes_79 : decode cX8_goes 79 = .ok (.aload_n 0, 1) := by decide +kernel
theorem dX8_goes_80 : decode cX8_goes 80 = .ok (.aload_n 0, 1) := by decide +kernel
theorem dX8_goes_81 : decode cX8_goes 81 = .ok (.getfield 42, 3) := by decide +kernel
theorem dX8_goes_84 : decode cX8_goes 84 = .ok (.iload_n 2, 1) := by decide +kernel
theorem dX8_goes_85 : decode cX8_goes 85 = .ok (.aload_n 0, 1) := by decide +kernel
theorem dX8_goes_86 : decode cX8_goes 86 = .ok (.iload_n 2, 1) := by decide +kernel
theorem dX8_goes_87 : decode cX8_goes 87 = .ok (.invokevirtual 155, 3) := by decide +kernel
theorem dX8_goes_90 : decode cX8_goes 90 = .ok (.invokevirtual 158, 3) := by decide +kernel
theorem dX8_goes_93 : decode cX8_goes 93 = .ok (.istore 4, 2) := by decide +kernel
theorem dX8_goes_95 : decode cX8_goes 95 = .ok (.aload_n 0, 1) := by decide +kernel
theorem dX8_goes_96 : decode cX8_goes 96 = .ok (.getfield 42, 3) := by decide +kernel
theorem dX8_goes_99 : decode cX8_goes 99 = .ok (.iconst 0, 1) := by decide +kernel
theorem dX8_goes_100 : decode cX8_goes 100 = .ok (.aload_n 0, 1) := by decide +kernel
theorem dX8_goes_101 : decode cX8_goes 101 = .ok (.getfield 48, 3) := by decide +kernel
theorem dX8_goes_104 : decode cX8_goes 104 = .ok (.bipush 17, 2) := by decide +kernel
theorem dX8_goes_106 : decode cX8_goes 106 = .ok (.iload_n 1, 1) := by decide +kernel
theorem dX8_goes_107 : decode cX8_goes 107 = .ok (.iconst 1, 1) := by decide +kernel
theorem dX8_goes_108 : decode cX8_goes 108 = .ok (.iadd, 1) := by decide +kernel
theorem dX8_goes_109 : decode cX8_goes 109 = .ok (.imul, 1) := by decide +kernel
theorem dX8_goes_110 : decode cX8_goes 110 = .ok (.bipush 17, 2) := by decide +kernel
theorem dX8_goes_112 : decode cX8_goes 112 = .ok (.invokestatic 165, 3) := by decide +kernel
theorem dX8_goes_115 : decode cX8_goes 115 = .ok (.aload_n 0, 1) := by decide +kernel
theorem dX8_goes_116 : decode cX8_goes 116 = .ok (.getfield 51, 3) := by decide +kernel
theorem dX8_goes_119 : decode cX8_goes 119 = .ok (.iload_n 1, 1) := by decide +kernel
theorem dX8_goes_120 : decode cX8_goes 120 = .ok (.iconst 1, 1) := by decide +kernel
theorem dX8_goes_121 : decode cX8_goes 121 = .ok (.iadd, 1) := by decide +kernel
theorem dX8_goes_122 : decode cX8_goes 122 = .ok (.aload_n 0, 1) := by decide +kernel
theorem dX8_goes_123 : decode cX8_goes 123 = .ok (.getfield 51, 3) := by decide +kernel
theorem dX8_goes_126 : decode cX8_goes 126 = .ok (.iload_n 1, 1) := by decide +kernel
theorem dX8_goes_127 : decode cX8_goes 127 = .ok (.iaload, 1) := by decide +kernel
theorem dX8_goes_128 : decode cX8_goes 128 = .ok (.iload_n 2, 1) := by decide +kernel
theorem dX8_goes_129 : decode cX8_goes 129 = .ok (.aload_n 0, 1) := by decide +kernel
theorem dX8_goes_130 : decode cX8_goes 130 = .ok (.getfield 7, 3) := by decide +kernel
theorem dX8_goes_133 : decode cX8_goes 133 = .ok (.iconst 2, 1) := by decide +kernel
theorem dX8_goes_134 : decode cX8_goes 134 = .ok (.iaload, 1) := by decide +kernel
theorem dX8_goes_135 : decode cX8_goes 135 = .ok (.if_icmp .ge 9, 3) := by decide +kernel
theorem dX8_goes_138 : decode cX8_goes 138 = .ok (.iconst 1, 1) := by decide +kernel
theorem dX8_goes_139 : decode cX8_goes 139 = .ok (.iload_n 2, 1) := by decide +kernel
theorem dX8_goes_140 : decode cX8_goes 140 = .ok (.ishl, 1) := by decide +kernel
theorem dX8_goes_141 : decode cX8_goes 141 = .ok (.goto 4, 3) := by decide +kernel
theorem dX8_goes_144 : decode cX8_goes 144 = .ok (.iconst 0, 1) := by decide +kernel
theorem dX8_goes_145 : decode cX8_goes 145 = .ok (.ior, 1) := by decide +kernel
theorem dX8_goes_146 : decode cX8_goes 146 = .ok (.iastore, 1) := by decide +kernel
theorem dX8_goes_147 : decode cX8_goes 147 = .ok (.iconst 1, 1) := by decide +kernel
theorem dX8_goes_148 : decode cX8_goes 148 = .ok (.ireturn, 1) := by decide +kernel
theorem dX8_rivals_0 : decode cX8_rivals 0 = .ok (.aload_n 0, 1) := by decide +kernel
theorem dX8_rivals_1 : decode cX8_rivals 1 = .ok (.iload_n 1, 1) := by decide +kernel
theorem dX8_rivals_2 : decode cX8_rivals 2 = .ok (.invokevirtual 140, 3) := by decide +kernel
theorem dX8_rivals_5 : decode cX8_rivals 5 = .ok (.ifCond .ne 6, 3) := by decide +kernel
theorem dX8_rivals_8 : decode cX8_rivals 8 = .ok (.ldc 143, 2) := by decide +kernel
theorem dX8_rivals_10 : decode cX8_rivals 10 = .ok (.ireturn, 1) := by decide +kernel
theorem dX8_rivals_11 : decode cX8_rivals 11 = .ok (.iload_n 2, 1) := by decide +kernel
theorem dX8_rivals_12 : decode cX8_rivals 12 = .ok (.i2l, 1) := by decide +kernel
theorem dX8_rivals_13 : decode cX8_rivals 13 = .ok (.lconst 1, 1) := by decide +kernel
theorem dX8_rivals_14 : decode cX8_rivals 14 = .ok (.ldc2_w 233, 3) := by decide +kernel
theorem dX8_rivals_17 : decode cX8_rivals 17 = .ok (.invokestatic 74, 3) := by decide +kernel
theorem dX8_rivals_20 : decode cX8_rivals 20 = .ok (.ifCond .ne 6, 3) := by decide +kernel
theorem dX8_rivals_23 : decode cX8_rivals 23 = .ok (.ldc 78, 2) := by decide +kernel
theorem dX8_rivals_25 : decode cX8_rivals 25 = .ok (.ireturn, 1) := by decide +kernel
theorem dX8_rivals_26 : decode cX8_rivals 26 = .ok (.aload_n 0, 1) := by decide +kernel
theorem dX8_rivals_27 : decode cX8_rivals 27 = .ok (.getfield 16, 3) := by decide +kernel
theorem dX8_rivals_30 : decode cX8_rivals 30 = .ok (.iconst 0, 1) := by decide +kernel
theorem dX8_rivals_31 : decode cX8_rivals 31 = .ok (.aload_n 0, 1) := by decide +kernel
theorem dX8_rivals_32 : decode cX8_rivals 32 = .ok (.getfield 48, 3) := by decide +kernel
theorem dX8_rivals_35 : decode cX8_rivals 35 = .ok (.iconst 0, 1) := by decide +kernel
theorem dX8_rivals_36 : decode cX8_rivals 36 = .ok (.bipush 17, 2) := by decide +kernel
theorem dX8_rivals_38 : decode cX8_rivals 38 = .ok (.invokestatic 165, 3) := by decide +kernel
theorem dX8_rivals_41 : decode cX8_rivals 41 = .ok (.aload_n 0, 1) := by decide +kernel
theorem dX8_rivals_42 : decode cX8_rivals 42 = .ok (.getfield 51, 3) := by decide +kernel
theorem dX8_rivals_45 : decode cX8_rivals 45 = .ok (.iconst 0, 1) := by decide +kernel
theorem dX8_rivals_46 : decode cX8_rivals 46 = .ok (.iconst 0, 1) := by decide +kernel
theorem dX8_rivals_47 : decode cX8_rivals 47 = .ok (.iastore, 1) := by decide +kernel
theorem dX8_rivals_48 : decode cX8_rivals 48 = .ok (.aload_n 0, 1) := by decide +kernel
theorem dX8_rivals_49 : decode cX8_rivals 49 = .ok (.iconst 0, 1) := by decide +kernel
theorem dX8_rivals_50 : decode cX8_rivals 50 = .ok (.invokevirtual 235, 3) := by decide +kernel
theorem dX8_rivals_53 : decode cX8_rivals 53 = .ok (.iconst 0, 1) := by decide +kernel
theorem dX8_rivals_54 : decode cX8_rivals 54 = .ok (.istore_n 3, 1) := by decide +kernel
theorem dX8_rivals_55 : decode cX8_rivals 55 = .ok (.iload_n 3, 1) := by decide +kernel
theorem dX8_rivals_56 : decode cX8_rivals 56 = .ok (.ifCond .lt 91, 3) := by decide +kernel
theorem dX8_rivals_59 : decode cX8_rivals 59 = .ok (.aload_n 0, 1) := by decide +kernel
theorem dX8_rivals_60 : decode cX8_rivals 60 = .ok (.getfield 54, 3) := by decide +kernel
theorem dX8_rivals_63 : decode cX8_rivals 63 = .ok (.iload_n 3, 1) := by decide +kernel
theorem dX8_rivals_64 : decode cX8_rivals 64 = .ok (.dup2, 1) := by decide +kernel
theorem dX8_rivals_65 : decode cX8_rivals 65 = .ok (.iaload, 1) := by decide +kernel
theorem dX8_rivals_66 : decode cX8_rivals 66 = .ok (.iconst 1, 1) := by decide +kernel
theorem dX8_rivals_67 : decode cX8_rivals 67 = .ok (.iadd, 1) := by decide +kernel
theorem dX8_rivals_68 : decode cX8_rivals 68 = .ok (.iastore, 1) := by decide +kernel
theorem dX8_rivals_69 : decode cX8_rivals 69 = .ok (.aload_n 0, 1) := by decide +kernel
theorem dX8_rivals_70 : decode cX8_rivals 70 = .ok (.getfield 54, 3) := by decide +kernel
theorem dX8_rivals_73 : decode cX8_rivals 73 = .ok (.iload_n 3, 1) := by decide +kernel
theorem dX8_rivals_74 : decode cX8_rivals 74 = .ok (.iaload, 1) := by decide +kernel
theorem dX8_rivals_75 : decode cX8_rivals 75 = .ok (.aload_n 0, 1) := by decide +kernel
theorem dX8_rivals_76 : decode cX8_rivals 76 = .ok (.getfield 7, 3) := by decide +kernel
theorem dX8_rivals_79 : decode cX8_rivals 79 = .ok (.iconst 2, 1) := by decide +kernel
theorem dX8_rivals_80 : decode cX8_rivals 80 = .ok (.iaload, 1) := by decide +kernel
theorem dX8_rivals_81 : decode cX8_rivals 81 = .ok (.if_icmp .le 26, 3) := by decide +kernel
theorem dX8_rivals_84 : decode cX8_rivals 84 = .ok (.iinc 3 (-1), 3) := by decide +kernel
theorem dX8_rivals_87 : decode cX8_rivals 87 = .ok (.iload_n 3, 1) := by decide +kernel
theorem dX8_rivals_88 : decode cX8_rivals 88 = .ok (.ifCond .lt (-33), 3) := by decide +kernel
theorem dX8_rivals_91 : decode cX8_rivals 91 = .ok (.aload_n 0, 1) := by decide +kernel
theorem dX8_rivals_92 : decode cX8_rivals 92 = .ok (.iload_n 3, 1) := by decide +kernel
theorem dX8_rivals_93 : decode cX8_rivals 93 = .ok (.aload_n 0, 1) := by decide +kernel
theorem dX8_rivals_94 : decode cX8_rivals 94 = .ok (.getfield 57, 3) := by decide +kernel
theorem dX8_rivals_97 : decode cX8_rivals 97 = .ok (.iload_n 3, 1) := by decide +kernel
theorem dX8_rivals_98 : decode cX8_rivals 98 = .ok (.iconst 1, 1) := by decide +kernel
theorem dX8_rivals_99 : decode cX8_rivals 99 = .ok (.iadd, 1) := by decide +kernel
theorem dX8_rivals_100 : decode cX8_rivals 100 = .ok (.iaload, 1) := by decide +kernel
theorem dX8_rivals_101 : decode cX8_rivals 101 = .ok (.invokevirtual 238, 3) := by decide +kernel
theorem dX8_rivals_104 : decode cX8_rivals 104 = .ok (.goto (-49), 3) := by decide +kernel
theorem dX8_rivals_107 : decode cX8_rivals 107 = .ok (.aload_n 0, 1) := by decide +kernel
theorem dX8_rivals_108 : decode cX8_rivals 108 = .ok (.iload_n 3, 1) := by decide +kernel
theorem dX8_rivals_109 : decode cX8_rivals 109 = .ok (.invokevirtual 242, 3) := by decide +kernel
theorem dX8_rivals_112 : decode cX8_rivals 112 = .ok (.ifCond .eq (-57), 3) := by decide +kernel
theorem dX8_rivals_115 : decode cX8_rivals 115 = .ok (.iload_n 3, 1) := by decide +kernel
theorem dX8_rivals_116 : decode cX8_rivals 116 = .ok (.iconst 1, 1) := by decide +kernel
theorem dX8_rivals_117 : decode cX8_rivals 117 = .ok (.iadd, 1) := by decide +kernel
theorem dX8_rivals_118 : decode cX8_rivals 118 = .ok (.iload_n 2, 1) := by decide +kernel
theorem dX8_rivals_119 : decode cX8_rivals 119 = .ok (.if_icmp .ne 17, 3) := by decide +kernel
theorem dX8_rivals_122 : decode cX8_rivals 122 = .ok (.aload_n 0, 1) := by decide +kernel
theorem dX8_rivals_123 : decode cX8_rivals 123 = .ok (.iload_n 3, 1) := by decide +kernel
theorem dX8_rivals_124 : decode cX8_rivals 124 = .ok (.aload_n 0, 1) := by decide +kernel
theorem dX8_rivals_125 : decode cX8_rivals 125 = .ok (.getfield 42, 3) := by decide +kernel
theorem dX8_rivals_128 : decode cX8_rivals 128 = .ok (.iload_n 1, 1) := by decide +kernel
theorem dX8_rivals_129 : decode cX8_rivals 129 = .ok (.iaload, 1) := by decide +kernel
theorem dX8_rivals_130 : decode cX8_rivals 130 = .ok (.invokevirtual 238, 3) := by decide +kernel
theorem dX8_rivals_133 : decode cX8_rivals 133 = .ok (.goto (-78), 3) := by decide +kernel
theorem dX8_rivals_136 : decode cX8_rivals 136 = .ok (.iinc 3 1, 3) := by decide +kernel
theorem dX8_rivals_139 : decode cX8_rivals 139 = .ok (.aload_n 0, 1) := by decide +kernel
theorem dX8_rivals_140 : decode cX8_rivals 140 = .ok (.iload_n 3, 1) := by decide +kernel
theorem dX8_rivals_141 : decode cX8_rivals 141 = .ok (.invokevirtual 235, 3) := by decide +kernel
theorem dX8_rivals_144 : decode cX8_rivals 144 = .ok (.goto (-89), 3) := by decide +kernel
theorem dX8_rivals_147 : decode cX8_rivals 147 = .ok (.aload_n 0, 1) := by decide +kernel
theorem dX8_rivals_148 : decode cX8_rivals 148 = .ok (.getfield 57, 3) := by decide +kernel
theorem dX8_rivals_151 : decode cX8_rivals 151 = .ok (.iconst 0, 1) := by decide +kernel
theorem dX8_rivals_152 : decode cX8_rivals 152 = .ok (.iaload, 1) := by decide +kernel
theorem dX8_rivals_153 : decode cX8_rivals 153 = .ok (.ireturn, 1) := by decide +kernel
theorem dX8_shun_0 : decode cX8_shun 0 = .ok (.aload_n 0, 1) := by decide +kernel
theorem dX8_shun_1 : decode cX8_shun 1 = .ok (.iload_n 1, 1) := by decide +kernel
theorem dX8_shun_2 : decode cX8_shun 2 = .ok (.invokevirtual 140, 3) := by decide +kernel
theorem dX8_shun_5 : decode cX8_shun 5 = .ok (.ifCond .ne 6, 3) := by decide +kernel
theorem dX8_shun_8 : decode cX8_shun 8 = .ok (.ldc 143, 2) := by decide +kernel
theorem dX8_shun_10 : decode cX8_shun 10 = .ok (.ireturn, 1) := by decide +kernel
theorem dX8_shun_11 : decode cX8_shun 11 = .ok (.iload_n 2, 1) := by decide +kernel
theorem dX8_shun_12 : decode cX8_shun 12 = .ok (.i2l, 1) := by decide +kernel
theorem dX8_shun_13 : decode cX8_shun 13 = .ok (.lconst 0, 1) := by decide +kernel
theorem dX8_shun_14 : decode cX8_shun 14 = .ok (.lconst 1, 1) := by decide +kernel
theorem dX8_shun_15 : decode cX8_shun 15 = .ok (.invokestatic 74, 3) := by decide +kernel
theorem dX8_shun_18 : decode cX8_shun 18 = .ok (.ifCond .ne 6, 3) := by decide +kernel
theorem dX8_shun_21 : decode cX8_shun 21 = .ok (.ldc 78, 2) := by decide +kernel
theorem dX8_shun_23 : decode cX8_shun 23 = .ok (.ireturn, 1) := by decide +kernel
theorem dX8_shun_24 : decode cX8_shun 24 = .ok (.iconst (-1), 1) := by decide +kernel
theorem dX8_shun_25 : decode cX8_shun 25 = .ok (.istore_n 3, 1) := by decide +kernel
theorem dX8_shun_26 : decode cX8_shun 26 = .ok (.iconst 0, 1) := by decide +kernel
theorem dX8_shun_27 : decode cX8_shun 27 = .ok (.istore 4, 2) := by decide +kernel
theorem dX8_shun_29 : decode cX8_shun 29 = .ok (.iload 4, 2) := by decide +kernel
theorem dX8_shun_31 : decode cX8_shun 31 = .ok (.bipush 20, 2) := by decide +kernel
theorem dX8_shun_33 : decode cX8_shun 33 = .ok (.if_icmp .gt 69, 3) := by decide +kernel
theorem dX8_shun_36 : decode cX8_shun 36 = .ok (.aload_n 0, 1) := by decide +kernel
theorem dX8_shun_37 : decode cX8_shun 37 = .ok (.getfield 16, 3) := by decide +kernel
theorem dX8_shun_40 : decode cX8_shun 40 = .ok (.iload_n 1, 1) := by decide +kernel
theorem dX8_shun_41 : decode cX8_shun 41 = .ok (.iaload, 1) := by decide +kernel
theorem dX8_shun_42 : decode cX8_shun 42 = .ok (.aload_n 0, 1) := by decide +kernel
theorem dX8_shun_43 : decode cX8_shun 43 = .ok (.getfield 7, 3) := by decide +kernel
theorem dX8_shun_46 : decode cX8_shun 46 = .ok (.iconst 3, 1) := by decide +kernel
theorem dX8_shun_47 : decode cX8_shun 47 = .ok (.iaload, 1) := by decide +kernel
theorem dX8_shun_48 : decode cX8_shun 48 = .ok (.if_icmp .lt 54, 3) := by decide +kernel
theorem dX8_shun_51 : decode cX8_shun 51 = .ok (.iload_n 2, 1) := by decide +kernel
theorem dX8_shun_52 : decode cX8_shun 52 = .ok (.ifCond .ne 11, 3) := by decide +kernel
theorem dX8_shun_55 : decode cX8_shun 55 = .ok (.bipush 20, 2) := by decide +kernel
theorem dX8_shun_57 : decode cX8_shun 57 = .ok (.iload 4, 2) := by decide +kernel
theorem dX8_shun_59 : decode cX8_shun 59 = .ok (.isub, 1) := by decide +kernel
theorem dX8_shun_60 : decode cX8_shun 60 = .ok (.goto 5, 3) := by decide +kernel
theorem dX8_shun_63 : decode cX8_shun 63 = .ok (.iload 4, 2) := by decide +kernel
theorem dX8_shun_65 : decode cX8_shun 65 = .ok (.istore 5, 2) := by decide +kernel
theorem dX8_shun_67 : decode cX8_shun 67 = .ok (.iconst 2, 1) := by decide +kernel
theorem dX8_shun_68 : decode cX8_shun 68 = .ok (.aload_n 0, 1) := by decide +kernel
theorem dX8_shun_69 : decode cX8_shun 69 = .ok (.getfield 16, 3) := by decide +kernel
theorem dX8_shun_72 : decode cX8_shun 72 = .ok (.iload_n 1, 1) := by decide +kernel
theorem dX8_shun_73 : decode cX8_shun 73 = .ok (.iaload, 1) := by decide +kernel
theorem dX8_shun_74 : decode cX8_shun 74 = .ok (.imul, 1) := by decide +kernel
theorem dX8_shun_75 : decode cX8_shun 75 = .ok (.iload 5, 2) := by decide +kernel
theorem dX8_shun_77 : decode cX8_shun 77 = .ok (.iadd, 1) := by decide +kernel
theorem dX8_shun_78 : decode cX8_shun 78 = .ok (.iconst 3, 1) := by decide +kernel
theorem dX8_shun_79 : decode cX8_shun 79 = .ok (.idiv, 1) := by decide +kernel
theorem dX8_shun_80 : decode cX8_shun 80 = .ok (.aload_n 0, 1) := by decide +kernel
theorem dX8_shun_81 : decode cX8_shun 81 = .ok (.getfield 7, 3) := by decide +kernel
theorem dX8_shun_84 : decode cX8_shun 84 = .ok (.iconst 3, 1) := by decide +kernel
theorem dX8_shun_85 : decode cX8_shun 85 = .ok (.iaload, 1) := by decide +kernel
theorem dX8_shun_86 : decode cX8_shun 86 = .ok (.if_icmp .ge 8, 3) := by decide +kernel
theorem dX8_shun_89 : decode cX8_shun 89 = .ok (.iload 5, 2) := by decide +kernel
theorem dX8_shun_91 : decode cX8_shun 91 = .ok (.goto 4, 3) := by decide +kernel
theorem dX8_shun_94 : decode cX8_shun 94 = .ok (.iload_n 3, 1) := by decide +kernel
theorem dX8_shun_95 : decode cX8_shun 95 = .ok (.istore_n 3, 1) := by decide +kernel
theorem dX8_shun_96 : decode cX8_shun 96 = .ok (.iinc 4 1, 3) := by decide +kernel
theorem dX8_shun_99 : decode cX8_shun 99 = .ok (.goto (-70), 3) := by decide +kernel
theorem dX8_shun_102 : decode cX8_shun 102 = .ok (.iload_n 3, 1) := by decide +kernel
theorem dX8_shun_103 : decode cX8_shun 103 = .ok (.ireturn, 1) := by decide +kernel
theorem dX8_holds_0 : decode cX8_holds 0 = .ok (.iload_n 1, 1) := by decide +kernel
theorem dX8_holds_1 : decode cX8_holds 1 = .ok (.i2l, 1) := by decide +kernel
theorem dX8_holds_2 : decode cX8_holds 2 = .ok (.lconst 0, 1) := by decide +kernel
theorem dX8_holds_3 : decode cX8_holds 3 = .ok (.ldc2_w 202, 3) := by decide +kernel
theorem dX8_holds_6 : decode cX8_holds 6 = .ok (.invokestatic 74, 3) := by decide +kernel
theorem dX8_holds_9 : decode cX8_holds 9 = .ok (.ifCond .eq 15, 3) := by decide +kernel
theorem dX8_holds_12 : decode cX8_holds 12 = .ok (.iload_n 2, 1) := by decide +kernel
theorem dX8_holds_13 : decode cX8_holds 13 = .ok (.i2l, 1) := by decide +kernel
theorem dX8_holds_14 : decode cX8_holds 14 = .ok (.lconst 0, 1) := by decide +kernel
theorem dX8_holds_15 : decode cX8_holds 15 = .ok (.ldc2_w 245, 3) := by decide +kernel
theorem dX8_holds_18 : decode cX8_holds 18 = .ok (.invokestatic 74, 3) := by decide +kernel
theorem dX8_holds_21 : decode cX8_holds 21 = .ok (.ifCond .ne 6, 3) := by decide +kernel
theorem dX8_holds_24 : decode cX8_holds 24 = .ok (.ldc 78, 2) := by decide +kernel
theorem dX8_holds_26 : decode cX8_holds 26 = .ok (.ireturn, 1) := by decide +kernel
theorem dX8_holds_27 : decode cX8_holds 27 = .ok (.ldc2_w 247, 3) := by decide +kernel
theorem dX8_holds_30 : decode cX8_holds 30 = .ok (.lstore_n 3, 1) := by decide +kernel
theorem dX8_holds_31 : decode cX8_holds 31 = .ok (.iconst 0, 1) := by decide +kernel
theorem dX8_holds_32 : decode cX8_holds 32 = .ok (.istore 5, 2) := by decide +kernel
theorem dX8_holds_34 : decode cX8_holds 34 = .ok (.iload 5, 2) := by decide +kernel
theorem dX8_holds_36 : decode cX8_holds 36 = .ok (.iload_n 1, 1) := by decide +kernel
theorem dX8_holds_37 : decode cX8_holds 37 = .ok (.if_icmp .ge 21, 3) := by decide +kernel
theorem dX8_holds_40 : decode cX8_holds 40 = .ok (.lload_n 3, 1) := by decide +kernel
theorem dX8_holds_41 : decode cX8_holds 41 = .ok (.bipush 100, 2) := by decide +kernel
theorem dX8_holds_43 : decode cX8_holds 43 = .ok (.iload_n 2, 1) := by decide +kernel
theorem dX8_holds_44 : decode cX8_holds 44 = .ok (.isub, 1) := by decide +kernel
theorem dX8_holds_45 : decode cX8_holds 45 = .ok (.i2l, 1) := by decide +kernel
theorem dX8_holds_46 : decode cX8_holds 46 = .ok (.lmul, 1) := by decide +kernel
theorem dX8_holds_47 : decode cX8_holds 47 = .ok (.ldc2_w 245, 3) := by decide +kernel
theorem dX8_holds_50 : decode cX8_holds 50 = .ok (.ldiv, 1) := by decide +kernel
theorem dX8_holds_51 : decode cX8_holds 51 = .ok (.lstore_n 3, 1) := by decide +kernel
theorem dX8_holds_52 : decode cX8_holds 52 = .ok (.iinc 5 1, 3) := by decide +kernel
theorem dX8_holds_55 : decode cX8_holds 55 = .ok (.goto (-21), 3) := by decide +kernel
theorem dX8_holds_58 : decode cX8_holds 58 = .ok (.lload_n 3, 1) := by decide +kernel
theorem dX8_holds_59 : decode cX8_holds 59 = .ok (.l2i, 1) := by decide +kernel
theorem dX8_holds_60 : decode cX8_holds 60 = .ok (.ireturn, 1) := by decide +kernel
theorem dX8_worn_0 : decode cX8_worn 0 = .ok (.iconst 0, 1) := by decide +kernel
theorem dX8_worn_1 : decode cX8_worn 1 = .ok (.istore_n 1, 1) := by decide +kernel
theorem dX8_worn_2 : decode cX8_worn 2 = .ok (.iconst 0, 1) := by decide +kernel
theorem dX8_worn_3 : decode cX8_worn 3 = .ok (.istore_n 2, 1) := by decide +kernel
theorem dX8_worn_4 : decode cX8_worn 4 = .ok (.iload_n 2, 1) := by decide +kernel
theorem dX8_worn_5 : decode cX8_worn 5 = .ok (.aload_n 0, 1) := by decide +kernel
theorem dX8_worn_6 : decode cX8_worn 6 = .ok (.getfield 7, 3) := by decide +kernel
theorem dX8_worn_9 : decode cX8_worn 9 = .ok (.iconst 2, 1) := by decide +kernel
theorem dX8_worn_10 : decode cX8_worn 10 = .ok (.iaload, 1) := by decide +kernel
theorem dX8_worn_11 : decode cX8_worn 11 = .ok (.if_icmp .ge 38, 3) := by decide +kernel
theorem dX8_worn_14 : decode cX8_worn 14 = .ok (.iload_n 1, 1) := by decide +kernel
theorem dX8_worn_15 : decode cX8_worn 15 = .ok (.aload_n 0, 1) := by decide +kernel
theorem dX8_worn_16 : decode cX8_worn 16 = .ok (.iload_n 2, 1) := by decide +kernel
theorem dX8_worn_17 : decode cX8_worn 17 = .ok (.invokevirtual 155, 3) := by decide +kernel
theorem dX8_worn_20 : decode cX8_worn 20 = .ok (.iconst 1, 1) := by decide +kernel
theorem dX8_worn_21 : decode cX8_worn 21 = .ok (.aload_n 0, 1) := by decide +kernel
theorem dX8_worn_22 : decode cX8_worn 22 = .ok (.getfield 16, 3) := by decide +kernel
theorem dX8_worn_25 : decode cX8_worn 25 = .ok (.iconst 5, 1) := by decide +kernel
theorem dX8_worn_26 : decode cX8_worn 26 = .ok (.iload_n 2, 1) := by decide +kernel
theorem dX8_worn_27 : decode cX8_worn 27 = .ok (.iadd, 1) := by decide +kernel
theorem dX8_worn_28 : decode cX8_worn 28 = .ok (.iaload, 1) := by decide +kernel
theorem dX8_worn_29 : decode cX8_worn 29 = .ok (.iadd, 1) := by decide +kernel
theorem dX8_worn_30 : decode cX8_worn 30 = .ok (.idiv, 1) := by decide +kernel
theorem dX8_worn_31 : decode cX8_worn 31 = .ok (.ifCond .ne 9, 3) := by decide +kernel
theorem dX8_worn_34 : decode cX8_worn 34 = .ok (.iconst 1, 1) := by decide +kernel
theorem dX8_worn_35 : decode cX8_worn 35 = .ok (.iload_n 2, 1) := by decide +kernel
theorem dX8_worn_36 : decode cX8_worn 36 = .ok (.ishl, 1) := by decide +kernel
theorem dX8_worn_37 : decode cX8_worn 37 = .ok (.goto 4, 3) := by decide +kernel
theorem dX8_worn_40 : decode cX8_worn 40 = .ok (.iconst 0, 1) := by decide +kernel
theorem dX8_worn_41 : decode cX8_worn 41 = .ok (.ior, 1) := by decide +kernel
theorem dX8_worn_42 : decode cX8_worn 42 = .ok (.istore_n 1, 1) := by decide +kernel
theorem dX8_worn_43 : decode cX8_worn 43 = .ok (.iinc 2 1, 3) := by decide +kernel
theorem dX8_worn_46 : decode cX8_worn 46 = .ok (.goto (-42), 3) := by decide +kernel
theorem dX8_worn_49 : decode cX8_worn 49 = .ok (.iload_n 1, 1) := by decide +kernel
theorem dX8_worn_50 : decode cX8_worn 50 = .ok (.ireturn, 1) := by decide +kernel
theorem dX8_thought_0 : decode cX8_thought 0 = .ok (.aload_n 0, 1) := by decide +kernel
theorem dX8_thought_1 : decode cX8_thought 1 = .ok (.iload_n 1, 1) := by decide +kernel
theorem dX8_thought_2 : decode cX8_thought 2 = .ok (.invokevirtual 140, 3) := by decide +kernel
theorem dX8_thought_5 : decode cX8_thought 5 = .ok (.ifCond .ne 6, 3) := by decide +kernel
theorem dX8_thought_8 : decode cX8_thought 8 = .ok (.ldc 143, 2) := by decide +kernel
theorem dX8_thought_10 : decode cX8_thought 10 = .ok (.ireturn, 1) := by decide +kernel
theorem dX8_thought_11 : decode cX8_thought 11 = .ok (.iload_n 2, 1) := by decide +kernel
theorem dX8_thought_12 : decode cX8_thought 12 = .ok (.i2l, 1) := by decide +kernel
theorem dX8_thought_13 : decode cX8_thought 13 = .ok (.lconst 0, 1) := by decide +kernel
theorem dX8_thought_14 : decode cX8_thought 14 = .ok (.ldc2_w 188, 3) := by decide +kernel
theorem dX8_thought_17 : decode cX8_thought 17 = .ok (.invokestatic 74, 3) := by decide +kernel
theorem dX8_thought_20 : decode cX8_thought 20 = .ok (.ifCond .ne 6, 3) := by decide +kernel
theorem dX8_thought_23 : decode cX8_thought 23 = .ok (.ldc 78, 2) := by decide +kernel
theorem dX8_thought_25 : decode cX8_thought 25 = .ok (.ireturn, 1) := by decide +kernel
theorem dX8_thought_26 : decode cX8_thought 26 = .ok (.aload_n 0, 1) := by decide +kernel
theorem dX8_thought_27 : decode cX8_thought 27 = .ok (.getfield 66, 3) := by decide +kernel
theorem dX8_thought_30 : decode cX8_thought 30 = .ok (.bipush 6, 2) := by decide +kernel
theorem dX8_thought_32 : decode cX8_thought 32 = .ok (.if_icmp .ne 6, 3) := by decide +kernel
theorem dX8_thought_35 : decode cX8_thought 35 = .ok (.ldc 82, 2) := by decide +kernel
theorem dX8_thought_37 : decode cX8_thought 37 = .ok (.ireturn, 1) := by decide +kernel
theorem dX8_thought_38 : decode cX8_thought 38 = .ok (.aload_n 0, 1) := by decide +kernel
theorem dX8_thought_39 : decode cX8_thought 39 = .ok (.getfield 36, 3) := by decide +kernel
theorem dX8_thought_42 : decode cX8_thought 42 = .ok (.iconst 2, 1) := by decide +kernel
theorem dX8_thought_43 : decode cX8_thought 43 = .ok (.aload_n 0, 1) := by decide +kernel
theorem dX8_thought_44 : decode cX8_thought 44 = .ok (.getfield 66, 3) := by decide +kernel
theorem dX8_thought_47 : decode cX8_thought 47 = .ok (.imul, 1) := by decide +kernel
theorem dX8_thought_48 : decode cX8_thought 48 = .ok (.iload_n 1, 1) := by decide +kernel
theorem dX8_thought_49 : decode cX8_thought 49 = .ok (.iastore, 1) := by decide +kernel
theorem dX8_thought_50 : decode cX8_thought 50 = .ok (.aload_n 0, 1) := by decide +kernel
theorem dX8_thought_51 : decode cX8_thought 51 = .ok (.getfield 36, 3) := by decide +kernel
theorem dX8_thought_54 : decode cX8_thought 54 = .ok (.iconst 2, 1) := by decide +kernel
theorem dX8_thought_55 : decode cX8_thought 55 = .ok (.aload_n 0, 1) := by decide +kernel
theorem dX8_thought_56 : decode cX8_thought 56 = .ok (.getfield 66, 3) := by decide +kernel
theorem dX8_thought_59 : decode cX8_thought 59 = .ok (.imul, 1) := by decide +kernel
theorem dX8_thought_60 : decode cX8_thought 60 = .ok (.iconst 1, 1) := by decide +kernel
theorem dX8_thought_61 : decode cX8_thought 61 = .ok (.iadd, 1) := by decide +kernel
theorem dX8_thought_62 : decode cX8_thought 62 = .ok (.iload_n 2, 1) := by decide +kernel
theorem dX8_thought_63 : decode cX8_thought 63 = .ok (.iastore, 1) := by decide +kernel
theorem dX8_thought_64 : decode cX8_thought 64 = .ok (.aload_n 0, 1) := by decide +kernel
theorem dX8_thought_65 : decode cX8_thought 65 = .ok (.dup, 1) := by decide +kernel
theorem dX8_thought_66 : decode cX8_thought 66 = .ok (.getfield 66, 3) := by decide +kernel
theorem dX8_thought_69 : decode cX8_thought 69 = .ok (.iconst 1, 1) := by decide +kernel
theorem dX8_thought_70 : decode cX8_thought 70 = .ok (.iadd, 1) := by decide +kernel
theorem dX8_thought_71 : decode cX8_thought 71 = .ok (.putfield 66, 3) := by decide +kernel
theorem dX8_thought_74 : decode cX8_thought 74 = .ok (.aload_n 0, 1) := by decide +kernel
theorem dX8_thought_75 : decode cX8_thought 75 = .ok (.getfield 66, 3) := by decide +kernel
theorem dX8_thought_78 : decode cX8_thought 78 = .ok (.ireturn, 1) := by decide +kernel
theorem dX8_isThought_0 : decode cX8_isThought 0 = .ok (.iconst 1, 1) := by decide +kernel
theorem dX8_isThought_1 : decode cX8_isThought 1 = .ok (.istore_n 1, 1) := by decide +kernel
theorem dX8_isThought_2 : decode cX8_isThought 2 = .ok (.iconst 0, 1) := by decide +kernel
theorem dX8_isThought_3 : decode cX8_isThought 3 = .ok (.istore_n 2, 1) := by decide +kernel
theorem dX8_isThought_4 : decode cX8_isThought 4 = .ok (.iload_n 2, 1) := by decide +kernel
theorem dX8_isThought_5 : decode cX8_isThought 5 = .ok (.aload_n 0, 1) := by decide +kernel
theorem dX8_isThought_6 : decode cX8_isThought 6 = .ok (.getfield 66, 3) := by decide +kernel
theorem dX8_isThought_9 : decode cX8_isThought 9 = .ok (.if_icmp .ge 45, 3) := by decide +kernel
theorem dX8_isThought_12 : decode cX8_isThought 12 = .ok (.iload_n 1, 1) := by decide +kernel
theorem dX8_isThought_13 : decode cX8_isThought 13 = .ok (.ifCond .eq 33, 3) := by decide +kernel
theorem dX8_isThought_16 : decode cX8_isThought 16 = .ok (.aload_n 0, 1) := by decide +kernel
theorem dX8_isThought_17 : decode cX8_isThought 17 = .ok (.getfield 42, 3) := by decide +kernel
theorem dX8_isThought_20 : decode cX8_isThought 20 = .ok (.aload_n 0, 1) := by decide +kernel
theorem dX8_isThought_21 : decode cX8_isThought 21 = .ok (.getfield 36, 3) := by decide +kernel
theorem dX8_isThought_24 : decode cX8_isThought 24 = .ok (.iconst 2, 1) := by decide +kernel
theorem dX8_isThought_25 : decode cX8_isThought 25 = .ok (.iload_n 2, 1) := by decide +kernel
theorem dX8_isThought_26 : decode cX8_isThought 26 = .ok (.imul, 1) := by decide +kernel
theorem dX8_isThought_27 : decode cX8_isThought 27 = .ok (.iaload, 1) := by decide +kernel
theorem dX8_isThought_28 : decode cX8_isThought 28 = .ok (.iaload, 1) := by decide +kernel
theorem dX8_isThought_29 : decode cX8_isThought 29 = .ok (.aload_n 0, 1) := by decide +kernel
theorem dX8_isThought_30 : decode cX8_isThought 30 = .ok (.getfield 36, 3) := by decide +kernel
theorem dX8_isThought_33 : decode cX8_isThought 33 = .ok (.iconst 2, 1) := by decide +kernel
theorem dX8_isThought_34 : decode cX8_isThought 34 = .ok (.iload_n 2, 1) := by decide +kernel
theorem dX8_isThought_35 : decode cX8_isThought 35 = .ok (.imul, 1) := by decide +kernel
theorem dX8_isThought_36 : decode cX8_isThought 36 = .ok (.iconst 1, 1) := by decide +kernel
theorem dX8_isThought_37 : decode cX8_isThought 37 = .ok (.iadd, 1) := by decide +kernel
theorem dX8_isThought_38 : decode cX8_isThought 38 = .ok (.iaload, 1) := by decide +kernel
theorem dX8_isThought_39 : decode cX8_isThought 39 = .ok (.if_icmp .ne 7, 3) := by decide +kernel
theorem dX8_isThought_42 : decode cX8_isThought 42 = .ok (.iconst 1, 1) := by decide +kernel
theorem dX8_isThought_43 : decode cX8_isThought 43 = .ok (.goto 4, 3) := by decide +kernel
theorem dX8_isThought_46 : decode cX8_isThought 46 = .ok (.iconst 0, 1) := by decide +kernel
theorem dX8_isThought_47 : decode cX8_isThought 47 = .ok (.istore_n 1, 1) := by decide +kernel
theorem dX8_isThought_48 : decode cX8_isThought 48 = .ok (.iinc 2 1, 3) := by decide +kernel
theorem dX8_isThought_51 : decode cX8_isThought 51 = .ok (.goto (-47), 3) := by decide +kernel
theorem dX8_isThought_54 : decode cX8_isThought 54 = .ok (.iload_n 1, 1) := by decide +kernel
theorem dX8_isThought_55 : decode cX8_isThought 55 = .ok (.ireturn, 1) := by decide +kernel
theorem dX8_leftOut_0 : decode cX8_leftOut 0 = .ok (.iconst 0, 1) := by decide +kernel
theorem dX8_leftOut_1 : decode cX8_leftOut 1 = .ok (.istore_n 2, 1) := by decide +kernel
theorem dX8_leftOut_2 : decode cX8_leftOut 2 = .ok (.iconst (-1), 1) := by decide +kernel
theorem dX8_leftOut_3 : decode cX8_leftOut 3 = .ok (.istore_n 3, 1) := by decide +kernel
theorem dX8_leftOut_4 : decode cX8_leftOut 4 = .ok (.aload_n 0, 1) := by decide +kernel
theorem dX8_leftOut_5 : decode cX8_leftOut 5 = .ok (.getfield 16, 3) := by decide +kernel
theorem dX8_leftOut_8 : decode cX8_leftOut 8 = .ok (.bipush 13, 2) := by decide +kernel
theorem dX8_leftOut_10 : decode cX8_leftOut 10 = .ok (.iaload, 1) := by decide +kernel
theorem dX8_leftOut_11 : decode cX8_leftOut 11 = .ok (.istore 4, 2) := by decide +kernel
theorem dX8_leftOut_13 : decode cX8_leftOut 13 = .ok (.iconst 0, 1) := by decide +kernel
theorem dX8_leftOut_14 : decode cX8_leftOut 14 = .ok (.istore 5, 2) := by decide +kernel
theorem dX8_leftOut_16 : decode cX8_leftOut 16 = .ok (.iconst 0, 1) := by decide +kernel
theorem dX8_leftOut_17 : decode cX8_leftOut 17 = .ok (.istore 6, 2) := by decide +kernel
theorem dX8_leftOut_19 : decode cX8_leftOut 19 = .ok (.iload 6, 2) := by decide +kernel
theorem dX8_leftOut_21 : decode cX8_leftOut 21 = .ok (.iconst 1, 1) := by decide +kernel
theorem dX8_leftOut_22 : decode cX8_leftOut 22 = .ok (.aload_n 0, 1) := by decide +kernel
theorem dX8_leftOut_23 : decode cX8_leftOut 23 = .ok (.getfield 7, 3) := by decide +kernel
theorem dX8_leftOut_26 : decode cX8_leftOut 26 = .ok (.iconst 2, 1) := by decide +kernel
theorem dX8_leftOut_27 : decode cX8_leftOut 27 = .ok (.iaload, 1) := by decide +kernel
theorem dX8_leftOut_28 : decode cX8_leftOut 28 = .ok (.ishl, 1) := by decide +kernel
theorem dX8_leftOut_29 : decode cX8_leftOut 29 = .ok (.if_icmp .ge 69, 3) := by decide +kernel
theorem dX8_leftOut_32 : decode cX8_leftOut 32 = .ok (.aload_n 0, 1) := by decide +kernel
theorem dX8_leftOut_33 : decode cX8_leftOut 33 = .ok (.iload 6, 2) := by decide +kernel
theorem dX8_leftOut_35 : decode cX8_leftOut 35 = .ok (.aload_n 0, 1) := by decide +kernel
theorem dX8_leftOut_36 : decode cX8_leftOut 36 = .ok (.getfield 16, 3) := by decide +kernel
theorem dX8_leftOut_39 : decode cX8_leftOut 39 = .ok (.bipush 13, 2) := by decide +kernel
theorem dX8_leftOut_41 : decode cX8_leftOut 41 = .ok (.iaload, 1) := by decide +kernel
theorem dX8_leftOut_42 : decode cX8_leftOut 42 = .ok (.invokevirtual 176, 3) := by decide +kernel
theorem dX8_leftOut_45 : decode cX8_leftOut 45 = .ok (.ifCond .eq 47, 3) := by decide +kernel
theorem dX8_leftOut_48 : decode cX8_leftOut 48 = .ok (.aload_n 0, 1) := by decide +kernel
theorem dX8_leftOut_49 : decode cX8_leftOut 49 = .ok (.iload 6, 2) := by decide +kernel
theorem dX8_leftOut_51 : decode cX8_leftOut 51 = .ok (.invokevirtual 207, 3) := by decide +kernel
theorem dX8_leftOut_54 : decode cX8_leftOut 54 = .ok (.istore 7, 2) := by decide +kernel
theorem dX8_leftOut_56 : decode cX8_leftOut 56 = .ok (.aload_n 0, 1) := by decide +kernel
theorem dX8_leftOut_57 : decode cX8_leftOut 57 = .ok (.invokevirtual 249, 3) := by decide +kernel
theorem dX8_leftOut_60 : decode cX8_leftOut 60 = .ok (.ifCond .eq 32, 3) := by decide +kernel
theorem dX8_leftOut_63 : decode cX8_leftOut 63 = .ok (.iload_n 2, 1) := by decide +kernel
theorem dX8_leftOut_64 : decode cX8_leftOut 64 = .ok (.iload_n 1, 1) := by decide +kernel
theorem dX8_leftOut_65 : decode cX8_leftOut 65 = .ok (.if_icmp .ne 8, 3) := by decide +kernel
theorem dX8_leftOut_68 : decode cX8_leftOut 68 = .ok (.iload 6, 2) := by decide +kernel
theorem dX8_leftOut_70 : decode cX8_leftOut 70 = .ok (.goto 4, 3) := by decide +kernel
theorem dX8_leftOut_73 : decode cX8_leftOut 73 = .ok (.iload_n 3, 1) := by decide +kernel
theorem dX8_leftOut_74 : decode cX8_leftOut 74 = .ok (.istore_n 3, 1) := by decide +kernel
theorem dX8_leftOut_75 : decode cX8_leftOut 75 = .ok (.iinc 2 1, 3) := by decide +kernel
theorem dX8_leftOut_78 : decode cX8_leftOut 78 = .ok (.iload 4, 2) := by decide +kernel
theorem dX8_leftOut_80 : decode cX8_leftOut 80 = .ok (.iload 6, 2) := by decide +kernel
theorem dX8_leftOut_82 : decode cX8_leftOut 82 = .ok (.iand, 1) := by decide +kernel
theorem dX8_leftOut_83 : decode cX8_leftOut 83 = .ok (.istore 4, 2) := by decide +kernel
theorem dX8_leftOut_85 : decode cX8_leftOut 85 = .ok (.iload 5, 2) := by decide +kernel
theorem dX8_leftOut_87 : decode cX8_leftOut 87 = .ok (.iload 6, 2) := by decide +kernel
theorem dX8_leftOut_89 : decode cX8_leftOut 89 = .ok (.ior, 1) := by decide +kernel
theorem dX8_leftOut_90 : decode cX8_leftOut 90 = .ok (.istore 5, 2) := by decide +kernel
theorem dX8_leftOut_92 : decode cX8_leftOut 92 = .ok (.iinc 6 1, 3) := by decide +kernel
theorem dX8_leftOut_95 : decode cX8_leftOut 95 = .ok (.goto (-76), 3) := by decide +kernel
theorem dX8_leftOut_98 : decode cX8_leftOut 98 = .ok (.iload_n 1, 1) := by decide +kernel
theorem dX8_leftOut_99 : decode cX8_leftOut 99 = .ok (.iconst (-1), 1) := by decide +kernel
theorem dX8_leftOut_100 : decode cX8_leftOut 100 = .ok (.if_icmp .ne 7, 3) := by decide +kernel
theorem dX8_leftOut_103 : decode cX8_leftOut 103 = .ok (.iload_n 2, 1) := by decide +kernel
theorem dX8_leftOut_104 : decode cX8_leftOut 104 = .ok (.goto 44, 3) := by decide +kernel
theorem dX8_leftOut_107 : decode cX8_leftOut 107 = .ok (.iload_n 1, 1) := by decide +kernel
theorem dX8_leftOut_108 : decode cX8_leftOut 108 = .ok (.bipush (-2), 2) := by decide +kernel
theorem dX8_leftOut_110 : decode cX8_leftOut 110 = .ok (.if_icmp .ne 16, 3) := by decide +kernel
theorem dX8_leftOut_113 : decode cX8_leftOut 113 = .ok (.iload_n 2, 1) := by decide +kernel
theorem dX8_leftOut_114 : decode cX8_leftOut 114 = .ok (.ifCond .ne 7, 3) := by decide +kernel
theorem dX8_leftOut_117 : decode cX8_leftOut 117 = .ok (.iconst 0, 1) := by decide +kernel
theorem dX8_leftOut_118 : decode cX8_leftOut 118 = .ok (.goto 30, 3) := by decide +kernel
theorem dX8_leftOut_121 : decode cX8_leftOut 121 = .ok (.iload 4, 2) := by decide +kernel
theorem dX8_leftOut_123 : decode cX8_leftOut 123 = .ok (.goto 25, 3) := by decide +kernel
theorem dX8_leftOut_126 : decode cX8_leftOut 126 = .ok (.iload_n 1, 1) := by decide +kernel
theorem dX8_leftOut_127 : decode cX8_leftOut 127 = .ok (.bipush (-3), 2) := by decide +kernel
theorem dX8_leftOut_129 : decode cX8_leftOut 129 = .ok (.if_icmp .ne 18, 3) := by decide +kernel
theorem dX8_leftOut_132 : decode cX8_leftOut 132 = .ok (.aload_n 0, 1) := by decide +kernel
theorem dX8_leftOut_133 : decode cX8_leftOut 133 = .ok (.getfield 16, 3) := by decide +kernel
theorem dX8_leftOut_136 : decode cX8_leftOut 136 = .ok (.bipush 13, 2) := by decide +kernel
theorem dX8_leftOut_138 : decode cX8_leftOut 138 = .ok (.iaload, 1) := by decide +kernel
theorem dX8_leftOut_139 : decode cX8_leftOut 139 = .ok (.iload 5, 2) := by decide +kernel
theorem dX8_leftOut_141 : decode cX8_leftOut 141 = .ok (.iconst (-1), 1) := by decide +kernel
theorem dX8_leftOut_142 : decode cX8_leftOut 142 = .ok (.ixor, 1) := by decide +kernel
theorem dX8_leftOut_143 : decode cX8_leftOut 143 = .ok (.iand, 1) := by decide +kernel
theorem dX8_leftOut_144 : decode cX8_leftOut 144 = .ok (.goto 4, 3) := by decide +kernel
theorem dX8_leftOut_147 : decode cX8_leftOut 147 = .ok (.iload_n 3, 1) := by decide +kernel
theorem dX8_leftOut_148 : decode cX8_leftOut 148 = .ok (.ireturn, 1) := by decide +kernel
theorem dX8_strengths_0 : decode cX8_strengths 0 = .ok (.aload_n 0, 1) := by decide +kernel
theorem dX8_strengths_1 : decode cX8_strengths 1 = .ok (.iload_n 1, 1) := by decide +kernel
theorem dX8_strengths_2 : decode cX8_strengths 2 = .ok (.invokevirtual 144, 3) := by decide +kernel
theorem dX8_strengths_5 : decode cX8_strengths 5 = .ok (.ifCond .eq 11, 3) := by decide +kernel
theorem dX8_strengths_8 : decode cX8_strengths 8 = .ok (.aload_n 0, 1) := by decide +kernel
theorem dX8_strengths_9 : decode cX8_strengths 9 = .ok (.iload_n 2, 1) := by decide +kernel
theorem dX8_strengths_10 : decode cX8_strengths 10 = .ok (.invokevirtual 173, 3) := by decide +kernel
theorem dX8_strengths_13 : decode cX8_strengths 13 = .ok (.ifCond .ne 6, 3) := by decide +kernel
theorem dX8_strengths_16 : decode cX8_strengths 16 = .ok (.ldc 143, 2) := by decide +kernel
theorem dX8_strengths_18 : decode cX8_strengths 18 = .ok (.ireturn, 1) := by decide +kernel
theorem dX8_strengths_19 : decode cX8_strengths 19 = .ok (.aload_n 0, 1) := by decide +kernel
theorem dX8_strengths_20 : decode cX8_strengths 20 = .ok (.iload_n 2, 1) := by decide +kernel
theorem dX8_strengths_21 : decode cX8_strengths 21 = .ok (.aload_n 0, 1) := by decide +kernel
theorem dX8_strengths_22 : decode cX8_strengths 22 = .ok (.getfield 16, 3) := by decide +kernel
theorem dX8_strengths_25 : decode cX8_strengths 25 = .ok (.bipush 13, 2) := by decide +kernel
theorem dX8_strengths_27 : decode cX8_strengths 27 = .ok (.iaload, 1) := by decide +kernel
theorem dX8_strengths_28 : decode cX8_strengths 28 = .ok (.invokevirtual 176, 3) := by decide +kernel
theorem dX8_strengths_31 : decode cX8_strengths 31 = .ok (.ifCond .ne 6, 3) := by decide +kernel
theorem dX8_strengths_34 : decode cX8_strengths 34 = .ok (.ldc 179, 2) := by decide +kernel
theorem dX8_strengths_36 : decode cX8_strengths 36 = .ok (.ireturn, 1) := by decide +kernel
theorem dX8_strengths_37 : decode cX8_strengths 37 = .ok (.iconst 0, 1) := by decide +kernel
theorem dX8_strengths_38 : decode cX8_strengths 38 = .ok (.istore_n 3, 1) := by decide +kernel
theorem dX8_strengths_39 : decode cX8_strengths 39 = .ok (.iconst 0, 1) := by decide +kernel
theorem dX8_strengths_40 : decode cX8_strengths 40 = .ok (.istore 4, 2) := by decide +kernel
theorem dX8_strengths_42 : decode cX8_strengths 42 = .ok (.iload 4, 2) := by decide +kernel
theorem dX8_strengths_44 : decode cX8_strengths 44 = .ok (.bipush 19, 2) := by decide +kernel
theorem dX8_strengths_46 : decode cX8_strengths 46 = .ok (.if_icmp .ge 103, 3) := by decide +kernel
theorem dX8_strengths_49 : decode cX8_strengths 49 = .ok (.aload_n 0, 1) := by decide +kernel
theorem dX8_strengths_50 : decode cX8_strengths 50 = .ok (.getfield 16, 3) := by decide +kernel
theorem dX8_strengths_53 : decode cX8_strengths 53 = .ok (.iconst 0, 1) := by decide +kernel
theorem dX8_strengths_54 : decode cX8_strengths 54 = .ok (.aload_n 0, 1) := by decide +kernel
theorem dX8_strengths_55 : decode cX8_strengths 55 = .ok (.getfield 42, 3) := by decide +kernel
theorem dX8_strengths_58 : decode cX8_strengths 58 = .ok (.iconst 0, 1) := by decide +kernel
theorem dX8_strengths_59 : decode cX8_strengths 59 = .ok (.bipush 17, 2) := by decide +kernel
theorem dX8_strengths_61 : decode cX8_strengths 61 = .ok (.invokestatic 165, 3) := by decide +kernel
theorem dX8_strengths_64 : decode cX8_strengths 64 = .ok (.iconst 0, 1) := by decide +kernel
theorem dX8_strengths_65 : decode cX8_strengths 65 = .ok (.istore 5, 2) := by decide +kernel
theorem dX8_strengths_67 : decode cX8_strengths 67 = .ok (.iload 5, 2) := by decide +kernel
theorem dX8_strengths_69 : decode cX8_strengths 69 = .ok (.aload_n 0, 1) := by decide +kernel
theorem dX8_strengths_70 : decode cX8_strengths 70 = .ok (.getfield 7, 3) := by decide +kernel
theorem dX8_strengths_73 : decode cX8_strengths 73 = .ok (.iconst 2, 1) := by decide +kernel
theorem dX8_strengths_74 : decode cX8_strengths 74 = .ok (.iaload, 1) := by decide +kernel
theorem dX8_strengths_75 : decode cX8_strengths 75 = .ok (.if_icmp .ge 50, 3) := by decide +kernel
theorem dX8_strengths_78 : decode cX8_strengths 78 = .ok (.iload_n 2, 1) := by decide +kernel
theorem dX8_strengths_79 : decode cX8_strengths 79 = .ok (.iload 5, 2) := by decide +kernel
theorem dX8_strengths_81 : decode cX8_strengths 81 = .ok (.invokestatic 147, 3) := by decide +kernel
theorem dX8_strengths_84 : decode cX8_strengths 84 = .ok (.ifCond .eq 35, 3) := by decide +kernel
theorem dX8_strengths_87 : decode cX8_strengths 87 = .ok (.aload_n 0, 1) := by decide +kernel
theorem dX8_strengths_88 : decode cX8_strengths 88 = .ok (.aload_n 0, 1) := by decide +kernel
theorem dX8_strengths_89 : decode cX8_strengths 89 = .ok (.getfield 42, 3) := by decide +kernel
theorem dX8_strengths_92 : decode cX8_strengths 92 = .ok (.iload 5, 2) := by decide +kernel
theorem dX8_strengths_94 : decode cX8_strengths 94 = .ok (.iload 5, 2) := by decide +kernel
theorem dX8_strengths_96 : decode cX8_strengths 96 = .ok (.iload_n 1, 1) := by decide +kernel
theorem dX8_strengths_97 : decode cX8_strengths 97 = .ok (.if_icmp .ne 11, 3) := by decide +kernel
theorem dX8_strengths_100 : decode cX8_strengths 100 = .ok (.iload 4, 2) := by decide +kernel
theorem dX8_strengths_102 : decode cX8_strengths 102 = .ok (.bipush 9, 2) := by decide +kernel
theorem dX8_strengths_104 : decode cX8_strengths 104 = .ok (.isub, 1) := by decide +kernel
theorem dX8_strengths_105 : decode cX8_strengths 105 = .ok (.goto 9, 3) := by decide +kernel
theorem dX8_strengths_108 : decode cX8_strengths 108 = .ok (.aload_n 0, 1) := by decide +kernel
theorem dX8_strengths_109 : decode cX8_strengths 109 = .ok (.iload 5, 2) := by decide +kernel
theorem dX8_strengths_111 : decode cX8_strengths 111 = .ok (.invokevirtual 155, 3) := by decide +kernel
theorem dX8_strengths_114 : decode cX8_strengths 114 = .ok (.invokevirtual 158, 3) := by decide +kernel
theorem dX8_strengths_117 : decode cX8_strengths 117 = .ok (.istore 6, 2) := by decide +kernel
theorem dX8_strengths_119 : decode cX8_strengths 119 = .ok (.iinc 5 1, 3) := by decide +kernel
theorem dX8_strengths_122 : decode cX8_strengths 122 = .ok (.goto (-55), 3) := by decide +kernel
theorem dX8_strengths_125 : decode cX8_strengths 125 = .ok (.iload_n 3, 1) := by decide +kernel
theorem dX8_strengths_126 : decode cX8_strengths 126 = .ok (.aload_n 0, 1) := by decide +kernel
theorem dX8_strengths_127 : decode cX8_strengths 127 = .ok (.invokevirtual 249, 3) := by decide +kernel
theorem dX8_strengths_130 : decode cX8_strengths 130 = .ok (.ifCond .eq 10, 3) := by decide +kernel
theorem dX8_strengths_133 : decode cX8_strengths 133 = .ok (.iconst 1, 1) := by decide +kernel
theorem dX8_strengths_134 : decode cX8_strengths 134 = .ok (.iload 4, 2) := by decide +kernel
theorem dX8_strengths_136 : decode cX8_strengths 136 = .ok (.ishl, 1) := by decide +kernel
theorem dX8_strengths_137 : decode cX8_strengths 137 = .ok (.goto 4, 3) := by decide +kernel
theorem dX8_strengths_140 : decode cX8_strengths 140 = .ok (.iconst 0, 1) := by decide +kernel
theorem dX8_strengths_141 : decode cX8_strengths 141 = .ok (.ior, 1) := by decide +kernel
theorem dX8_strengths_142 : decode cX8_strengths 142 = .ok (.istore_n 3, 1) := by decide +kernel
theorem dX8_strengths_143 : decode cX8_strengths 143 = .ok (.iinc 4 1, 3) := by decide +kernel
theorem dX8_strengths_146 : decode cX8_strengths 146 = .ok (.goto (-104), 3) := by decide +kernel
theorem dX8_strengths_149 : decode cX8_strengths 149 = .ok (.iload_n 3, 1) := by decide +kernel
theorem dX8_strengths_150 : decode cX8_strengths 150 = .ok (.ireturn, 1) := by decide +kernel
theorem dX8_write_0 : decode cX8_write 0 = .ok (.aload_n 0, 1) := by decide +kernel
theorem dX8_write_1 : decode cX8_write 1 = .ok (.iload_n 1, 1) := by decide +kernel
theorem dX8_write_2 : decode cX8_write 2 = .ok (.invokevirtual 140, 3) := by decide +kernel
theorem dX8_write_5 : decode cX8_write 5 = .ok (.ifCond .ne 6, 3) := by decide +kernel
theorem dX8_write_8 : decode cX8_write 8 = .ok (.ldc 143, 2) := by decide +kernel
theorem dX8_write_10 : decode cX8_write 10 = .ok (.ireturn, 1) := by decide +kernel
theorem dX8_write_11 : decode cX8_write 11 = .ok (.iload_n 2, 1) := by decide +kernel
theorem dX8_write_12 : decode cX8_write 12 = .ok (.i2l, 1) := by decide +kernel
theorem dX8_write_13 : decode cX8_write 13 = .ok (.lconst 0, 1) := by decide +kernel
theorem dX8_write_14 : decode cX8_write 14 = .ok (.ldc2_w 188, 3) := by decide +kernel
theorem dX8_write_17 : decode cX8_write 17 = .ok (.invokestatic 74, 3) := by decide +kernel
theorem dX8_write_20 : decode cX8_write 20 = .ok (.ifCond .ne 6, 3) := by decide +kernel
theorem dX8_write_23 : decode cX8_write 23 = .ok (.ldc 78, 2) := by decide +kernel
theorem dX8_write_25 : decode cX8_write 25 = .ok (.ireturn, 1) := by decide +kernel
theorem dX8_write_26 : decode cX8_write 26 = .ok (.aload_n 0, 1) := by decide +kernel
theorem dX8_write_27 : decode cX8_write 27 = .ok (.getfield 69, 3) := by decide +kernel
theorem dX8_write_30 : decode cX8_write 30 = .ok (.bipush 15, 2) := by decide +kernel
theorem dX8_write_32 : decode cX8_write 32 = .ok (.if_icmp .ne 6, 3) := by decide +kernel
theorem dX8_write_35 : decode cX8_write 35 = .ok (.ldc 82, 2) := by decide +kernel
theorem dX8_write_37 : decode cX8_write 37 = .ok (.ireturn, 1) := by decide +kernel
theorem dX8_write_38 : decode cX8_write 38 = .ok (.aload_n 0, 1) := by decide +kernel
theorem dX8_write_39 : decode cX8_write 39 = .ok (.getfield 39, 3) := by decide +kernel
theorem dX8_write_42 : decode cX8_write 42 = .ok (.iconst 2, 1) := by decide +kernel
theorem dX8_write_43 : decode cX8_write 43 = .ok (.aload_n 0, 1) := by decide +kernel
theorem dX8_write_44 : decode cX8_write 44 = .ok (.getfield 69, 3) := by decide +kernel
theorem dX8_write_47 : decode cX8_write 47 = .ok (.imul, 1) := by decide +kernel
theorem dX8_write_48 : decode cX8_write 48 = .ok (.iload_n 1, 1) := by decide +kernel
theorem dX8_write_49 : decode cX8_write 49 = .ok (.iastore, 1) := by decide +kernel
theorem dX8_write_50 : decode cX8_write 50 = .ok (.aload_n 0, 1) := by decide +kernel
theorem dX8_write_51 : decode cX8_write 51 = .ok (.getfield 39, 3) := by decide +kernel
theorem dX8_write_54 : decode cX8_write 54 = .ok (.iconst 2, 1) := by decide +kernel
theorem dX8_write_55 : decode cX8_write 55 = .ok (.aload_n 0, 1) := by decide +kernel
theorem dX8_write_56 : decode cX8_write 56 = .ok (.getfield 69, 3) := by decide +kernel
theorem dX8_write_59 : decode cX8_write 59 = .ok (.imul, 1) := by decide +kernel
theorem dX8_write_60 : decode cX8_write 60 = .ok (.iconst 1, 1) := by decide +kernel
theorem dX8_write_61 : decode cX8_write 61 = .ok (.iadd, 1) := by decide +kernel
theorem dX8_write_62 : decode cX8_write 62 = .ok (.iload_n 2, 1) := by decide +kernel
theorem dX8_write_63 : decode cX8_write 63 = .ok (.iastore, 1) := by decide +kernel
theorem dX8_write_64 : decode cX8_write 64 = .ok (.aload_n 0, 1) := by decide +kernel
theorem dX8_write_65 : decode cX8_write 65 = .ok (.dup, 1) := by decide +kernel
theorem dX8_write_66 : decode cX8_write 66 = .ok (.getfield 69, 3) := by decide +kernel
theorem dX8_write_69 : decode cX8_write 69 = .ok (.iconst 1, 1) := by decide +kernel
theorem dX8_write_70 : decode cX8_write 70 = .ok (.iadd, 1) := by decide +kernel
theorem dX8_write_71 : decode cX8_write 71 = .ok (.putfield 69, 3) := by decide +kernel
theorem dX8_write_74 : decode cX8_write 74 = .ok (.aload_n 0, 1) := by decide +kernel
theorem dX8_write_75 : decode cX8_write 75 = .ok (.getfield 69, 3) := by decide +kernel
theorem dX8_write_78 : decode cX8_write 78 = .ok (.ireturn, 1) := by decide +kernel
theorem dX8_tear_0 : decode cX8_tear 0 = .ok (.aload_n 0, 1) := by decide +kernel
theorem dX8_tear_1 : decode cX8_tear 1 = .ok (.getfield 66, 3) := by decide +kernel
theorem dX8_tear_4 : decode cX8_tear 4 = .ok (.aload_n 0, 1) := by decide +kernel
theorem dX8_tear_5 : decode cX8_tear 5 = .ok (.getfield 69, 3) := by decide +kernel
theorem dX8_tear_8 : decode cX8_tear 8 = .ok (.iadd, 1) := by decide +kernel
theorem dX8_tear_9 : decode cX8_tear 9 = .ok (.istore_n 1, 1) := by decide +kernel
theorem dX8_tear_10 : decode cX8_tear 10 = .ok (.aload_n 0, 1) := by decide +kernel
theorem dX8_tear_11 : decode cX8_tear 11 = .ok (.iconst 0, 1) := by decide +kernel
theorem dX8_tear_12 : decode cX8_tear 12 = .ok (.putfield 66, 3) := by decide +kernel
theorem dX8_tear_15 : decode cX8_tear 15 = .ok (.aload_n 0, 1) := by decide +kernel
theorem dX8_tear_16 : decode cX8_tear 16 = .ok (.iconst 0, 1) := by decide +kernel
theorem dX8_tear_17 : decode cX8_tear 17 = .ok (.putfield 69, 3) := by decide +kernel
theorem dX8_tear_20 : decode cX8_tear 20 = .ok (.iload_n 1, 1) := by decide +kernel
theorem dX8_tear_21 : decode cX8_tear 21 = .ok (.ireturn, 1) := by decide +kernel
theorem dX8_judge_0 : decode cX8_judge 0 = .ok (.iconst 0, 1) := by decide +kernel
theorem dX8_judge_1 : decode cX8_judge 1 = .ok (.istore_n 1, 1) := by decide +kernel
theorem dX8_judge_2 : decode cX8_judge 2 = .ok (.iload_n 1, 1) := by decide +kernel
theorem dX8_judge_3 : decode cX8_judge 3 = .ok (.aload_n 0, 1) := by decide +kernel
theorem dX8_judge_4 : decode cX8_judge 4 = .ok (.getfield 69, 3) := by decide +kernel
theorem dX8_judge_7 : decode cX8_judge 7 = .ok (.if_icmp .ge 37, 3) := by decide +kernel
theorem dX8_judge_10 : decode cX8_judge 10 = .ok (.aload_n 0, 1) := by decide +kernel
theorem dX8_judge_11 : decode cX8_judge 11 = .ok (.getfield 16, 3) := by decide +kernel
theorem dX8_judge_14 : decode cX8_judge 14 = .ok (.aload_n 0, 1) := by decide +kernel
theorem dX8_judge_15 : decode cX8_judge 15 = .ok (.getfield 39, 3) := by decide +kernel
theorem dX8_judge_18 : decode cX8_judge 18 = .ok (.iconst 2, 1) := by decide +kernel
theorem dX8_judge_19 : decode cX8_judge 19 = .ok (.iload_n 1, 1) := by decide +kernel
theorem dX8_judge_20 : decode cX8_judge 20 = .ok (.imul, 1) := by decide +kernel
theorem dX8_judge_21 : decode cX8_judge 21 = .ok (.iaload, 1) := by decide +kernel
theorem dX8_judge_22 : decode cX8_judge 22 = .ok (.iaload, 1) := by decide +kernel
theorem dX8_judge_23 : decode cX8_judge 23 = .ok (.aload_n 0, 1) := by decide +kernel
theorem dX8_judge_24 : decode cX8_judge 24 = .ok (.getfield 39, 3) := by decide +kernel
theorem dX8_judge_27 : decode cX8_judge 27 = .ok (.iconst 2, 1) := by decide +kernel
theorem dX8_judge_28 : decode cX8_judge 28 = .ok (.iload_n 1, 1) := by decide +kernel
theorem dX8_judge_29 : decode cX8_judge 29 = .ok (.imul, 1) := by decide +kernel
theorem dX8_judge_30 : decode cX8_judge 30 = .ok (.iconst 1, 1) := by decide +kernel
theorem dX8_judge_31 : decode cX8_judge 31 = .ok (.iadd, 1) := by decide +kernel
theorem dX8_judge_32 : decode cX8_judge 32 = .ok (.iaload, 1) := by decide +kernel
theorem dX8_judge_33 : decode cX8_judge 33 = .ok (.if_icmp .eq 5, 3) := by decide +kernel
theorem dX8_judge_36 : decode cX8_judge 36 = .ok (.iload_n 1, 1) := by decide +kernel
theorem dX8_judge_37 : decode cX8_judge 37 = .ok (.ireturn, 1) := by decide +kernel
theorem dX8_judge_38 : decode cX8_judge 38 = .ok (.iinc 1 1, 3) := by decide +kernel
theorem dX8_judge_41 : decode cX8_judge 41 = .ok (.goto (-39), 3) := by decide +kernel
theorem dX8_judge_44 : decode cX8_judge 44 = .ok (.iconst (-1), 1) := by decide +kernel
theorem dX8_judge_45 : decode cX8_judge 45 = .ok (.ireturn, 1) := by decide +kernel
theorem dX8_seed_0 : decode cX8_seed 0 = .ok (.iload_n 1, 1) := by decide +kernel
theorem dX8_seed_1 : decode cX8_seed 1 = .ok (.ifCond .ge 6, 3) := by decide +kernel
theorem dX8_seed_4 : decode cX8_seed 4 = .ok (.ldc 78, 2) := by decide +kernel
theorem dX8_seed_6 : decode cX8_seed 6 = .ok (.ireturn, 1) := by decide +kernel
theorem dX8_seed_7 : decode cX8_seed 7 = .ok (.aload_n 0, 1) := by decide +kernel
theorem dX8_seed_8 : decode cX8_seed 8 = .ok (.getfield 190, 3) := by decide +kernel
theorem dX8_seed_11 : decode cX8_seed 11 = .ok (.l2i, 1) := by decide +kernel
theorem dX8_seed_12 : decode cX8_seed 12 = .ok (.istore_n 2, 1) := by decide +kernel
theorem dX8_seed_13 : decode cX8_seed 13 = .ok (.aload_n 0, 1) := by decide +kernel
theorem dX8_seed_14 : decode cX8_seed 14 = .ok (.iload_n 1, 1) := by decide +kernel
theorem dX8_seed_15 : decode cX8_seed 15 = .ok (.i2l, 1) := by decide +kernel
theorem dX8_seed_16 : decode cX8_seed 16 = .ok (.putfield 190, 3) := by decide +kernel
theorem dX8_seed_19 : decode cX8_seed 19 = .ok (.iload_n 2, 1) := by decide +kernel
theorem dX8_seed_20 : decode cX8_seed 20 = .ok (.ireturn, 1) := by decide +kernel
theorem dX8_keep_0 : decode cX8_keep 0 = .ok (.iload_n 1, 1) := by decide +kernel
theorem dX8_keep_1 : decode cX8_keep 1 = .ok (.i2l, 1) := by decide +kernel
theorem dX8_keep_2 : decode cX8_keep 2 = .ok (.lconst 0, 1) := by decide +kernel
theorem dX8_keep_3 : decode cX8_keep 3 = .ok (.lconst 1, 1) := by decide +kernel
theorem dX8_keep_4 : decode cX8_keep 4 = .ok (.invokestatic 74, 3) := by decide +kernel
theorem dX8_keep_7 : decode cX8_keep 7 = .ok (.ifCond .ne 6, 3) := by decide +kernel
theorem dX8_keep_10 : decode cX8_keep 10 = .ok (.ldc 143, 2) := by decide +kernel
theorem dX8_keep_12 : decode cX8_keep 12 = .ok (.ireturn, 1) := by decide +kernel
theorem dX8_keep_13 : decode cX8_keep 13 = .ok (.aload_n 0, 1) := by decide +kernel
theorem dX8_keep_14 : decode cX8_keep 14 = .ok (.getfield 16, 3) := by decide +kernel
theorem dX8_keep_17 : decode cX8_keep 17 = .ok (.iconst 0, 1) := by decide +kernel
theorem dX8_keep_18 : decode cX8_keep 18 = .ok (.aload_n 0, 1) := by decide +kernel
theorem dX8_keep_19 : decode cX8_keep 19 = .ok (.getfield 22, 3) := by decide +kernel
theorem dX8_keep_22 : decode cX8_keep 22 = .ok (.bipush 18, 2) := by decide +kernel
theorem dX8_keep_24 : decode cX8_keep 24 = .ok (.iload_n 1, 1) := by decide +kernel
theorem dX8_keep_25 : decode cX8_keep 25 = .ok (.imul, 1) := by decide +kernel
theorem dX8_keep_26 : decode cX8_keep 26 = .ok (.bipush 17, 2) := by decide +kernel
theorem dX8_keep_28 : decode cX8_keep 28 = .ok (.invokestatic 165, 3) := by decide +kernel
theorem dX8_keep_31 : decode cX8_keep 31 = .ok (.aload_n 0, 1) := by decide +kernel
theorem dX8_keep_32 : decode cX8_keep 32 = .ok (.getfield 22, 3) := by decide +kernel
theorem dX8_keep_35 : decode cX8_keep 35 = .ok (.bipush 18, 2) := by decide +kernel
theorem dX8_keep_37 : decode cX8_keep 37 = .ok (.iload_n 1, 1) := by decide +kernel
theorem dX8_keep_38 : decode cX8_keep 38 = .ok (.imul, 1) := by decide +kernel
theorem dX8_keep_39 : decode cX8_keep 39 = .ok (.bipush 17, 2) := by decide +kernel
theorem dX8_keep_41 : decode cX8_keep 41 = .ok (.iadd, 1) := by decide +kernel
theorem dX8_keep_42 : decode cX8_keep 42 = .ok (.aload_n 0, 1) := by decide +kernel
theorem dX8_keep_43 : decode cX8_keep 43 = .ok (.getfield 190, 3) := by decide +kernel
theorem dX8_keep_46 : decode cX8_keep 46 = .ok (.l2i, 1) := by decide +kernel
theorem dX8_keep_47 : decode cX8_keep 47 = .ok (.iastore, 1) := by decide +kernel
theorem dX8_keep_48 : decode cX8_keep 48 = .ok (.aload_n 0, 1) := by decide +kernel
theorem dX8_keep_49 : decode cX8_keep 49 = .ok (.getfield 25, 3) := by decide +kernel
theorem dX8_keep_52 : decode cX8_keep 52 = .ok (.iload_n 1, 1) := by decide +kernel
theorem dX8_keep_53 : decode cX8_keep 53 = .ok (.iconst 1, 1) := by decide +kernel
theorem dX8_keep_54 : decode cX8_keep 54 = .ok (.bastore, 1) := by decide +kernel
theorem dX8_keep_55 : decode cX8_keep 55 = .ok (.aload_n 0, 1) := by decide +kernel
theorem dX8_keep_56 : decode cX8_keep 56 = .ok (.iconst 0, 1) := by decide +kernel
theorem dX8_keep_57 : decode cX8_keep 57 = .ok (.putfield 63, 3) := by decide +kernel
theorem dX8_keep_60 : decode cX8_keep 60 = .ok (.iconst 1, 1) := by decide +kernel
theorem dX8_keep_61 : decode cX8_keep 61 = .ok (.ireturn, 1) := by decide +kernel
theorem dX8_goBack_0 : decode cX8_goBack 0 = .ok (.iload_n 1, 1) := by decide +kernel
theorem dX8_goBack_1 : decode cX8_goBack 1 = .ok (.i2l, 1) := by decide +kernel
theorem dX8_goBack_2 : decode cX8_goBack 2 = .ok (.lconst 0, 1) := by decide +kernel
theorem dX8_goBack_3 : decode cX8_goBack 3 = .ok (.lconst 1, 1) := by decide +kernel
theorem dX8_goBack_4 : decode cX8_goBack 4 = .ok (.invokestatic 74, 3) := by decide +kernel
theorem dX8_goBack_7 : decode cX8_goBack 7 = .ok (.ifCond .ne 6, 3) := by decide +kernel
theorem dX8_goBack_10 : decode cX8_goBack 10 = .ok (.ldc 143, 2) := by decide +kernel
theorem dX8_goBack_12 : decode cX8_goBack 12 = .ok (.ireturn, 1) := by decide +kernel
theorem dX8_goBack_13 : decode cX8_goBack 13 = .ok (.aload_n 0, 1) := by decide +kernel
theorem dX8_goBack_14 : decode cX8_goBack 14 = .ok (.getfield 25, 3) := by decide +kernel
theorem dX8_goBack_17 : decode cX8_goBack 17 = .ok (.iload_n 1, 1) := by decide +kernel
theorem dX8_goBack_18 : decode cX8_goBack 18 = .ok (.baload, 1) := by decide +kernel
theorem dX8_goBack_19 : decode cX8_goBack 19 = .ok (.ifCond .ne 6, 3) := by decide +kernel
theorem dX8_goBack_22 : decode cX8_goBack 22 = .ok (.ldc 179, 2) := by decide +kernel
theorem dX8_goBack_24 : decode cX8_goBack 24 = .ok (.ireturn, 1) := by decide +kernel
theorem dX8_goBack_25 : decode cX8_goBack 25 = .ok (.aload_n 0, 1) := by decide +kernel
theorem dX8_goBack_26 : decode cX8_goBack 26 = .ok (.getfield 22, 3) := by decide +kernel
theorem dX8_goBack_29 : decode cX8_goBack 29 = .ok (.bipush 18, 2) := by decide +kernel
theorem dX8_goBack_31 : decode cX8_goBack 31 = .ok (.iload_n 1, 1) := by decide +kernel
theorem dX8_goBack_32 : decode cX8_goBack 32 = .ok (.imul, 1) := by decide +kernel
theorem dX8_goBack_33 : decode cX8_goBack 33 = .ok (.aload_n 0, 1) := by decide +kernel
theorem dX8_goBack_34 : decode cX8_goBack 34 = .ok (.getfield 16, 3) := by decide +kernel
theorem dX8_goBack_37 : decode cX8_goBack 37 = .ok (.iconst 0, 1) := by decide +kernel
theorem dX8_goBack_38 : decode cX8_goBack 38 = .ok (.bipush 17, 2) := by decide +kernel
theorem dX8_goBack_40 : decode cX8_goBack 40 = .ok (.invokestatic 165, 3) := by decide +kernel
theorem dX8_goBack_43 : decode cX8_goBack 43 = .ok (.aload_n 0, 1) := by decide +kernel
theorem dX8_goBack_44 : decode cX8_goBack 44 = .ok (.aload_n 0, 1) := by decide +kernel
theorem dX8_goBack_45 : decode cX8_goBack 45 = .ok (.getfield 22, 3) := by decide +kernel
theorem dX8_goBack_48 : decode cX8_goBack 48 = .ok (.bipush 18, 2) := by decide +kernel
theorem dX8_goBack_50 : decode cX8_goBack 50 = .ok (.iload_n 1, 1) := by decide +kernel
theorem dX8_goBack_51 : decode cX8_goBack 51 = .ok (.imul, 1) := by decide +kernel
theorem dX8_goBack_52 : decode cX8_goBack 52 = .ok (.bipush 17, 2) := by decide +kernel
theorem dX8_goBack_54 : decode cX8_goBack 54 = .ok (.iadd, 1) := by decide +kernel
theorem dX8_goBack_55 : decode cX8_goBack 55 = .ok (.iaload, 1) := by decide +kernel
theorem dX8_goBack_56 : decode cX8_goBack 56 = .ok (.i2l, 1) := by decide +kernel
theorem dX8_goBack_57 : decode cX8_goBack 57 = .ok (.putfield 190, 3) := by decide +kernel
theorem dX8_goBack_60 : decode cX8_goBack 60 = .ok (.aload_n 0, 1) := by decide +kernel
theorem dX8_goBack_61 : decode cX8_goBack 61 = .ok (.iconst 0, 1) := by decide +kernel
theorem dX8_goBack_62 : decode cX8_goBack 62 = .ok (.putfield 63, 3) := by decide +kernel
theorem dX8_goBack_65 : decode cX8_goBack 65 = .ok (.iconst 1, 1) := by decide +kernel
theorem dX8_goBack_66 : decode cX8_goBack 66 = .ok (.ireturn, 1) := by decide +kernel
end
section
theorem dJ6_bitCount_0f7a4_0 : decode cJ6_bitCount_0f7a4 0 = .ok (.iload_n 0, 1) := by decide +kernel
theorem dJ6_bitCount_0f7a4_1 : decode cJ6_bitCount_0f7a4 1 = .ok (.iload_n 0, 1) := by decide +kernel
theorem dJ6_bitCount_0f7a4_2 : decode cJ6_bitCount_0f7a4 2 = .ok (.iconst 1, 1) := by decide +kernel
theorem dJ6_bitCount_0f7a4_3 : decode cJ6_bitCount_0f7a4 3 = .ok (.iushr, 1) := by decide +kernel
theorem dJ6_bitCount_0f7a4_4 : decode cJ6_bitCount_0f7a4 4 = .ok (.ldc_w 265, 3) := by decide +kernel
theorem dJ6_bitCount_0f7a4_7 : decode cJ6_bitCount_0f7a4 7 = .ok (.iand, 1) := by decide +kernel
theorem dJ6_bitCount_0f7a4_8 : decode cJ6_bitCount_0f7a4 8 = .ok (.isub, 1) := by decide +kernel
theorem dJ6_bitCount_0f7a4_9 : decode cJ6_bitCount_0f7a4 9 = .ok (.istore_n 0, 1) := by decide +kernel
theorem dJ6_bitCount_0f7a4_10 : decode cJ6_bitCount_0f7a4 10 = .ok (.iload_n 0, 1) := by decide +kernel
theorem dJ6_bitCount_0f7a4_11 : decode cJ6_bitCount_0f7a4 11 = .ok (.ldc_w 266, 3) := by decide +kernel
theorem dJ6_bitCount_0f7a4_14 : decode cJ6_bitCount_0f7a4 14 = .ok (.iand, 1) := by decide +kernel
theorem dJ6_bitCount_0f7a4_15 : decode cJ6_bitCount_0f7a4 15 = .ok (.iload_n 0, 1) := by decide +kernel
theorem dJ6_bitCount_0f7a4_16 : decode cJ6_bitCount_0f7a4 16 = .ok (.iconst 2, 1) := by decide +kernel
theorem dJ6_bitCount_0f7a4_17 : decode cJ6_bitCount_0f7a4 17 = .ok (.iushr, 1) := by decide +kernel
theorem dJ6_bitCount_0f7a4_18 : decode cJ6_bitCount_0f7a4 18 = .ok (.ldc_w 266, 3) := by decide +kernel
theorem dJ6_bitCount_0f7a4_21 : decode cJ6_bitCount_0f7a4 21 = .ok (.iand, 1) := by decide +kernel
theorem dJ6_bitCount_0f7a4_22 : decode cJ6_bitCount_0f7a4 22 = .ok (.iadd, 1) := by decide +kernel
theorem dJ6_bitCount_0f7a4_23 : decode cJ6_bitCount_0f7a4 23 = .ok (.istore_n 0, 1) := by decide +kernel
theorem dJ6_bitCount_0f7a4_24 : decode cJ6_bitCount_0f7a4 24 = .ok (.iload_n 0, 1) := by decide +kernel
theorem dJ6_bitCount_0f7a4_25 : decode cJ6_bitCount_0f7a4 25 = .ok (.iload_n 0, 1) := by decide +kernel
theorem dJ6_bitCount_0f7a4_26 : decode cJ6_bitCount_0f7a4 26 = .ok (.iconst 4, 1) := by decide +kernel
theorem dJ6_bitCount_0f7a4_27 : decode cJ6_bitCount_0f7a4 27 = .ok (.iushr, 1) := by decide +kernel
theorem dJ6_bitCount_0f7a4_28 : decode cJ6_bitCount_0f7a4 28 = .ok (.iadd, 1) := by decide +kernel
theorem dJ6_bitCount_0f7a4_29 : decode cJ6_bitCount_0f7a4 29 = .ok (.ldc_w 267, 3) := by decide +kernel
theorem dJ6_bitCount_0f7a4_32 : decode cJ6_bitCount_0f7a4 32 = .ok (.iand, 1) := by decide +kernel
theorem dJ6_bitCount_0f7a4_33 : decode cJ6_bitCount_0f7a4 33 = .ok (.istore_n 0, 1) := by decide +kernel
theorem dJ6_bitCount_0f7a4_34 : decode cJ6_bitCount_0f7a4 34 = .ok (.iload_n 0, 1) := by decide +kernel
theorem dJ6_bitCount_0f7a4_35 : decode cJ6_bitCount_0f7a4 35 = .ok (.iload_n 0, 1) := by decide +kernel
theorem dJ6_bitCount_0f7a4_36 : decode cJ6_bitCount_0f7a4 36 = .ok (.bipush 8, 2) := by decide +kernel
theorem dJ6_bitCount_0f7a4_38 : decode cJ6_bitCount_0f7a4 38 = .ok (.iushr, 1) := by decide +kernel
theorem dJ6_bitCount_0f7a4_39 : decode cJ6_bitCount_0f7a4 39 = .ok (.iadd, 1) := by decide +kernel
theorem dJ6_bitCount_0f7a4_40 : decode cJ6_bitCount_0f7a4 40 = .ok (.istore_n 0, 1) := by decide +kernel
theorem dJ6_bitCount_0f7a4_41 : decode cJ6_bitCount_0f7a4 41 = .ok (.iload_n 0, 1) := by decide +kernel
theorem dJ6_bitCount_0f7a4_42 : decode cJ6_bitCount_0f7a4 42 = .ok (.iload_n 0, 1) := by decide +kernel
theorem dJ6_bitCount_0f7a4_43 : decode cJ6_bitCount_0f7a4 43 = .ok (.bipush 16, 2) := by decide +kernel
theorem dJ6_bitCount_0f7a4_45 : decode cJ6_bitCount_0f7a4 45 = .ok (.iushr, 1) := by decide +kernel
theorem dJ6_bitCount_0f7a4_46 : decode cJ6_bitCount_0f7a4 46 = .ok (.iadd, 1) := by decide +kernel
theorem dJ6_bitCount_0f7a4_47 : decode cJ6_bitCount_0f7a4 47 = .ok (.istore_n 0, 1) := by decide +kernel
theorem dJ6_bitCount_0f7a4_48 : decode cJ6_bitCount_0f7a4 48 = .ok (.iload_n 0, 1) := by decide +kernel
theorem dJ6_bitCount_0f7a4_49 : decode cJ6_bitCount_0f7a4 49 = .ok (.bipush 63, 2) := by decide +kernel
theorem dJ6_bitCount_0f7a4_51 : decode cJ6_bitCount_0f7a4 51 = .ok (.iand, 1) := by decide +kernel
theorem dJ6_bitCount_0f7a4_52 : decode cJ6_bitCount_0f7a4 52 = .ok (.ireturn, 1) := by decide +kernel
theorem dJ9_max_7cf53_0 : decode cJ9_max_7cf53 0 = .ok (.iload_n 0, 1) := by decide +kernel
theorem dJ9_max_7cf53_1 : decode cJ9_max_7cf53 1 = .ok (.iload_n 1, 1) := by decide +kernel
theorem dJ9_max_7cf53_2 : decode cJ9_max_7cf53 2 = .ok (.if_icmp .lt 7, 3) := by decide +kernel
theorem dJ9_max_7cf53_5 : decode cJ9_max_7cf53 5 = .ok (.iload_n 0, 1) := by decide +kernel
theorem dJ9_max_7cf53_6 : decode cJ9_max_7cf53 6 = .ok (.goto 4, 3) := by decide +kernel
theorem dJ9_max_7cf53_9 : decode cJ9_max_7cf53 9 = .ok (.iload_n 1, 1) := by decide +kernel
theorem dJ9_max_7cf53_10 : decode cJ9_max_7cf53 10 = .ok (.ireturn, 1) := by decide +kernel
theorem dJ9_min_7cf53_0 : decode cJ9_min_7cf53 0 = .ok (.iload_n 0, 1) := by decide +kernel
theorem dJ9_min_7cf53_1 : decode cJ9_min_7cf53 1 = .ok (.iload_n 1, 1) := by decide +kernel
theorem dJ9_min_7cf53_2 : decode cJ9_min_7cf53 2 = .ok (.if_icmp .gt 7, 3) := by decide +kernel
theorem dJ9_min_7cf53_5 : decode cJ9_min_7cf53 5 = .ok (.iload_n 0, 1) := by decide +kernel
theorem dJ9_min_7cf53_6 : decode cJ9_min_7cf53 6 = .ok (.goto 4, 3) := by decide +kernel
theorem dJ9_min_7cf53_9 : decode cJ9_min_7cf53 9 = .ok (.iload_n 1, 1) := by decide +kernel
theorem dJ9_min_7cf53_10 : decode cJ9_min_7cf53 10 = .ok (.ireturn, 1) := by decide +kernel
theorem dL_law_0 : decode cL_law 0 = .ok (.new 7, 3) := by decide +kernel
theorem dL_law_3 : decode cL_law 3 = .ok (.dup, 1) := by decide +kernel
theorem dL_law_4 : decode cL_law 4 = .ok (.invokespecial 9, 3) := by decide +kernel
theorem dL_law_7 : decode cL_law 7 = .ok (.astore_n 1, 1) := by decide +kernel
theorem dL_law_8 : decode cL_law 8 = .ok (.new 10, 3) := by decide +kernel
theorem dL_law_11 : decode cL_law 11 = .ok (.dup, 1) := by decide +kernel
theorem dL_law_12 : decode cL_law 12 = .ok (.invokespecial 12, 3) := by decide +kernel
theorem dL_law_15 : decode cL_law 15 = .ok (.astore_n 2, 1) := by decide +kernel
theorem dL_law_16 : decode cL_law 16 = .ok (.iconst 0, 1) := by decide +kernel
theorem dL_law_17 : decode cL_law 17 = .ok (.istore_n 3, 1) := by decide +kernel
theorem dL_law_18 : decode cL_law 18 = .ok (.iload_n 3, 1) := by decide +kernel
theorem dL_law_19 : decode cL_law 19 = .ok (.aload_n 0, 1) := by decide +kernel
theorem dL_law_20 : decode cL_law 20 = .ok (.arraylength, 1) := by decide +kernel
theorem dL_law_21 : decode cL_law 21 = .ok (.iconst 4, 1) := by decide +kernel
theorem dL_law_22 : decode cL_law 22 = .ok (.isub, 1) := by decide +kernel
theorem dL_law_23 : decode cL_law 23 = .ok (.if_icmp .gt 837, 3) := by decide +kernel
theorem dL_law_26 : decode cL_law 26 = .ok (.aload_n 0, 1) := by decide +kernel
theorem dL_law_27 : decode cL_law 27 = .ok (.iload_n 3, 1) := by decide +kernel
theorem dL_law_28 : decode cL_law 28 = .ok (.iaload, 1) := by decide +kernel
theorem dL_law_29 : decode cL_law 29 = .ok (.bipush 31, 2) := by decide +kernel
theorem dL_law_31 : decode cL_law 31 = .ok (.iand, 1) := by decide +kernel
theorem dL_law_32 : decode cL_law 32 = .ok (.tableswitch 822 0 27 #[128, 151, 164, 177, 200, 223, 256, 279, 312, 335, 358, 371, 404, 447, 460, 493, 526, 559, 592, 605, 638, 661, 694, 727, 740, 753, 776, 799], 128) := by decide +kernel
theorem dL_law_160 : decode cL_law 160 = .ok (.aload_n 1, 1) := by decide +kernel
theorem dL_law_161 : decode cL_law 161 = .ok (.aload_n 0, 1) := by decide +kernel
theorem dL_law_162 : decode cL_law 162 = .ok (.iload_n 3, 1) := by decide +kernel
theorem dL_law_163 : decode cL_law 163 = .ok (.iconst 1, 1) := by decide +kernel
theorem dL_law_164 : decode cL_law 164 = .ok (.iadd, 1) := by decide +kernel
theorem dL_law_165 : decode cL_law 165 = .ok (.iaload, 1) := by decide +kernel
theorem dL_law_166 : decode cL_law 166 = .ok (.invokevirtual 13, 3) := by decide +kernel
theorem dL_law_169 : decode cL_law 169 = .ok (.aload_n 2, 1) := by decide +kernel
theorem dL_law_170 : decode cL_law 170 = .ok (.aload_n 0, 1) := by decide +kernel
theorem dL_law_171 : decode cL_law 171 = .ok (.iload_n 3, 1) := by decide +kernel
theorem dL_law_172 : decode cL_law 172 = .ok (.iconst 1, 1) := by decide +kernel
theorem dL_law_173 : decode cL_law 173 = .ok (.iadd, 1) := by decide +kernel
theorem dL_law_174 : decode cL_law 174 = .ok (.iaload, 1) := by decide +kernel
theorem dL_law_175 : decode cL_law 175 = .ok (.invokevirtual 17, 3) := by decide +kernel
theorem dL_law_178 : decode cL_law 178 = .ok (.if_icmp .eq 676, 3) := by decide +kernel
theorem dL_law_181 : decode cL_law 181 = .ok (.iconst 0, 1) := by decide +kernel
theorem dL_law_182 : decode cL_law 182 = .ok (.ireturn, 1) := by decide +kernel
theorem dL_law_183 : decode cL_law 183 = .ok (.aload_n 1, 1) := by decide +kernel
theorem dL_law_184 : decode cL_law 184 = .ok (.invokevirtual 18, 3) := by decide +kernel
theorem dL_law_187 : decode cL_law 187 = .ok (.aload_n 2, 1) := by decide +kernel
theorem dL_law_188 : decode cL_law 188 = .ok (.invokevirtual 22, 3) := by decide +kernel
theorem dL_law_191 : decode cL_law 191 = .ok (.if_icmp .eq 663, 3) := by decide +kernel
theorem dL_law_194 : decode cL_law 194 = .ok (.iconst 0, 1) := by decide +kernel
theorem dL_law_195 : decode cL_law 195 = .ok (.ireturn, 1) := by decide +kernel
theorem dL_law_196 : decode cL_law 196 = .ok (.aload_n 1, 1) := by decide +kernel
theorem dL_law_197 : decode cL_law 197 = .ok (.invokevirtual 23, 3) := by decide +kernel
theorem dL_law_200 : decode cL_law 200 = .ok (.aload_n 2, 1) := by decide +kernel
theorem dL_law_201 : decode cL_law 201 = .ok (.invokevirtual 26, 3) := by decide +kernel
theorem dL_law_204 : decode cL_law 204 = .ok (.if_icmp .eq 650, 3) := by decide +kernel
theorem dL_law_207 : decode cL_law 207 = .ok (.iconst 0, 1) := by decide +kernel
theorem dL_law_208 : decode cL_law 208 = .ok (.ireturn, 1) := by decide +kernel
theorem dL_law_209 : decode cL_law 209 = .ok (.aload_n 1, 1) := by decide +kernel
theorem dL_law_210 : decode cL_law 210 = .ok (.aload_n 0, 1) := by decide +kernel
theorem dL_law_211 : decode cL_law 211 = .ok (.iload_n 3, 1) := by decide +kernel
theorem dL_law_212 : decode cL_law 212 = .ok (.iconst 1, 1) := by decide +kernel
theorem dL_law_213 : decode cL_law 213 = .ok (.iadd, 1) := by decide +kernel
theorem dL_law_214 : decode cL_law 214 = .ok (.iaload, 1) := by decide +kernel
theorem dL_law_215 : decode cL_law 215 = .ok (.invokevirtual 27, 3) := by decide +kernel
theorem dL_law_218 : decode cL_law 218 = .ok (.aload_n 2, 1) := by decide +kernel
theorem dL_law_219 : decode cL_law 219 = .ok (.aload_n 0, 1) := by decide +kernel
theorem dL_law_220 : decode cL_law 220 = .ok (.iload_n 3, 1) := by decide +kernel
theorem dL_law_221 : decode cL_law 221 = .ok (.iconst 1, 1) := by decide +kernel
theorem dL_law_222 : decode cL_law 222 = .ok (.iadd, 1) := by decide +kernel
theorem dL_law_223 : decode cL_law 223 = .ok (.iaload, 1) := by decide +kernel
theorem dL_law_224 : decode cL_law 224 = .ok (.invokevirtual 30, 3) := by decide +kernel
theorem dL_law_227 : decode cL_law 227 = .ok (.if_icmp .eq 627, 3) := by decide +kernel
theorem dL_law_230 : decode cL_law 230 = .ok (.iconst 0, 1) := by decide +kernel
theorem dL_law_231 : decode cL_law 231 = .ok (.ireturn, 1) := by decide +kernel
theorem dL_law_232 : decode cL_law 232 = .ok (.aload_n 1, 1) := by decide +kernel
theorem dL_law_233 : decode cL_law 233 = .ok (.aload_n 0, 1) := by decide +kernel
theorem dL_law_234 : decode cL_law 234 = .ok (.iload_n 3, 1) := by decide +kernel
theorem dL_law_235 : decode cL_law 235 = .ok (.iconst 1, 1) := by decide +kernel
theorem dL_law_236 : decode cL_law 236 = .ok (.iadd, 1) := by decide +kernel
theorem dL_law_237 : decode cL_law 237 = .ok (.iaload, 1) := by decide +kernel
theorem dL_law_238 : decode cL_law 238 = .ok (.invokevirtual 31, 3) := by decide +kernel
theorem dL_law_241 : decode cL_law 241 = .ok (.aload_n 2, 1) := by decide +kernel
theorem dL_law_242 : decode cL_law 242 = .ok (.aload_n 0, 1) := by decide +kernel
theorem dL_law_243 : decode cL_law 243 = .ok (.iload_n 3, 1) := by decide +kernel
theorem dL_law_244 : decode cL_law 244 = .ok (.iconst 1, 1) := by decide +kernel
theorem dL_law_245 : decode cL_law 245 = .ok (.iadd, 1) := by decide +kernel
theorem dL_law_246 : decode cL_law 246 = .ok (.iaload, 1) := by decide +kernel
theorem dL_law_247 : decode cL_law 247 = .ok (.invokevirtual 34, 3) := by decide +kernel
theorem dL_law_250 : decode cL_law 250 = .ok (.if_icmp .eq 604, 3) := by decide +kernel
theorem dL_law_253 : decode cL_law 253 = .ok (.iconst 0, 1) := by decide +kernel
theorem dL_law_254 : decode cL_law 254 = .ok (.ireturn, 1) := by decide +kernel
theorem dL_law_255 : decode cL_law 255 = .ok (.aload_n 1, 1) := by decide +kernel
theorem dL_law_256 : decode cL_law 256 = .ok (.aload_n 0, 1) := by decide +kernel
theorem dL_law_257 : decode cL_law 257 = .ok (.iload_n 3, 1) := by decide +kernel
theorem dL_law_258 : decode cL_law 258 = .ok (.iconst 1, 1) := by decide +kernel
theorem dL_law_259 : decode cL_law 259 = .ok (.iadd, 1) := by decide +kernel
theorem dL_law_260 : decode cL_law 260 = .ok (.iaload, 1) := by decide +kernel
theorem dL_law_261 : decode cL_law 261 = .ok (.aload_n 0, 1) := by decide +kernel
theorem dL_law_262 : decode cL_law 262 = .ok (.iload_n 3, 1) := by decide +kernel
theorem dL_law_263 : decode cL_law 263 = .ok (.iconst 2, 1) := by decide +kernel
theorem dL_law_264 : decode cL_law 264 = .ok (.iadd, 1) := by decide +kernel
theorem dL_law_265 : decode cL_law 265 = .ok (.iaload, 1) := by decide +kernel
theorem dL_law_266 : decode cL_law 266 = .ok (.invokevirtual 35, 3) := by decide +kernel
theorem dL_law_269 : decode cL_law 269 = .ok (.aload_n 2, 1) := by decide +kernel
theorem dL_law_270 : decode cL_law 270 = .ok (.aload_n 0, 1) := by decide +kernel
theorem dL_law_271 : decode cL_law 271 = .ok (.iload_n 3, 1) := by decide +kernel
theorem dL_law_272 : decode cL_law 272 = .ok (.iconst 1, 1) := by decide +kernel
theorem dL_law_273 : decode cL_law 273 = .ok (.iadd, 1) := by decide +kernel
theorem dL_law_274 : decode cL_law 274 = .ok (.iaload, 1) := by decide +kernel
theorem dL_law_275 : decode cL_law 275 = .ok (.aload_n 0, 1) := by decide +kernel
theorem dL_law_276 : decode cL_law 276 = .ok (.iload_n 3, 1) := by decide +kernel
theorem dL_law_277 : decode cL_law 277 = .ok (.iconst 2, 1) := by decide +kernel
theorem dL_law_278 : decode cL_law 278 = .ok (.iadd, 1) := by decide +kernel
theorem dL_law_279 : decode cL_law 279 = .ok (.iaload, 1) := by decide +kernel
theorem dL_law_280 : decode cL_law 280 = .ok (.invokevirtual 39, 3) := by decide +kernel
theorem dL_law_283 : decode cL_law 283 = .ok (.if_icmp .eq 571, 3) := by decide +kernel
theorem dL_law_286 : decode cL_law 286 = .ok (.iconst 0, 1) := by decide +kernel
theorem dL_law_287 : decode cL_law 287 = .ok (.ireturn, 1) := by decide +kernel
theorem dL_law_288 : decode cL_law 288 = .ok (.aload_n 1, 1) := by decide +kernel
theorem dL_law_289 : decode cL_law 289 = .ok (.aload_n 0, 1) := by decide +kernel
theorem dL_law_290 : decode cL_law 290 = .ok (.iload_n 3, 1) := by decide +kernel
theorem dL_law_291 : decode cL_law 291 = .ok (.iconst 1, 1) := by decide +kernel
theorem dL_law_292 : decode cL_law 292 = .ok (.iadd, 1) := by decide +kernel
theorem dL_law_293 : decode cL_law 293 = .ok (.iaload, 1) := by decide +kernel
theorem dL_law_294 : decode cL_law 294 = .ok (.invokevirtual 40, 3) := by decide +kernel
theorem dL_law_297 : decode cL_law 297 = .ok (.aload_n 2, 1) := by decide +kernel
theorem dL_law_298 : decode cL_law 298 = .ok (.aload_n 0, 1) := by decide +kernel
theorem dL_law_299 : decode cL_law 299 = .ok (.iload_n 3, 1) := by decide +kernel
theorem dL_law_300 : decode cL_law 300 = .ok (.iconst 1, 1) := by decide +kernel
theorem dL_law_301 : decode cL_law 301 = .ok (.iadd, 1) := by decide +kernel
theorem dL_law_302 : decode cL_law 302 = .ok (.iaload, 1) := by decide +kernel
theorem dL_law_303 : decode cL_law 303 = .ok (.invokevirtual 43, 3) := by decide +kernel
theorem dL_law_306 : decode cL_law 306 = .ok (.if_icmp .eq 548, 3) := by decide +kernel
theorem dL_law_309 : decode cL_law 309 = .ok (.iconst 0, 1) := by decide +kernel
theorem dL_law_310 : decode cL_law 310 = .ok (.ireturn, 1) := by decide +kernel
theorem dL_law_311 : decode cL_law 311 = .ok (.aload_n 1, 1) := by decide +kernel
theorem dL_law_312 : decode cL_law 312 = .ok (.aload_n 0, 1) := by decide +kernel
theorem dL_law_313 : decode cL_law 313 = .ok (.iload_n 3, 1) := by decide +kernel
theorem dL_law_314 : decode cL_law 314 = .ok (.iconst 1, 1) := by decide +kernel
theorem dL_law_315 : decode cL_law 315 = .ok (.iadd, 1) := by decide +kernel
theorem dL_law_316 : decode cL_law 316 = .ok (.iaload, 1) := by decide +kernel
theorem dL_law_317 : decode cL_law 317 = .ok (.aload_n 0, 1) := by decide +kernel
theorem dL_law_318 : decode cL_law 318 = .ok (.iload_n 3, 1) := by decide +kernel
theorem dL_law_319 : decode cL_law 319 = .ok (.iconst 2, 1) := by decide +kernel
theorem dL_law_320 : decode cL_law 320 = .ok (.iadd, 1) := by decide +kernel
theorem dL_law_321 : decode cL_law 321 = .ok (.iaload, 1) := by decide +kernel
theorem dL_law_322 : decode cL_law 322 = .ok (.invokevirtual 44, 3) := by decide +kernel
theorem dL_law_325 : decode cL_law 325 = .ok (.aload_n 2, 1) := by decide +kernel
theorem dL_law_326 : decode cL_law 326 = .ok (.aload_n 0, 1) := by decide +kernel
theorem dL_law_327 : decode cL_law 327 = .ok (.iload_n 3, 1) := by decide +kernel
theorem dL_law_328 : decode cL_law 328 = .ok (.iconst 1, 1) := by decide +kernel
theorem dL_law_329 : decode cL_law 329 = .ok (.iadd, 1) := by decide +kernel
theorem dL_law_330 : decode cL_law 330 = .ok (.iaload, 1) := by decide +kernel
theorem dL_law_331 : decode cL_law 331 = .ok (.aload_n 0, 1) := by decide +kernel
theorem dL_law_332 : decode cL_law 332 = .ok (.iload_n 3, 1) := by decide +kernel
theorem dL_law_333 : decode cL_law 333 = .ok (.iconst 2, 1) := by decide +kernel
theorem dL_law_334 : decode cL_law 334 = .ok (.iadd, 1) := by decide +kernel
theorem dL_law_335 : decode cL_law 335 = .ok (.iaload, 1) := by decide +kernel
theorem dL_law_336 : decode cL_law 336 = .ok (.invokevirtual 47, 3) := by decide +kernel
theorem dL_law_339 : decode cL_law 339 = .ok (.if_icmp .eq 515, 3) := by decide +kernel
theorem dL_law_342 : decode cL_law 342 = .ok (.iconst 0, 1) := by decide +kernel
theorem dL_law_343 : decode cL_law 343 = .ok (.ireturn, 1) := by decide +kernel
theorem dL_law_344 : decode cL_law 344 = .ok (.aload_n 1, 1) := by decide +kernel
theorem dL_law_345 : decode cL_law 345 = .ok (.aload_n 0, 1) := by decide +kernel
theorem dL_law_346 : decode cL_law 346 = .ok (.iload_n 3, 1) := by decide +kernel
theorem dL_law_347 : decode cL_law 347 = .ok (.iconst 1, 1) := by decide +kernel
theorem dL_law_348 : decode cL_law 348 = .ok (.iadd, 1) := by decide +kernel
theorem dL_law_349 : decode cL_law 349 = .ok (.iaload, 1) := by decide +kernel
theorem dL_law_350 : decode cL_law 350 = .ok (.invokevirtual 48, 3) := by decide +kernel
theorem dL_law_353 : decode cL_law 353 = .ok (.aload_n 2, 1) := by decide +kernel
theorem dL_law_354 : decode cL_law 354 = .ok (.aload_n 0, 1) := by decide +kernel
theorem dL_law_355 : decode cL_law 355 = .ok (.iload_n 3, 1) := by decide +kernel
theorem dL_law_356 : decode cL_law 356 = .ok (.iconst 1, 1) := by decide +kernel
theorem dL_law_357 : decode cL_law 357 = .ok (.iadd, 1) := by decide +kernel
theorem dL_law_358 : decode cL_law 358 = .ok (.iaload, 1) := by decide +kernel
theorem dL_law_359 : decode cL_law 359 = .ok (.invokevirtual 51, 3) := by decide +kernel
theorem dL_law_362 : decode cL_law 362 = .ok (.if_icmp .eq 492, 3) := by decide +kernel
theorem dL_law_365 : decode cL_law 365 = .ok (.iconst 0, 1) := by decide +kernel
theorem dL_law_366 : decode cL_law 366 = .ok (.ireturn, 1) := by decide +kernel
theorem dL_law_367 : decode cL_law 367 = .ok (.aload_n 1, 1) := by decide +kernel
theorem dL_law_368 : decode cL_law 368 = .ok (.aload_n 0, 1) := by decide +kernel
theorem dL_law_369 : decode cL_law 369 = .ok (.iload_n 3, 1) := by decide +kernel
theorem dL_law_370 : decode cL_law 370 = .ok (.iconst 1, 1) := by decide +kernel
theorem dL_law_371 : decode cL_law 371 = .ok (.iadd, 1) := by decide +kernel
theorem dL_law_372 : decode cL_law 372 = .ok (.iaload, 1) := by decide +kernel
theorem dL_law_373 : decode cL_law 373 = .ok (.invokevirtual 52, 3) := by decide +kernel
theorem dL_law_376 : decode cL_law 376 = .ok (.aload_n 2, 1) := by decide +kernel
theorem dL_law_377 : decode cL_law 377 = .ok (.aload_n 0, 1) := by decide +kernel
theorem dL_law_378 : decode cL_law 378 = .ok (.iload_n 3, 1) := by decide +kernel
theorem dL_law_379 : decode cL_law 379 = .ok (.iconst 1, 1) := by decide +kernel
theorem dL_law_380 : decode cL_law 380 = .ok (.iadd, 1) := by decide +kernel
theorem dL_law_381 : decode cL_law 381 = .ok (.iaload, 1) := by decide +kernel
theorem dL_law_382 : decode cL_law 382 = .ok (.invokevirtual 55, 3) := by decide +kernel
theorem dL_law_385 : decode cL_law 385 = .ok (.if_icmp .eq 469, 3) := by decide +kernel
theorem dL_law_388 : decode cL_law 388 = .ok (.iconst 0, 1) := by decide +kernel
theorem dL_law_389 : decode cL_law 389 = .ok (.ireturn, 1) := by decide +kernel
theorem dL_law_390 : decode cL_law 390 = .ok (.aload_n 1, 1) := by decide +kernel
theorem dL_law_391 : decode cL_law 391 = .ok (.invokevirtual 56, 3) := by decide +kernel
theorem dL_law_394 : decode cL_law 394 = .ok (.aload_n 2, 1) := by decide +kernel
theorem dL_law_395 : decode cL_law 395 = .ok (.invokevirtual 59, 3) := by decide +kernel
theorem dL_law_398 : decode cL_law 398 = .ok (.if_icmp .eq 456, 3) := by decide +kernel
theorem dL_law_401 : decode cL_law 401 = .ok (.iconst 0, 1) := by decide +kernel
theorem dL_law_402 : decode cL_law 402 = .ok (.ireturn, 1) := by decide +kernel
theorem dL_law_403 : decode cL_law 403 = .ok (.aload_n 1, 1) := by decide +kernel
theorem dL_law_404 : decode cL_law 404 = .ok (.aload_n 0, 1) := by decide +kernel
theorem dL_law_405 : decode cL_law 405 = .ok (.iload_n 3, 1) := by decide +kernel
theorem dL_law_406 : decode cL_law 406 = .ok (.iconst 1, 1) := by decide +kernel
theorem dL_law_407 : decode cL_law 407 = .ok (.iadd, 1) := by decide +kernel
theorem dL_law_408 : decode cL_law 408 = .ok (.iaload, 1) := by decide +kernel
theorem dL_law_409 : decode cL_law 409 = .ok (.aload_n 0, 1) := by decide +kernel
theorem dL_law_410 : decode cL_law 410 = .ok (.iload_n 3, 1) := by decide +kernel
theorem dL_law_411 : decode cL_law 411 = .ok (.iconst 2, 1) := by decide +kernel
theorem dL_law_412 : decode cL_law 412 = .ok (.iadd, 1) := by decide +kernel
theorem dL_law_413 : decode cL_law 413 = .ok (.iaload, 1) := by decide +kernel
theorem dL_law_414 : decode cL_law 414 = .ok (.invokevirtual 60, 3) := by decide +kernel
theorem dL_law_417 : decode cL_law 417 = .ok (.aload_n 2, 1) := by decide +kernel
theorem dL_law_418 : decode cL_law 418 = .ok (.aload_n 0, 1) := by decide +kernel
theorem dL_law_419 : decode cL_law 419 = .ok (.iload_n 3, 1) := by decide +kernel
theorem dL_law_420 : decode cL_law 420 = .ok (.iconst 1, 1) := by decide +kernel
theorem dL_law_421 : decode cL_law 421 = .ok (.iadd, 1) := by decide +kernel
theorem dL_law_422 : decode cL_law 422 = .ok (.iaload, 1) := by decide +kernel
theorem dL_law_423 : decode cL_law 423 = .ok (.aload_n 0, 1) := by decide +kernel
theorem dL_law_424 : decode cL_law 424 = .ok (.iload_n 3, 1) := by decide +kernel
theorem dL_law_425 : decode cL_law 425 = .ok (.iconst 2, 1) := by decide +kernel
theorem dL_law_426 : decode cL_law 426 = .ok (.iadd, 1) := by decide +kernel
theorem dL_law_427 : decode cL_law 427 = .ok (.iaload, 1) := by decide +kernel
theorem dL_law_428 : decode cL_law 428 = .ok (.invokevirtual 63, 3) := by decide +kernel
theorem dL_law_431 : decode cL_law 431 = .ok (.if_icmp .eq 423, 3) := by decide +kernel
theorem dL_law_434 : decode cL_law 434 = .ok (.iconst 0, 1) := by decide +kernel
theorem dL_law_435 : decode cL_law 435 = .ok (.ireturn, 1) := by decide +kernel
theorem dL_law_436 : decode cL_law 436 = .ok (.aload_n 1, 1) := by decide +kernel
theorem dL_law_437 : decode cL_law 437 = .ok (.aload_n 0, 1) := by decide +kernel
theorem dL_law_438 : decode cL_law 438 = .ok (.iload_n 3, 1) := by decide +kernel
theorem dL_law_439 : decode cL_law 439 = .ok (.iconst 1, 1) := by decide +kernel
theorem dL_law_440 : decode cL_law 440 = .ok (.iadd, 1) := by decide +kernel
theorem dL_law_441 : decode cL_law 441 = .ok (.iaload, 1) := by decide +kernel
theorem dL_law_442 : decode cL_law 442 = .ok (.aload_n 0, 1) := by decide +kernel
theorem dL_law_443 : decode cL_law 443 = .ok (.iload_n 3, 1) := by decide +kernel
theorem dL_law_444 : decode cL_law 444 = .ok (.iconst 2, 1) := by decide +kernel
theorem dL_law_445 : decode cL_law 445 = .ok (.iadd, 1) := by decide +kernel
theorem dL_law_446 : decode cL_law 446 = .ok (.iaload, 1) := by decide +kernel
theorem dL_law_447 : decode cL_law 447 = .ok (.aload_n 0, 1) := by decide +kernel
theorem dL_law_448 : decode cL_law 448 = .ok (.iload_n 3, 1) := by decide +kernel
theorem dL_law_449 : decode cL_law 449 = .ok (.iconst 3, 1) := by decide +kernel
theorem dL_law_450 : decode cL_law 450 = .ok (.iadd, 1) := by decide +kernel
theorem dL_law_451 : decode cL_law 451 = .ok (.iaload, 1) := by decide +kernel
theorem dL_law_452 : decode cL_law 452 = .ok (.invokevirtual 64, 3) := by decide +kernel
theorem dL_law_455 : decode cL_law 455 = .ok (.aload_n 2, 1) := by decide +kernel
theorem dL_law_456 : decode cL_law 456 = .ok (.aload_n 0, 1) := by decide +kernel
theorem dL_law_457 : decode cL_law 457 = .ok (.iload_n 3, 1) := by decide +kernel
theorem dL_law_458 : decode cL_law 458 = .ok (.iconst 1, 1) := by decide +kernel
theorem dL_law_459 : decode cL_law 459 = .ok (.iadd, 1) := by decide +kernel
theorem dL_law_460 : decode cL_law 460 = .ok (.iaload, 1) := by decide +kernel
theorem dL_law_461 : decode cL_law 461 = .ok (.aload_n 0, 1) := by decide +kernel
theorem dL_law_462 : decode cL_law 462 = .ok (.iload_n 3, 1) := by decide +kernel
theorem dL_law_463 : decode cL_law 463 = .ok (.iconst 2, 1) := by decide +kernel
theorem dL_law_464 : decode cL_law 464 = .ok (.iadd, 1) := by decide +kernel
theorem dL_law_465 : decode cL_law 465 = .ok (.iaload, 1) := by decide +kernel
theorem dL_law_466 : decode cL_law 466 = .ok (.aload_n 0, 1) := by decide +kernel
theorem dL_law_467 : decode cL_law 467 = .ok (.iload_n 3, 1) := by decide +kernel
theorem dL_law_468 : decode cL_law 468 = .ok (.iconst 3, 1) := by decide +kernel
theorem dL_law_469 : decode cL_law 469 = .ok (.iadd, 1) := by decide +kernel
theorem dL_law_470 : decode cL_law 470 = .ok (.iaload, 1) := by decide +kernel
theorem dL_law_471 : decode cL_law 471 = .ok (.invokevirtual 68, 3) := by decide +kernel
theorem dL_law_474 : decode cL_law 474 = .ok (.if_icmp .eq 380, 3) := by decide +kernel
theorem dL_law_477 : decode cL_law 477 = .ok (.iconst 0, 1) := by decide +kernel
theorem dL_law_478 : decode cL_law 478 = .ok (.ireturn, 1) := by decide +kernel
theorem dL_law_479 : decode cL_law 479 = .ok (.aload_n 1, 1) := by decide +kernel
theorem dL_law_480 : decode cL_law 480 = .ok (.invokevirtual 69, 3) := by decide +kernel
theorem dL_law_483 : decode cL_law 483 = .ok (.aload_n 2, 1) := by decide +kernel
theorem dL_law_484 : decode cL_law 484 = .ok (.invokevirtual 72, 3) := by decide +kernel
theorem dL_law_487 : decode cL_law 487 = .ok (.if_icmp .eq 367, 3) := by decide +kernel
theorem dL_law_490 : decode cL_law 490 = .ok (.iconst 0, 1) := by decide +kernel
theorem dL_law_491 : decode cL_law 491 = .ok (.ireturn, 1) := by decide +kernel
theorem dL_law_492 : decode cL_law 492 = .ok (.aload_n 1, 1) := by decide +kernel
theorem dL_law_493 : decode cL_law 493 = .ok (.aload_n 0, 1) := by decide +kernel
theorem dL_law_494 : decode cL_law 494 = .ok (.iload_n 3, 1) := by decide +kernel
theorem dL_law_495 : decode cL_law 495 = .ok (.iconst 1, 1) := by decide +kernel
theorem dL_law_496 : decode cL_law 496 = .ok (.iadd, 1) := by decide +kernel
theorem dL_law_497 : decode cL_law 497 = .ok (.iaload, 1) := by decide +kernel
theorem dL_law_498 : decode cL_law 498 = .ok (.aload_n 0, 1) := by decide +kernel
theorem dL_law_499 : decode cL_law 499 = .ok (.iload_n 3, 1) := by decide +kernel
theorem dL_law_500 : decode cL_law 500 = .ok (.iconst 2, 1) := by decide +kernel
theorem dL_law_501 : decode cL_law 501 = .ok (.iadd, 1) := by decide +kernel
theorem dL_law_502 : decode cL_law 502 = .ok (.iaload, 1) := by decide +kernel
theorem dL_law_503 : decode cL_law 503 = .ok (.invokevirtual 73, 3) := by decide +kernel
theorem dL_law_506 : decode cL_law 506 = .ok (.aload_n 2, 1) := by decide +kernel
theorem dL_law_507 : decode cL_law 507 = .ok (.aload_n 0, 1) := by decide +kernel
theorem dL_law_508 : decode cL_law 508 = .ok (.iload_n 3, 1) := by decide +kernel
theorem dL_law_509 : decode cL_law 509 = .ok (.iconst 1, 1) := by decide +kernel
theorem dL_law_510 : decode cL_law 510 = .ok (.iadd, 1) := by decide +kernel
theorem dL_law_511 : decode cL_law 511 = .ok (.iaload, 1) := by decide +kernel
theorem dL_law_512 : decode cL_law 512 = .ok (.aload_n 0, 1) := by decide +kernel
theorem dL_law_513 : decode cL_law 513 = .ok (.iload_n 3, 1) := by decide +kernel
theorem dL_law_514 : decode cL_law 514 = .ok (.iconst 2, 1) := by decide +kernel
theorem dL_law_515 : decode cL_law 515 = .ok (.iadd, 1) := by decide +kernel
theorem dL_law_516 : decode cL_law 516 = .ok (.iaload, 1) := by decide +kernel
theorem dL_law_517 : decode cL_law 517 = .ok (.invokevirtual 76, 3) := by decide +kernel
theorem dL_law_520 : decode cL_law 520 = .ok (.if_icmp .eq 334, 3) := by decide +kernel
theorem dL_law_523 : decode cL_law 523 = .ok (.iconst 0, 1) := by decide +kernel
theorem dL_law_524 : decode cL_law 524 = .ok (.ireturn, 1) := by decide +kernel
theorem dL_law_525 : decode cL_law 525 = .ok (.aload_n 1, 1) := by decide +kernel
theorem dL_law_526 : decode cL_law 526 = .ok (.aload_n 0, 1) := by decide +kernel
theorem dL_law_527 : decode cL_law 527 = .ok (.iload_n 3, 1) := by decide +kernel
theorem dL_law_528 : decode cL_law 528 = .ok (.iconst 1, 1) := by decide +kernel
theorem dL_law_529 : decode cL_law 529 = .ok (.iadd, 1) := by decide +kernel
theorem dL_law_530 : decode cL_law 530 = .ok (.iaload, 1) := by decide +kernel
theorem dL_law_531 : decode cL_law 531 = .ok (.aload_n 0, 1) := by decide +kernel
theorem dL_law_532 : decode cL_law 532 = .ok (.iload_n 3, 1) := by decide +kernel
theorem dL_law_533 : decode cL_law 533 = .ok (.iconst 2, 1) := by decide +kernel
theorem dL_law_534 : decode cL_law 534 = .ok (.iadd, 1) := by decide +kernel
theorem dL_law_535 : decode cL_law 535 = .ok (.iaload, 1) := by decide +kernel
theorem dL_law_536 : decode cL_law 536 = .ok (.invokevirtual 77, 3) := by decide +kernel
theorem dL_law_539 : decode cL_law 539 = .ok (.aload_n 2, 1) := by decide +kernel
theorem dL_law_540 : decode cL_law 540 = .ok (.aload_n 0, 1) := by decide +kernel
theorem dL_law_541 : decode cL_law 541 = .ok (.iload_n 3, 1) := by decide +kernel
theorem dL_law_542 : decode cL_law 542 = .ok (.iconst 1, 1) := by decide +kernel
theorem dL_law_543 : decode cL_law 543 = .ok (.iadd, 1) := by decide +kernel
theorem dL_law_544 : decode cL_law 544 = .ok (.iaload, 1) := by decide +kernel
theorem dL_law_545 : decode cL_law 545 = .ok (.aload_n 0, 1) := by decide +kernel
theorem dL_law_546 : decode cL_law 546 = .ok (.iload_n 3, 1) := by decide +kernel
theorem dL_law_547 : decode cL_law 547 = .ok (.iconst 2, 1) := by decide +kernel
theorem dL_law_548 : decode cL_law 548 = .ok (.iadd, 1) := by decide +kernel
theorem dL_law_549 : decode cL_law 549 = .ok (.iaload, 1) := by decide +kernel
theorem dL_law_550 : decode cL_law 550 = .ok (.invokevirtual 80, 3) := by decide +kernel
theorem dL_law_553 : decode cL_law 553 = .ok (.if_icmp .eq 301, 3) := by decide +kernel
theorem dL_law_556 : decode cL_law 556 = .ok (.iconst 0, 1) := by decide +kernel
theorem dL_law_557 : decode cL_law 557 = .ok (.ireturn, 1) := by decide +kernel
theorem dL_law_558 : decode cL_law 558 = .ok (.aload_n 1, 1) := by decide +kernel
theorem dL_law_559 : decode cL_law 559 = .ok (.aload_n 0, 1) := by decide +kernel
theorem dL_law_560 : decode cL_law 560 = .ok (.iload_n 3, 1) := by decide +kernel
theorem dL_law_561 : decode cL_law 561 = .ok (.iconst 1, 1) := by decide +kernel
theorem dL_law_562 : decode cL_law 562 = .ok (.iadd, 1) := by decide +kernel
theorem dL_law_563 : decode cL_law 563 = .ok (.iaload, 1) := by decide +kernel
theorem dL_law_564 : decode cL_law 564 = .ok (.aload_n 0, 1) := by decide +kernel
theorem dL_law_565 : decode cL_law 565 = .ok (.iload_n 3, 1) := by decide +kernel
theorem dL_law_566 : decode cL_law 566 = .ok (.iconst 2, 1) := by decide +kernel
theorem dL_law_567 : decode cL_law 567 = .ok (.iadd, 1) := by decide +kernel
theorem dL_law_568 : decode cL_law 568 = .ok (.iaload, 1) := by decide +kernel
theorem dL_law_569 : decode cL_law 569 = .ok (.invokevirtual 81, 3) := by decide +kernel
theorem dL_law_572 : decode cL_law 572 = .ok (.aload_n 2, 1) := by decide +kernel
theorem dL_law_573 : decode cL_law 573 = .ok (.aload_n 0, 1) := by decide +kernel
theorem dL_law_574 : decode cL_law 574 = .ok (.iload_n 3, 1) := by decide +kernel
theorem dL_law_575 : decode cL_law 575 = .ok (.iconst 1, 1) := by decide +kernel
theorem dL_law_576 : decode cL_law 576 = .ok (.iadd, 1) := by decide +kernel
theorem dL_law_577 : decode cL_law 577 = .ok (.iaload, 1) := by decide +kernel
theorem dL_law_578 : decode cL_law 578 = .ok (.aload_n 0, 1) := by decide +kernel
theorem dL_law_579 : decode cL_law 579 = .ok (.iload_n 3, 1) := by decide +kernel
theorem dL_law_580 : decode cL_law 580 = .ok (.iconst 2, 1) := by decide +kernel
theorem dL_law_581 : decode cL_law 581 = .ok (.iadd, 1) := by decide +kernel
theorem dL_law_582 : decode cL_law 582 = .ok (.iaload, 1) := by decide +kernel
theorem dL_law_583 : decode cL_law 583 = .ok (.invokevirtual 84, 3) := by decide +kernel
theorem dL_law_586 : decode cL_law 586 = .ok (.if_icmp .eq 268, 3) := by decide +kernel
theorem dL_law_589 : decode cL_law 589 = .ok (.iconst 0, 1) := by decide +kernel
theorem dL_law_590 : decode cL_law 590 = .ok (.ireturn, 1) := by decide +kernel
theorem dL_law_591 : decode cL_law 591 = .ok (.aload_n 1, 1) := by decide +kernel
theorem dL_law_592 : decode cL_law 592 = .ok (.aload_n 0, 1) := by decide +kernel
theorem dL_law_593 : decode cL_law 593 = .ok (.iload_n 3, 1) := by decide +kernel
theorem dL_law_594 : decode cL_law 594 = .ok (.iconst 1, 1) := by decide +kernel
theorem dL_law_595 : decode cL_law 595 = .ok (.iadd, 1) := by decide +kernel
theorem dL_law_596 : decode cL_law 596 = .ok (.iaload, 1) := by decide +kernel
theorem dL_law_597 : decode cL_law 597 = .ok (.aload_n 0, 1) := by decide +kernel
theorem dL_law_598 : decode cL_law 598 = .ok (.iload_n 3, 1) := by decide +kernel
theorem dL_law_599 : decode cL_law 599 = .ok (.iconst 2, 1) := by decide +kernel
theorem dL_law_600 : decode cL_law 600 = .ok (.iadd, 1) := by decide +kernel
theorem dL_law_601 : decode cL_law 601 = .ok (.iaload, 1) := by decide +kernel
theorem dL_law_602 : decode cL_law 602 = .ok (.invokevirtual 85, 3) := by decide +kernel
theorem dL_law_605 : decode cL_law 605 = .ok (.aload_n 2, 1) := by decide +kernel
theorem dL_law_606 : decode cL_law 606 = .ok (.aload_n 0, 1) := by decide +kernel
theorem dL_law_607 : decode cL_law 607 = .ok (.iload_n 3, 1) := by decide +kernel
theorem dL_law_608 : decode cL_law 608 = .ok (.iconst 1, 1) := by decide +kernel
theorem dL_law_609 : decode cL_law 609 = .ok (.iadd, 1) := by decide +kernel
theorem dL_law_610 : decode cL_law 610 = .ok (.iaload, 1) := by decide +kernel
theorem dL_law_611 : decode cL_law 611 = .ok (.aload_n 0, 1) := by decide +kernel
theorem dL_law_612 : decode cL_law 612 = .ok (.iload_n 3, 1) := by decide +kernel
theorem dL_law_613 : decode cL_law 613 = .ok (.iconst 2, 1) := by decide +kernel
theorem dL_law_614 : decode cL_law 614 = .ok (.iadd, 1) := by decide +kernel
theorem dL_law_615 : decode cL_law 615 = .ok (.iaload, 1) := by decide +kernel
theorem dL_law_616 : decode cL_law 616 = .ok (.invokevirtual 88, 3) := by decide +kernel
theorem dL_law_619 : decode cL_law 619 = .ok (.if_icmp .eq 235, 3) := by decide +kernel
theorem dL_law_622 : decode cL_law 622 = .ok (.iconst 0, 1) := by decide +kernel
theorem dL_law_623 : decode cL_law 623 = .ok (.ireturn, 1) := by decide +kernel
theorem dL_law_624 : decode cL_law 624 = .ok (.aload_n 1, 1) := by decide +kernel
theorem dL_law_625 : decode cL_law 625 = .ok (.invokevirtual 89, 3) := by decide +kernel
theorem dL_law_628 : decode cL_law 628 = .ok (.aload_n 2, 1) := by decide +kernel
theorem dL_law_629 : decode cL_law 629 = .ok (.invokevirtual 92, 3) := by decide +kernel
theorem dL_law_632 : decode cL_law 632 = .ok (.if_icmp .eq 222, 3) := by decide +kernel
theorem dL_law_635 : decode cL_law 635 = .ok (.iconst 0, 1) := by decide +kernel
theorem dL_law_636 : decode cL_law 636 = .ok (.ireturn, 1) := by decide +kernel
theorem dL_law_637 : decode cL_law 637 = .ok (.aload_n 1, 1) := by decide +kernel
theorem dL_law_638 : decode cL_law 638 = .ok (.aload_n 0, 1) := by decide +kernel
theorem dL_law_639 : decode cL_law 639 = .ok (.iload_n 3, 1) := by decide +kernel
theorem dL_law_640 : decode cL_law 640 = .ok (.iconst 1, 1) := by decide +kernel
theorem dL_law_641 : decode cL_law 641 = .ok (.iadd, 1) := by decide +kernel
theorem dL_law_642 : decode cL_law 642 = .ok (.iaload, 1) := by decide +kernel
theorem dL_law_643 : decode cL_law 643 = .ok (.aload_n 0, 1) := by decide +kernel
theorem dL_law_644 : decode cL_law 644 = .ok (.iload_n 3, 1) := by decide +kernel
theorem dL_law_645 : decode cL_law 645 = .ok (.iconst 2, 1) := by decide +kernel
theorem dL_law_646 : decode cL_law 646 = .ok (.iadd, 1) := by decide +kernel
theorem dL_law_647 : decode cL_law 647 = .ok (.iaload, 1) := by decide +kernel
theorem dL_law_648 : decode cL_law 648 = .ok (.invokevirtual 93, 3) := by decide +kernel
theorem dL_law_651 : decode cL_law 651 = .ok (.aload_n 2, 1) := by decide +kernel
theorem dL_law_652 : decode cL_law 652 = .ok (.aload_n 0, 1) := by decide +kernel
theorem dL_law_653 : decode cL_law 653 = .ok (.iload_n 3, 1) := by decide +kernel
theorem dL_law_654 : decode cL_law 654 = .ok (.iconst 1, 1) := by decide +kernel
theorem dL_law_655 : decode cL_law 655 = .ok (.iadd, 1) := by decide +kernel
theorem dL_law_656 : decode cL_law 656 = .ok (.iaload, 1) := by decide +kernel
theorem dL_law_657 : decode cL_law 657 = .ok (.aload_n 0, 1) := by decide +kernel
theorem dL_law_658 : decode cL_law 658 = .ok (.iload_n 3, 1) := by decide +kernel
theorem dL_law_659 : decode cL_law 659 = .ok (.iconst 2, 1) := by decide +kernel
theorem dL_law_660 : decode cL_law 660 = .ok (.iadd, 1) := by decide +kernel
theorem dL_law_661 : decode cL_law 661 = .ok (.iaload, 1) := by decide +kernel
theorem dL_law_662 : decode cL_law 662 = .ok (.invokevirtual 96, 3) := by decide +kernel
theorem dL_law_665 : decode cL_law 665 = .ok (.if_icmp .eq 189, 3) := by decide +kernel
theorem dL_law_668 : decode cL_law 668 = .ok (.iconst 0, 1) := by decide +kernel
theorem dL_law_669 : decode cL_law 669 = .ok (.ireturn, 1) := by decide +kernel
theorem dL_law_670 : decode cL_law 670 = .ok (.aload_n 1, 1) := by decide +kernel
theorem dL_law_671 : decode cL_law 671 = .ok (.aload_n 0, 1) := by decide +kernel
theorem dL_law_672 : decode cL_law 672 = .ok (.iload_n 3, 1) := by decide +kernel
theorem dL_law_673 : decode cL_law 673 = .ok (.iconst 1, 1) := by decide +kernel
theorem dL_law_674 : decode cL_law 674 = .ok (.iadd, 1) := by decide +kernel
theorem dL_law_675 : decode cL_law 675 = .ok (.iaload, 1) := by decide +kernel
theorem dL_law_676 : decode cL_law 676 = .ok (.invokevirtual 97, 3) := by decide +kernel
theorem dL_law_679 : decode cL_law 679 = .ok (.aload_n 2, 1) := by decide +kernel
theorem dL_law_680 : decode cL_law 680 = .ok (.aload_n 0, 1) := by decide +kernel
theorem dL_law_681 : decode cL_law 681 = .ok (.iload_n 3, 1) := by decide +kernel
theorem dL_law_682 : decode cL_law 682 = .ok (.iconst 1, 1) := by decide +kernel
theorem dL_law_683 : decode cL_law 683 = .ok (.iadd, 1) := by decide +kernel
theorem dL_law_684 : decode cL_law 684 = .ok (.iaload, 1) := by decide +kernel
theorem dL_law_685 : decode cL_law 685 = .ok (.invokevirtual 100, 3) := by decide +kernel
theorem dL_law_688 : decode cL_law 688 = .ok (.if_icmp .eq 166, 3) := by decide +kernel
theorem dL_law_691 : decode cL_law 691 = .ok (.iconst 0, 1) := by decide +kernel
theorem dL_law_692 : decode cL_law 692 = .ok (.ireturn, 1) := by decide +kernel
theorem dL_law_693 : decode cL_law 693 = .ok (.aload_n 1, 1) := by decide +kernel
theorem dL_law_694 : decode cL_law 694 = .ok (.aload_n 0, 1) := by decide +kernel
theorem dL_law_695 : decode cL_law 695 = .ok (.iload_n 3, 1) := by decide +kernel
theorem dL_law_696 : decode cL_law 696 = .ok (.iconst 1, 1) := by decide +kernel
theorem dL_law_697 : decode cL_law 697 = .ok (.iadd, 1) := by decide +kernel
theorem dL_law_698 : decode cL_law 698 = .ok (.iaload, 1) := by decide +kernel
theorem dL_law_699 : decode cL_law 699 = .ok (.aload_n 0, 1) := by decide +kernel
theorem dL_law_700 : decode cL_law 700 = .ok (.iload_n 3, 1) := by decide +kernel
theorem dL_law_701 : decode cL_law 701 = .ok (.iconst 2, 1) := by decide +kernel
theorem dL_law_702 : decode cL_law 702 = .ok (.iadd, 1) := by decide +kernel
theorem dL_law_703 : decode cL_law 703 = .ok (.iaload, 1) := by decide +kernel
theorem dL_law_704 : decode cL_law 704 = .ok (.invokevirtual 101, 3) := by decide +kernel
theorem dL_law_707 : decode cL_law 707 = .ok (.aload_n 2, 1) := by decide +kernel
theorem dL_law_708 : decode cL_law 708 = .ok (.aload_n 0, 1) := by decide +kernel
theorem dL_law_709 : decode cL_law 709 = .ok (.iload_n 3, 1) := by decide +kernel
theorem dL_law_710 : decode cL_law 710 = .ok (.iconst 1, 1) := by decide +kernel
theorem dL_law_711 : decode cL_law 711 = .ok (.iadd, 1) := by decide +kernel
theorem dL_law_712 : decode cL_law 712 = .ok (.iaload, 1) := by decide +kernel
theorem dL_law_713 : decode cL_law 713 = .ok (.aload_n 0, 1) := by decide +kernel
theorem dL_law_714 : decode cL_law 714 = .ok (.iload_n 3, 1) := by decide +kernel
theorem dL_law_715 : decode cL_law 715 = .ok (.iconst 2, 1) := by decide +kernel
theorem dL_law_716 : decode cL_law 716 = .ok (.iadd, 1) := by decide +kernel
theorem dL_law_717 : decode cL_law 717 = .ok (.iaload, 1) := by decide +kernel
theorem dL_law_718 : decode cL_law 718 = .ok (.invokevirtual 104, 3) := by decide +kernel
theorem dL_law_721 : decode cL_law 721 = .ok (.if_icmp .eq 133, 3) := by decide +kernel
theorem dL_law_724 : decode cL_law 724 = .ok (.iconst 0, 1) := by decide +kernel
theorem dL_law_725 : decode cL_law 725 = .ok (.ireturn, 1) := by decide +kernel
theorem dL_law_726 : decode cL_law 726 = .ok (.aload_n 1, 1) := by decide +kernel
theorem dL_law_727 : decode cL_law 727 = .ok (.aload_n 0, 1) := by decide +kernel
theorem dL_law_728 : decode cL_law 728 = .ok (.iload_n 3, 1) := by decide +kernel
theorem dL_law_729 : decode cL_law 729 = .ok (.iconst 1, 1) := by decide +kernel
theorem dL_law_730 : decode cL_law 730 = .ok (.iadd, 1) := by decide +kernel
theorem dL_law_731 : decode cL_law 731 = .ok (.iaload, 1) := by decide +kernel
theorem dL_law_732 : decode cL_law 732 = .ok (.aload_n 0, 1) := by decide +kernel
theorem dL_law_733 : decode cL_law 733 = .ok (.iload_n 3, 1) := by decide +kernel
theorem dL_law_734 : decode cL_law 734 = .ok (.iconst 2, 1) := by decide +kernel
theorem dL_law_735 : decode cL_law 735 = .ok (.iadd, 1) := by decide +kernel
theorem dL_law_736 : decode cL_law 736 = .ok (.iaload, 1) := by decide +kernel
theorem dL_law_737 : decode cL_law 737 = .ok (.invokevirtual 105, 3) := by decide +kernel
theorem dL_law_740 : decode cL_law 740 = .ok (.aload_n 2, 1) := by decide +kernel
theorem dL_law_741 : decode cL_law 741 = .ok (.aload_n 0, 1) := by decide +kernel
theorem dL_law_742 : decode cL_law 742 = .ok (.iload_n 3, 1) := by decide +kernel
theorem dL_law_743 : decode cL_law 743 = .ok (.iconst 1, 1) := by decide +kernel
theorem dL_law_744 : decode cL_law 744 = .ok (.iadd, 1) := by decide +kernel
theorem dL_law_745 : decode cL_law 745 = .ok (.iaload, 1) := by decide +kernel
theorem dL_law_746 : decode cL_law 746 = .ok (.aload_n 0, 1) := by decide +kernel
theorem dL_law_747 : decode cL_law 747 = .ok (.iload_n 3, 1) := by decide +kernel
theorem dL_law_748 : decode cL_law 748 = .ok (.iconst 2, 1) := by decide +kernel
theorem dL_law_749 : decode cL_law 749 = .ok (.iadd, 1) := by decide +kernel
theorem dL_law_750 : decode cL_law 750 = .ok (.iaload, 1) := by decide +kernel
theorem dL_law_751 : decode cL_law 751 = .ok (.invokevirtual 108, 3) := by decide +kernel
theorem dL_law_754 : decode cL_law 754 = .ok (.if_icmp .eq 100, 3) := by decide +kernel
theorem dL_law_757 : decode cL_law 757 = .ok (.iconst 0, 1) := by decide +kernel
theorem dL_law_758 : decode cL_law 758 = .ok (.ireturn, 1) := by decide +kernel
theorem dL_law_759 : decode cL_law 759 = .ok (.aload_n 1, 1) := by decide +kernel
theorem dL_law_760 : decode cL_law 760 = .ok (.invokevirtual 109, 3) := by decide +kernel
theorem dL_law_763 : decode cL_law 763 = .ok (.aload_n 2, 1) := by decide +kernel
theorem dL_law_764 : decode cL_law 764 = .ok (.invokevirtual 112, 3) := by decide +kernel
theorem dL_law_767 : decode cL_law 767 = .ok (.if_icmp .eq 87, 3) := by decide +kernel
theorem dL_law_770 : decode cL_law 770 = .ok (.iconst 0, 1) := by decide +kernel
theorem dL_law_771 : decode cL_law 771 = .ok (.ireturn, 1) := by decide +kernel
theorem dL_law_772 : decode cL_law 772 = .ok (.aload_n 1, 1) := by decide +kernel
theorem dL_law_773 : decode cL_law 773 = .ok (.invokevirtual 113, 3) := by decide +kernel
theorem dL_law_776 : decode cL_law 776 = .ok (.aload_n 2, 1) := by decide +kernel
theorem dL_law_777 : decode cL_law 777 = .ok (.invokevirtual 116, 3) := by decide +kernel
theorem dL_law_780 : decode cL_law 780 = .ok (.if_icmp .eq 74, 3) := by decide +kernel
theorem dL_law_783 : decode cL_law 783 = .ok (.iconst 0, 1) := by decide +kernel
theorem dL_law_784 : decode cL_law 784 = .ok (.ireturn, 1) := by decide +kernel
theorem dL_law_785 : decode cL_law 785 = .ok (.aload_n 1, 1) := by decide +kernel
theorem dL_law_786 : decode cL_law 786 = .ok (.aload_n 0, 1) := by decide +kernel
theorem dL_law_787 : decode cL_law 787 = .ok (.iload_n 3, 1) := by decide +kernel
theorem dL_law_788 : decode cL_law 788 = .ok (.iconst 1, 1) := by decide +kernel
theorem dL_law_789 : decode cL_law 789 = .ok (.iadd, 1) := by decide +kernel
theorem dL_law_790 : decode cL_law 790 = .ok (.iaload, 1) := by decide +kernel
theorem dL_law_791 : decode cL_law 791 = .ok (.invokevirtual 117, 3) := by decide +kernel
theorem dL_law_794 : decode cL_law 794 = .ok (.aload_n 2, 1) := by decide +kernel
theorem dL_law_795 : decode cL_law 795 = .ok (.aload_n 0, 1) := by decide +kernel
theorem dL_law_796 : decode cL_law 796 = .ok (.iload_n 3, 1) := by decide +kernel
theorem dL_law_797 : decode cL_law 797 = .ok (.iconst 1, 1) := by decide +kernel
theorem dL_law_798 : decode cL_law 798 = .ok (.iadd, 1) := by decide +kernel
theorem dL_law_799 : decode cL_law 799 = .ok (.iaload, 1) := by decide +kernel
theorem dL_law_800 : decode cL_law 800 = .ok (.invokevirtual 120, 3) := by decide +kernel
theorem dL_law_803 : decode cL_law 803 = .ok (.if_icmp .eq 51, 3) := by decide +kernel
theorem dL_law_806 : decode cL_law 806 = .ok (.iconst 0, 1) := by decide +kernel
theorem dL_law_807 : decode cL_law 807 = .ok (.ireturn, 1) := by decide +kernel
theorem dL_law_808 : decode cL_law 808 = .ok (.aload_n 1, 1) := by decide +kernel
theorem dL_law_809 : decode cL_law 809 = .ok (.aload_n 0, 1) := by decide +kernel
theorem dL_law_810 : decode cL_law 810 = .ok (.iload_n 3, 1) := by decide +kernel
theorem dL_law_811 : decode cL_law 811 = .ok (.iconst 1, 1) := by decide +kernel
theorem dL_law_812 : decode cL_law 812 = .ok (.iadd, 1) := by decide +kernel
theorem dL_law_813 : decode cL_law 813 = .ok (.iaload, 1) := by decide +kernel
theorem dL_law_814 : decode cL_law 814 = .ok (.invokevirtual 121, 3) := by decide +kernel
theorem dL_law_817 : decode cL_law 817 = .ok (.aload_n 2, 1) := by decide +kernel
theorem dL_law_818 : decode cL_law 818 = .ok (.aload_n 0, 1) := by decide +kernel
theorem dL_law_819 : decode cL_law 819 = .ok (.iload_n 3, 1) := by decide +kernel
theorem dL_law_820 : decode cL_law 820 = .ok (.iconst 1, 1) := by decide +kernel
theorem dL_law_821 : decode cL_law 821 = .ok (.iadd, 1) := by decide +kernel
theorem dL_law_822 : decode cL_law 822 = .ok (.iaload, 1) := by decide +kernel
theorem dL_law_823 : decode cL_law 823 = .ok (.invokevirtual 124, 3) := by decide +kernel
theorem dL_law_826 : decode cL_law 826 = .ok (.if_icmp .eq 28, 3) := by decide +kernel
theorem dL_law_829 : decode cL_law 829 = .ok (.iconst 0, 1) := by decide +kernel
theorem dL_law_830 : decode cL_law 830 = .ok (.ireturn, 1) := by decide +kernel
theorem dL_law_831 : decode cL_law 831 = .ok (.aload_n 1, 1) := by decide +kernel
theorem dL_law_832 : decode cL_law 832 = .ok (.aload_n 0, 1) := by decide +kernel
theorem dL_law_833 : decode cL_law 833 = .ok (.iload_n 3, 1) := by decide +kernel
theorem dL_law_834 : decode cL_law 834 = .ok (.iconst 1, 1) := by decide +kernel
theorem dL_law_835 : decode cL_law 835 = .ok (.iadd, 1) := by decide +kernel
theorem dL_law_836 : decode cL_law 836 = .ok (.iaload, 1) := by decide +kernel
theorem dL_law_837 : decode cL_law 837 = .ok (.invokevirtual 125, 3) := by decide +kernel
theorem dL_law_840 : decode cL_law 840 = .ok (.aload_n 2, 1) := by decide +kernel
theorem dL_law_841 : decode cL_law 841 = .ok (.aload_n 0, 1) := by decide +kernel
theorem dL_law_842 : decode cL_law 842 = .ok (.iload_n 3, 1) := by decide +kernel
theorem dL_law_843 : decode cL_law 843 = .ok (.iconst 1, 1) := by decide +kernel
theorem dL_law_844 : decode cL_law 844 = .ok (.iadd, 1) := by decide +kernel
theorem dL_law_845 : decode cL_law 845 = .ok (.iaload, 1) := by decide +kernel
theorem dL_law_846 : decode cL_law 846 = .ok (.invokevirtual 128, 3) := by decide +kernel
theorem dL_law_849 : decode cL_law 849 = .ok (.if_icmp .eq 5, 3) := by decide +kernel
theorem dL_law_852 : decode cL_law 852 = .ok (.iconst 0, 1) := by decide +kernel
theorem dL_law_853 : decode cL_law 853 = .ok (.ireturn, 1) := by decide +kernel
theorem dL_law_854 : decode cL_law 854 = .ok (.iinc 3 4, 3) := by decide +kernel
theorem dL_law_857 : decode cL_law 857 = .ok (.goto (-839), 3) := by decide +kernel
theorem dL_law_860 : decode cL_law 860 = .ok (.iconst 1, 1) := by decide +kernel
theorem dL_law_861 : decode cL_law 861 = .ok (.ireturn, 1) := by decide +kernel
end
section
/-! ===== the frame of this proof: words that any method may use, flat memories, calls ===== -/
def lw_good : List Cond := lw_tbl.filter goodWord
theorem lw_in {w : Cond} (h : w ∈ lw_tbl) (g : goodWord w = true) : w ∈ lw_good := List.mem_filter.mpr ⟨h, g⟩
theorem lw_gg {w : Cond} (h : w ∈ lw_good) : (w.onTables && w.keeps) = true ∨ ∃ ty, w = .arrayClass ty := good_of_word (List.mem_filter.mp h).2
/-- the words of every method: its own code, then all that are good -/
def wsA (y : MethodName) (b : ByteArray) (n : Nat) (ret : Option FieldType) : List Cond := .code y b n ret :: lw_good
theorem wsA_good {y : MethodName} {b : ByteArray} {n : Nat} {ret : Option FieldType} (h : Cond.code y b n ret ∈ lw_good) : GoodIn lw_good (wsA y b n ret) := by
  intro w hw
  rcases List.mem_cons.mp hw with rfl | hw
  · exact ⟨h, lw_gg h⟩
  · exact ⟨hw, lw_gg hw⟩
/-- links that are private to nest mates: each is carried as a fact of the state -/
def isNestW : Cond → Bool
  | .fieldLinkNest _ _ _ _ _ _ => true
  | .methodLinkNest _ _ _ _ => true
  | _ => false
def nestW : List Cond := lw_tbl.filter isNestW
theorem nest_in {w : Cond} (h : w ∈ lw_tbl) (g : isNestW w = true) : w ∈ nestW := List.mem_filter.mpr ⟨h, g⟩
def NestOK (U : State) : Prop := ∀ w ∈ nestW, va_Nw w U
theorem nestOK_warm {s U : State} (hW : s.WarmedH U.vm) (h : NestOK s) : NestOK U := by
  intro w hw
  have h1 := h w hw
  have h2 := (List.mem_filter.mp hw).2
  cases w <;> first | exact va_Nw.warmF hW h1 | exact va_Nw.warmM hW h1 | exact Bool.noConfusion h2
theorem nest_tab {w : Cond} (h : isNestW w = true) : w.onTables = true := by
  cases w <;> first | rfl | exact Bool.noConfusion h
theorem nestOK_blind {s U : State} (hv : s.vm = U.vm) (h : NestOK s) : NestOK U := fun w hw => va_Nw.same (nest_tab (List.mem_filter.mp hw).2) hv (h w hw)
theorem nestOK_of {A : Array Value} {U : State} (h : ∀ w ∈ lw_tbl, w.before A U = true) : NestOK U := fun w hw => va_Nw.of (nest_tab (List.mem_filter.mp hw).2) (h w (List.mem_filter.mp hw).1)
theorem nest_use {w : Cond} {A : Array Value} {U : State} (h : NestOK U) (hw : w ∈ nestW) : w.before A U = true := va_Nw.use (nest_tab (List.mem_filter.mp hw).2) (h w hw)
-- a memory: a cell's number, a place, its int
def upd2 (M : Nat → Nat → Int32) (c k : Nat) (v : Int32) : Nat → Nat → Int32 := fun a => if a = c then upd (M a) k v else M a
theorem upd2_at (M : Nat → Nat → Int32) (c k : Nat) (v : Int32) (a b : Nat) : upd2 M c k v a b = if a = c ∧ b = k then v else M a b := by
  unfold upd2 upd
  by_cases h : a = c
  · rw [if_pos h]
    by_cases h2 : b = k
    · rw [if_pos h2, if_pos ⟨h, h2⟩]
    · rw [if_neg h2, if_neg (fun q => h2 q.2)]
  · rw [if_neg h, if_neg (fun q => h q.1)]
theorem upd2_c (M : Nat → Nat → Int32) (c k : Nat) (v : Int32) : upd2 M c k v c = upd (M c) k v := by unfold upd2; rw [if_pos rfl]
theorem upd2_n (M : Nat → Nat → Int32) (k : Nat) (v : Int32) {a c : Nat} (h : a ≠ c) : upd2 M c k v a = M a := by unfold upd2; rw [if_neg h]
-- the shapes of the pure texts
def jn {α β : Type} (k : α) (f : α → β) : β := f k
def lt {α β : Type} (k : α) (f : α → β) : β := f k
def bd {α β γ : Type} (o : Option (α × β)) (f : α → β → Option γ) : Option γ := match o with
  | none => none
  | some q => f q.1 q.2
def bo {α γ : Type} (o : Option α) (f : α → Option γ) : Option γ := match o with
  | none => none
  | some q => f q
abbrev inb (i : Int32) (n : Nat) : Prop := 0 ≤ i.toInt ∧ i.toInt < (n : Int)
abbrev bo01 (v : Int32) : Prop := v = 0 ∨ v = 1
theorem bd_use {α β γ : Type} {o : Option (α × β)} {f : α → β → Option γ} {r : γ} (h : bd o f = some r) : ∃ a b, o = some (a, b) ∧ f a b = some r := by
  cases o with
  | none => cases h
  | some q => exact ⟨q.1, q.2, rfl, h⟩
theorem bo_use {α γ : Type} {o : Option α} {f : α → Option γ} {r : γ} (h : bo o f = some r) : ∃ a, o = some a ∧ f a = some r := by
  cases o with
  | none => cases h
  | some q => exact ⟨q, rfl, h⟩
theorem jn_use {α β : Type} {k : α} {f : α → Option β} {r : β} (h : jn k f = some r) : ∃ J, J = k ∧ f J = some r := ⟨k, rfl, h⟩
theorem lt_use {α β : Type} {k y : α} {f : α → Option β} {r : β} (e : y = k) (h : lt k f = some r) : f y = some r := by subst e; exact h
theorem if_use {c : Prop} [Decidable c] {α : Type} {A : Option α} {r : α} (h : (if c then A else none) = some r) : c ∧ A = some r := by
  by_cases q : c
  · rw [if_pos q] at h; exact ⟨q, h⟩
  · rw [if_neg q] at h; cases h
theorem ifn_use {c : Prop} [Decidable c] {α : Type} {A : Option α} {r : α} (h : (if c then none else A) = some r) : ¬ c ∧ A = some r := by
  by_cases q : c
  · rw [if_pos q] at h; cases h
  · rw [if_neg q] at h; exact ⟨q, h⟩
theorem ife_t {c : Prop} [Decidable c] {α : Type} {A B : Option α} {r : α} (q : c) (h : (if c then A else B) = some r) : A = some r := (if_pos q).symm.trans h
theorem ife_f {c : Prop} [Decidable c] {α : Type} {A B : Option α} {r : α} (q : ¬ c) (h : (if c then A else B) = some r) : B = some r := (if_neg q).symm.trans h
theorem exK {σ R : Type} {Lp : σ → Option R} {k : σ} {r : R} (h : Lp k = some r) : ∃ K, K = k ∧ Lp K = some r := ⟨k, rfl, h⟩
theorem useK1 {a : Type} {R : Type} {K k : a → R} (e : K = k) {x : a} {r : R} (h : K x = r) : k x = r := by subst e; exact h
theorem useK2 {a b : Type} {R : Type} {K k : a → b → R} (e : K = k) {x : a} {y : b} {r : R} (h : K x y = r) : k x y = r := by subst e; exact h
theorem useK3 {a b c : Type} {R : Type} {K k : a → b → c → R} (e : K = k) {x : a} {y : b} {z : c} {r : R} (h : K x y z = r) : k x y z = r := by subst e; exact h
theorem useK4 {a b c d : Type} {R : Type} {K k : a → b → c → d → R} (e : K = k) {x : a} {y : b} {z : c} {w : d} {r : R} (h : K x y z w = r) : k x y z w = r := by subst e; exact h
theorem useK5 {a b c d f : Type} {R : Type} {K k : a → b → c → d → f → R} (e : K = k) {x : a} {y : b} {z : c} {w : d} {v : f} {r : R} (h : K x y z w v = r) : k x y z w v = r := by subst e; exact h
theorem useK6 {a b c d f g : Type} {R : Type} {K k : a → b → c → d → f → g → R} (e : K = k) {x : a} {y : b} {z : c} {w : d} {v : f} {u : g} {r : R} (h : K x y z w v u = r) : k x y z w v u = r := by subst e; exact h
theorem useK7 {a b c d f g i : Type} {R : Type} {K k : a → b → c → d → f → g → i → R} (e : K = k) {x : a} {y : b} {z : c} {w : d} {v : f} {u : g} {t : i} {r : R} (h : K x y z w v u t = r) : k x y z w v u t = r := by subst e; exact h
theorem inb_vp {i : Int32} {n : Nat} (h : inb i n) : vp_in i n := vp_in_iff.mpr h
theorem narrow_b01 {v : Int32} (h : bo01 v) : narrow .boolean (.int v) = .int v := by
  rcases h with rfl | rfl <;> rfl
theorem fits_b01 {v : Int32} (h : bo01 v) : fits .boolean (.int v) = true := by
  rcases h with rfl | rfl <;> rfl

section GC
variable {p : Program} {l : Launch} {e : Env} {R : Room} {s : State} {m : MethodId} {args : Array Value} {below : List Frame} {meth : Method} {c : Code} {H : Heap} {locs : List Loc} {cells slots : Nat} {Q : State → Prop}
variable {cc : ByteArray} {pc nL : Nat} {ls : Array Slot} {rest st0 : List Value} {A : Nat → Prop} {H0 : Heap} {own : String}
/-- a world of memories of a kind, and what stays -/
def gI {S : Type} (Wd : S → Heap → Prop) (Kn : State → Prop) (M : S) (U : State) : Prop := Wd M U.heap ∧ Kn U
def knB (Kn : State → Prop) : Prop := ∀ (a : Array Value) (U : State) (g : JFrame) (mk : MethodId), Kn U → Kn (U.calling g mk a)
def knW (Kn : State → Prop) (s : State) : Prop := ∀ U : State, s.WarmedH U.vm → Kn U
/-- what a method that is called is, but for its link -/
def gCK (y : MethodName) (bytes : ByteArray) (maxL : Nat) (ret : Option FieldType) (n : Nat) : Prop := Cond.code y bytes maxL ret ∈ lw_good ∧ Cond.initialized y.cls ∈ lw_good ∧ (y.cls ≠ "java/lang/invoke/MethodHandle" ∧ y.cls ≠ "java/lang/invoke/VarHandle") ∧ (parseMethodDescriptor y.desc).map (fun d => d.parameters.length) = some n
theorem gCK_len {y : MethodName} {bytes : ByteArray} {maxL : Nat} {ret : Option FieldType} {n : Nat} (h : gCK y bytes maxL ret n) : ∀ sig, parseMethodDescriptor y.desc = some sig → n = sig.parameters.length := by
  intro sig hs
  have h2 := h.2.2.2
  rw [hs] at h2
  exact (Option.some.inj h2).symm
theorem gc_blind {S : Type} {Wd : S → Heap → Prop} {Kn : State → Prop} (hB : knB Kn) (M : S) (av : List Value) : FrameBlind (va_Pc av (gI Wd Kn M)) := fun a U g mk q => ⟨q.1, q.2.1, hB a U g mk q.2.2⟩
abbrev gFix (p : Program) (c : Code) (cc : ByteArray) (nL : Nat) (s : State) (m : MethodId) (args : Array Value) (own : String) : Prop := p.tables.exec = Jvm.exec ∧ c.code = cc ∧ c.maxLocals = nL ∧ s.vm.findClass own = some m.cls ∧ ∀ w ∈ lw_good, w.before args s = true
theorem gc_B {y : MethodName} {bytes : ByteArray} {maxL n index : Nat} {ret : Option FieldType} {rm : Room} (F : gFix p c cc nL s m args own) (ck : gCK y bytes maxL ret n) (hl : Cond.methodLink own index y ∈ lw_good) (hR : rm.frames + 1 ≤ R.frames ∧ 8 + (maxL + 11) + rm.locals ≤ R.locals) (hc : rm.cells = 0) (hs : rm.slots = 0) : CallB R s args own index y bytes maxL ret (wsA y bytes maxL ret) rm 0 0 n :=
  ⟨hc, hs, hR.1, hR.2, pay_in F.2.2.2.2 (wsA_good ck.1), List.mem_cons_self, F.2.2.2.2 _ ck.1, F.2.2.2.2 _ ck.2.1, ck.2.2.1, gCK_len ck, F.2.2.2.2 _ hl⟩
theorem gc_N {y : MethodName} {bytes : ByteArray} {maxL n index : Nat} {ret : Option FieldType} {rm : Room} {host : String} (F : gFix p c cc nL s m args own) (hN : NestOK s) (ck : gCK y bytes maxL ret n) (hl : Cond.methodLinkNest own index y host ∈ nestW) (hR : rm.frames + 1 ≤ R.frames ∧ 8 + (maxL + 11) + rm.locals ≤ R.locals) (hc : rm.cells = 0) (hs : rm.slots = 0) : va_CN R s args own index y host bytes maxL ret (wsA y bytes maxL ret) rm 0 0 n :=
  ⟨⟨hc, hs, hR.1, hR.2, pay_in F.2.2.2.2 (wsA_good ck.1), List.mem_cons_self⟩, F.2.2.2.2 _ ck.1, F.2.2.2.2 _ ck.2.1, ck.2.2.1, gCK_len ck, nest_use hN hl⟩
/-- behind a call that answers an int -/
theorem gc_i {S : Type} {Wd : S → Heap → Prop} {Kn : State → Prop} {a : Array Value} {r0 : Int32} {M1 : S} (hr : va_Run p l e R s m args below meth c H locs cells slots 0 0 (F0 m pc ls st0) rest (va_Qi (fun (r : Int32) (u : S) => r = r0 ∧ u = M1) (gI Wd Kn) A a) A) (hS : va_S A H0 H locs)
    (kk : ∀ (H : Heap) (locs : List Loc), Wd M1 H → va_S A H0 H locs → W p l e R s m args below meth c H locs cells slots Q (F0 m (pc + 3) ls (.int r0 :: rest))) : W p l e R s m args below meth c H locs cells slots Q (F0 m pc ls st0) :=
  va_calli hr hS (fun _ _ h => h) (fun _ h => h) (fun r u t H1 locs1 ht _ hw hB _ _ hS1 => by
    obtain ⟨rfl, rfl⟩ := hw
    exact kk H1 locs1 (ht ▸ hB.1) hS1)
theorem gc_v {S : Type} {Wd : S → Heap → Prop} {Kn : State → Prop} {a : Array Value} {M1 : S} (hr : va_Run p l e R s m args below meth c H locs cells slots 0 0 (F0 m pc ls st0) rest (va_Qv (fun u : S => u = M1) (gI Wd Kn) A a) A) (hS : va_S A H0 H locs)
    (kk : ∀ (H : Heap) (locs : List Loc), Wd M1 H → va_S A H0 H locs → W p l e R s m args below meth c H locs cells slots Q (F0 m (pc + 3) ls rest)) : W p l e R s m args below meth c H locs cells slots Q (F0 m pc ls st0) :=
  va_callv hr hS (fun _ _ h => h) (fun _ h => h) (fun u t H1 locs1 ht _ hw hB _ _ hS1 => by
    subst hw
    exact kk H1 locs1 (ht ▸ hB.1) hS1)
theorem gp_V {S : Type} {Wd : S → Heap → Prop} {Kn : State → Prop} {C : String} {b : Addr} {As : List Value} {M : S} (hB : knB Kn) (hW : knW Kn s) (hM : Wd M H) (hrecv : ∃ cell : Cell, H[b]? = some cell ∧ cell.vm.isStatics = false ∧ s.vm.findClass C = some cell.cls) : PreV s H C b (va_Pc (.ref b :: As) (gI Wd Kn M)) As :=
  ⟨gc_blind hB M _, hrecv, fun U hU hWU => ⟨rfl, by rw [hU]; exact hM, hW U hWU⟩⟩
theorem gp_S {S : Type} {Wd : S → Heap → Prop} {Kn : State → Prop} {As : List Value} {M : S} (hB : knB Kn) (hW : knW Kn s) (hM : Wd M H) : PreS s H (va_Pc As (gI Wd Kn M)) As :=
  ⟨gc_blind hB M _, fun U hU hWU => ⟨rfl, by rw [hU]; exact hM, hW U hWU⟩⟩
end GC
end
section
def x_len : Nat → Nat := fun a => match a with
  | 2 => 240
  | 4 => 5
  | 5 => 8
  | 6 => 8
  | 7 => 8
  | 8 => 8
  | 9 => 8
  | 11 => 5
  | 12 => 8
  | 13 => 8
  | 14 => 8
  | 15 => 8
  | 16 => 8
  | 18 => 5
  | 19 => 8
  | 21 => 5
  | 22 => 8
  | 24 => 5
  | 25 => 8
  | 29 => 340
  | 31 => 34
  | 32 => 2
  | 34 => 6
  | 35 => 6
  | 37 => 15
  | 38 => 15
  | _ => 0
def x_cell (kI : ClassId) (ad : Nat → Nat) (c : Nat) (r : Nat → Int32) : va_E :=
  if c = 0 then .inr (7, [.ref (ad 1), .ref (ad 3), .ref (ad 10), .ref (ad 17), .ref (ad 20), .ref (ad 23), .ref (ad 26), .ref (ad 27), .ref (ad 30), .ref (ad 32), .int (r 10), .int (r 11), .ref (ad 33), .ref (ad 36)]) else
  if c = 1 then .inr (2, [.ref (ad (c + 1)), .int (r 1), .int (r 2), .int (r 3), .int (r 4), .int (r 5), .int (r 6)]) else
  if c = 3 ∨ c = 10 then .inr (1, [.int (r 0), .int (r 1), .int (r 2), .int (r 3), .ref (ad (c + 1)), .ref (ad (c + 2)), .ref (ad (c + 3)), .ref (ad (c + 4)), .ref (ad (c + 5)), .ref (ad (c + 6))]) else
  if c = 17 ∨ c = 20 ∨ c = 23 then .inr (3, [.ref (ad (c + 1)), .ref (ad (c + 2)), .int (r 2), .int (r 3), .int (r 4), .int (r 5)]) else
  if c = 26 then .inr (5, [.int (r 0), .int (r 1), .int (r 2)]) else
  if c = 27 then .inr (4, [.ref (ad (c + 1)), .int (r 1), .int (r 2)]) else
  if c = 28 ∨ c = 30 then .inr (6, [.ref (ad (c + 1))]) else
  if c = 33 ∨ c = 36 then .inr (0, [.ref (ad (c + 1)), .ref (ad (c + 2)), .int (r 2)]) else
  .inl (kI, x_len c, .inl r)
abbrev x_is7 (c : Nat) : Prop := c = 0
abbrev x_is2 (c : Nat) : Prop := c = 1
abbrev x_is1 (c : Nat) : Prop := c = 3 ∨ c = 10
abbrev x_is3 (c : Nat) : Prop := c = 17 ∨ c = 20 ∨ c = 23
abbrev x_is5 (c : Nat) : Prop := c = 26
abbrev x_is4 (c : Nat) : Prop := c = 27
abbrev x_is6 (c : Nat) : Prop := c = 28 ∨ c = 30
abbrev x_is0 (c : Nat) : Prop := c = 33 ∨ c = 36
abbrev x_arr (c : Nat) : Prop := c < 39 ∧ ¬ c = 0 ∧ ¬ c = 1 ∧ ¬ c = 3 ∧ ¬ c = 10 ∧ ¬ c = 17 ∧ ¬ c = 20 ∧ ¬ c = 23 ∧ ¬ c = 26 ∧ ¬ c = 27 ∧ ¬ c = 28 ∧ ¬ c = 30 ∧ ¬ c = 33 ∧ ¬ c = 36
def x_w (kI : ClassId) (ad : Nat → Nat) (M : Nat → Nat → Int32) : va_W := (List.range 39).map (fun c => (ad c, x_cell kI ad c (M c)))
theorem x_at {kI : ClassId} {ad : Nat → Nat} {M : Nat → Nat → Int32} {c : Nat} (h : c < 39) : (x_w kI ad M)[c]? = some (ad c, x_cell kI ad c (M c)) := by
  unfold x_w
  rw [List.getElem?_map, List.getElem?_range h]
  rfl
theorem x_set {kI : ClassId} {ad : Nat → Nat} {M : Nat → Nat → Int32} {M2 : Nat → Nat → Int32} {c : Nat} {e : va_E} (h : c < 39) (h1 : x_cell kI ad c (M2 c) = e) (h2 : ∀ j, j ≠ c → x_cell kI ad j (M2 j) = x_cell kI ad j (M j)) : (x_w kI ad M).set c (ad c, e) = x_w kI ad M2 := by
  refine List.ext_getElem? fun j => ?_
  rw [List.getElem?_set]
  by_cases hj : c = j
  · subst hj
    rw [if_pos rfl, if_pos (by simp [x_w]; exact h), x_at h, h1]
  · rw [if_neg hj]
    rcases Nat.lt_or_ge j 39 with q | q
    · rw [x_at q, x_at q, h2 j (fun z => hj z.symm)]
    · rw [List.getElem?_eq_none (by simp [x_w]; exact q), List.getElem?_eq_none (by simp [x_w]; exact q)]
theorem x_at7 {kI : ClassId} {ad : Nat → Nat} {M : Nat → Nat → Int32} {c : Nat} (h : x_is7 c) : (x_w kI ad M)[c]? = some (ad c, .inr (7, [.ref (ad 1), .ref (ad 3), .ref (ad 10), .ref (ad 17), .ref (ad 20), .ref (ad 23), .ref (ad 26), .ref (ad 27), .ref (ad 30), .ref (ad 32), .int (M c 10), .int (M c 11), .ref (ad 33), .ref (ad 36)])) := by
  subst h
  exact x_at (Nat.le_of_ble_eq_true rfl)
theorem x_put7_10 {kI : ClassId} {ad : Nat → Nat} {M : Nat → Nat → Int32} {c : Nat} (h : x_is7 c) (v : Int32) : (x_w kI ad M).set c (ad c, .inr (7, [.ref (ad 1), .ref (ad 3), .ref (ad 10), .ref (ad 17), .ref (ad 20), .ref (ad 23), .ref (ad 26), .ref (ad 27), .ref (ad 30), .ref (ad 32), .int (M c 10), .int (M c 11), .ref (ad 33), .ref (ad 36)].set 10 (.int v))) = x_w kI ad (upd2 M c 10 v) := by
  subst h
  · refine x_set (Nat.le_of_ble_eq_true rfl) ?_ (fun j hj => by rw [upd2_n M 10 v hj])
    rw [upd2_c]
    rfl
theorem x_put7_11 {kI : ClassId} {ad : Nat → Nat} {M : Nat → Nat → Int32} {c : Nat} (h : x_is7 c) (v : Int32) : (x_w kI ad M).set c (ad c, .inr (7, [.ref (ad 1), .ref (ad 3), .ref (ad 10), .ref (ad 17), .ref (ad 20), .ref (ad 23), .ref (ad 26), .ref (ad 27), .ref (ad 30), .ref (ad 32), .int (M c 10), .int (M c 11), .ref (ad 33), .ref (ad 36)].set 11 (.int v))) = x_w kI ad (upd2 M c 11 v) := by
  subst h
  · refine x_set (Nat.le_of_ble_eq_true rfl) ?_ (fun j hj => by rw [upd2_n M 11 v hj])
    rw [upd2_c]
    rfl
theorem x_at2 {kI : ClassId} {ad : Nat → Nat} {M : Nat → Nat → Int32} {c : Nat} (h : x_is2 c) : (x_w kI ad M)[c]? = some (ad c, .inr (2, [.ref (ad (c + 1)), .int (M c 1), .int (M c 2), .int (M c 3), .int (M c 4), .int (M c 5), .int (M c 6)])) := by
  subst h
  exact x_at (Nat.le_of_ble_eq_true rfl)
theorem x_put2_1 {kI : ClassId} {ad : Nat → Nat} {M : Nat → Nat → Int32} {c : Nat} (h : x_is2 c) (v : Int32) : (x_w kI ad M).set c (ad c, .inr (2, [.ref (ad (c + 1)), .int (M c 1), .int (M c 2), .int (M c 3), .int (M c 4), .int (M c 5), .int (M c 6)].set 1 (.int v))) = x_w kI ad (upd2 M c 1 v) := by
  subst h
  · refine x_set (Nat.le_of_ble_eq_true rfl) ?_ (fun j hj => by rw [upd2_n M 1 v hj])
    rw [upd2_c]
    rfl
theorem x_put2_2 {kI : ClassId} {ad : Nat → Nat} {M : Nat → Nat → Int32} {c : Nat} (h : x_is2 c) (v : Int32) : (x_w kI ad M).set c (ad c, .inr (2, [.ref (ad (c + 1)), .int (M c 1), .int (M c 2), .int (M c 3), .int (M c 4), .int (M c 5), .int (M c 6)].set 2 (.int v))) = x_w kI ad (upd2 M c 2 v) := by
  subst h
  · refine x_set (Nat.le_of_ble_eq_true rfl) ?_ (fun j hj => by rw [upd2_n M 2 v hj])
    rw [upd2_c]
    rfl
theorem x_put2_3 {kI : ClassId} {ad : Nat → Nat} {M : Nat → Nat → Int32} {c : Nat} (h : x_is2 c) (v : Int32) : (x_w kI ad M).set c (ad c, .inr (2, [.ref (ad (c + 1)), .int (M c 1), .int (M c 2), .int (M c 3), .int (M c 4), .int (M c 5), .int (M c 6)].set 3 (.int v))) = x_w kI ad (upd2 M c 3 v) := by
  subst h
  · refine x_set (Nat.le_of_ble_eq_true rfl) ?_ (fun j hj => by rw [upd2_n M 3 v hj])
    rw [upd2_c]
    rfl
theorem x_put2_4 {kI : ClassId} {ad : Nat → Nat} {M : Nat → Nat → Int32} {c : Nat} (h : x_is2 c) (v : Int32) : (x_w kI ad M).set c (ad c, .inr (2, [.ref (ad (c + 1)), .int (M c 1), .int (M c 2), .int (M c 3), .int (M c 4), .int (M c 5), .int (M c 6)].set 4 (.int v))) = x_w kI ad (upd2 M c 4 v) := by
  subst h
  · refine x_set (Nat.le_of_ble_eq_true rfl) ?_ (fun j hj => by rw [upd2_n M 4 v hj])
    rw [upd2_c]
    rfl
theorem x_put2_5 {kI : ClassId} {ad : Nat → Nat} {M : Nat → Nat → Int32} {c : Nat} (h : x_is2 c) (v : Int32) : (x_w kI ad M).set c (ad c, .inr (2, [.ref (ad (c + 1)), .int (M c 1), .int (M c 2), .int (M c 3), .int (M c 4), .int (M c 5), .int (M c 6)].set 5 (.int v))) = x_w kI ad (upd2 M c 5 v) := by
  subst h
  · refine x_set (Nat.le_of_ble_eq_true rfl) ?_ (fun j hj => by rw [upd2_n M 5 v hj])
    rw [upd2_c]
    rfl
theorem x_put2_6 {kI : ClassId} {ad : Nat → Nat} {M : Nat → Nat → Int32} {c : Nat} (h : x_is2 c) (v : Int32) : (x_w kI ad M).set c (ad c, .inr (2, [.ref (ad (c + 1)), .int (M c 1), .int (M c 2), .int (M c 3), .int (M c 4), .int (M c 5), .int (M c 6)].set 6 (.int v))) = x_w kI ad (upd2 M c 6 v) := by
  subst h
  · refine x_set (Nat.le_of_ble_eq_true rfl) ?_ (fun j hj => by rw [upd2_n M 6 v hj])
    rw [upd2_c]
    rfl
theorem x_at1 {kI : ClassId} {ad : Nat → Nat} {M : Nat → Nat → Int32} {c : Nat} (h : x_is1 c) : (x_w kI ad M)[c]? = some (ad c, .inr (1, [.int (M c 0), .int (M c 1), .int (M c 2), .int (M c 3), .ref (ad (c + 1)), .ref (ad (c + 2)), .ref (ad (c + 3)), .ref (ad (c + 4)), .ref (ad (c + 5)), .ref (ad (c + 6))])) := by
  rcases h with rfl | rfl <;> exact x_at (Nat.le_of_ble_eq_true rfl)
theorem x_put1_0 {kI : ClassId} {ad : Nat → Nat} {M : Nat → Nat → Int32} {c : Nat} (h : x_is1 c) (v : Int32) : (x_w kI ad M).set c (ad c, .inr (1, [.int (M c 0), .int (M c 1), .int (M c 2), .int (M c 3), .ref (ad (c + 1)), .ref (ad (c + 2)), .ref (ad (c + 3)), .ref (ad (c + 4)), .ref (ad (c + 5)), .ref (ad (c + 6))].set 0 (.int v))) = x_w kI ad (upd2 M c 0 v) := by
  rcases h with rfl | rfl
  · refine x_set (Nat.le_of_ble_eq_true rfl) ?_ (fun j hj => by rw [upd2_n M 0 v hj])
    rw [upd2_c]
    rfl
  · refine x_set (Nat.le_of_ble_eq_true rfl) ?_ (fun j hj => by rw [upd2_n M 0 v hj])
    rw [upd2_c]
    rfl
theorem x_put1_1 {kI : ClassId} {ad : Nat → Nat} {M : Nat → Nat → Int32} {c : Nat} (h : x_is1 c) (v : Int32) : (x_w kI ad M).set c (ad c, .inr (1, [.int (M c 0), .int (M c 1), .int (M c 2), .int (M c 3), .ref (ad (c + 1)), .ref (ad (c + 2)), .ref (ad (c + 3)), .ref (ad (c + 4)), .ref (ad (c + 5)), .ref (ad (c + 6))].set 1 (.int v))) = x_w kI ad (upd2 M c 1 v) := by
  rcases h with rfl | rfl
  · refine x_set (Nat.le_of_ble_eq_true rfl) ?_ (fun j hj => by rw [upd2_n M 1 v hj])
    rw [upd2_c]
    rfl
  · refine x_set (Nat.le_of_ble_eq_true rfl) ?_ (fun j hj => by rw [upd2_n M 1 v hj])
    rw [upd2_c]
    rfl
theorem x_put1_2 {kI : ClassId} {ad : Nat → Nat} {M : Nat → Nat → Int32} {c : Nat} (h : x_is1 c) (v : Int32) : (x_w kI ad M).set c (ad c, .inr (1, [.int (M c 0), .int (M c 1), .int (M c 2), .int (M c 3), .ref (ad (c + 1)), .ref (ad (c + 2)), .ref (ad (c + 3)), .ref (ad (c + 4)), .ref (ad (c + 5)), .ref (ad (c + 6))].set 2 (.int v))) = x_w kI ad (upd2 M c 2 v) := by
  rcases h with rfl | rfl
  · refine x_set (Nat.le_of_ble_eq_true rfl) ?_ (fun j hj => by rw [upd2_n M 2 v hj])
    rw [upd2_c]
    rfl
  · refine x_set (Nat.le_of_ble_eq_true rfl) ?_ (fun j hj => by rw [upd2_n M 2 v hj])
    rw [upd2_c]
    rfl
theorem x_put1_3 {kI : ClassId} {ad : Nat → Nat} {M : Nat → Nat → Int32} {c : Nat} (h : x_is1 c) (v : Int32) : (x_w kI ad M).set c (ad c, .inr (1, [.int (M c 0), .int (M c 1), .int (M c 2), .int (M c 3), .ref (ad (c + 1)), .ref (ad (c + 2)), .ref (ad (c + 3)), .ref (ad (c + 4)), .ref (ad (c + 5)), .ref (ad (c + 6))].set 3 (.int v))) = x_w kI ad (upd2 M c 3 v) := by
  rcases h with rfl | rfl
  · refine x_set (Nat.le_of_ble_eq_true rfl) ?_ (fun j hj => by rw [upd2_n M 3 v hj])
    rw [upd2_c]
    rfl
  · refine x_set (Nat.le_of_ble_eq_true rfl) ?_ (fun j hj => by rw [upd2_n M 3 v hj])
    rw [upd2_c]
    rfl
theorem x_at3 {kI : ClassId} {ad : Nat → Nat} {M : Nat → Nat → Int32} {c : Nat} (h : x_is3 c) : (x_w kI ad M)[c]? = some (ad c, .inr (3, [.ref (ad (c + 1)), .ref (ad (c + 2)), .int (M c 2), .int (M c 3), .int (M c 4), .int (M c 5)])) := by
  rcases h with rfl | rfl | rfl <;> exact x_at (Nat.le_of_ble_eq_true rfl)
theorem x_put3_2 {kI : ClassId} {ad : Nat → Nat} {M : Nat → Nat → Int32} {c : Nat} (h : x_is3 c) (v : Int32) : (x_w kI ad M).set c (ad c, .inr (3, [.ref (ad (c + 1)), .ref (ad (c + 2)), .int (M c 2), .int (M c 3), .int (M c 4), .int (M c 5)].set 2 (.int v))) = x_w kI ad (upd2 M c 2 v) := by
  rcases h with rfl | rfl | rfl
  · refine x_set (Nat.le_of_ble_eq_true rfl) ?_ (fun j hj => by rw [upd2_n M 2 v hj])
    rw [upd2_c]
    rfl
  · refine x_set (Nat.le_of_ble_eq_true rfl) ?_ (fun j hj => by rw [upd2_n M 2 v hj])
    rw [upd2_c]
    rfl
  · refine x_set (Nat.le_of_ble_eq_true rfl) ?_ (fun j hj => by rw [upd2_n M 2 v hj])
    rw [upd2_c]
    rfl
theorem x_put3_3 {kI : ClassId} {ad : Nat → Nat} {M : Nat → Nat → Int32} {c : Nat} (h : x_is3 c) (v : Int32) : (x_w kI ad M).set c (ad c, .inr (3, [.ref (ad (c + 1)), .ref (ad (c + 2)), .int (M c 2), .int (M c 3), .int (M c 4), .int (M c 5)].set 3 (.int v))) = x_w kI ad (upd2 M c 3 v) := by
  rcases h with rfl | rfl | rfl
  · refine x_set (Nat.le_of_ble_eq_true rfl) ?_ (fun j hj => by rw [upd2_n M 3 v hj])
    rw [upd2_c]
    rfl
  · refine x_set (Nat.le_of_ble_eq_true rfl) ?_ (fun j hj => by rw [upd2_n M 3 v hj])
    rw [upd2_c]
    rfl
  · refine x_set (Nat.le_of_ble_eq_true rfl) ?_ (fun j hj => by rw [upd2_n M 3 v hj])
    rw [upd2_c]
    rfl
theorem x_put3_4 {kI : ClassId} {ad : Nat → Nat} {M : Nat → Nat → Int32} {c : Nat} (h : x_is3 c) (v : Int32) : (x_w kI ad M).set c (ad c, .inr (3, [.ref (ad (c + 1)), .ref (ad (c + 2)), .int (M c 2), .int (M c 3), .int (M c 4), .int (M c 5)].set 4 (.int v))) = x_w kI ad (upd2 M c 4 v) := by
  rcases h with rfl | rfl | rfl
  · refine x_set (Nat.le_of_ble_eq_true rfl) ?_ (fun j hj => by rw [upd2_n M 4 v hj])
    rw [upd2_c]
    rfl
  · refine x_set (Nat.le_of_ble_eq_true rfl) ?_ (fun j hj => by rw [upd2_n M 4 v hj])
    rw [upd2_c]
    rfl
  · refine x_set (Nat.le_of_ble_eq_true rfl) ?_ (fun j hj => by rw [upd2_n M 4 v hj])
    rw [upd2_c]
    rfl
theorem x_put3_5 {kI : ClassId} {ad : Nat → Nat} {M : Nat → Nat → Int32} {c : Nat} (h : x_is3 c) (v : Int32) : (x_w kI ad M).set c (ad c, .inr (3, [.ref (ad (c + 1)), .ref (ad (c + 2)), .int (M c 2), .int (M c 3), .int (M c 4), .int (M c 5)].set 5 (.int v))) = x_w kI ad (upd2 M c 5 v) := by
  rcases h with rfl | rfl | rfl
  · refine x_set (Nat.le_of_ble_eq_true rfl) ?_ (fun j hj => by rw [upd2_n M 5 v hj])
    rw [upd2_c]
    rfl
  · refine x_set (Nat.le_of_ble_eq_true rfl) ?_ (fun j hj => by rw [upd2_n M 5 v hj])
    rw [upd2_c]
    rfl
  · refine x_set (Nat.le_of_ble_eq_true rfl) ?_ (fun j hj => by rw [upd2_n M 5 v hj])
    rw [upd2_c]
    rfl
theorem x_at5 {kI : ClassId} {ad : Nat → Nat} {M : Nat → Nat → Int32} {c : Nat} (h : x_is5 c) : (x_w kI ad M)[c]? = some (ad c, .inr (5, [.int (M c 0), .int (M c 1), .int (M c 2)])) := by
  subst h
  exact x_at (Nat.le_of_ble_eq_true rfl)
theorem x_put5_0 {kI : ClassId} {ad : Nat → Nat} {M : Nat → Nat → Int32} {c : Nat} (h : x_is5 c) (v : Int32) : (x_w kI ad M).set c (ad c, .inr (5, [.int (M c 0), .int (M c 1), .int (M c 2)].set 0 (.int v))) = x_w kI ad (upd2 M c 0 v) := by
  subst h
  · refine x_set (Nat.le_of_ble_eq_true rfl) ?_ (fun j hj => by rw [upd2_n M 0 v hj])
    rw [upd2_c]
    rfl
theorem x_put5_1 {kI : ClassId} {ad : Nat → Nat} {M : Nat → Nat → Int32} {c : Nat} (h : x_is5 c) (v : Int32) : (x_w kI ad M).set c (ad c, .inr (5, [.int (M c 0), .int (M c 1), .int (M c 2)].set 1 (.int v))) = x_w kI ad (upd2 M c 1 v) := by
  subst h
  · refine x_set (Nat.le_of_ble_eq_true rfl) ?_ (fun j hj => by rw [upd2_n M 1 v hj])
    rw [upd2_c]
    rfl
theorem x_put5_2 {kI : ClassId} {ad : Nat → Nat} {M : Nat → Nat → Int32} {c : Nat} (h : x_is5 c) (v : Int32) : (x_w kI ad M).set c (ad c, .inr (5, [.int (M c 0), .int (M c 1), .int (M c 2)].set 2 (.int v))) = x_w kI ad (upd2 M c 2 v) := by
  subst h
  · refine x_set (Nat.le_of_ble_eq_true rfl) ?_ (fun j hj => by rw [upd2_n M 2 v hj])
    rw [upd2_c]
    rfl
theorem x_at4 {kI : ClassId} {ad : Nat → Nat} {M : Nat → Nat → Int32} {c : Nat} (h : x_is4 c) : (x_w kI ad M)[c]? = some (ad c, .inr (4, [.ref (ad (c + 1)), .int (M c 1), .int (M c 2)])) := by
  subst h
  exact x_at (Nat.le_of_ble_eq_true rfl)
theorem x_put4_1 {kI : ClassId} {ad : Nat → Nat} {M : Nat → Nat → Int32} {c : Nat} (h : x_is4 c) (v : Int32) : (x_w kI ad M).set c (ad c, .inr (4, [.ref (ad (c + 1)), .int (M c 1), .int (M c 2)].set 1 (.int v))) = x_w kI ad (upd2 M c 1 v) := by
  subst h
  · refine x_set (Nat.le_of_ble_eq_true rfl) ?_ (fun j hj => by rw [upd2_n M 1 v hj])
    rw [upd2_c]
    rfl
theorem x_put4_2 {kI : ClassId} {ad : Nat → Nat} {M : Nat → Nat → Int32} {c : Nat} (h : x_is4 c) (v : Int32) : (x_w kI ad M).set c (ad c, .inr (4, [.ref (ad (c + 1)), .int (M c 1), .int (M c 2)].set 2 (.int v))) = x_w kI ad (upd2 M c 2 v) := by
  subst h
  · refine x_set (Nat.le_of_ble_eq_true rfl) ?_ (fun j hj => by rw [upd2_n M 2 v hj])
    rw [upd2_c]
    rfl
theorem x_at6 {kI : ClassId} {ad : Nat → Nat} {M : Nat → Nat → Int32} {c : Nat} (h : x_is6 c) : (x_w kI ad M)[c]? = some (ad c, .inr (6, [.ref (ad (c + 1))])) := by
  rcases h with rfl | rfl <;> exact x_at (Nat.le_of_ble_eq_true rfl)
theorem x_at0 {kI : ClassId} {ad : Nat → Nat} {M : Nat → Nat → Int32} {c : Nat} (h : x_is0 c) : (x_w kI ad M)[c]? = some (ad c, .inr (0, [.ref (ad (c + 1)), .ref (ad (c + 2)), .int (M c 2)])) := by
  rcases h with rfl | rfl <;> exact x_at (Nat.le_of_ble_eq_true rfl)
theorem x_put0_2 {kI : ClassId} {ad : Nat → Nat} {M : Nat → Nat → Int32} {c : Nat} (h : x_is0 c) (v : Int32) : (x_w kI ad M).set c (ad c, .inr (0, [.ref (ad (c + 1)), .ref (ad (c + 2)), .int (M c 2)].set 2 (.int v))) = x_w kI ad (upd2 M c 2 v) := by
  rcases h with rfl | rfl
  · refine x_set (Nat.le_of_ble_eq_true rfl) ?_ (fun j hj => by rw [upd2_n M 2 v hj])
    rw [upd2_c]
    rfl
  · refine x_set (Nat.le_of_ble_eq_true rfl) ?_ (fun j hj => by rw [upd2_n M 2 v hj])
    rw [upd2_c]
    rfl
theorem x_cellA {kI : ClassId} {ad : Nat → Nat}  {c : Nat} (h : x_arr c) (r : Nat → Int32) : x_cell kI ad c r = .inl (kI, x_len c, .inl r) := by
  unfold x_cell
  rw [if_neg (by omega), if_neg (by omega), if_neg (by omega), if_neg (by omega), if_neg (by omega), if_neg (by omega), if_neg (by omega), if_neg (by omega)]
theorem x_atA {kI : ClassId} {ad : Nat → Nat} {M : Nat → Nat → Int32} {c : Nat} (h : x_arr c) : (x_w kI ad M)[c]? = some (ad c, .inl (kI, x_len c, .inl (M c))) := by rw [x_at h.1, x_cellA h]
theorem x_putA {kI : ClassId} {ad : Nat → Nat} {M : Nat → Nat → Int32} {c : Nat} (h : x_arr c) (k : Nat) (v : Int32) : (x_w kI ad M).set c (ad c, .inl (kI, x_len c, .inl (upd (M c) k v))) = x_w kI ad (upd2 M c k v) := x_set h.1 (by rw [upd2_c, x_cellA h]) (fun j hj => by rw [upd2_n M k v hj])
def x_A (ad : Nat → Nat) : Nat → Prop := fun q => ∃ c, c < 39 ∧ q = ad c
def ad_inj_x (ad : Nat → Nat) : Prop := ∀ i j : Nat, i < 39 → j < 39 → ad i = ad j → i = j
theorem x_D {kI : ClassId} {ad : Nat → Nat} {M : Nat → Nat → Int32} (h : ad_inj_x ad) : va_D (x_A ad) (x_w kI ad M) := by
  have hs : ∀ (i : Nat) (q : Nat × va_E), (x_w kI ad M)[i]? = some q → i < 39 ∧ q.1 = ad i := by
    intro i q hq
    rcases Nat.lt_or_ge i 39 with z | z
    · rw [x_at z] at hq
      cases hq
      exact ⟨z, rfl⟩
    · rw [List.getElem?_eq_none (by simp [x_w]; exact z)] at hq
      cases hq
  refine ⟨fun i j p q hp hq e => ?_, fun k q hq => ⟨k, (hs k q hq).1, (hs k q hq).2⟩⟩
  obtain ⟨a1, a2⟩ := hs i p hp
  obtain ⟨b1, b2⟩ := hs j q hq
  exact h i j a1 b1 (by rw [← a2, ← b2]; exact e)
def x_Kn (dC : Nat → ClassId) (dI : Nat → Nat → Nat) (kI : ClassId) (ad : Nat → Nat) (U : State) : Prop := va_K (dC, dI) vwCl [(kI, .int)] U ∧ ad_inj_x ad ∧ NestOK U
theorem x_KnB {dC : Nat → ClassId} {dI : Nat → Nat → Nat} {kI : ClassId} {ad : Nat → Nat} : knB (x_Kn dC dI kI ad) := fun a U g mk q => ⟨va_K.moved (u := U) (U := U.calling g mk a) (Vm.Alike.refl U.vm) q.1, q.2.1, nestOK_blind (s := U) (U := U.calling g mk a) rfl q.2.2⟩
theorem x_KnW {dC : Nat → ClassId} {dI : Nat → Nat → Nat} {kI : ClassId} {ad : Nat → Nat} {s : State} (h : x_Kn dC dI kI ad s) : knW (x_Kn dC dI kI ad) s := fun U hW => ⟨va_K.moved hW.alike h.1, h.2.1, nestOK_warm hW h.2.2⟩
abbrev x_Wd (dC : Nat → ClassId) (dI : Nat → Nat → Nat) (kI : ClassId) (ad : Nat → Nat) : (Nat → Nat → Int32) → Heap → Prop := fun M H => va_P (dC, dI) vwCl (x_w kI ad M) H
theorem x_rc7 {kI : ClassId} {ad : Nat → Nat} {M : Nat → Nat → Int32} {dC : Nat → ClassId} {dI : Nat → Nat → Nat} {s : State} {H : Heap} {c : Nat} (h : x_is7 c) (hK : x_Kn dC dI kI ad s) (hP : va_P (dC, dI) vwCl (x_w kI ad M) H) : ∃ cell : Cell, H[ad c]? = some cell ∧ cell.vm.isStatics = false ∧ s.vm.findClass RX7 = some cell.cls := va_recv hK.1 hP (ci := 7) (q0 := c) rfl (x_at7 h)
theorem x_rc2 {kI : ClassId} {ad : Nat → Nat} {M : Nat → Nat → Int32} {dC : Nat → ClassId} {dI : Nat → Nat → Nat} {s : State} {H : Heap} {c : Nat} (h : x_is2 c) (hK : x_Kn dC dI kI ad s) (hP : va_P (dC, dI) vwCl (x_w kI ad M) H) : ∃ cell : Cell, H[ad c]? = some cell ∧ cell.vm.isStatics = false ∧ s.vm.findClass RX2 = some cell.cls := va_recv hK.1 hP (ci := 2) (q0 := c) rfl (x_at2 h)
theorem x_rc1 {kI : ClassId} {ad : Nat → Nat} {M : Nat → Nat → Int32} {dC : Nat → ClassId} {dI : Nat → Nat → Nat} {s : State} {H : Heap} {c : Nat} (h : x_is1 c) (hK : x_Kn dC dI kI ad s) (hP : va_P (dC, dI) vwCl (x_w kI ad M) H) : ∃ cell : Cell, H[ad c]? = some cell ∧ cell.vm.isStatics = false ∧ s.vm.findClass RX1 = some cell.cls := va_recv hK.1 hP (ci := 1) (q0 := c) rfl (x_at1 h)
theorem x_rc3 {kI : ClassId} {ad : Nat → Nat} {M : Nat → Nat → Int32} {dC : Nat → ClassId} {dI : Nat → Nat → Nat} {s : State} {H : Heap} {c : Nat} (h : x_is3 c) (hK : x_Kn dC dI kI ad s) (hP : va_P (dC, dI) vwCl (x_w kI ad M) H) : ∃ cell : Cell, H[ad c]? = some cell ∧ cell.vm.isStatics = false ∧ s.vm.findClass RX3 = some cell.cls := va_recv hK.1 hP (ci := 3) (q0 := c) rfl (x_at3 h)
theorem x_rc5 {kI : ClassId} {ad : Nat → Nat} {M : Nat → Nat → Int32} {dC : Nat → ClassId} {dI : Nat → Nat → Nat} {s : State} {H : Heap} {c : Nat} (h : x_is5 c) (hK : x_Kn dC dI kI ad s) (hP : va_P (dC, dI) vwCl (x_w kI ad M) H) : ∃ cell : Cell, H[ad c]? = some cell ∧ cell.vm.isStatics = false ∧ s.vm.findClass RX5 = some cell.cls := va_recv hK.1 hP (ci := 5) (q0 := c) rfl (x_at5 h)
theorem x_rc4 {kI : ClassId} {ad : Nat → Nat} {M : Nat → Nat → Int32} {dC : Nat → ClassId} {dI : Nat → Nat → Nat} {s : State} {H : Heap} {c : Nat} (h : x_is4 c) (hK : x_Kn dC dI kI ad s) (hP : va_P (dC, dI) vwCl (x_w kI ad M) H) : ∃ cell : Cell, H[ad c]? = some cell ∧ cell.vm.isStatics = false ∧ s.vm.findClass RX4 = some cell.cls := va_recv hK.1 hP (ci := 4) (q0 := c) rfl (x_at4 h)
theorem x_rc6 {kI : ClassId} {ad : Nat → Nat} {M : Nat → Nat → Int32} {dC : Nat → ClassId} {dI : Nat → Nat → Nat} {s : State} {H : Heap} {c : Nat} (h : x_is6 c) (hK : x_Kn dC dI kI ad s) (hP : va_P (dC, dI) vwCl (x_w kI ad M) H) : ∃ cell : Cell, H[ad c]? = some cell ∧ cell.vm.isStatics = false ∧ s.vm.findClass RX6 = some cell.cls := va_recv hK.1 hP (ci := 6) (q0 := c) rfl (x_at6 h)
theorem x_rc0 {kI : ClassId} {ad : Nat → Nat} {M : Nat → Nat → Int32} {dC : Nat → ClassId} {dI : Nat → Nat → Nat} {s : State} {H : Heap} {c : Nat} (h : x_is0 c) (hK : x_Kn dC dI kI ad s) (hP : va_P (dC, dI) vwCl (x_w kI ad M) H) : ∃ cell : Cell, H[ad c]? = some cell ∧ cell.vm.isStatics = false ∧ s.vm.findClass RX0 = some cell.cls := va_recv hK.1 hP (ci := 0) (q0 := c) rfl (x_at0 h)
theorem x_ar2_1 {c : Nat} (h : x_is2 c) : x_arr (c + 1) := by subst h; decide
theorem x_ar1_1 {c : Nat} (h : x_is1 c) : x_arr (c + 1) := by rcases h with rfl | rfl <;> decide
theorem x_ar1_2 {c : Nat} (h : x_is1 c) : x_arr (c + 2) := by rcases h with rfl | rfl <;> decide
theorem x_ar1_3 {c : Nat} (h : x_is1 c) : x_arr (c + 3) := by rcases h with rfl | rfl <;> decide
theorem x_ar1_4 {c : Nat} (h : x_is1 c) : x_arr (c + 4) := by rcases h with rfl | rfl <;> decide
theorem x_ar1_5 {c : Nat} (h : x_is1 c) : x_arr (c + 5) := by rcases h with rfl | rfl <;> decide
theorem x_ar1_6 {c : Nat} (h : x_is1 c) : x_arr (c + 6) := by rcases h with rfl | rfl <;> decide
theorem x_ar3_1 {c : Nat} (h : x_is3 c) : x_arr (c + 1) := by rcases h with rfl | rfl | rfl <;> decide
theorem x_ar3_2 {c : Nat} (h : x_is3 c) : x_arr (c + 2) := by rcases h with rfl | rfl | rfl <;> decide
theorem x_ar6_1 {c : Nat} (h : x_is6 c) : x_arr (c + 1) := by rcases h with rfl | rfl <;> decide
theorem x_ar0_1 {c : Nat} (h : x_is0 c) : x_arr (c + 1) := by rcases h with rfl | rfl <;> decide
theorem x_ar0_2 {c : Nat} (h : x_is0 c) : x_arr (c + 2) := by rcases h with rfl | rfl <;> decide
def m_len : Nat → Nat := fun a => match a with
  | 1 => 50
  | 2 => 50
  | 3 => 17
  | 4 => 340
  | 5 => 36
  | 6 => 2
  | 7 => 240
  | 8 => 12
  | 9 => 30
  | 10 => 17
  | 11 => 17
  | 12 => 85
  | 13 => 5
  | 14 => 5
  | 15 => 5
  | _ => 0
def m_cell (kI kZ : ClassId) (ad : Nat → Nat) (L : Int64) (c : Nat) (r : Nat → Int32) : va_E :=
  if c = 0 then .inr (8, [.ref (ad 1), .ref (ad 2), .ref (ad 3), .ref (ad 4), .int (r 4), .ref (ad 5), .ref (ad 6), .long L, .ref (ad 7), .int (r 9), .int (r 10), .ref (ad 8), .int (r 12), .ref (ad 9), .int (r 14), .int (r 15), .int (r 16), .int (r 17), .int (r 18), .int (r 19), .int (r 20), .ref (ad 10), .ref (ad 11), .int (r 23), .int (r 24), .ref (ad 12), .ref (ad 13), .ref (ad 14), .ref (ad 15)]) else
  if c = 6 then .inl (kZ, 2, .inl r) else
  .inl (kI, m_len c, .inl r)
abbrev m_is8 (c : Nat) : Prop := c = 0
abbrev m_arr (c : Nat) : Prop := c < 16 ∧ ¬ c = 0 ∧ ¬ c = 6
def m_w (kI kZ : ClassId) (ad : Nat → Nat) (M : Nat → Nat → Int32) (L : Int64) : va_W := (List.range 16).map (fun c => (ad c, m_cell kI kZ ad L c (M c)))
theorem m_at {kI kZ : ClassId} {ad : Nat → Nat} {M : Nat → Nat → Int32} {L : Int64} {c : Nat} (h : c < 16) : (m_w kI kZ ad M L)[c]? = some (ad c, m_cell kI kZ ad L c (M c)) := by
  unfold m_w
  rw [List.getElem?_map, List.getElem?_range h]
  rfl
theorem m_set {kI kZ : ClassId} {ad : Nat → Nat} {M : Nat → Nat → Int32} {L : Int64} {M2 : Nat → Nat → Int32} {L2 : Int64} {c : Nat} {e : va_E} (h : c < 16) (h1 : m_cell kI kZ ad L2 c (M2 c) = e) (h2 : ∀ j, j ≠ c → m_cell kI kZ ad L2 j (M2 j) = m_cell kI kZ ad L j (M j)) : (m_w kI kZ ad M L).set c (ad c, e) = m_w kI kZ ad M2 L2 := by
  refine List.ext_getElem? fun j => ?_
  rw [List.getElem?_set]
  by_cases hj : c = j
  · subst hj
    rw [if_pos rfl, if_pos (by simp [m_w]; exact h), m_at h, h1]
  · rw [if_neg hj]
    rcases Nat.lt_or_ge j 16 with q | q
    · rw [m_at q, m_at q, h2 j (fun z => hj z.symm)]
    · rw [List.getElem?_eq_none (by simp [m_w]; exact q), List.getElem?_eq_none (by simp [m_w]; exact q)]
theorem m_at8 {kI kZ : ClassId} {ad : Nat → Nat} {M : Nat → Nat → Int32} {L : Int64} {c : Nat} (h : m_is8 c) : (m_w kI kZ ad M L)[c]? = some (ad c, .inr (8, [.ref (ad 1), .ref (ad 2), .ref (ad 3), .ref (ad 4), .int (M c 4), .ref (ad 5), .ref (ad 6), .long L, .ref (ad 7), .int (M c 9), .int (M c 10), .ref (ad 8), .int (M c 12), .ref (ad 9), .int (M c 14), .int (M c 15), .int (M c 16), .int (M c 17), .int (M c 18), .int (M c 19), .int (M c 20), .ref (ad 10), .ref (ad 11), .int (M c 23), .int (M c 24), .ref (ad 12), .ref (ad 13), .ref (ad 14), .ref (ad 15)])) := by
  subst h
  exact m_at (Nat.le_of_ble_eq_true rfl)
theorem m_put8_4 {kI kZ : ClassId} {ad : Nat → Nat} {M : Nat → Nat → Int32} {L : Int64} {c : Nat} (h : m_is8 c) (v : Int32) : (m_w kI kZ ad M L).set c (ad c, .inr (8, [.ref (ad 1), .ref (ad 2), .ref (ad 3), .ref (ad 4), .int (M c 4), .ref (ad 5), .ref (ad 6), .long L, .ref (ad 7), .int (M c 9), .int (M c 10), .ref (ad 8), .int (M c 12), .ref (ad 9), .int (M c 14), .int (M c 15), .int (M c 16), .int (M c 17), .int (M c 18), .int (M c 19), .int (M c 20), .ref (ad 10), .ref (ad 11), .int (M c 23), .int (M c 24), .ref (ad 12), .ref (ad 13), .ref (ad 14), .ref (ad 15)].set 4 (.int v))) = m_w kI kZ ad (upd2 M c 4 v) L := by
  subst h
  · refine m_set (Nat.le_of_ble_eq_true rfl) ?_ (fun j hj => by rw [upd2_n M 4 v hj])
    rw [upd2_c]
    rfl
theorem m_put8_7 {kI kZ : ClassId} {ad : Nat → Nat} {M : Nat → Nat → Int32} {L : Int64} {c : Nat} (h : m_is8 c) (v : Int64) : (m_w kI kZ ad M L).set c (ad c, .inr (8, [.ref (ad 1), .ref (ad 2), .ref (ad 3), .ref (ad 4), .int (M c 4), .ref (ad 5), .ref (ad 6), .long L, .ref (ad 7), .int (M c 9), .int (M c 10), .ref (ad 8), .int (M c 12), .ref (ad 9), .int (M c 14), .int (M c 15), .int (M c 16), .int (M c 17), .int (M c 18), .int (M c 19), .int (M c 20), .ref (ad 10), .ref (ad 11), .int (M c 23), .int (M c 24), .ref (ad 12), .ref (ad 13), .ref (ad 14), .ref (ad 15)].set 7 (.long v))) = m_w kI kZ ad M v := by
  subst h
  refine m_set (Nat.le_of_ble_eq_true rfl) rfl (fun j hj => ?_)
  unfold m_cell
  rw [if_neg hj, if_neg hj]
theorem m_put8_9 {kI kZ : ClassId} {ad : Nat → Nat} {M : Nat → Nat → Int32} {L : Int64} {c : Nat} (h : m_is8 c) (v : Int32) : (m_w kI kZ ad M L).set c (ad c, .inr (8, [.ref (ad 1), .ref (ad 2), .ref (ad 3), .ref (ad 4), .int (M c 4), .ref (ad 5), .ref (ad 6), .long L, .ref (ad 7), .int (M c 9), .int (M c 10), .ref (ad 8), .int (M c 12), .ref (ad 9), .int (M c 14), .int (M c 15), .int (M c 16), .int (M c 17), .int (M c 18), .int (M c 19), .int (M c 20), .ref (ad 10), .ref (ad 11), .int (M c 23), .int (M c 24), .ref (ad 12), .ref (ad 13), .ref (ad 14), .ref (ad 15)].set 9 (.int v))) = m_w kI kZ ad (upd2 M c 9 v) L := by
  subst h
  · refine m_set (Nat.le_of_ble_eq_true rfl) ?_ (fun j hj => by rw [upd2_n M 9 v hj])
    rw [upd2_c]
    rfl
theorem m_put8_10 {kI kZ : ClassId} {ad : Nat → Nat} {M : Nat → Nat → Int32} {L : Int64} {c : Nat} (h : m_is8 c) (v : Int32) : (m_w kI kZ ad M L).set c (ad c, .inr (8, [.ref (ad 1), .ref (ad 2), .ref (ad 3), .ref (ad 4), .int (M c 4), .ref (ad 5), .ref (ad 6), .long L, .ref (ad 7), .int (M c 9), .int (M c 10), .ref (ad 8), .int (M c 12), .ref (ad 9), .int (M c 14), .int (M c 15), .int (M c 16), .int (M c 17), .int (M c 18), .int (M c 19), .int (M c 20), .ref (ad 10), .ref (ad 11), .int (M c 23), .int (M c 24), .ref (ad 12), .ref (ad 13), .ref (ad 14), .ref (ad 15)].set 10 (.int v))) = m_w kI kZ ad (upd2 M c 10 v) L := by
  subst h
  · refine m_set (Nat.le_of_ble_eq_true rfl) ?_ (fun j hj => by rw [upd2_n M 10 v hj])
    rw [upd2_c]
    rfl
theorem m_put8_12 {kI kZ : ClassId} {ad : Nat → Nat} {M : Nat → Nat → Int32} {L : Int64} {c : Nat} (h : m_is8 c) (v : Int32) : (m_w kI kZ ad M L).set c (ad c, .inr (8, [.ref (ad 1), .ref (ad 2), .ref (ad 3), .ref (ad 4), .int (M c 4), .ref (ad 5), .ref (ad 6), .long L, .ref (ad 7), .int (M c 9), .int (M c 10), .ref (ad 8), .int (M c 12), .ref (ad 9), .int (M c 14), .int (M c 15), .int (M c 16), .int (M c 17), .int (M c 18), .int (M c 19), .int (M c 20), .ref (ad 10), .ref (ad 11), .int (M c 23), .int (M c 24), .ref (ad 12), .ref (ad 13), .ref (ad 14), .ref (ad 15)].set 12 (.int v))) = m_w kI kZ ad (upd2 M c 12 v) L := by
  subst h
  · refine m_set (Nat.le_of_ble_eq_true rfl) ?_ (fun j hj => by rw [upd2_n M 12 v hj])
    rw [upd2_c]
    rfl
theorem m_put8_14 {kI kZ : ClassId} {ad : Nat → Nat} {M : Nat → Nat → Int32} {L : Int64} {c : Nat} (h : m_is8 c) (v : Int32) : (m_w kI kZ ad M L).set c (ad c, .inr (8, [.ref (ad 1), .ref (ad 2), .ref (ad 3), .ref (ad 4), .int (M c 4), .ref (ad 5), .ref (ad 6), .long L, .ref (ad 7), .int (M c 9), .int (M c 10), .ref (ad 8), .int (M c 12), .ref (ad 9), .int (M c 14), .int (M c 15), .int (M c 16), .int (M c 17), .int (M c 18), .int (M c 19), .int (M c 20), .ref (ad 10), .ref (ad 11), .int (M c 23), .int (M c 24), .ref (ad 12), .ref (ad 13), .ref (ad 14), .ref (ad 15)].set 14 (.int v))) = m_w kI kZ ad (upd2 M c 14 v) L := by
  subst h
  · refine m_set (Nat.le_of_ble_eq_true rfl) ?_ (fun j hj => by rw [upd2_n M 14 v hj])
    rw [upd2_c]
    rfl
theorem m_put8_15 {kI kZ : ClassId} {ad : Nat → Nat} {M : Nat → Nat → Int32} {L : Int64} {c : Nat} (h : m_is8 c) (v : Int32) : (m_w kI kZ ad M L).set c (ad c, .inr (8, [.ref (ad 1), .ref (ad 2), .ref (ad 3), .ref (ad 4), .int (M c 4), .ref (ad 5), .ref (ad 6), .long L, .ref (ad 7), .int (M c 9), .int (M c 10), .ref (ad 8), .int (M c 12), .ref (ad 9), .int (M c 14), .int (M c 15), .int (M c 16), .int (M c 17), .int (M c 18), .int (M c 19), .int (M c 20), .ref (ad 10), .ref (ad 11), .int (M c 23), .int (M c 24), .ref (ad 12), .ref (ad 13), .ref (ad 14), .ref (ad 15)].set 15 (.int v))) = m_w kI kZ ad (upd2 M c 15 v) L := by
  subst h
  · refine m_set (Nat.le_of_ble_eq_true rfl) ?_ (fun j hj => by rw [upd2_n M 15 v hj])
    rw [upd2_c]
    rfl
theorem m_put8_16 {kI kZ : ClassId} {ad : Nat → Nat} {M : Nat → Nat → Int32} {L : Int64} {c : Nat} (h : m_is8 c) (v : Int32) : (m_w kI kZ ad M L).set c (ad c, .inr (8, [.ref (ad 1), .ref (ad 2), .ref (ad 3), .ref (ad 4), .int (M c 4), .ref (ad 5), .ref (ad 6), .long L, .ref (ad 7), .int (M c 9), .int (M c 10), .ref (ad 8), .int (M c 12), .ref (ad 9), .int (M c 14), .int (M c 15), .int (M c 16), .int (M c 17), .int (M c 18), .int (M c 19), .int (M c 20), .ref (ad 10), .ref (ad 11), .int (M c 23), .int (M c 24), .ref (ad 12), .ref (ad 13), .ref (ad 14), .ref (ad 15)].set 16 (.int v))) = m_w kI kZ ad (upd2 M c 16 v) L := by
  subst h
  · refine m_set (Nat.le_of_ble_eq_true rfl) ?_ (fun j hj => by rw [upd2_n M 16 v hj])
    rw [upd2_c]
    rfl
theorem m_put8_17 {kI kZ : ClassId} {ad : Nat → Nat} {M : Nat → Nat → Int32} {L : Int64} {c : Nat} (h : m_is8 c) (v : Int32) : (m_w kI kZ ad M L).set c (ad c, .inr (8, [.ref (ad 1), .ref (ad 2), .ref (ad 3), .ref (ad 4), .int (M c 4), .ref (ad 5), .ref (ad 6), .long L, .ref (ad 7), .int (M c 9), .int (M c 10), .ref (ad 8), .int (M c 12), .ref (ad 9), .int (M c 14), .int (M c 15), .int (M c 16), .int (M c 17), .int (M c 18), .int (M c 19), .int (M c 20), .ref (ad 10), .ref (ad 11), .int (M c 23), .int (M c 24), .ref (ad 12), .ref (ad 13), .ref (ad 14), .ref (ad 15)].set 17 (.int v))) = m_w kI kZ ad (upd2 M c 17 v) L := by
  subst h
  · refine m_set (Nat.le_of_ble_eq_true rfl) ?_ (fun j hj => by rw [upd2_n M 17 v hj])
    rw [upd2_c]
    rfl
theorem m_put8_18 {kI kZ : ClassId} {ad : Nat → Nat} {M : Nat → Nat → Int32} {L : Int64} {c : Nat} (h : m_is8 c) (v : Int32) : (m_w kI kZ ad M L).set c (ad c, .inr (8, [.ref (ad 1), .ref (ad 2), .ref (ad 3), .ref (ad 4), .int (M c 4), .ref (ad 5), .ref (ad 6), .long L, .ref (ad 7), .int (M c 9), .int (M c 10), .ref (ad 8), .int (M c 12), .ref (ad 9), .int (M c 14), .int (M c 15), .int (M c 16), .int (M c 17), .int (M c 18), .int (M c 19), .int (M c 20), .ref (ad 10), .ref (ad 11), .int (M c 23), .int (M c 24), .ref (ad 12), .ref (ad 13), .ref (ad 14), .ref (ad 15)].set 18 (.int v))) = m_w kI kZ ad (upd2 M c 18 v) L := by
  subst h
  · refine m_set (Nat.le_of_ble_eq_true rfl) ?_ (fun j hj => by rw [upd2_n M 18 v hj])
    rw [upd2_c]
    rfl
theorem m_put8_19 {kI kZ : ClassId} {ad : Nat → Nat} {M : Nat → Nat → Int32} {L : Int64} {c : Nat} (h : m_is8 c) (v : Int32) : (m_w kI kZ ad M L).set c (ad c, .inr (8, [.ref (ad 1), .ref (ad 2), .ref (ad 3), .ref (ad 4), .int (M c 4), .ref (ad 5), .ref (ad 6), .long L, .ref (ad 7), .int (M c 9), .int (M c 10), .ref (ad 8), .int (M c 12), .ref (ad 9), .int (M c 14), .int (M c 15), .int (M c 16), .int (M c 17), .int (M c 18), .int (M c 19), .int (M c 20), .ref (ad 10), .ref (ad 11), .int (M c 23), .int (M c 24), .ref (ad 12), .ref (ad 13), .ref (ad 14), .ref (ad 15)].set 19 (.int v))) = m_w kI kZ ad (upd2 M c 19 v) L := by
  subst h
  · refine m_set (Nat.le_of_ble_eq_true rfl) ?_ (fun j hj => by rw [upd2_n M 19 v hj])
    rw [upd2_c]
    rfl
theorem m_put8_20 {kI kZ : ClassId} {ad : Nat → Nat} {M : Nat → Nat → Int32} {L : Int64} {c : Nat} (h : m_is8 c) (v : Int32) : (m_w kI kZ ad M L).set c (ad c, .inr (8, [.ref (ad 1), .ref (ad 2), .ref (ad 3), .ref (ad 4), .int (M c 4), .ref (ad 5), .ref (ad 6), .long L, .ref (ad 7), .int (M c 9), .int (M c 10), .ref (ad 8), .int (M c 12), .ref (ad 9), .int (M c 14), .int (M c 15), .int (M c 16), .int (M c 17), .int (M c 18), .int (M c 19), .int (M c 20), .ref (ad 10), .ref (ad 11), .int (M c 23), .int (M c 24), .ref (ad 12), .ref (ad 13), .ref (ad 14), .ref (ad 15)].set 20 (.int v))) = m_w kI kZ ad (upd2 M c 20 v) L := by
  subst h
  · refine m_set (Nat.le_of_ble_eq_true rfl) ?_ (fun j hj => by rw [upd2_n M 20 v hj])
    rw [upd2_c]
    rfl
theorem m_put8_23 {kI kZ : ClassId} {ad : Nat → Nat} {M : Nat → Nat → Int32} {L : Int64} {c : Nat} (h : m_is8 c) (v : Int32) : (m_w kI kZ ad M L).set c (ad c, .inr (8, [.ref (ad 1), .ref (ad 2), .ref (ad 3), .ref (ad 4), .int (M c 4), .ref (ad 5), .ref (ad 6), .long L, .ref (ad 7), .int (M c 9), .int (M c 10), .ref (ad 8), .int (M c 12), .ref (ad 9), .int (M c 14), .int (M c 15), .int (M c 16), .int (M c 17), .int (M c 18), .int (M c 19), .int (M c 20), .ref (ad 10), .ref (ad 11), .int (M c 23), .int (M c 24), .ref (ad 12), .ref (ad 13), .ref (ad 14), .ref (ad 15)].set 23 (.int v))) = m_w kI kZ ad (upd2 M c 23 v) L := by
  subst h
  · refine m_set (Nat.le_of_ble_eq_true rfl) ?_ (fun j hj => by rw [upd2_n M 23 v hj])
    rw [upd2_c]
    rfl
theorem m_put8_24 {kI kZ : ClassId} {ad : Nat → Nat} {M : Nat → Nat → Int32} {L : Int64} {c : Nat} (h : m_is8 c) (v : Int32) : (m_w kI kZ ad M L).set c (ad c, .inr (8, [.ref (ad 1), .ref (ad 2), .ref (ad 3), .ref (ad 4), .int (M c 4), .ref (ad 5), .ref (ad 6), .long L, .ref (ad 7), .int (M c 9), .int (M c 10), .ref (ad 8), .int (M c 12), .ref (ad 9), .int (M c 14), .int (M c 15), .int (M c 16), .int (M c 17), .int (M c 18), .int (M c 19), .int (M c 20), .ref (ad 10), .ref (ad 11), .int (M c 23), .int (M c 24), .ref (ad 12), .ref (ad 13), .ref (ad 14), .ref (ad 15)].set 24 (.int v))) = m_w kI kZ ad (upd2 M c 24 v) L := by
  subst h
  · refine m_set (Nat.le_of_ble_eq_true rfl) ?_ (fun j hj => by rw [upd2_n M 24 v hj])
    rw [upd2_c]
    rfl
theorem m_cellA {kI kZ : ClassId} {ad : Nat → Nat}  {L : Int64} {c : Nat} (h : m_arr c) (r : Nat → Int32) : m_cell kI kZ ad L c r = .inl (kI, m_len c, .inl r) := by
  unfold m_cell
  rw [if_neg (by omega), if_neg (by omega)]
theorem m_atA {kI kZ : ClassId} {ad : Nat → Nat} {M : Nat → Nat → Int32} {L : Int64} {c : Nat} (h : m_arr c) : (m_w kI kZ ad M L)[c]? = some (ad c, .inl (kI, m_len c, .inl (M c))) := by rw [m_at h.1, m_cellA h]
theorem m_putA {kI kZ : ClassId} {ad : Nat → Nat} {M : Nat → Nat → Int32} {L : Int64} {c : Nat} (h : m_arr c) (k : Nat) (v : Int32) : (m_w kI kZ ad M L).set c (ad c, .inl (kI, m_len c, .inl (upd (M c) k v))) = m_w kI kZ ad (upd2 M c k v) L := m_set h.1 (by rw [upd2_c, m_cellA h]) (fun j hj => by rw [upd2_n M k v hj])
theorem m_atZ {kI kZ : ClassId} {ad : Nat → Nat} {M : Nat → Nat → Int32} {L : Int64} : (m_w kI kZ ad M L)[6]? = some (ad 6, .inl (kZ, 2, .inl (M 6))) := m_at (Nat.le_of_ble_eq_true rfl)
theorem m_putZ {kI kZ : ClassId} {ad : Nat → Nat} {M : Nat → Nat → Int32} {L : Int64} (k : Nat) (v : Int32) : (m_w kI kZ ad M L).set 6 (ad 6, .inl (kZ, 2, .inl (upd (M 6) k v))) = m_w kI kZ ad (upd2 M 6 k v) L := m_set (Nat.le_of_ble_eq_true rfl) (by rw [upd2_c]; rfl) (fun j hj => by rw [upd2_n M k v hj])
def m_A (ad : Nat → Nat) : Nat → Prop := fun q => ∃ c, c < 16 ∧ q = ad c
def ad_inj_m (ad : Nat → Nat) : Prop := ∀ i j : Nat, i < 16 → j < 16 → ad i = ad j → i = j
theorem m_D {kI kZ : ClassId} {ad : Nat → Nat} {M : Nat → Nat → Int32} {L : Int64} (h : ad_inj_m ad) : va_D (m_A ad) (m_w kI kZ ad M L) := by
  have hs : ∀ (i : Nat) (q : Nat × va_E), (m_w kI kZ ad M L)[i]? = some q → i < 16 ∧ q.1 = ad i := by
    intro i q hq
    rcases Nat.lt_or_ge i 16 with z | z
    · rw [m_at z] at hq
      cases hq
      exact ⟨z, rfl⟩
    · rw [List.getElem?_eq_none (by simp [m_w]; exact z)] at hq
      cases hq
  refine ⟨fun i j p q hp hq e => ?_, fun k q hq => ⟨k, (hs k q hq).1, (hs k q hq).2⟩⟩
  obtain ⟨a1, a2⟩ := hs i p hp
  obtain ⟨b1, b2⟩ := hs j q hq
  exact h i j a1 b1 (by rw [← a2, ← b2]; exact e)
def m_Kn (dC : Nat → ClassId) (dI : Nat → Nat → Nat) (kI kZ : ClassId) (ad : Nat → Nat) (U : State) : Prop := va_K (dC, dI) vwCl [(kI, .int), (kZ, .boolean)] U ∧ ad_inj_m ad ∧ NestOK U
theorem m_KnB {dC : Nat → ClassId} {dI : Nat → Nat → Nat} {kI kZ : ClassId} {ad : Nat → Nat} : knB (m_Kn dC dI kI kZ ad) := fun a U g mk q => ⟨va_K.moved (u := U) (U := U.calling g mk a) (Vm.Alike.refl U.vm) q.1, q.2.1, nestOK_blind (s := U) (U := U.calling g mk a) rfl q.2.2⟩
theorem m_KnW {dC : Nat → ClassId} {dI : Nat → Nat → Nat} {kI kZ : ClassId} {ad : Nat → Nat} {s : State} (h : m_Kn dC dI kI kZ ad s) : knW (m_Kn dC dI kI kZ ad) s := fun U hW => ⟨va_K.moved hW.alike h.1, h.2.1, nestOK_warm hW h.2.2⟩
abbrev m_Wd (dC : Nat → ClassId) (dI : Nat → Nat → Nat) (kI kZ : ClassId) (ad : Nat → Nat) : (Nat → Nat → Int32) × Int64 → Heap → Prop := fun M H => va_P (dC, dI) vwCl (m_w kI kZ ad M.1 M.2) H
theorem m_rc8 {kI kZ : ClassId} {ad : Nat → Nat} {M : Nat → Nat → Int32} {L : Int64} {dC : Nat → ClassId} {dI : Nat → Nat → Nat} {s : State} {H : Heap} {c : Nat} (h : m_is8 c) (hK : m_Kn dC dI kI kZ ad s) (hP : va_P (dC, dI) vwCl (m_w kI kZ ad M L) H) : ∃ cell : Cell, H[ad c]? = some cell ∧ cell.vm.isStatics = false ∧ s.vm.findClass RX8 = some cell.cls := va_recv hK.1 hP (ci := 8) (q0 := c) rfl (m_at8 h)
abbrev MM : Type := (Nat → Nat → Int32) × Int64
def um (M : MM) (c k : Nat) (v : Int32) : MM := (upd2 M.1 c k v, M.2)
def us (M : MM) (v : Int64) : MM := (M.1, v)
end
section
set_option maxRecDepth 20000 in
theorem ini_L : Cond.initialized RL ∈ lw_good := lw_in (List.mem_of_getElem? (i := 77) (by decide +kernel)) rfl
set_option maxRecDepth 20000 in
theorem ini_X7 : Cond.initialized RX7 ∈ lw_good := lw_in (List.mem_of_getElem? (i := 78) (by decide +kernel)) rfl
set_option maxRecDepth 20000 in
theorem ini_X2 : Cond.initialized RX2 ∈ lw_good := lw_in (List.mem_of_getElem? (i := 79) (by decide +kernel)) rfl
set_option maxRecDepth 20000 in
theorem ini_X1 : Cond.initialized RX1 ∈ lw_good := lw_in (List.mem_of_getElem? (i := 80) (by decide +kernel)) rfl
set_option maxRecDepth 20000 in
theorem ini_X3 : Cond.initialized RX3 ∈ lw_good := lw_in (List.mem_of_getElem? (i := 81) (by decide +kernel)) rfl
set_option maxRecDepth 20000 in
theorem ini_X5 : Cond.initialized RX5 ∈ lw_good := lw_in (List.mem_of_getElem? (i := 82) (by decide +kernel)) rfl
set_option maxRecDepth 20000 in
theorem ini_X4 : Cond.initialized RX4 ∈ lw_good := lw_in (List.mem_of_getElem? (i := 83) (by decide +kernel)) rfl
set_option maxRecDepth 20000 in
theorem ini_X6 : Cond.initialized RX6 ∈ lw_good := lw_in (List.mem_of_getElem? (i := 84) (by decide +kernel)) rfl
set_option maxRecDepth 20000 in
theorem ini_J9 : Cond.initialized RJ9 ∈ lw_good := lw_in (List.mem_of_getElem? (i := 85) (by decide +kernel)) rfl
set_option maxRecDepth 20000 in
theorem ini_X0 : Cond.initialized RX0 ∈ lw_good := lw_in (List.mem_of_getElem? (i := 86) (by decide +kernel)) rfl
set_option maxRecDepth 20000 in
theorem ini_X8 : Cond.initialized RX8 ∈ lw_good := lw_in (List.mem_of_getElem? (i := 87) (by decide +kernel)) rfl
set_option maxRecDepth 20000 in
theorem ini_J6 : Cond.initialized RJ6 ∈ lw_good := lw_in (List.mem_of_getElem? (i := 88) (by decide +kernel)) rfl
set_option maxRecDepth 20000 in
theorem lkM_L_9 : Cond.methodLink RL 9 yX7_init ∈ lw_good := lw_in (List.mem_of_getElem? (i := 91) (by decide +kernel)) rfl
set_option maxRecDepth 20000 in
theorem vi_yX7_init : Cond.instanceMethod yX7_init ∈ lw_good := lw_in (List.mem_of_getElem? (i := 92) (by decide +kernel)) rfl
set_option maxRecDepth 20000 in
theorem lkM_X7_1 : Cond.methodLink RX7 1 objectInit ∈ lw_good := lw_in (List.mem_of_getElem? (i := 94) (by decide +kernel)) rfl
set_option maxRecDepth 20000 in
theorem nkM_X7_9 : Cond.methodLinkNest RX7 9 yX2_init "SingleCopy" ∈ nestW := nest_in (List.mem_of_getElem? (i := 99) (by decide +kernel)) rfl
set_option maxRecDepth 20000 in
theorem vi_yX2_init : Cond.instanceMethod yX2_init ∈ lw_good := lw_in (List.mem_of_getElem? (i := 100) (by decide +kernel)) rfl
set_option maxRecDepth 20000 in
theorem lkM_X2_3 : Cond.methodLink RX2 3 objectInit ∈ lw_good := lw_in (List.mem_of_getElem? (i := 102) (by decide +kernel)) rfl
set_option maxRecDepth 20000 in
theorem lkF_X2_9 : Cond.fieldLink RX2 9 "SingleCopy$CityText" "letters" "[I" ∈ lw_good := lw_in (List.mem_of_getElem? (i := 103) (by decide +kernel)) rfl
set_option maxRecDepth 20000 in
theorem lkF_X2_15 : Cond.fieldLink RX2 15 "SingleCopy$CityText" "count" "I" ∈ lw_good := lw_in (List.mem_of_getElem? (i := 104) (by decide +kernel)) rfl
set_option maxRecDepth 20000 in
theorem nkF_X7_88 : Cond.fieldLinkNest RX7 88 "SingleCopy$CityText" "count" "I" "SingleCopy" ∈ nestW := nest_in (List.mem_of_getElem? (i := 105) (by decide +kernel)) rfl
set_option maxRecDepth 20000 in
theorem lkF_X2_34 : Cond.fieldLink RX2 34 "SingleCopy$CityText" "place" "I" ∈ lw_good := lw_in (List.mem_of_getElem? (i := 106) (by decide +kernel)) rfl
set_option maxRecDepth 20000 in
theorem lkF_X2_102 : Cond.fieldLink RX2 102 "SingleCopy$CityText" "numberPlace" "I" ∈ lw_good := lw_in (List.mem_of_getElem? (i := 107) (by decide +kernel)) rfl
set_option maxRecDepth 20000 in
theorem lkF_X2_19 : Cond.fieldLink RX2 19 "SingleCopy$CityText" "faultNumber" "I" ∈ lw_good := lw_in (List.mem_of_getElem? (i := 108) (by decide +kernel)) rfl
set_option maxRecDepth 20000 in
theorem lkF_X2_22 : Cond.fieldLink RX2 22 "SingleCopy$CityText" "faultPlace" "I" ∈ lw_good := lw_in (List.mem_of_getElem? (i := 109) (by decide +kernel)) rfl
set_option maxRecDepth 20000 in
theorem nkF_X7_110 : Cond.fieldLinkNest RX7 110 "SingleCopy$CityText" "faultPlace" "I" "SingleCopy" ∈ nestW := nest_in (List.mem_of_getElem? (i := 110) (by decide +kernel)) rfl
set_option maxRecDepth 20000 in
theorem lkF_X2_37 : Cond.fieldLink RX2 37 "SingleCopy$CityText" "convincedTold" "Z" ∈ lw_good := lw_in (List.mem_of_getElem? (i := 111) (by decide +kernel)) rfl
set_option maxRecDepth 20000 in
theorem nkM_X7_18 : Cond.methodLinkNest RX7 18 yX1_init "SingleCopy" ∈ nestW := nest_in (List.mem_of_getElem? (i := 130) (by decide +kernel)) rfl
set_option maxRecDepth 20000 in
theorem vi_yX1_init : Cond.instanceMethod yX1_init ∈ lw_good := lw_in (List.mem_of_getElem? (i := 131) (by decide +kernel)) rfl
set_option maxRecDepth 20000 in
theorem lkM_X1_3 : Cond.methodLink RX1 3 objectInit ∈ lw_good := lw_in (List.mem_of_getElem? (i := 133) (by decide +kernel)) rfl
set_option maxRecDepth 20000 in
theorem lkF_X1_34 : Cond.fieldLink RX1 34 "SingleCopy$City" "sheetSize" "I" ∈ lw_good := lw_in (List.mem_of_getElem? (i := 134) (by decide +kernel)) rfl
set_option maxRecDepth 20000 in
theorem nkF_X7_113 : Cond.fieldLinkNest RX7 113 "SingleCopy$City" "sheetSize" "I" "SingleCopy" ∈ nestW := nest_in (List.mem_of_getElem? (i := 135) (by decide +kernel)) rfl
set_option maxRecDepth 20000 in
theorem nkF_X2_87 : Cond.fieldLinkNest RX2 87 "SingleCopy$City" "sheetSize" "I" "SingleCopy" ∈ nestW := nest_in (List.mem_of_getElem? (i := 136) (by decide +kernel)) rfl
set_option maxRecDepth 20000 in
theorem lkF_X1_37 : Cond.fieldLink RX1 37 "SingleCopy$City" "opinions" "I" ∈ lw_good := lw_in (List.mem_of_getElem? (i := 137) (by decide +kernel)) rfl
set_option maxRecDepth 20000 in
theorem nkF_X3_54 : Cond.fieldLinkNest RX3 54 "SingleCopy$City" "opinions" "I" "SingleCopy" ∈ nestW := nest_in (List.mem_of_getElem? (i := 138) (by decide +kernel)) rfl
set_option maxRecDepth 20000 in
theorem nkF_X7_116 : Cond.fieldLinkNest RX7 116 "SingleCopy$City" "opinions" "I" "SingleCopy" ∈ nestW := nest_in (List.mem_of_getElem? (i := 139) (by decide +kernel)) rfl
set_option maxRecDepth 20000 in
theorem nkF_X2_56 : Cond.fieldLinkNest RX2 56 "SingleCopy$City" "opinions" "I" "SingleCopy" ∈ nestW := nest_in (List.mem_of_getElem? (i := 140) (by decide +kernel)) rfl
set_option maxRecDepth 20000 in
theorem lkF_X1_40 : Cond.fieldLink RX1 40 "SingleCopy$City" "facts" "I" ∈ lw_good := lw_in (List.mem_of_getElem? (i := 141) (by decide +kernel)) rfl
set_option maxRecDepth 20000 in
theorem nkF_X7_107 : Cond.fieldLinkNest RX7 107 "SingleCopy$City" "facts" "I" "SingleCopy" ∈ nestW := nest_in (List.mem_of_getElem? (i := 142) (by decide +kernel)) rfl
set_option maxRecDepth 20000 in
theorem nkF_X3_88 : Cond.fieldLinkNest RX3 88 "SingleCopy$City" "facts" "I" "SingleCopy" ∈ nestW := nest_in (List.mem_of_getElem? (i := 143) (by decide +kernel)) rfl
set_option maxRecDepth 20000 in
theorem nkF_X2_84 : Cond.fieldLinkNest RX2 84 "SingleCopy$City" "facts" "I" "SingleCopy" ∈ nestW := nest_in (List.mem_of_getElem? (i := 144) (by decide +kernel)) rfl
set_option maxRecDepth 20000 in
theorem lkF_X1_9 : Cond.fieldLink RX1 9 "SingleCopy$City" "convincedFrom" "I" ∈ lw_good := lw_in (List.mem_of_getElem? (i := 145) (by decide +kernel)) rfl
set_option maxRecDepth 20000 in
theorem nkF_X3_57 : Cond.fieldLinkNest RX3 57 "SingleCopy$City" "convincedFrom" "I" "SingleCopy" ∈ nestW := nest_in (List.mem_of_getElem? (i := 146) (by decide +kernel)) rfl
set_option maxRecDepth 20000 in
theorem nkF_X7_119 : Cond.fieldLinkNest RX7 119 "SingleCopy$City" "convincedFrom" "I" "SingleCopy" ∈ nestW := nest_in (List.mem_of_getElem? (i := 147) (by decide +kernel)) rfl
set_option maxRecDepth 20000 in
theorem nkF_X2_77 : Cond.fieldLinkNest RX2 77 "SingleCopy$City" "convincedFrom" "I" "SingleCopy" ∈ nestW := nest_in (List.mem_of_getElem? (i := 148) (by decide +kernel)) rfl
set_option maxRecDepth 20000 in
theorem lkF_X1_15 : Cond.fieldLink RX1 15 "SingleCopy$City" "firstBeliefs" "[I" ∈ lw_good := lw_in (List.mem_of_getElem? (i := 149) (by decide +kernel)) rfl
set_option maxRecDepth 20000 in
theorem nkF_X3_37 : Cond.fieldLinkNest RX3 37 "SingleCopy$City" "firstBeliefs" "[I" "SingleCopy" ∈ nestW := nest_in (List.mem_of_getElem? (i := 150) (by decide +kernel)) rfl
set_option maxRecDepth 20000 in
theorem nkF_X2_90 : Cond.fieldLinkNest RX2 90 "SingleCopy$City" "firstBeliefs" "[I" "SingleCopy" ∈ nestW := nest_in (List.mem_of_getElem? (i := 151) (by decide +kernel)) rfl
set_option maxRecDepth 20000 in
theorem lkF_X1_19 : Cond.fieldLink RX1 19 "SingleCopy$City" "moved" "[I" ∈ lw_good := lw_in (List.mem_of_getElem? (i := 152) (by decide +kernel)) rfl
set_option maxRecDepth 20000 in
theorem nkF_X3_64 : Cond.fieldLinkNest RX3 64 "SingleCopy$City" "moved" "[I" "SingleCopy" ∈ nestW := nest_in (List.mem_of_getElem? (i := 153) (by decide +kernel)) rfl
set_option maxRecDepth 20000 in
theorem nkF_X7_153 : Cond.fieldLinkNest RX7 153 "SingleCopy$City" "moved" "[I" "SingleCopy" ∈ nestW := nest_in (List.mem_of_getElem? (i := 154) (by decide +kernel)) rfl
set_option maxRecDepth 20000 in
theorem nkF_X2_93 : Cond.fieldLinkNest RX2 93 "SingleCopy$City" "moved" "[I" "SingleCopy" ∈ nestW := nest_in (List.mem_of_getElem? (i := 155) (by decide +kernel)) rfl
set_option maxRecDepth 20000 in
theorem lkF_X1_22 : Cond.fieldLink RX1 22 "SingleCopy$City" "moves" "[I" ∈ lw_good := lw_in (List.mem_of_getElem? (i := 156) (by decide +kernel)) rfl
set_option maxRecDepth 20000 in
theorem nkF_X3_73 : Cond.fieldLinkNest RX3 73 "SingleCopy$City" "moves" "[I" "SingleCopy" ∈ nestW := nest_in (List.mem_of_getElem? (i := 157) (by decide +kernel)) rfl
set_option maxRecDepth 20000 in
theorem nkF_X7_156 : Cond.fieldLinkNest RX7 156 "SingleCopy$City" "moves" "[I" "SingleCopy" ∈ nestW := nest_in (List.mem_of_getElem? (i := 158) (by decide +kernel)) rfl
set_option maxRecDepth 20000 in
theorem nkF_X2_96 : Cond.fieldLinkNest RX2 96 "SingleCopy$City" "moves" "[I" "SingleCopy" ∈ nestW := nest_in (List.mem_of_getElem? (i := 159) (by decide +kernel)) rfl
set_option maxRecDepth 20000 in
theorem lkF_X1_25 : Cond.fieldLink RX1 25 "SingleCopy$City" "asked" "[I" ∈ lw_good := lw_in (List.mem_of_getElem? (i := 160) (by decide +kernel)) rfl
set_option maxRecDepth 20000 in
theorem nkF_X3_67 : Cond.fieldLinkNest RX3 67 "SingleCopy$City" "asked" "[I" "SingleCopy" ∈ nestW := nest_in (List.mem_of_getElem? (i := 161) (by decide +kernel)) rfl
set_option maxRecDepth 20000 in
theorem nkF_X7_159 : Cond.fieldLinkNest RX7 159 "SingleCopy$City" "asked" "[I" "SingleCopy" ∈ nestW := nest_in (List.mem_of_getElem? (i := 162) (by decide +kernel)) rfl
set_option maxRecDepth 20000 in
theorem nkF_X2_105 : Cond.fieldLinkNest RX2 105 "SingleCopy$City" "asked" "[I" "SingleCopy" ∈ nestW := nest_in (List.mem_of_getElem? (i := 163) (by decide +kernel)) rfl
set_option maxRecDepth 20000 in
theorem lkF_X1_28 : Cond.fieldLink RX1 28 "SingleCopy$City" "askedFrom" "[I" ∈ lw_good := lw_in (List.mem_of_getElem? (i := 164) (by decide +kernel)) rfl
set_option maxRecDepth 20000 in
theorem nkF_X3_70 : Cond.fieldLinkNest RX3 70 "SingleCopy$City" "askedFrom" "[I" "SingleCopy" ∈ nestW := nest_in (List.mem_of_getElem? (i := 165) (by decide +kernel)) rfl
set_option maxRecDepth 20000 in
theorem nkF_X7_162 : Cond.fieldLinkNest RX7 162 "SingleCopy$City" "askedFrom" "[I" "SingleCopy" ∈ nestW := nest_in (List.mem_of_getElem? (i := 166) (by decide +kernel)) rfl
set_option maxRecDepth 20000 in
theorem nkF_X2_108 : Cond.fieldLinkNest RX2 108 "SingleCopy$City" "askedFrom" "[I" "SingleCopy" ∈ nestW := nest_in (List.mem_of_getElem? (i := 167) (by decide +kernel)) rfl
set_option maxRecDepth 20000 in
theorem lkF_X1_31 : Cond.fieldLink RX1 31 "SingleCopy$City" "costs" "[I" ∈ lw_good := lw_in (List.mem_of_getElem? (i := 168) (by decide +kernel)) rfl
set_option maxRecDepth 20000 in
theorem nkF_X3_51 : Cond.fieldLinkNest RX3 51 "SingleCopy$City" "costs" "[I" "SingleCopy" ∈ nestW := nest_in (List.mem_of_getElem? (i := 169) (by decide +kernel)) rfl
set_option maxRecDepth 20000 in
theorem nkF_X7_165 : Cond.fieldLinkNest RX7 165 "SingleCopy$City" "costs" "[I" "SingleCopy" ∈ nestW := nest_in (List.mem_of_getElem? (i := 170) (by decide +kernel)) rfl
set_option maxRecDepth 20000 in
theorem nkF_X2_111 : Cond.fieldLinkNest RX2 111 "SingleCopy$City" "costs" "[I" "SingleCopy" ∈ nestW := nest_in (List.mem_of_getElem? (i := 171) (by decide +kernel)) rfl
set_option maxRecDepth 20000 in
theorem nkM_X7_28 : Cond.methodLinkNest RX7 28 yX3_init "SingleCopy" ∈ nestW := nest_in (List.mem_of_getElem? (i := 195) (by decide +kernel)) rfl
set_option maxRecDepth 20000 in
theorem vi_yX3_init : Cond.instanceMethod yX3_init ∈ lw_good := lw_in (List.mem_of_getElem? (i := 196) (by decide +kernel)) rfl
set_option maxRecDepth 20000 in
theorem lkM_X3_3 : Cond.methodLink RX3 3 objectInit ∈ lw_good := lw_in (List.mem_of_getElem? (i := 198) (by decide +kernel)) rfl
set_option maxRecDepth 20000 in
theorem lkF_X3_9 : Cond.fieldLink RX3 9 "SingleCopy$Mind" "beliefs" "[I" ∈ lw_good := lw_in (List.mem_of_getElem? (i := 199) (by decide +kernel)) rfl
set_option maxRecDepth 20000 in
theorem nkF_X6_24 : Cond.fieldLinkNest RX6 24 "SingleCopy$Mind" "beliefs" "[I" "SingleCopy" ∈ nestW := nest_in (List.mem_of_getElem? (i := 200) (by decide +kernel)) rfl
set_option maxRecDepth 20000 in
theorem nkF_X0_32 : Cond.fieldLinkNest RX0 32 "SingleCopy$Mind" "beliefs" "[I" "SingleCopy" ∈ nestW := nest_in (List.mem_of_getElem? (i := 201) (by decide +kernel)) rfl
set_option maxRecDepth 20000 in
theorem nkF_X7_142 : Cond.fieldLinkNest RX7 142 "SingleCopy$Mind" "beliefs" "[I" "SingleCopy" ∈ nestW := nest_in (List.mem_of_getElem? (i := 202) (by decide +kernel)) rfl
set_option maxRecDepth 20000 in
theorem lkF_X3_15 : Cond.fieldLink RX3 15 "SingleCopy$Mind" "reads" "[I" ∈ lw_good := lw_in (List.mem_of_getElem? (i := 203) (by decide +kernel)) rfl
set_option maxRecDepth 20000 in
theorem nkF_X6_37 : Cond.fieldLinkNest RX6 37 "SingleCopy$Mind" "reads" "[I" "SingleCopy" ∈ nestW := nest_in (List.mem_of_getElem? (i := 204) (by decide +kernel)) rfl
set_option maxRecDepth 20000 in
theorem nkF_X7_172 : Cond.fieldLinkNest RX7 172 "SingleCopy$Mind" "reads" "[I" "SingleCopy" ∈ nestW := nest_in (List.mem_of_getElem? (i := 205) (by decide +kernel)) rfl
set_option maxRecDepth 20000 in
theorem lkF_X3_22 : Cond.fieldLink RX3 22 "SingleCopy$Mind" "so" "I" ∈ lw_good := lw_in (List.mem_of_getElem? (i := 206) (by decide +kernel)) rfl
set_option maxRecDepth 20000 in
theorem nkF_X6_40 : Cond.fieldLinkNest RX6 40 "SingleCopy$Mind" "so" "I" "SingleCopy" ∈ nestW := nest_in (List.mem_of_getElem? (i := 207) (by decide +kernel)) rfl
set_option maxRecDepth 20000 in
theorem nkF_X7_131 : Cond.fieldLinkNest RX7 131 "SingleCopy$Mind" "so" "I" "SingleCopy" ∈ nestW := nest_in (List.mem_of_getElem? (i := 208) (by decide +kernel)) rfl
set_option maxRecDepth 20000 in
theorem lkF_X3_25 : Cond.fieldLink RX3 25 "SingleCopy$Mind" "nights" "I" ∈ lw_good := lw_in (List.mem_of_getElem? (i := 209) (by decide +kernel)) rfl
set_option maxRecDepth 20000 in
theorem nkF_X6_44 : Cond.fieldLinkNest RX6 44 "SingleCopy$Mind" "nights" "I" "SingleCopy" ∈ nestW := nest_in (List.mem_of_getElem? (i := 210) (by decide +kernel)) rfl
set_option maxRecDepth 20000 in
theorem nkF_X7_122 : Cond.fieldLinkNest RX7 122 "SingleCopy$Mind" "nights" "I" "SingleCopy" ∈ nestW := nest_in (List.mem_of_getElem? (i := 211) (by decide +kernel)) rfl
set_option maxRecDepth 20000 in
theorem lkF_X3_28 : Cond.fieldLink RX3 28 "SingleCopy$Mind" "cost" "I" ∈ lw_good := lw_in (List.mem_of_getElem? (i := 212) (by decide +kernel)) rfl
set_option maxRecDepth 20000 in
theorem nkF_X6_47 : Cond.fieldLinkNest RX6 47 "SingleCopy$Mind" "cost" "I" "SingleCopy" ∈ nestW := nest_in (List.mem_of_getElem? (i := 213) (by decide +kernel)) rfl
set_option maxRecDepth 20000 in
theorem nkF_X7_125 : Cond.fieldLinkNest RX7 125 "SingleCopy$Mind" "cost" "I" "SingleCopy" ∈ nestW := nest_in (List.mem_of_getElem? (i := 214) (by decide +kernel)) rfl
set_option maxRecDepth 20000 in
theorem lkF_X3_18 : Cond.fieldLink RX3 18 "SingleCopy$Mind" "shown" "I" ∈ lw_good := lw_in (List.mem_of_getElem? (i := 215) (by decide +kernel)) rfl
set_option maxRecDepth 20000 in
theorem nkF_X6_50 : Cond.fieldLinkNest RX6 50 "SingleCopy$Mind" "shown" "I" "SingleCopy" ∈ nestW := nest_in (List.mem_of_getElem? (i := 216) (by decide +kernel)) rfl
set_option maxRecDepth 20000 in
theorem nkF_X7_134 : Cond.fieldLinkNest RX7 134 "SingleCopy$Mind" "shown" "I" "SingleCopy" ∈ nestW := nest_in (List.mem_of_getElem? (i := 217) (by decide +kernel)) rfl
set_option maxRecDepth 20000 in
theorem nkM_X7_41 : Cond.methodLinkNest RX7 41 yX5_init "SingleCopy" ∈ nestW := nest_in (List.mem_of_getElem? (i := 233) (by decide +kernel)) rfl
set_option maxRecDepth 20000 in
theorem vi_yX5_init : Cond.instanceMethod yX5_init ∈ lw_good := lw_in (List.mem_of_getElem? (i := 234) (by decide +kernel)) rfl
set_option maxRecDepth 20000 in
theorem lkM_X5_1 : Cond.methodLink RX5 1 objectInit ∈ lw_good := lw_in (List.mem_of_getElem? (i := 236) (by decide +kernel)) rfl
set_option maxRecDepth 20000 in
theorem lkF_X5_7 : Cond.fieldLink RX5 7 "SingleCopy$Row" "nights" "I" ∈ lw_good := lw_in (List.mem_of_getElem? (i := 237) (by decide +kernel)) rfl
set_option maxRecDepth 20000 in
theorem nkF_X7_218 : Cond.fieldLinkNest RX7 218 "SingleCopy$Row" "nights" "I" "SingleCopy" ∈ nestW := nest_in (List.mem_of_getElem? (i := 238) (by decide +kernel)) rfl
set_option maxRecDepth 20000 in
theorem lkF_X5_13 : Cond.fieldLink RX5 13 "SingleCopy$Row" "firstSheet" "I" ∈ lw_good := lw_in (List.mem_of_getElem? (i := 239) (by decide +kernel)) rfl
set_option maxRecDepth 20000 in
theorem nkF_X7_219 : Cond.fieldLinkNest RX7 219 "SingleCopy$Row" "firstSheet" "I" "SingleCopy" ∈ nestW := nest_in (List.mem_of_getElem? (i := 240) (by decide +kernel)) rfl
set_option maxRecDepth 20000 in
theorem lkF_X5_16 : Cond.fieldLink RX5 16 "SingleCopy$Row" "secondSheet" "I" ∈ lw_good := lw_in (List.mem_of_getElem? (i := 241) (by decide +kernel)) rfl
set_option maxRecDepth 20000 in
theorem nkF_X7_222 : Cond.fieldLinkNest RX7 222 "SingleCopy$Row" "secondSheet" "I" "SingleCopy" ∈ nestW := nest_in (List.mem_of_getElem? (i := 242) (by decide +kernel)) rfl
set_option maxRecDepth 20000 in
theorem nkM_X7_48 : Cond.methodLinkNest RX7 48 yX4_init "SingleCopy" ∈ nestW := nest_in (List.mem_of_getElem? (i := 252) (by decide +kernel)) rfl
set_option maxRecDepth 20000 in
theorem vi_yX4_init : Cond.instanceMethod yX4_init ∈ lw_good := lw_in (List.mem_of_getElem? (i := 253) (by decide +kernel)) rfl
set_option maxRecDepth 20000 in
theorem lkM_X4_3 : Cond.methodLink RX4 3 objectInit ∈ lw_good := lw_in (List.mem_of_getElem? (i := 255) (by decide +kernel)) rfl
set_option maxRecDepth 20000 in
theorem nkM_X4_11 : Cond.methodLinkNest RX4 11 yX6_init "SingleCopy" ∈ nestW := nest_in (List.mem_of_getElem? (i := 258) (by decide +kernel)) rfl
set_option maxRecDepth 20000 in
theorem vi_yX6_init : Cond.instanceMethod yX6_init ∈ lw_good := lw_in (List.mem_of_getElem? (i := 259) (by decide +kernel)) rfl
set_option maxRecDepth 20000 in
theorem lkM_X6_5 : Cond.methodLink RX6 5 objectInit ∈ lw_good := lw_in (List.mem_of_getElem? (i := 261) (by decide +kernel)) rfl
set_option maxRecDepth 20000 in
theorem lkM_X6_11 : Cond.methodLink RX6 11 Lib.Math.min.name ∈ lw_good := lw_in (List.mem_of_getElem? (i := 262) (by decide +kernel)) rfl
set_option maxRecDepth 20000 in
theorem st_Lib_Math_min_name : Cond.static Lib.Math.min.name ∈ lw_good := lw_in (List.mem_of_getElem? (i := 263) (by decide +kernel)) rfl
set_option maxRecDepth 20000 in
theorem lkM_X6_17 : Cond.methodLink RX6 17 Lib.Math.max.name ∈ lw_good := lw_in (List.mem_of_getElem? (i := 265) (by decide +kernel)) rfl
set_option maxRecDepth 20000 in
theorem st_Lib_Math_max_name : Cond.static Lib.Math.max.name ∈ lw_good := lw_in (List.mem_of_getElem? (i := 266) (by decide +kernel)) rfl
set_option maxRecDepth 20000 in
theorem lkF_X6_20 : Cond.fieldLink RX6 20 "SingleCopy$Shelf" "numbers" "[I" ∈ lw_good := lw_in (List.mem_of_getElem? (i := 268) (by decide +kernel)) rfl
set_option maxRecDepth 20000 in
theorem lkF_X4_14 : Cond.fieldLink RX4 14 "SingleCopy$Past" "shelf" "LSingleCopy$Shelf;" ∈ lw_good := lw_in (List.mem_of_getElem? (i := 272) (by decide +kernel)) rfl
set_option maxRecDepth 20000 in
theorem lkF_X4_20 : Cond.fieldLink RX4 20 "SingleCopy$Past" "next" "I" ∈ lw_good := lw_in (List.mem_of_getElem? (i := 273) (by decide +kernel)) rfl
set_option maxRecDepth 20000 in
theorem lkF_X4_24 : Cond.fieldLink RX4 24 "SingleCopy$Past" "count" "I" ∈ lw_good := lw_in (List.mem_of_getElem? (i := 274) (by decide +kernel)) rfl
set_option maxRecDepth 20000 in
theorem nkF_X7_138 : Cond.fieldLinkNest RX7 138 "SingleCopy$Past" "count" "I" "SingleCopy" ∈ nestW := nest_in (List.mem_of_getElem? (i := 275) (by decide +kernel)) rfl
set_option maxRecDepth 20000 in
theorem nkM_X7_55 : Cond.methodLinkNest RX7 55 yX6_init "SingleCopy" ∈ nestW := nest_in (List.mem_of_getElem? (i := 284) (by decide +kernel)) rfl
set_option maxRecDepth 20000 in
theorem nkM_X7_75 : Cond.methodLinkNest RX7 75 yX0_init "SingleCopy" ∈ nestW := nest_in (List.mem_of_getElem? (i := 287) (by decide +kernel)) rfl
set_option maxRecDepth 20000 in
theorem vi_yX0_init : Cond.instanceMethod yX0_init ∈ lw_good := lw_in (List.mem_of_getElem? (i := 288) (by decide +kernel)) rfl
set_option maxRecDepth 20000 in
theorem lkM_X0_3 : Cond.methodLink RX0 3 objectInit ∈ lw_good := lw_in (List.mem_of_getElem? (i := 290) (by decide +kernel)) rfl
set_option maxRecDepth 20000 in
theorem lkM_X0_15 : Cond.methodLink RX0 15 Lib.Math.max.name ∈ lw_good := lw_in (List.mem_of_getElem? (i := 291) (by decide +kernel)) rfl
set_option maxRecDepth 20000 in
theorem lkF_X0_21 : Cond.fieldLink RX0 21 "SingleCopy$Beliefs" "opinions" "[I" ∈ lw_good := lw_in (List.mem_of_getElem? (i := 292) (by decide +kernel)) rfl
set_option maxRecDepth 20000 in
theorem lkF_X0_25 : Cond.fieldLink RX0 25 "SingleCopy$Beliefs" "amounts" "[I" ∈ lw_good := lw_in (List.mem_of_getElem? (i := 293) (by decide +kernel)) rfl
set_option maxRecDepth 20000 in
theorem lkF_X0_9 : Cond.fieldLink RX0 9 "SingleCopy$Beliefs" "count" "I" ∈ lw_good := lw_in (List.mem_of_getElem? (i := 294) (by decide +kernel)) rfl
set_option maxRecDepth 20000 in
theorem nkF_X7_137 : Cond.fieldLinkNest RX7 137 "SingleCopy$Beliefs" "count" "I" "SingleCopy" ∈ nestW := nest_in (List.mem_of_getElem? (i := 295) (by decide +kernel)) rfl
set_option maxRecDepth 20000 in
theorem lkF_X7_10 : Cond.fieldLink RX7 10 "SingleCopy" "text" "LSingleCopy$CityText;" ∈ lw_good := lw_in (List.mem_of_getElem? (i := 303) (by decide +kernel)) rfl
set_option maxRecDepth 20000 in
theorem lkF_X7_19 : Cond.fieldLink RX7 19 "SingleCopy" "town" "LSingleCopy$City;" ∈ lw_good := lw_in (List.mem_of_getElem? (i := 304) (by decide +kernel)) rfl
set_option maxRecDepth 20000 in
theorem lkF_X7_23 : Cond.fieldLink RX7 23 "SingleCopy" "draft" "LSingleCopy$City;" ∈ lw_good := lw_in (List.mem_of_getElem? (i := 305) (by decide +kernel)) rfl
set_option maxRecDepth 20000 in
theorem lkF_X7_29 : Cond.fieldLink RX7 29 "SingleCopy" "now" "LSingleCopy$Mind;" ∈ lw_good := lw_in (List.mem_of_getElem? (i := 306) (by decide +kernel)) rfl
set_option maxRecDepth 20000 in
theorem lkF_X7_33 : Cond.fieldLink RX7 33 "SingleCopy" "behindFirst" "LSingleCopy$Mind;" ∈ lw_good := lw_in (List.mem_of_getElem? (i := 307) (by decide +kernel)) rfl
set_option maxRecDepth 20000 in
theorem lkF_X7_36 : Cond.fieldLink RX7 36 "SingleCopy" "behindSecond" "LSingleCopy$Mind;" ∈ lw_good := lw_in (List.mem_of_getElem? (i := 308) (by decide +kernel)) rfl
set_option maxRecDepth 20000 in
theorem lkF_X7_42 : Cond.fieldLink RX7 42 "SingleCopy" "soonestRow" "LSingleCopy$Row;" ∈ lw_good := lw_in (List.mem_of_getElem? (i := 309) (by decide +kernel)) rfl
set_option maxRecDepth 20000 in
theorem lkF_X7_49 : Cond.fieldLink RX7 49 "SingleCopy" "past" "LSingleCopy$Past;" ∈ lw_good := lw_in (List.mem_of_getElem? (i := 310) (by decide +kernel)) rfl
set_option maxRecDepth 20000 in
theorem lkF_X7_58 : Cond.fieldLink RX7 58 "SingleCopy" "images" "LSingleCopy$Shelf;" ∈ lw_good := lw_in (List.mem_of_getElem? (i := 311) (by decide +kernel)) rfl
set_option maxRecDepth 20000 in
theorem lkF_X7_62 : Cond.fieldLink RX7 62 "SingleCopy" "imageDraws" "[I" ∈ lw_good := lw_in (List.mem_of_getElem? (i := 312) (by decide +kernel)) rfl
set_option maxRecDepth 20000 in
theorem lkF_X7_66 : Cond.fieldLink RX7 66 "SingleCopy" "keptImages" "I" ∈ lw_good := lw_in (List.mem_of_getElem? (i := 313) (by decide +kernel)) rfl
set_option maxRecDepth 20000 in
theorem lkF_X7_70 : Cond.fieldLink RX7 70 "SingleCopy" "lastDraw" "I" ∈ lw_good := lw_in (List.mem_of_getElem? (i := 314) (by decide +kernel)) rfl
set_option maxRecDepth 20000 in
theorem lkF_X7_76 : Cond.fieldLink RX7 76 "SingleCopy" "thoughts" "LSingleCopy$Beliefs;" ∈ lw_good := lw_in (List.mem_of_getElem? (i := 315) (by decide +kernel)) rfl
set_option maxRecDepth 20000 in
theorem lkF_X7_80 : Cond.fieldLink RX7 80 "SingleCopy" "book" "LSingleCopy$Beliefs;" ∈ lw_good := lw_in (List.mem_of_getElem? (i := 316) (by decide +kernel)) rfl
set_option maxRecDepth 20000 in
theorem lkM_L_13 : Cond.methodLink RL 13 yX7_feed ∈ lw_good := lw_in (List.mem_of_getElem? (i := 346) (by decide +kernel)) rfl
set_option maxRecDepth 20000 in
theorem vi_yX7_feed : Cond.instanceMethod yX7_feed ∈ lw_good := lw_in (List.mem_of_getElem? (i := 347) (by decide +kernel)) rfl
set_option maxRecDepth 20000 in
theorem vs_yX7_feed : Cond.selects RX7 yX7_feed yX7_feed ∈ lw_good := lw_in (List.mem_of_getElem? (i := 348) (by decide +kernel)) rfl
set_option maxRecDepth 20000 in
theorem kc_X7_83 : Cond.constant RX7 83 (-1000000002) ∈ lw_good := lw_in (List.mem_of_getElem? (i := 350) (by decide +kernel)) rfl
set_option maxRecDepth 20000 in
theorem nkM_X7_84 : Cond.methodLinkNest RX7 84 yX2_append "SingleCopy" ∈ nestW := nest_in (List.mem_of_getElem? (i := 351) (by decide +kernel)) rfl
set_option maxRecDepth 20000 in
theorem vi_yX2_append : Cond.instanceMethod yX2_append ∈ lw_good := lw_in (List.mem_of_getElem? (i := 353) (by decide +kernel)) rfl
set_option maxRecDepth 20000 in
theorem nkM_X2_25 : Cond.methodLinkNest RX2 25 yX7_put "SingleCopy" ∈ nestW := nest_in (List.mem_of_getElem? (i := 355) (by decide +kernel)) rfl
set_option maxRecDepth 20000 in
theorem st_yX7_put : Cond.static yX7_put ∈ lw_good := lw_in (List.mem_of_getElem? (i := 356) (by decide +kernel)) rfl
set_option maxRecDepth 20000 in
theorem kc_X7_91 : Cond.constant RX7 91 (-1000000004) ∈ lw_good := lw_in (List.mem_of_getElem? (i := 358) (by decide +kernel)) rfl
set_option maxRecDepth 20000 in
theorem lkM_L_18 : Cond.methodLink RL 18 yX7_city ∈ lw_good := lw_in (List.mem_of_getElem? (i := 359) (by decide +kernel)) rfl
set_option maxRecDepth 20000 in
theorem vi_yX7_city : Cond.instanceMethod yX7_city ∈ lw_good := lw_in (List.mem_of_getElem? (i := 360) (by decide +kernel)) rfl
set_option maxRecDepth 20000 in
theorem vs_yX7_city : Cond.selects RX7 yX7_city yX7_city ∈ lw_good := lw_in (List.mem_of_getElem? (i := 361) (by decide +kernel)) rfl
set_option maxRecDepth 20000 in
theorem nkM_X7_92 : Cond.methodLinkNest RX7 92 yX2_readInto "SingleCopy" ∈ nestW := nest_in (List.mem_of_getElem? (i := 363) (by decide +kernel)) rfl
set_option maxRecDepth 20000 in
theorem vi_yX2_readInto : Cond.instanceMethod yX2_readInto ∈ lw_good := lw_in (List.mem_of_getElem? (i := 365) (by decide +kernel)) rfl
set_option maxRecDepth 20000 in
theorem nkM_X2_29 : Cond.methodLinkNest RX2 29 yX1_clear "SingleCopy" ∈ nestW := nest_in (List.mem_of_getElem? (i := 367) (by decide +kernel)) rfl
set_option maxRecDepth 20000 in
theorem vi_yX1_clear : Cond.instanceMethod yX1_clear ∈ lw_good := lw_in (List.mem_of_getElem? (i := 369) (by decide +kernel)) rfl
set_option maxRecDepth 20000 in
theorem lkM_X2_41 : Cond.methodLink RX2 41 yX2_skipBlanks ∈ lw_good := lw_in (List.mem_of_getElem? (i := 371) (by decide +kernel)) rfl
set_option maxRecDepth 20000 in
theorem vi_yX2_skipBlanks : Cond.instanceMethod yX2_skipBlanks ∈ lw_good := lw_in (List.mem_of_getElem? (i := 373) (by decide +kernel)) rfl
set_option maxRecDepth 20000 in
theorem lkM_X2_44 : Cond.methodLink RX2 44 yX2_next ∈ lw_good := lw_in (List.mem_of_getElem? (i := 375) (by decide +kernel)) rfl
set_option maxRecDepth 20000 in
theorem vi_yX2_next : Cond.instanceMethod yX2_next ∈ lw_good := lw_in (List.mem_of_getElem? (i := 377) (by decide +kernel)) rfl
set_option maxRecDepth 20000 in
theorem nkM_X2_52 : Cond.methodLinkNest RX2 52 yX7_at "SingleCopy" ∈ nestW := nest_in (List.mem_of_getElem? (i := 379) (by decide +kernel)) rfl
set_option maxRecDepth 20000 in
theorem st_yX7_at : Cond.static yX7_at ∈ lw_good := lw_in (List.mem_of_getElem? (i := 380) (by decide +kernel)) rfl
set_option maxRecDepth 20000 in
theorem lkM_X2_48 : Cond.methodLink RX2 48 yX2_readClause ∈ lw_good := lw_in (List.mem_of_getElem? (i := 382) (by decide +kernel)) rfl
set_option maxRecDepth 20000 in
theorem vi_yX2_readClause : Cond.instanceMethod yX2_readClause ∈ lw_good := lw_in (List.mem_of_getElem? (i := 384) (by decide +kernel)) rfl
set_option maxRecDepth 20000 in
theorem lkM_X2_59 : Cond.methodLink RX2 59 yX2_mark ∈ lw_good := lw_in (List.mem_of_getElem? (i := 386) (by decide +kernel)) rfl
set_option maxRecDepth 20000 in
theorem vi_yX2_mark : Cond.instanceMethod yX2_mark ∈ lw_good := lw_in (List.mem_of_getElem? (i := 388) (by decide +kernel)) rfl
set_option maxRecDepth 20000 in
theorem lkM_X2_63 : Cond.methodLink RX2 63 yX2_toldAlready ∈ lw_good := lw_in (List.mem_of_getElem? (i := 390) (by decide +kernel)) rfl
set_option maxRecDepth 20000 in
theorem vi_yX2_toldAlready : Cond.instanceMethod yX2_toldAlready ∈ lw_good := lw_in (List.mem_of_getElem? (i := 392) (by decide +kernel)) rfl
set_option maxRecDepth 20000 in
theorem lkM_X2_67 : Cond.methodLink RX2 67 yX2_readReader ∈ lw_good := lw_in (List.mem_of_getElem? (i := 394) (by decide +kernel)) rfl
set_option maxRecDepth 20000 in
theorem vi_yX2_readReader : Cond.instanceMethod yX2_readReader ∈ lw_good := lw_in (List.mem_of_getElem? (i := 396) (by decide +kernel)) rfl
set_option maxRecDepth 20000 in
theorem lkM_X2_73 : Cond.methodLink RX2 73 yX2_readNumber ∈ lw_good := lw_in (List.mem_of_getElem? (i := 398) (by decide +kernel)) rfl
set_option maxRecDepth 20000 in
theorem vi_yX2_readNumber : Cond.instanceMethod yX2_readNumber ∈ lw_good := lw_in (List.mem_of_getElem? (i := 400) (by decide +kernel)) rfl
set_option maxRecDepth 20000 in
theorem lkM_X2_114 : Cond.methodLink RX2 114 yX2_atFigure ∈ lw_good := lw_in (List.mem_of_getElem? (i := 402) (by decide +kernel)) rfl
set_option maxRecDepth 20000 in
theorem vi_yX2_atFigure : Cond.instanceMethod yX2_atFigure ∈ lw_good := lw_in (List.mem_of_getElem? (i := 404) (by decide +kernel)) rfl
set_option maxRecDepth 20000 in
theorem lkM_X2_118 : Cond.methodLink RX2 118 Lib.Math.min.name ∈ lw_good := lw_in (List.mem_of_getElem? (i := 406) (by decide +kernel)) rfl
set_option maxRecDepth 20000 in
theorem lkM_X2_80 : Cond.methodLink RX2 80 yX2_takes ∈ lw_good := lw_in (List.mem_of_getElem? (i := 407) (by decide +kernel)) rfl
set_option maxRecDepth 20000 in
theorem vi_yX2_takes : Cond.instanceMethod yX2_takes ∈ lw_good := lw_in (List.mem_of_getElem? (i := 409) (by decide +kernel)) rfl
set_option maxRecDepth 20000 in
theorem lkM_X2_70 : Cond.methodLink RX2 70 yX2_readFactOf ∈ lw_good := lw_in (List.mem_of_getElem? (i := 411) (by decide +kernel)) rfl
set_option maxRecDepth 20000 in
theorem vi_yX2_readFactOf : Cond.instanceMethod yX2_readFactOf ∈ lw_good := lw_in (List.mem_of_getElem? (i := 413) (by decide +kernel)) rfl
set_option maxRecDepth 20000 in
theorem nkM_X2_99 : Cond.methodLinkNest RX2 99 yX1_hasOpinion "SingleCopy" ∈ nestW := nest_in (List.mem_of_getElem? (i := 415) (by decide +kernel)) rfl
set_option maxRecDepth 20000 in
theorem vi_yX1_hasOpinion : Cond.instanceMethod yX1_hasOpinion ∈ lw_good := lw_in (List.mem_of_getElem? (i := 417) (by decide +kernel)) rfl
set_option maxRecDepth 20000 in
theorem nkM_X7_96 : Cond.methodLinkNest RX7 96 yX1_copyFrom "SingleCopy" ∈ nestW := nest_in (List.mem_of_getElem? (i := 419) (by decide +kernel)) rfl
set_option maxRecDepth 20000 in
theorem vi_yX1_copyFrom : Cond.instanceMethod yX1_copyFrom ∈ lw_good := lw_in (List.mem_of_getElem? (i := 421) (by decide +kernel)) rfl
set_option maxRecDepth 20000 in
theorem nkM_X1_43 : Cond.methodLinkNest RX1 43 yX7_at "SingleCopy" ∈ nestW := nest_in (List.mem_of_getElem? (i := 423) (by decide +kernel)) rfl
set_option maxRecDepth 20000 in
theorem nkM_X1_47 : Cond.methodLinkNest RX1 47 yX7_put "SingleCopy" ∈ nestW := nest_in (List.mem_of_getElem? (i := 424) (by decide +kernel)) rfl
set_option maxRecDepth 20000 in
theorem nkM_X7_100 : Cond.methodLinkNest RX7 100 yX3_begin "SingleCopy" ∈ nestW := nest_in (List.mem_of_getElem? (i := 425) (by decide +kernel)) rfl
set_option maxRecDepth 20000 in
theorem vi_yX3_begin : Cond.instanceMethod yX3_begin ∈ lw_good := lw_in (List.mem_of_getElem? (i := 427) (by decide +kernel)) rfl
set_option maxRecDepth 20000 in
theorem nkM_X3_31 : Cond.methodLinkNest RX3 31 yX1_hasOpinion "SingleCopy" ∈ nestW := nest_in (List.mem_of_getElem? (i := 429) (by decide +kernel)) rfl
set_option maxRecDepth 20000 in
theorem nkM_X3_40 : Cond.methodLinkNest RX3 40 yX7_at "SingleCopy" ∈ nestW := nest_in (List.mem_of_getElem? (i := 430) (by decide +kernel)) rfl
set_option maxRecDepth 20000 in
theorem nkM_X3_44 : Cond.methodLinkNest RX3 44 yX7_put "SingleCopy" ∈ nestW := nest_in (List.mem_of_getElem? (i := 431) (by decide +kernel)) rfl
set_option maxRecDepth 20000 in
theorem nkM_X3_48 : Cond.methodLinkNest RX3 48 yX1_hasFact "SingleCopy" ∈ nestW := nest_in (List.mem_of_getElem? (i := 432) (by decide +kernel)) rfl
set_option maxRecDepth 20000 in
theorem vi_yX1_hasFact : Cond.instanceMethod yX1_hasFact ∈ lw_good := lw_in (List.mem_of_getElem? (i := 434) (by decide +kernel)) rfl
set_option maxRecDepth 20000 in
theorem nkM_X7_103 : Cond.methodLinkNest RX7 103 yX4_clear "SingleCopy" ∈ nestW := nest_in (List.mem_of_getElem? (i := 436) (by decide +kernel)) rfl
set_option maxRecDepth 20000 in
theorem vi_yX4_clear : Cond.instanceMethod yX4_clear ∈ lw_good := lw_in (List.mem_of_getElem? (i := 438) (by decide +kernel)) rfl
set_option maxRecDepth 20000 in
theorem nkM_X7_106 : Cond.methodLinkNest RX7 106 yX0_clear "SingleCopy" ∈ nestW := nest_in (List.mem_of_getElem? (i := 440) (by decide +kernel)) rfl
set_option maxRecDepth 20000 in
theorem vi_yX0_clear : Cond.instanceMethod yX0_clear ∈ lw_good := lw_in (List.mem_of_getElem? (i := 442) (by decide +kernel)) rfl
set_option maxRecDepth 20000 in
theorem lkM_L_23 : Cond.methodLink RL 23 yX7_fault ∈ lw_good := lw_in (List.mem_of_getElem? (i := 444) (by decide +kernel)) rfl
set_option maxRecDepth 20000 in
theorem vi_yX7_fault : Cond.instanceMethod yX7_fault ∈ lw_good := lw_in (List.mem_of_getElem? (i := 445) (by decide +kernel)) rfl
set_option maxRecDepth 20000 in
theorem vs_yX7_fault : Cond.selects RX7 yX7_fault yX7_fault ∈ lw_good := lw_in (List.mem_of_getElem? (i := 446) (by decide +kernel)) rfl
set_option maxRecDepth 20000 in
theorem lkM_L_27 : Cond.methodLink RL 27 yX7_told ∈ lw_good := lw_in (List.mem_of_getElem? (i := 448) (by decide +kernel)) rfl
set_option maxRecDepth 20000 in
theorem vi_yX7_told : Cond.instanceMethod yX7_told ∈ lw_good := lw_in (List.mem_of_getElem? (i := 449) (by decide +kernel)) rfl
set_option maxRecDepth 20000 in
theorem vs_yX7_told : Cond.selects RX7 yX7_told yX7_told ∈ lw_good := lw_in (List.mem_of_getElem? (i := 450) (by decide +kernel)) rfl
set_option maxRecDepth 20000 in
theorem nkM_X7_128 : Cond.methodLinkNest RX7 128 yX3_convincedOf "SingleCopy" ∈ nestW := nest_in (List.mem_of_getElem? (i := 452) (by decide +kernel)) rfl
set_option maxRecDepth 20000 in
theorem vi_yX3_convincedOf : Cond.instanceMethod yX3_convincedOf ∈ lw_good := lw_in (List.mem_of_getElem? (i := 454) (by decide +kernel)) rfl
set_option maxRecDepth 20000 in
theorem lkM_L_31 : Cond.methodLink RL 31 yX7_belief ∈ lw_good := lw_in (List.mem_of_getElem? (i := 456) (by decide +kernel)) rfl
set_option maxRecDepth 20000 in
theorem vi_yX7_belief : Cond.instanceMethod yX7_belief ∈ lw_good := lw_in (List.mem_of_getElem? (i := 457) (by decide +kernel)) rfl
set_option maxRecDepth 20000 in
theorem vs_yX7_belief : Cond.selects RX7 yX7_belief yX7_belief ∈ lw_good := lw_in (List.mem_of_getElem? (i := 458) (by decide +kernel)) rfl
set_option maxRecDepth 20000 in
theorem nkM_X7_139 : Cond.methodLinkNest RX7 139 yX1_hasOpinion "SingleCopy" ∈ nestW := nest_in (List.mem_of_getElem? (i := 460) (by decide +kernel)) rfl
set_option maxRecDepth 20000 in
theorem lkM_X7_145 : Cond.methodLink RX7 145 yX7_at ∈ lw_good := lw_in (List.mem_of_getElem? (i := 461) (by decide +kernel)) rfl
set_option maxRecDepth 20000 in
theorem kc_X7_149 : Cond.constant RX7 149 (-1000000001) ∈ lw_good := lw_in (List.mem_of_getElem? (i := 462) (by decide +kernel)) rfl
set_option maxRecDepth 20000 in
theorem lkM_L_35 : Cond.methodLink RL 35 yX7_fact ∈ lw_good := lw_in (List.mem_of_getElem? (i := 463) (by decide +kernel)) rfl
set_option maxRecDepth 20000 in
theorem vi_yX7_fact : Cond.instanceMethod yX7_fact ∈ lw_good := lw_in (List.mem_of_getElem? (i := 464) (by decide +kernel)) rfl
set_option maxRecDepth 20000 in
theorem vs_yX7_fact : Cond.selects RX7 yX7_fact yX7_fact ∈ lw_good := lw_in (List.mem_of_getElem? (i := 465) (by decide +kernel)) rfl
set_option maxRecDepth 20000 in
theorem nkM_X7_150 : Cond.methodLinkNest RX7 150 yX1_hasFact "SingleCopy" ∈ nestW := nest_in (List.mem_of_getElem? (i := 467) (by decide +kernel)) rfl
set_option maxRecDepth 20000 in
theorem lkM_X7_168 : Cond.methodLink RX7 168 yX7_has ∈ lw_good := lw_in (List.mem_of_getElem? (i := 468) (by decide +kernel)) rfl
set_option maxRecDepth 20000 in
theorem st_yX7_has : Cond.static yX7_has ∈ lw_good := lw_in (List.mem_of_getElem? (i := 469) (by decide +kernel)) rfl
set_option maxRecDepth 20000 in
theorem lkM_L_40 : Cond.methodLink RL 40 yX7_night ∈ lw_good := lw_in (List.mem_of_getElem? (i := 471) (by decide +kernel)) rfl
set_option maxRecDepth 20000 in
theorem vi_yX7_night : Cond.instanceMethod yX7_night ∈ lw_good := lw_in (List.mem_of_getElem? (i := 472) (by decide +kernel)) rfl
set_option maxRecDepth 20000 in
theorem vs_yX7_night : Cond.selects RX7 yX7_night yX7_night ∈ lw_good := lw_in (List.mem_of_getElem? (i := 473) (by decide +kernel)) rfl
set_option maxRecDepth 20000 in
theorem nkM_X7_175 : Cond.methodLinkNest RX7 175 yX1_hasFacts "SingleCopy" ∈ nestW := nest_in (List.mem_of_getElem? (i := 475) (by decide +kernel)) rfl
set_option maxRecDepth 20000 in
theorem vi_yX1_hasFacts : Cond.instanceMethod yX1_hasFacts ∈ lw_good := lw_in (List.mem_of_getElem? (i := 477) (by decide +kernel)) rfl
set_option maxRecDepth 20000 in
theorem lkM_X7_178 : Cond.methodLink RX7 178 yX7_mayBe ∈ lw_good := lw_in (List.mem_of_getElem? (i := 479) (by decide +kernel)) rfl
set_option maxRecDepth 20000 in
theorem vi_yX7_mayBe : Cond.instanceMethod yX7_mayBe ∈ lw_good := lw_in (List.mem_of_getElem? (i := 481) (by decide +kernel)) rfl
set_option maxRecDepth 20000 in
theorem nkM_X7_232 : Cond.methodLinkNest RX7 232 yX1_fits "SingleCopy" ∈ nestW := nest_in (List.mem_of_getElem? (i := 483) (by decide +kernel)) rfl
set_option maxRecDepth 20000 in
theorem vi_yX1_fits : Cond.instanceMethod yX1_fits ∈ lw_good := lw_in (List.mem_of_getElem? (i := 485) (by decide +kernel)) rfl
set_option maxRecDepth 20000 in
theorem lkM_X1_51 : Cond.methodLink RX1 51 yJ6_bitCount_0f7a4 ∈ lw_good := lw_in (List.mem_of_getElem? (i := 487) (by decide +kernel)) rfl
set_option maxRecDepth 20000 in
theorem st_yJ6_bitCount_0f7a4 : Cond.static yJ6_bitCount_0f7a4 ∈ lw_good := lw_in (List.mem_of_getElem? (i := 488) (by decide +kernel)) rfl
set_option maxRecDepth 20000 in
theorem kc_J6_265 : Cond.constant RJ6 265 (1431655765) ∈ lw_good := lw_in (List.mem_of_getElem? (i := 490) (by decide +kernel)) rfl
set_option maxRecDepth 20000 in
theorem kc_J6_266 : Cond.constant RJ6 266 (858993459) ∈ lw_good := lw_in (List.mem_of_getElem? (i := 491) (by decide +kernel)) rfl
set_option maxRecDepth 20000 in
theorem kc_J6_267 : Cond.constant RJ6 267 (252645135) ∈ lw_good := lw_in (List.mem_of_getElem? (i := 492) (by decide +kernel)) rfl
set_option maxRecDepth 20000 in
theorem kc_X7_181 : Cond.constant RX7 181 (-1000000003) ∈ lw_good := lw_in (List.mem_of_getElem? (i := 493) (by decide +kernel)) rfl
set_option maxRecDepth 20000 in
theorem kc_X7_182 : Cond.constant RX7 182 (90000) ∈ lw_good := lw_in (List.mem_of_getElem? (i := 494) (by decide +kernel)) rfl
set_option maxRecDepth 20000 in
theorem nkM_X7_183 : Cond.methodLinkNest RX7 183 yX4_push "SingleCopy" ∈ nestW := nest_in (List.mem_of_getElem? (i := 495) (by decide +kernel)) rfl
set_option maxRecDepth 20000 in
theorem vi_yX4_push : Cond.instanceMethod yX4_push ∈ lw_good := lw_in (List.mem_of_getElem? (i := 497) (by decide +kernel)) rfl
set_option maxRecDepth 20000 in
theorem nkM_X4_27 : Cond.methodLinkNest RX4 27 yX6_store "SingleCopy" ∈ nestW := nest_in (List.mem_of_getElem? (i := 499) (by decide +kernel)) rfl
set_option maxRecDepth 20000 in
theorem vi_yX6_store : Cond.instanceMethod yX6_store ∈ lw_good := lw_in (List.mem_of_getElem? (i := 501) (by decide +kernel)) rfl
set_option maxRecDepth 20000 in
theorem nkM_X6_29 : Cond.methodLinkNest RX6 29 yX7_at "SingleCopy" ∈ nestW := nest_in (List.mem_of_getElem? (i := 503) (by decide +kernel)) rfl
set_option maxRecDepth 20000 in
theorem nkM_X6_33 : Cond.methodLinkNest RX6 33 yX7_put "SingleCopy" ∈ nestW := nest_in (List.mem_of_getElem? (i := 504) (by decide +kernel)) rfl
set_option maxRecDepth 20000 in
theorem lkM_X4_31 : Cond.methodLink RX4 31 Lib.Math.min.name ∈ lw_good := lw_in (List.mem_of_getElem? (i := 505) (by decide +kernel)) rfl
set_option maxRecDepth 20000 in
theorem nkM_X7_187 : Cond.methodLinkNest RX7 187 yX3_spendNight "SingleCopy" ∈ nestW := nest_in (List.mem_of_getElem? (i := 506) (by decide +kernel)) rfl
set_option maxRecDepth 20000 in
theorem vi_yX3_spendNight : Cond.instanceMethod yX3_spendNight ∈ lw_good := lw_in (List.mem_of_getElem? (i := 508) (by decide +kernel)) rfl
set_option maxRecDepth 20000 in
theorem nkM_X3_91 : Cond.methodLinkNest RX3 91 yX7_has "SingleCopy" ∈ nestW := nest_in (List.mem_of_getElem? (i := 510) (by decide +kernel)) rfl
set_option maxRecDepth 20000 in
theorem lkM_X3_95 : Cond.methodLink RX3 95 yX3_readFact ∈ lw_good := lw_in (List.mem_of_getElem? (i := 511) (by decide +kernel)) rfl
set_option maxRecDepth 20000 in
theorem vi_yX3_readFact : Cond.instanceMethod yX3_readFact ∈ lw_good := lw_in (List.mem_of_getElem? (i := 513) (by decide +kernel)) rfl
set_option maxRecDepth 20000 in
theorem nkM_X3_76 : Cond.methodLinkNest RX3 76 yX7_wornMove "SingleCopy" ∈ nestW := nest_in (List.mem_of_getElem? (i := 515) (by decide +kernel)) rfl
set_option maxRecDepth 20000 in
theorem st_yX7_wornMove : Cond.static yX7_wornMove ∈ lw_good := lw_in (List.mem_of_getElem? (i := 516) (by decide +kernel)) rfl
set_option maxRecDepth 20000 in
theorem lkM_X3_80 : Cond.methodLink RX3 80 Lib.Math.min.name ∈ lw_good := lw_in (List.mem_of_getElem? (i := 518) (by decide +kernel)) rfl
set_option maxRecDepth 20000 in
theorem lkM_X3_85 : Cond.methodLink RX3 85 Lib.Math.max.name ∈ lw_good := lw_in (List.mem_of_getElem? (i := 519) (by decide +kernel)) rfl
set_option maxRecDepth 20000 in
theorem lkM_L_44 : Cond.methodLink RL 44 yX7_meet ∈ lw_good := lw_in (List.mem_of_getElem? (i := 520) (by decide +kernel)) rfl
set_option maxRecDepth 20000 in
theorem vi_yX7_meet : Cond.instanceMethod yX7_meet ∈ lw_good := lw_in (List.mem_of_getElem? (i := 521) (by decide +kernel)) rfl
set_option maxRecDepth 20000 in
theorem vs_yX7_meet : Cond.selects RX7 yX7_meet yX7_meet ∈ lw_good := lw_in (List.mem_of_getElem? (i := 522) (by decide +kernel)) rfl
set_option maxRecDepth 20000 in
theorem lkM_X7_191 : Cond.methodLink RX7 191 yX7_isBelief ∈ lw_good := lw_in (List.mem_of_getElem? (i := 524) (by decide +kernel)) rfl
set_option maxRecDepth 20000 in
theorem st_yX7_isBelief : Cond.static yX7_isBelief ∈ lw_good := lw_in (List.mem_of_getElem? (i := 525) (by decide +kernel)) rfl
set_option maxRecDepth 20000 in
theorem lkM_X7_194 : Cond.methodLink RX7 194 yX7_behindMeeting ∈ lw_good := lw_in (List.mem_of_getElem? (i := 527) (by decide +kernel)) rfl
set_option maxRecDepth 20000 in
theorem st_yX7_behindMeeting : Cond.static yX7_behindMeeting ∈ lw_good := lw_in (List.mem_of_getElem? (i := 528) (by decide +kernel)) rfl
set_option maxRecDepth 20000 in
theorem lkM_X7_198 : Cond.methodLink RX7 198 yX7_put ∈ lw_good := lw_in (List.mem_of_getElem? (i := 530) (by decide +kernel)) rfl
set_option maxRecDepth 20000 in
theorem lkM_L_48 : Cond.methodLink RL 48 yX7_make ∈ lw_good := lw_in (List.mem_of_getElem? (i := 531) (by decide +kernel)) rfl
set_option maxRecDepth 20000 in
theorem vi_yX7_make : Cond.instanceMethod yX7_make ∈ lw_good := lw_in (List.mem_of_getElem? (i := 532) (by decide +kernel)) rfl
set_option maxRecDepth 20000 in
theorem vs_yX7_make : Cond.selects RX7 yX7_make yX7_make ∈ lw_good := lw_in (List.mem_of_getElem? (i := 533) (by decide +kernel)) rfl
set_option maxRecDepth 20000 in
theorem lkM_L_52 : Cond.methodLink RL 52 yX7_drift ∈ lw_good := lw_in (List.mem_of_getElem? (i := 535) (by decide +kernel)) rfl
set_option maxRecDepth 20000 in
theorem vi_yX7_drift : Cond.instanceMethod yX7_drift ∈ lw_good := lw_in (List.mem_of_getElem? (i := 536) (by decide +kernel)) rfl
set_option maxRecDepth 20000 in
theorem vs_yX7_drift : Cond.selects RX7 yX7_drift yX7_drift ∈ lw_good := lw_in (List.mem_of_getElem? (i := 537) (by decide +kernel)) rfl
set_option maxRecDepth 20000 in
theorem lkM_X7_202 : Cond.methodLink RX7 202 yX7_drawnSheet ∈ lw_good := lw_in (List.mem_of_getElem? (i := 539) (by decide +kernel)) rfl
set_option maxRecDepth 20000 in
theorem vi_yX7_drawnSheet : Cond.instanceMethod yX7_drawnSheet ∈ lw_good := lw_in (List.mem_of_getElem? (i := 541) (by decide +kernel)) rfl
set_option maxRecDepth 20000 in
theorem lkM_X7_275 : Cond.methodLink RX7 275 yX7_drawOf ∈ lw_good := lw_in (List.mem_of_getElem? (i := 543) (by decide +kernel)) rfl
set_option maxRecDepth 20000 in
theorem vi_yX7_drawOf : Cond.instanceMethod yX7_drawOf ∈ lw_good := lw_in (List.mem_of_getElem? (i := 545) (by decide +kernel)) rfl
set_option maxRecDepth 20000 in
theorem kc_X7_268 : Cond.constantLong RX7 268 (1103515245) ∈ lw_good := lw_in (List.mem_of_getElem? (i := 547) (by decide +kernel)) rfl
set_option maxRecDepth 20000 in
theorem kc_X7_270 : Cond.constantLong RX7 270 (12345) ∈ lw_good := lw_in (List.mem_of_getElem? (i := 548) (by decide +kernel)) rfl
set_option maxRecDepth 20000 in
theorem kc_X7_272 : Cond.constantLong RX7 272 (2147483647) ∈ lw_good := lw_in (List.mem_of_getElem? (i := 549) (by decide +kernel)) rfl
set_option maxRecDepth 20000 in
theorem kc_X7_274 : Cond.constant RX7 274 (65536) ∈ lw_good := lw_in (List.mem_of_getElem? (i := 550) (by decide +kernel)) rfl
set_option maxRecDepth 20000 in
theorem lkM_L_56 : Cond.methodLink RL 56 yX7_undo ∈ lw_good := lw_in (List.mem_of_getElem? (i := 551) (by decide +kernel)) rfl
set_option maxRecDepth 20000 in
theorem vi_yX7_undo : Cond.instanceMethod yX7_undo ∈ lw_good := lw_in (List.mem_of_getElem? (i := 552) (by decide +kernel)) rfl
set_option maxRecDepth 20000 in
theorem vs_yX7_undo : Cond.selects RX7 yX7_undo yX7_undo ∈ lw_good := lw_in (List.mem_of_getElem? (i := 553) (by decide +kernel)) rfl
set_option maxRecDepth 20000 in
theorem nkM_X7_206 : Cond.methodLinkNest RX7 206 yX4_pop "SingleCopy" ∈ nestW := nest_in (List.mem_of_getElem? (i := 555) (by decide +kernel)) rfl
set_option maxRecDepth 20000 in
theorem vi_yX4_pop : Cond.instanceMethod yX4_pop ∈ lw_good := lw_in (List.mem_of_getElem? (i := 557) (by decide +kernel)) rfl
set_option maxRecDepth 20000 in
theorem nkM_X4_37 : Cond.methodLinkNest RX4 37 yX6_fetch "SingleCopy" ∈ nestW := nest_in (List.mem_of_getElem? (i := 559) (by decide +kernel)) rfl
set_option maxRecDepth 20000 in
theorem vi_yX6_fetch : Cond.instanceMethod yX6_fetch ∈ lw_good := lw_in (List.mem_of_getElem? (i := 561) (by decide +kernel)) rfl
set_option maxRecDepth 20000 in
theorem lkM_L_60 : Cond.methodLink RL 60 yX7_thinks ∈ lw_good := lw_in (List.mem_of_getElem? (i := 563) (by decide +kernel)) rfl
set_option maxRecDepth 20000 in
theorem vi_yX7_thinks : Cond.instanceMethod yX7_thinks ∈ lw_good := lw_in (List.mem_of_getElem? (i := 564) (by decide +kernel)) rfl
set_option maxRecDepth 20000 in
theorem vs_yX7_thinks : Cond.selects RX7 yX7_thinks yX7_thinks ∈ lw_good := lw_in (List.mem_of_getElem? (i := 565) (by decide +kernel)) rfl
set_option maxRecDepth 20000 in
theorem nkM_X7_210 : Cond.methodLinkNest RX7 210 yX3_copyFrom "SingleCopy" ∈ nestW := nest_in (List.mem_of_getElem? (i := 567) (by decide +kernel)) rfl
set_option maxRecDepth 20000 in
theorem vi_yX3_copyFrom : Cond.instanceMethod yX3_copyFrom ∈ lw_good := lw_in (List.mem_of_getElem? (i := 569) (by decide +kernel)) rfl
set_option maxRecDepth 20000 in
theorem lkM_L_64 : Cond.methodLink RL 64 yX7_soonest ∈ lw_good := lw_in (List.mem_of_getElem? (i := 571) (by decide +kernel)) rfl
set_option maxRecDepth 20000 in
theorem vi_yX7_soonest : Cond.instanceMethod yX7_soonest ∈ lw_good := lw_in (List.mem_of_getElem? (i := 572) (by decide +kernel)) rfl
set_option maxRecDepth 20000 in
theorem vs_yX7_soonest : Cond.selects RX7 yX7_soonest yX7_soonest ∈ lw_good := lw_in (List.mem_of_getElem? (i := 573) (by decide +kernel)) rfl
set_option maxRecDepth 20000 in
theorem nkM_X7_212 : Cond.methodLinkNest RX7 212 yX1_hasOpinions "SingleCopy" ∈ nestW := nest_in (List.mem_of_getElem? (i := 575) (by decide +kernel)) rfl
set_option maxRecDepth 20000 in
theorem vi_yX1_hasOpinions : Cond.instanceMethod yX1_hasOpinions ∈ lw_good := lw_in (List.mem_of_getElem? (i := 577) (by decide +kernel)) rfl
set_option maxRecDepth 20000 in
theorem lkM_X7_215 : Cond.methodLink RX7 215 yX7_findSoonest ∈ lw_good := lw_in (List.mem_of_getElem? (i := 579) (by decide +kernel)) rfl
set_option maxRecDepth 20000 in
theorem vi_yX7_findSoonest : Cond.instanceMethod yX7_findSoonest ∈ lw_good := lw_in (List.mem_of_getElem? (i := 581) (by decide +kernel)) rfl
set_option maxRecDepth 20000 in
theorem nkM_X7_280 : Cond.methodLinkNest RX7 280 yX3_isConvinced "SingleCopy" ∈ nestW := nest_in (List.mem_of_getElem? (i := 583) (by decide +kernel)) rfl
set_option maxRecDepth 20000 in
theorem vi_yX3_isConvinced : Cond.instanceMethod yX3_isConvinced ∈ lw_good := lw_in (List.mem_of_getElem? (i := 585) (by decide +kernel)) rfl
set_option maxRecDepth 20000 in
theorem lkM_X3_60 : Cond.methodLink RX3 60 yX3_convincedOf ∈ lw_good := lw_in (List.mem_of_getElem? (i := 587) (by decide +kernel)) rfl
set_option maxRecDepth 20000 in
theorem nkM_X7_284 : Cond.methodLinkNest RX7 284 yX5_become "SingleCopy" ∈ nestW := nest_in (List.mem_of_getElem? (i := 588) (by decide +kernel)) rfl
set_option maxRecDepth 20000 in
theorem vi_yX5_become : Cond.instanceMethod yX5_become ∈ lw_good := lw_in (List.mem_of_getElem? (i := 590) (by decide +kernel)) rfl
set_option maxRecDepth 20000 in
theorem lkM_X7_288 : Cond.methodLink RX7 288 yX7_findOneNight ∈ lw_good := lw_in (List.mem_of_getElem? (i := 592) (by decide +kernel)) rfl
set_option maxRecDepth 20000 in
theorem vi_yX7_findOneNight : Cond.instanceMethod yX7_findOneNight ∈ lw_good := lw_in (List.mem_of_getElem? (i := 594) (by decide +kernel)) rfl
set_option maxRecDepth 20000 in
theorem lkM_X7_292 : Cond.methodLink RX7 292 yX7_findTwoNights ∈ lw_good := lw_in (List.mem_of_getElem? (i := 596) (by decide +kernel)) rfl
set_option maxRecDepth 20000 in
theorem vi_yX7_findTwoNights : Cond.instanceMethod yX7_findTwoNights ∈ lw_good := lw_in (List.mem_of_getElem? (i := 598) (by decide +kernel)) rfl
set_option maxRecDepth 20000 in
theorem lkM_L_69 : Cond.methodLink RL 69 yX7_cannot ∈ lw_good := lw_in (List.mem_of_getElem? (i := 600) (by decide +kernel)) rfl
set_option maxRecDepth 20000 in
theorem vi_yX7_cannot : Cond.instanceMethod yX7_cannot ∈ lw_good := lw_in (List.mem_of_getElem? (i := 601) (by decide +kernel)) rfl
set_option maxRecDepth 20000 in
theorem vs_yX7_cannot : Cond.selects RX7 yX7_cannot yX7_cannot ∈ lw_good := lw_in (List.mem_of_getElem? (i := 602) (by decide +kernel)) rfl
set_option maxRecDepth 20000 in
theorem lkM_X7_225 : Cond.methodLink RX7 225 yX7_reachedBehind ∈ lw_good := lw_in (List.mem_of_getElem? (i := 604) (by decide +kernel)) rfl
set_option maxRecDepth 20000 in
theorem vi_yX7_reachedBehind : Cond.instanceMethod yX7_reachedBehind ∈ lw_good := lw_in (List.mem_of_getElem? (i := 606) (by decide +kernel)) rfl
set_option maxRecDepth 20000 in
theorem lkM_L_73 : Cond.methodLink RL 73 yX7_least ∈ lw_good := lw_in (List.mem_of_getElem? (i := 608) (by decide +kernel)) rfl
set_option maxRecDepth 20000 in
theorem vi_yX7_least : Cond.instanceMethod yX7_least ∈ lw_good := lw_in (List.mem_of_getElem? (i := 609) (by decide +kernel)) rfl
set_option maxRecDepth 20000 in
theorem vs_yX7_least : Cond.selects RX7 yX7_least yX7_least ∈ lw_good := lw_in (List.mem_of_getElem? (i := 610) (by decide +kernel)) rfl
set_option maxRecDepth 20000 in
theorem nkM_X7_229 : Cond.methodLinkNest RX7 229 yX1_costOf "SingleCopy" ∈ nestW := nest_in (List.mem_of_getElem? (i := 612) (by decide +kernel)) rfl
set_option maxRecDepth 20000 in
theorem vi_yX1_costOf : Cond.instanceMethod yX1_costOf ∈ lw_good := lw_in (List.mem_of_getElem? (i := 614) (by decide +kernel)) rfl
set_option maxRecDepth 20000 in
theorem nkM_X1_57 : Cond.methodLinkNest RX1 57 yX7_has "SingleCopy" ∈ nestW := nest_in (List.mem_of_getElem? (i := 616) (by decide +kernel)) rfl
set_option maxRecDepth 20000 in
theorem lkM_X7_235 : Cond.methodLink RX7 235 yX7_convincesOf ∈ lw_good := lw_in (List.mem_of_getElem? (i := 617) (by decide +kernel)) rfl
set_option maxRecDepth 20000 in
theorem vi_yX7_convincesOf : Cond.instanceMethod yX7_convincesOf ∈ lw_good := lw_in (List.mem_of_getElem? (i := 619) (by decide +kernel)) rfl
set_option maxRecDepth 20000 in
theorem lkM_L_77 : Cond.methodLink RL 77 yX7_rivals ∈ lw_good := lw_in (List.mem_of_getElem? (i := 621) (by decide +kernel)) rfl
set_option maxRecDepth 20000 in
theorem vi_yX7_rivals : Cond.instanceMethod yX7_rivals ∈ lw_good := lw_in (List.mem_of_getElem? (i := 622) (by decide +kernel)) rfl
set_option maxRecDepth 20000 in
theorem vs_yX7_rivals : Cond.selects RX7 yX7_rivals yX7_rivals ∈ lw_good := lw_in (List.mem_of_getElem? (i := 623) (by decide +kernel)) rfl
set_option maxRecDepth 20000 in
theorem lkM_X7_238 : Cond.methodLink RX7 238 yX7_rivalsEnd ∈ lw_good := lw_in (List.mem_of_getElem? (i := 625) (by decide +kernel)) rfl
set_option maxRecDepth 20000 in
theorem st_yX7_rivalsEnd : Cond.static yX7_rivalsEnd ∈ lw_good := lw_in (List.mem_of_getElem? (i := 626) (by decide +kernel)) rfl
set_option maxRecDepth 20000 in
theorem nkM_X7_295 : Cond.methodLinkNest RX7 295 yX3_readFact "SingleCopy" ∈ nestW := nest_in (List.mem_of_getElem? (i := 628) (by decide +kernel)) rfl
set_option maxRecDepth 20000 in
theorem nkM_X7_298 : Cond.methodLinkNest RX7 298 yX3_unread "SingleCopy" ∈ nestW := nest_in (List.mem_of_getElem? (i := 629) (by decide +kernel)) rfl
set_option maxRecDepth 20000 in
theorem vi_yX3_unread : Cond.instanceMethod yX3_unread ∈ lw_good := lw_in (List.mem_of_getElem? (i := 631) (by decide +kernel)) rfl
set_option maxRecDepth 20000 in
theorem lkM_X7_301 : Cond.methodLink RX7 301 Lib.Math.max.name ∈ lw_good := lw_in (List.mem_of_getElem? (i := 633) (by decide +kernel)) rfl
set_option maxRecDepth 20000 in
theorem lkM_X7_306 : Cond.methodLink RX7 306 Lib.Math.min.name ∈ lw_good := lw_in (List.mem_of_getElem? (i := 634) (by decide +kernel)) rfl
set_option maxRecDepth 20000 in
theorem lkM_L_81 : Cond.methodLink RL 81 yX7_shun ∈ lw_good := lw_in (List.mem_of_getElem? (i := 635) (by decide +kernel)) rfl
set_option maxRecDepth 20000 in
theorem vi_yX7_shun : Cond.instanceMethod yX7_shun ∈ lw_good := lw_in (List.mem_of_getElem? (i := 636) (by decide +kernel)) rfl
set_option maxRecDepth 20000 in
theorem vs_yX7_shun : Cond.selects RX7 yX7_shun yX7_shun ∈ lw_good := lw_in (List.mem_of_getElem? (i := 637) (by decide +kernel)) rfl
set_option maxRecDepth 20000 in
theorem lkM_L_85 : Cond.methodLink RL 85 yX7_holds ∈ lw_good := lw_in (List.mem_of_getElem? (i := 639) (by decide +kernel)) rfl
set_option maxRecDepth 20000 in
theorem vi_yX7_holds : Cond.instanceMethod yX7_holds ∈ lw_good := lw_in (List.mem_of_getElem? (i := 640) (by decide +kernel)) rfl
set_option maxRecDepth 20000 in
theorem vs_yX7_holds : Cond.selects RX7 yX7_holds yX7_holds ∈ lw_good := lw_in (List.mem_of_getElem? (i := 641) (by decide +kernel)) rfl
set_option maxRecDepth 20000 in
theorem kc_X7_242 : Cond.constantLong RX7 242 (1000000000) ∈ lw_good := lw_in (List.mem_of_getElem? (i := 643) (by decide +kernel)) rfl
set_option maxRecDepth 20000 in
theorem kc_X7_244 : Cond.constantLong RX7 244 (100) ∈ lw_good := lw_in (List.mem_of_getElem? (i := 644) (by decide +kernel)) rfl
set_option maxRecDepth 20000 in
theorem lkM_L_89 : Cond.methodLink RL 89 yX7_worn ∈ lw_good := lw_in (List.mem_of_getElem? (i := 645) (by decide +kernel)) rfl
set_option maxRecDepth 20000 in
theorem vi_yX7_worn : Cond.instanceMethod yX7_worn ∈ lw_good := lw_in (List.mem_of_getElem? (i := 646) (by decide +kernel)) rfl
set_option maxRecDepth 20000 in
theorem vs_yX7_worn : Cond.selects RX7 yX7_worn yX7_worn ∈ lw_good := lw_in (List.mem_of_getElem? (i := 647) (by decide +kernel)) rfl
set_option maxRecDepth 20000 in
theorem lkM_X7_246 : Cond.methodLink RX7 246 yX7_wornMove ∈ lw_good := lw_in (List.mem_of_getElem? (i := 649) (by decide +kernel)) rfl
set_option maxRecDepth 20000 in
theorem lkM_L_93 : Cond.methodLink RL 93 yX7_thought ∈ lw_good := lw_in (List.mem_of_getElem? (i := 650) (by decide +kernel)) rfl
set_option maxRecDepth 20000 in
theorem vi_yX7_thought : Cond.instanceMethod yX7_thought ∈ lw_good := lw_in (List.mem_of_getElem? (i := 651) (by decide +kernel)) rfl
set_option maxRecDepth 20000 in
theorem vs_yX7_thought : Cond.selects RX7 yX7_thought yX7_thought ∈ lw_good := lw_in (List.mem_of_getElem? (i := 652) (by decide +kernel)) rfl
set_option maxRecDepth 20000 in
theorem lkM_X7_249 : Cond.methodLink RX7 249 yX7_noteIn ∈ lw_good := lw_in (List.mem_of_getElem? (i := 654) (by decide +kernel)) rfl
set_option maxRecDepth 20000 in
theorem vi_yX7_noteIn : Cond.instanceMethod yX7_noteIn ∈ lw_good := lw_in (List.mem_of_getElem? (i := 656) (by decide +kernel)) rfl
set_option maxRecDepth 20000 in
theorem nkM_X7_278 : Cond.methodLinkNest RX7 278 yX0_append "SingleCopy" ∈ nestW := nest_in (List.mem_of_getElem? (i := 658) (by decide +kernel)) rfl
set_option maxRecDepth 20000 in
theorem vi_yX0_append : Cond.instanceMethod yX0_append ∈ lw_good := lw_in (List.mem_of_getElem? (i := 660) (by decide +kernel)) rfl
set_option maxRecDepth 20000 in
theorem nkM_X0_28 : Cond.methodLinkNest RX0 28 yX7_put "SingleCopy" ∈ nestW := nest_in (List.mem_of_getElem? (i := 662) (by decide +kernel)) rfl
set_option maxRecDepth 20000 in
theorem lkM_L_97 : Cond.methodLink RL 97 yX7_leftOut ∈ lw_good := lw_in (List.mem_of_getElem? (i := 663) (by decide +kernel)) rfl
set_option maxRecDepth 20000 in
theorem vi_yX7_leftOut : Cond.instanceMethod yX7_leftOut ∈ lw_good := lw_in (List.mem_of_getElem? (i := 664) (by decide +kernel)) rfl
set_option maxRecDepth 20000 in
theorem vs_yX7_leftOut : Cond.selects RX7 yX7_leftOut yX7_leftOut ∈ lw_good := lw_in (List.mem_of_getElem? (i := 665) (by decide +kernel)) rfl
set_option maxRecDepth 20000 in
theorem lkM_X7_253 : Cond.methodLink RX7 253 yX7_thoughtBehind ∈ lw_good := lw_in (List.mem_of_getElem? (i := 667) (by decide +kernel)) rfl
set_option maxRecDepth 20000 in
theorem vi_yX7_thoughtBehind : Cond.instanceMethod yX7_thoughtBehind ∈ lw_good := lw_in (List.mem_of_getElem? (i := 669) (by decide +kernel)) rfl
set_option maxRecDepth 20000 in
theorem nkM_X7_257 : Cond.methodLinkNest RX7 257 yX0_firstOtherwise "SingleCopy" ∈ nestW := nest_in (List.mem_of_getElem? (i := 671) (by decide +kernel)) rfl
set_option maxRecDepth 20000 in
theorem vi_yX0_firstOtherwise : Cond.instanceMethod yX0_firstOtherwise ∈ lw_good := lw_in (List.mem_of_getElem? (i := 673) (by decide +kernel)) rfl
set_option maxRecDepth 20000 in
theorem nkM_X0_37 : Cond.methodLinkNest RX0 37 yX7_at "SingleCopy" ∈ nestW := nest_in (List.mem_of_getElem? (i := 675) (by decide +kernel)) rfl
set_option maxRecDepth 20000 in
theorem lkM_L_101 : Cond.methodLink RL 101 yX7_strengths ∈ lw_good := lw_in (List.mem_of_getElem? (i := 676) (by decide +kernel)) rfl
set_option maxRecDepth 20000 in
theorem vi_yX7_strengths : Cond.instanceMethod yX7_strengths ∈ lw_good := lw_in (List.mem_of_getElem? (i := 677) (by decide +kernel)) rfl
set_option maxRecDepth 20000 in
theorem vs_yX7_strengths : Cond.selects RX7 yX7_strengths yX7_strengths ∈ lw_good := lw_in (List.mem_of_getElem? (i := 678) (by decide +kernel)) rfl
set_option maxRecDepth 20000 in
theorem lkM_L_105 : Cond.methodLink RL 105 yX7_write ∈ lw_good := lw_in (List.mem_of_getElem? (i := 680) (by decide +kernel)) rfl
set_option maxRecDepth 20000 in
theorem vi_yX7_write : Cond.instanceMethod yX7_write ∈ lw_good := lw_in (List.mem_of_getElem? (i := 681) (by decide +kernel)) rfl
set_option maxRecDepth 20000 in
theorem vs_yX7_write : Cond.selects RX7 yX7_write yX7_write ∈ lw_good := lw_in (List.mem_of_getElem? (i := 682) (by decide +kernel)) rfl
set_option maxRecDepth 20000 in
theorem lkM_L_109 : Cond.methodLink RL 109 yX7_tear ∈ lw_good := lw_in (List.mem_of_getElem? (i := 684) (by decide +kernel)) rfl
set_option maxRecDepth 20000 in
theorem vi_yX7_tear : Cond.instanceMethod yX7_tear ∈ lw_good := lw_in (List.mem_of_getElem? (i := 685) (by decide +kernel)) rfl
set_option maxRecDepth 20000 in
theorem vs_yX7_tear : Cond.selects RX7 yX7_tear yX7_tear ∈ lw_good := lw_in (List.mem_of_getElem? (i := 686) (by decide +kernel)) rfl
set_option maxRecDepth 20000 in
theorem lkM_L_113 : Cond.methodLink RL 113 yX7_judge ∈ lw_good := lw_in (List.mem_of_getElem? (i := 688) (by decide +kernel)) rfl
set_option maxRecDepth 20000 in
theorem vi_yX7_judge : Cond.instanceMethod yX7_judge ∈ lw_good := lw_in (List.mem_of_getElem? (i := 689) (by decide +kernel)) rfl
set_option maxRecDepth 20000 in
theorem vs_yX7_judge : Cond.selects RX7 yX7_judge yX7_judge ∈ lw_good := lw_in (List.mem_of_getElem? (i := 690) (by decide +kernel)) rfl
set_option maxRecDepth 20000 in
theorem lkM_L_117 : Cond.methodLink RL 117 yX7_seed ∈ lw_good := lw_in (List.mem_of_getElem? (i := 692) (by decide +kernel)) rfl
set_option maxRecDepth 20000 in
theorem vi_yX7_seed : Cond.instanceMethod yX7_seed ∈ lw_good := lw_in (List.mem_of_getElem? (i := 693) (by decide +kernel)) rfl
set_option maxRecDepth 20000 in
theorem vs_yX7_seed : Cond.selects RX7 yX7_seed yX7_seed ∈ lw_good := lw_in (List.mem_of_getElem? (i := 694) (by decide +kernel)) rfl
set_option maxRecDepth 20000 in
theorem lkM_L_121 : Cond.methodLink RL 121 yX7_keep ∈ lw_good := lw_in (List.mem_of_getElem? (i := 696) (by decide +kernel)) rfl
set_option maxRecDepth 20000 in
theorem vi_yX7_keep : Cond.instanceMethod yX7_keep ∈ lw_good := lw_in (List.mem_of_getElem? (i := 697) (by decide +kernel)) rfl
set_option maxRecDepth 20000 in
theorem vs_yX7_keep : Cond.selects RX7 yX7_keep yX7_keep ∈ lw_good := lw_in (List.mem_of_getElem? (i := 698) (by decide +kernel)) rfl
set_option maxRecDepth 20000 in
theorem nkM_X7_261 : Cond.methodLinkNest RX7 261 yX6_store "SingleCopy" ∈ nestW := nest_in (List.mem_of_getElem? (i := 700) (by decide +kernel)) rfl
set_option maxRecDepth 20000 in
theorem lkM_L_125 : Cond.methodLink RL 125 yX7_goBack ∈ lw_good := lw_in (List.mem_of_getElem? (i := 701) (by decide +kernel)) rfl
set_option maxRecDepth 20000 in
theorem vi_yX7_goBack : Cond.instanceMethod yX7_goBack ∈ lw_good := lw_in (List.mem_of_getElem? (i := 702) (by decide +kernel)) rfl
set_option maxRecDepth 20000 in
theorem vs_yX7_goBack : Cond.selects RX7 yX7_goBack yX7_goBack ∈ lw_good := lw_in (List.mem_of_getElem? (i := 703) (by decide +kernel)) rfl
set_option maxRecDepth 20000 in
theorem nkM_X7_265 : Cond.methodLinkNest RX7 265 yX6_fetch "SingleCopy" ∈ nestW := nest_in (List.mem_of_getElem? (i := 705) (by decide +kernel)) rfl
set_option maxRecDepth 20000 in
theorem lkM_L_12 : Cond.methodLink RL 12 yX8_init ∈ lw_good := lw_in (List.mem_of_getElem? (i := 708) (by decide +kernel)) rfl
set_option maxRecDepth 20000 in
theorem vi_yX8_init : Cond.instanceMethod yX8_init ∈ lw_good := lw_in (List.mem_of_getElem? (i := 709) (by decide +kernel)) rfl
set_option maxRecDepth 20000 in
theorem lkM_X8_1 : Cond.methodLink RX8 1 objectInit ∈ lw_good := lw_in (List.mem_of_getElem? (i := 711) (by decide +kernel)) rfl
set_option maxRecDepth 20000 in
theorem lkM_X8_60 : Cond.methodLink RX8 60 yX8_begins ∈ lw_good := lw_in (List.mem_of_getElem? (i := 712) (by decide +kernel)) rfl
set_option maxRecDepth 20000 in
theorem vi_yX8_begins : Cond.instanceMethod yX8_begins ∈ lw_good := lw_in (List.mem_of_getElem? (i := 714) (by decide +kernel)) rfl
set_option maxRecDepth 20000 in
theorem lkF_X8_7 : Cond.fieldLink RX8 7 "SingleCopyModel" "city" "[I" ∈ lw_good := lw_in (List.mem_of_getElem? (i := 716) (by decide +kernel)) rfl
set_option maxRecDepth 20000 in
theorem lkF_X8_13 : Cond.fieldLink RX8 13 "SingleCopyModel" "read" "[I" ∈ lw_good := lw_in (List.mem_of_getElem? (i := 717) (by decide +kernel)) rfl
set_option maxRecDepth 20000 in
theorem lkF_X8_16 : Cond.fieldLink RX8 16 "SingleCopyModel" "now" "[I" ∈ lw_good := lw_in (List.mem_of_getElem? (i := 718) (by decide +kernel)) rfl
set_option maxRecDepth 20000 in
theorem lkF_X8_19 : Cond.fieldLink RX8 19 "SingleCopyModel" "past" "[I" ∈ lw_good := lw_in (List.mem_of_getElem? (i := 719) (by decide +kernel)) rfl
set_option maxRecDepth 20000 in
theorem lkF_X8_63 : Cond.fieldLink RX8 63 "SingleCopyModel" "undos" "I" ∈ lw_good := lw_in (List.mem_of_getElem? (i := 720) (by decide +kernel)) rfl
set_option maxRecDepth 20000 in
theorem lkF_X8_22 : Cond.fieldLink RX8 22 "SingleCopyModel" "images" "[I" ∈ lw_good := lw_in (List.mem_of_getElem? (i := 721) (by decide +kernel)) rfl
set_option maxRecDepth 20000 in
theorem lkF_X8_25 : Cond.fieldLink RX8 25 "SingleCopyModel" "kept" "[Z" ∈ lw_good := lw_in (List.mem_of_getElem? (i := 722) (by decide +kernel)) rfl
set_option maxRecDepth 20000 in
theorem lkF_X8_190 : Cond.fieldLink RX8 190 "SingleCopyModel" "seed" "J" ∈ lw_good := lw_in (List.mem_of_getElem? (i := 723) (by decide +kernel)) rfl
set_option maxRecDepth 20000 in
theorem lkF_X8_29 : Cond.fieldLink RX8 29 "SingleCopyModel" "text" "[I" ∈ lw_good := lw_in (List.mem_of_getElem? (i := 724) (by decide +kernel)) rfl
set_option maxRecDepth 20000 in
theorem lkF_X8_79 : Cond.fieldLink RX8 79 "SingleCopyModel" "size" "I" ∈ lw_good := lw_in (List.mem_of_getElem? (i := 725) (by decide +kernel)) rfl
set_option maxRecDepth 20000 in
theorem lkF_X8_32 : Cond.fieldLink RX8 32 "SingleCopyModel" "fault" "I" ∈ lw_good := lw_in (List.mem_of_getElem? (i := 726) (by decide +kernel)) rfl
set_option maxRecDepth 20000 in
theorem lkF_X8_36 : Cond.fieldLink RX8 36 "SingleCopyModel" "thoughts" "[I" ∈ lw_good := lw_in (List.mem_of_getElem? (i := 727) (by decide +kernel)) rfl
set_option maxRecDepth 20000 in
theorem lkF_X8_66 : Cond.fieldLink RX8 66 "SingleCopyModel" "thoughtMany" "I" ∈ lw_good := lw_in (List.mem_of_getElem? (i := 728) (by decide +kernel)) rfl
set_option maxRecDepth 20000 in
theorem lkF_X8_39 : Cond.fieldLink RX8 39 "SingleCopyModel" "book" "[I" ∈ lw_good := lw_in (List.mem_of_getElem? (i := 729) (by decide +kernel)) rfl
set_option maxRecDepth 20000 in
theorem lkF_X8_69 : Cond.fieldLink RX8 69 "SingleCopyModel" "bookMany" "I" ∈ lw_good := lw_in (List.mem_of_getElem? (i := 730) (by decide +kernel)) rfl
set_option maxRecDepth 20000 in
theorem lkF_X8_83 : Cond.fieldLink RX8 83 "SingleCopyModel" "at" "I" ∈ lw_good := lw_in (List.mem_of_getElem? (i := 731) (by decide +kernel)) rfl
set_option maxRecDepth 20000 in
theorem lkF_X8_90 : Cond.fieldLink RX8 90 "SingleCopyModel" "begin" "I" ∈ lw_good := lw_in (List.mem_of_getElem? (i := 732) (by decide +kernel)) rfl
set_option maxRecDepth 20000 in
theorem lkF_X8_93 : Cond.fieldLink RX8 93 "SingleCopyModel" "sign" "I" ∈ lw_good := lw_in (List.mem_of_getElem? (i := 733) (by decide +kernel)) rfl
set_option maxRecDepth 20000 in
theorem lkF_X8_96 : Cond.fieldLink RX8 96 "SingleCopyModel" "figures" "I" ∈ lw_good := lw_in (List.mem_of_getElem? (i := 734) (by decide +kernel)) rfl
set_option maxRecDepth 20000 in
theorem lkF_X8_99 : Cond.fieldLink RX8 99 "SingleCopyModel" "value" "I" ∈ lw_good := lw_in (List.mem_of_getElem? (i := 735) (by decide +kernel)) rfl
set_option maxRecDepth 20000 in
theorem lkF_X8_106 : Cond.fieldLink RX8 106 "SingleCopyModel" "wrong" "I" ∈ lw_good := lw_in (List.mem_of_getElem? (i := 736) (by decide +kernel)) rfl
set_option maxRecDepth 20000 in
theorem lkF_X8_42 : Cond.fieldLink RX8 42 "SingleCopyModel" "tonight" "[I" ∈ lw_good := lw_in (List.mem_of_getElem? (i := 737) (by decide +kernel)) rfl
set_option maxRecDepth 20000 in
theorem lkF_X8_45 : Cond.fieldLink RX8 45 "SingleCopyModel" "tomorrow" "[I" ∈ lw_good := lw_in (List.mem_of_getElem? (i := 738) (by decide +kernel)) rfl
set_option maxRecDepth 20000 in
theorem lkF_X8_213 : Cond.fieldLink RX8 213 "SingleCopyModel" "firstSheet" "I" ∈ lw_good := lw_in (List.mem_of_getElem? (i := 739) (by decide +kernel)) rfl
set_option maxRecDepth 20000 in
theorem lkF_X8_216 : Cond.fieldLink RX8 216 "SingleCopyModel" "secondSheet" "I" ∈ lw_good := lw_in (List.mem_of_getElem? (i := 740) (by decide +kernel)) rfl
set_option maxRecDepth 20000 in
theorem lkF_X8_48 : Cond.fieldLink RX8 48 "SingleCopyModel" "steps" "[I" ∈ lw_good := lw_in (List.mem_of_getElem? (i := 741) (by decide +kernel)) rfl
set_option maxRecDepth 20000 in
theorem lkF_X8_51 : Cond.fieldLink RX8 51 "SingleCopyModel" "printed" "[I" ∈ lw_good := lw_in (List.mem_of_getElem? (i := 742) (by decide +kernel)) rfl
set_option maxRecDepth 20000 in
theorem lkF_X8_54 : Cond.fieldLink RX8 54 "SingleCopyModel" "tried" "[I" ∈ lw_good := lw_in (List.mem_of_getElem? (i := 743) (by decide +kernel)) rfl
set_option maxRecDepth 20000 in
theorem lkF_X8_57 : Cond.fieldLink RX8 57 "SingleCopyModel" "best" "[I" ∈ lw_good := lw_in (List.mem_of_getElem? (i := 744) (by decide +kernel)) rfl
set_option maxRecDepth 20000 in
theorem lkM_L_17 : Cond.methodLink RL 17 yX8_feed ∈ lw_good := lw_in (List.mem_of_getElem? (i := 805) (by decide +kernel)) rfl
set_option maxRecDepth 20000 in
theorem vi_yX8_feed : Cond.instanceMethod yX8_feed ∈ lw_good := lw_in (List.mem_of_getElem? (i := 806) (by decide +kernel)) rfl
set_option maxRecDepth 20000 in
theorem vs_yX8_feed : Cond.selects RX8 yX8_feed yX8_feed ∈ lw_good := lw_in (List.mem_of_getElem? (i := 807) (by decide +kernel)) rfl
set_option maxRecDepth 20000 in
theorem kc_X8_72 : Cond.constantLong RX8 72 (255) ∈ lw_good := lw_in (List.mem_of_getElem? (i := 809) (by decide +kernel)) rfl
set_option maxRecDepth 20000 in
theorem lkM_X8_74 : Cond.methodLink RX8 74 yX8_in ∈ lw_good := lw_in (List.mem_of_getElem? (i := 810) (by decide +kernel)) rfl
set_option maxRecDepth 20000 in
theorem st_yX8_in : Cond.static yX8_in ∈ lw_good := lw_in (List.mem_of_getElem? (i := 811) (by decide +kernel)) rfl
set_option maxRecDepth 20000 in
theorem kc_X8_78 : Cond.constant RX8 78 (-1000000002) ∈ lw_good := lw_in (List.mem_of_getElem? (i := 813) (by decide +kernel)) rfl
set_option maxRecDepth 20000 in
theorem kc_X8_82 : Cond.constant RX8 82 (-1000000004) ∈ lw_good := lw_in (List.mem_of_getElem? (i := 814) (by decide +kernel)) rfl
set_option maxRecDepth 20000 in
theorem lkM_L_22 : Cond.methodLink RL 22 yX8_city ∈ lw_good := lw_in (List.mem_of_getElem? (i := 815) (by decide +kernel)) rfl
set_option maxRecDepth 20000 in
theorem vi_yX8_city : Cond.instanceMethod yX8_city ∈ lw_good := lw_in (List.mem_of_getElem? (i := 816) (by decide +kernel)) rfl
set_option maxRecDepth 20000 in
theorem vs_yX8_city : Cond.selects RX8 yX8_city yX8_city ∈ lw_good := lw_in (List.mem_of_getElem? (i := 817) (by decide +kernel)) rfl
set_option maxRecDepth 20000 in
theorem lkM_X8_109 : Cond.methodLink RX8 109 yX8_step ∈ lw_good := lw_in (List.mem_of_getElem? (i := 819) (by decide +kernel)) rfl
set_option maxRecDepth 20000 in
theorem vi_yX8_step : Cond.instanceMethod yX8_step ∈ lw_good := lw_in (List.mem_of_getElem? (i := 821) (by decide +kernel)) rfl
set_option maxRecDepth 20000 in
theorem lkM_X8_86 : Cond.methodLink RX8 86 yX8_here ∈ lw_good := lw_in (List.mem_of_getElem? (i := 823) (by decide +kernel)) rfl
set_option maxRecDepth 20000 in
theorem vi_yX8_here : Cond.instanceMethod yX8_here ∈ lw_good := lw_in (List.mem_of_getElem? (i := 825) (by decide +kernel)) rfl
set_option maxRecDepth 20000 in
theorem kc_X8_102 : Cond.constantLong RX8 102 (48) ∈ lw_good := lw_in (List.mem_of_getElem? (i := 827) (by decide +kernel)) rfl
set_option maxRecDepth 20000 in
theorem kc_X8_104 : Cond.constantLong RX8 104 (57) ∈ lw_good := lw_in (List.mem_of_getElem? (i := 828) (by decide +kernel)) rfl
set_option maxRecDepth 20000 in
theorem lkM_X8_133 : Cond.methodLink RX8 133 yX8_readsClause ∈ lw_good := lw_in (List.mem_of_getElem? (i := 829) (by decide +kernel)) rfl
set_option maxRecDepth 20000 in
theorem vi_yX8_readsClause : Cond.instanceMethod yX8_readsClause ∈ lw_good := lw_in (List.mem_of_getElem? (i := 831) (by decide +kernel)) rfl
set_option maxRecDepth 20000 in
theorem lkM_X8_124 : Cond.methodLink RX8 124 yX8_readsReader ∈ lw_good := lw_in (List.mem_of_getElem? (i := 833) (by decide +kernel)) rfl
set_option maxRecDepth 20000 in
theorem vi_yX8_readsReader : Cond.instanceMethod yX8_readsReader ∈ lw_good := lw_in (List.mem_of_getElem? (i := 835) (by decide +kernel)) rfl
set_option maxRecDepth 20000 in
theorem lkM_X8_112 : Cond.methodLink RX8 112 yX8_fails ∈ lw_good := lw_in (List.mem_of_getElem? (i := 837) (by decide +kernel)) rfl
set_option maxRecDepth 20000 in
theorem vi_yX8_fails : Cond.instanceMethod yX8_fails ∈ lw_good := lw_in (List.mem_of_getElem? (i := 839) (by decide +kernel)) rfl
set_option maxRecDepth 20000 in
theorem lkM_X8_116 : Cond.methodLink RX8 116 yX8_number ∈ lw_good := lw_in (List.mem_of_getElem? (i := 841) (by decide +kernel)) rfl
set_option maxRecDepth 20000 in
theorem vi_yX8_number : Cond.instanceMethod yX8_number ∈ lw_good := lw_in (List.mem_of_getElem? (i := 843) (by decide +kernel)) rfl
set_option maxRecDepth 20000 in
theorem lkM_X8_127 : Cond.methodLink RX8 127 yX8_readsFact ∈ lw_good := lw_in (List.mem_of_getElem? (i := 845) (by decide +kernel)) rfl
set_option maxRecDepth 20000 in
theorem vi_yX8_readsFact : Cond.instanceMethod yX8_readsFact ∈ lw_good := lw_in (List.mem_of_getElem? (i := 847) (by decide +kernel)) rfl
set_option maxRecDepth 20000 in
theorem lkM_X8_120 : Cond.methodLink RX8 120 yX8_ends ∈ lw_good := lw_in (List.mem_of_getElem? (i := 849) (by decide +kernel)) rfl
set_option maxRecDepth 20000 in
theorem vi_yX8_ends : Cond.instanceMethod yX8_ends ∈ lw_good := lw_in (List.mem_of_getElem? (i := 851) (by decide +kernel)) rfl
set_option maxRecDepth 20000 in
theorem lkM_X8_130 : Cond.methodLink RX8 130 yX8_readsSure ∈ lw_good := lw_in (List.mem_of_getElem? (i := 853) (by decide +kernel)) rfl
set_option maxRecDepth 20000 in
theorem vi_yX8_readsSure : Cond.instanceMethod yX8_readsSure ∈ lw_good := lw_in (List.mem_of_getElem? (i := 855) (by decide +kernel)) rfl
set_option maxRecDepth 20000 in
theorem lkM_L_26 : Cond.methodLink RL 26 yX8_fault ∈ lw_good := lw_in (List.mem_of_getElem? (i := 857) (by decide +kernel)) rfl
set_option maxRecDepth 20000 in
theorem vi_yX8_fault : Cond.instanceMethod yX8_fault ∈ lw_good := lw_in (List.mem_of_getElem? (i := 858) (by decide +kernel)) rfl
set_option maxRecDepth 20000 in
theorem vs_yX8_fault : Cond.selects RX8 yX8_fault yX8_fault ∈ lw_good := lw_in (List.mem_of_getElem? (i := 859) (by decide +kernel)) rfl
set_option maxRecDepth 20000 in
theorem lkM_L_30 : Cond.methodLink RL 30 yX8_told ∈ lw_good := lw_in (List.mem_of_getElem? (i := 861) (by decide +kernel)) rfl
set_option maxRecDepth 20000 in
theorem vi_yX8_told : Cond.instanceMethod yX8_told ∈ lw_good := lw_in (List.mem_of_getElem? (i := 862) (by decide +kernel)) rfl
set_option maxRecDepth 20000 in
theorem vs_yX8_told : Cond.selects RX8 yX8_told yX8_told ∈ lw_good := lw_in (List.mem_of_getElem? (i := 863) (by decide +kernel)) rfl
set_option maxRecDepth 20000 in
theorem lkM_X8_136 : Cond.methodLink RX8 136 yX8_convinced ∈ lw_good := lw_in (List.mem_of_getElem? (i := 865) (by decide +kernel)) rfl
set_option maxRecDepth 20000 in
theorem vi_yX8_convinced : Cond.instanceMethod yX8_convinced ∈ lw_good := lw_in (List.mem_of_getElem? (i := 867) (by decide +kernel)) rfl
set_option maxRecDepth 20000 in
theorem lkM_L_34 : Cond.methodLink RL 34 yX8_belief ∈ lw_good := lw_in (List.mem_of_getElem? (i := 869) (by decide +kernel)) rfl
set_option maxRecDepth 20000 in
theorem vi_yX8_belief : Cond.instanceMethod yX8_belief ∈ lw_good := lw_in (List.mem_of_getElem? (i := 870) (by decide +kernel)) rfl
set_option maxRecDepth 20000 in
theorem vs_yX8_belief : Cond.selects RX8 yX8_belief yX8_belief ∈ lw_good := lw_in (List.mem_of_getElem? (i := 871) (by decide +kernel)) rfl
set_option maxRecDepth 20000 in
theorem lkM_X8_140 : Cond.methodLink RX8 140 yX8_isOpinion ∈ lw_good := lw_in (List.mem_of_getElem? (i := 873) (by decide +kernel)) rfl
set_option maxRecDepth 20000 in
theorem vi_yX8_isOpinion : Cond.instanceMethod yX8_isOpinion ∈ lw_good := lw_in (List.mem_of_getElem? (i := 875) (by decide +kernel)) rfl
set_option maxRecDepth 20000 in
theorem kc_X8_143 : Cond.constant RX8 143 (-1000000001) ∈ lw_good := lw_in (List.mem_of_getElem? (i := 877) (by decide +kernel)) rfl
set_option maxRecDepth 20000 in
theorem lkM_L_39 : Cond.methodLink RL 39 yX8_fact ∈ lw_good := lw_in (List.mem_of_getElem? (i := 878) (by decide +kernel)) rfl
set_option maxRecDepth 20000 in
theorem vi_yX8_fact : Cond.instanceMethod yX8_fact ∈ lw_good := lw_in (List.mem_of_getElem? (i := 879) (by decide +kernel)) rfl
set_option maxRecDepth 20000 in
theorem vs_yX8_fact : Cond.selects RX8 yX8_fact yX8_fact ∈ lw_good := lw_in (List.mem_of_getElem? (i := 880) (by decide +kernel)) rfl
set_option maxRecDepth 20000 in
theorem lkM_X8_144 : Cond.methodLink RX8 144 yX8_isFact ∈ lw_good := lw_in (List.mem_of_getElem? (i := 882) (by decide +kernel)) rfl
set_option maxRecDepth 20000 in
theorem vi_yX8_isFact : Cond.instanceMethod yX8_isFact ∈ lw_good := lw_in (List.mem_of_getElem? (i := 884) (by decide +kernel)) rfl
set_option maxRecDepth 20000 in
theorem lkM_X8_147 : Cond.methodLink RX8 147 yX8_has ∈ lw_good := lw_in (List.mem_of_getElem? (i := 886) (by decide +kernel)) rfl
set_option maxRecDepth 20000 in
theorem st_yX8_has : Cond.static yX8_has ∈ lw_good := lw_in (List.mem_of_getElem? (i := 887) (by decide +kernel)) rfl
set_option maxRecDepth 20000 in
theorem lkM_L_43 : Cond.methodLink RL 43 yX8_night ∈ lw_good := lw_in (List.mem_of_getElem? (i := 889) (by decide +kernel)) rfl
set_option maxRecDepth 20000 in
theorem vi_yX8_night : Cond.instanceMethod yX8_night ∈ lw_good := lw_in (List.mem_of_getElem? (i := 890) (by decide +kernel)) rfl
set_option maxRecDepth 20000 in
theorem vs_yX8_night : Cond.selects RX8 yX8_night yX8_night ∈ lw_good := lw_in (List.mem_of_getElem? (i := 891) (by decide +kernel)) rfl
set_option maxRecDepth 20000 in
theorem lkM_X8_173 : Cond.methodLink RX8 173 yX8_areFacts ∈ lw_good := lw_in (List.mem_of_getElem? (i := 893) (by decide +kernel)) rfl
set_option maxRecDepth 20000 in
theorem vi_yX8_areFacts : Cond.instanceMethod yX8_areFacts ∈ lw_good := lw_in (List.mem_of_getElem? (i := 895) (by decide +kernel)) rfl
set_option maxRecDepth 20000 in
theorem lkM_X8_176 : Cond.methodLink RX8 176 yX8_maySheet ∈ lw_good := lw_in (List.mem_of_getElem? (i := 897) (by decide +kernel)) rfl
set_option maxRecDepth 20000 in
theorem vi_yX8_maySheet : Cond.instanceMethod yX8_maySheet ∈ lw_good := lw_in (List.mem_of_getElem? (i := 899) (by decide +kernel)) rfl
set_option maxRecDepth 20000 in
theorem lkM_X8_162 : Cond.methodLink RX8 162 yX8_bits ∈ lw_good := lw_in (List.mem_of_getElem? (i := 901) (by decide +kernel)) rfl
set_option maxRecDepth 20000 in
theorem st_yX8_bits : Cond.static yX8_bits ∈ lw_good := lw_in (List.mem_of_getElem? (i := 902) (by decide +kernel)) rfl
set_option maxRecDepth 20000 in
theorem kc_X8_179 : Cond.constant RX8 179 (-1000000003) ∈ lw_good := lw_in (List.mem_of_getElem? (i := 904) (by decide +kernel)) rfl
set_option maxRecDepth 20000 in
theorem kc_X8_180 : Cond.constant RX8 180 (90000) ∈ lw_good := lw_in (List.mem_of_getElem? (i := 905) (by decide +kernel)) rfl
set_option maxRecDepth 20000 in
theorem lkM_X8_181 : Cond.methodLink RX8 181 yX8_remember ∈ lw_good := lw_in (List.mem_of_getElem? (i := 906) (by decide +kernel)) rfl
set_option maxRecDepth 20000 in
theorem vi_yX8_remember : Cond.instanceMethod yX8_remember ∈ lw_good := lw_in (List.mem_of_getElem? (i := 908) (by decide +kernel)) rfl
set_option maxRecDepth 20000 in
theorem lkM_X8_165 : Cond.methodLink RX8 165 yX8_copies ∈ lw_good := lw_in (List.mem_of_getElem? (i := 910) (by decide +kernel)) rfl
set_option maxRecDepth 20000 in
theorem st_yX8_copies : Cond.static yX8_copies ∈ lw_good := lw_in (List.mem_of_getElem? (i := 911) (by decide +kernel)) rfl
set_option maxRecDepth 20000 in
theorem lkM_X8_184 : Cond.methodLink RX8 184 yX8_prints ∈ lw_good := lw_in (List.mem_of_getElem? (i := 913) (by decide +kernel)) rfl
set_option maxRecDepth 20000 in
theorem vi_yX8_prints : Cond.instanceMethod yX8_prints ∈ lw_good := lw_in (List.mem_of_getElem? (i := 915) (by decide +kernel)) rfl
set_option maxRecDepth 20000 in
theorem lkM_X8_169 : Cond.methodLink RX8 169 yX8_readsSheet ∈ lw_good := lw_in (List.mem_of_getElem? (i := 917) (by decide +kernel)) rfl
set_option maxRecDepth 20000 in
theorem vi_yX8_readsSheet : Cond.instanceMethod yX8_readsSheet ∈ lw_good := lw_in (List.mem_of_getElem? (i := 919) (by decide +kernel)) rfl
set_option maxRecDepth 20000 in
theorem lkM_X8_155 : Cond.methodLink RX8 155 yX8_byOf ∈ lw_good := lw_in (List.mem_of_getElem? (i := 921) (by decide +kernel)) rfl
set_option maxRecDepth 20000 in
theorem vi_yX8_byOf : Cond.instanceMethod yX8_byOf ∈ lw_good := lw_in (List.mem_of_getElem? (i := 923) (by decide +kernel)) rfl
set_option maxRecDepth 20000 in
theorem lkM_X8_158 : Cond.methodLink RX8 158 yX8_reads ∈ lw_good := lw_in (List.mem_of_getElem? (i := 925) (by decide +kernel)) rfl
set_option maxRecDepth 20000 in
theorem vi_yX8_reads : Cond.instanceMethod yX8_reads ∈ lw_good := lw_in (List.mem_of_getElem? (i := 927) (by decide +kernel)) rfl
set_option maxRecDepth 20000 in
theorem lkM_X8_151 : Cond.methodLink RX8 151 yX8_bound ∈ lw_good := lw_in (List.mem_of_getElem? (i := 929) (by decide +kernel)) rfl
set_option maxRecDepth 20000 in
theorem st_yX8_bound : Cond.static yX8_bound ∈ lw_good := lw_in (List.mem_of_getElem? (i := 930) (by decide +kernel)) rfl
set_option maxRecDepth 20000 in
theorem lkM_L_47 : Cond.methodLink RL 47 yX8_meet ∈ lw_good := lw_in (List.mem_of_getElem? (i := 932) (by decide +kernel)) rfl
set_option maxRecDepth 20000 in
theorem vi_yX8_meet : Cond.instanceMethod yX8_meet ∈ lw_good := lw_in (List.mem_of_getElem? (i := 933) (by decide +kernel)) rfl
set_option maxRecDepth 20000 in
theorem vs_yX8_meet : Cond.selects RX8 yX8_meet yX8_meet ∈ lw_good := lw_in (List.mem_of_getElem? (i := 934) (by decide +kernel)) rfl
set_option maxRecDepth 20000 in
theorem kc_X8_188 : Cond.constantLong RX8 188 (20) ∈ lw_good := lw_in (List.mem_of_getElem? (i := 936) (by decide +kernel)) rfl
set_option maxRecDepth 20000 in
theorem lkM_L_51 : Cond.methodLink RL 51 yX8_make ∈ lw_good := lw_in (List.mem_of_getElem? (i := 937) (by decide +kernel)) rfl
set_option maxRecDepth 20000 in
theorem vi_yX8_make : Cond.instanceMethod yX8_make ∈ lw_good := lw_in (List.mem_of_getElem? (i := 938) (by decide +kernel)) rfl
set_option maxRecDepth 20000 in
theorem vs_yX8_make : Cond.selects RX8 yX8_make yX8_make ∈ lw_good := lw_in (List.mem_of_getElem? (i := 939) (by decide +kernel)) rfl
set_option maxRecDepth 20000 in
theorem lkM_L_55 : Cond.methodLink RL 55 yX8_drift ∈ lw_good := lw_in (List.mem_of_getElem? (i := 941) (by decide +kernel)) rfl
set_option maxRecDepth 20000 in
theorem vi_yX8_drift : Cond.instanceMethod yX8_drift ∈ lw_good := lw_in (List.mem_of_getElem? (i := 942) (by decide +kernel)) rfl
set_option maxRecDepth 20000 in
theorem vs_yX8_drift : Cond.selects RX8 yX8_drift yX8_drift ∈ lw_good := lw_in (List.mem_of_getElem? (i := 943) (by decide +kernel)) rfl
set_option maxRecDepth 20000 in
theorem kc_X8_202 : Cond.constantLong RX8 202 (60) ∈ lw_good := lw_in (List.mem_of_getElem? (i := 945) (by decide +kernel)) rfl
set_option maxRecDepth 20000 in
theorem lkM_X8_204 : Cond.methodLink RX8 204 yX8_draw ∈ lw_good := lw_in (List.mem_of_getElem? (i := 946) (by decide +kernel)) rfl
set_option maxRecDepth 20000 in
theorem vi_yX8_draw : Cond.instanceMethod yX8_draw ∈ lw_good := lw_in (List.mem_of_getElem? (i := 948) (by decide +kernel)) rfl
set_option maxRecDepth 20000 in
theorem kc_X8_194 : Cond.constantLong RX8 194 (1103515245) ∈ lw_good := lw_in (List.mem_of_getElem? (i := 950) (by decide +kernel)) rfl
set_option maxRecDepth 20000 in
theorem kc_X8_196 : Cond.constantLong RX8 196 (12345) ∈ lw_good := lw_in (List.mem_of_getElem? (i := 951) (by decide +kernel)) rfl
set_option maxRecDepth 20000 in
theorem kc_X8_198 : Cond.constantLong RX8 198 (2147483648) ∈ lw_good := lw_in (List.mem_of_getElem? (i := 952) (by decide +kernel)) rfl
set_option maxRecDepth 20000 in
theorem kc_X8_200 : Cond.constantLong RX8 200 (65536) ∈ lw_good := lw_in (List.mem_of_getElem? (i := 953) (by decide +kernel)) rfl
set_option maxRecDepth 20000 in
theorem lkM_L_59 : Cond.methodLink RL 59 yX8_undo ∈ lw_good := lw_in (List.mem_of_getElem? (i := 954) (by decide +kernel)) rfl
set_option maxRecDepth 20000 in
theorem vi_yX8_undo : Cond.instanceMethod yX8_undo ∈ lw_good := lw_in (List.mem_of_getElem? (i := 955) (by decide +kernel)) rfl
set_option maxRecDepth 20000 in
theorem vs_yX8_undo : Cond.selects RX8 yX8_undo yX8_undo ∈ lw_good := lw_in (List.mem_of_getElem? (i := 956) (by decide +kernel)) rfl
set_option maxRecDepth 20000 in
theorem lkM_L_63 : Cond.methodLink RL 63 yX8_thinks ∈ lw_good := lw_in (List.mem_of_getElem? (i := 958) (by decide +kernel)) rfl
set_option maxRecDepth 20000 in
theorem vi_yX8_thinks : Cond.instanceMethod yX8_thinks ∈ lw_good := lw_in (List.mem_of_getElem? (i := 959) (by decide +kernel)) rfl
set_option maxRecDepth 20000 in
theorem vs_yX8_thinks : Cond.selects RX8 yX8_thinks yX8_thinks ∈ lw_good := lw_in (List.mem_of_getElem? (i := 960) (by decide +kernel)) rfl
set_option maxRecDepth 20000 in
theorem lkM_X8_207 : Cond.methodLink RX8 207 yX8_triesTonight ∈ lw_good := lw_in (List.mem_of_getElem? (i := 962) (by decide +kernel)) rfl
set_option maxRecDepth 20000 in
theorem vi_yX8_triesTonight : Cond.instanceMethod yX8_triesTonight ∈ lw_good := lw_in (List.mem_of_getElem? (i := 964) (by decide +kernel)) rfl
set_option maxRecDepth 20000 in
theorem lkM_L_68 : Cond.methodLink RL 68 yX8_soonest ∈ lw_good := lw_in (List.mem_of_getElem? (i := 966) (by decide +kernel)) rfl
set_option maxRecDepth 20000 in
theorem vi_yX8_soonest : Cond.instanceMethod yX8_soonest ∈ lw_good := lw_in (List.mem_of_getElem? (i := 967) (by decide +kernel)) rfl
set_option maxRecDepth 20000 in
theorem vs_yX8_soonest : Cond.selects RX8 yX8_soonest yX8_soonest ∈ lw_good := lw_in (List.mem_of_getElem? (i := 968) (by decide +kernel)) rfl
set_option maxRecDepth 20000 in
theorem lkM_X8_220 : Cond.methodLink RX8 220 yX8_areOpinions ∈ lw_good := lw_in (List.mem_of_getElem? (i := 970) (by decide +kernel)) rfl
set_option maxRecDepth 20000 in
theorem vi_yX8_areOpinions : Cond.instanceMethod yX8_areOpinions ∈ lw_good := lw_in (List.mem_of_getElem? (i := 972) (by decide +kernel)) rfl
set_option maxRecDepth 20000 in
theorem lkM_X8_223 : Cond.methodLink RX8 223 yX8_layNights ∈ lw_good := lw_in (List.mem_of_getElem? (i := 974) (by decide +kernel)) rfl
set_option maxRecDepth 20000 in
theorem vi_yX8_layNights : Cond.instanceMethod yX8_layNights ∈ lw_good := lw_in (List.mem_of_getElem? (i := 976) (by decide +kernel)) rfl
set_option maxRecDepth 20000 in
theorem lkM_X8_210 : Cond.methodLink RX8 210 yX8_isWanted ∈ lw_good := lw_in (List.mem_of_getElem? (i := 978) (by decide +kernel)) rfl
set_option maxRecDepth 20000 in
theorem vi_yX8_isWanted : Cond.instanceMethod yX8_isWanted ∈ lw_good := lw_in (List.mem_of_getElem? (i := 980) (by decide +kernel)) rfl
set_option maxRecDepth 20000 in
theorem kc_X8_219 : Cond.constant RX8 219 (1000000) ∈ lw_good := lw_in (List.mem_of_getElem? (i := 982) (by decide +kernel)) rfl
set_option maxRecDepth 20000 in
theorem lkM_L_72 : Cond.methodLink RL 72 yX8_cannot ∈ lw_good := lw_in (List.mem_of_getElem? (i := 983) (by decide +kernel)) rfl
set_option maxRecDepth 20000 in
theorem vi_yX8_cannot : Cond.instanceMethod yX8_cannot ∈ lw_good := lw_in (List.mem_of_getElem? (i := 984) (by decide +kernel)) rfl
set_option maxRecDepth 20000 in
theorem vs_yX8_cannot : Cond.selects RX8 yX8_cannot yX8_cannot ∈ lw_good := lw_in (List.mem_of_getElem? (i := 985) (by decide +kernel)) rfl
set_option maxRecDepth 20000 in
theorem lkM_L_76 : Cond.methodLink RL 76 yX8_least ∈ lw_good := lw_in (List.mem_of_getElem? (i := 987) (by decide +kernel)) rfl
set_option maxRecDepth 20000 in
theorem vi_yX8_least : Cond.instanceMethod yX8_least ∈ lw_good := lw_in (List.mem_of_getElem? (i := 988) (by decide +kernel)) rfl
set_option maxRecDepth 20000 in
theorem vs_yX8_least : Cond.selects RX8 yX8_least yX8_least ∈ lw_good := lw_in (List.mem_of_getElem? (i := 989) (by decide +kernel)) rfl
set_option maxRecDepth 20000 in
theorem lkM_X8_227 : Cond.methodLink RX8 227 yX8_costOf ∈ lw_good := lw_in (List.mem_of_getElem? (i := 991) (by decide +kernel)) rfl
set_option maxRecDepth 20000 in
theorem vi_yX8_costOf : Cond.instanceMethod yX8_costOf ∈ lw_good := lw_in (List.mem_of_getElem? (i := 993) (by decide +kernel)) rfl
set_option maxRecDepth 20000 in
theorem lkM_X8_230 : Cond.methodLink RX8 230 yX8_convinces ∈ lw_good := lw_in (List.mem_of_getElem? (i := 995) (by decide +kernel)) rfl
set_option maxRecDepth 20000 in
theorem vi_yX8_convinces : Cond.instanceMethod yX8_convinces ∈ lw_good := lw_in (List.mem_of_getElem? (i := 997) (by decide +kernel)) rfl
set_option maxRecDepth 20000 in
theorem lkM_L_80 : Cond.methodLink RL 80 yX8_rivals ∈ lw_good := lw_in (List.mem_of_getElem? (i := 999) (by decide +kernel)) rfl
set_option maxRecDepth 20000 in
theorem vi_yX8_rivals : Cond.instanceMethod yX8_rivals ∈ lw_good := lw_in (List.mem_of_getElem? (i := 1000) (by decide +kernel)) rfl
set_option maxRecDepth 20000 in
theorem vs_yX8_rivals : Cond.selects RX8 yX8_rivals yX8_rivals ∈ lw_good := lw_in (List.mem_of_getElem? (i := 1001) (by decide +kernel)) rfl
set_option maxRecDepth 20000 in
theorem kc_X8_233 : Cond.constantLong RX8 233 (4) ∈ lw_good := lw_in (List.mem_of_getElem? (i := 1003) (by decide +kernel)) rfl
set_option maxRecDepth 20000 in
theorem lkM_X8_235 : Cond.methodLink RX8 235 yX8_beginsStep ∈ lw_good := lw_in (List.mem_of_getElem? (i := 1004) (by decide +kernel)) rfl
set_option maxRecDepth 20000 in
theorem vi_yX8_beginsStep : Cond.instanceMethod yX8_beginsStep ∈ lw_good := lw_in (List.mem_of_getElem? (i := 1006) (by decide +kernel)) rfl
set_option maxRecDepth 20000 in
theorem lkM_X8_238 : Cond.methodLink RX8 238 yX8_weighs ∈ lw_good := lw_in (List.mem_of_getElem? (i := 1008) (by decide +kernel)) rfl
set_option maxRecDepth 20000 in
theorem vi_yX8_weighs : Cond.instanceMethod yX8_weighs ∈ lw_good := lw_in (List.mem_of_getElem? (i := 1010) (by decide +kernel)) rfl
set_option maxRecDepth 20000 in
theorem lkM_X8_242 : Cond.methodLink RX8 242 yX8_goes ∈ lw_good := lw_in (List.mem_of_getElem? (i := 1012) (by decide +kernel)) rfl
set_option maxRecDepth 20000 in
theorem vi_yX8_goes : Cond.instanceMethod yX8_goes ∈ lw_good := lw_in (List.mem_of_getElem? (i := 1014) (by decide +kernel)) rfl
set_option maxRecDepth 20000 in
theorem lkM_L_84 : Cond.methodLink RL 84 yX8_shun ∈ lw_good := lw_in (List.mem_of_getElem? (i := 1016) (by decide +kernel)) rfl
set_option maxRecDepth 20000 in
theorem vi_yX8_shun : Cond.instanceMethod yX8_shun ∈ lw_good := lw_in (List.mem_of_getElem? (i := 1017) (by decide +kernel)) rfl
set_option maxRecDepth 20000 in
theorem vs_yX8_shun : Cond.selects RX8 yX8_shun yX8_shun ∈ lw_good := lw_in (List.mem_of_getElem? (i := 1018) (by decide +kernel)) rfl
set_option maxRecDepth 20000 in
theorem lkM_L_88 : Cond.methodLink RL 88 yX8_holds ∈ lw_good := lw_in (List.mem_of_getElem? (i := 1020) (by decide +kernel)) rfl
set_option maxRecDepth 20000 in
theorem vi_yX8_holds : Cond.instanceMethod yX8_holds ∈ lw_good := lw_in (List.mem_of_getElem? (i := 1021) (by decide +kernel)) rfl
set_option maxRecDepth 20000 in
theorem vs_yX8_holds : Cond.selects RX8 yX8_holds yX8_holds ∈ lw_good := lw_in (List.mem_of_getElem? (i := 1022) (by decide +kernel)) rfl
set_option maxRecDepth 20000 in
theorem kc_X8_245 : Cond.constantLong RX8 245 (100) ∈ lw_good := lw_in (List.mem_of_getElem? (i := 1024) (by decide +kernel)) rfl
set_option maxRecDepth 20000 in
theorem kc_X8_247 : Cond.constantLong RX8 247 (1000000000) ∈ lw_good := lw_in (List.mem_of_getElem? (i := 1025) (by decide +kernel)) rfl
set_option maxRecDepth 20000 in
theorem lkM_L_92 : Cond.methodLink RL 92 yX8_worn ∈ lw_good := lw_in (List.mem_of_getElem? (i := 1026) (by decide +kernel)) rfl
set_option maxRecDepth 20000 in
theorem vi_yX8_worn : Cond.instanceMethod yX8_worn ∈ lw_good := lw_in (List.mem_of_getElem? (i := 1027) (by decide +kernel)) rfl
set_option maxRecDepth 20000 in
theorem vs_yX8_worn : Cond.selects RX8 yX8_worn yX8_worn ∈ lw_good := lw_in (List.mem_of_getElem? (i := 1028) (by decide +kernel)) rfl
set_option maxRecDepth 20000 in
theorem lkM_L_96 : Cond.methodLink RL 96 yX8_thought ∈ lw_good := lw_in (List.mem_of_getElem? (i := 1030) (by decide +kernel)) rfl
set_option maxRecDepth 20000 in
theorem vi_yX8_thought : Cond.instanceMethod yX8_thought ∈ lw_good := lw_in (List.mem_of_getElem? (i := 1031) (by decide +kernel)) rfl
set_option maxRecDepth 20000 in
theorem vs_yX8_thought : Cond.selects RX8 yX8_thought yX8_thought ∈ lw_good := lw_in (List.mem_of_getElem? (i := 1032) (by decide +kernel)) rfl
set_option maxRecDepth 20000 in
theorem lkM_L_100 : Cond.methodLink RL 100 yX8_leftOut ∈ lw_good := lw_in (List.mem_of_getElem? (i := 1034) (by decide +kernel)) rfl
set_option maxRecDepth 20000 in
theorem vi_yX8_leftOut : Cond.instanceMethod yX8_leftOut ∈ lw_good := lw_in (List.mem_of_getElem? (i := 1035) (by decide +kernel)) rfl
set_option maxRecDepth 20000 in
theorem vs_yX8_leftOut : Cond.selects RX8 yX8_leftOut yX8_leftOut ∈ lw_good := lw_in (List.mem_of_getElem? (i := 1036) (by decide +kernel)) rfl
set_option maxRecDepth 20000 in
theorem lkM_X8_249 : Cond.methodLink RX8 249 yX8_isThought ∈ lw_good := lw_in (List.mem_of_getElem? (i := 1038) (by decide +kernel)) rfl
set_option maxRecDepth 20000 in
theorem vi_yX8_isThought : Cond.instanceMethod yX8_isThought ∈ lw_good := lw_in (List.mem_of_getElem? (i := 1040) (by decide +kernel)) rfl
set_option maxRecDepth 20000 in
theorem lkM_L_104 : Cond.methodLink RL 104 yX8_strengths ∈ lw_good := lw_in (List.mem_of_getElem? (i := 1042) (by decide +kernel)) rfl
set_option maxRecDepth 20000 in
theorem vi_yX8_strengths : Cond.instanceMethod yX8_strengths ∈ lw_good := lw_in (List.mem_of_getElem? (i := 1043) (by decide +kernel)) rfl
set_option maxRecDepth 20000 in
theorem vs_yX8_strengths : Cond.selects RX8 yX8_strengths yX8_strengths ∈ lw_good := lw_in (List.mem_of_getElem? (i := 1044) (by decide +kernel)) rfl
set_option maxRecDepth 20000 in
theorem lkM_L_108 : Cond.methodLink RL 108 yX8_write ∈ lw_good := lw_in (List.mem_of_getElem? (i := 1046) (by decide +kernel)) rfl
set_option maxRecDepth 20000 in
theorem vi_yX8_write : Cond.instanceMethod yX8_write ∈ lw_good := lw_in (List.mem_of_getElem? (i := 1047) (by decide +kernel)) rfl
set_option maxRecDepth 20000 in
theorem vs_yX8_write : Cond.selects RX8 yX8_write yX8_write ∈ lw_good := lw_in (List.mem_of_getElem? (i := 1048) (by decide +kernel)) rfl
set_option maxRecDepth 20000 in
theorem lkM_L_112 : Cond.methodLink RL 112 yX8_tear ∈ lw_good := lw_in (List.mem_of_getElem? (i := 1050) (by decide +kernel)) rfl
set_option maxRecDepth 20000 in
theorem vi_yX8_tear : Cond.instanceMethod yX8_tear ∈ lw_good := lw_in (List.mem_of_getElem? (i := 1051) (by decide +kernel)) rfl
set_option maxRecDepth 20000 in
theorem vs_yX8_tear : Cond.selects RX8 yX8_tear yX8_tear ∈ lw_good := lw_in (List.mem_of_getElem? (i := 1052) (by decide +kernel)) rfl
set_option maxRecDepth 20000 in
theorem lkM_L_116 : Cond.methodLink RL 116 yX8_judge ∈ lw_good := lw_in (List.mem_of_getElem? (i := 1054) (by decide +kernel)) rfl
set_option maxRecDepth 20000 in
theorem vi_yX8_judge : Cond.instanceMethod yX8_judge ∈ lw_good := lw_in (List.mem_of_getElem? (i := 1055) (by decide +kernel)) rfl
set_option maxRecDepth 20000 in
theorem vs_yX8_judge : Cond.selects RX8 yX8_judge yX8_judge ∈ lw_good := lw_in (List.mem_of_getElem? (i := 1056) (by decide +kernel)) rfl
set_option maxRecDepth 20000 in
theorem lkM_L_120 : Cond.methodLink RL 120 yX8_seed ∈ lw_good := lw_in (List.mem_of_getElem? (i := 1058) (by decide +kernel)) rfl
set_option maxRecDepth 20000 in
theorem vi_yX8_seed : Cond.instanceMethod yX8_seed ∈ lw_good := lw_in (List.mem_of_getElem? (i := 1059) (by decide +kernel)) rfl
set_option maxRecDepth 20000 in
theorem vs_yX8_seed : Cond.selects RX8 yX8_seed yX8_seed ∈ lw_good := lw_in (List.mem_of_getElem? (i := 1060) (by decide +kernel)) rfl
set_option maxRecDepth 20000 in
theorem lkM_L_124 : Cond.methodLink RL 124 yX8_keep ∈ lw_good := lw_in (List.mem_of_getElem? (i := 1062) (by decide +kernel)) rfl
set_option maxRecDepth 20000 in
theorem vi_yX8_keep : Cond.instanceMethod yX8_keep ∈ lw_good := lw_in (List.mem_of_getElem? (i := 1063) (by decide +kernel)) rfl
set_option maxRecDepth 20000 in
theorem vs_yX8_keep : Cond.selects RX8 yX8_keep yX8_keep ∈ lw_good := lw_in (List.mem_of_getElem? (i := 1064) (by decide +kernel)) rfl
set_option maxRecDepth 20000 in
theorem lkM_L_128 : Cond.methodLink RL 128 yX8_goBack ∈ lw_good := lw_in (List.mem_of_getElem? (i := 1066) (by decide +kernel)) rfl
set_option maxRecDepth 20000 in
theorem vi_yX8_goBack : Cond.instanceMethod yX8_goBack ∈ lw_good := lw_in (List.mem_of_getElem? (i := 1067) (by decide +kernel)) rfl
set_option maxRecDepth 20000 in
theorem vs_yX8_goBack : Cond.selects RX8 yX8_goBack yX8_goBack ∈ lw_good := lw_in (List.mem_of_getElem? (i := 1068) (by decide +kernel)) rfl
set_option maxRecDepth 20000 in
theorem vs_yX2_append : Cond.selects RX2 yX2_append yX2_append ∈ lw_good := lw_in (List.mem_of_getElem? (i := 0) (by decide +kernel)) rfl
set_option maxRecDepth 20000 in
theorem vs_yX2_readInto : Cond.selects RX2 yX2_readInto yX2_readInto ∈ lw_good := lw_in (List.mem_of_getElem? (i := 1) (by decide +kernel)) rfl
set_option maxRecDepth 20000 in
theorem vs_yX1_clear : Cond.selects RX1 yX1_clear yX1_clear ∈ lw_good := lw_in (List.mem_of_getElem? (i := 2) (by decide +kernel)) rfl
set_option maxRecDepth 20000 in
theorem vs_yX2_skipBlanks : Cond.selects RX2 yX2_skipBlanks yX2_skipBlanks ∈ lw_good := lw_in (List.mem_of_getElem? (i := 3) (by decide +kernel)) rfl
set_option maxRecDepth 20000 in
theorem vs_yX2_next : Cond.selects RX2 yX2_next yX2_next ∈ lw_good := lw_in (List.mem_of_getElem? (i := 4) (by decide +kernel)) rfl
set_option maxRecDepth 20000 in
theorem vs_yX2_readClause : Cond.selects RX2 yX2_readClause yX2_readClause ∈ lw_good := lw_in (List.mem_of_getElem? (i := 5) (by decide +kernel)) rfl
set_option maxRecDepth 20000 in
theorem vs_yX2_mark : Cond.selects RX2 yX2_mark yX2_mark ∈ lw_good := lw_in (List.mem_of_getElem? (i := 6) (by decide +kernel)) rfl
set_option maxRecDepth 20000 in
theorem vs_yX2_toldAlready : Cond.selects RX2 yX2_toldAlready yX2_toldAlready ∈ lw_good := lw_in (List.mem_of_getElem? (i := 7) (by decide +kernel)) rfl
set_option maxRecDepth 20000 in
theorem vs_yX2_readReader : Cond.selects RX2 yX2_readReader yX2_readReader ∈ lw_good := lw_in (List.mem_of_getElem? (i := 8) (by decide +kernel)) rfl
set_option maxRecDepth 20000 in
theorem vs_yX2_readNumber : Cond.selects RX2 yX2_readNumber yX2_readNumber ∈ lw_good := lw_in (List.mem_of_getElem? (i := 9) (by decide +kernel)) rfl
set_option maxRecDepth 20000 in
theorem vs_yX2_atFigure : Cond.selects RX2 yX2_atFigure yX2_atFigure ∈ lw_good := lw_in (List.mem_of_getElem? (i := 10) (by decide +kernel)) rfl
set_option maxRecDepth 20000 in
theorem vs_yX2_takes : Cond.selects RX2 yX2_takes yX2_takes ∈ lw_good := lw_in (List.mem_of_getElem? (i := 11) (by decide +kernel)) rfl
set_option maxRecDepth 20000 in
theorem vs_yX2_readFactOf : Cond.selects RX2 yX2_readFactOf yX2_readFactOf ∈ lw_good := lw_in (List.mem_of_getElem? (i := 12) (by decide +kernel)) rfl
set_option maxRecDepth 20000 in
theorem vs_yX1_hasOpinion : Cond.selects RX1 yX1_hasOpinion yX1_hasOpinion ∈ lw_good := lw_in (List.mem_of_getElem? (i := 13) (by decide +kernel)) rfl
set_option maxRecDepth 20000 in
theorem vs_yX1_copyFrom : Cond.selects RX1 yX1_copyFrom yX1_copyFrom ∈ lw_good := lw_in (List.mem_of_getElem? (i := 14) (by decide +kernel)) rfl
set_option maxRecDepth 20000 in
theorem vs_yX3_begin : Cond.selects RX3 yX3_begin yX3_begin ∈ lw_good := lw_in (List.mem_of_getElem? (i := 15) (by decide +kernel)) rfl
set_option maxRecDepth 20000 in
theorem vs_yX1_hasFact : Cond.selects RX1 yX1_hasFact yX1_hasFact ∈ lw_good := lw_in (List.mem_of_getElem? (i := 16) (by decide +kernel)) rfl
set_option maxRecDepth 20000 in
theorem vs_yX4_clear : Cond.selects RX4 yX4_clear yX4_clear ∈ lw_good := lw_in (List.mem_of_getElem? (i := 17) (by decide +kernel)) rfl
set_option maxRecDepth 20000 in
theorem vs_yX0_clear : Cond.selects RX0 yX0_clear yX0_clear ∈ lw_good := lw_in (List.mem_of_getElem? (i := 18) (by decide +kernel)) rfl
set_option maxRecDepth 20000 in
theorem vs_yX3_convincedOf : Cond.selects RX3 yX3_convincedOf yX3_convincedOf ∈ lw_good := lw_in (List.mem_of_getElem? (i := 19) (by decide +kernel)) rfl
set_option maxRecDepth 20000 in
theorem vs_yX1_hasFacts : Cond.selects RX1 yX1_hasFacts yX1_hasFacts ∈ lw_good := lw_in (List.mem_of_getElem? (i := 20) (by decide +kernel)) rfl
set_option maxRecDepth 20000 in
theorem vs_yX7_mayBe : Cond.selects RX7 yX7_mayBe yX7_mayBe ∈ lw_good := lw_in (List.mem_of_getElem? (i := 21) (by decide +kernel)) rfl
set_option maxRecDepth 20000 in
theorem vs_yX1_fits : Cond.selects RX1 yX1_fits yX1_fits ∈ lw_good := lw_in (List.mem_of_getElem? (i := 22) (by decide +kernel)) rfl
set_option maxRecDepth 20000 in
theorem vs_yX4_push : Cond.selects RX4 yX4_push yX4_push ∈ lw_good := lw_in (List.mem_of_getElem? (i := 23) (by decide +kernel)) rfl
set_option maxRecDepth 20000 in
theorem vs_yX6_store : Cond.selects RX6 yX6_store yX6_store ∈ lw_good := lw_in (List.mem_of_getElem? (i := 24) (by decide +kernel)) rfl
set_option maxRecDepth 20000 in
theorem vs_yX3_spendNight : Cond.selects RX3 yX3_spendNight yX3_spendNight ∈ lw_good := lw_in (List.mem_of_getElem? (i := 25) (by decide +kernel)) rfl
set_option maxRecDepth 20000 in
theorem vs_yX3_readFact : Cond.selects RX3 yX3_readFact yX3_readFact ∈ lw_good := lw_in (List.mem_of_getElem? (i := 26) (by decide +kernel)) rfl
set_option maxRecDepth 20000 in
theorem vs_yX7_drawnSheet : Cond.selects RX7 yX7_drawnSheet yX7_drawnSheet ∈ lw_good := lw_in (List.mem_of_getElem? (i := 27) (by decide +kernel)) rfl
set_option maxRecDepth 20000 in
theorem vs_yX7_drawOf : Cond.selects RX7 yX7_drawOf yX7_drawOf ∈ lw_good := lw_in (List.mem_of_getElem? (i := 28) (by decide +kernel)) rfl
set_option maxRecDepth 20000 in
theorem vs_yX4_pop : Cond.selects RX4 yX4_pop yX4_pop ∈ lw_good := lw_in (List.mem_of_getElem? (i := 29) (by decide +kernel)) rfl
set_option maxRecDepth 20000 in
theorem vs_yX6_fetch : Cond.selects RX6 yX6_fetch yX6_fetch ∈ lw_good := lw_in (List.mem_of_getElem? (i := 30) (by decide +kernel)) rfl
set_option maxRecDepth 20000 in
theorem vs_yX3_copyFrom : Cond.selects RX3 yX3_copyFrom yX3_copyFrom ∈ lw_good := lw_in (List.mem_of_getElem? (i := 31) (by decide +kernel)) rfl
set_option maxRecDepth 20000 in
theorem vs_yX1_hasOpinions : Cond.selects RX1 yX1_hasOpinions yX1_hasOpinions ∈ lw_good := lw_in (List.mem_of_getElem? (i := 32) (by decide +kernel)) rfl
set_option maxRecDepth 20000 in
theorem vs_yX7_findSoonest : Cond.selects RX7 yX7_findSoonest yX7_findSoonest ∈ lw_good := lw_in (List.mem_of_getElem? (i := 33) (by decide +kernel)) rfl
set_option maxRecDepth 20000 in
theorem vs_yX3_isConvinced : Cond.selects RX3 yX3_isConvinced yX3_isConvinced ∈ lw_good := lw_in (List.mem_of_getElem? (i := 34) (by decide +kernel)) rfl
set_option maxRecDepth 20000 in
theorem vs_yX5_become : Cond.selects RX5 yX5_become yX5_become ∈ lw_good := lw_in (List.mem_of_getElem? (i := 35) (by decide +kernel)) rfl
set_option maxRecDepth 20000 in
theorem vs_yX7_findOneNight : Cond.selects RX7 yX7_findOneNight yX7_findOneNight ∈ lw_good := lw_in (List.mem_of_getElem? (i := 36) (by decide +kernel)) rfl
set_option maxRecDepth 20000 in
theorem vs_yX7_findTwoNights : Cond.selects RX7 yX7_findTwoNights yX7_findTwoNights ∈ lw_good := lw_in (List.mem_of_getElem? (i := 37) (by decide +kernel)) rfl
set_option maxRecDepth 20000 in
theorem vs_yX7_reachedBehind : Cond.selects RX7 yX7_reachedBehind yX7_reachedBehind ∈ lw_good := lw_in (List.mem_of_getElem? (i := 38) (by decide +kernel)) rfl
set_option maxRecDepth 20000 in
theorem vs_yX1_costOf : Cond.selects RX1 yX1_costOf yX1_costOf ∈ lw_good := lw_in (List.mem_of_getElem? (i := 39) (by decide +kernel)) rfl
set_option maxRecDepth 20000 in
theorem vs_yX7_convincesOf : Cond.selects RX7 yX7_convincesOf yX7_convincesOf ∈ lw_good := lw_in (List.mem_of_getElem? (i := 40) (by decide +kernel)) rfl
set_option maxRecDepth 20000 in
theorem vs_yX3_unread : Cond.selects RX3 yX3_unread yX3_unread ∈ lw_good := lw_in (List.mem_of_getElem? (i := 41) (by decide +kernel)) rfl
set_option maxRecDepth 20000 in
theorem vs_yX7_noteIn : Cond.selects RX7 yX7_noteIn yX7_noteIn ∈ lw_good := lw_in (List.mem_of_getElem? (i := 42) (by decide +kernel)) rfl
set_option maxRecDepth 20000 in
theorem vs_yX0_append : Cond.selects RX0 yX0_append yX0_append ∈ lw_good := lw_in (List.mem_of_getElem? (i := 43) (by decide +kernel)) rfl
set_option maxRecDepth 20000 in
theorem vs_yX7_thoughtBehind : Cond.selects RX7 yX7_thoughtBehind yX7_thoughtBehind ∈ lw_good := lw_in (List.mem_of_getElem? (i := 44) (by decide +kernel)) rfl
set_option maxRecDepth 20000 in
theorem vs_yX0_firstOtherwise : Cond.selects RX0 yX0_firstOtherwise yX0_firstOtherwise ∈ lw_good := lw_in (List.mem_of_getElem? (i := 45) (by decide +kernel)) rfl
set_option maxRecDepth 20000 in
theorem vs_yX8_begins : Cond.selects RX8 yX8_begins yX8_begins ∈ lw_good := lw_in (List.mem_of_getElem? (i := 46) (by decide +kernel)) rfl
set_option maxRecDepth 20000 in
theorem vs_yX8_step : Cond.selects RX8 yX8_step yX8_step ∈ lw_good := lw_in (List.mem_of_getElem? (i := 47) (by decide +kernel)) rfl
set_option maxRecDepth 20000 in
theorem vs_yX8_here : Cond.selects RX8 yX8_here yX8_here ∈ lw_good := lw_in (List.mem_of_getElem? (i := 48) (by decide +kernel)) rfl
set_option maxRecDepth 20000 in
theorem vs_yX8_readsClause : Cond.selects RX8 yX8_readsClause yX8_readsClause ∈ lw_good := lw_in (List.mem_of_getElem? (i := 49) (by decide +kernel)) rfl
set_option maxRecDepth 20000 in
theorem vs_yX8_readsReader : Cond.selects RX8 yX8_readsReader yX8_readsReader ∈ lw_good := lw_in (List.mem_of_getElem? (i := 50) (by decide +kernel)) rfl
set_option maxRecDepth 20000 in
theorem vs_yX8_fails : Cond.selects RX8 yX8_fails yX8_fails ∈ lw_good := lw_in (List.mem_of_getElem? (i := 51) (by decide +kernel)) rfl
set_option maxRecDepth 20000 in
theorem vs_yX8_number : Cond.selects RX8 yX8_number yX8_number ∈ lw_good := lw_in (List.mem_of_getElem? (i := 52) (by decide +kernel)) rfl
set_option maxRecDepth 20000 in
theorem vs_yX8_readsFact : Cond.selects RX8 yX8_readsFact yX8_readsFact ∈ lw_good := lw_in (List.mem_of_getElem? (i := 53) (by decide +kernel)) rfl
set_option maxRecDepth 20000 in
theorem vs_yX8_ends : Cond.selects RX8 yX8_ends yX8_ends ∈ lw_good := lw_in (List.mem_of_getElem? (i := 54) (by decide +kernel)) rfl
set_option maxRecDepth 20000 in
theorem vs_yX8_readsSure : Cond.selects RX8 yX8_readsSure yX8_readsSure ∈ lw_good := lw_in (List.mem_of_getElem? (i := 55) (by decide +kernel)) rfl
set_option maxRecDepth 20000 in
theorem vs_yX8_convinced : Cond.selects RX8 yX8_convinced yX8_convinced ∈ lw_good := lw_in (List.mem_of_getElem? (i := 56) (by decide +kernel)) rfl
set_option maxRecDepth 20000 in
theorem vs_yX8_isOpinion : Cond.selects RX8 yX8_isOpinion yX8_isOpinion ∈ lw_good := lw_in (List.mem_of_getElem? (i := 57) (by decide +kernel)) rfl
set_option maxRecDepth 20000 in
theorem vs_yX8_isFact : Cond.selects RX8 yX8_isFact yX8_isFact ∈ lw_good := lw_in (List.mem_of_getElem? (i := 58) (by decide +kernel)) rfl
set_option maxRecDepth 20000 in
theorem vs_yX8_areFacts : Cond.selects RX8 yX8_areFacts yX8_areFacts ∈ lw_good := lw_in (List.mem_of_getElem? (i := 59) (by decide +kernel)) rfl
set_option maxRecDepth 20000 in
theorem vs_yX8_maySheet : Cond.selects RX8 yX8_maySheet yX8_maySheet ∈ lw_good := lw_in (List.mem_of_getElem? (i := 60) (by decide +kernel)) rfl
set_option maxRecDepth 20000 in
theorem vs_yX8_remember : Cond.selects RX8 yX8_remember yX8_remember ∈ lw_good := lw_in (List.mem_of_getElem? (i := 61) (by decide +kernel)) rfl
set_option maxRecDepth 20000 in
theorem vs_yX8_prints : Cond.selects RX8 yX8_prints yX8_prints ∈ lw_good := lw_in (List.mem_of_getElem? (i := 62) (by decide +kernel)) rfl
set_option maxRecDepth 20000 in
theorem vs_yX8_readsSheet : Cond.selects RX8 yX8_readsSheet yX8_readsSheet ∈ lw_good := lw_in (List.mem_of_getElem? (i := 63) (by decide +kernel)) rfl
set_option maxRecDepth 20000 in
theorem vs_yX8_byOf : Cond.selects RX8 yX8_byOf yX8_byOf ∈ lw_good := lw_in (List.mem_of_getElem? (i := 64) (by decide +kernel)) rfl
set_option maxRecDepth 20000 in
theorem vs_yX8_reads : Cond.selects RX8 yX8_reads yX8_reads ∈ lw_good := lw_in (List.mem_of_getElem? (i := 65) (by decide +kernel)) rfl
set_option maxRecDepth 20000 in
theorem vs_yX8_draw : Cond.selects RX8 yX8_draw yX8_draw ∈ lw_good := lw_in (List.mem_of_getElem? (i := 66) (by decide +kernel)) rfl
set_option maxRecDepth 20000 in
theorem vs_yX8_triesTonight : Cond.selects RX8 yX8_triesTonight yX8_triesTonight ∈ lw_good := lw_in (List.mem_of_getElem? (i := 67) (by decide +kernel)) rfl
set_option maxRecDepth 20000 in
theorem vs_yX8_areOpinions : Cond.selects RX8 yX8_areOpinions yX8_areOpinions ∈ lw_good := lw_in (List.mem_of_getElem? (i := 68) (by decide +kernel)) rfl
set_option maxRecDepth 20000 in
theorem vs_yX8_layNights : Cond.selects RX8 yX8_layNights yX8_layNights ∈ lw_good := lw_in (List.mem_of_getElem? (i := 69) (by decide +kernel)) rfl
set_option maxRecDepth 20000 in
theorem vs_yX8_isWanted : Cond.selects RX8 yX8_isWanted yX8_isWanted ∈ lw_good := lw_in (List.mem_of_getElem? (i := 70) (by decide +kernel)) rfl
set_option maxRecDepth 20000 in
theorem vs_yX8_costOf : Cond.selects RX8 yX8_costOf yX8_costOf ∈ lw_good := lw_in (List.mem_of_getElem? (i := 71) (by decide +kernel)) rfl
set_option maxRecDepth 20000 in
theorem vs_yX8_convinces : Cond.selects RX8 yX8_convinces yX8_convinces ∈ lw_good := lw_in (List.mem_of_getElem? (i := 72) (by decide +kernel)) rfl
set_option maxRecDepth 20000 in
theorem vs_yX8_beginsStep : Cond.selects RX8 yX8_beginsStep yX8_beginsStep ∈ lw_good := lw_in (List.mem_of_getElem? (i := 73) (by decide +kernel)) rfl
set_option maxRecDepth 20000 in
theorem vs_yX8_weighs : Cond.selects RX8 yX8_weighs yX8_weighs ∈ lw_good := lw_in (List.mem_of_getElem? (i := 74) (by decide +kernel)) rfl
set_option maxRecDepth 20000 in
theorem vs_yX8_goes : Cond.selects RX8 yX8_goes yX8_goes ∈ lw_good := lw_in (List.mem_of_getElem? (i := 75) (by decide +kernel)) rfl
set_option maxRecDepth 20000 in
theorem vs_yX8_isThought : Cond.selects RX8 yX8_isThought yX8_isThought ∈ lw_good := lw_in (List.mem_of_getElem? (i := 76) (by decide +kernel)) rfl
set_option maxRecDepth 20000 in
theorem co_math_max : Cond.code Lib.Math.max.name Lib.Math.max.code 2 (some .int) ∈ lw_good := lw_in (List.mem_of_getElem? (i := 267) (by decide +kernel)) rfl
set_option maxRecDepth 20000 in
theorem co_math_min : Cond.code Lib.Math.min.name Lib.Math.min.code 2 (some .int) ∈ lw_good := lw_in (List.mem_of_getElem? (i := 264) (by decide +kernel)) rfl
set_option maxRecDepth 20000 in
theorem ck_yX7_init : gCK yX7_init cX7_init 1 none 0 := ⟨lw_in (List.mem_of_getElem? (i := 93) (by decide +kernel)) rfl, ini_X7, by decide +kernel, by decide +kernel⟩
set_option maxRecDepth 20000 in
theorem ck_yX2_init : gCK yX2_init cX2_init 1 none 0 := ⟨lw_in (List.mem_of_getElem? (i := 101) (by decide +kernel)) rfl, ini_X2, by decide +kernel, by decide +kernel⟩
set_option maxRecDepth 20000 in
theorem ck_yX1_init : gCK yX1_init cX1_init 1 none 0 := ⟨lw_in (List.mem_of_getElem? (i := 132) (by decide +kernel)) rfl, ini_X1, by decide +kernel, by decide +kernel⟩
set_option maxRecDepth 20000 in
theorem ck_yX3_init : gCK yX3_init cX3_init 1 none 0 := ⟨lw_in (List.mem_of_getElem? (i := 197) (by decide +kernel)) rfl, ini_X3, by decide +kernel, by decide +kernel⟩
set_option maxRecDepth 20000 in
theorem ck_yX5_init : gCK yX5_init cX5_init 1 none 0 := ⟨lw_in (List.mem_of_getElem? (i := 235) (by decide +kernel)) rfl, ini_X5, by decide +kernel, by decide +kernel⟩
set_option maxRecDepth 20000 in
theorem ck_yX4_init : gCK yX4_init cX4_init 1 none 0 := ⟨lw_in (List.mem_of_getElem? (i := 254) (by decide +kernel)) rfl, ini_X4, by decide +kernel, by decide +kernel⟩
set_option maxRecDepth 20000 in
theorem ck_yX6_init : gCK yX6_init cX6_init 2 none 1 := ⟨lw_in (List.mem_of_getElem? (i := 260) (by decide +kernel)) rfl, ini_X6, by decide +kernel, by decide +kernel⟩
set_option maxRecDepth 20000 in
theorem ck_yX0_init : gCK yX0_init cX0_init 2 none 1 := ⟨lw_in (List.mem_of_getElem? (i := 289) (by decide +kernel)) rfl, ini_X0, by decide +kernel, by decide +kernel⟩
set_option maxRecDepth 20000 in
theorem ck_yX7_feed : gCK yX7_feed cX7_feed 2 (some .int) 1 := ⟨lw_in (List.mem_of_getElem? (i := 349) (by decide +kernel)) rfl, ini_X7, by decide +kernel, by decide +kernel⟩
set_option maxRecDepth 20000 in
theorem ck_yX2_append : gCK yX2_append cX2_append 2 (some .boolean) 1 := ⟨lw_in (List.mem_of_getElem? (i := 354) (by decide +kernel)) rfl, ini_X2, by decide +kernel, by decide +kernel⟩
set_option maxRecDepth 20000 in
theorem ck_yX7_put : gCK yX7_put cX7_put 3 none 3 := ⟨lw_in (List.mem_of_getElem? (i := 357) (by decide +kernel)) rfl, ini_X7, by decide +kernel, by decide +kernel⟩
set_option maxRecDepth 20000 in
theorem ck_yX7_city : gCK yX7_city cX7_city 2 (some .int) 0 := ⟨lw_in (List.mem_of_getElem? (i := 362) (by decide +kernel)) rfl, ini_X7, by decide +kernel, by decide +kernel⟩
set_option maxRecDepth 20000 in
theorem ck_yX2_readInto : gCK yX2_readInto cX2_readInto 3 (some .int) 1 := ⟨lw_in (List.mem_of_getElem? (i := 366) (by decide +kernel)) rfl, ini_X2, by decide +kernel, by decide +kernel⟩
set_option maxRecDepth 20000 in
theorem ck_yX1_clear : gCK yX1_clear cX1_clear 1 none 0 := ⟨lw_in (List.mem_of_getElem? (i := 370) (by decide +kernel)) rfl, ini_X1, by decide +kernel, by decide +kernel⟩
set_option maxRecDepth 20000 in
theorem ck_yX2_skipBlanks : gCK yX2_skipBlanks cX2_skipBlanks 2 none 0 := ⟨lw_in (List.mem_of_getElem? (i := 374) (by decide +kernel)) rfl, ini_X2, by decide +kernel, by decide +kernel⟩
set_option maxRecDepth 20000 in
theorem ck_yX2_next : gCK yX2_next cX2_next 1 (some .int) 0 := ⟨lw_in (List.mem_of_getElem? (i := 378) (by decide +kernel)) rfl, ini_X2, by decide +kernel, by decide +kernel⟩
set_option maxRecDepth 20000 in
theorem ck_yX7_at : gCK yX7_at cX7_at 2 (some .int) 2 := ⟨lw_in (List.mem_of_getElem? (i := 381) (by decide +kernel)) rfl, ini_X7, by decide +kernel, by decide +kernel⟩
set_option maxRecDepth 20000 in
theorem ck_yX2_readClause : gCK yX2_readClause cX2_readClause 3 none 1 := ⟨lw_in (List.mem_of_getElem? (i := 385) (by decide +kernel)) rfl, ini_X2, by decide +kernel, by decide +kernel⟩
set_option maxRecDepth 20000 in
theorem ck_yX2_mark : gCK yX2_mark cX2_mark 3 none 2 := ⟨lw_in (List.mem_of_getElem? (i := 389) (by decide +kernel)) rfl, ini_X2, by decide +kernel, by decide +kernel⟩
set_option maxRecDepth 20000 in
theorem ck_yX2_toldAlready : gCK yX2_toldAlready cX2_toldAlready 3 (some .boolean) 2 := ⟨lw_in (List.mem_of_getElem? (i := 393) (by decide +kernel)) rfl, ini_X2, by decide +kernel, by decide +kernel⟩
set_option maxRecDepth 20000 in
theorem ck_yX2_readReader : gCK yX2_readReader cX2_readReader 3 none 1 := ⟨lw_in (List.mem_of_getElem? (i := 397) (by decide +kernel)) rfl, ini_X2, by decide +kernel, by decide +kernel⟩
set_option maxRecDepth 20000 in
theorem ck_yX2_readNumber : gCK yX2_readNumber cX2_readNumber 5 (some .int) 2 := ⟨lw_in (List.mem_of_getElem? (i := 401) (by decide +kernel)) rfl, ini_X2, by decide +kernel, by decide +kernel⟩
set_option maxRecDepth 20000 in
theorem ck_yX2_atFigure : gCK yX2_atFigure cX2_atFigure 1 (some .boolean) 0 := ⟨lw_in (List.mem_of_getElem? (i := 405) (by decide +kernel)) rfl, ini_X2, by decide +kernel, by decide +kernel⟩
set_option maxRecDepth 20000 in
theorem ck_yX2_takes : gCK yX2_takes cX2_takes 2 (some .boolean) 1 := ⟨lw_in (List.mem_of_getElem? (i := 410) (by decide +kernel)) rfl, ini_X2, by decide +kernel, by decide +kernel⟩
set_option maxRecDepth 20000 in
theorem ck_yX2_readFactOf : gCK yX2_readFactOf cX2_readFactOf 4 none 1 := ⟨lw_in (List.mem_of_getElem? (i := 414) (by decide +kernel)) rfl, ini_X2, by decide +kernel, by decide +kernel⟩
set_option maxRecDepth 20000 in
theorem ck_yX1_hasOpinion : gCK yX1_hasOpinion cX1_hasOpinion 2 (some .boolean) 1 := ⟨lw_in (List.mem_of_getElem? (i := 418) (by decide +kernel)) rfl, ini_X1, by decide +kernel, by decide +kernel⟩
set_option maxRecDepth 20000 in
theorem ck_yX1_copyFrom : gCK yX1_copyFrom cX1_copyFrom 3 none 1 := ⟨lw_in (List.mem_of_getElem? (i := 422) (by decide +kernel)) rfl, ini_X1, by decide +kernel, by decide +kernel⟩
set_option maxRecDepth 20000 in
theorem ck_yX3_begin : gCK yX3_begin cX3_begin 3 none 1 := ⟨lw_in (List.mem_of_getElem? (i := 428) (by decide +kernel)) rfl, ini_X3, by decide +kernel, by decide +kernel⟩
set_option maxRecDepth 20000 in
theorem ck_yX1_hasFact : gCK yX1_hasFact cX1_hasFact 2 (some .boolean) 1 := ⟨lw_in (List.mem_of_getElem? (i := 435) (by decide +kernel)) rfl, ini_X1, by decide +kernel, by decide +kernel⟩
set_option maxRecDepth 20000 in
theorem ck_yX4_clear : gCK yX4_clear cX4_clear 1 none 0 := ⟨lw_in (List.mem_of_getElem? (i := 439) (by decide +kernel)) rfl, ini_X4, by decide +kernel, by decide +kernel⟩
set_option maxRecDepth 20000 in
theorem ck_yX0_clear : gCK yX0_clear cX0_clear 1 none 0 := ⟨lw_in (List.mem_of_getElem? (i := 443) (by decide +kernel)) rfl, ini_X0, by decide +kernel, by decide +kernel⟩
set_option maxRecDepth 20000 in
theorem ck_yX7_fault : gCK yX7_fault cX7_fault 1 (some .int) 0 := ⟨lw_in (List.mem_of_getElem? (i := 447) (by decide +kernel)) rfl, ini_X7, by decide +kernel, by decide +kernel⟩
set_option maxRecDepth 20000 in
theorem ck_yX7_told : gCK yX7_told cX7_told 2 (some .int) 1 := ⟨lw_in (List.mem_of_getElem? (i := 451) (by decide +kernel)) rfl, ini_X7, by decide +kernel, by decide +kernel⟩
set_option maxRecDepth 20000 in
theorem ck_yX3_convincedOf : gCK yX3_convincedOf cX3_convincedOf 4 (some .int) 1 := ⟨lw_in (List.mem_of_getElem? (i := 455) (by decide +kernel)) rfl, ini_X3, by decide +kernel, by decide +kernel⟩
set_option maxRecDepth 20000 in
theorem ck_yX7_belief : gCK yX7_belief cX7_belief 2 (some .int) 1 := ⟨lw_in (List.mem_of_getElem? (i := 459) (by decide +kernel)) rfl, ini_X7, by decide +kernel, by decide +kernel⟩
set_option maxRecDepth 20000 in
theorem ck_yX7_fact : gCK yX7_fact cX7_fact 3 (some .int) 2 := ⟨lw_in (List.mem_of_getElem? (i := 466) (by decide +kernel)) rfl, ini_X7, by decide +kernel, by decide +kernel⟩
set_option maxRecDepth 20000 in
theorem ck_yX7_has : gCK yX7_has cX7_has 2 (some .boolean) 2 := ⟨lw_in (List.mem_of_getElem? (i := 470) (by decide +kernel)) rfl, ini_X7, by decide +kernel, by decide +kernel⟩
set_option maxRecDepth 20000 in
theorem ck_yX7_night : gCK yX7_night cX7_night 2 (some .int) 1 := ⟨lw_in (List.mem_of_getElem? (i := 474) (by decide +kernel)) rfl, ini_X7, by decide +kernel, by decide +kernel⟩
set_option maxRecDepth 20000 in
theorem ck_yX1_hasFacts : gCK yX1_hasFacts cX1_hasFacts 2 (some .boolean) 1 := ⟨lw_in (List.mem_of_getElem? (i := 478) (by decide +kernel)) rfl, ini_X1, by decide +kernel, by decide +kernel⟩
set_option maxRecDepth 20000 in
theorem ck_yX7_mayBe : gCK yX7_mayBe cX7_mayBe 2 (some .boolean) 1 := ⟨lw_in (List.mem_of_getElem? (i := 482) (by decide +kernel)) rfl, ini_X7, by decide +kernel, by decide +kernel⟩
set_option maxRecDepth 20000 in
theorem ck_yX1_fits : gCK yX1_fits cX1_fits 2 (some .boolean) 1 := ⟨lw_in (List.mem_of_getElem? (i := 486) (by decide +kernel)) rfl, ini_X1, by decide +kernel, by decide +kernel⟩
set_option maxRecDepth 20000 in
theorem ck_yJ6_bitCount_0f7a4 : gCK yJ6_bitCount_0f7a4 cJ6_bitCount_0f7a4 1 (some .int) 1 := ⟨lw_in (List.mem_of_getElem? (i := 489) (by decide +kernel)) rfl, ini_J6, by decide +kernel, by decide +kernel⟩
set_option maxRecDepth 20000 in
theorem ck_yX4_push : gCK yX4_push cX4_push 2 none 1 := ⟨lw_in (List.mem_of_getElem? (i := 498) (by decide +kernel)) rfl, ini_X4, by decide +kernel, by decide +kernel⟩
set_option maxRecDepth 20000 in
theorem ck_yX6_store : gCK yX6_store cX6_store 5 none 2 := ⟨lw_in (List.mem_of_getElem? (i := 502) (by decide +kernel)) rfl, ini_X6, by decide +kernel, by decide +kernel⟩
set_option maxRecDepth 20000 in
theorem ck_yX3_spendNight : gCK yX3_spendNight cX3_spendNight 4 none 2 := ⟨lw_in (List.mem_of_getElem? (i := 509) (by decide +kernel)) rfl, ini_X3, by decide +kernel, by decide +kernel⟩
set_option maxRecDepth 20000 in
theorem ck_yX3_readFact : gCK yX3_readFact cX3_readFact 8 (some .boolean) 2 := ⟨lw_in (List.mem_of_getElem? (i := 514) (by decide +kernel)) rfl, ini_X3, by decide +kernel, by decide +kernel⟩
set_option maxRecDepth 20000 in
theorem ck_yX7_wornMove : gCK yX7_wornMove cX7_wornMove 3 (some .int) 2 := ⟨lw_in (List.mem_of_getElem? (i := 517) (by decide +kernel)) rfl, ini_X7, by decide +kernel, by decide +kernel⟩
set_option maxRecDepth 20000 in
theorem ck_yX7_meet : gCK yX7_meet cX7_meet 4 (some .int) 2 := ⟨lw_in (List.mem_of_getElem? (i := 523) (by decide +kernel)) rfl, ini_X7, by decide +kernel, by decide +kernel⟩
set_option maxRecDepth 20000 in
theorem ck_yX7_isBelief : gCK yX7_isBelief cX7_isBelief 1 (some .boolean) 1 := ⟨lw_in (List.mem_of_getElem? (i := 526) (by decide +kernel)) rfl, ini_X7, by decide +kernel, by decide +kernel⟩
set_option maxRecDepth 20000 in
theorem ck_yX7_behindMeeting : gCK yX7_behindMeeting cX7_behindMeeting 2 (some .int) 2 := ⟨lw_in (List.mem_of_getElem? (i := 529) (by decide +kernel)) rfl, ini_X7, by decide +kernel, by decide +kernel⟩
set_option maxRecDepth 20000 in
theorem ck_yX7_make : gCK yX7_make cX7_make 2 (some .int) 1 := ⟨lw_in (List.mem_of_getElem? (i := 534) (by decide +kernel)) rfl, ini_X7, by decide +kernel, by decide +kernel⟩
set_option maxRecDepth 20000 in
theorem ck_yX7_drift : gCK yX7_drift cX7_drift 3 (some .int) 1 := ⟨lw_in (List.mem_of_getElem? (i := 538) (by decide +kernel)) rfl, ini_X7, by decide +kernel, by decide +kernel⟩
set_option maxRecDepth 20000 in
theorem ck_yX7_drawnSheet : gCK yX7_drawnSheet cX7_drawnSheet 4 (some .int) 0 := ⟨lw_in (List.mem_of_getElem? (i := 542) (by decide +kernel)) rfl, ini_X7, by decide +kernel, by decide +kernel⟩
set_option maxRecDepth 20000 in
theorem ck_yX7_drawOf : gCK yX7_drawOf cX7_drawOf 2 (some .int) 1 := ⟨lw_in (List.mem_of_getElem? (i := 546) (by decide +kernel)) rfl, ini_X7, by decide +kernel, by decide +kernel⟩
set_option maxRecDepth 20000 in
theorem ck_yX7_undo : gCK yX7_undo cX7_undo 1 (some .int) 0 := ⟨lw_in (List.mem_of_getElem? (i := 554) (by decide +kernel)) rfl, ini_X7, by decide +kernel, by decide +kernel⟩
set_option maxRecDepth 20000 in
theorem ck_yX4_pop : gCK yX4_pop cX4_pop 2 (some .boolean) 1 := ⟨lw_in (List.mem_of_getElem? (i := 558) (by decide +kernel)) rfl, ini_X4, by decide +kernel, by decide +kernel⟩
set_option maxRecDepth 20000 in
theorem ck_yX6_fetch : gCK yX6_fetch cX6_fetch 5 none 2 := ⟨lw_in (List.mem_of_getElem? (i := 562) (by decide +kernel)) rfl, ini_X6, by decide +kernel, by decide +kernel⟩
set_option maxRecDepth 20000 in
theorem ck_yX7_thinks : gCK yX7_thinks cX7_thinks 3 (some .int) 2 := ⟨lw_in (List.mem_of_getElem? (i := 566) (by decide +kernel)) rfl, ini_X7, by decide +kernel, by decide +kernel⟩
set_option maxRecDepth 20000 in
theorem ck_yX3_copyFrom : gCK yX3_copyFrom cX3_copyFrom 3 none 1 := ⟨lw_in (List.mem_of_getElem? (i := 570) (by decide +kernel)) rfl, ini_X3, by decide +kernel, by decide +kernel⟩
set_option maxRecDepth 20000 in
theorem ck_yX7_soonest : gCK yX7_soonest cX7_soonest 4 (some .int) 3 := ⟨lw_in (List.mem_of_getElem? (i := 574) (by decide +kernel)) rfl, ini_X7, by decide +kernel, by decide +kernel⟩
set_option maxRecDepth 20000 in
theorem ck_yX1_hasOpinions : gCK yX1_hasOpinions cX1_hasOpinions 2 (some .boolean) 1 := ⟨lw_in (List.mem_of_getElem? (i := 578) (by decide +kernel)) rfl, ini_X1, by decide +kernel, by decide +kernel⟩
set_option maxRecDepth 20000 in
theorem ck_yX7_findSoonest : gCK yX7_findSoonest cX7_findSoonest 3 (some .boolean) 2 := ⟨lw_in (List.mem_of_getElem? (i := 582) (by decide +kernel)) rfl, ini_X7, by decide +kernel, by decide +kernel⟩
set_option maxRecDepth 20000 in
theorem ck_yX3_isConvinced : gCK yX3_isConvinced cX3_isConvinced 5 (some .boolean) 3 := ⟨lw_in (List.mem_of_getElem? (i := 586) (by decide +kernel)) rfl, ini_X3, by decide +kernel, by decide +kernel⟩
set_option maxRecDepth 20000 in
theorem ck_yX5_become : gCK yX5_become cX5_become 4 none 3 := ⟨lw_in (List.mem_of_getElem? (i := 591) (by decide +kernel)) rfl, ini_X5, by decide +kernel, by decide +kernel⟩
set_option maxRecDepth 20000 in
theorem ck_yX7_findOneNight : gCK yX7_findOneNight cX7_findOneNight 7 (some .boolean) 5 := ⟨lw_in (List.mem_of_getElem? (i := 595) (by decide +kernel)) rfl, ini_X7, by decide +kernel, by decide +kernel⟩
set_option maxRecDepth 20000 in
theorem ck_yX7_findTwoNights : gCK yX7_findTwoNights cX7_findTwoNights 4 (some .boolean) 2 := ⟨lw_in (List.mem_of_getElem? (i := 599) (by decide +kernel)) rfl, ini_X7, by decide +kernel, by decide +kernel⟩
set_option maxRecDepth 20000 in
theorem ck_yX7_cannot : gCK yX7_cannot cX7_cannot 4 (some .int) 0 := ⟨lw_in (List.mem_of_getElem? (i := 603) (by decide +kernel)) rfl, ini_X7, by decide +kernel, by decide +kernel⟩
set_option maxRecDepth 20000 in
theorem ck_yX7_reachedBehind : gCK yX7_reachedBehind cX7_reachedBehind 4 (some .int) 1 := ⟨lw_in (List.mem_of_getElem? (i := 607) (by decide +kernel)) rfl, ini_X7, by decide +kernel, by decide +kernel⟩
set_option maxRecDepth 20000 in
theorem ck_yX7_least : gCK yX7_least cX7_least 9 (some .int) 2 := ⟨lw_in (List.mem_of_getElem? (i := 611) (by decide +kernel)) rfl, ini_X7, by decide +kernel, by decide +kernel⟩
set_option maxRecDepth 20000 in
theorem ck_yX1_costOf : gCK yX1_costOf cX1_costOf 4 (some .int) 1 := ⟨lw_in (List.mem_of_getElem? (i := 615) (by decide +kernel)) rfl, ini_X1, by decide +kernel, by decide +kernel⟩
set_option maxRecDepth 20000 in
theorem ck_yX7_convincesOf : gCK yX7_convincesOf cX7_convincesOf 3 (some .boolean) 2 := ⟨lw_in (List.mem_of_getElem? (i := 620) (by decide +kernel)) rfl, ini_X7, by decide +kernel, by decide +kernel⟩
set_option maxRecDepth 20000 in
theorem ck_yX7_rivals : gCK yX7_rivals cX7_rivals 3 (some .int) 2 := ⟨lw_in (List.mem_of_getElem? (i := 624) (by decide +kernel)) rfl, ini_X7, by decide +kernel, by decide +kernel⟩
set_option maxRecDepth 20000 in
theorem ck_yX7_rivalsEnd : gCK yX7_rivalsEnd cX7_rivalsEnd 12 (some .int) 6 := ⟨lw_in (List.mem_of_getElem? (i := 627) (by decide +kernel)) rfl, ini_X7, by decide +kernel, by decide +kernel⟩
set_option maxRecDepth 20000 in
theorem ck_yX3_unread : gCK yX3_unread cX3_unread 4 none 3 := ⟨lw_in (List.mem_of_getElem? (i := 632) (by decide +kernel)) rfl, ini_X3, by decide +kernel, by decide +kernel⟩
set_option maxRecDepth 20000 in
theorem ck_yX7_shun : gCK yX7_shun cX7_shun 7 (some .int) 2 := ⟨lw_in (List.mem_of_getElem? (i := 638) (by decide +kernel)) rfl, ini_X7, by decide +kernel, by decide +kernel⟩
set_option maxRecDepth 20000 in
theorem ck_yX7_holds : gCK yX7_holds cX7_holds 6 (some .int) 2 := ⟨lw_in (List.mem_of_getElem? (i := 642) (by decide +kernel)) rfl, ini_X7, by decide +kernel, by decide +kernel⟩
set_option maxRecDepth 20000 in
theorem ck_yX7_worn : gCK yX7_worn cX7_worn 3 (some .int) 0 := ⟨lw_in (List.mem_of_getElem? (i := 648) (by decide +kernel)) rfl, ini_X7, by decide +kernel, by decide +kernel⟩
set_option maxRecDepth 20000 in
theorem ck_yX7_thought : gCK yX7_thought cX7_thought 3 (some .int) 2 := ⟨lw_in (List.mem_of_getElem? (i := 653) (by decide +kernel)) rfl, ini_X7, by decide +kernel, by decide +kernel⟩
set_option maxRecDepth 20000 in
theorem ck_yX7_noteIn : gCK yX7_noteIn cX7_noteIn 4 (some .int) 3 := ⟨lw_in (List.mem_of_getElem? (i := 657) (by decide +kernel)) rfl, ini_X7, by decide +kernel, by decide +kernel⟩
set_option maxRecDepth 20000 in
theorem ck_yX0_append : gCK yX0_append cX0_append 3 (some .boolean) 2 := ⟨lw_in (List.mem_of_getElem? (i := 661) (by decide +kernel)) rfl, ini_X0, by decide +kernel, by decide +kernel⟩
set_option maxRecDepth 20000 in
theorem ck_yX7_leftOut : gCK yX7_leftOut cX7_leftOut 6 (some .int) 1 := ⟨lw_in (List.mem_of_getElem? (i := 666) (by decide +kernel)) rfl, ini_X7, by decide +kernel, by decide +kernel⟩
set_option maxRecDepth 20000 in
theorem ck_yX7_thoughtBehind : gCK yX7_thoughtBehind cX7_thoughtBehind 3 (some .boolean) 2 := ⟨lw_in (List.mem_of_getElem? (i := 670) (by decide +kernel)) rfl, ini_X7, by decide +kernel, by decide +kernel⟩
set_option maxRecDepth 20000 in
theorem ck_yX0_firstOtherwise : gCK yX0_firstOtherwise cX0_firstOtherwise 3 (some .int) 1 := ⟨lw_in (List.mem_of_getElem? (i := 674) (by decide +kernel)) rfl, ini_X0, by decide +kernel, by decide +kernel⟩
set_option maxRecDepth 20000 in
theorem ck_yX7_strengths : gCK yX7_strengths cX7_strengths 5 (some .int) 2 := ⟨lw_in (List.mem_of_getElem? (i := 679) (by decide +kernel)) rfl, ini_X7, by decide +kernel, by decide +kernel⟩
set_option maxRecDepth 20000 in
theorem ck_yX7_write : gCK yX7_write cX7_write 3 (some .int) 2 := ⟨lw_in (List.mem_of_getElem? (i := 683) (by decide +kernel)) rfl, ini_X7, by decide +kernel, by decide +kernel⟩
set_option maxRecDepth 20000 in
theorem ck_yX7_tear : gCK yX7_tear cX7_tear 2 (some .int) 0 := ⟨lw_in (List.mem_of_getElem? (i := 687) (by decide +kernel)) rfl, ini_X7, by decide +kernel, by decide +kernel⟩
set_option maxRecDepth 20000 in
theorem ck_yX7_judge : gCK yX7_judge cX7_judge 1 (some .int) 0 := ⟨lw_in (List.mem_of_getElem? (i := 691) (by decide +kernel)) rfl, ini_X7, by decide +kernel, by decide +kernel⟩
set_option maxRecDepth 20000 in
theorem ck_yX7_seed : gCK yX7_seed cX7_seed 3 (some .int) 1 := ⟨lw_in (List.mem_of_getElem? (i := 695) (by decide +kernel)) rfl, ini_X7, by decide +kernel, by decide +kernel⟩
set_option maxRecDepth 20000 in
theorem ck_yX7_keep : gCK yX7_keep cX7_keep 2 (some .int) 1 := ⟨lw_in (List.mem_of_getElem? (i := 699) (by decide +kernel)) rfl, ini_X7, by decide +kernel, by decide +kernel⟩
set_option maxRecDepth 20000 in
theorem ck_yX7_goBack : gCK yX7_goBack cX7_goBack 2 (some .int) 1 := ⟨lw_in (List.mem_of_getElem? (i := 704) (by decide +kernel)) rfl, ini_X7, by decide +kernel, by decide +kernel⟩
set_option maxRecDepth 20000 in
theorem ck_yX8_init : gCK yX8_init cX8_init 1 none 0 := ⟨lw_in (List.mem_of_getElem? (i := 710) (by decide +kernel)) rfl, ini_X8, by decide +kernel, by decide +kernel⟩
set_option maxRecDepth 20000 in
theorem ck_yX8_begins : gCK yX8_begins cX8_begins 2 none 0 := ⟨lw_in (List.mem_of_getElem? (i := 715) (by decide +kernel)) rfl, ini_X8, by decide +kernel, by decide +kernel⟩
set_option maxRecDepth 20000 in
theorem ck_yX8_feed : gCK yX8_feed cX8_feed 2 (some .int) 1 := ⟨lw_in (List.mem_of_getElem? (i := 808) (by decide +kernel)) rfl, ini_X8, by decide +kernel, by decide +kernel⟩
set_option maxRecDepth 20000 in
theorem ck_yX8_in : gCK yX8_in cX8_in 6 (some .boolean) 3 := ⟨lw_in (List.mem_of_getElem? (i := 812) (by decide +kernel)) rfl, ini_X8, by decide +kernel, by decide +kernel⟩
set_option maxRecDepth 20000 in
theorem ck_yX8_city : gCK yX8_city cX8_city 3 (some .int) 0 := ⟨lw_in (List.mem_of_getElem? (i := 818) (by decide +kernel)) rfl, ini_X8, by decide +kernel, by decide +kernel⟩
set_option maxRecDepth 20000 in
theorem ck_yX8_step : gCK yX8_step cX8_step 1 none 0 := ⟨lw_in (List.mem_of_getElem? (i := 822) (by decide +kernel)) rfl, ini_X8, by decide +kernel, by decide +kernel⟩
set_option maxRecDepth 20000 in
theorem ck_yX8_here : gCK yX8_here cX8_here 1 (some .int) 0 := ⟨lw_in (List.mem_of_getElem? (i := 826) (by decide +kernel)) rfl, ini_X8, by decide +kernel, by decide +kernel⟩
set_option maxRecDepth 20000 in
theorem ck_yX8_readsClause : gCK yX8_readsClause cX8_readsClause 2 (some .boolean) 0 := ⟨lw_in (List.mem_of_getElem? (i := 832) (by decide +kernel)) rfl, ini_X8, by decide +kernel, by decide +kernel⟩
set_option maxRecDepth 20000 in
theorem ck_yX8_readsReader : gCK yX8_readsReader cX8_readsReader 2 (some .boolean) 0 := ⟨lw_in (List.mem_of_getElem? (i := 836) (by decide +kernel)) rfl, ini_X8, by decide +kernel, by decide +kernel⟩
set_option maxRecDepth 20000 in
theorem ck_yX8_fails : gCK yX8_fails cX8_fails 2 (some .boolean) 1 := ⟨lw_in (List.mem_of_getElem? (i := 840) (by decide +kernel)) rfl, ini_X8, by decide +kernel, by decide +kernel⟩
set_option maxRecDepth 20000 in
theorem ck_yX8_number : gCK yX8_number cX8_number 4 (some .boolean) 3 := ⟨lw_in (List.mem_of_getElem? (i := 844) (by decide +kernel)) rfl, ini_X8, by decide +kernel, by decide +kernel⟩
set_option maxRecDepth 20000 in
theorem ck_yX8_readsFact : gCK yX8_readsFact cX8_readsFact 2 (some .boolean) 0 := ⟨lw_in (List.mem_of_getElem? (i := 848) (by decide +kernel)) rfl, ini_X8, by decide +kernel, by decide +kernel⟩
set_option maxRecDepth 20000 in
theorem ck_yX8_ends : gCK yX8_ends cX8_ends 1 (some .boolean) 0 := ⟨lw_in (List.mem_of_getElem? (i := 852) (by decide +kernel)) rfl, ini_X8, by decide +kernel, by decide +kernel⟩
set_option maxRecDepth 20000 in
theorem ck_yX8_readsSure : gCK yX8_readsSure cX8_readsSure 1 (some .boolean) 0 := ⟨lw_in (List.mem_of_getElem? (i := 856) (by decide +kernel)) rfl, ini_X8, by decide +kernel, by decide +kernel⟩
set_option maxRecDepth 20000 in
theorem ck_yX8_fault : gCK yX8_fault cX8_fault 1 (some .int) 0 := ⟨lw_in (List.mem_of_getElem? (i := 860) (by decide +kernel)) rfl, ini_X8, by decide +kernel, by decide +kernel⟩
set_option maxRecDepth 20000 in
theorem ck_yX8_told : gCK yX8_told cX8_told 2 (some .int) 1 := ⟨lw_in (List.mem_of_getElem? (i := 864) (by decide +kernel)) rfl, ini_X8, by decide +kernel, by decide +kernel⟩
set_option maxRecDepth 20000 in
theorem ck_yX8_convinced : gCK yX8_convinced cX8_convinced 4 (some .int) 1 := ⟨lw_in (List.mem_of_getElem? (i := 868) (by decide +kernel)) rfl, ini_X8, by decide +kernel, by decide +kernel⟩
set_option maxRecDepth 20000 in
theorem ck_yX8_belief : gCK yX8_belief cX8_belief 2 (some .int) 1 := ⟨lw_in (List.mem_of_getElem? (i := 872) (by decide +kernel)) rfl, ini_X8, by decide +kernel, by decide +kernel⟩
set_option maxRecDepth 20000 in
theorem ck_yX8_isOpinion : gCK yX8_isOpinion cX8_isOpinion 2 (some .boolean) 1 := ⟨lw_in (List.mem_of_getElem? (i := 876) (by decide +kernel)) rfl, ini_X8, by decide +kernel, by decide +kernel⟩
set_option maxRecDepth 20000 in
theorem ck_yX8_fact : gCK yX8_fact cX8_fact 3 (some .int) 2 := ⟨lw_in (List.mem_of_getElem? (i := 881) (by decide +kernel)) rfl, ini_X8, by decide +kernel, by decide +kernel⟩
set_option maxRecDepth 20000 in
theorem ck_yX8_isFact : gCK yX8_isFact cX8_isFact 2 (some .boolean) 1 := ⟨lw_in (List.mem_of_getElem? (i := 885) (by decide +kernel)) rfl, ini_X8, by decide +kernel, by decide +kernel⟩
set_option maxRecDepth 20000 in
theorem ck_yX8_has : gCK yX8_has cX8_has 2 (some .boolean) 2 := ⟨lw_in (List.mem_of_getElem? (i := 888) (by decide +kernel)) rfl, ini_X8, by decide +kernel, by decide +kernel⟩
set_option maxRecDepth 20000 in
theorem ck_yX8_night : gCK yX8_night cX8_night 2 (some .int) 1 := ⟨lw_in (List.mem_of_getElem? (i := 892) (by decide +kernel)) rfl, ini_X8, by decide +kernel, by decide +kernel⟩
set_option maxRecDepth 20000 in
theorem ck_yX8_areFacts : gCK yX8_areFacts cX8_areFacts 2 (some .boolean) 1 := ⟨lw_in (List.mem_of_getElem? (i := 896) (by decide +kernel)) rfl, ini_X8, by decide +kernel, by decide +kernel⟩
set_option maxRecDepth 20000 in
theorem ck_yX8_maySheet : gCK yX8_maySheet cX8_maySheet 3 (some .boolean) 2 := ⟨lw_in (List.mem_of_getElem? (i := 900) (by decide +kernel)) rfl, ini_X8, by decide +kernel, by decide +kernel⟩
set_option maxRecDepth 20000 in
theorem ck_yX8_bits : gCK yX8_bits cX8_bits 3 (some .int) 1 := ⟨lw_in (List.mem_of_getElem? (i := 903) (by decide +kernel)) rfl, ini_X8, by decide +kernel, by decide +kernel⟩
set_option maxRecDepth 20000 in
theorem ck_yX8_remember : gCK yX8_remember cX8_remember 2 none 0 := ⟨lw_in (List.mem_of_getElem? (i := 909) (by decide +kernel)) rfl, ini_X8, by decide +kernel, by decide +kernel⟩
set_option maxRecDepth 20000 in
theorem ck_yX8_copies : gCK yX8_copies cX8_copies 6 none 5 := ⟨lw_in (List.mem_of_getElem? (i := 912) (by decide +kernel)) rfl, ini_X8, by decide +kernel, by decide +kernel⟩
set_option maxRecDepth 20000 in
theorem ck_yX8_prints : gCK yX8_prints cX8_prints 2 none 1 := ⟨lw_in (List.mem_of_getElem? (i := 916) (by decide +kernel)) rfl, ini_X8, by decide +kernel, by decide +kernel⟩
set_option maxRecDepth 20000 in
theorem ck_yX8_readsSheet : gCK yX8_readsSheet cX8_readsSheet 6 (some .int) 2 := ⟨lw_in (List.mem_of_getElem? (i := 920) (by decide +kernel)) rfl, ini_X8, by decide +kernel, by decide +kernel⟩
set_option maxRecDepth 20000 in
theorem ck_yX8_byOf : gCK yX8_byOf cX8_byOf 2 (some .int) 1 := ⟨lw_in (List.mem_of_getElem? (i := 924) (by decide +kernel)) rfl, ini_X8, by decide +kernel, by decide +kernel⟩
set_option maxRecDepth 20000 in
theorem ck_yX8_reads : gCK yX8_reads cX8_reads 7 (some .boolean) 3 := ⟨lw_in (List.mem_of_getElem? (i := 928) (by decide +kernel)) rfl, ini_X8, by decide +kernel, by decide +kernel⟩
set_option maxRecDepth 20000 in
theorem ck_yX8_bound : gCK yX8_bound cX8_bound 1 (some .int) 1 := ⟨lw_in (List.mem_of_getElem? (i := 931) (by decide +kernel)) rfl, ini_X8, by decide +kernel, by decide +kernel⟩
set_option maxRecDepth 20000 in
theorem ck_yX8_meet : gCK yX8_meet cX8_meet 3 (some .int) 2 := ⟨lw_in (List.mem_of_getElem? (i := 935) (by decide +kernel)) rfl, ini_X8, by decide +kernel, by decide +kernel⟩
set_option maxRecDepth 20000 in
theorem ck_yX8_make : gCK yX8_make cX8_make 2 (some .int) 1 := ⟨lw_in (List.mem_of_getElem? (i := 940) (by decide +kernel)) rfl, ini_X8, by decide +kernel, by decide +kernel⟩
set_option maxRecDepth 20000 in
theorem ck_yX8_drift : gCK yX8_drift cX8_drift 5 (some .int) 1 := ⟨lw_in (List.mem_of_getElem? (i := 944) (by decide +kernel)) rfl, ini_X8, by decide +kernel, by decide +kernel⟩
set_option maxRecDepth 20000 in
theorem ck_yX8_draw : gCK yX8_draw cX8_draw 2 (some .int) 1 := ⟨lw_in (List.mem_of_getElem? (i := 949) (by decide +kernel)) rfl, ini_X8, by decide +kernel, by decide +kernel⟩
set_option maxRecDepth 20000 in
theorem ck_yX8_undo : gCK yX8_undo cX8_undo 1 (some .int) 0 := ⟨lw_in (List.mem_of_getElem? (i := 957) (by decide +kernel)) rfl, ini_X8, by decide +kernel, by decide +kernel⟩
set_option maxRecDepth 20000 in
theorem ck_yX8_thinks : gCK yX8_thinks cX8_thinks 4 (some .int) 2 := ⟨lw_in (List.mem_of_getElem? (i := 961) (by decide +kernel)) rfl, ini_X8, by decide +kernel, by decide +kernel⟩
set_option maxRecDepth 20000 in
theorem ck_yX8_triesTonight : gCK yX8_triesTonight cX8_triesTonight 2 (some .int) 1 := ⟨lw_in (List.mem_of_getElem? (i := 965) (by decide +kernel)) rfl, ini_X8, by decide +kernel, by decide +kernel⟩
set_option maxRecDepth 20000 in
theorem ck_yX8_soonest : gCK yX8_soonest cX8_soonest 5 (some .int) 3 := ⟨lw_in (List.mem_of_getElem? (i := 969) (by decide +kernel)) rfl, ini_X8, by decide +kernel, by decide +kernel⟩
set_option maxRecDepth 20000 in
theorem ck_yX8_areOpinions : gCK yX8_areOpinions cX8_areOpinions 2 (some .boolean) 1 := ⟨lw_in (List.mem_of_getElem? (i := 973) (by decide +kernel)) rfl, ini_X8, by decide +kernel, by decide +kernel⟩
set_option maxRecDepth 20000 in
theorem ck_yX8_layNights : gCK yX8_layNights cX8_layNights 8 (some .int) 2 := ⟨lw_in (List.mem_of_getElem? (i := 977) (by decide +kernel)) rfl, ini_X8, by decide +kernel, by decide +kernel⟩
set_option maxRecDepth 20000 in
theorem ck_yX8_isWanted : gCK yX8_isWanted cX8_isWanted 5 (some .boolean) 3 := ⟨lw_in (List.mem_of_getElem? (i := 981) (by decide +kernel)) rfl, ini_X8, by decide +kernel, by decide +kernel⟩
set_option maxRecDepth 20000 in
theorem ck_yX8_cannot : gCK yX8_cannot cX8_cannot 7 (some .int) 0 := ⟨lw_in (List.mem_of_getElem? (i := 986) (by decide +kernel)) rfl, ini_X8, by decide +kernel, by decide +kernel⟩
set_option maxRecDepth 20000 in
theorem ck_yX8_least : gCK yX8_least cX8_least 6 (some .int) 2 := ⟨lw_in (List.mem_of_getElem? (i := 990) (by decide +kernel)) rfl, ini_X8, by decide +kernel, by decide +kernel⟩
set_option maxRecDepth 20000 in
theorem ck_yX8_costOf : gCK yX8_costOf cX8_costOf 4 (some .int) 1 := ⟨lw_in (List.mem_of_getElem? (i := 994) (by decide +kernel)) rfl, ini_X8, by decide +kernel, by decide +kernel⟩
set_option maxRecDepth 20000 in
theorem ck_yX8_convinces : gCK yX8_convinces cX8_convinces 5 (some .boolean) 2 := ⟨lw_in (List.mem_of_getElem? (i := 998) (by decide +kernel)) rfl, ini_X8, by decide +kernel, by decide +kernel⟩
set_option maxRecDepth 20000 in
theorem ck_yX8_rivals : gCK yX8_rivals cX8_rivals 4 (some .int) 2 := ⟨lw_in (List.mem_of_getElem? (i := 1002) (by decide +kernel)) rfl, ini_X8, by decide +kernel, by decide +kernel⟩
set_option maxRecDepth 20000 in
theorem ck_yX8_beginsStep : gCK yX8_beginsStep cX8_beginsStep 2 none 1 := ⟨lw_in (List.mem_of_getElem? (i := 1007) (by decide +kernel)) rfl, ini_X8, by decide +kernel, by decide +kernel⟩
set_option maxRecDepth 20000 in
theorem ck_yX8_weighs : gCK yX8_weighs cX8_weighs 4 none 2 := ⟨lw_in (List.mem_of_getElem? (i := 1011) (by decide +kernel)) rfl, ini_X8, by decide +kernel, by decide +kernel⟩
set_option maxRecDepth 20000 in
theorem ck_yX8_goes : gCK yX8_goes cX8_goes 5 (some .boolean) 1 := ⟨lw_in (List.mem_of_getElem? (i := 1015) (by decide +kernel)) rfl, ini_X8, by decide +kernel, by decide +kernel⟩
set_option maxRecDepth 20000 in
theorem ck_yX8_shun : gCK yX8_shun cX8_shun 6 (some .int) 2 := ⟨lw_in (List.mem_of_getElem? (i := 1019) (by decide +kernel)) rfl, ini_X8, by decide +kernel, by decide +kernel⟩
set_option maxRecDepth 20000 in
theorem ck_yX8_holds : gCK yX8_holds cX8_holds 6 (some .int) 2 := ⟨lw_in (List.mem_of_getElem? (i := 1023) (by decide +kernel)) rfl, ini_X8, by decide +kernel, by decide +kernel⟩
set_option maxRecDepth 20000 in
theorem ck_yX8_worn : gCK yX8_worn cX8_worn 3 (some .int) 0 := ⟨lw_in (List.mem_of_getElem? (i := 1029) (by decide +kernel)) rfl, ini_X8, by decide +kernel, by decide +kernel⟩
set_option maxRecDepth 20000 in
theorem ck_yX8_thought : gCK yX8_thought cX8_thought 3 (some .int) 2 := ⟨lw_in (List.mem_of_getElem? (i := 1033) (by decide +kernel)) rfl, ini_X8, by decide +kernel, by decide +kernel⟩
set_option maxRecDepth 20000 in
theorem ck_yX8_leftOut : gCK yX8_leftOut cX8_leftOut 8 (some .int) 1 := ⟨lw_in (List.mem_of_getElem? (i := 1037) (by decide +kernel)) rfl, ini_X8, by decide +kernel, by decide +kernel⟩
set_option maxRecDepth 20000 in
theorem ck_yX8_isThought : gCK yX8_isThought cX8_isThought 3 (some .boolean) 0 := ⟨lw_in (List.mem_of_getElem? (i := 1041) (by decide +kernel)) rfl, ini_X8, by decide +kernel, by decide +kernel⟩
set_option maxRecDepth 20000 in
theorem ck_yX8_strengths : gCK yX8_strengths cX8_strengths 7 (some .int) 2 := ⟨lw_in (List.mem_of_getElem? (i := 1045) (by decide +kernel)) rfl, ini_X8, by decide +kernel, by decide +kernel⟩
set_option maxRecDepth 20000 in
theorem ck_yX8_write : gCK yX8_write cX8_write 3 (some .int) 2 := ⟨lw_in (List.mem_of_getElem? (i := 1049) (by decide +kernel)) rfl, ini_X8, by decide +kernel, by decide +kernel⟩
set_option maxRecDepth 20000 in
theorem ck_yX8_tear : gCK yX8_tear cX8_tear 2 (some .int) 0 := ⟨lw_in (List.mem_of_getElem? (i := 1053) (by decide +kernel)) rfl, ini_X8, by decide +kernel, by decide +kernel⟩
set_option maxRecDepth 20000 in
theorem ck_yX8_judge : gCK yX8_judge cX8_judge 2 (some .int) 0 := ⟨lw_in (List.mem_of_getElem? (i := 1057) (by decide +kernel)) rfl, ini_X8, by decide +kernel, by decide +kernel⟩
set_option maxRecDepth 20000 in
theorem ck_yX8_seed : gCK yX8_seed cX8_seed 3 (some .int) 1 := ⟨lw_in (List.mem_of_getElem? (i := 1061) (by decide +kernel)) rfl, ini_X8, by decide +kernel, by decide +kernel⟩
set_option maxRecDepth 20000 in
theorem ck_yX8_keep : gCK yX8_keep cX8_keep 2 (some .int) 1 := ⟨lw_in (List.mem_of_getElem? (i := 1065) (by decide +kernel)) rfl, ini_X8, by decide +kernel, by decide +kernel⟩
set_option maxRecDepth 20000 in
theorem ck_yX8_goBack : gCK yX8_goBack cX8_goBack 2 (some .int) 1 := ⟨lw_in (List.mem_of_getElem? (i := 1069) (by decide +kernel)) rfl, ini_X8, by decide +kernel, by decide +kernel⟩
set_option maxRecDepth 20000 in
theorem inT_X0 : ∀ w ∈ u_ws RX0 TX0 3, w ∈ lw_tbl := by
  intro w hw
  have h : (u_ws RX0 TX0 3).map some = ([296, 298, 300] : List Nat).map (fun i => lw_tbl[i]?) := by decide +kernel
  obtain ⟨k, hk⟩ := List.mem_iff_getElem?.mp hw
  have h2 : ((u_ws RX0 TX0 3).map some)[k]? = some (some w) := by rw [List.getElem?_map, hk]; rfl
  rw [h, List.getElem?_map] at h2
  obtain ⟨i, _, hi⟩ := Option.map_eq_some_iff.mp h2
  exact List.mem_of_getElem? hi
theorem inX0 : ∀ w ∈ u_ws RX0 TX0 3, w ∈ lw_good := fun w hw => lw_in (inT_X0 w hw) (List.all_eq_true.mp (show (u_ws RX0 TX0 3).all goodWord = true by decide +kernel) w hw)
set_option maxRecDepth 20000 in
theorem inT_X1 : ∀ w ∈ u_ws RX1 TX1 10, w ∈ lw_tbl := by
  intro w hw
  have h : (u_ws RX1 TX1 10).map some = ([172, 174, 176, 178, 180, 182, 184, 186, 188, 190] : List Nat).map (fun i => lw_tbl[i]?) := by decide +kernel
  obtain ⟨k, hk⟩ := List.mem_iff_getElem?.mp hw
  have h2 : ((u_ws RX1 TX1 10).map some)[k]? = some (some w) := by rw [List.getElem?_map, hk]; rfl
  rw [h, List.getElem?_map] at h2
  obtain ⟨i, _, hi⟩ := Option.map_eq_some_iff.mp h2
  exact List.mem_of_getElem? hi
theorem inX1 : ∀ w ∈ u_ws RX1 TX1 10, w ∈ lw_good := fun w hw => lw_in (inT_X1 w hw) (List.all_eq_true.mp (show (u_ws RX1 TX1 10).all goodWord = true by decide +kernel) w hw)
set_option maxRecDepth 20000 in
theorem inT_X2 : ∀ w ∈ u_ws RX2 TX2 7, w ∈ lw_tbl := by
  intro w hw
  have h : (u_ws RX2 TX2 7).map some = ([112, 114, 116, 118, 120, 122, 124] : List Nat).map (fun i => lw_tbl[i]?) := by decide +kernel
  obtain ⟨k, hk⟩ := List.mem_iff_getElem?.mp hw
  have h2 : ((u_ws RX2 TX2 7).map some)[k]? = some (some w) := by rw [List.getElem?_map, hk]; rfl
  rw [h, List.getElem?_map] at h2
  obtain ⟨i, _, hi⟩ := Option.map_eq_some_iff.mp h2
  exact List.mem_of_getElem? hi
theorem inX2 : ∀ w ∈ u_ws RX2 TX2 7, w ∈ lw_good := fun w hw => lw_in (inT_X2 w hw) (List.all_eq_true.mp (show (u_ws RX2 TX2 7).all goodWord = true by decide +kernel) w hw)
set_option maxRecDepth 20000 in
theorem inT_X3 : ∀ w ∈ u_ws RX3 TX3 6, w ∈ lw_tbl := by
  intro w hw
  have h : (u_ws RX3 TX3 6).map some = ([218, 220, 222, 224, 226, 228] : List Nat).map (fun i => lw_tbl[i]?) := by decide +kernel
  obtain ⟨k, hk⟩ := List.mem_iff_getElem?.mp hw
  have h2 : ((u_ws RX3 TX3 6).map some)[k]? = some (some w) := by rw [List.getElem?_map, hk]; rfl
  rw [h, List.getElem?_map] at h2
  obtain ⟨i, _, hi⟩ := Option.map_eq_some_iff.mp h2
  exact List.mem_of_getElem? hi
theorem inX3 : ∀ w ∈ u_ws RX3 TX3 6, w ∈ lw_good := fun w hw => lw_in (inT_X3 w hw) (List.all_eq_true.mp (show (u_ws RX3 TX3 6).all goodWord = true by decide +kernel) w hw)
set_option maxRecDepth 20000 in
theorem inT_X4 : ∀ w ∈ u_ws RX4 TX4 3, w ∈ lw_tbl := by
  intro w hw
  have h : (u_ws RX4 TX4 3).map some = ([276, 278, 280] : List Nat).map (fun i => lw_tbl[i]?) := by decide +kernel
  obtain ⟨k, hk⟩ := List.mem_iff_getElem?.mp hw
  have h2 : ((u_ws RX4 TX4 3).map some)[k]? = some (some w) := by rw [List.getElem?_map, hk]; rfl
  rw [h, List.getElem?_map] at h2
  obtain ⟨i, _, hi⟩ := Option.map_eq_some_iff.mp h2
  exact List.mem_of_getElem? hi
theorem inX4 : ∀ w ∈ u_ws RX4 TX4 3, w ∈ lw_good := fun w hw => lw_in (inT_X4 w hw) (List.all_eq_true.mp (show (u_ws RX4 TX4 3).all goodWord = true by decide +kernel) w hw)
set_option maxRecDepth 20000 in
theorem inT_X5 : ∀ w ∈ u_ws RX5 TX5 3, w ∈ lw_tbl := by
  intro w hw
  have h : (u_ws RX5 TX5 3).map some = ([243, 245, 247] : List Nat).map (fun i => lw_tbl[i]?) := by decide +kernel
  obtain ⟨k, hk⟩ := List.mem_iff_getElem?.mp hw
  have h2 : ((u_ws RX5 TX5 3).map some)[k]? = some (some w) := by rw [List.getElem?_map, hk]; rfl
  rw [h, List.getElem?_map] at h2
  obtain ⟨i, _, hi⟩ := Option.map_eq_some_iff.mp h2
  exact List.mem_of_getElem? hi
theorem inX5 : ∀ w ∈ u_ws RX5 TX5 3, w ∈ lw_good := fun w hw => lw_in (inT_X5 w hw) (List.all_eq_true.mp (show (u_ws RX5 TX5 3).all goodWord = true by decide +kernel) w hw)
set_option maxRecDepth 20000 in
theorem inT_X6 : ∀ w ∈ u_ws RX6 TX6 1, w ∈ lw_tbl := by
  intro w hw
  have h : (u_ws RX6 TX6 1).map some = ([269] : List Nat).map (fun i => lw_tbl[i]?) := by decide +kernel
  obtain ⟨k, hk⟩ := List.mem_iff_getElem?.mp hw
  have h2 : ((u_ws RX6 TX6 1).map some)[k]? = some (some w) := by rw [List.getElem?_map, hk]; rfl
  rw [h, List.getElem?_map] at h2
  obtain ⟨i, _, hi⟩ := Option.map_eq_some_iff.mp h2
  exact List.mem_of_getElem? hi
theorem inX6 : ∀ w ∈ u_ws RX6 TX6 1, w ∈ lw_good := fun w hw => lw_in (inT_X6 w hw) (List.all_eq_true.mp (show (u_ws RX6 TX6 1).all goodWord = true by decide +kernel) w hw)
set_option maxRecDepth 20000 in
theorem inT_X7 : ∀ w ∈ u_ws RX7 TX7 14, w ∈ lw_tbl := by
  intro w hw
  have h : (u_ws RX7 TX7 14).map some = ([317, 319, 321, 323, 325, 327, 329, 331, 333, 335, 337, 339, 341, 343] : List Nat).map (fun i => lw_tbl[i]?) := by decide +kernel
  obtain ⟨k, hk⟩ := List.mem_iff_getElem?.mp hw
  have h2 : ((u_ws RX7 TX7 14).map some)[k]? = some (some w) := by rw [List.getElem?_map, hk]; rfl
  rw [h, List.getElem?_map] at h2
  obtain ⟨i, _, hi⟩ := Option.map_eq_some_iff.mp h2
  exact List.mem_of_getElem? hi
theorem inX7 : ∀ w ∈ u_ws RX7 TX7 14, w ∈ lw_good := fun w hw => lw_in (inT_X7 w hw) (List.all_eq_true.mp (show (u_ws RX7 TX7 14).all goodWord = true by decide +kernel) w hw)
set_option maxRecDepth 20000 in
theorem inT_X8 : ∀ w ∈ u_ws RX8 TX8 29, w ∈ lw_tbl := by
  intro w hw
  have h : (u_ws RX8 TX8 29).map some = ([745, 747, 749, 751, 753, 755, 757, 759, 761, 763, 765, 767, 769, 771, 773, 775, 777, 779, 781, 783, 785, 787, 789, 791, 793, 795, 797, 799, 801] : List Nat).map (fun i => lw_tbl[i]?) := by decide +kernel
  obtain ⟨k, hk⟩ := List.mem_iff_getElem?.mp hw
  have h2 : ((u_ws RX8 TX8 29).map some)[k]? = some (some w) := by rw [List.getElem?_map, hk]; rfl
  rw [h, List.getElem?_map] at h2
  obtain ⟨i, _, hi⟩ := Option.map_eq_some_iff.mp h2
  exact List.mem_of_getElem? hi
theorem inX8 : ∀ w ∈ u_ws RX8 TX8 29, w ∈ lw_good := fun w hw => lw_in (inT_X8 w hw) (List.all_eq_true.mp (show (u_ws RX8 TX8 29).all goodWord = true by decide +kernel) w hw)
end
