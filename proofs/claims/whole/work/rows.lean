section
-- ===== PART A: goes FIRST, ahead of the names: the tables' words, and 'selects' of the private methods out of them =====
/-- a private method of a class that the tables say can be made, by its rows of tables_1 -/
def lw_okq (q : MethodName × Nat) : Prop := (q.1.cls ≠ "java/lang/invoke/MethodHandle" ∧ q.1.cls ≠ "java/lang/invoke/VarHandle") ∧ Cond.instantiable q.1.cls q.2 ∈ tables_1 ∧ Cond.privateMethod q.1 ∈ tables_1 ∧ Cond.instanceMethod q.1 ∈ tables_1
theorem lw_p0 : lw_okq (⟨"OneFewer$Tape", "add", "(I)Z"⟩, 2) := ⟨⟨by decide +kernel, by decide +kernel⟩, List.mem_of_getElem? (i := 47) (by decide +kernel), List.mem_of_getElem? (i := 371) (by decide +kernel), List.mem_of_getElem? (i := 372) (by decide +kernel)⟩
theorem lw_p1 : lw_okq (⟨"OneFewer$Reader", "read", "(LOneFewer$Tape;)Z"⟩, 5) := ⟨⟨by decide +kernel, by decide +kernel⟩, List.mem_of_getElem? (i := 293) (by decide +kernel), List.mem_of_getElem? (i := 379) (by decide +kernel), List.mem_of_getElem? (i := 380) (by decide +kernel)⟩
theorem lw_p2 : lw_okq (⟨"OneFewer$Tape", "copyFrom", "(LOneFewer$Tape;)V"⟩, 2) := ⟨⟨by decide +kernel, by decide +kernel⟩, List.mem_of_getElem? (i := 47) (by decide +kernel), List.mem_of_getElem? (i := 383) (by decide +kernel), List.mem_of_getElem? (i := 384) (by decide +kernel)⟩
theorem lw_p3 : lw_okq (⟨"OneFewer$Town", "clear", "()V"⟩, 11) := ⟨⟨by decide +kernel, by decide +kernel⟩, List.mem_of_getElem? (i := 63) (by decide +kernel), List.mem_of_getElem? (i := 390) (by decide +kernel), List.mem_of_getElem? (i := 391) (by decide +kernel)⟩
theorem lw_p4 : lw_okq (⟨"OneFewer$Reader", "readHead", "()Z"⟩, 5) := ⟨⟨by decide +kernel, by decide +kernel⟩, List.mem_of_getElem? (i := 293) (by decide +kernel), List.mem_of_getElem? (i := 394) (by decide +kernel), List.mem_of_getElem? (i := 395) (by decide +kernel)⟩
theorem lw_p5 : lw_okq (⟨"OneFewer$Tape", "at", "(I)I"⟩, 2) := ⟨⟨by decide +kernel, by decide +kernel⟩, List.mem_of_getElem? (i := 47) (by decide +kernel), List.mem_of_getElem? (i := 398) (by decide +kernel), List.mem_of_getElem? (i := 399) (by decide +kernel)⟩
theorem lw_p6 : lw_okq (⟨"OneFewer$Reader", "readShun", "()Z"⟩, 5) := ⟨⟨by decide +kernel, by decide +kernel⟩, List.mem_of_getElem? (i := 293) (by decide +kernel), List.mem_of_getElem? (i := 402) (by decide +kernel), List.mem_of_getElem? (i := 403) (by decide +kernel)⟩
theorem lw_p7 : lw_okq (⟨"OneFewer$Reader", "readWord", "(Ljava/lang/String;)Z"⟩, 5) := ⟨⟨by decide +kernel, by decide +kernel⟩, List.mem_of_getElem? (i := 293) (by decide +kernel), List.mem_of_getElem? (i := 407) (by decide +kernel), List.mem_of_getElem? (i := 408) (by decide +kernel)⟩
theorem lw_p8 : lw_okq (⟨"OneFewer$Reader", "skip", "(C)Z"⟩, 5) := ⟨⟨by decide +kernel, by decide +kernel⟩, List.mem_of_getElem? (i := 293) (by decide +kernel), List.mem_of_getElem? (i := 459) (by decide +kernel), List.mem_of_getElem? (i := 460) (by decide +kernel)⟩
theorem lw_p9 : lw_okq (⟨"OneFewer$Town", "addClause", "(II)V"⟩, 11) := ⟨⟨by decide +kernel, by decide +kernel⟩, List.mem_of_getElem? (i := 63) (by decide +kernel), List.mem_of_getElem? (i := 463) (by decide +kernel), List.mem_of_getElem? (i := 464) (by decide +kernel)⟩
theorem lw_p10 : lw_okq (⟨"OneFewer$Reader", "readFewer", "()Z"⟩, 5) := ⟨⟨by decide +kernel, by decide +kernel⟩, List.mem_of_getElem? (i := 293) (by decide +kernel), List.mem_of_getElem? (i := 467) (by decide +kernel), List.mem_of_getElem? (i := 468) (by decide +kernel)⟩
theorem lw_p11 : lw_okq (⟨"OneFewer$Reader", "readNumber", "()Z"⟩, 5) := ⟨⟨by decide +kernel, by decide +kernel⟩, List.mem_of_getElem? (i := 293) (by decide +kernel), List.mem_of_getElem? (i := 472) (by decide +kernel), List.mem_of_getElem? (i := 473) (by decide +kernel)⟩
theorem lw_p12 : lw_okq (⟨"OneFewer$Reader", "readFine", "()Z"⟩, 5) := ⟨⟨by decide +kernel, by decide +kernel⟩, List.mem_of_getElem? (i := 293) (by decide +kernel), List.mem_of_getElem? (i := 476) (by decide +kernel), List.mem_of_getElem? (i := 477) (by decide +kernel)⟩
theorem lw_p13 : lw_okq (⟨"OneFewer$Reader", "readLaw", "()Z"⟩, 5) := ⟨⟨by decide +kernel, by decide +kernel⟩, List.mem_of_getElem? (i := 293) (by decide +kernel), List.mem_of_getElem? (i := 481) (by decide +kernel), List.mem_of_getElem? (i := 482) (by decide +kernel)⟩
theorem lw_p14 : lw_okq (⟨"OneFewer$Reader", "readEither", "(I)Z"⟩, 5) := ⟨⟨by decide +kernel, by decide +kernel⟩, List.mem_of_getElem? (i := 293) (by decide +kernel), List.mem_of_getElem? (i := 486) (by decide +kernel), List.mem_of_getElem? (i := 487) (by decide +kernel)⟩
theorem lw_p15 : lw_okq (⟨"OneFewer$Reader", "readPart", "(I)Z"⟩, 5) := ⟨⟨by decide +kernel, by decide +kernel⟩, List.mem_of_getElem? (i := 293) (by decide +kernel), List.mem_of_getElem? (i := 490) (by decide +kernel), List.mem_of_getElem? (i := 491) (by decide +kernel)⟩
def lw_privs_1 : List (MethodName × Nat) := [(⟨"OneFewer$Tape", "add", "(I)Z"⟩, 2), (⟨"OneFewer$Reader", "read", "(LOneFewer$Tape;)Z"⟩, 5), (⟨"OneFewer$Tape", "copyFrom", "(LOneFewer$Tape;)V"⟩, 2), (⟨"OneFewer$Town", "clear", "()V"⟩, 11), (⟨"OneFewer$Reader", "readHead", "()Z"⟩, 5), (⟨"OneFewer$Tape", "at", "(I)I"⟩, 2), (⟨"OneFewer$Reader", "readShun", "()Z"⟩, 5), (⟨"OneFewer$Reader", "readWord", "(Ljava/lang/String;)Z"⟩, 5), (⟨"OneFewer$Reader", "skip", "(C)Z"⟩, 5), (⟨"OneFewer$Town", "addClause", "(II)V"⟩, 11), (⟨"OneFewer$Reader", "readFewer", "()Z"⟩, 5), (⟨"OneFewer$Reader", "readNumber", "()Z"⟩, 5), (⟨"OneFewer$Reader", "readFine", "()Z"⟩, 5), (⟨"OneFewer$Reader", "readLaw", "()Z"⟩, 5), (⟨"OneFewer$Reader", "readEither", "(I)Z"⟩, 5), (⟨"OneFewer$Reader", "readPart", "(I)Z"⟩, 5)]
theorem lw_r1 : ∀ q ∈ lw_privs_1, lw_okq q := List.forall_mem_cons.mpr ⟨lw_p0, List.forall_mem_cons.mpr ⟨lw_p1, List.forall_mem_cons.mpr ⟨lw_p2, List.forall_mem_cons.mpr ⟨lw_p3, List.forall_mem_cons.mpr ⟨lw_p4, List.forall_mem_cons.mpr ⟨lw_p5, List.forall_mem_cons.mpr ⟨lw_p6, List.forall_mem_cons.mpr ⟨lw_p7, List.forall_mem_cons.mpr ⟨lw_p8, List.forall_mem_cons.mpr ⟨lw_p9, List.forall_mem_cons.mpr ⟨lw_p10, List.forall_mem_cons.mpr ⟨lw_p11, List.forall_mem_cons.mpr ⟨lw_p12, List.forall_mem_cons.mpr ⟨lw_p13, List.forall_mem_cons.mpr ⟨lw_p14, List.forall_mem_cons.mpr ⟨lw_p15, fun _ h => absurd h List.not_mem_nil⟩⟩⟩⟩⟩⟩⟩⟩⟩⟩⟩⟩⟩⟩⟩⟩
theorem lw_p16 : lw_okq (⟨"OneFewer$Reader", "readTest", "()Z"⟩, 5) := ⟨⟨by decide +kernel, by decide +kernel⟩, List.mem_of_getElem? (i := 293) (by decide +kernel), List.mem_of_getElem? (i := 494) (by decide +kernel), List.mem_of_getElem? (i := 495) (by decide +kernel)⟩
theorem lw_p17 : lw_okq (⟨"OneFewer$Reader", "factOf", "(I)I"⟩, 5) := ⟨⟨by decide +kernel, by decide +kernel⟩, List.mem_of_getElem? (i := 293) (by decide +kernel), List.mem_of_getElem? (i := 498) (by decide +kernel), List.mem_of_getElem? (i := 499) (by decide +kernel)⟩
theorem lw_p18 : lw_okq (⟨"OneFewer$Town", "addStep", "(III)V"⟩, 11) := ⟨⟨by decide +kernel, by decide +kernel⟩, List.mem_of_getElem? (i := 63) (by decide +kernel), List.mem_of_getElem? (i := 502) (by decide +kernel), List.mem_of_getElem? (i := 503) (by decide +kernel)⟩
theorem lw_p19 : lw_okq (⟨"OneFewer$Town", "copyFrom", "(LOneFewer$Town;)V"⟩, 11) := ⟨⟨by decide +kernel, by decide +kernel⟩, List.mem_of_getElem? (i := 63) (by decide +kernel), List.mem_of_getElem? (i := 506) (by decide +kernel), List.mem_of_getElem? (i := 507) (by decide +kernel)⟩
theorem lw_p20 : lw_okq (⟨"OneFewer$People", "add", "(II)Z"⟩, 6) := ⟨⟨by decide +kernel, by decide +kernel⟩, List.mem_of_getElem? (i := 109) (by decide +kernel), List.mem_of_getElem? (i := 522) (by decide +kernel), List.mem_of_getElem? (i := 523) (by decide +kernel)⟩
theorem lw_p21 : lw_okq (⟨"OneFewer$People", "has", "(I)Z"⟩, 6) := ⟨⟨by decide +kernel, by decide +kernel⟩, List.mem_of_getElem? (i := 109) (by decide +kernel), List.mem_of_getElem? (i := 530) (by decide +kernel), List.mem_of_getElem? (i := 531) (by decide +kernel)⟩
theorem lw_p22 : lw_okq (⟨"OneFewer$Telling", "fineOf", "(LOneFewer$Word;I)I"⟩, 2) := ⟨⟨by decide +kernel, by decide +kernel⟩, List.mem_of_getElem? (i := 35) (by decide +kernel), List.mem_of_getElem? (i := 538) (by decide +kernel), List.mem_of_getElem? (i := 539) (by decide +kernel)⟩
theorem lw_p23 : lw_okq (⟨"OneFewer$Telling", "setFacts", "(LOneFewer$Word;II)V"⟩, 2) := ⟨⟨by decide +kernel, by decide +kernel⟩, List.mem_of_getElem? (i := 35) (by decide +kernel), List.mem_of_getElem? (i := 542) (by decide +kernel), List.mem_of_getElem? (i := 543) (by decide +kernel)⟩
theorem lw_p24 : lw_okq (⟨"OneFewer$Town", "weigh", "(I[I)I"⟩, 11) := ⟨⟨by decide +kernel, by decide +kernel⟩, List.mem_of_getElem? (i := 63) (by decide +kernel), List.mem_of_getElem? (i := 547) (by decide +kernel), List.mem_of_getElem? (i := 548) (by decide +kernel)⟩
theorem lw_p25 : lw_okq (⟨"OneFewer$Town", "holds", "(I[I)Z"⟩, 11) := ⟨⟨by decide +kernel, by decide +kernel⟩, List.mem_of_getElem? (i := 63) (by decide +kernel), List.mem_of_getElem? (i := 551) (by decide +kernel), List.mem_of_getElem? (i := 552) (by decide +kernel)⟩
theorem lw_p26 : lw_okq (⟨"OneFewer", "ofTeller", "(LOneFewer$Word;II)I"⟩, 7) := ⟨⟨by decide +kernel, by decide +kernel⟩, List.mem_of_getElem? (i := 21) (by decide +kernel), List.mem_of_getElem? (i := 555) (by decide +kernel), List.mem_of_getElem? (i := 556) (by decide +kernel)⟩
theorem lw_p27 : lw_okq (⟨"OneFewer$Telling", "mayOf", "(LOneFewer$Word;I)I"⟩, 2) := ⟨⟨by decide +kernel, by decide +kernel⟩, List.mem_of_getElem? (i := 35) (by decide +kernel), List.mem_of_getElem? (i := 559) (by decide +kernel), List.mem_of_getElem? (i := 560) (by decide +kernel)⟩
theorem lw_p28 : lw_okq (⟨"OneFewer$Telling", "askedOf", "(LOneFewer$Word;I)I"⟩, 2) := ⟨⟨by decide +kernel, by decide +kernel⟩, List.mem_of_getElem? (i := 35) (by decide +kernel), List.mem_of_getElem? (i := 563) (by decide +kernel), List.mem_of_getElem? (i := 564) (by decide +kernel)⟩
theorem lw_p29 : lw_okq (⟨"OneFewer$People", "pick", "(III)I"⟩, 6) := ⟨⟨by decide +kernel, by decide +kernel⟩, List.mem_of_getElem? (i := 109) (by decide +kernel), List.mem_of_getElem? (i := 567) (by decide +kernel), List.mem_of_getElem? (i := 568) (by decide +kernel)⟩
theorem lw_p30 : lw_okq (⟨"OneFewer$People", "pickFromRow", "(III)I"⟩, 6) := ⟨⟨by decide +kernel, by decide +kernel⟩, List.mem_of_getElem? (i := 109) (by decide +kernel), List.mem_of_getElem? (i := 580) (by decide +kernel), List.mem_of_getElem? (i := 581) (by decide +kernel)⟩
theorem lw_p31 : lw_okq (⟨"OneFewer$People", "pickNext", "(II)I"⟩, 6) := ⟨⟨by decide +kernel, by decide +kernel⟩, List.mem_of_getElem? (i := 109) (by decide +kernel), List.mem_of_getElem? (i := 584) (by decide +kernel), List.mem_of_getElem? (i := 585) (by decide +kernel)⟩
def lw_privs_2 : List (MethodName × Nat) := [(⟨"OneFewer$Reader", "readTest", "()Z"⟩, 5), (⟨"OneFewer$Reader", "factOf", "(I)I"⟩, 5), (⟨"OneFewer$Town", "addStep", "(III)V"⟩, 11), (⟨"OneFewer$Town", "copyFrom", "(LOneFewer$Town;)V"⟩, 11), (⟨"OneFewer$People", "add", "(II)Z"⟩, 6), (⟨"OneFewer$People", "has", "(I)Z"⟩, 6), (⟨"OneFewer$Telling", "fineOf", "(LOneFewer$Word;I)I"⟩, 2), (⟨"OneFewer$Telling", "setFacts", "(LOneFewer$Word;II)V"⟩, 2), (⟨"OneFewer$Town", "weigh", "(I[I)I"⟩, 11), (⟨"OneFewer$Town", "holds", "(I[I)Z"⟩, 11), (⟨"OneFewer", "ofTeller", "(LOneFewer$Word;II)I"⟩, 7), (⟨"OneFewer$Telling", "mayOf", "(LOneFewer$Word;I)I"⟩, 2), (⟨"OneFewer$Telling", "askedOf", "(LOneFewer$Word;I)I"⟩, 2), (⟨"OneFewer$People", "pick", "(III)I"⟩, 6), (⟨"OneFewer$People", "pickFromRow", "(III)I"⟩, 6), (⟨"OneFewer$People", "pickNext", "(II)I"⟩, 6)]
theorem lw_r2 : ∀ q ∈ lw_privs_2, lw_okq q := List.forall_mem_cons.mpr ⟨lw_p16, List.forall_mem_cons.mpr ⟨lw_p17, List.forall_mem_cons.mpr ⟨lw_p18, List.forall_mem_cons.mpr ⟨lw_p19, List.forall_mem_cons.mpr ⟨lw_p20, List.forall_mem_cons.mpr ⟨lw_p21, List.forall_mem_cons.mpr ⟨lw_p22, List.forall_mem_cons.mpr ⟨lw_p23, List.forall_mem_cons.mpr ⟨lw_p24, List.forall_mem_cons.mpr ⟨lw_p25, List.forall_mem_cons.mpr ⟨lw_p26, List.forall_mem_cons.mpr ⟨lw_p27, List.forall_mem_cons.mpr ⟨lw_p28, List.forall_mem_cons.mpr ⟨lw_p29, List.forall_mem_cons.mpr ⟨lw_p30, List.forall_mem_cons.mpr ⟨lw_p31, fun _ h => absurd h List.not_mem_nil⟩⟩⟩⟩⟩⟩⟩⟩⟩⟩⟩⟩⟩⟩⟩⟩
theorem lw_p32 : lw_okq (⟨"OneFewer$People", "isAhead", "(III)Z"⟩, 6) := ⟨⟨by decide +kernel, by decide +kernel⟩, List.mem_of_getElem? (i := 109) (by decide +kernel), List.mem_of_getElem? (i := 589) (by decide +kernel), List.mem_of_getElem? (i := 590) (by decide +kernel)⟩
theorem lw_p33 : lw_okq (⟨"OneFewer$People", "acquaint", "(IIZ)V"⟩, 6) := ⟨⟨by decide +kernel, by decide +kernel⟩, List.mem_of_getElem? (i := 109) (by decide +kernel), List.mem_of_getElem? (i := 597) (by decide +kernel), List.mem_of_getElem? (i := 598) (by decide +kernel)⟩
theorem lw_p34 : lw_okq (⟨"OneFewer$People", "addToRow", "(II)Z"⟩, 6) := ⟨⟨by decide +kernel, by decide +kernel⟩, List.mem_of_getElem? (i := 109) (by decide +kernel), List.mem_of_getElem? (i := 605) (by decide +kernel), List.mem_of_getElem? (i := 606) (by decide +kernel)⟩
theorem lw_p35 : lw_okq (⟨"OneFewer$Word", "startWith", "(III)V"⟩, 6) := ⟨⟨by decide +kernel, by decide +kernel⟩, List.mem_of_getElem? (i := 144) (by decide +kernel), List.mem_of_getElem? (i := 617) (by decide +kernel), List.mem_of_getElem? (i := 618) (by decide +kernel)⟩
theorem lw_p36 : lw_okq (⟨"OneFewer$Telling", "goDay", "(LOneFewer$Word;III)I"⟩, 2) := ⟨⟨by decide +kernel, by decide +kernel⟩, List.mem_of_getElem? (i := 35) (by decide +kernel), List.mem_of_getElem? (i := 625) (by decide +kernel), List.mem_of_getElem? (i := 626) (by decide +kernel)⟩
theorem lw_p37 : lw_okq (⟨"OneFewer$Word", "yetToTell", "()I"⟩, 6) := ⟨⟨by decide +kernel, by decide +kernel⟩, List.mem_of_getElem? (i := 144) (by decide +kernel), List.mem_of_getElem? (i := 629) (by decide +kernel), List.mem_of_getElem? (i := 630) (by decide +kernel)⟩
theorem lw_p38 : lw_okq (⟨"OneFewer$People", "deafOn", "(I)I"⟩, 6) := ⟨⟨by decide +kernel, by decide +kernel⟩, List.mem_of_getElem? (i := 109) (by decide +kernel), List.mem_of_getElem? (i := 633) (by decide +kernel), List.mem_of_getElem? (i := 634) (by decide +kernel)⟩
theorem lw_p39 : lw_okq (⟨"OneFewer$Telling", "hand", "(LOneFewer$Word;III)V"⟩, 2) := ⟨⟨by decide +kernel, by decide +kernel⟩, List.mem_of_getElem? (i := 35) (by decide +kernel), List.mem_of_getElem? (i := 642) (by decide +kernel), List.mem_of_getElem? (i := 643) (by decide +kernel)⟩
theorem lw_p40 : lw_okq (⟨"OneFewer$Town", "sumOf", "(I)J"⟩, 11) := ⟨⟨by decide +kernel, by decide +kernel⟩, List.mem_of_getElem? (i := 63) (by decide +kernel), List.mem_of_getElem? (i := 653) (by decide +kernel), List.mem_of_getElem? (i := 654) (by decide +kernel)⟩
theorem lw_p41 : lw_okq (⟨"OneFewer$Word", "copyFrom", "(LOneFewer$Word;)V"⟩, 6) := ⟨⟨by decide +kernel, by decide +kernel⟩, List.mem_of_getElem? (i := 144) (by decide +kernel), List.mem_of_getElem? (i := 666) (by decide +kernel), List.mem_of_getElem? (i := 667) (by decide +kernel)⟩
theorem lw_p42 : lw_okq (⟨"OneFewer$Telling", "goOn", "(LOneFewer$Word;III)I"⟩, 2) := ⟨⟨by decide +kernel, by decide +kernel⟩, List.mem_of_getElem? (i := 35) (by decide +kernel), List.mem_of_getElem? (i := 671) (by decide +kernel), List.mem_of_getElem? (i := 672) (by decide +kernel)⟩
theorem lw_p43 : lw_okq (⟨"OneFewer$People", "all", "()I"⟩, 6) := ⟨⟨by decide +kernel, by decide +kernel⟩, List.mem_of_getElem? (i := 109) (by decide +kernel), List.mem_of_getElem? (i := 677) (by decide +kernel), List.mem_of_getElem? (i := 678) (by decide +kernel)⟩
theorem lw_p44 : lw_okq (⟨"OneFewer$Asking", "findBest", "(I)V"⟩, 9) := ⟨⟨by decide +kernel, by decide +kernel⟩, List.mem_of_getElem? (i := 29) (by decide +kernel), List.mem_of_getElem? (i := 685) (by decide +kernel), List.mem_of_getElem? (i := 686) (by decide +kernel)⟩
theorem lw_p45 : lw_okq (⟨"OneFewer$Asking", "findChoice", "(I)V"⟩, 9) := ⟨⟨by decide +kernel, by decide +kernel⟩, List.mem_of_getElem? (i := 29) (by decide +kernel), List.mem_of_getElem? (i := 697) (by decide +kernel), List.mem_of_getElem? (i := 698) (by decide +kernel)⟩
theorem lw_p46 : lw_okq (⟨"OneFewer$Asking", "isChoosable", "(III)Z"⟩, 9) := ⟨⟨by decide +kernel, by decide +kernel⟩, List.mem_of_getElem? (i := 29) (by decide +kernel), List.mem_of_getElem? (i := 703) (by decide +kernel), List.mem_of_getElem? (i := 704) (by decide +kernel)⟩
theorem lw_p47 : lw_okq (⟨"OneFewer$Asking", "findReach", "(II)I"⟩, 9) := ⟨⟨by decide +kernel, by decide +kernel⟩, List.mem_of_getElem? (i := 29) (by decide +kernel), List.mem_of_getElem? (i := 713) (by decide +kernel), List.mem_of_getElem? (i := 714) (by decide +kernel)⟩
def lw_privs_3 : List (MethodName × Nat) := [(⟨"OneFewer$People", "isAhead", "(III)Z"⟩, 6), (⟨"OneFewer$People", "acquaint", "(IIZ)V"⟩, 6), (⟨"OneFewer$People", "addToRow", "(II)Z"⟩, 6), (⟨"OneFewer$Word", "startWith", "(III)V"⟩, 6), (⟨"OneFewer$Telling", "goDay", "(LOneFewer$Word;III)I"⟩, 2), (⟨"OneFewer$Word", "yetToTell", "()I"⟩, 6), (⟨"OneFewer$People", "deafOn", "(I)I"⟩, 6), (⟨"OneFewer$Telling", "hand", "(LOneFewer$Word;III)V"⟩, 2), (⟨"OneFewer$Town", "sumOf", "(I)J"⟩, 11), (⟨"OneFewer$Word", "copyFrom", "(LOneFewer$Word;)V"⟩, 6), (⟨"OneFewer$Telling", "goOn", "(LOneFewer$Word;III)I"⟩, 2), (⟨"OneFewer$People", "all", "()I"⟩, 6), (⟨"OneFewer$Asking", "findBest", "(I)V"⟩, 9), (⟨"OneFewer$Asking", "findChoice", "(I)V"⟩, 9), (⟨"OneFewer$Asking", "isChoosable", "(III)Z"⟩, 9), (⟨"OneFewer$Asking", "findReach", "(II)I"⟩, 9)]
theorem lw_r3 : ∀ q ∈ lw_privs_3, lw_okq q := List.forall_mem_cons.mpr ⟨lw_p32, List.forall_mem_cons.mpr ⟨lw_p33, List.forall_mem_cons.mpr ⟨lw_p34, List.forall_mem_cons.mpr ⟨lw_p35, List.forall_mem_cons.mpr ⟨lw_p36, List.forall_mem_cons.mpr ⟨lw_p37, List.forall_mem_cons.mpr ⟨lw_p38, List.forall_mem_cons.mpr ⟨lw_p39, List.forall_mem_cons.mpr ⟨lw_p40, List.forall_mem_cons.mpr ⟨lw_p41, List.forall_mem_cons.mpr ⟨lw_p42, List.forall_mem_cons.mpr ⟨lw_p43, List.forall_mem_cons.mpr ⟨lw_p44, List.forall_mem_cons.mpr ⟨lw_p45, List.forall_mem_cons.mpr ⟨lw_p46, List.forall_mem_cons.mpr ⟨lw_p47, fun _ h => absurd h List.not_mem_nil⟩⟩⟩⟩⟩⟩⟩⟩⟩⟩⟩⟩⟩⟩⟩⟩
theorem lw_p48 : lw_okq (⟨"OneFewer$Rows", "add", "(II)Z"⟩, 3) := ⟨⟨by decide +kernel, by decide +kernel⟩, List.mem_of_getElem? (i := 184) (by decide +kernel), List.mem_of_getElem? (i := 722) (by decide +kernel), List.mem_of_getElem? (i := 723) (by decide +kernel)⟩
theorem lw_p49 : lw_okq (⟨"OneFewer$Asking", "findBegan", "()V"⟩, 9) := ⟨⟨by decide +kernel, by decide +kernel⟩, List.mem_of_getElem? (i := 29) (by decide +kernel), List.mem_of_getElem? (i := 730) (by decide +kernel), List.mem_of_getElem? (i := 731) (by decide +kernel)⟩
theorem lw_p50 : lw_okq (⟨"OneFewer$Asking", "isAsSeen", "(II)Z"⟩, 9) := ⟨⟨by decide +kernel, by decide +kernel⟩, List.mem_of_getElem? (i := 29) (by decide +kernel), List.mem_of_getElem? (i := 734) (by decide +kernel), List.mem_of_getElem? (i := 735) (by decide +kernel)⟩
theorem lw_p51 : lw_okq (⟨"OneFewer$Asking", "waysToHear", "(II)I"⟩, 9) := ⟨⟨by decide +kernel, by decide +kernel⟩, List.mem_of_getElem? (i := 29) (by decide +kernel), List.mem_of_getElem? (i := 747) (by decide +kernel), List.mem_of_getElem? (i := 748) (by decide +kernel)⟩
theorem lw_p52 : lw_okq (⟨"OneFewer$Asking", "finesOfAll", "(I)J"⟩, 9) := ⟨⟨by decide +kernel, by decide +kernel⟩, List.mem_of_getElem? (i := 29) (by decide +kernel), List.mem_of_getElem? (i := 758) (by decide +kernel), List.mem_of_getElem? (i := 759) (by decide +kernel)⟩
theorem lw_p53 : lw_okq (⟨"OneFewer$Acts", "setOne", "(III)V"⟩, 5) := ⟨⟨by decide +kernel, by decide +kernel⟩, List.mem_of_getElem? (i := 321) (by decide +kernel), List.mem_of_getElem? (i := 774) (by decide +kernel), List.mem_of_getElem? (i := 775) (by decide +kernel)⟩
theorem lw_p54 : lw_okq (⟨"OneFewer$Acts", "hears", "(I)I"⟩, 5) := ⟨⟨by decide +kernel, by decide +kernel⟩, List.mem_of_getElem? (i := 321) (by decide +kernel), List.mem_of_getElem? (i := 778) (by decide +kernel), List.mem_of_getElem? (i := 779) (by decide +kernel)⟩
theorem lw_p55 : lw_okq (⟨"OneFewer$Acts", "run", "(I)V"⟩, 5) := ⟨⟨by decide +kernel, by decide +kernel⟩, List.mem_of_getElem? (i := 321) (by decide +kernel), List.mem_of_getElem? (i := 787) (by decide +kernel), List.mem_of_getElem? (i := 788) (by decide +kernel)⟩
theorem lw_p56 : lw_okq (⟨"OneFewer$Acts", "tells", "(I)I"⟩, 5) := ⟨⟨by decide +kernel, by decide +kernel⟩, List.mem_of_getElem? (i := 321) (by decide +kernel), List.mem_of_getElem? (i := 791) (by decide +kernel), List.mem_of_getElem? (i := 792) (by decide +kernel)⟩
theorem lw_p57 : lw_okq (⟨"OneFewer$Acts", "pays", "(I)I"⟩, 5) := ⟨⟨by decide +kernel, by decide +kernel⟩, List.mem_of_getElem? (i := 321) (by decide +kernel), List.mem_of_getElem? (i := 796) (by decide +kernel), List.mem_of_getElem? (i := 797) (by decide +kernel)⟩
theorem lw_p58 : lw_okq (⟨"OneFewer$State", "copyFrom", "(LOneFewer$State;)V"⟩, 7) := ⟨⟨by decide +kernel, by decide +kernel⟩, List.mem_of_getElem? (i := 41) (by decide +kernel), List.mem_of_getElem? (i := 815) (by decide +kernel), List.mem_of_getElem? (i := 816) (by decide +kernel)⟩
theorem lw_p59 : lw_okq (⟨"OneFewer$People", "copyFrom", "(LOneFewer$People;)V"⟩, 6) := ⟨⟨by decide +kernel, by decide +kernel⟩, List.mem_of_getElem? (i := 109) (by decide +kernel), List.mem_of_getElem? (i := 821) (by decide +kernel), List.mem_of_getElem? (i := 822) (by decide +kernel)⟩
theorem lw_p60 : lw_okq (⟨"OneFewer$Rows", "copyFrom", "(LOneFewer$Rows;)V"⟩, 3) := ⟨⟨by decide +kernel, by decide +kernel⟩, List.mem_of_getElem? (i := 184) (by decide +kernel), List.mem_of_getElem? (i := 827) (by decide +kernel), List.mem_of_getElem? (i := 828) (by decide +kernel)⟩
theorem lw_p61 : lw_okq (⟨"OneFewerModel", "clauseHere", "()V"⟩, 27) := ⟨⟨by decide +kernel, by decide +kernel⟩, List.mem_of_getElem? (i := 840) (by decide +kernel), List.mem_of_getElem? (i := 939) (by decide +kernel), List.mem_of_getElem? (i := 940) (by decide +kernel)⟩
theorem lw_p62 : lw_okq (⟨"OneFewerModel", "here", "()I"⟩, 27) := ⟨⟨by decide +kernel, by decide +kernel⟩, List.mem_of_getElem? (i := 840) (by decide +kernel), List.mem_of_getElem? (i := 943) (by decide +kernel), List.mem_of_getElem? (i := 944) (by decide +kernel)⟩
theorem lw_p63 : lw_okq (⟨"OneFewerModel", "spells", "(Ljava/lang/String;)V"⟩, 27) := ⟨⟨by decide +kernel, by decide +kernel⟩, List.mem_of_getElem? (i := 840) (by decide +kernel), List.mem_of_getElem? (i := 948) (by decide +kernel), List.mem_of_getElem? (i := 949) (by decide +kernel)⟩
def lw_privs_4 : List (MethodName × Nat) := [(⟨"OneFewer$Rows", "add", "(II)Z"⟩, 3), (⟨"OneFewer$Asking", "findBegan", "()V"⟩, 9), (⟨"OneFewer$Asking", "isAsSeen", "(II)Z"⟩, 9), (⟨"OneFewer$Asking", "waysToHear", "(II)I"⟩, 9), (⟨"OneFewer$Asking", "finesOfAll", "(I)J"⟩, 9), (⟨"OneFewer$Acts", "setOne", "(III)V"⟩, 5), (⟨"OneFewer$Acts", "hears", "(I)I"⟩, 5), (⟨"OneFewer$Acts", "run", "(I)V"⟩, 5), (⟨"OneFewer$Acts", "tells", "(I)I"⟩, 5), (⟨"OneFewer$Acts", "pays", "(I)I"⟩, 5), (⟨"OneFewer$State", "copyFrom", "(LOneFewer$State;)V"⟩, 7), (⟨"OneFewer$People", "copyFrom", "(LOneFewer$People;)V"⟩, 6), (⟨"OneFewer$Rows", "copyFrom", "(LOneFewer$Rows;)V"⟩, 3), (⟨"OneFewerModel", "clauseHere", "()V"⟩, 27), (⟨"OneFewerModel", "here", "()I"⟩, 27), (⟨"OneFewerModel", "spells", "(Ljava/lang/String;)V"⟩, 27)]
theorem lw_r4 : ∀ q ∈ lw_privs_4, lw_okq q := List.forall_mem_cons.mpr ⟨lw_p48, List.forall_mem_cons.mpr ⟨lw_p49, List.forall_mem_cons.mpr ⟨lw_p50, List.forall_mem_cons.mpr ⟨lw_p51, List.forall_mem_cons.mpr ⟨lw_p52, List.forall_mem_cons.mpr ⟨lw_p53, List.forall_mem_cons.mpr ⟨lw_p54, List.forall_mem_cons.mpr ⟨lw_p55, List.forall_mem_cons.mpr ⟨lw_p56, List.forall_mem_cons.mpr ⟨lw_p57, List.forall_mem_cons.mpr ⟨lw_p58, List.forall_mem_cons.mpr ⟨lw_p59, List.forall_mem_cons.mpr ⟨lw_p60, List.forall_mem_cons.mpr ⟨lw_p61, List.forall_mem_cons.mpr ⟨lw_p62, List.forall_mem_cons.mpr ⟨lw_p63, fun _ h => absurd h List.not_mem_nil⟩⟩⟩⟩⟩⟩⟩⟩⟩⟩⟩⟩⟩⟩⟩⟩
theorem lw_p64 : lw_okq (⟨"OneFewerModel", "must", "(I)V"⟩, 27) := ⟨⟨by decide +kernel, by decide +kernel⟩, List.mem_of_getElem? (i := 840) (by decide +kernel), List.mem_of_getElem? (i := 954) (by decide +kernel), List.mem_of_getElem? (i := 955) (by decide +kernel)⟩
theorem lw_p65 : lw_okq (⟨"OneFewerModel", "some", "()V"⟩, 27) := ⟨⟨by decide +kernel, by decide +kernel⟩, List.mem_of_getElem? (i := 840) (by decide +kernel), List.mem_of_getElem? (i := 958) (by decide +kernel), List.mem_of_getElem? (i := 959) (by decide +kernel)⟩
theorem lw_p66 : lw_okq (⟨"OneFewerModel", "every", "()V"⟩, 27) := ⟨⟨by decide +kernel, by decide +kernel⟩, List.mem_of_getElem? (i := 840) (by decide +kernel), List.mem_of_getElem? (i := 962) (by decide +kernel), List.mem_of_getElem? (i := 963) (by decide +kernel)⟩
theorem lw_p67 : lw_okq (⟨"OneFewerModel", "factor", "()V"⟩, 27) := ⟨⟨by decide +kernel, by decide +kernel⟩, List.mem_of_getElem? (i := 840) (by decide +kernel), List.mem_of_getElem? (i := 966) (by decide +kernel), List.mem_of_getElem? (i := 967) (by decide +kernel)⟩
theorem lw_p68 : lw_okq (⟨"OneFewerModel", "emits", "(I)V"⟩, 27) := ⟨⟨by decide +kernel, by decide +kernel⟩, List.mem_of_getElem? (i := 840) (by decide +kernel), List.mem_of_getElem? (i := 970) (by decide +kernel), List.mem_of_getElem? (i := 971) (by decide +kernel)⟩
theorem lw_p69 : lw_okq (⟨"OneFewerModel", "among", "(Ljava/lang/String;)I"⟩, 27) := ⟨⟨by decide +kernel, by decide +kernel⟩, List.mem_of_getElem? (i := 840) (by decide +kernel), List.mem_of_getElem? (i := 975) (by decide +kernel), List.mem_of_getElem? (i := 976) (by decide +kernel)⟩
theorem lw_p70 : lw_okq (⟨"OneFewerModel", "figures", "()I"⟩, 27) := ⟨⟨by decide +kernel, by decide +kernel⟩, List.mem_of_getElem? (i := 840) (by decide +kernel), List.mem_of_getElem? (i := 980) (by decide +kernel), List.mem_of_getElem? (i := 981) (by decide +kernel)⟩
theorem lw_p71 : lw_okq (⟨"OneFewerModel", "clauseOfF", "()V"⟩, 27) := ⟨⟨by decide +kernel, by decide +kernel⟩, List.mem_of_getElem? (i := 840) (by decide +kernel), List.mem_of_getElem? (i := 984) (by decide +kernel), List.mem_of_getElem? (i := 985) (by decide +kernel)⟩
theorem lw_p72 : lw_okq (⟨"OneFewerModel", "tellsHere", "(ILjava/lang/String;)V"⟩, 27) := ⟨⟨by decide +kernel, by decide +kernel⟩, List.mem_of_getElem? (i := 840) (by decide +kernel), List.mem_of_getElem? (i := 990) (by decide +kernel), List.mem_of_getElem? (i := 991) (by decide +kernel)⟩
theorem lw_p73 : lw_okq (⟨"OneFewerModel", "isPerson", "(I)Z"⟩, 27) := ⟨⟨by decide +kernel, by decide +kernel⟩, List.mem_of_getElem? (i := 840) (by decide +kernel), List.mem_of_getElem? (i := 1003) (by decide +kernel), List.mem_of_getElem? (i := 1004) (by decide +kernel)⟩
theorem lw_p74 : lw_okq (⟨"OneFewerModel", "hasHeard", "(I)Z"⟩, 27) := ⟨⟨by decide +kernel, by decide +kernel⟩, List.mem_of_getElem? (i := 840) (by decide +kernel), List.mem_of_getElem? (i := 1007) (by decide +kernel), List.mem_of_getElem? (i := 1008) (by decide +kernel)⟩
theorem lw_p75 : lw_okq (⟨"OneFewerModel", "hasTold", "(I)Z"⟩, 27) := ⟨⟨by decide +kernel, by decide +kernel⟩, List.mem_of_getElem? (i := 840) (by decide +kernel), List.mem_of_getElem? (i := 1011) (by decide +kernel), List.mem_of_getElem? (i := 1012) (by decide +kernel)⟩
theorem lw_p76 : lw_okq (⟨"OneFewerModel", "mayOf", "(I)I"⟩, 27) := ⟨⟨by decide +kernel, by decide +kernel⟩, List.mem_of_getElem? (i := 840) (by decide +kernel), List.mem_of_getElem? (i := 1015) (by decide +kernel), List.mem_of_getElem? (i := 1016) (by decide +kernel)⟩
theorem lw_p77 : lw_okq (⟨"OneFewerModel", "looks", "(II)V"⟩, 27) := ⟨⟨by decide +kernel, by decide +kernel⟩, List.mem_of_getElem? (i := 840) (by decide +kernel), List.mem_of_getElem? (i := 1019) (by decide +kernel), List.mem_of_getElem? (i := 1020) (by decide +kernel)⟩
theorem lw_p78 : lw_okq (⟨"OneFewerModel", "tellsOf", "(II)I"⟩, 27) := ⟨⟨by decide +kernel, by decide +kernel⟩, List.mem_of_getElem? (i := 840) (by decide +kernel), List.mem_of_getElem? (i := 1023) (by decide +kernel), List.mem_of_getElem? (i := 1024) (by decide +kernel)⟩
theorem lw_p79 : lw_okq (⟨"OneFewerModel", "askedOf", "(I)I"⟩, 27) := ⟨⟨by decide +kernel, by decide +kernel⟩, List.mem_of_getElem? (i := 840) (by decide +kernel), List.mem_of_getElem? (i := 1027) (by decide +kernel), List.mem_of_getElem? (i := 1028) (by decide +kernel)⟩
def lw_privs_5 : List (MethodName × Nat) := [(⟨"OneFewerModel", "must", "(I)V"⟩, 27), (⟨"OneFewerModel", "some", "()V"⟩, 27), (⟨"OneFewerModel", "every", "()V"⟩, 27), (⟨"OneFewerModel", "factor", "()V"⟩, 27), (⟨"OneFewerModel", "emits", "(I)V"⟩, 27), (⟨"OneFewerModel", "among", "(Ljava/lang/String;)I"⟩, 27), (⟨"OneFewerModel", "figures", "()I"⟩, 27), (⟨"OneFewerModel", "clauseOfF", "()V"⟩, 27), (⟨"OneFewerModel", "tellsHere", "(ILjava/lang/String;)V"⟩, 27), (⟨"OneFewerModel", "isPerson", "(I)Z"⟩, 27), (⟨"OneFewerModel", "hasHeard", "(I)Z"⟩, 27), (⟨"OneFewerModel", "hasTold", "(I)Z"⟩, 27), (⟨"OneFewerModel", "mayOf", "(I)I"⟩, 27), (⟨"OneFewerModel", "looks", "(II)V"⟩, 27), (⟨"OneFewerModel", "tellsOf", "(II)I"⟩, 27), (⟨"OneFewerModel", "askedOf", "(I)I"⟩, 27)]
theorem lw_r5 : ∀ q ∈ lw_privs_5, lw_okq q := List.forall_mem_cons.mpr ⟨lw_p64, List.forall_mem_cons.mpr ⟨lw_p65, List.forall_mem_cons.mpr ⟨lw_p66, List.forall_mem_cons.mpr ⟨lw_p67, List.forall_mem_cons.mpr ⟨lw_p68, List.forall_mem_cons.mpr ⟨lw_p69, List.forall_mem_cons.mpr ⟨lw_p70, List.forall_mem_cons.mpr ⟨lw_p71, List.forall_mem_cons.mpr ⟨lw_p72, List.forall_mem_cons.mpr ⟨lw_p73, List.forall_mem_cons.mpr ⟨lw_p74, List.forall_mem_cons.mpr ⟨lw_p75, List.forall_mem_cons.mpr ⟨lw_p76, List.forall_mem_cons.mpr ⟨lw_p77, List.forall_mem_cons.mpr ⟨lw_p78, List.forall_mem_cons.mpr ⟨lw_p79, fun _ h => absurd h List.not_mem_nil⟩⟩⟩⟩⟩⟩⟩⟩⟩⟩⟩⟩⟩⟩⟩⟩
theorem lw_p80 : lw_okq (⟨"OneFewerModel", "choiceOf", "(I)I"⟩, 27) := ⟨⟨by decide +kernel, by decide +kernel⟩, List.mem_of_getElem? (i := 840) (by decide +kernel), List.mem_of_getElem? (i := 1031) (by decide +kernel), List.mem_of_getElem? (i := 1032) (by decide +kernel)⟩
theorem lw_p81 : lw_okq (⟨"OneFewerModel", "firstOf", "(II)I"⟩, 27) := ⟨⟨by decide +kernel, by decide +kernel⟩, List.mem_of_getElem? (i := 840) (by decide +kernel), List.mem_of_getElem? (i := 1035) (by decide +kernel), List.mem_of_getElem? (i := 1036) (by decide +kernel)⟩
theorem lw_p82 : lw_okq (⟨"OneFewerModel", "fineOf", "(I)I"⟩, 27) := ⟨⟨by decide +kernel, by decide +kernel⟩, List.mem_of_getElem? (i := 840) (by decide +kernel), List.mem_of_getElem? (i := 1042) (by decide +kernel), List.mem_of_getElem? (i := 1043) (by decide +kernel)⟩
theorem lw_p83 : lw_okq (⟨"OneFewerModel", "begins", "(II)V"⟩, 27) := ⟨⟨by decide +kernel, by decide +kernel⟩, List.mem_of_getElem? (i := 840) (by decide +kernel), List.mem_of_getElem? (i := 1062) (by decide +kernel), List.mem_of_getElem? (i := 1063) (by decide +kernel)⟩
theorem lw_p84 : lw_okq (⟨"OneFewerModel", "goes", "()I"⟩, 27) := ⟨⟨by decide +kernel, by decide +kernel⟩, List.mem_of_getElem? (i := 840) (by decide +kernel), List.mem_of_getElem? (i := 1070) (by decide +kernel), List.mem_of_getElem? (i := 1071) (by decide +kernel)⟩
theorem lw_p85 : lw_okq (⟨"OneFewerModel", "chooses", "()V"⟩, 27) := ⟨⟨by decide +kernel, by decide +kernel⟩, List.mem_of_getElem? (i := 840) (by decide +kernel), List.mem_of_getElem? (i := 1074) (by decide +kernel), List.mem_of_getElem? (i := 1075) (by decide +kernel)⟩
theorem lw_p86 : lw_okq (⟨"OneFewerModel", "isToTell", "(I)Z"⟩, 27) := ⟨⟨by decide +kernel, by decide +kernel⟩, List.mem_of_getElem? (i := 840) (by decide +kernel), List.mem_of_getElem? (i := 1078) (by decide +kernel), List.mem_of_getElem? (i := 1079) (by decide +kernel)⟩
theorem lw_p87 : lw_okq (⟨"OneFewerModel", "isDeaf", "(I)Z"⟩, 27) := ⟨⟨by decide +kernel, by decide +kernel⟩, List.mem_of_getElem? (i := 840) (by decide +kernel), List.mem_of_getElem? (i := 1082) (by decide +kernel), List.mem_of_getElem? (i := 1083) (by decide +kernel)⟩
theorem lw_p88 : lw_okq (⟨"OneFewerModel", "numberFor", "(I)I"⟩, 27) := ⟨⟨by decide +kernel, by decide +kernel⟩, List.mem_of_getElem? (i := 840) (by decide +kernel), List.mem_of_getElem? (i := 1086) (by decide +kernel), List.mem_of_getElem? (i := 1087) (by decide +kernel)⟩
theorem lw_p89 : lw_okq (⟨"OneFewerModel", "lessOne", "(I)I"⟩, 27) := ⟨⟨by decide +kernel, by decide +kernel⟩, List.mem_of_getElem? (i := 840) (by decide +kernel), List.mem_of_getElem? (i := 1090) (by decide +kernel), List.mem_of_getElem? (i := 1091) (by decide +kernel)⟩
theorem lw_p90 : lw_okq (⟨"OneFewerModel", "sumOf", "(I)J"⟩, 27) := ⟨⟨by decide +kernel, by decide +kernel⟩, List.mem_of_getElem? (i := 840) (by decide +kernel), List.mem_of_getElem? (i := 1098) (by decide +kernel), List.mem_of_getElem? (i := 1099) (by decide +kernel)⟩
theorem lw_p91 : lw_okq (⟨"OneFewerModel", "keeps", "()V"⟩, 27) := ⟨⟨by decide +kernel, by decide +kernel⟩, List.mem_of_getElem? (i := 840) (by decide +kernel), List.mem_of_getElem? (i := 1112) (by decide +kernel), List.mem_of_getElem? (i := 1113) (by decide +kernel)⟩
theorem lw_p92 : lw_okq (⟨"OneFewerModel", "ends", "()I"⟩, 27) := ⟨⟨by decide +kernel, by decide +kernel⟩, List.mem_of_getElem? (i := 840) (by decide +kernel), List.mem_of_getElem? (i := 1116) (by decide +kernel), List.mem_of_getElem? (i := 1117) (by decide +kernel)⟩
theorem lw_p93 : lw_okq (⟨"OneFewerModel", "goesBack", "()V"⟩, 27) := ⟨⟨by decide +kernel, by decide +kernel⟩, List.mem_of_getElem? (i := 840) (by decide +kernel), List.mem_of_getElem? (i := 1120) (by decide +kernel), List.mem_of_getElem? (i := 1121) (by decide +kernel)⟩
theorem lw_p94 : lw_okq (⟨"OneFewerModel", "triesSets", "(II)V"⟩, 27) := ⟨⟨by decide +kernel, by decide +kernel⟩, List.mem_of_getElem? (i := 840) (by decide +kernel), List.mem_of_getElem? (i := 1132) (by decide +kernel), List.mem_of_getElem? (i := 1133) (by decide +kernel)⟩
theorem lw_p95 : lw_okq (⟨"OneFewerModel", "isAsSeen", "()Z"⟩, 27) := ⟨⟨by decide +kernel, by decide +kernel⟩, List.mem_of_getElem? (i := 840) (by decide +kernel), List.mem_of_getElem? (i := 1148) (by decide +kernel), List.mem_of_getElem? (i := 1149) (by decide +kernel)⟩
def lw_privs_6 : List (MethodName × Nat) := [(⟨"OneFewerModel", "choiceOf", "(I)I"⟩, 27), (⟨"OneFewerModel", "firstOf", "(II)I"⟩, 27), (⟨"OneFewerModel", "fineOf", "(I)I"⟩, 27), (⟨"OneFewerModel", "begins", "(II)V"⟩, 27), (⟨"OneFewerModel", "goes", "()I"⟩, 27), (⟨"OneFewerModel", "chooses", "()V"⟩, 27), (⟨"OneFewerModel", "isToTell", "(I)Z"⟩, 27), (⟨"OneFewerModel", "isDeaf", "(I)Z"⟩, 27), (⟨"OneFewerModel", "numberFor", "(I)I"⟩, 27), (⟨"OneFewerModel", "lessOne", "(I)I"⟩, 27), (⟨"OneFewerModel", "sumOf", "(I)J"⟩, 27), (⟨"OneFewerModel", "keeps", "()V"⟩, 27), (⟨"OneFewerModel", "ends", "()I"⟩, 27), (⟨"OneFewerModel", "goesBack", "()V"⟩, 27), (⟨"OneFewerModel", "triesSets", "(II)V"⟩, 27), (⟨"OneFewerModel", "isAsSeen", "()Z"⟩, 27)]
theorem lw_r6 : ∀ q ∈ lw_privs_6, lw_okq q := List.forall_mem_cons.mpr ⟨lw_p80, List.forall_mem_cons.mpr ⟨lw_p81, List.forall_mem_cons.mpr ⟨lw_p82, List.forall_mem_cons.mpr ⟨lw_p83, List.forall_mem_cons.mpr ⟨lw_p84, List.forall_mem_cons.mpr ⟨lw_p85, List.forall_mem_cons.mpr ⟨lw_p86, List.forall_mem_cons.mpr ⟨lw_p87, List.forall_mem_cons.mpr ⟨lw_p88, List.forall_mem_cons.mpr ⟨lw_p89, List.forall_mem_cons.mpr ⟨lw_p90, List.forall_mem_cons.mpr ⟨lw_p91, List.forall_mem_cons.mpr ⟨lw_p92, List.forall_mem_cons.mpr ⟨lw_p93, List.forall_mem_cons.mpr ⟨lw_p94, List.forall_mem_cons.mpr ⟨lw_p95, fun _ h => absurd h List.not_mem_nil⟩⟩⟩⟩⟩⟩⟩⟩⟩⟩⟩⟩⟩⟩⟩⟩
theorem lw_p96 : lw_okq (⟨"OneFewerModel", "othersHeard", "(I)I"⟩, 27) := ⟨⟨by decide +kernel, by decide +kernel⟩, List.mem_of_getElem? (i := 840) (by decide +kernel), List.mem_of_getElem? (i := 1156) (by decide +kernel), List.mem_of_getElem? (i := 1157) (by decide +kernel)⟩
theorem lw_p97 : lw_okq (⟨"OneFewerModel", "hearsActs", "(I)I"⟩, 27) := ⟨⟨by decide +kernel, by decide +kernel⟩, List.mem_of_getElem? (i := 840) (by decide +kernel), List.mem_of_getElem? (i := 1183) (by decide +kernel), List.mem_of_getElem? (i := 1184) (by decide +kernel)⟩
theorem lw_p98 : lw_okq (⟨"OneFewerModel", "ranBody", "(I)V"⟩, 27) := ⟨⟨by decide +kernel, by decide +kernel⟩, List.mem_of_getElem? (i := 840) (by decide +kernel), List.mem_of_getElem? (i := 1190) (by decide +kernel), List.mem_of_getElem? (i := 1191) (by decide +kernel)⟩
theorem lw_p99 : lw_okq (⟨"OneFewerModel", "plainHears", "(I)I"⟩, 27) := ⟨⟨by decide +kernel, by decide +kernel⟩, List.mem_of_getElem? (i := 840) (by decide +kernel), List.mem_of_getElem? (i := 1194) (by decide +kernel), List.mem_of_getElem? (i := 1195) (by decide +kernel)⟩
theorem lw_p100 : lw_okq (⟨"OneFewerModel", "tellsActs", "(I)I"⟩, 27) := ⟨⟨by decide +kernel, by decide +kernel⟩, List.mem_of_getElem? (i := 840) (by decide +kernel), List.mem_of_getElem? (i := 1198) (by decide +kernel), List.mem_of_getElem? (i := 1199) (by decide +kernel)⟩
theorem lw_p101 : lw_okq (⟨"OneFewerModel", "plainTells", "(I)I"⟩, 27) := ⟨⟨by decide +kernel, by decide +kernel⟩, List.mem_of_getElem? (i := 840) (by decide +kernel), List.mem_of_getElem? (i := 1202) (by decide +kernel), List.mem_of_getElem? (i := 1203) (by decide +kernel)⟩
theorem lw_p102 : lw_okq (⟨"OneFewerModel", "paysActs", "(I)I"⟩, 27) := ⟨⟨by decide +kernel, by decide +kernel⟩, List.mem_of_getElem? (i := 840) (by decide +kernel), List.mem_of_getElem? (i := 1206) (by decide +kernel), List.mem_of_getElem? (i := 1207) (by decide +kernel)⟩
theorem lw_p103 : lw_okq (⟨"OneFewerModel", "plainPays", "(I)I"⟩, 27) := ⟨⟨by decide +kernel, by decide +kernel⟩, List.mem_of_getElem? (i := 840) (by decide +kernel), List.mem_of_getElem? (i := 1210) (by decide +kernel), List.mem_of_getElem? (i := 1211) (by decide +kernel)⟩
def lw_privs_7 : List (MethodName × Nat) := [(⟨"OneFewerModel", "othersHeard", "(I)I"⟩, 27), (⟨"OneFewerModel", "hearsActs", "(I)I"⟩, 27), (⟨"OneFewerModel", "ranBody", "(I)V"⟩, 27), (⟨"OneFewerModel", "plainHears", "(I)I"⟩, 27), (⟨"OneFewerModel", "tellsActs", "(I)I"⟩, 27), (⟨"OneFewerModel", "plainTells", "(I)I"⟩, 27), (⟨"OneFewerModel", "paysActs", "(I)I"⟩, 27), (⟨"OneFewerModel", "plainPays", "(I)I"⟩, 27)]
theorem lw_r7 : ∀ q ∈ lw_privs_7, lw_okq q := List.forall_mem_cons.mpr ⟨lw_p96, List.forall_mem_cons.mpr ⟨lw_p97, List.forall_mem_cons.mpr ⟨lw_p98, List.forall_mem_cons.mpr ⟨lw_p99, List.forall_mem_cons.mpr ⟨lw_p100, List.forall_mem_cons.mpr ⟨lw_p101, List.forall_mem_cons.mpr ⟨lw_p102, List.forall_mem_cons.mpr ⟨lw_p103, fun _ h => absurd h List.not_mem_nil⟩⟩⟩⟩⟩⟩⟩⟩
def lw_privs : List (MethodName × Nat) := lw_privs_1 ++ (lw_privs_2 ++ (lw_privs_3 ++ (lw_privs_4 ++ (lw_privs_5 ++ (lw_privs_6 ++ (lw_privs_7))))))
def lw_tbl : List Cond := k2_sels lw_privs ++ tables_1
theorem lw_privs_ok : ∀ q ∈ lw_privs, lw_okq q := by
  show ∀ q ∈ lw_privs_1 ++ (lw_privs_2 ++ (lw_privs_3 ++ (lw_privs_4 ++ (lw_privs_5 ++ (lw_privs_6 ++ (lw_privs_7)))))), lw_okq q
  exact List.forall_mem_append.mpr ⟨lw_r1, List.forall_mem_append.mpr ⟨lw_r2, List.forall_mem_append.mpr ⟨lw_r3, List.forall_mem_append.mpr ⟨lw_r4, List.forall_mem_append.mpr ⟨lw_r5, List.forall_mem_append.mpr ⟨lw_r6, lw_r7⟩⟩⟩⟩⟩⟩
end
section
def RX0 : String := "OneFewer$Acts"
def TX0 : u_T := fun k => match k with
  | 0 => ("OneFewer$Acts", "kind", "I", false)
  | 1 => ("OneFewer$Acts", "i", "I", false)
  | 2 => ("OneFewer$Acts", "v", "I", false)
  | 3 => ("OneFewer$Acts", "ran", "I", false)
  | _ => ("OneFewer$Acts", "bodies", "[I", true)
def tyX0 : Nat → FieldType := fun k => match k with
  | 0 => .int
  | 1 => .int
  | 2 => .int
  | 3 => .int
  | _ => .array .int
abbrev wsX00 : List Cond := u_ws RX0 TX0 5
theorem nmX0 : ∀ a, a < 5 → ∀ b, b < 5 → a ≠ b → (TX0 a).2.1 ≠ (TX0 b).2.1 := by decide +kernel
theorem tyX0_ok : ∀ k, k < 5 → parseFieldDescriptor (TX0 k).2.2.1 = some (tyX0 k) := by decide +kernel
abbrev cX0_init : ByteArray := prog_2_method_1_code
def yX0_init : MethodName := ⟨RX0, "<init>", "()V"⟩
abbrev cX0_setOne : ByteArray := prog_2_method_2_code
def yX0_setOne : MethodName := ⟨RX0, "setOne", "(III)V"⟩
abbrev cX0_run : ByteArray := prog_2_method_3_code
def yX0_run : MethodName := ⟨RX0, "run", "(I)V"⟩
abbrev cX0_hears : ByteArray := prog_2_method_4_code
def yX0_hears : MethodName := ⟨RX0, "hears", "(I)I"⟩
abbrev cX0_tells : ByteArray := prog_2_method_5_code
def yX0_tells : MethodName := ⟨RX0, "tells", "(I)I"⟩
abbrev cX0_pays : ByteArray := prog_2_method_6_code
def yX0_pays : MethodName := ⟨RX0, "pays", "(I)I"⟩
def RX1 : String := "OneFewer$Asking"
def TX1 : u_T := fun k => match k with
  | 0 => ("OneFewer$Asking", "telling", "LOneFewer$Telling;", true)
  | 1 => ("OneFewer$Asking", "trial", "LOneFewer$Word;", true)
  | 2 => ("OneFewer$Asking", "bestWho", "I", false)
  | 3 => ("OneFewer$Asking", "bestHeard", "I", false)
  | 4 => ("OneFewer$Asking", "bestFines", "I", false)
  | 5 => ("OneFewer$Asking", "choiceSet", "I", false)
  | 6 => ("OneFewer$Asking", "choiceHeard", "I", false)
  | 7 => ("OneFewer$Asking", "beganWays", "I", false)
  | _ => ("OneFewer$Asking", "beganFirst", "I", false)
def tyX1 : Nat → FieldType := fun k => match k with
  | 0 => .object "OneFewer$Telling"
  | 1 => .object "OneFewer$Word"
  | 2 => .int
  | 3 => .int
  | 4 => .int
  | 5 => .int
  | 6 => .int
  | 7 => .int
  | _ => .int
abbrev wsX10 : List Cond := u_ws RX1 TX1 9
theorem nmX1 : ∀ a, a < 9 → ∀ b, b < 9 → a ≠ b → (TX1 a).2.1 ≠ (TX1 b).2.1 := by decide +kernel
theorem tyX1_ok : ∀ k, k < 9 → parseFieldDescriptor (TX1 k).2.2.1 = some (tyX1 k) := by decide +kernel
abbrev cX1_init : ByteArray := prog_3_method_1_code
def yX1_init : MethodName := ⟨RX1, "<init>", "()V"⟩
abbrev cX1_findBest : ByteArray := prog_3_method_2_code
def yX1_findBest : MethodName := ⟨RX1, "findBest", "(I)V"⟩
abbrev cX1_isChoosable : ByteArray := prog_3_method_3_code
def yX1_isChoosable : MethodName := ⟨RX1, "isChoosable", "(III)Z"⟩
abbrev cX1_findChoice : ByteArray := prog_3_method_4_code
def yX1_findChoice : MethodName := ⟨RX1, "findChoice", "(I)V"⟩
abbrev cX1_findReach : ByteArray := prog_3_method_5_code
def yX1_findReach : MethodName := ⟨RX1, "findReach", "(II)I"⟩
abbrev cX1_findBegan : ByteArray := prog_3_method_6_code
def yX1_findBegan : MethodName := ⟨RX1, "findBegan", "()V"⟩
abbrev cX1_isAsSeen : ByteArray := prog_3_method_7_code
def yX1_isAsSeen : MethodName := ⟨RX1, "isAsSeen", "(II)Z"⟩
abbrev cX1_waysToHear : ByteArray := prog_3_method_8_code
def yX1_waysToHear : MethodName := ⟨RX1, "waysToHear", "(II)I"⟩
abbrev cX1_finesOfAll : ByteArray := prog_3_method_9_code
def yX1_finesOfAll : MethodName := ⟨RX1, "finesOfAll", "(I)J"⟩
def RX2 : String := "OneFewer$People"
def TX2 : u_T := fun k => match k with
  | 0 => ("OneFewer$People", "size", "I", false)
  | 1 => ("OneFewer$People", "kinds", "[I", true)
  | 2 => ("OneFewer$People", "values", "[I", true)
  | 3 => ("OneFewer$People", "known", "[I", true)
  | 4 => ("OneFewer$People", "rowSizes", "[I", true)
  | _ => ("OneFewer$People", "rows", "[I", true)
def tyX2 : Nat → FieldType := fun k => match k with
  | 0 => .int
  | 1 => .array .int
  | 2 => .array .int
  | 3 => .array .int
  | 4 => .array .int
  | _ => .array .int
abbrev wsX20 : List Cond := u_ws RX2 TX2 6
theorem nmX2 : ∀ a, a < 6 → ∀ b, b < 6 → a ≠ b → (TX2 a).2.1 ≠ (TX2 b).2.1 := by decide +kernel
theorem tyX2_ok : ∀ k, k < 6 → parseFieldDescriptor (TX2 k).2.2.1 = some (tyX2 k) := by decide +kernel
abbrev cX2_init : ByteArray := prog_4_method_1_code
def yX2_init : MethodName := ⟨RX2, "<init>", "()V"⟩
abbrev cX2_has : ByteArray := prog_4_method_2_code
def yX2_has : MethodName := ⟨RX2, "has", "(I)Z"⟩
abbrev cX2_all : ByteArray := prog_4_method_3_code
def yX2_all : MethodName := ⟨RX2, "all", "()I"⟩
abbrev cX2_add : ByteArray := prog_4_method_4_code
def yX2_add : MethodName := ⟨RX2, "add", "(II)Z"⟩
abbrev cX2_acquaint : ByteArray := prog_4_method_5_code
def yX2_acquaint : MethodName := ⟨RX2, "acquaint", "(IIZ)V"⟩
abbrev cX2_addToRow : ByteArray := prog_4_method_6_code
def yX2_addToRow : MethodName := ⟨RX2, "addToRow", "(II)Z"⟩
abbrev cX2_deafOn : ByteArray := prog_4_method_7_code
def yX2_deafOn : MethodName := ⟨RX2, "deafOn", "(I)I"⟩
abbrev cX2_pick : ByteArray := prog_4_method_8_code
def yX2_pick : MethodName := ⟨RX2, "pick", "(III)I"⟩
abbrev cX2_pickFromRow : ByteArray := prog_4_method_9_code
def yX2_pickFromRow : MethodName := ⟨RX2, "pickFromRow", "(III)I"⟩
abbrev cX2_pickNext : ByteArray := prog_4_method_10_code
def yX2_pickNext : MethodName := ⟨RX2, "pickNext", "(II)I"⟩
abbrev cX2_isAhead : ByteArray := prog_4_method_11_code
def yX2_isAhead : MethodName := ⟨RX2, "isAhead", "(III)Z"⟩
abbrev cX2_copyFrom : ByteArray := prog_4_method_12_code
def yX2_copyFrom : MethodName := ⟨RX2, "copyFrom", "(LOneFewer$People;)V"⟩
def RX3 : String := "OneFewer$Reader"
def TX3 : u_T := fun k => match k with
  | 0 => ("OneFewer$Reader", "tape", "LOneFewer$Tape;", true)
  | 1 => ("OneFewer$Reader", "town", "LOneFewer$Town;", true)
  | 2 => ("OneFewer$Reader", "place", "I", false)
  | 3 => ("OneFewer$Reader", "number", "I", false)
  | _ => ("OneFewer$Reader", "hasCondition", "Z", false)
def tyX3 : Nat → FieldType := fun k => match k with
  | 0 => .object "OneFewer$Tape"
  | 1 => .object "OneFewer$Town"
  | 2 => .int
  | 3 => .int
  | _ => .boolean
abbrev wsX30 : List Cond := u_ws RX3 TX3 5
theorem nmX3 : ∀ a, a < 5 → ∀ b, b < 5 → a ≠ b → (TX3 a).2.1 ≠ (TX3 b).2.1 := by decide +kernel
theorem tyX3_ok : ∀ k, k < 5 → parseFieldDescriptor (TX3 k).2.2.1 = some (tyX3 k) := by decide +kernel
abbrev cX3_init : ByteArray := prog_5_method_1_code
def yX3_init : MethodName := ⟨RX3, "<init>", "()V"⟩
abbrev cX3_read : ByteArray := prog_5_method_2_code
def yX3_read : MethodName := ⟨RX3, "read", "(LOneFewer$Tape;)Z"⟩
abbrev cX3_readHead : ByteArray := prog_5_method_3_code
def yX3_readHead : MethodName := ⟨RX3, "readHead", "()Z"⟩
abbrev cX3_readShun : ByteArray := prog_5_method_4_code
def yX3_readShun : MethodName := ⟨RX3, "readShun", "()Z"⟩
abbrev cX3_readFine : ByteArray := prog_5_method_5_code
def yX3_readFine : MethodName := ⟨RX3, "readFine", "()Z"⟩
abbrev cX3_readFewer : ByteArray := prog_5_method_6_code
def yX3_readFewer : MethodName := ⟨RX3, "readFewer", "()Z"⟩
abbrev cX3_readLaw : ByteArray := prog_5_method_7_code
def yX3_readLaw : MethodName := ⟨RX3, "readLaw", "()Z"⟩
abbrev cX3_readEither : ByteArray := prog_5_method_8_code
def yX3_readEither : MethodName := ⟨RX3, "readEither", "(I)Z"⟩
abbrev cX3_readPart : ByteArray := prog_5_method_9_code
def yX3_readPart : MethodName := ⟨RX3, "readPart", "(I)Z"⟩
abbrev cX3_readTest : ByteArray := prog_5_method_10_code
def yX3_readTest : MethodName := ⟨RX3, "readTest", "()Z"⟩
abbrev cX3_factOf : ByteArray := prog_5_method_11_code
def yX3_factOf : MethodName := ⟨RX3, "factOf", "(I)I"⟩
abbrev cX3_readNumber : ByteArray := prog_5_method_12_code
def yX3_readNumber : MethodName := ⟨RX3, "readNumber", "()Z"⟩
abbrev cX3_readWord : ByteArray := prog_5_method_13_code
def yX3_readWord : MethodName := ⟨RX3, "readWord", "(Ljava/lang/String;)Z"⟩
abbrev cX3_skip : ByteArray := prog_5_method_14_code
def yX3_skip : MethodName := ⟨RX3, "skip", "(C)Z"⟩
def RX4 : String := "OneFewer$Rows"
def TX4 : u_T := fun k => match k with
  | 0 => ("OneFewer$Rows", "size", "I", false)
  | 1 => ("OneFewer$Rows", "firsts", "[I", true)
  | _ => ("OneFewer$Rows", "seconds", "[I", true)
def tyX4 : Nat → FieldType := fun k => match k with
  | 0 => .int
  | 1 => .array .int
  | _ => .array .int
abbrev wsX40 : List Cond := u_ws RX4 TX4 3
theorem nmX4 : ∀ a, a < 3 → ∀ b, b < 3 → a ≠ b → (TX4 a).2.1 ≠ (TX4 b).2.1 := by decide +kernel
theorem tyX4_ok : ∀ k, k < 3 → parseFieldDescriptor (TX4 k).2.2.1 = some (tyX4 k) := by decide +kernel
abbrev cX4_init : ByteArray := prog_6_method_1_code
def yX4_init : MethodName := ⟨RX4, "<init>", "(I)V"⟩
abbrev cX4_add : ByteArray := prog_6_method_2_code
def yX4_add : MethodName := ⟨RX4, "add", "(II)Z"⟩
abbrev cX4_copyFrom : ByteArray := prog_6_method_3_code
def yX4_copyFrom : MethodName := ⟨RX4, "copyFrom", "(LOneFewer$Rows;)V"⟩
def RX5 : String := "OneFewer$State"
def TX5 : u_T := fun k => match k with
  | 0 => ("OneFewer$State", "tape", "LOneFewer$Tape;", true)
  | 1 => ("OneFewer$State", "town", "LOneFewer$Town;", true)
  | 2 => ("OneFewer$State", "towns", "I", false)
  | 3 => ("OneFewer$State", "people", "LOneFewer$People;", true)
  | 4 => ("OneFewer$State", "word", "LOneFewer$Word;", true)
  | 5 => ("OneFewer$State", "seen", "LOneFewer$Rows;", true)
  | _ => ("OneFewer$State", "book", "LOneFewer$Rows;", true)
def tyX5 : Nat → FieldType := fun k => match k with
  | 0 => .object "OneFewer$Tape"
  | 1 => .object "OneFewer$Town"
  | 2 => .int
  | 3 => .object "OneFewer$People"
  | 4 => .object "OneFewer$Word"
  | 5 => .object "OneFewer$Rows"
  | _ => .object "OneFewer$Rows"
abbrev wsX50 : List Cond := u_ws RX5 TX5 7
theorem nmX5 : ∀ a, a < 7 → ∀ b, b < 7 → a ≠ b → (TX5 a).2.1 ≠ (TX5 b).2.1 := by decide +kernel
theorem tyX5_ok : ∀ k, k < 7 → parseFieldDescriptor (TX5 k).2.2.1 = some (tyX5 k) := by decide +kernel
abbrev cX5_init : ByteArray := prog_7_method_1_code
def yX5_init : MethodName := ⟨RX5, "<init>", "()V"⟩
abbrev cX5_copyFrom : ByteArray := prog_7_method_2_code
def yX5_copyFrom : MethodName := ⟨RX5, "copyFrom", "(LOneFewer$State;)V"⟩
def RX6 : String := "OneFewer$Tape"
def TX6 : u_T := fun k => match k with
  | 0 => ("OneFewer$Tape", "signs", "[I", true)
  | _ => ("OneFewer$Tape", "size", "I", false)
def tyX6 : Nat → FieldType := fun k => match k with
  | 0 => .array .int
  | _ => .int
abbrev wsX60 : List Cond := u_ws RX6 TX6 2
theorem nmX6 : ∀ a, a < 2 → ∀ b, b < 2 → a ≠ b → (TX6 a).2.1 ≠ (TX6 b).2.1 := by decide +kernel
theorem tyX6_ok : ∀ k, k < 2 → parseFieldDescriptor (TX6 k).2.2.1 = some (tyX6 k) := by decide +kernel
abbrev cX6_init : ByteArray := prog_8_method_1_code
def yX6_init : MethodName := ⟨RX6, "<init>", "()V"⟩
abbrev cX6_add : ByteArray := prog_8_method_2_code
def yX6_add : MethodName := ⟨RX6, "add", "(I)Z"⟩
abbrev cX6_at : ByteArray := prog_8_method_3_code
def yX6_at : MethodName := ⟨RX6, "at", "(I)I"⟩
abbrev cX6_copyFrom : ByteArray := prog_8_method_4_code
def yX6_copyFrom : MethodName := ⟨RX6, "copyFrom", "(LOneFewer$Tape;)V"⟩
def RX7 : String := "OneFewer$Telling"
def TX7 : u_T := fun k => match k with
  | 0 => ("OneFewer$Telling", "state", "LOneFewer$State;", true)
  | _ => ("OneFewer$Telling", "facts", "[I", true)
def tyX7 : Nat → FieldType := fun k => match k with
  | 0 => .object "OneFewer$State"
  | _ => .array .int
abbrev wsX70 : List Cond := u_ws RX7 TX7 2
theorem nmX7 : ∀ a, a < 2 → ∀ b, b < 2 → a ≠ b → (TX7 a).2.1 ≠ (TX7 b).2.1 := by decide +kernel
theorem tyX7_ok : ∀ k, k < 2 → parseFieldDescriptor (TX7 k).2.2.1 = some (tyX7 k) := by decide +kernel
abbrev cX7_init : ByteArray := prog_9_method_1_code
def yX7_init : MethodName := ⟨RX7, "<init>", "()V"⟩
abbrev cX7_setFacts : ByteArray := prog_9_method_2_code
def yX7_setFacts : MethodName := ⟨RX7, "setFacts", "(LOneFewer$Word;II)V"⟩
abbrev cX7_mayOf : ByteArray := prog_9_method_3_code
def yX7_mayOf : MethodName := ⟨RX7, "mayOf", "(LOneFewer$Word;I)I"⟩
abbrev cX7_fineOf : ByteArray := prog_9_method_4_code
def yX7_fineOf : MethodName := ⟨RX7, "fineOf", "(LOneFewer$Word;I)I"⟩
abbrev cX7_askedOf : ByteArray := prog_9_method_5_code
def yX7_askedOf : MethodName := ⟨RX7, "askedOf", "(LOneFewer$Word;I)I"⟩
abbrev cX7_goDay : ByteArray := prog_9_method_6_code
def yX7_goDay : MethodName := ⟨RX7, "goDay", "(LOneFewer$Word;III)I"⟩
abbrev cX7_hand : ByteArray := prog_9_method_7_code
def yX7_hand : MethodName := ⟨RX7, "hand", "(LOneFewer$Word;III)V"⟩
abbrev cX7_goOn : ByteArray := prog_9_method_8_code
def yX7_goOn : MethodName := ⟨RX7, "goOn", "(LOneFewer$Word;III)I"⟩
def RX8 : String := "OneFewer$Town"
def TX8 : u_T := fun k => match k with
  | 0 => ("OneFewer$Town", "fewer", "I", false)
  | 1 => ("OneFewer$Town", "law", "I", false)
  | 2 => ("OneFewer$Town", "clauses", "I", false)
  | 3 => ("OneFewer$Town", "steps", "I", false)
  | 4 => ("OneFewer$Town", "clauseKinds", "[I", true)
  | 5 => ("OneFewer$Town", "amounts", "[I", true)
  | 6 => ("OneFewer$Town", "starts", "[I", true)
  | 7 => ("OneFewer$Town", "ends", "[I", true)
  | 8 => ("OneFewer$Town", "codes", "[I", true)
  | 9 => ("OneFewer$Town", "leasts", "[I", true)
  | _ => ("OneFewer$Town", "mosts", "[I", true)
def tyX8 : Nat → FieldType := fun k => match k with
  | 0 => .int
  | 1 => .int
  | 2 => .int
  | 3 => .int
  | 4 => .array .int
  | 5 => .array .int
  | 6 => .array .int
  | 7 => .array .int
  | 8 => .array .int
  | 9 => .array .int
  | _ => .array .int
abbrev wsX80 : List Cond := u_ws RX8 TX8 11
theorem nmX8 : ∀ a, a < 11 → ∀ b, b < 11 → a ≠ b → (TX8 a).2.1 ≠ (TX8 b).2.1 := by decide +kernel
theorem tyX8_ok : ∀ k, k < 11 → parseFieldDescriptor (TX8 k).2.2.1 = some (tyX8 k) := by decide +kernel
abbrev cX8_init : ByteArray := prog_10_method_1_code
def yX8_init : MethodName := ⟨RX8, "<init>", "()V"⟩
abbrev cX8_clear : ByteArray := prog_10_method_2_code
def yX8_clear : MethodName := ⟨RX8, "clear", "()V"⟩
abbrev cX8_addClause : ByteArray := prog_10_method_3_code
def yX8_addClause : MethodName := ⟨RX8, "addClause", "(II)V"⟩
abbrev cX8_addStep : ByteArray := prog_10_method_4_code
def yX8_addStep : MethodName := ⟨RX8, "addStep", "(III)V"⟩
abbrev cX8_weigh : ByteArray := prog_10_method_5_code
def yX8_weigh : MethodName := ⟨RX8, "weigh", "(I[I)I"⟩
abbrev cX8_holds : ByteArray := prog_10_method_6_code
def yX8_holds : MethodName := ⟨RX8, "holds", "(I[I)Z"⟩
abbrev cX8_sumOf : ByteArray := prog_10_method_7_code
def yX8_sumOf : MethodName := ⟨RX8, "sumOf", "(I)J"⟩
abbrev cX8_copyFrom : ByteArray := prog_10_method_8_code
def yX8_copyFrom : MethodName := ⟨RX8, "copyFrom", "(LOneFewer$Town;)V"⟩
def RX9 : String := "OneFewer$Word"
def TX9 : u_T := fun k => match k with
  | 0 => ("OneFewer$Word", "date", "I", false)
  | 1 => ("OneFewer$Word", "fines", "I", false)
  | 2 => ("OneFewer$Word", "heard", "I", false)
  | 3 => ("OneFewer$Word", "told", "I", false)
  | 4 => ("OneFewer$Word", "numbers", "[I", true)
  | _ => ("OneFewer$Word", "days", "[I", true)
def tyX9 : Nat → FieldType := fun k => match k with
  | 0 => .int
  | 1 => .int
  | 2 => .int
  | 3 => .int
  | 4 => .array .int
  | _ => .array .int
abbrev wsX90 : List Cond := u_ws RX9 TX9 6
theorem nmX9 : ∀ a, a < 6 → ∀ b, b < 6 → a ≠ b → (TX9 a).2.1 ≠ (TX9 b).2.1 := by decide +kernel
theorem tyX9_ok : ∀ k, k < 6 → parseFieldDescriptor (TX9 k).2.2.1 = some (tyX9 k) := by decide +kernel
abbrev cX9_init : ByteArray := prog_11_method_1_code
def yX9_init : MethodName := ⟨RX9, "<init>", "()V"⟩
abbrev cX9_startWith : ByteArray := prog_11_method_2_code
def yX9_startWith : MethodName := ⟨RX9, "startWith", "(III)V"⟩
abbrev cX9_yetToTell : ByteArray := prog_11_method_3_code
def yX9_yetToTell : MethodName := ⟨RX9, "yetToTell", "()I"⟩
abbrev cX9_copyFrom : ByteArray := prog_11_method_4_code
def yX9_copyFrom : MethodName := ⟨RX9, "copyFrom", "(LOneFewer$Word;)V"⟩
def RX10 : String := "OneFewer"
def TX10 : u_T := fun k => match k with
  | 0 => ("OneFewer", "asking", "LOneFewer$Asking;", true)
  | 1 => ("OneFewer", "telling", "LOneFewer$Telling;", true)
  | 2 => ("OneFewer", "now", "LOneFewer$State;", true)
  | 3 => ("OneFewer", "kept", "LOneFewer$State;", true)
  | 4 => ("OneFewer", "reader", "LOneFewer$Reader;", true)
  | 5 => ("OneFewer", "acts", "LOneFewer$Acts;", true)
  | _ => ("OneFewer", "isKept", "Z", false)
def tyX10 : Nat → FieldType := fun k => match k with
  | 0 => .object "OneFewer$Asking"
  | 1 => .object "OneFewer$Telling"
  | 2 => .object "OneFewer$State"
  | 3 => .object "OneFewer$State"
  | 4 => .object "OneFewer$Reader"
  | 5 => .object "OneFewer$Acts"
  | _ => .boolean
abbrev wsX100 : List Cond := u_ws RX10 TX10 7
theorem nmX10 : ∀ a, a < 7 → ∀ b, b < 7 → a ≠ b → (TX10 a).2.1 ≠ (TX10 b).2.1 := by decide +kernel
theorem tyX10_ok : ∀ k, k < 7 → parseFieldDescriptor (TX10 k).2.2.1 = some (tyX10 k) := by decide +kernel
abbrev cX10_init : ByteArray := prog_1_method_1_code
def yX10_init : MethodName := ⟨RX10, "<init>", "()V"⟩
abbrev cX10_feed : ByteArray := prog_1_method_2_code
def yX10_feed : MethodName := ⟨RX10, "feed", "(I)I"⟩
abbrev cX10_town : ByteArray := prog_1_method_3_code
def yX10_town : MethodName := ⟨RX10, "town", "()I"⟩
abbrev cX10_person : ByteArray := prog_1_method_4_code
def yX10_person : MethodName := ⟨RX10, "person", "(II)I"⟩
abbrev cX10_of : ByteArray := prog_1_method_5_code
def yX10_of : MethodName := ⟨RX10, "of", "(II)I"⟩
abbrev cX10_ofTeller : ByteArray := prog_1_method_6_code
def yX10_ofTeller : MethodName := ⟨RX10, "ofTeller", "(LOneFewer$Word;II)I"⟩
abbrev cX10_know : ByteArray := prog_1_method_7_code
def yX10_know : MethodName := ⟨RX10, "know", "(IIZ)I"⟩
abbrev cX10_row : ByteArray := prog_1_method_8_code
def yX10_row : MethodName := ⟨RX10, "row", "(II)I"⟩
abbrev cX10_told : ByteArray := prog_1_method_9_code
def yX10_told : MethodName := ⟨RX10, "told", "(I)I"⟩
abbrev cX10_begin : ByteArray := prog_1_method_10_code
def yX10_begin : MethodName := ⟨RX10, "begin", "(II)I"⟩
abbrev cX10_day : ByteArray := prog_1_method_11_code
def yX10_day : MethodName := ⟨RX10, "day", "()I"⟩
abbrev cX10_sum : ByteArray := prog_1_method_12_code
def yX10_sum : MethodName := ⟨RX10, "sum", "(I)J"⟩
abbrev cX10_enough : ByteArray := prog_1_method_13_code
def yX10_enough : MethodName := ⟨RX10, "enough", "(I)I"⟩
abbrev cX10_end : ByteArray := prog_1_method_14_code
def yX10_end : MethodName := ⟨RX10, "end", "(I)I"⟩
abbrev cX10_best : ByteArray := prog_1_method_15_code
def yX10_best : MethodName := ⟨RX10, "best", "(II)I"⟩
abbrev cX10_choice : ByteArray := prog_1_method_16_code
def yX10_choice : MethodName := ⟨RX10, "choice", "(II)I"⟩
abbrev cX10_reach : ByteArray := prog_1_method_17_code
def yX10_reach : MethodName := ⟨RX10, "reach", "(II)I"⟩
abbrev cX10_see : ByteArray := prog_1_method_18_code
def yX10_see : MethodName := ⟨RX10, "see", "(II)I"⟩
abbrev cX10_began : ByteArray := prog_1_method_19_code
def yX10_began : MethodName := ⟨RX10, "began", "(I)I"⟩
abbrev cX10_stops : ByteArray := prog_1_method_20_code
def yX10_stops : MethodName := ⟨RX10, "stops", "(I)I"⟩
abbrev cX10_odds : ByteArray := prog_1_method_21_code
def yX10_odds : MethodName := ⟨RX10, "odds", "(III)J"⟩
abbrev cX10_mean : ByteArray := prog_1_method_22_code
def yX10_mean : MethodName := ⟨RX10, "mean", "(II)J"⟩
abbrev cX10_book : ByteArray := prog_1_method_23_code
def yX10_book : MethodName := ⟨RX10, "book", "(II)I"⟩
abbrev cX10_looked : ByteArray := prog_1_method_24_code
def yX10_looked : MethodName := ⟨RX10, "looked", "()I"⟩
abbrev cX10_act : ByteArray := prog_1_method_25_code
def yX10_act : MethodName := ⟨RX10, "act", "(III)I"⟩
abbrev cX10_trace : ByteArray := prog_1_method_26_code
def yX10_trace : MethodName := ⟨RX10, "trace", "(I)I"⟩
abbrev cX10_as : ByteArray := prog_1_method_27_code
def yX10_as : MethodName := ⟨RX10, "as", "(II)I"⟩
abbrev cX10_image : ByteArray := prog_1_method_28_code
def yX10_image : MethodName := ⟨RX10, "image", "()I"⟩
abbrev cX10_undo : ByteArray := prog_1_method_29_code
def yX10_undo : MethodName := ⟨RX10, "undo", "()I"⟩
abbrev cX10_count : ByteArray := prog_1_method_30_code
def yX10_count : MethodName := ⟨RX10, "count", "(I)I"⟩
abbrev cX10_isIn : ByteArray := prog_1_method_31_code
def yX10_isIn : MethodName := ⟨RX10, "isIn", "(II)Z"⟩
abbrev cX10_isNumber : ByteArray := prog_1_method_32_code
def yX10_isNumber : MethodName := ⟨RX10, "isNumber", "(I)Z"⟩
abbrev cX10_hasBit : ByteArray := prog_1_method_33_code
def yX10_hasBit : MethodName := ⟨RX10, "hasBit", "(II)Z"⟩
abbrev cX10_isUnder : ByteArray := prog_1_method_34_code
def yX10_isUnder : MethodName := ⟨RX10, "isUnder", "(II)Z"⟩
abbrev cX10_partOf : ByteArray := prog_1_method_35_code
def yX10_partOf : MethodName := ⟨RX10, "partOf", "(JJI)J"⟩
def RX11 : String := "OneFewerModel"
def TX11 : u_T := fun k => match k with
  | 0 => ("OneFewerModel", "thrown", "I", false)
  | 1 => ("OneFewerModel", "s", "[I", true)
  | 2 => ("OneFewerModel", "image", "[I", true)
  | 3 => ("OneFewerModel", "frame", "[I", true)
  | 4 => ("OneFewerModel", "hasImage", "Z", false)
  | 5 => ("OneFewerModel", "act", "I", false)
  | 6 => ("OneFewerModel", "spot", "I", false)
  | 7 => ("OneFewerModel", "end", "I", false)
  | 8 => ("OneFewerModel", "isWrong", "Z", false)
  | 9 => ("OneFewerModel", "open", "I", false)
  | 10 => ("OneFewerModel", "by", "[I", true)
  | 11 => ("OneFewerModel", "truths", "[Z", true)
  | 12 => ("OneFewerModel", "isShunned", "Z", false)
  | 13 => ("OneFewerModel", "fined", "I", false)
  | 14 => ("OneFewerModel", "choices", "[I", true)
  | 15 => ("OneFewerModel", "comes", "[I", true)
  | 16 => ("OneFewerModel", "stopped", "I", false)
  | 17 => ("OneFewerModel", "chooser", "I", false)
  | 18 => ("OneFewerModel", "chosenSet", "I", false)
  | 19 => ("OneFewerModel", "bestSet", "I", false)
  | 20 => ("OneFewerModel", "mostHeard", "I", false)
  | 21 => ("OneFewerModel", "reachSet", "I", false)
  | 22 => ("OneFewerModel", "bodies", "[I", true)
  | 23 => ("OneFewerModel", "ran", "I", false)
  | 24 => ("OneFewerModel", "kind", "I", false)
  | 25 => ("OneFewerModel", "number", "I", false)
  | _ => ("OneFewerModel", "tellsV", "I", false)
def tyX11 : Nat → FieldType := fun k => match k with
  | 0 => .int
  | 1 => .array .int
  | 2 => .array .int
  | 3 => .array .int
  | 4 => .boolean
  | 5 => .int
  | 6 => .int
  | 7 => .int
  | 8 => .boolean
  | 9 => .int
  | 10 => .array .int
  | 11 => .array .boolean
  | 12 => .boolean
  | 13 => .int
  | 14 => .array .int
  | 15 => .array .int
  | 16 => .int
  | 17 => .int
  | 18 => .int
  | 19 => .int
  | 20 => .int
  | 21 => .int
  | 22 => .array .int
  | 23 => .int
  | 24 => .int
  | 25 => .int
  | _ => .int
abbrev wsX110 : List Cond := u_ws RX11 TX11 27
theorem nmX11 : ∀ a, a < 27 → ∀ b, b < 27 → a ≠ b → (TX11 a).2.1 ≠ (TX11 b).2.1 := by decide +kernel
theorem tyX11_ok : ∀ k, k < 27 → parseFieldDescriptor (TX11 k).2.2.1 = some (tyX11 k) := by decide +kernel
abbrev cX11_init : ByteArray := prog_13_method_1_code
def yX11_init : MethodName := ⟨RX11, "<init>", "()V"⟩
abbrev cX11_in : ByteArray := prog_13_method_3_code
def yX11_in : MethodName := ⟨RX11, "in", "(III)Z"⟩
abbrev cX11_isPerson : ByteArray := prog_13_method_4_code
def yX11_isPerson : MethodName := ⟨RX11, "isPerson", "(I)Z"⟩
abbrev cX11_keeps : ByteArray := prog_13_method_5_code
def yX11_keeps : MethodName := ⟨RX11, "keeps", "()V"⟩
abbrev cX11_goesBack : ByteArray := prog_13_method_6_code
def yX11_goesBack : MethodName := ⟨RX11, "goesBack", "()V"⟩
abbrev cX11_count1 : ByteArray := prog_13_method_7_code
def yX11_count1 : MethodName := ⟨RX11, "count1", "(I)I"⟩
abbrev cX11_feed : ByteArray := prog_13_method_8_code
def yX11_feed : MethodName := ⟨RX11, "feed", "(I)I"⟩
abbrev cX11_here : ByteArray := prog_13_method_9_code
def yX11_here : MethodName := ⟨RX11, "here", "()I"⟩
abbrev cX11_must : ByteArray := prog_13_method_10_code
def yX11_must : MethodName := ⟨RX11, "must", "(I)V"⟩
abbrev cX11_spells : ByteArray := prog_13_method_11_code
def yX11_spells : MethodName := ⟨RX11, "spells", "(Ljava/lang/String;)V"⟩
abbrev cX11_figures : ByteArray := prog_13_method_12_code
def yX11_figures : MethodName := ⟨RX11, "figures", "()I"⟩
abbrev cX11_among : ByteArray := prog_13_method_13_code
def yX11_among : MethodName := ⟨RX11, "among", "(Ljava/lang/String;)I"⟩
abbrev cX11_emits : ByteArray := prog_13_method_14_code
def yX11_emits : MethodName := ⟨RX11, "emits", "(I)V"⟩
abbrev cX11_factor : ByteArray := prog_13_method_15_code
def yX11_factor : MethodName := ⟨RX11, "factor", "()V"⟩
abbrev cX11_every : ByteArray := prog_13_method_16_code
def yX11_every : MethodName := ⟨RX11, "every", "()V"⟩
abbrev cX11_some : ByteArray := prog_13_method_17_code
def yX11_some : MethodName := ⟨RX11, "some", "()V"⟩
abbrev cX11_tellsHere : ByteArray := prog_13_method_18_code
def yX11_tellsHere : MethodName := ⟨RX11, "tellsHere", "(ILjava/lang/String;)V"⟩
abbrev cX11_clauseOfF : ByteArray := prog_13_method_19_code
def yX11_clauseOfF : MethodName := ⟨RX11, "clauseOfF", "()V"⟩
abbrev cX11_clauseHere : ByteArray := prog_13_method_20_code
def yX11_clauseHere : MethodName := ⟨RX11, "clauseHere", "()V"⟩
abbrev cX11_town : ByteArray := prog_13_method_21_code
def yX11_town : MethodName := ⟨RX11, "town", "()I"⟩
abbrev cX11_tellsOf : ByteArray := prog_13_method_22_code
def yX11_tellsOf : MethodName := ⟨RX11, "tellsOf", "(II)I"⟩
abbrev cX11_looks : ByteArray := prog_13_method_23_code
def yX11_looks : MethodName := ⟨RX11, "looks", "(II)V"⟩
abbrev cX11_fineOf : ByteArray := prog_13_method_24_code
def yX11_fineOf : MethodName := ⟨RX11, "fineOf", "(I)I"⟩
abbrev cX11_person : ByteArray := prog_13_method_25_code
def yX11_person : MethodName := ⟨RX11, "person", "(II)I"⟩
abbrev cX11_hasHeard : ByteArray := prog_13_method_26_code
def yX11_hasHeard : MethodName := ⟨RX11, "hasHeard", "(I)Z"⟩
abbrev cX11_hasTold : ByteArray := prog_13_method_27_code
def yX11_hasTold : MethodName := ⟨RX11, "hasTold", "(I)Z"⟩
abbrev cX11_mayOf : ByteArray := prog_13_method_28_code
def yX11_mayOf : MethodName := ⟨RX11, "mayOf", "(I)I"⟩
abbrev cX11_askedOf : ByteArray := prog_13_method_29_code
def yX11_askedOf : MethodName := ⟨RX11, "askedOf", "(I)I"⟩
abbrev cX11_firstOf : ByteArray := prog_13_method_30_code
def yX11_firstOf : MethodName := ⟨RX11, "firstOf", "(II)I"⟩
abbrev cX11_choiceOf : ByteArray := prog_13_method_31_code
def yX11_choiceOf : MethodName := ⟨RX11, "choiceOf", "(I)I"⟩
abbrev cX11_of : ByteArray := prog_13_method_32_code
def yX11_of : MethodName := ⟨RX11, "of", "(II)I"⟩
abbrev cX11_know : ByteArray := prog_13_method_33_code
def yX11_know : MethodName := ⟨RX11, "know", "(IIZ)I"⟩
abbrev cX11_row : ByteArray := prog_13_method_34_code
def yX11_row : MethodName := ⟨RX11, "row", "(II)I"⟩
abbrev cX11_told : ByteArray := prog_13_method_35_code
def yX11_told : MethodName := ⟨RX11, "told", "(I)I"⟩
abbrev cX11_begins : ByteArray := prog_13_method_36_code
def yX11_begins : MethodName := ⟨RX11, "begins", "(II)V"⟩
abbrev cX11_begin : ByteArray := prog_13_method_37_code
def yX11_begin : MethodName := ⟨RX11, "begin", "(II)I"⟩
abbrev cX11_isToTell : ByteArray := prog_13_method_38_code
def yX11_isToTell : MethodName := ⟨RX11, "isToTell", "(I)Z"⟩
abbrev cX11_isDeaf : ByteArray := prog_13_method_39_code
def yX11_isDeaf : MethodName := ⟨RX11, "isDeaf", "(I)Z"⟩
abbrev cX11_chooses : ByteArray := prog_13_method_40_code
def yX11_chooses : MethodName := ⟨RX11, "chooses", "()V"⟩
abbrev cX11_lessOne : ByteArray := prog_13_method_41_code
def yX11_lessOne : MethodName := ⟨RX11, "lessOne", "(I)I"⟩
abbrev cX11_numberFor : ByteArray := prog_13_method_42_code
def yX11_numberFor : MethodName := ⟨RX11, "numberFor", "(I)I"⟩
abbrev cX11_goes : ByteArray := prog_13_method_43_code
def yX11_goes : MethodName := ⟨RX11, "goes", "()I"⟩
abbrev cX11_day : ByteArray := prog_13_method_44_code
def yX11_day : MethodName := ⟨RX11, "day", "()I"⟩
abbrev cX11_sumOf : ByteArray := prog_13_method_45_code
def yX11_sumOf : MethodName := ⟨RX11, "sumOf", "(I)J"⟩
abbrev cX11_sum : ByteArray := prog_13_method_46_code
def yX11_sum : MethodName := ⟨RX11, "sum", "(I)J"⟩
abbrev cX11_enough : ByteArray := prog_13_method_47_code
def yX11_enough : MethodName := ⟨RX11, "enough", "(I)I"⟩
abbrev cX11_ends : ByteArray := prog_13_method_48_code
def yX11_ends : MethodName := ⟨RX11, "ends", "()I"⟩
abbrev cX11_end : ByteArray := prog_13_method_49_code
def yX11_end : MethodName := ⟨RX11, "end", "(I)I"⟩
abbrev cX11_best : ByteArray := prog_13_method_50_code
def yX11_best : MethodName := ⟨RX11, "best", "(II)I"⟩
abbrev cX11_triesSets : ByteArray := prog_13_method_51_code
def yX11_triesSets : MethodName := ⟨RX11, "triesSets", "(II)V"⟩
abbrev cX11_choice : ByteArray := prog_13_method_52_code
def yX11_choice : MethodName := ⟨RX11, "choice", "(II)I"⟩
abbrev cX11_reach : ByteArray := prog_13_method_53_code
def yX11_reach : MethodName := ⟨RX11, "reach", "(II)I"⟩
abbrev cX11_see : ByteArray := prog_13_method_54_code
def yX11_see : MethodName := ⟨RX11, "see", "(II)I"⟩
abbrev cX11_isAsSeen : ByteArray := prog_13_method_55_code
def yX11_isAsSeen : MethodName := ⟨RX11, "isAsSeen", "()Z"⟩
abbrev cX11_began : ByteArray := prog_13_method_56_code
def yX11_began : MethodName := ⟨RX11, "began", "(I)I"⟩
abbrev cX11_othersHeard : ByteArray := prog_13_method_57_code
def yX11_othersHeard : MethodName := ⟨RX11, "othersHeard", "(I)I"⟩
abbrev cX11_stops : ByteArray := prog_13_method_58_code
def yX11_stops : MethodName := ⟨RX11, "stops", "(I)I"⟩
abbrev cX11_lowest : ByteArray := prog_13_method_59_code
def yX11_lowest : MethodName := ⟨RX11, "lowest", "(JJI)J"⟩
abbrev cX11_odds : ByteArray := prog_13_method_60_code
def yX11_odds : MethodName := ⟨RX11, "odds", "(III)J"⟩
abbrev cX11_mean : ByteArray := prog_13_method_61_code
def yX11_mean : MethodName := ⟨RX11, "mean", "(II)J"⟩
abbrev cX11_book : ByteArray := prog_13_method_62_code
def yX11_book : MethodName := ⟨RX11, "book", "(II)I"⟩
abbrev cX11_looked : ByteArray := prog_13_method_63_code
def yX11_looked : MethodName := ⟨RX11, "looked", "()I"⟩
abbrev cX11_ranBody : ByteArray := prog_13_method_64_code
def yX11_ranBody : MethodName := ⟨RX11, "ranBody", "(I)V"⟩
abbrev cX11_isUnder : ByteArray := prog_13_method_65_code
def yX11_isUnder : MethodName := ⟨RX11, "isUnder", "(II)Z"⟩
abbrev cX11_plainHears : ByteArray := prog_13_method_66_code
def yX11_plainHears : MethodName := ⟨RX11, "plainHears", "(I)I"⟩
abbrev cX11_hearsActs : ByteArray := prog_13_method_67_code
def yX11_hearsActs : MethodName := ⟨RX11, "hearsActs", "(I)I"⟩
abbrev cX11_plainTells : ByteArray := prog_13_method_68_code
def yX11_plainTells : MethodName := ⟨RX11, "plainTells", "(I)I"⟩
abbrev cX11_tellsActs : ByteArray := prog_13_method_69_code
def yX11_tellsActs : MethodName := ⟨RX11, "tellsActs", "(I)I"⟩
abbrev cX11_plainPays : ByteArray := prog_13_method_70_code
def yX11_plainPays : MethodName := ⟨RX11, "plainPays", "(I)I"⟩
abbrev cX11_paysActs : ByteArray := prog_13_method_71_code
def yX11_paysActs : MethodName := ⟨RX11, "paysActs", "(I)I"⟩
abbrev cX11_act : ByteArray := prog_13_method_72_code
def yX11_act : MethodName := ⟨RX11, "act", "(III)I"⟩
abbrev cX11_trace : ByteArray := prog_13_method_73_code
def yX11_trace : MethodName := ⟨RX11, "trace", "(I)I"⟩
abbrev cX11_as : ByteArray := prog_13_method_74_code
def yX11_as : MethodName := ⟨RX11, "as", "(II)I"⟩
abbrev cX11_image : ByteArray := prog_13_method_75_code
def yX11_image : MethodName := ⟨RX11, "image", "()I"⟩
abbrev cX11_undo : ByteArray := prog_13_method_76_code
def yX11_undo : MethodName := ⟨RX11, "undo", "()I"⟩
abbrev cX11_count : ByteArray := prog_13_method_77_code
def yX11_count : MethodName := ⟨RX11, "count", "(I)I"⟩
def RJ6 : String := "java/lang/Integer"
def TJ6 : u_T := fun k => match k with
  | _ => ("", "", "", false)
def tyJ6 : Nat → FieldType := fun k => match k with
  | _ => .int
abbrev wsJ60 : List Cond := u_ws RJ6 TJ6 0
theorem nmJ6 : ∀ a, a < 0 → ∀ b, b < 0 → a ≠ b → (TJ6 a).2.1 ≠ (TJ6 b).2.1 := by decide +kernel
theorem tyJ6_ok : ∀ k, k < 0 → parseFieldDescriptor (TJ6 k).2.2.1 = some (tyJ6 k) := by decide +kernel
abbrev cJ6_bitCount_0f7a4 : ByteArray := prog_14_method_49_code
def yJ6_bitCount_0f7a4 : MethodName := ⟨RJ6, "bitCount", "(I)I"⟩
def RJ9 : String := "java/lang/Math"
def TJ9 : u_T := fun k => match k with
  | _ => ("", "", "", false)
def tyJ9 : Nat → FieldType := fun k => match k with
  | _ => .int
abbrev wsJ90 : List Cond := u_ws RJ9 TJ9 0
theorem nmJ9 : ∀ a, a < 0 → ∀ b, b < 0 → a ≠ b → (TJ9 a).2.1 ≠ (TJ9 b).2.1 := by decide +kernel
theorem tyJ9_ok : ∀ k, k < 0 → parseFieldDescriptor (TJ9 k).2.2.1 = some (tyJ9 k) := by decide +kernel
abbrev cJ9_max_7cf53 : ByteArray := prog_15_method_65_code
def yJ9_max_7cf53 : MethodName := ⟨RJ9, "max", "(II)I"⟩
abbrev cJ9_min_7cf53 : ByteArray := prog_15_method_69_code
def yJ9_min_7cf53 : MethodName := ⟨RJ9, "min", "(II)I"⟩
def RJ0 : String := "java/lang/String"
def TJ0 : u_T := fun k => match k with
  | _ => ("", "", "", false)
def tyJ0 : Nat → FieldType := fun k => match k with
  | _ => .int
abbrev wsJ00 : List Cond := u_ws RJ0 TJ0 0
theorem nmJ0 : ∀ a, a < 0 → ∀ b, b < 0 → a ≠ b → (TJ0 a).2.1 ≠ (TJ0 b).2.1 := by decide +kernel
theorem tyJ0_ok : ∀ k, k < 0 → parseFieldDescriptor (TJ0 k).2.2.1 = some (tyJ0 k) := by decide +kernel
abbrev cJ0_length_8abf5 : ByteArray := prog_16_method_54_code
def yJ0_length_8abf5 : MethodName := ⟨RJ0, "length", "()I"⟩
abbrev cJ0_charAt_5068e : ByteArray := prog_16_method_56_code
def yJ0_charAt_5068e : MethodName := ⟨RJ0, "charAt", "(I)C"⟩
abbrev cJ0_coder_7d493 : ByteArray := prog_16_method_152_code
def yJ0_coder_7d493 : MethodName := ⟨RJ0, "coder", "()B"⟩
abbrev cJ0_isLatin1_aae02 : ByteArray := prog_16_method_154_code
def yJ0_isLatin1_aae02 : MethodName := ⟨RJ0, "isLatin1", "()Z"⟩
abbrev cJ0_checkIndex_df160 : ByteArray := prog_16_method_155_code
def yJ0_checkIndex_df160 : MethodName := ⟨RJ0, "checkIndex", "(II)V"⟩
def RJ1 : String := "java/lang/StringLatin1"
def TJ1 : u_T := fun k => match k with
  | _ => ("", "", "", false)
def tyJ1 : Nat → FieldType := fun k => match k with
  | _ => .int
abbrev wsJ10 : List Cond := u_ws RJ1 TJ1 0
theorem nmJ1 : ∀ a, a < 0 → ∀ b, b < 0 → a ≠ b → (TJ1 a).2.1 ≠ (TJ1 b).2.1 := by decide +kernel
theorem tyJ1_ok : ∀ k, k < 0 → parseFieldDescriptor (TJ1 k).2.2.1 = some (tyJ1 k) := by decide +kernel
abbrev cJ1_charAt_3b067 : ByteArray := prog_17_method_2_code
def yJ1_charAt_3b067 : MethodName := ⟨RJ1, "charAt", "([BI)C"⟩
def RJ2 : String := "java/lang/StringUTF16"
def TJ2 : u_T := fun k => match k with
  | _ => ("", "", "", false)
def tyJ2 : Nat → FieldType := fun k => match k with
  | _ => .int
abbrev wsJ20 : List Cond := u_ws RJ2 TJ2 0
theorem nmJ2 : ∀ a, a < 0 → ∀ b, b < 0 → a ≠ b → (TJ2 a).2.1 ≠ (TJ2 b).2.1 := by decide +kernel
theorem tyJ2_ok : ∀ k, k < 0 → parseFieldDescriptor (TJ2 k).2.2.1 = some (tyJ2 k) := by decide +kernel
abbrev cJ2_getChar_3b067 : ByteArray := prog_18_method_5_code
def yJ2_getChar_3b067 : MethodName := ⟨RJ2, "getChar", "([BI)C"⟩
abbrev cJ2_length_9d52b : ByteArray := prog_18_method_6_code
def yJ2_length_9d52b : MethodName := ⟨RJ2, "length", "([B)I"⟩
abbrev cJ2_charAt_3b067 : ByteArray := prog_18_method_83_code
def yJ2_charAt_3b067 : MethodName := ⟨RJ2, "charAt", "([BI)C"⟩
abbrev cJ2_checkIndex_2214a : ByteArray := prog_18_method_91_code
def yJ2_checkIndex_2214a : MethodName := ⟨RJ2, "checkIndex", "(I[B)V"⟩
def RJ10 : String := "java/lang/System"
def TJ10 : u_T := fun k => match k with
  | _ => ("", "", "", false)
def tyJ10 : Nat → FieldType := fun k => match k with
  | _ => .int
abbrev wsJ100 : List Cond := u_ws RJ10 TJ10 0
theorem nmJ10 : ∀ a, a < 0 → ∀ b, b < 0 → a ≠ b → (TJ10 a).2.1 ≠ (TJ10 b).2.1 := by decide +kernel
theorem tyJ10_ok : ∀ k, k < 0 → parseFieldDescriptor (TJ10 k).2.2.1 = some (tyJ10 k) := by decide +kernel
def RJ3 : String := "jdk/internal/util/Preconditions"
def TJ3 : u_T := fun k => match k with
  | _ => ("", "", "", false)
def tyJ3 : Nat → FieldType := fun k => match k with
  | _ => .int
abbrev wsJ30 : List Cond := u_ws RJ3 TJ3 0
theorem nmJ3 : ∀ a, a < 0 → ∀ b, b < 0 → a ≠ b → (TJ3 a).2.1 ≠ (TJ3 b).2.1 := by decide +kernel
theorem tyJ3_ok : ∀ k, k < 0 → parseFieldDescriptor (TJ3 k).2.2.1 = some (tyJ3 k) := by decide +kernel
abbrev cJ3_checkIndex_8e157 : ByteArray := prog_20_method_11_code
def yJ3_checkIndex_8e157 : MethodName := ⟨RJ3, "checkIndex", "(IILjava/util/function/BiFunction;)I"⟩
def RL : String := "OneFewerLaw"
abbrev cL_law : ByteArray := code
def yL_law : MethodName := ⟨RL, "law", "([I)Z"⟩
abbrev vwCl : List vw_C := [(RX0, TX0, 5), (RX1, TX1, 9), (RX2, TX2, 6), (RX3, TX3, 5), (RX4, TX4, 3), (RX5, TX5, 7), (RX6, TX6, 2), (RX7, TX7, 2), (RX8, TX8, 11), (RX9, TX9, 6), (RX10, TX10, 7), (RX11, TX11, 27)]
end
section
theorem dX0_init_0 : decode cX0_init 0 = .ok (.aload_n 0, 1) := by decide +kernel
theorem dX0_init_1 : decode cX0_init 1 = .ok (.invokespecial 3, 3) := by decide +kernel
theorem dX0_init_4 : decode cX0_init 4 = .ok (.aload_n 0, 1) := by decide +kernel
theorem dX0_init_5 : decode cX0_init 5 = .ok (.iconst 0, 1) := by decide +kernel
theorem dX0_init_6 : decode cX0_init 6 = .ok (.putfield 9, 3) := by decide +kernel
theorem dX0_init_9 : decode cX0_init 9 = .ok (.aload_n 0, 1) := by decide +kernel
theorem dX0_init_10 : decode cX0_init 10 = .ok (.iconst 0, 1) := by decide +kernel
theorem dX0_init_11 : decode cX0_init 11 = .ok (.putfield 15, 3) := by decide +kernel
theorem dX0_init_14 : decode cX0_init 14 = .ok (.aload_n 0, 1) := by decide +kernel
theorem dX0_init_15 : decode cX0_init 15 = .ok (.iconst 0, 1) := by decide +kernel
theorem dX0_init_16 : decode cX0_init 16 = .ok (.putfield 18, 3) := by decide +kernel
theorem dX0_init_19 : decode cX0_init 19 = .ok (.aload_n 0, 1) := by decide +kernel
theorem dX0_init_20 : decode cX0_init 20 = .ok (.iconst 0, 1) := by decide +kernel
theorem dX0_init_21 : decode cX0_init 21 = .ok (.putfield 21, 3) := by decide +kernel
theorem dX0_init_24 : decode cX0_init 24 = .ok (.aload_n 0, 1) := by decide +kernel
theorem dX0_init_25 : decode cX0_init 25 = .ok (.bipush 20, 2) := by decide +kernel
theorem dX0_init_27 : decode cX0_init 27 = .ok (.newarray .int, 2) := by decide +kernel
theorem dX0_init_29 : decode cX0_init 29 = .ok (.putfield 24, 3) := by decide +kernel
theorem dX0_init_32 : decode cX0_init 32 = .ok (.return_, 1) := by decide +kernel
theorem dX0_setOne_0 : decode cX0_setOne 0 = .ok (.aload_n 0, 1) := by decide +kernel
theorem dX0_setOne_1 : decode cX0_setOne 1 = .ok (.iload_n 1, 1) := by decide +kernel
theorem dX0_setOne_2 : decode cX0_setOne 2 = .ok (.putfield 9, 3) := by decide +kernel
theorem dX0_setOne_5 : decode cX0_setOne 5 = .ok (.aload_n 0, 1) := by decide +kernel
theorem dX0_setOne_6 : decode cX0_setOne 6 = .ok (.iload_n 2, 1) := by decide +kernel
theorem dX0_setOne_7 : decode cX0_setOne 7 = .ok (.putfield 15, 3) := by decide +kernel
theorem dX0_setOne_10 : decode cX0_setOne 10 = .ok (.aload_n 0, 1) := by decide +kernel
theorem dX0_setOne_11 : decode cX0_setOne 11 = .ok (.iload_n 3, 1) := by decide +kernel
theorem dX0_setOne_12 : decode cX0_setOne 12 = .ok (.putfield 18, 3) := by decide +kernel
theorem dX0_setOne_15 : decode cX0_setOne 15 = .ok (.return_, 1) := by decide +kernel
theorem dX0_run_0 : decode cX0_run 0 = .ok (.aload_n 0, 1) := by decide +kernel
theorem dX0_run_1 : decode cX0_run 1 = .ok (.getfield 21, 3) := by decide +kernel
theorem dX0_run_4 : decode cX0_run 4 = .ok (.bipush 20, 2) := by decide +kernel
theorem dX0_run_6 : decode cX0_run 6 = .ok (.if_icmp .ge 13, 3) := by decide +kernel
theorem dX0_run_9 : decode cX0_run 9 = .ok (.aload_n 0, 1) := by decide +kernel
theorem dX0_run_10 : decode cX0_run 10 = .ok (.getfield 24, 3) := by decide +kernel
theorem dX0_run_13 : decode cX0_run 13 = .ok (.aload_n 0, 1) := by decide +kernel
theorem dX0_run_14 : decode cX0_run 14 = .ok (.getfield 21, 3) := by decide +kernel
theorem dX0_run_17 : decode cX0_run 17 = .ok (.iload_n 1, 1) := by decide +kernel
theorem dX0_run_18 : decode cX0_run 18 = .ok (.iastore, 1) := by decide +kernel
theorem dX0_run_19 : decode cX0_run 19 = .ok (.aload_n 0, 1) := by decide +kernel
theorem dX0_run_20 : decode cX0_run 20 = .ok (.dup, 1) := by decide +kernel
theorem dX0_run_21 : decode cX0_run 21 = .ok (.getfield 21, 3) := by decide +kernel
theorem dX0_run_24 : decode cX0_run 24 = .ok (.iconst 1, 1) := by decide +kernel
theorem dX0_run_25 : decode cX0_run 25 = .ok (.iadd, 1) := by decide +kernel
theorem dX0_run_26 : decode cX0_run 26 = .ok (.putfield 21, 3) := by decide +kernel
theorem dX0_run_29 : decode cX0_run 29 = .ok (.return_, 1) := by decide +kernel
theorem dX0_hears_0 : decode cX0_hears 0 = .ok (.aload_n 0, 1) := by decide +kernel
theorem dX0_hears_1 : decode cX0_hears 1 = .ok (.getfield 9, 3) := by decide +kernel
theorem dX0_hears_4 : decode cX0_hears 4 = .ok (.iconst 1, 1) := by decide +kernel
theorem dX0_hears_5 : decode cX0_hears 5 = .ok (.invokestatic 28, 3) := by decide +kernel
theorem dX0_hears_8 : decode cX0_hears 8 = .ok (.ifCond .eq 23, 3) := by decide +kernel
theorem dX0_hears_11 : decode cX0_hears 11 = .ok (.aload_n 0, 1) := by decide +kernel
theorem dX0_hears_12 : decode cX0_hears 12 = .ok (.bipush 11, 2) := by decide +kernel
theorem dX0_hears_14 : decode cX0_hears 14 = .ok (.invokevirtual 32, 3) := by decide +kernel
theorem dX0_hears_17 : decode cX0_hears 17 = .ok (.aload_n 0, 1) := by decide +kernel
theorem dX0_hears_18 : decode cX0_hears 18 = .ok (.iconst 1, 1) := by decide +kernel
theorem dX0_hears_19 : decode cX0_hears 19 = .ok (.invokevirtual 32, 3) := by decide +kernel
theorem dX0_hears_22 : decode cX0_hears 22 = .ok (.iload_n 1, 1) := by decide +kernel
theorem dX0_hears_23 : decode cX0_hears 23 = .ok (.iconst 3, 1) := by decide +kernel
theorem dX0_hears_24 : decode cX0_hears 24 = .ok (.imul, 1) := by decide +kernel
theorem dX0_hears_25 : decode cX0_hears 25 = .ok (.aload_n 0, 1) := by decide +kernel
theorem dX0_hears_26 : decode cX0_hears 26 = .ok (.getfield 15, 3) := by decide +kernel
theorem dX0_hears_29 : decode cX0_hears 29 = .ok (.iadd, 1) := by decide +kernel
theorem dX0_hears_30 : decode cX0_hears 30 = .ok (.ireturn, 1) := by decide +kernel
theorem dX0_hears_31 : decode cX0_hears 31 = .ok (.aload_n 0, 1) := by decide +kernel
theorem dX0_hears_32 : decode cX0_hears 32 = .ok (.getfield 9, 3) := by decide +kernel
theorem dX0_hears_35 : decode cX0_hears 35 = .ok (.iconst 5, 1) := by decide +kernel
theorem dX0_hears_36 : decode cX0_hears 36 = .ok (.invokestatic 28, 3) := by decide +kernel
theorem dX0_hears_39 : decode cX0_hears 39 = .ok (.ifCond .eq 26, 3) := by decide +kernel
theorem dX0_hears_42 : decode cX0_hears 42 = .ok (.aload_n 0, 1) := by decide +kernel
theorem dX0_hears_43 : decode cX0_hears 43 = .ok (.bipush 51, 2) := by decide +kernel
theorem dX0_hears_45 : decode cX0_hears 45 = .ok (.invokevirtual 32, 3) := by decide +kernel
theorem dX0_hears_48 : decode cX0_hears 48 = .ok (.aload_n 0, 1) := by decide +kernel
theorem dX0_hears_49 : decode cX0_hears 49 = .ok (.iconst 1, 1) := by decide +kernel
theorem dX0_hears_50 : decode cX0_hears 50 = .ok (.invokevirtual 32, 3) := by decide +kernel
theorem dX0_hears_53 : decode cX0_hears 53 = .ok (.iload_n 1, 1) := by decide +kernel
theorem dX0_hears_54 : decode cX0_hears 54 = .ok (.aload_n 0, 1) := by decide +kernel
theorem dX0_hears_55 : decode cX0_hears 55 = .ok (.getfield 15, 3) := by decide +kernel
theorem dX0_hears_58 : decode cX0_hears 58 = .ok (.iadd, 1) := by decide +kernel
theorem dX0_hears_59 : decode cX0_hears 59 = .ok (.aload_n 0, 1) := by decide +kernel
theorem dX0_hears_60 : decode cX0_hears 60 = .ok (.getfield 15, 3) := by decide +kernel
theorem dX0_hears_63 : decode cX0_hears 63 = .ok (.ixor, 1) := by decide +kernel
theorem dX0_hears_64 : decode cX0_hears 64 = .ok (.ireturn, 1) := by decide +kernel
theorem dX0_hears_65 : decode cX0_hears 65 = .ok (.aload_n 0, 1) := by decide +kernel
theorem dX0_hears_66 : decode cX0_hears 66 = .ok (.iconst 1, 1) := by decide +kernel
theorem dX0_hears_67 : decode cX0_hears 67 = .ok (.invokevirtual 32, 3) := by decide +kernel
theorem dX0_hears_70 : decode cX0_hears 70 = .ok (.iload_n 1, 1) := by decide +kernel
theorem dX0_hears_71 : decode cX0_hears 71 = .ok (.aload_n 0, 1) := by decide +kernel
theorem dX0_hears_72 : decode cX0_hears 72 = .ok (.getfield 15, 3) := by decide +kernel
theorem dX0_hears_75 : decode cX0_hears 75 = .ok (.iadd, 1) := by decide +kernel
theorem dX0_hears_76 : decode cX0_hears 76 = .ok (.ireturn, 1) := by decide +kernel
theorem dX0_tells_0 : decode cX0_tells 0 = .ok (.aload_n 0, 1) := by decide +kernel
theorem dX0_tells_1 : decode cX0_tells 1 = .ok (.getfield 9, 3) := by decide +kernel
theorem dX0_tells_4 : decode cX0_tells 4 = .ok (.iconst 2, 1) := by decide +kernel
theorem dX0_tells_5 : decode cX0_tells 5 = .ok (.invokestatic 28, 3) := by decide +kernel
theorem dX0_tells_8 : decode cX0_tells 8 = .ok (.ifCond .eq 26, 3) := by decide +kernel
theorem dX0_tells_11 : decode cX0_tells 11 = .ok (.aload_n 0, 1) := by decide +kernel
theorem dX0_tells_12 : decode cX0_tells 12 = .ok (.bipush 21, 2) := by decide +kernel
theorem dX0_tells_14 : decode cX0_tells 14 = .ok (.invokevirtual 32, 3) := by decide +kernel
theorem dX0_tells_17 : decode cX0_tells 17 = .ok (.aload_n 0, 1) := by decide +kernel
theorem dX0_tells_18 : decode cX0_tells 18 = .ok (.iconst 2, 1) := by decide +kernel
theorem dX0_tells_19 : decode cX0_tells 19 = .ok (.invokevirtual 32, 3) := by decide +kernel
theorem dX0_tells_22 : decode cX0_tells 22 = .ok (.aload_n 0, 1) := by decide +kernel
theorem dX0_tells_23 : decode cX0_tells 23 = .ok (.iload_n 1, 1) := by decide +kernel
theorem dX0_tells_24 : decode cX0_tells 24 = .ok (.invokevirtual 36, 3) := by decide +kernel
theorem dX0_tells_27 : decode cX0_tells 27 = .ok (.aload_n 0, 1) := by decide +kernel
theorem dX0_tells_28 : decode cX0_tells 28 = .ok (.getfield 18, 3) := by decide +kernel
theorem dX0_tells_31 : decode cX0_tells 31 = .ok (.isub, 1) := by decide +kernel
theorem dX0_tells_32 : decode cX0_tells 32 = .ok (.ineg, 1) := by decide +kernel
theorem dX0_tells_33 : decode cX0_tells 33 = .ok (.ireturn, 1) := by decide +kernel
theorem dX0_tells_34 : decode cX0_tells 34 = .ok (.aload_n 0, 1) := by decide +kernel
theorem dX0_tells_35 : decode cX0_tells 35 = .ok (.getfield 9, 3) := by decide +kernel
theorem dX0_tells_38 : decode cX0_tells 38 = .ok (.bipush 6, 2) := by decide +kernel
theorem dX0_tells_40 : decode cX0_tells 40 = .ok (.invokestatic 28, 3) := by decide +kernel
theorem dX0_tells_43 : decode cX0_tells 43 = .ok (.ifCond .eq 30, 3) := by decide +kernel
theorem dX0_tells_46 : decode cX0_tells 46 = .ok (.aload_n 0, 1) := by decide +kernel
theorem dX0_tells_47 : decode cX0_tells 47 = .ok (.bipush 61, 2) := by decide +kernel
theorem dX0_tells_49 : decode cX0_tells 49 = .ok (.invokevirtual 32, 3) := by decide +kernel
theorem dX0_tells_52 : decode cX0_tells 52 = .ok (.aload_n 0, 1) := by decide +kernel
theorem dX0_tells_53 : decode cX0_tells 53 = .ok (.iconst 2, 1) := by decide +kernel
theorem dX0_tells_54 : decode cX0_tells 54 = .ok (.invokevirtual 32, 3) := by decide +kernel
theorem dX0_tells_57 : decode cX0_tells 57 = .ok (.aload_n 0, 1) := by decide +kernel
theorem dX0_tells_58 : decode cX0_tells 58 = .ok (.iload_n 1, 1) := by decide +kernel
theorem dX0_tells_59 : decode cX0_tells 59 = .ok (.invokevirtual 36, 3) := by decide +kernel
theorem dX0_tells_62 : decode cX0_tells 62 = .ok (.aload_n 0, 1) := by decide +kernel
theorem dX0_tells_63 : decode cX0_tells 63 = .ok (.getfield 18, 3) := by decide +kernel
theorem dX0_tells_66 : decode cX0_tells 66 = .ok (.isub, 1) := by decide +kernel
theorem dX0_tells_67 : decode cX0_tells 67 = .ok (.aload_n 0, 1) := by decide +kernel
theorem dX0_tells_68 : decode cX0_tells 68 = .ok (.getfield 18, 3) := by decide +kernel
theorem dX0_tells_71 : decode cX0_tells 71 = .ok (.iadd, 1) := by decide +kernel
theorem dX0_tells_72 : decode cX0_tells 72 = .ok (.ireturn, 1) := by decide +kernel
theorem dX0_tells_73 : decode cX0_tells 73 = .ok (.aload_n 0, 1) := by decide +kernel
theorem dX0_tells_74 : decode cX0_tells 74 = .ok (.iconst 2, 1) := by decide +kernel
theorem dX0_tells_75 : decode cX0_tells 75 = .ok (.invokevirtual 32, 3) := by decide +kernel
theorem dX0_tells_78 : decode cX0_tells 78 = .ok (.aload_n 0, 1) := by decide +kernel
theorem dX0_tells_79 : decode cX0_tells 79 = .ok (.iload_n 1, 1) := by decide +kernel
theorem dX0_tells_80 : decode cX0_tells 80 = .ok (.invokevirtual 36, 3) := by decide +kernel
theorem dX0_tells_83 : decode cX0_tells 83 = .ok (.aload_n 0, 1) := by decide +kernel
theorem dX0_tells_84 : decode cX0_tells 84 = .ok (.getfield 18, 3) := by decide +kernel
theorem dX0_tells_87 : decode cX0_tells 87 = .ok (.isub, 1) := by decide +kernel
theorem dX0_tells_88 : decode cX0_tells 88 = .ok (.ireturn, 1) := by decide +kernel
theorem dX0_pays_0 : decode cX0_pays 0 = .ok (.aload_n 0, 1) := by decide +kernel
theorem dX0_pays_1 : decode cX0_pays 1 = .ok (.getfield 9, 3) := by decide +kernel
theorem dX0_pays_4 : decode cX0_pays 4 = .ok (.iconst 3, 1) := by decide +kernel
theorem dX0_pays_5 : decode cX0_pays 5 = .ok (.invokestatic 28, 3) := by decide +kernel
theorem dX0_pays_8 : decode cX0_pays 8 = .ok (.ifCond .eq 25, 3) := by decide +kernel
theorem dX0_pays_11 : decode cX0_pays 11 = .ok (.aload_n 0, 1) := by decide +kernel
theorem dX0_pays_12 : decode cX0_pays 12 = .ok (.bipush 31, 2) := by decide +kernel
theorem dX0_pays_14 : decode cX0_pays 14 = .ok (.invokevirtual 32, 3) := by decide +kernel
theorem dX0_pays_17 : decode cX0_pays 17 = .ok (.aload_n 0, 1) := by decide +kernel
theorem dX0_pays_18 : decode cX0_pays 18 = .ok (.iconst 3, 1) := by decide +kernel
theorem dX0_pays_19 : decode cX0_pays 19 = .ok (.invokevirtual 32, 3) := by decide +kernel
theorem dX0_pays_22 : decode cX0_pays 22 = .ok (.aload_n 0, 1) := by decide +kernel
theorem dX0_pays_23 : decode cX0_pays 23 = .ok (.iload_n 1, 1) := by decide +kernel
theorem dX0_pays_24 : decode cX0_pays 24 = .ok (.invokevirtual 40, 3) := by decide +kernel
theorem dX0_pays_27 : decode cX0_pays 27 = .ok (.iconst 2, 1) := by decide +kernel
theorem dX0_pays_28 : decode cX0_pays 28 = .ok (.imul, 1) := by decide +kernel
theorem dX0_pays_29 : decode cX0_pays 29 = .ok (.bipush 7, 2) := by decide +kernel
theorem dX0_pays_31 : decode cX0_pays 31 = .ok (.ixor, 1) := by decide +kernel
theorem dX0_pays_32 : decode cX0_pays 32 = .ok (.ireturn, 1) := by decide +kernel
theorem dX0_pays_33 : decode cX0_pays 33 = .ok (.aload_n 0, 1) := by decide +kernel
theorem dX0_pays_34 : decode cX0_pays 34 = .ok (.getfield 9, 3) := by decide +kernel
theorem dX0_pays_37 : decode cX0_pays 37 = .ok (.iconst 4, 1) := by decide +kernel
theorem dX0_pays_38 : decode cX0_pays 38 = .ok (.invokestatic 28, 3) := by decide +kernel
theorem dX0_pays_41 : decode cX0_pays 41 = .ok (.ifCond .eq 30, 3) := by decide +kernel
theorem dX0_pays_44 : decode cX0_pays 44 = .ok (.aload_n 0, 1) := by decide +kernel
theorem dX0_pays_45 : decode cX0_pays 45 = .ok (.bipush 41, 2) := by decide +kernel
theorem dX0_pays_47 : decode cX0_pays 47 = .ok (.invokevirtual 32, 3) := by decide +kernel
theorem dX0_pays_50 : decode cX0_pays 50 = .ok (.aload_n 0, 1) := by decide +kernel
theorem dX0_pays_51 : decode cX0_pays 51 = .ok (.iconst 3, 1) := by decide +kernel
theorem dX0_pays_52 : decode cX0_pays 52 = .ok (.invokevirtual 32, 3) := by decide +kernel
theorem dX0_pays_55 : decode cX0_pays 55 = .ok (.aload_n 0, 1) := by decide +kernel
theorem dX0_pays_56 : decode cX0_pays 56 = .ok (.iload_n 1, 1) := by decide +kernel
theorem dX0_pays_57 : decode cX0_pays 57 = .ok (.iconst 1, 1) := by decide +kernel
theorem dX0_pays_58 : decode cX0_pays 58 = .ok (.isub, 1) := by decide +kernel
theorem dX0_pays_59 : decode cX0_pays 59 = .ok (.invokevirtual 40, 3) := by decide +kernel
theorem dX0_pays_62 : decode cX0_pays 62 = .ok (.iconst 2, 1) := by decide +kernel
theorem dX0_pays_63 : decode cX0_pays 63 = .ok (.imul, 1) := by decide +kernel
theorem dX0_pays_64 : decode cX0_pays 64 = .ok (.aload_n 0, 1) := by decide +kernel
theorem dX0_pays_65 : decode cX0_pays 65 = .ok (.iconst 2, 1) := by decide +kernel
theorem dX0_pays_66 : decode cX0_pays 66 = .ok (.invokevirtual 36, 3) := by decide +kernel
theorem dX0_pays_69 : decode cX0_pays 69 = .ok (.iadd, 1) := by decide +kernel
theorem dX0_pays_70 : decode cX0_pays 70 = .ok (.ireturn, 1) := by decide +kernel
theorem dX0_pays_71 : decode cX0_pays 71 = .ok (.aload_n 0, 1) := by decide +kernel
theorem dX0_pays_72 : decode cX0_pays 72 = .ok (.iconst 3, 1) := by decide +kernel
theorem dX0_pays_73 : decode cX0_pays 73 = .ok (.invokevirtual 32, 3) := by decide +kernel
theorem dX0_pays_76 : decode cX0_pays 76 = .ok (.aload_n 0, 1) := by decide +kernel
theorem dX0_pays_77 : decode cX0_pays 77 = .ok (.iload_n 1, 1) := by decide +kernel
theorem dX0_pays_78 : decode cX0_pays 78 = .ok (.invokevirtual 40, 3) := by decide +kernel
theorem dX0_pays_81 : decode cX0_pays 81 = .ok (.iconst 2, 1) := by decide +kernel
theorem dX0_pays_82 : decode cX0_pays 82 = .ok (.imul, 1) := by decide +kernel
theorem dX0_pays_83 : decode cX0_pays 83 = .ok (.ireturn, 1) := by decide +kernel
theorem dX1_init_0 : decode cX1_init 0 = .ok (.aload_n 0, 1) := by decide +kernel
theorem dX1_init_1 : decode cX1_init 1 = .ok (.invokespecial 3, 3) := by decide +kernel
theorem dX1_init_4 : decode cX1_init 4 = .ok (.aload_n 0, 1) := by decide +kernel
theorem dX1_init_5 : decode cX1_init 5 = .ok (.new 9, 3) := by decide +kernel
theorem dX1_init_8 : decode cX1_init 8 = .ok (.dup, 1) := by decide +kernel
theorem dX1_init_9 : decode cX1_init 9 = .ok (.invokespecial 11, 3) := by decide +kernel
theorem dX1_init_12 : decode cX1_init 12 = .ok (.putfield 12, 3) := by decide +kernel
theorem dX1_init_15 : decode cX1_init 15 = .ok (.aload_n 0, 1) := by decide +kernel
theorem dX1_init_16 : decode cX1_init 16 = .ok (.new 18, 3) := by decide +kernel
theorem dX1_init_19 : decode cX1_init 19 = .ok (.dup, 1) := by decide +kernel
theorem dX1_init_20 : decode cX1_init 20 = .ok (.invokespecial 20, 3) := by decide +kernel
theorem dX1_init_23 : decode cX1_init 23 = .ok (.putfield 21, 3) := by decide +kernel
theorem dX1_init_26 : decode cX1_init 26 = .ok (.aload_n 0, 1) := by decide +kernel
theorem dX1_init_27 : decode cX1_init 27 = .ok (.iconst (-1), 1) := by decide +kernel
theorem dX1_init_28 : decode cX1_init 28 = .ok (.putfield 25, 3) := by decide +kernel
theorem dX1_init_31 : decode cX1_init 31 = .ok (.aload_n 0, 1) := by decide +kernel
theorem dX1_init_32 : decode cX1_init 32 = .ok (.iconst 0, 1) := by decide +kernel
theorem dX1_init_33 : decode cX1_init 33 = .ok (.putfield 29, 3) := by decide +kernel
theorem dX1_init_36 : decode cX1_init 36 = .ok (.aload_n 0, 1) := by decide +kernel
theorem dX1_init_37 : decode cX1_init 37 = .ok (.iconst 0, 1) := by decide +kernel
theorem dX1_init_38 : decode cX1_init 38 = .ok (.putfield 32, 3) := by decide +kernel
theorem dX1_init_41 : decode cX1_init 41 = .ok (.aload_n 0, 1) := by decide +kernel
theorem dX1_init_42 : decode cX1_init 42 = .ok (.iconst 0, 1) := by decide +kernel
theorem dX1_init_43 : decode cX1_init 43 = .ok (.putfield 35, 3) := by decide +kernel
theorem dX1_init_46 : decode cX1_init 46 = .ok (.aload_n 0, 1) := by decide +kernel
theorem dX1_init_47 : decode cX1_init 47 = .ok (.iconst 0, 1) := by decide +kernel
theorem dX1_init_48 : decode cX1_init 48 = .ok (.putfield 38, 3) := by decide +kernel
theorem dX1_init_51 : decode cX1_init 51 = .ok (.aload_n 0, 1) := by decide +kernel
theorem dX1_init_52 : decode cX1_init 52 = .ok (.iconst 0, 1) := by decide +kernel
theorem dX1_init_53 : decode cX1_init 53 = .ok (.putfield 41, 3) := by decide +kernel
theorem dX1_init_56 : decode cX1_init 56 = .ok (.aload_n 0, 1) := by decide +kernel
theorem dX1_init_57 : decode cX1_init 57 = .ok (.bipush (-5), 2) := by decide +kernel
theorem dX1_init_59 : decode cX1_init 59 = .ok (.putfield 44, 3) := by decide +kernel
theorem dX1_init_62 : decode cX1_init 62 = .ok (.return_, 1) := by decide +kernel
theorem dX1_findBest_0 : decode cX1_findBest 0 = .ok (.aload_n 0, 1) := by decide +kernel
theorem dX1_findBest_1 : decode cX1_findBest 1 = .ok (.iconst (-1), 1) := by decide +kernel
theorem dX1_findBest_2 : decode cX1_findBest 2 = .ok (.putfield 25, 3) := by decide +kernel
theorem dX1_findBest_5 : decode cX1_findBest 5 = .ok (.iconst 0, 1) := by decide +kernel
theorem dX1_findBest_6 : decode cX1_findBest 6 = .ok (.istore_n 2, 1) := by decide +kernel
theorem dX1_findBest_7 : decode cX1_findBest 7 = .ok (.iload_n 2, 1) := by decide +kernel
theorem dX1_findBest_8 : decode cX1_findBest 8 = .ok (.aload_n 0, 1) := by decide +kernel
theorem dX1_findBest_9 : decode cX1_findBest 9 = .ok (.getfield 12, 3) := by decide +kernel
theorem dX1_findBest_12 : decode cX1_findBest 12 = .ok (.getfield 47, 3) := by decide +kernel
theorem dX1_findBest_15 : decode cX1_findBest 15 = .ok (.getfield 51, 3) := by decide +kernel
theorem dX1_findBest_18 : decode cX1_findBest 18 = .ok (.getfield 57, 3) := by decide +kernel
theorem dX1_findBest_21 : decode cX1_findBest 21 = .ok (.if_icmp .ge 128, 3) := by decide +kernel
theorem dX1_findBest_24 : decode cX1_findBest 24 = .ok (.aload_n 0, 1) := by decide +kernel
theorem dX1_findBest_25 : decode cX1_findBest 25 = .ok (.getfield 21, 3) := by decide +kernel
theorem dX1_findBest_28 : decode cX1_findBest 28 = .ok (.iload_n 2, 1) := by decide +kernel
theorem dX1_findBest_29 : decode cX1_findBest 29 = .ok (.iload_n 1, 1) := by decide +kernel
theorem dX1_findBest_30 : decode cX1_findBest 30 = .ok (.aload_n 0, 1) := by decide +kernel
theorem dX1_findBest_31 : decode cX1_findBest 31 = .ok (.getfield 12, 3) := by decide +kernel
theorem dX1_findBest_34 : decode cX1_findBest 34 = .ok (.getfield 47, 3) := by decide +kernel
theorem dX1_findBest_37 : decode cX1_findBest 37 = .ok (.getfield 62, 3) := by decide +kernel
theorem dX1_findBest_40 : decode cX1_findBest 40 = .ok (.getfield 65, 3) := by decide +kernel
theorem dX1_findBest_43 : decode cX1_findBest 43 = .ok (.invokevirtual 68, 3) := by decide +kernel
theorem dX1_findBest_46 : decode cX1_findBest 46 = .ok (.aload_n 0, 1) := by decide +kernel
theorem dX1_findBest_47 : decode cX1_findBest 47 = .ok (.getfield 12, 3) := by decide +kernel
theorem dX1_findBest_50 : decode cX1_findBest 50 = .ok (.aload_n 0, 1) := by decide +kernel
theorem dX1_findBest_51 : decode cX1_findBest 51 = .ok (.getfield 21, 3) := by decide +kernel
theorem dX1_findBest_54 : decode cX1_findBest 54 = .ok (.iconst (-1), 1) := by decide +kernel
theorem dX1_findBest_55 : decode cX1_findBest 55 = .ok (.iconst 0, 1) := by decide +kernel
theorem dX1_findBest_56 : decode cX1_findBest 56 = .ok (.iconst (-1), 1) := by decide +kernel
theorem dX1_findBest_57 : decode cX1_findBest 57 = .ok (.invokevirtual 72, 3) := by decide +kernel
theorem dX1_findBest_60 : decode cX1_findBest 60 = .ok (.pop, 1) := by decide +kernel
theorem dX1_findBest_61 : decode cX1_findBest 61 = .ok (.aload_n 0, 1) := by decide +kernel
theorem dX1_findBest_62 : decode cX1_findBest 62 = .ok (.getfield 21, 3) := by decide +kernel
theorem dX1_findBest_65 : decode cX1_findBest 65 = .ok (.getfield 76, 3) := by decide +kernel
theorem dX1_findBest_68 : decode cX1_findBest 68 = .ok (.invokestatic 79, 3) := by decide +kernel
theorem dX1_findBest_71 : decode cX1_findBest 71 = .ok (.istore_n 3, 1) := by decide +kernel
theorem dX1_findBest_72 : decode cX1_findBest 72 = .ok (.iload_n 3, 1) := by decide +kernel
theorem dX1_findBest_73 : decode cX1_findBest 73 = .ok (.aload_n 0, 1) := by decide +kernel
theorem dX1_findBest_74 : decode cX1_findBest 74 = .ok (.getfield 29, 3) := by decide +kernel
theorem dX1_findBest_77 : decode cX1_findBest 77 = .ok (.if_icmp .gt 25, 3) := by decide +kernel
theorem dX1_findBest_80 : decode cX1_findBest 80 = .ok (.iload_n 3, 1) := by decide +kernel
theorem dX1_findBest_81 : decode cX1_findBest 81 = .ok (.aload_n 0, 1) := by decide +kernel
theorem dX1_findBest_82 : decode cX1_findBest 82 = .ok (.getfield 29, 3) := by decide +kernel
theorem dX1_findBest_85 : decode cX1_findBest 85 = .ok (.if_icmp .ne 21, 3) := by decide +kernel
theorem dX1_findBest_88 : decode cX1_findBest 88 = .ok (.aload_n 0, 1) := by decide +kernel
theorem dX1_findBest_89 : decode cX1_findBest 89 = .ok (.getfield 21, 3) := by decide +kernel
theorem dX1_findBest_92 : decode cX1_findBest 92 = .ok (.getfield 85, 3) := by decide +kernel
theorem dX1_findBest_95 : decode cX1_findBest 95 = .ok (.aload_n 0, 1) := by decide +kernel
theorem dX1_findBest_96 : decode cX1_findBest 96 = .ok (.getfield 32, 3) := by decide +kernel
theorem dX1_findBest_99 : decode cX1_findBest 99 = .ok (.if_icmp .ge 7, 3) := by decide +kernel
theorem dX1_findBest_102 : decode cX1_findBest 102 = .ok (.iconst 1, 1) := by decide +kernel
theorem dX1_findBest_103 : decode cX1_findBest 103 = .ok (.goto 4, 3) := by decide +kernel
theorem dX1_findBest_106 : decode cX1_findBest 106 = .ok (.iconst 0, 1) := by decide +kernel
theorem dX1_findBest_107 : decode cX1_findBest 107 = .ok (.istore 4, 2) := by decide +kernel
theorem dX1_findBest_109 : decode cX1_findBest 109 = .ok (.aload_n 0, 1) := by decide +kernel
theorem dX1_findBest_110 : decode cX1_findBest 110 = .ok (.getfield 25, 3) := by decide +kernel
theorem dX1_findBest_113 : decode cX1_findBest 113 = .ok (.iconst (-1), 1) := by decide +kernel
theorem dX1_findBest_114 : decode cX1_findBest 114 = .ok (.if_icmp .eq 8, 3) := by decide +kernel
theorem dX1_findBest_117 : decode cX1_findBest 117 = .ok (.iload 4, 2) := by decide +kernel
theorem dX1_findBest_119 : decode cX1_findBest 119 = .ok (.ifCond .eq 24, 3) := by decide +kernel
theorem dX1_findBest_122 : decode cX1_findBest 122 = .ok (.aload_n 0, 1) := by decide +kernel
theorem dX1_findBest_123 : decode cX1_findBest 123 = .ok (.iload_n 2, 1) := by decide +kernel
theorem dX1_findBest_124 : decode cX1_findBest 124 = .ok (.putfield 25, 3) := by decide +kernel
theorem dX1_findBest_127 : decode cX1_findBest 127 = .ok (.aload_n 0, 1) := by decide +kernel
theorem dX1_findBest_128 : decode cX1_findBest 128 = .ok (.iload_n 3, 1) := by decide +kernel
theorem dX1_findBest_129 : decode cX1_findBest 129 = .ok (.putfield 29, 3) := by decide +kernel
theorem dX1_findBest_132 : decode cX1_findBest 132 = .ok (.aload_n 0, 1) := by decide +kernel
theorem dX1_findBest_133 : decode cX1_findBest 133 = .ok (.aload_n 0, 1) := by decide +kernel
theorem dX1_findBest_134 : decode cX1_findBest 134 = .ok (.getfield 21, 3) := by decide +kernel
theorem dX1_findBest_137 : decode cX1_findBest 137 = .ok (.getfield 85, 3) := by decide +kernel
theorem dX1_findBest_140 : decode cX1_findBest 140 = .ok (.putfield 32, 3) := by decide +kernel
theorem dX1_findBest_143 : decode cX1_findBest 143 = .ok (.iinc 2 1, 3) := by decide +kernel
theorem dX1_findBest_146 : decode cX1_findBest 146 = .ok (.goto (-139), 3) := by decide +kernel
theorem dX1_findBest_149 : decode cX1_findBest 149 = .ok (.return_, 1) := by decide +kernel
theorem dX1_isChoosable_0 : decode cX1_isChoosable 0 = .ok (.iload_n 3, 1) := by decide +kernel
theorem dX1_isChoosable_1 : decode cX1_isChoosable 1 = .ok (.iload_n 2, 1) := by decide +kernel
theorem dX1_isChoosable_2 : decode cX1_isChoosable 2 = .ok (.invokestatic 79, 3) := by decide +kernel
theorem dX1_isChoosable_5 : decode cX1_isChoosable 5 = .ok (.invokestatic 88, 3) := by decide +kernel
theorem dX1_isChoosable_8 : decode cX1_isChoosable 8 = .ok (.istore 4, 2) := by decide +kernel
theorem dX1_isChoosable_10 : decode cX1_isChoosable 10 = .ok (.iload_n 1, 1) := by decide +kernel
theorem dX1_isChoosable_11 : decode cX1_isChoosable 11 = .ok (.iload_n 2, 1) := by decide +kernel
theorem dX1_isChoosable_12 : decode cX1_isChoosable 12 = .ok (.iconst (-1), 1) := by decide +kernel
theorem dX1_isChoosable_13 : decode cX1_isChoosable 13 = .ok (.ixor, 1) := by decide +kernel
theorem dX1_isChoosable_14 : decode cX1_isChoosable 14 = .ok (.iand, 1) := by decide +kernel
theorem dX1_isChoosable_15 : decode cX1_isChoosable 15 = .ok (.ifCond .ne 16, 3) := by decide +kernel
theorem dX1_isChoosable_18 : decode cX1_isChoosable 18 = .ok (.iload_n 1, 1) := by decide +kernel
theorem dX1_isChoosable_19 : decode cX1_isChoosable 19 = .ok (.invokestatic 79, 3) := by decide +kernel
theorem dX1_isChoosable_22 : decode cX1_isChoosable 22 = .ok (.iload 4, 2) := by decide +kernel
theorem dX1_isChoosable_24 : decode cX1_isChoosable 24 = .ok (.if_icmp .ne 7, 3) := by decide +kernel
theorem dX1_isChoosable_27 : decode cX1_isChoosable 27 = .ok (.iconst 1, 1) := by decide +kernel
theorem dX1_isChoosable_28 : decode cX1_isChoosable 28 = .ok (.goto 4, 3) := by decide +kernel
theorem dX1_isChoosable_31 : decode cX1_isChoosable 31 = .ok (.iconst 0, 1) := by decide +kernel
theorem dX1_isChoosable_32 : decode cX1_isChoosable 32 = .ok (.ireturn, 1) := by decide +kernel
theorem dX1_findChoice_0 : decode cX1_findChoice 0 = .ok (.aload_n 0, 1) := by decide +kernel
theorem dX1_findChoice_1 : decode cX1_findChoice 1 = .ok (.getfield 12, 3) := by decide +kernel
theorem dX1_findChoice_4 : decode cX1_findChoice 4 = .ok (.getfield 47, 3) := by decide +kernel
theorem dX1_findChoice_7 : decode cX1_findChoice 7 = .ok (.getfield 62, 3) := by decide +kernel
theorem dX1_findChoice_10 : decode cX1_findChoice 10 = .ok (.astore_n 2, 1) := by decide +kernel
theorem dX1_findChoice_11 : decode cX1_findChoice 11 = .ok (.aload_n 0, 1) := by decide +kernel
theorem dX1_findChoice_12 : decode cX1_findChoice 12 = .ok (.getfield 12, 3) := by decide +kernel
theorem dX1_findChoice_15 : decode cX1_findChoice 15 = .ok (.aload_n 2, 1) := by decide +kernel
theorem dX1_findChoice_16 : decode cX1_findChoice 16 = .ok (.iload_n 1, 1) := by decide +kernel
theorem dX1_findChoice_17 : decode cX1_findChoice 17 = .ok (.invokevirtual 94, 3) := by decide +kernel
theorem dX1_findChoice_20 : decode cX1_findChoice 20 = .ok (.istore_n 3, 1) := by decide +kernel
theorem dX1_findChoice_21 : decode cX1_findChoice 21 = .ok (.aload_n 0, 1) := by decide +kernel
theorem dX1_findChoice_22 : decode cX1_findChoice 22 = .ok (.getfield 12, 3) := by decide +kernel
theorem dX1_findChoice_25 : decode cX1_findChoice 25 = .ok (.aload_n 2, 1) := by decide +kernel
theorem dX1_findChoice_26 : decode cX1_findChoice 26 = .ok (.iload_n 1, 1) := by decide +kernel
theorem dX1_findChoice_27 : decode cX1_findChoice 27 = .ok (.invokevirtual 98, 3) := by decide +kernel
theorem dX1_findChoice_30 : decode cX1_findChoice 30 = .ok (.istore 4, 2) := by decide +kernel
theorem dX1_findChoice_32 : decode cX1_findChoice 32 = .ok (.aload_n 0, 1) := by decide +kernel
theorem dX1_findChoice_33 : decode cX1_findChoice 33 = .ok (.iconst 0, 1) := by decide +kernel
theorem dX1_findChoice_34 : decode cX1_findChoice 34 = .ok (.putfield 35, 3) := by decide +kernel
theorem dX1_findChoice_37 : decode cX1_findChoice 37 = .ok (.aload_n 0, 1) := by decide +kernel
theorem dX1_findChoice_38 : decode cX1_findChoice 38 = .ok (.iconst (-1), 1) := by decide +kernel
theorem dX1_findChoice_39 : decode cX1_findChoice 39 = .ok (.putfield 38, 3) := by decide +kernel
theorem dX1_findChoice_42 : decode cX1_findChoice 42 = .ok (.iconst 0, 1) := by decide +kernel
theorem dX1_findChoice_43 : decode cX1_findChoice 43 = .ok (.istore 5, 2) := by decide +kernel
theorem dX1_findChoice_45 : decode cX1_findChoice 45 = .ok (.iload 5, 2) := by decide +kernel
theorem dX1_findChoice_47 : decode cX1_findChoice 47 = .ok (.sipush 128, 3) := by decide +kernel
theorem dX1_findChoice_50 : decode cX1_findChoice 50 = .ok (.if_icmp .ge 78, 3) := by decide +kernel
theorem dX1_findChoice_53 : decode cX1_findChoice 53 = .ok (.aload_n 0, 1) := by decide +kernel
theorem dX1_findChoice_54 : decode cX1_findChoice 54 = .ok (.iload 5, 2) := by decide +kernel
theorem dX1_findChoice_56 : decode cX1_findChoice 56 = .ok (.iload_n 3, 1) := by decide +kernel
theorem dX1_findChoice_57 : decode cX1_findChoice 57 = .ok (.iload 4, 2) := by decide +kernel
theorem dX1_findChoice_59 : decode cX1_findChoice 59 = .ok (.invokevirtual 101, 3) := by decide +kernel
theorem dX1_findChoice_62 : decode cX1_findChoice 62 = .ok (.ifCond .eq 60, 3) := by decide +kernel
theorem dX1_findChoice_65 : decode cX1_findChoice 65 = .ok (.aload_n 0, 1) := by decide +kernel
theorem dX1_findChoice_66 : decode cX1_findChoice 66 = .ok (.getfield 21, 3) := by decide +kernel
theorem dX1_findChoice_69 : decode cX1_findChoice 69 = .ok (.aload_n 2, 1) := by decide +kernel
theorem dX1_findChoice_70 : decode cX1_findChoice 70 = .ok (.invokevirtual 105, 3) := by decide +kernel
theorem dX1_findChoice_73 : decode cX1_findChoice 73 = .ok (.aload_n 0, 1) := by decide +kernel
theorem dX1_findChoice_74 : decode cX1_findChoice 74 = .ok (.getfield 12, 3) := by decide +kernel
theorem dX1_findChoice_77 : decode cX1_findChoice 77 = .ok (.aload_n 0, 1) := by decide +kernel
theorem dX1_findChoice_78 : decode cX1_findChoice 78 = .ok (.getfield 21, 3) := by decide +kernel
theorem dX1_findChoice_81 : decode cX1_findChoice 81 = .ok (.iload_n 1, 1) := by decide +kernel
theorem dX1_findChoice_82 : decode cX1_findChoice 82 = .ok (.iload 5, 2) := by decide +kernel
theorem dX1_findChoice_84 : decode cX1_findChoice 84 = .ok (.iconst (-1), 1) := by decide +kernel
theorem dX1_findChoice_85 : decode cX1_findChoice 85 = .ok (.invokevirtual 72, 3) := by decide +kernel
theorem dX1_findChoice_88 : decode cX1_findChoice 88 = .ok (.pop, 1) := by decide +kernel
theorem dX1_findChoice_89 : decode cX1_findChoice 89 = .ok (.aload_n 0, 1) := by decide +kernel
theorem dX1_findChoice_90 : decode cX1_findChoice 90 = .ok (.getfield 21, 3) := by decide +kernel
theorem dX1_findChoice_93 : decode cX1_findChoice 93 = .ok (.getfield 76, 3) := by decide +kernel
theorem dX1_findChoice_96 : decode cX1_findChoice 96 = .ok (.invokestatic 79, 3) := by decide +kernel
theorem dX1_findChoice_99 : decode cX1_findChoice 99 = .ok (.istore 6, 2) := by decide +kernel
theorem dX1_findChoice_101 : decode cX1_findChoice 101 = .ok (.iload 6, 2) := by decide +kernel
theorem dX1_findChoice_103 : decode cX1_findChoice 103 = .ok (.aload_n 0, 1) := by decide +kernel
theorem dX1_findChoice_104 : decode cX1_findChoice 104 = .ok (.getfield 38, 3) := by decide +kernel
theorem dX1_findChoice_107 : decode cX1_findChoice 107 = .ok (.if_icmp .le 15, 3) := by decide +kernel
theorem dX1_findChoice_110 : decode cX1_findChoice 110 = .ok (.aload_n 0, 1) := by decide +kernel
theorem dX1_findChoice_111 : decode cX1_findChoice 111 = .ok (.iload 5, 2) := by decide +kernel
theorem dX1_findChoice_113 : decode cX1_findChoice 113 = .ok (.putfield 35, 3) := by decide +kernel
theorem dX1_findChoice_116 : decode cX1_findChoice 116 = .ok (.aload_n 0, 1) := by decide +kernel
theorem dX1_findChoice_117 : decode cX1_findChoice 117 = .ok (.iload 6, 2) := by decide +kernel
theorem dX1_findChoice_119 : decode cX1_findChoice 119 = .ok (.putfield 38, 3) := by decide +kernel
theorem dX1_findChoice_122 : decode cX1_findChoice 122 = .ok (.iinc 5 1, 3) := by decide +kernel
theorem dX1_findChoice_125 : decode cX1_findChoice 125 = .ok (.goto (-80), 3) := by decide +kernel
theorem dX1_findChoice_128 : decode cX1_findChoice 128 = .ok (.return_, 1) := by decide +kernel
theorem dX1_findReach_0 : decode cX1_findReach 0 = .ok (.aload_n 0, 1) := by decide +kernel
theorem dX1_findReach_1 : decode cX1_findReach 1 = .ok (.getfield 12, 3) := by decide +kernel
theorem dX1_findReach_4 : decode cX1_findReach 4 = .ok (.getfield 47, 3) := by decide +kernel
theorem dX1_findReach_7 : decode cX1_findReach 7 = .ok (.getfield 62, 3) := by decide +kernel
theorem dX1_findReach_10 : decode cX1_findReach 10 = .ok (.astore_n 3, 1) := by decide +kernel
theorem dX1_findReach_11 : decode cX1_findReach 11 = .ok (.aload_n 0, 1) := by decide +kernel
theorem dX1_findReach_12 : decode cX1_findReach 12 = .ok (.getfield 12, 3) := by decide +kernel
theorem dX1_findReach_15 : decode cX1_findReach 15 = .ok (.aload_n 3, 1) := by decide +kernel
theorem dX1_findReach_16 : decode cX1_findReach 16 = .ok (.iload_n 1, 1) := by decide +kernel
theorem dX1_findReach_17 : decode cX1_findReach 17 = .ok (.invokevirtual 94, 3) := by decide +kernel
theorem dX1_findReach_20 : decode cX1_findReach 20 = .ok (.istore 4, 2) := by decide +kernel
theorem dX1_findReach_22 : decode cX1_findReach 22 = .ok (.aload_n 0, 1) := by decide +kernel
theorem dX1_findReach_23 : decode cX1_findReach 23 = .ok (.getfield 12, 3) := by decide +kernel
theorem dX1_findReach_26 : decode cX1_findReach 26 = .ok (.aload_n 3, 1) := by decide +kernel
theorem dX1_findReach_27 : decode cX1_findReach 27 = .ok (.iload_n 1, 1) := by decide +kernel
theorem dX1_findReach_28 : decode cX1_findReach 28 = .ok (.invokevirtual 98, 3) := by decide +kernel
theorem dX1_findReach_31 : decode cX1_findReach 31 = .ok (.istore 5, 2) := by decide +kernel
theorem dX1_findReach_33 : decode cX1_findReach 33 = .ok (.iconst 0, 1) := by decide +kernel
theorem dX1_findReach_34 : decode cX1_findReach 34 = .ok (.istore 6, 2) := by decide +kernel
theorem dX1_findReach_36 : decode cX1_findReach 36 = .ok (.iload 6, 2) := by decide +kernel
theorem dX1_findReach_38 : decode cX1_findReach 38 = .ok (.sipush 128, 3) := by decide +kernel
theorem dX1_findReach_41 : decode cX1_findReach 41 = .ok (.if_icmp .ge 63, 3) := by decide +kernel
theorem dX1_findReach_44 : decode cX1_findReach 44 = .ok (.aload_n 0, 1) := by decide +kernel
theorem dX1_findReach_45 : decode cX1_findReach 45 = .ok (.iload 6, 2) := by decide +kernel
theorem dX1_findReach_47 : decode cX1_findReach 47 = .ok (.iload 4, 2) := by decide +kernel
theorem dX1_findReach_49 : decode cX1_findReach 49 = .ok (.iload 5, 2) := by decide +kernel
theorem dX1_findReach_51 : decode cX1_findReach 51 = .ok (.invokevirtual 101, 3) := by decide +kernel
theorem dX1_findReach_54 : decode cX1_findReach 54 = .ok (.ifCond .eq 44, 3) := by decide +kernel
theorem dX1_findReach_57 : decode cX1_findReach 57 = .ok (.aload_n 0, 1) := by decide +kernel
theorem dX1_findReach_58 : decode cX1_findReach 58 = .ok (.getfield 21, 3) := by decide +kernel
theorem dX1_findReach_61 : decode cX1_findReach 61 = .ok (.aload_n 3, 1) := by decide +kernel
theorem dX1_findReach_62 : decode cX1_findReach 62 = .ok (.invokevirtual 105, 3) := by decide +kernel
theorem dX1_findReach_65 : decode cX1_findReach 65 = .ok (.aload_n 0, 1) := by decide +kernel
theorem dX1_findReach_66 : decode cX1_findReach 66 = .ok (.getfield 12, 3) := by decide +kernel
theorem dX1_findReach_69 : decode cX1_findReach 69 = .ok (.aload_n 0, 1) := by decide +kernel
theorem dX1_findReach_70 : decode cX1_findReach 70 = .ok (.getfield 21, 3) := by decide +kernel
theorem dX1_findReach_73 : decode cX1_findReach 73 = .ok (.iload_n 1, 1) := by decide +kernel
theorem dX1_findReach_74 : decode cX1_findReach 74 = .ok (.iload 6, 2) := by decide +kernel
theorem dX1_findReach_76 : decode cX1_findReach 76 = .ok (.iconst (-1), 1) := by decide +kernel
theorem dX1_findReach_77 : decode cX1_findReach 77 = .ok (.invokevirtual 72, 3) := by decide +kernel
theorem dX1_findReach_80 : decode cX1_findReach 80 = .ok (.pop, 1) := by decide +kernel
theorem dX1_findReach_81 : decode cX1_findReach 81 = .ok (.aload_n 0, 1) := by decide +kernel
theorem dX1_findReach_82 : decode cX1_findReach 82 = .ok (.getfield 21, 3) := by decide +kernel
theorem dX1_findReach_85 : decode cX1_findReach 85 = .ok (.getfield 76, 3) := by decide +kernel
theorem dX1_findReach_88 : decode cX1_findReach 88 = .ok (.iload_n 2, 1) := by decide +kernel
theorem dX1_findReach_89 : decode cX1_findReach 89 = .ok (.invokestatic 109, 3) := by decide +kernel
theorem dX1_findReach_92 : decode cX1_findReach 92 = .ok (.ifCond .eq 6, 3) := by decide +kernel
theorem dX1_findReach_95 : decode cX1_findReach 95 = .ok (.iload 6, 2) := by decide +kernel
theorem dX1_findReach_97 : decode cX1_findReach 97 = .ok (.ireturn, 1) := by decide +kernel
theorem dX1_findReach_98 : decode cX1_findReach 98 = .ok (.iinc 6 1, 3) := by decide +kernel
theorem dX1_findReach_101 : decode cX1_findReach 101 = .ok (.goto (-65), 3) := by decide +kernel
theorem dX1_findReach_104 : decode cX1_findReach 104 = .ok (.bipush (-5), 2) := by decide +kernel
theorem dX1_findReach_106 : decode cX1_findReach 106 = .ok (.ireturn, 1) := by decide +kernel
theorem dX1_findBegan_0 : decode cX1_findBegan 0 = .ok (.aload_n 0, 1) := by decide +kernel
theorem dX1_findBegan_1 : decode cX1_findBegan 1 = .ok (.iconst 0, 1) := by decide +kernel
theorem dX1_findBegan_2 : decode cX1_findBegan 2 = .ok (.putfield 41, 3) := by decide +kernel
theorem dX1_findBegan_5 : decode cX1_findBegan 5 = .ok (.aload_n 0, 1) := by decide +kernel
theorem dX1_findBegan_6 : decode cX1_findBegan 6 = .ok (.bipush (-5), 2) := by decide +kernel
theorem dX1_findBegan_8 : decode cX1_findBegan 8 = .ok (.putfield 44, 3) := by decide +kernel
theorem dX1_findBegan_11 : decode cX1_findBegan 11 = .ok (.iconst 0, 1) := by decide +kernel
theorem dX1_findBegan_12 : decode cX1_findBegan 12 = .ok (.istore_n 1, 1) := by decide +kernel
theorem dX1_findBegan_13 : decode cX1_findBegan 13 = .ok (.iload_n 1, 1) := by decide +kernel
theorem dX1_findBegan_14 : decode cX1_findBegan 14 = .ok (.aload_n 0, 1) := by decide +kernel
theorem dX1_findBegan_15 : decode cX1_findBegan 15 = .ok (.getfield 12, 3) := by decide +kernel
theorem dX1_findBegan_18 : decode cX1_findBegan 18 = .ok (.getfield 47, 3) := by decide +kernel
theorem dX1_findBegan_21 : decode cX1_findBegan 21 = .ok (.getfield 51, 3) := by decide +kernel
theorem dX1_findBegan_24 : decode cX1_findBegan 24 = .ok (.getfield 57, 3) := by decide +kernel
theorem dX1_findBegan_27 : decode cX1_findBegan 27 = .ok (.if_icmp .ge 66, 3) := by decide +kernel
theorem dX1_findBegan_30 : decode cX1_findBegan 30 = .ok (.iconst 0, 1) := by decide +kernel
theorem dX1_findBegan_31 : decode cX1_findBegan 31 = .ok (.istore_n 2, 1) := by decide +kernel
theorem dX1_findBegan_32 : decode cX1_findBegan 32 = .ok (.iload_n 2, 1) := by decide +kernel
theorem dX1_findBegan_33 : decode cX1_findBegan 33 = .ok (.bipush 6, 2) := by decide +kernel
theorem dX1_findBegan_35 : decode cX1_findBegan 35 = .ok (.if_icmp .gt 52, 3) := by decide +kernel
theorem dX1_findBegan_38 : decode cX1_findBegan 38 = .ok (.aload_n 0, 1) := by decide +kernel
theorem dX1_findBegan_39 : decode cX1_findBegan 39 = .ok (.iload_n 1, 1) := by decide +kernel
theorem dX1_findBegan_40 : decode cX1_findBegan 40 = .ok (.iload_n 2, 1) := by decide +kernel
theorem dX1_findBegan_41 : decode cX1_findBegan 41 = .ok (.invokevirtual 113, 3) := by decide +kernel
theorem dX1_findBegan_44 : decode cX1_findBegan 44 = .ok (.ifCond .eq 37, 3) := by decide +kernel
theorem dX1_findBegan_47 : decode cX1_findBegan 47 = .ok (.aload_n 0, 1) := by decide +kernel
theorem dX1_findBegan_48 : decode cX1_findBegan 48 = .ok (.aload_n 0, 1) := by decide +kernel
theorem dX1_findBegan_49 : decode cX1_findBegan 49 = .ok (.getfield 41, 3) := by decide +kernel
theorem dX1_findBegan_52 : decode cX1_findBegan 52 = .ok (.ifCond .ne 12, 3) := by decide +kernel
theorem dX1_findBegan_55 : decode cX1_findBegan 55 = .ok (.bipush 10, 2) := by decide +kernel
theorem dX1_findBegan_57 : decode cX1_findBegan 57 = .ok (.iload_n 1, 1) := by decide +kernel
theorem dX1_findBegan_58 : decode cX1_findBegan 58 = .ok (.imul, 1) := by decide +kernel
theorem dX1_findBegan_59 : decode cX1_findBegan 59 = .ok (.iload_n 2, 1) := by decide +kernel
theorem dX1_findBegan_60 : decode cX1_findBegan 60 = .ok (.iadd, 1) := by decide +kernel
theorem dX1_findBegan_61 : decode cX1_findBegan 61 = .ok (.goto 7, 3) := by decide +kernel
theorem dX1_findBegan_64 : decode cX1_findBegan 64 = .ok (.aload_n 0, 1) := by decide +kernel
theorem dX1_findBegan_65 : decode cX1_findBegan 65 = .ok (.getfield 44, 3) := by decide +kernel
theorem dX1_findBegan_68 : decode cX1_findBegan 68 = .ok (.putfield 44, 3) := by decide +kernel
theorem dX1_findBegan_71 : decode cX1_findBegan 71 = .ok (.aload_n 0, 1) := by decide +kernel
theorem dX1_findBegan_72 : decode cX1_findBegan 72 = .ok (.dup, 1) := by decide +kernel
theorem dX1_findBegan_73 : decode cX1_findBegan 73 = .ok (.getfield 41, 3) := by decide +kernel
theorem dX1_findBegan_76 : decode cX1_findBegan 76 = .ok (.iconst 1, 1) := by decide +kernel
theorem dX1_findBegan_77 : decode cX1_findBegan 77 = .ok (.iadd, 1) := by decide +kernel
theorem dX1_findBegan_78 : decode cX1_findBegan 78 = .ok (.putfield 41, 3) := by decide +kernel
theorem dX1_findBegan_81 : decode cX1_findBegan 81 = .ok (.iinc 2 1, 3) := by decide +kernel
theorem dX1_findBegan_84 : decode cX1_findBegan 84 = .ok (.goto (-52), 3) := by decide +kernel
theorem dX1_findBegan_87 : decode cX1_findBegan 87 = .ok (.iinc 1 1, 3) := by decide +kernel
theorem dX1_findBegan_90 : decode cX1_findBegan 90 = .ok (.goto (-77), 3) := by decide +kernel
theorem dX1_findBegan_93 : decode cX1_findBegan 93 = .ok (.return_, 1) := by decide +kernel
theorem dX1_isAsSeen_0 : decode cX1_isAsSeen 0 = .ok (.aload_n 0, 1) := by decide +kernel
theorem dX1_isAsSeen_1 : decode cX1_isAsSeen 1 = .ok (.getfield 21, 3) := by decide +kernel
theorem dX1_isAsSeen_4 : decode cX1_isAsSeen 4 = .ok (.iload_n 1, 1) := by decide +kernel
theorem dX1_isAsSeen_5 : decode cX1_isAsSeen 5 = .ok (.iload_n 2, 1) := by decide +kernel
theorem dX1_isAsSeen_6 : decode cX1_isAsSeen 6 = .ok (.aload_n 0, 1) := by decide +kernel
theorem dX1_isAsSeen_7 : decode cX1_isAsSeen 7 = .ok (.getfield 12, 3) := by decide +kernel
theorem dX1_isAsSeen_10 : decode cX1_isAsSeen 10 = .ok (.getfield 47, 3) := by decide +kernel
theorem dX1_isAsSeen_13 : decode cX1_isAsSeen 13 = .ok (.getfield 62, 3) := by decide +kernel
theorem dX1_isAsSeen_16 : decode cX1_isAsSeen 16 = .ok (.getfield 65, 3) := by decide +kernel
theorem dX1_isAsSeen_19 : decode cX1_isAsSeen 19 = .ok (.invokevirtual 68, 3) := by decide +kernel
theorem dX1_isAsSeen_22 : decode cX1_isAsSeen 22 = .ok (.aload_n 0, 1) := by decide +kernel
theorem dX1_isAsSeen_23 : decode cX1_isAsSeen 23 = .ok (.getfield 12, 3) := by decide +kernel
theorem dX1_isAsSeen_26 : decode cX1_isAsSeen 26 = .ok (.getfield 47, 3) := by decide +kernel
theorem dX1_isAsSeen_29 : decode cX1_isAsSeen 29 = .ok (.getfield 116, 3) := by decide +kernel
theorem dX1_isAsSeen_32 : decode cX1_isAsSeen 32 = .ok (.astore_n 3, 1) := by decide +kernel
theorem dX1_isAsSeen_33 : decode cX1_isAsSeen 33 = .ok (.iconst 0, 1) := by decide +kernel
theorem dX1_isAsSeen_34 : decode cX1_isAsSeen 34 = .ok (.istore 4, 2) := by decide +kernel
theorem dX1_isAsSeen_36 : decode cX1_isAsSeen 36 = .ok (.iload 4, 2) := by decide +kernel
theorem dX1_isAsSeen_38 : decode cX1_isAsSeen 38 = .ok (.bipush 6, 2) := by decide +kernel
theorem dX1_isAsSeen_40 : decode cX1_isAsSeen 40 = .ok (.if_icmp .gt 73, 3) := by decide +kernel
theorem dX1_isAsSeen_43 : decode cX1_isAsSeen 43 = .ok (.iconst 0, 1) := by decide +kernel
theorem dX1_isAsSeen_44 : decode cX1_isAsSeen 44 = .ok (.istore 5, 2) := by decide +kernel
theorem dX1_isAsSeen_46 : decode cX1_isAsSeen 46 = .ok (.iload 5, 2) := by decide +kernel
theorem dX1_isAsSeen_48 : decode cX1_isAsSeen 48 = .ok (.aload_n 3, 1) := by decide +kernel
theorem dX1_isAsSeen_49 : decode cX1_isAsSeen 49 = .ok (.getfield 120, 3) := by decide +kernel
theorem dX1_isAsSeen_52 : decode cX1_isAsSeen 52 = .ok (.if_icmp .ge 40, 3) := by decide +kernel
theorem dX1_isAsSeen_55 : decode cX1_isAsSeen 55 = .ok (.aload_n 3, 1) := by decide +kernel
theorem dX1_isAsSeen_56 : decode cX1_isAsSeen 56 = .ok (.getfield 123, 3) := by decide +kernel
theorem dX1_isAsSeen_59 : decode cX1_isAsSeen 59 = .ok (.iload 5, 2) := by decide +kernel
theorem dX1_isAsSeen_61 : decode cX1_isAsSeen 61 = .ok (.iaload, 1) := by decide +kernel
theorem dX1_isAsSeen_62 : decode cX1_isAsSeen 62 = .ok (.iload 4, 2) := by decide +kernel
theorem dX1_isAsSeen_64 : decode cX1_isAsSeen 64 = .ok (.if_icmp .ne 22, 3) := by decide +kernel
theorem dX1_isAsSeen_67 : decode cX1_isAsSeen 67 = .ok (.aload_n 3, 1) := by decide +kernel
theorem dX1_isAsSeen_68 : decode cX1_isAsSeen 68 = .ok (.getfield 127, 3) := by decide +kernel
theorem dX1_isAsSeen_71 : decode cX1_isAsSeen 71 = .ok (.iload 5, 2) := by decide +kernel
theorem dX1_isAsSeen_73 : decode cX1_isAsSeen 73 = .ok (.iaload, 1) := by decide +kernel
theorem dX1_isAsSeen_74 : decode cX1_isAsSeen 74 = .ok (.aload_n 0, 1) := by decide +kernel
theorem dX1_isAsSeen_75 : decode cX1_isAsSeen 75 = .ok (.getfield 21, 3) := by decide +kernel
theorem dX1_isAsSeen_78 : decode cX1_isAsSeen 78 = .ok (.getfield 76, 3) := by decide +kernel
theorem dX1_isAsSeen_81 : decode cX1_isAsSeen 81 = .ok (.if_icmp .eq 5, 3) := by decide +kernel
theorem dX1_isAsSeen_84 : decode cX1_isAsSeen 84 = .ok (.iconst 0, 1) := by decide +kernel
theorem dX1_isAsSeen_85 : decode cX1_isAsSeen 85 = .ok (.ireturn, 1) := by decide +kernel
theorem dX1_isAsSeen_86 : decode cX1_isAsSeen 86 = .ok (.iinc 5 1, 3) := by decide +kernel
theorem dX1_isAsSeen_89 : decode cX1_isAsSeen 89 = .ok (.goto (-43), 3) := by decide +kernel
theorem dX1_isAsSeen_92 : decode cX1_isAsSeen 92 = .ok (.aload_n 0, 1) := by decide +kernel
theorem dX1_isAsSeen_93 : decode cX1_isAsSeen 93 = .ok (.getfield 12, 3) := by decide +kernel
theorem dX1_isAsSeen_96 : decode cX1_isAsSeen 96 = .ok (.aload_n 0, 1) := by decide +kernel
theorem dX1_isAsSeen_97 : decode cX1_isAsSeen 97 = .ok (.getfield 21, 3) := by decide +kernel
theorem dX1_isAsSeen_100 : decode cX1_isAsSeen 100 = .ok (.iconst (-1), 1) := by decide +kernel
theorem dX1_isAsSeen_101 : decode cX1_isAsSeen 101 = .ok (.iconst 0, 1) := by decide +kernel
theorem dX1_isAsSeen_102 : decode cX1_isAsSeen 102 = .ok (.iconst (-1), 1) := by decide +kernel
theorem dX1_isAsSeen_103 : decode cX1_isAsSeen 103 = .ok (.invokevirtual 130, 3) := by decide +kernel
theorem dX1_isAsSeen_106 : decode cX1_isAsSeen 106 = .ok (.pop, 1) := by decide +kernel
theorem dX1_isAsSeen_107 : decode cX1_isAsSeen 107 = .ok (.iinc 4 1, 3) := by decide +kernel
theorem dX1_isAsSeen_110 : decode cX1_isAsSeen 110 = .ok (.goto (-74), 3) := by decide +kernel
theorem dX1_isAsSeen_113 : decode cX1_isAsSeen 113 = .ok (.iconst 1, 1) := by decide +kernel
theorem dX1_isAsSeen_114 : decode cX1_isAsSeen 114 = .ok (.ireturn, 1) := by decide +kernel
theorem dX1_waysToHear_0 : decode cX1_waysToHear 0 = .ok (.iconst 0, 1) := by decide +kernel
theorem dX1_waysToHear_1 : decode cX1_waysToHear 1 = .ok (.istore_n 3, 1) := by decide +kernel
theorem dX1_waysToHear_2 : decode cX1_waysToHear 2 = .ok (.iconst 0, 1) := by decide +kernel
theorem dX1_waysToHear_3 : decode cX1_waysToHear 3 = .ok (.istore 4, 2) := by decide +kernel
theorem dX1_waysToHear_5 : decode cX1_waysToHear 5 = .ok (.iload 4, 2) := by decide +kernel
theorem dX1_waysToHear_7 : decode cX1_waysToHear 7 = .ok (.aload_n 0, 1) := by decide +kernel
theorem dX1_waysToHear_8 : decode cX1_waysToHear 8 = .ok (.getfield 12, 3) := by decide +kernel
theorem dX1_waysToHear_11 : decode cX1_waysToHear 11 = .ok (.getfield 47, 3) := by decide +kernel
theorem dX1_waysToHear_14 : decode cX1_waysToHear 14 = .ok (.getfield 51, 3) := by decide +kernel
theorem dX1_waysToHear_17 : decode cX1_waysToHear 17 = .ok (.getfield 57, 3) := by decide +kernel
theorem dX1_waysToHear_20 : decode cX1_waysToHear 20 = .ok (.if_icmp .ge 75, 3) := by decide +kernel
theorem dX1_waysToHear_23 : decode cX1_waysToHear 23 = .ok (.iload 4, 2) := by decide +kernel
theorem dX1_waysToHear_25 : decode cX1_waysToHear 25 = .ok (.iload_n 1, 1) := by decide +kernel
theorem dX1_waysToHear_26 : decode cX1_waysToHear 26 = .ok (.if_icmp .eq 63, 3) := by decide +kernel
theorem dX1_waysToHear_29 : decode cX1_waysToHear 29 = .ok (.aload_n 0, 1) := by decide +kernel
theorem dX1_waysToHear_30 : decode cX1_waysToHear 30 = .ok (.getfield 21, 3) := by decide +kernel
theorem dX1_waysToHear_33 : decode cX1_waysToHear 33 = .ok (.iload 4, 2) := by decide +kernel
theorem dX1_waysToHear_35 : decode cX1_waysToHear 35 = .ok (.iload_n 2, 1) := by decide +kernel
theorem dX1_waysToHear_36 : decode cX1_waysToHear 36 = .ok (.aload_n 0, 1) := by decide +kernel
theorem dX1_waysToHear_37 : decode cX1_waysToHear 37 = .ok (.getfield 12, 3) := by decide +kernel
theorem dX1_waysToHear_40 : decode cX1_waysToHear 40 = .ok (.getfield 47, 3) := by decide +kernel
theorem dX1_waysToHear_43 : decode cX1_waysToHear 43 = .ok (.getfield 62, 3) := by decide +kernel
theorem dX1_waysToHear_46 : decode cX1_waysToHear 46 = .ok (.getfield 65, 3) := by decide +kernel
theorem dX1_waysToHear_49 : decode cX1_waysToHear 49 = .ok (.invokevirtual 68, 3) := by decide +kernel
theorem dX1_waysToHear_52 : decode cX1_waysToHear 52 = .ok (.aload_n 0, 1) := by decide +kernel
theorem dX1_waysToHear_53 : decode cX1_waysToHear 53 = .ok (.getfield 12, 3) := by decide +kernel
theorem dX1_waysToHear_56 : decode cX1_waysToHear 56 = .ok (.aload_n 0, 1) := by decide +kernel
theorem dX1_waysToHear_57 : decode cX1_waysToHear 57 = .ok (.getfield 21, 3) := by decide +kernel
theorem dX1_waysToHear_60 : decode cX1_waysToHear 60 = .ok (.iconst (-1), 1) := by decide +kernel
theorem dX1_waysToHear_61 : decode cX1_waysToHear 61 = .ok (.iconst 0, 1) := by decide +kernel
theorem dX1_waysToHear_62 : decode cX1_waysToHear 62 = .ok (.iconst (-1), 1) := by decide +kernel
theorem dX1_waysToHear_63 : decode cX1_waysToHear 63 = .ok (.invokevirtual 72, 3) := by decide +kernel
theorem dX1_waysToHear_66 : decode cX1_waysToHear 66 = .ok (.pop, 1) := by decide +kernel
theorem dX1_waysToHear_67 : decode cX1_waysToHear 67 = .ok (.iload_n 3, 1) := by decide +kernel
theorem dX1_waysToHear_68 : decode cX1_waysToHear 68 = .ok (.aload_n 0, 1) := by decide +kernel
theorem dX1_waysToHear_69 : decode cX1_waysToHear 69 = .ok (.getfield 21, 3) := by decide +kernel
theorem dX1_waysToHear_72 : decode cX1_waysToHear 72 = .ok (.getfield 76, 3) := by decide +kernel
theorem dX1_waysToHear_75 : decode cX1_waysToHear 75 = .ok (.iload_n 1, 1) := by decide +kernel
theorem dX1_waysToHear_76 : decode cX1_waysToHear 76 = .ok (.invokestatic 109, 3) := by decide +kernel
theorem dX1_waysToHear_79 : decode cX1_waysToHear 79 = .ok (.ifCond .eq 7, 3) := by decide +kernel
theorem dX1_waysToHear_82 : decode cX1_waysToHear 82 = .ok (.iconst 1, 1) := by decide +kernel
theorem dX1_waysToHear_83 : decode cX1_waysToHear 83 = .ok (.goto 4, 3) := by decide +kernel
theorem dX1_waysToHear_86 : decode cX1_waysToHear 86 = .ok (.iconst 0, 1) := by decide +kernel
theorem dX1_waysToHear_87 : decode cX1_waysToHear 87 = .ok (.iadd, 1) := by decide +kernel
theorem dX1_waysToHear_88 : decode cX1_waysToHear 88 = .ok (.istore_n 3, 1) := by decide +kernel
theorem dX1_waysToHear_89 : decode cX1_waysToHear 89 = .ok (.iinc 4 1, 3) := by decide +kernel
theorem dX1_waysToHear_92 : decode cX1_waysToHear 92 = .ok (.goto (-87), 3) := by decide +kernel
theorem dX1_waysToHear_95 : decode cX1_waysToHear 95 = .ok (.iload_n 3, 1) := by decide +kernel
theorem dX1_waysToHear_96 : decode cX1_waysToHear 96 = .ok (.ireturn, 1) := by decide +kernel
theorem dX1_finesOfAll_0 : decode cX1_finesOfAll 0 = .ok (.lconst 0, 1) := by decide +kernel
theorem dX1_finesOfAll_1 : decode cX1_finesOfAll 1 = .ok (.lstore_n 2, 1) := by decide +kernel
theorem dX1_finesOfAll_2 : decode cX1_finesOfAll 2 = .ok (.iconst 0, 1) := by decide +kernel
theorem dX1_finesOfAll_3 : decode cX1_finesOfAll 3 = .ok (.istore 4, 2) := by decide +kernel
theorem dX1_finesOfAll_5 : decode cX1_finesOfAll 5 = .ok (.iload 4, 2) := by decide +kernel
theorem dX1_finesOfAll_7 : decode cX1_finesOfAll 7 = .ok (.aload_n 0, 1) := by decide +kernel
theorem dX1_finesOfAll_8 : decode cX1_finesOfAll 8 = .ok (.getfield 12, 3) := by decide +kernel
theorem dX1_finesOfAll_11 : decode cX1_finesOfAll 11 = .ok (.getfield 47, 3) := by decide +kernel
theorem dX1_finesOfAll_14 : decode cX1_finesOfAll 14 = .ok (.getfield 51, 3) := by decide +kernel
theorem dX1_finesOfAll_17 : decode cX1_finesOfAll 17 = .ok (.getfield 57, 3) := by decide +kernel
theorem dX1_finesOfAll_20 : decode cX1_finesOfAll 20 = .ok (.if_icmp .ge 58, 3) := by decide +kernel
theorem dX1_finesOfAll_23 : decode cX1_finesOfAll 23 = .ok (.aload_n 0, 1) := by decide +kernel
theorem dX1_finesOfAll_24 : decode cX1_finesOfAll 24 = .ok (.getfield 21, 3) := by decide +kernel
theorem dX1_finesOfAll_27 : decode cX1_finesOfAll 27 = .ok (.iload 4, 2) := by decide +kernel
theorem dX1_finesOfAll_29 : decode cX1_finesOfAll 29 = .ok (.iload_n 1, 1) := by decide +kernel
theorem dX1_finesOfAll_30 : decode cX1_finesOfAll 30 = .ok (.aload_n 0, 1) := by decide +kernel
theorem dX1_finesOfAll_31 : decode cX1_finesOfAll 31 = .ok (.getfield 12, 3) := by decide +kernel
theorem dX1_finesOfAll_34 : decode cX1_finesOfAll 34 = .ok (.getfield 47, 3) := by decide +kernel
theorem dX1_finesOfAll_37 : decode cX1_finesOfAll 37 = .ok (.getfield 62, 3) := by decide +kernel
theorem dX1_finesOfAll_40 : decode cX1_finesOfAll 40 = .ok (.getfield 65, 3) := by decide +kernel
theorem dX1_finesOfAll_43 : decode cX1_finesOfAll 43 = .ok (.invokevirtual 68, 3) := by decide +kernel
theorem dX1_finesOfAll_46 : decode cX1_finesOfAll 46 = .ok (.aload_n 0, 1) := by decide +kernel
theorem dX1_finesOfAll_47 : decode cX1_finesOfAll 47 = .ok (.getfield 12, 3) := by decide +kernel
theorem dX1_finesOfAll_50 : decode cX1_finesOfAll 50 = .ok (.aload_n 0, 1) := by decide +kernel
theorem dX1_finesOfAll_51 : decode cX1_finesOfAll 51 = .ok (.getfield 21, 3) := by decide +kernel
theorem dX1_finesOfAll_54 : decode cX1_finesOfAll 54 = .ok (.iconst (-1), 1) := by decide +kernel
theorem dX1_finesOfAll_55 : decode cX1_finesOfAll 55 = .ok (.iconst 0, 1) := by decide +kernel
theorem dX1_finesOfAll_56 : decode cX1_finesOfAll 56 = .ok (.iconst (-1), 1) := by decide +kernel
theorem dX1_finesOfAll_57 : decode cX1_finesOfAll 57 = .ok (.invokevirtual 72, 3) := by decide +kernel
theorem dX1_finesOfAll_60 : decode cX1_finesOfAll 60 = .ok (.pop, 1) := by decide +kernel
theorem dX1_finesOfAll_61 : decode cX1_finesOfAll 61 = .ok (.lload_n 2, 1) := by decide +kernel
theorem dX1_finesOfAll_62 : decode cX1_finesOfAll 62 = .ok (.aload_n 0, 1) := by decide +kernel
theorem dX1_finesOfAll_63 : decode cX1_finesOfAll 63 = .ok (.getfield 21, 3) := by decide +kernel
theorem dX1_finesOfAll_66 : decode cX1_finesOfAll 66 = .ok (.getfield 85, 3) := by decide +kernel
theorem dX1_finesOfAll_69 : decode cX1_finesOfAll 69 = .ok (.i2l, 1) := by decide +kernel
theorem dX1_finesOfAll_70 : decode cX1_finesOfAll 70 = .ok (.ladd, 1) := by decide +kernel
theorem dX1_finesOfAll_71 : decode cX1_finesOfAll 71 = .ok (.lstore_n 2, 1) := by decide +kernel
theorem dX1_finesOfAll_72 : decode cX1_finesOfAll 72 = .ok (.iinc 4 1, 3) := by decide +kernel
theorem dX1_finesOfAll_75 : decode cX1_finesOfAll 75 = .ok (.goto (-70), 3) := by decide +kernel
theorem dX1_finesOfAll_78 : decode cX1_finesOfAll 78 = .ok (.lload_n 2, 1) := by decide +kernel
theorem dX1_finesOfAll_79 : decode cX1_finesOfAll 79 = .ok (.lreturn, 1) := by decide +kernel
theorem dX2_init_0 : decode cX2_init 0 = .ok (.aload_n 0, 1) := by decide +kernel
theorem dX2_init_1 : decode cX2_init 1 = .ok (.invokespecial 3, 3) := by decide +kernel
theorem dX2_init_4 : decode cX2_init 4 = .ok (.aload_n 0, 1) := by decide +kernel
theorem dX2_init_5 : decode cX2_init 5 = .ok (.iconst 0, 1) := by decide +kernel
theorem dX2_init_6 : decode cX2_init 6 = .ok (.putfield 9, 3) := by decide +kernel
theorem dX2_init_9 : decode cX2_init 9 = .ok (.aload_n 0, 1) := by decide +kernel
theorem dX2_init_10 : decode cX2_init 10 = .ok (.bipush 7, 2) := by decide +kernel
theorem dX2_init_12 : decode cX2_init 12 = .ok (.newarray .int, 2) := by decide +kernel
theorem dX2_init_14 : decode cX2_init 14 = .ok (.putfield 15, 3) := by decide +kernel
theorem dX2_init_17 : decode cX2_init 17 = .ok (.aload_n 0, 1) := by decide +kernel
theorem dX2_init_18 : decode cX2_init 18 = .ok (.bipush 7, 2) := by decide +kernel
theorem dX2_init_20 : decode cX2_init 20 = .ok (.newarray .int, 2) := by decide +kernel
theorem dX2_init_22 : decode cX2_init 22 = .ok (.putfield 19, 3) := by decide +kernel
theorem dX2_init_25 : decode cX2_init 25 = .ok (.aload_n 0, 1) := by decide +kernel
theorem dX2_init_26 : decode cX2_init 26 = .ok (.bipush 7, 2) := by decide +kernel
theorem dX2_init_28 : decode cX2_init 28 = .ok (.newarray .int, 2) := by decide +kernel
theorem dX2_init_30 : decode cX2_init 30 = .ok (.putfield 22, 3) := by decide +kernel
theorem dX2_init_33 : decode cX2_init 33 = .ok (.aload_n 0, 1) := by decide +kernel
theorem dX2_init_34 : decode cX2_init 34 = .ok (.bipush 7, 2) := by decide +kernel
theorem dX2_init_36 : decode cX2_init 36 = .ok (.newarray .int, 2) := by decide +kernel
theorem dX2_init_38 : decode cX2_init 38 = .ok (.putfield 25, 3) := by decide +kernel
theorem dX2_init_41 : decode cX2_init 41 = .ok (.aload_n 0, 1) := by decide +kernel
theorem dX2_init_42 : decode cX2_init 42 = .ok (.bipush 49, 2) := by decide +kernel
theorem dX2_init_44 : decode cX2_init 44 = .ok (.newarray .int, 2) := by decide +kernel
theorem dX2_init_46 : decode cX2_init 46 = .ok (.putfield 28, 3) := by decide +kernel
theorem dX2_init_49 : decode cX2_init 49 = .ok (.return_, 1) := by decide +kernel
theorem dX2_has_0 : decode cX2_has 0 = .ok (.iload_n 1, 1) := by decide +kernel
theorem dX2_has_1 : decode cX2_has 1 = .ok (.aload_n 0, 1) := by decide +kernel
theorem dX2_has_2 : decode cX2_has 2 = .ok (.getfield 9, 3) := by decide +kernel
theorem dX2_has_5 : decode cX2_has 5 = .ok (.invokestatic 31, 3) := by decide +kernel
theorem dX2_has_8 : decode cX2_has 8 = .ok (.ireturn, 1) := by decide +kernel
theorem dX2_all_0 : decode cX2_all 0 = .ok (.iconst 1, 1) := by decide +kernel
theorem dX2_all_1 : decode cX2_all 1 = .ok (.aload_n 0, 1) := by decide +kernel
theorem dX2_all_2 : decode cX2_all 2 = .ok (.getfield 9, 3) := by decide +kernel
theorem dX2_all_5 : decode cX2_all 5 = .ok (.ishl, 1) := by decide +kernel
theorem dX2_all_6 : decode cX2_all 6 = .ok (.iconst 1, 1) := by decide +kernel
theorem dX2_all_7 : decode cX2_all 7 = .ok (.isub, 1) := by decide +kernel
theorem dX2_all_8 : decode cX2_all 8 = .ok (.ireturn, 1) := by decide +kernel
theorem dX2_add_0 : decode cX2_add 0 = .ok (.aload_n 0, 1) := by decide +kernel
theorem dX2_add_1 : decode cX2_add 1 = .ok (.getfield 9, 3) := by decide +kernel
theorem dX2_add_4 : decode cX2_add 4 = .ok (.bipush 7, 2) := by decide +kernel
theorem dX2_add_6 : decode cX2_add 6 = .ok (.if_icmp .lt 5, 3) := by decide +kernel
theorem dX2_add_9 : decode cX2_add 9 = .ok (.iconst 0, 1) := by decide +kernel
theorem dX2_add_10 : decode cX2_add 10 = .ok (.ireturn, 1) := by decide +kernel
theorem dX2_add_11 : decode cX2_add 11 = .ok (.aload_n 0, 1) := by decide +kernel
theorem dX2_add_12 : decode cX2_add 12 = .ok (.getfield 15, 3) := by decide +kernel
theorem dX2_add_15 : decode cX2_add 15 = .ok (.aload_n 0, 1) := by decide +kernel
theorem dX2_add_16 : decode cX2_add 16 = .ok (.getfield 9, 3) := by decide +kernel
theorem dX2_add_19 : decode cX2_add 19 = .ok (.iload_n 1, 1) := by decide +kernel
theorem dX2_add_20 : decode cX2_add 20 = .ok (.iastore, 1) := by decide +kernel
theorem dX2_add_21 : decode cX2_add 21 = .ok (.aload_n 0, 1) := by decide +kernel
theorem dX2_add_22 : decode cX2_add 22 = .ok (.getfield 19, 3) := by decide +kernel
theorem dX2_add_25 : decode cX2_add 25 = .ok (.aload_n 0, 1) := by decide +kernel
theorem dX2_add_26 : decode cX2_add 26 = .ok (.getfield 9, 3) := by decide +kernel
theorem dX2_add_29 : decode cX2_add 29 = .ok (.iload_n 2, 1) := by decide +kernel
theorem dX2_add_30 : decode cX2_add 30 = .ok (.iastore, 1) := by decide +kernel
theorem dX2_add_31 : decode cX2_add 31 = .ok (.aload_n 0, 1) := by decide +kernel
theorem dX2_add_32 : decode cX2_add 32 = .ok (.getfield 22, 3) := by decide +kernel
theorem dX2_add_35 : decode cX2_add 35 = .ok (.aload_n 0, 1) := by decide +kernel
theorem dX2_add_36 : decode cX2_add 36 = .ok (.getfield 9, 3) := by decide +kernel
theorem dX2_add_39 : decode cX2_add 39 = .ok (.iconst 0, 1) := by decide +kernel
theorem dX2_add_40 : decode cX2_add 40 = .ok (.iastore, 1) := by decide +kernel
theorem dX2_add_41 : decode cX2_add 41 = .ok (.aload_n 0, 1) := by decide +kernel
theorem dX2_add_42 : decode cX2_add 42 = .ok (.getfield 25, 3) := by decide +kernel
theorem dX2_add_45 : decode cX2_add 45 = .ok (.aload_n 0, 1) := by decide +kernel
theorem dX2_add_46 : decode cX2_add 46 = .ok (.getfield 9, 3) := by decide +kernel
theorem dX2_add_49 : decode cX2_add 49 = .ok (.iconst 0, 1) := by decide +kernel
theorem dX2_add_50 : decode cX2_add 50 = .ok (.iastore, 1) := by decide +kernel
theorem dX2_add_51 : decode cX2_add 51 = .ok (.aload_n 0, 1) := by decide +kernel
theorem dX2_add_52 : decode cX2_add 52 = .ok (.dup, 1) := by decide +kernel
theorem dX2_add_53 : decode cX2_add 53 = .ok (.getfield 9, 3) := by decide +kernel
theorem dX2_add_56 : decode cX2_add 56 = .ok (.iconst 1, 1) := by decide +kernel
theorem dX2_add_57 : decode cX2_add 57 = .ok (.iadd, 1) := by decide +kernel
theorem dX2_add_58 : decode cX2_add 58 = .ok (.putfield 9, 3) := by decide +kernel
theorem dX2_add_61 : decode cX2_add 61 = .ok (.iconst 1, 1) := by decide +kernel
theorem dX2_add_62 : decode cX2_add 62 = .ok (.ireturn, 1) := by decide +kernel
theorem dX2_acquaint_0 : decode cX2_acquaint 0 = .ok (.aload_n 0, 1) := by decide +kernel
theorem dX2_acquaint_1 : decode cX2_acquaint 1 = .ok (.getfield 22, 3) := by decide +kernel
theorem dX2_acquaint_4 : decode cX2_acquaint 4 = .ok (.iload_n 1, 1) := by decide +kernel
theorem dX2_acquaint_5 : decode cX2_acquaint 5 = .ok (.iload_n 3, 1) := by decide +kernel
theorem dX2_acquaint_6 : decode cX2_acquaint 6 = .ok (.ifCond .eq 16, 3) := by decide +kernel
theorem dX2_acquaint_9 : decode cX2_acquaint 9 = .ok (.aload_n 0, 1) := by decide +kernel
theorem dX2_acquaint_10 : decode cX2_acquaint 10 = .ok (.getfield 22, 3) := by decide +kernel
theorem dX2_acquaint_13 : decode cX2_acquaint 13 = .ok (.iload_n 1, 1) := by decide +kernel
theorem dX2_acquaint_14 : decode cX2_acquaint 14 = .ok (.iaload, 1) := by decide +kernel
theorem dX2_acquaint_15 : decode cX2_acquaint 15 = .ok (.iconst 1, 1) := by decide +kernel
theorem dX2_acquaint_16 : decode cX2_acquaint 16 = .ok (.iload_n 2, 1) := by decide +kernel
theorem dX2_acquaint_17 : decode cX2_acquaint 17 = .ok (.ishl, 1) := by decide +kernel
theorem dX2_acquaint_18 : decode cX2_acquaint 18 = .ok (.ior, 1) := by decide +kernel
theorem dX2_acquaint_19 : decode cX2_acquaint 19 = .ok (.goto 15, 3) := by decide +kernel
theorem dX2_acquaint_22 : decode cX2_acquaint 22 = .ok (.aload_n 0, 1) := by decide +kernel
theorem dX2_acquaint_23 : decode cX2_acquaint 23 = .ok (.getfield 22, 3) := by decide +kernel
theorem dX2_acquaint_26 : decode cX2_acquaint 26 = .ok (.iload_n 1, 1) := by decide +kernel
theorem dX2_acquaint_27 : decode cX2_acquaint 27 = .ok (.iaload, 1) := by decide +kernel
theorem dX2_acquaint_28 : decode cX2_acquaint 28 = .ok (.iconst 1, 1) := by decide +kernel
theorem dX2_acquaint_29 : decode cX2_acquaint 29 = .ok (.iload_n 2, 1) := by decide +kernel
theorem dX2_acquaint_30 : decode cX2_acquaint 30 = .ok (.ishl, 1) := by decide +kernel
theorem dX2_acquaint_31 : decode cX2_acquaint 31 = .ok (.iconst (-1), 1) := by decide +kernel
theorem dX2_acquaint_32 : decode cX2_acquaint 32 = .ok (.ixor, 1) := by decide +kernel
theorem dX2_acquaint_33 : decode cX2_acquaint 33 = .ok (.iand, 1) := by decide +kernel
theorem dX2_acquaint_34 : decode cX2_acquaint 34 = .ok (.iastore, 1) := by decide +kernel
theorem dX2_acquaint_35 : decode cX2_acquaint 35 = .ok (.aload_n 0, 1) := by decide +kernel
theorem dX2_acquaint_36 : decode cX2_acquaint 36 = .ok (.getfield 22, 3) := by decide +kernel
theorem dX2_acquaint_39 : decode cX2_acquaint 39 = .ok (.iload_n 2, 1) := by decide +kernel
theorem dX2_acquaint_40 : decode cX2_acquaint 40 = .ok (.iload_n 3, 1) := by decide +kernel
theorem dX2_acquaint_41 : decode cX2_acquaint 41 = .ok (.ifCond .eq 16, 3) := by decide +kernel
theorem dX2_acquaint_44 : decode cX2_acquaint 44 = .ok (.aload_n 0, 1) := by decide +kernel
theorem dX2_acquaint_45 : decode cX2_acquaint 45 = .ok (.getfield 22, 3) := by decide +kernel
theorem dX2_acquaint_48 : decode cX2_acquaint 48 = .ok (.iload_n 2, 1) := by decide +kernel
theorem dX2_acquaint_49 : decode cX2_acquaint 49 = .ok (.iaload, 1) := by decide +kernel
theorem dX2_acquaint_50 : decode cX2_acquaint 50 = .ok (.iconst 1, 1) := by decide +kernel
theorem dX2_acquaint_51 : decode cX2_acquaint 51 = .ok (.iload_n 1, 1) := by decide +kernel
theorem dX2_acquaint_52 : decode cX2_acquaint 52 = .ok (.ishl, 1) := by decide +kernel
theorem dX2_acquaint_53 : decode cX2_acquaint 53 = .ok (.ior, 1) := by decide +kernel
theorem dX2_acquaint_54 : decode cX2_acquaint 54 = .ok (.goto 15, 3) := by decide +kernel
theorem dX2_acquaint_57 : decode cX2_acquaint 57 = .ok (.aload_n 0, 1) := by decide +kernel
theorem dX2_acquaint_58 : decode cX2_acquaint 58 = .ok (.getfield 22, 3) := by decide +kernel
theorem dX2_acquaint_61 : decode cX2_acquaint 61 = .ok (.iload_n 2, 1) := by decide +kernel
theorem dX2_acquaint_62 : decode cX2_acquaint 62 = .ok (.iaload, 1) := by decide +kernel
theorem dX2_acquaint_63 : decode cX2_acquaint 63 = .ok (.iconst 1, 1) := by decide +kernel
theorem dX2_acquaint_64 : decode cX2_acquaint 64 = .ok (.iload_n 1, 1) := by decide +kernel
theorem dX2_acquaint_65 : decode cX2_acquaint 65 = .ok (.ishl, 1) := by decide +kernel
theorem dX2_acquaint_66 : decode cX2_acquaint 66 = .ok (.iconst (-1), 1) := by decide +kernel
theorem dX2_acquaint_67 : decode cX2_acquaint 67 = .ok (.ixor, 1) := by decide +kernel
theorem dX2_acquaint_68 : decode cX2_acquaint 68 = .ok (.iand, 1) := by decide +kernel
theorem dX2_acquaint_69 : decode cX2_acquaint 69 = .ok (.iastore, 1) := by decide +kernel
theorem dX2_acquaint_70 : decode cX2_acquaint 70 = .ok (.return_, 1) := by decide +kernel
theorem dX2_addToRow_0 : decode cX2_addToRow 0 = .ok (.aload_n 0, 1) := by decide +kernel
theorem dX2_addToRow_1 : decode cX2_addToRow 1 = .ok (.getfield 25, 3) := by decide +kernel
theorem dX2_addToRow_4 : decode cX2_addToRow 4 = .ok (.iload_n 1, 1) := by decide +kernel
theorem dX2_addToRow_5 : decode cX2_addToRow 5 = .ok (.iaload, 1) := by decide +kernel
theorem dX2_addToRow_6 : decode cX2_addToRow 6 = .ok (.bipush 7, 2) := by decide +kernel
theorem dX2_addToRow_8 : decode cX2_addToRow 8 = .ok (.if_icmp .lt 5, 3) := by decide +kernel
theorem dX2_addToRow_11 : decode cX2_addToRow 11 = .ok (.iconst 0, 1) := by decide +kernel
theorem dX2_addToRow_12 : decode cX2_addToRow 12 = .ok (.ireturn, 1) := by decide +kernel
theorem dX2_addToRow_13 : decode cX2_addToRow 13 = .ok (.aload_n 0, 1) := by decide +kernel
theorem dX2_addToRow_14 : decode cX2_addToRow 14 = .ok (.getfield 28, 3) := by decide +kernel
theorem dX2_addToRow_17 : decode cX2_addToRow 17 = .ok (.iload_n 1, 1) := by decide +kernel
theorem dX2_addToRow_18 : decode cX2_addToRow 18 = .ok (.bipush 7, 2) := by decide +kernel
theorem dX2_addToRow_20 : decode cX2_addToRow 20 = .ok (.imul, 1) := by decide +kernel
theorem dX2_addToRow_21 : decode cX2_addToRow 21 = .ok (.aload_n 0, 1) := by decide +kernel
theorem dX2_addToRow_22 : decode cX2_addToRow 22 = .ok (.getfield 25, 3) := by decide +kernel
theorem dX2_addToRow_25 : decode cX2_addToRow 25 = .ok (.iload_n 1, 1) := by decide +kernel
theorem dX2_addToRow_26 : decode cX2_addToRow 26 = .ok (.iaload, 1) := by decide +kernel
theorem dX2_addToRow_27 : decode cX2_addToRow 27 = .ok (.iadd, 1) := by decide +kernel
theorem dX2_addToRow_28 : decode cX2_addToRow 28 = .ok (.iload_n 2, 1) := by decide +kernel
theorem dX2_addToRow_29 : decode cX2_addToRow 29 = .ok (.iastore, 1) := by decide +kernel
theorem dX2_addToRow_30 : decode cX2_addToRow 30 = .ok (.aload_n 0, 1) := by decide +kernel
theorem dX2_addToRow_31 : decode cX2_addToRow 31 = .ok (.getfield 25, 3) := by decide +kernel
theorem dX2_addToRow_34 : decode cX2_addToRow 34 = .ok (.iload_n 1, 1) := by decide +kernel
theorem dX2_addToRow_35 : decode cX2_addToRow 35 = .ok (.dup2, 1) := by decide +kernel
theorem dX2_addToRow_36 : decode cX2_addToRow 36 = .ok (.iaload, 1) := by decide +kernel
theorem dX2_addToRow_37 : decode cX2_addToRow 37 = .ok (.iconst 1, 1) := by decide +kernel
theorem dX2_addToRow_38 : decode cX2_addToRow 38 = .ok (.iadd, 1) := by decide +kernel
theorem dX2_addToRow_39 : decode cX2_addToRow 39 = .ok (.iastore, 1) := by decide +kernel
theorem dX2_addToRow_40 : decode cX2_addToRow 40 = .ok (.iconst 1, 1) := by decide +kernel
theorem dX2_addToRow_41 : decode cX2_addToRow 41 = .ok (.ireturn, 1) := by decide +kernel
theorem dX2_deafOn_0 : decode cX2_deafOn 0 = .ok (.iconst 0, 1) := by decide +kernel
theorem dX2_deafOn_1 : decode cX2_deafOn 1 = .ok (.istore_n 2, 1) := by decide +kernel
theorem dX2_deafOn_2 : decode cX2_deafOn 2 = .ok (.iconst 0, 1) := by decide +kernel
theorem dX2_deafOn_3 : decode cX2_deafOn 3 = .ok (.istore_n 3, 1) := by decide +kernel
theorem dX2_deafOn_4 : decode cX2_deafOn 4 = .ok (.iload_n 3, 1) := by decide +kernel
theorem dX2_deafOn_5 : decode cX2_deafOn 5 = .ok (.aload_n 0, 1) := by decide +kernel
theorem dX2_deafOn_6 : decode cX2_deafOn 6 = .ok (.getfield 9, 3) := by decide +kernel
theorem dX2_deafOn_9 : decode cX2_deafOn 9 = .ok (.if_icmp .ge 38, 3) := by decide +kernel
theorem dX2_deafOn_12 : decode cX2_deafOn 12 = .ok (.aload_n 0, 1) := by decide +kernel
theorem dX2_deafOn_13 : decode cX2_deafOn 13 = .ok (.getfield 15, 3) := by decide +kernel
theorem dX2_deafOn_16 : decode cX2_deafOn 16 = .ok (.iload_n 3, 1) := by decide +kernel
theorem dX2_deafOn_17 : decode cX2_deafOn 17 = .ok (.iaload, 1) := by decide +kernel
theorem dX2_deafOn_18 : decode cX2_deafOn 18 = .ok (.iconst 5, 1) := by decide +kernel
theorem dX2_deafOn_19 : decode cX2_deafOn 19 = .ok (.if_icmp .ne 22, 3) := by decide +kernel
theorem dX2_deafOn_22 : decode cX2_deafOn 22 = .ok (.iload_n 1, 1) := by decide +kernel
theorem dX2_deafOn_23 : decode cX2_deafOn 23 = .ok (.aload_n 0, 1) := by decide +kernel
theorem dX2_deafOn_24 : decode cX2_deafOn 24 = .ok (.getfield 19, 3) := by decide +kernel
theorem dX2_deafOn_27 : decode cX2_deafOn 27 = .ok (.iload_n 3, 1) := by decide +kernel
theorem dX2_deafOn_28 : decode cX2_deafOn 28 = .ok (.iaload, 1) := by decide +kernel
theorem dX2_deafOn_29 : decode cX2_deafOn 29 = .ok (.iconst 2, 1) := by decide +kernel
theorem dX2_deafOn_30 : decode cX2_deafOn 30 = .ok (.iadd, 1) := by decide +kernel
theorem dX2_deafOn_31 : decode cX2_deafOn 31 = .ok (.irem, 1) := by decide +kernel
theorem dX2_deafOn_32 : decode cX2_deafOn 32 = .ok (.ifCond .ne 9, 3) := by decide +kernel
theorem dX2_deafOn_35 : decode cX2_deafOn 35 = .ok (.iload_n 2, 1) := by decide +kernel
theorem dX2_deafOn_36 : decode cX2_deafOn 36 = .ok (.iconst 1, 1) := by decide +kernel
theorem dX2_deafOn_37 : decode cX2_deafOn 37 = .ok (.iload_n 3, 1) := by decide +kernel
theorem dX2_deafOn_38 : decode cX2_deafOn 38 = .ok (.ishl, 1) := by decide +kernel
theorem dX2_deafOn_39 : decode cX2_deafOn 39 = .ok (.ior, 1) := by decide +kernel
theorem dX2_deafOn_40 : decode cX2_deafOn 40 = .ok (.istore_n 2, 1) := by decide +kernel
theorem dX2_deafOn_41 : decode cX2_deafOn 41 = .ok (.iinc 3 1, 3) := by decide +kernel
theorem dX2_deafOn_44 : decode cX2_deafOn 44 = .ok (.goto (-40), 3) := by decide +kernel
theorem dX2_deafOn_47 : decode cX2_deafOn 47 = .ok (.iload_n 2, 1) := by decide +kernel
theorem dX2_deafOn_48 : decode cX2_deafOn 48 = .ok (.ireturn, 1) := by decide +kernel
theorem dX2_pick_0 : decode cX2_pick 0 = .ok (.iload_n 3, 1) := by decide +kernel
theorem dX2_pick_1 : decode cX2_pick 1 = .ok (.iload_n 2, 1) := by decide +kernel
theorem dX2_pick_2 : decode cX2_pick 2 = .ok (.invokestatic 35, 3) := by decide +kernel
theorem dX2_pick_5 : decode cX2_pick 5 = .ok (.invokestatic 41, 3) := by decide +kernel
theorem dX2_pick_8 : decode cX2_pick 8 = .ok (.istore 4, 2) := by decide +kernel
theorem dX2_pick_10 : decode cX2_pick 10 = .ok (.iconst 0, 1) := by decide +kernel
theorem dX2_pick_11 : decode cX2_pick 11 = .ok (.istore 5, 2) := by decide +kernel
theorem dX2_pick_13 : decode cX2_pick 13 = .ok (.aload_n 0, 1) := by decide +kernel
theorem dX2_pick_14 : decode cX2_pick 14 = .ok (.getfield 15, 3) := by decide +kernel
theorem dX2_pick_17 : decode cX2_pick 17 = .ok (.iload_n 1, 1) := by decide +kernel
theorem dX2_pick_18 : decode cX2_pick 18 = .ok (.iaload, 1) := by decide +kernel
theorem dX2_pick_19 : decode cX2_pick 19 = .ok (.bipush 6, 2) := by decide +kernel
theorem dX2_pick_21 : decode cX2_pick 21 = .ok (.if_icmp .ne 23, 3) := by decide +kernel
theorem dX2_pick_24 : decode cX2_pick 24 = .ok (.aload_n 0, 1) := by decide +kernel
theorem dX2_pick_25 : decode cX2_pick 25 = .ok (.iload_n 1, 1) := by decide +kernel
theorem dX2_pick_26 : decode cX2_pick 26 = .ok (.iload_n 2, 1) := by decide +kernel
theorem dX2_pick_27 : decode cX2_pick 27 = .ok (.iload 4, 2) := by decide +kernel
theorem dX2_pick_29 : decode cX2_pick 29 = .ok (.invokevirtual 47, 3) := by decide +kernel
theorem dX2_pick_32 : decode cX2_pick 32 = .ok (.istore 5, 2) := by decide +kernel
theorem dX2_pick_34 : decode cX2_pick 34 = .ok (.iload 4, 2) := by decide +kernel
theorem dX2_pick_36 : decode cX2_pick 36 = .ok (.iload 5, 2) := by decide +kernel
theorem dX2_pick_38 : decode cX2_pick 38 = .ok (.invokestatic 35, 3) := by decide +kernel
theorem dX2_pick_41 : decode cX2_pick 41 = .ok (.isub, 1) := by decide +kernel
theorem dX2_pick_42 : decode cX2_pick 42 = .ok (.istore 4, 2) := by decide +kernel
theorem dX2_pick_44 : decode cX2_pick 44 = .ok (.iconst 0, 1) := by decide +kernel
theorem dX2_pick_45 : decode cX2_pick 45 = .ok (.istore 6, 2) := by decide +kernel
theorem dX2_pick_47 : decode cX2_pick 47 = .ok (.iload 6, 2) := by decide +kernel
theorem dX2_pick_49 : decode cX2_pick 49 = .ok (.iload 4, 2) := by decide +kernel
theorem dX2_pick_51 : decode cX2_pick 51 = .ok (.if_icmp .ge 30, 3) := by decide +kernel
theorem dX2_pick_54 : decode cX2_pick 54 = .ok (.iload 5, 2) := by decide +kernel
theorem dX2_pick_56 : decode cX2_pick 56 = .ok (.aload_n 0, 1) := by decide +kernel
theorem dX2_pick_57 : decode cX2_pick 57 = .ok (.aload_n 0, 1) := by decide +kernel
theorem dX2_pick_58 : decode cX2_pick 58 = .ok (.getfield 15, 3) := by decide +kernel
theorem dX2_pick_61 : decode cX2_pick 61 = .ok (.iload_n 1, 1) := by decide +kernel
theorem dX2_pick_62 : decode cX2_pick 62 = .ok (.iaload, 1) := by decide +kernel
theorem dX2_pick_63 : decode cX2_pick 63 = .ok (.iload_n 2, 1) := by decide +kernel
theorem dX2_pick_64 : decode cX2_pick 64 = .ok (.iload 5, 2) := by decide +kernel
theorem dX2_pick_66 : decode cX2_pick 66 = .ok (.iconst (-1), 1) := by decide +kernel
theorem dX2_pick_67 : decode cX2_pick 67 = .ok (.ixor, 1) := by decide +kernel
theorem dX2_pick_68 : decode cX2_pick 68 = .ok (.iand, 1) := by decide +kernel
theorem dX2_pick_69 : decode cX2_pick 69 = .ok (.invokevirtual 51, 3) := by decide +kernel
theorem dX2_pick_72 : decode cX2_pick 72 = .ok (.ior, 1) := by decide +kernel
theorem dX2_pick_73 : decode cX2_pick 73 = .ok (.istore 5, 2) := by decide +kernel
theorem dX2_pick_75 : decode cX2_pick 75 = .ok (.iinc 6 1, 3) := by decide +kernel
theorem dX2_pick_78 : decode cX2_pick 78 = .ok (.goto (-31), 3) := by decide +kernel
theorem dX2_pick_81 : decode cX2_pick 81 = .ok (.iload 5, 2) := by decide +kernel
theorem dX2_pick_83 : decode cX2_pick 83 = .ok (.ireturn, 1) := by decide +kernel
theorem dX2_pickFromRow_0 : decode cX2_pickFromRow 0 = .ok (.iconst 0, 1) := by decide +kernel
theorem dX2_pickFromRow_1 : decode cX2_pickFromRow 1 = .ok (.istore 4, 2) := by decide +kernel
theorem dX2_pickFromRow_3 : decode cX2_pickFromRow 3 = .ok (.iconst 0, 1) := by decide +kernel
theorem dX2_pickFromRow_4 : decode cX2_pickFromRow 4 = .ok (.istore 5, 2) := by decide +kernel
theorem dX2_pickFromRow_6 : decode cX2_pickFromRow 6 = .ok (.iload 5, 2) := by decide +kernel
theorem dX2_pickFromRow_8 : decode cX2_pickFromRow 8 = .ok (.aload_n 0, 1) := by decide +kernel
theorem dX2_pickFromRow_9 : decode cX2_pickFromRow 9 = .ok (.getfield 25, 3) := by decide +kernel
theorem dX2_pickFromRow_12 : decode cX2_pickFromRow 12 = .ok (.iload_n 1, 1) := by decide +kernel
theorem dX2_pickFromRow_13 : decode cX2_pickFromRow 13 = .ok (.iaload, 1) := by decide +kernel
theorem dX2_pickFromRow_14 : decode cX2_pickFromRow 14 = .ok (.if_icmp .ge 39, 3) := by decide +kernel
theorem dX2_pickFromRow_17 : decode cX2_pickFromRow 17 = .ok (.iload 4, 2) := by decide +kernel
theorem dX2_pickFromRow_19 : decode cX2_pickFromRow 19 = .ok (.invokestatic 35, 3) := by decide +kernel
theorem dX2_pickFromRow_22 : decode cX2_pickFromRow 22 = .ok (.iload_n 3, 1) := by decide +kernel
theorem dX2_pickFromRow_23 : decode cX2_pickFromRow 23 = .ok (.if_icmp .ge 30, 3) := by decide +kernel
theorem dX2_pickFromRow_26 : decode cX2_pickFromRow 26 = .ok (.iload 4, 2) := by decide +kernel
theorem dX2_pickFromRow_28 : decode cX2_pickFromRow 28 = .ok (.iload_n 2, 1) := by decide +kernel
theorem dX2_pickFromRow_29 : decode cX2_pickFromRow 29 = .ok (.iconst 1, 1) := by decide +kernel
theorem dX2_pickFromRow_30 : decode cX2_pickFromRow 30 = .ok (.aload_n 0, 1) := by decide +kernel
theorem dX2_pickFromRow_31 : decode cX2_pickFromRow 31 = .ok (.getfield 28, 3) := by decide +kernel
theorem dX2_pickFromRow_34 : decode cX2_pickFromRow 34 = .ok (.iload_n 1, 1) := by decide +kernel
theorem dX2_pickFromRow_35 : decode cX2_pickFromRow 35 = .ok (.bipush 7, 2) := by decide +kernel
theorem dX2_pickFromRow_37 : decode cX2_pickFromRow 37 = .ok (.imul, 1) := by decide +kernel
theorem dX2_pickFromRow_38 : decode cX2_pickFromRow 38 = .ok (.iload 5, 2) := by decide +kernel
theorem dX2_pickFromRow_40 : decode cX2_pickFromRow 40 = .ok (.iadd, 1) := by decide +kernel
theorem dX2_pickFromRow_41 : decode cX2_pickFromRow 41 = .ok (.iaload, 1) := by decide +kernel
theorem dX2_pickFromRow_42 : decode cX2_pickFromRow 42 = .ok (.ishl, 1) := by decide +kernel
theorem dX2_pickFromRow_43 : decode cX2_pickFromRow 43 = .ok (.iand, 1) := by decide +kernel
theorem dX2_pickFromRow_44 : decode cX2_pickFromRow 44 = .ok (.ior, 1) := by decide +kernel
theorem dX2_pickFromRow_45 : decode cX2_pickFromRow 45 = .ok (.istore 4, 2) := by decide +kernel
theorem dX2_pickFromRow_47 : decode cX2_pickFromRow 47 = .ok (.iinc 5 1, 3) := by decide +kernel
theorem dX2_pickFromRow_50 : decode cX2_pickFromRow 50 = .ok (.goto (-44), 3) := by decide +kernel
theorem dX2_pickFromRow_53 : decode cX2_pickFromRow 53 = .ok (.iload 4, 2) := by decide +kernel
theorem dX2_pickFromRow_55 : decode cX2_pickFromRow 55 = .ok (.ireturn, 1) := by decide +kernel
theorem dX2_pickNext_0 : decode cX2_pickNext 0 = .ok (.iconst (-1), 1) := by decide +kernel
theorem dX2_pickNext_1 : decode cX2_pickNext 1 = .ok (.istore_n 3, 1) := by decide +kernel
theorem dX2_pickNext_2 : decode cX2_pickNext 2 = .ok (.iconst 0, 1) := by decide +kernel
theorem dX2_pickNext_3 : decode cX2_pickNext 3 = .ok (.istore 4, 2) := by decide +kernel
theorem dX2_pickNext_5 : decode cX2_pickNext 5 = .ok (.iload 4, 2) := by decide +kernel
theorem dX2_pickNext_7 : decode cX2_pickNext 7 = .ok (.aload_n 0, 1) := by decide +kernel
theorem dX2_pickNext_8 : decode cX2_pickNext 8 = .ok (.getfield 9, 3) := by decide +kernel
theorem dX2_pickNext_11 : decode cX2_pickNext 11 = .ok (.if_icmp .ge 37, 3) := by decide +kernel
theorem dX2_pickNext_14 : decode cX2_pickNext 14 = .ok (.iload_n 2, 1) := by decide +kernel
theorem dX2_pickNext_15 : decode cX2_pickNext 15 = .ok (.iload 4, 2) := by decide +kernel
theorem dX2_pickNext_17 : decode cX2_pickNext 17 = .ok (.invokestatic 54, 3) := by decide +kernel
theorem dX2_pickNext_20 : decode cX2_pickNext 20 = .ok (.ifCond .eq 22, 3) := by decide +kernel
theorem dX2_pickNext_23 : decode cX2_pickNext 23 = .ok (.iload_n 3, 1) := by decide +kernel
theorem dX2_pickNext_24 : decode cX2_pickNext 24 = .ok (.iconst (-1), 1) := by decide +kernel
theorem dX2_pickNext_25 : decode cX2_pickNext 25 = .ok (.if_icmp .eq 14, 3) := by decide +kernel
theorem dX2_pickNext_28 : decode cX2_pickNext 28 = .ok (.aload_n 0, 1) := by decide +kernel
theorem dX2_pickNext_29 : decode cX2_pickNext 29 = .ok (.iload_n 1, 1) := by decide +kernel
theorem dX2_pickNext_30 : decode cX2_pickNext 30 = .ok (.iload 4, 2) := by decide +kernel
theorem dX2_pickNext_32 : decode cX2_pickNext 32 = .ok (.iload_n 3, 1) := by decide +kernel
theorem dX2_pickNext_33 : decode cX2_pickNext 33 = .ok (.invokevirtual 57, 3) := by decide +kernel
theorem dX2_pickNext_36 : decode cX2_pickNext 36 = .ok (.ifCond .eq 6, 3) := by decide +kernel
theorem dX2_pickNext_39 : decode cX2_pickNext 39 = .ok (.iload 4, 2) := by decide +kernel
theorem dX2_pickNext_41 : decode cX2_pickNext 41 = .ok (.istore_n 3, 1) := by decide +kernel
theorem dX2_pickNext_42 : decode cX2_pickNext 42 = .ok (.iinc 4 1, 3) := by decide +kernel
theorem dX2_pickNext_45 : decode cX2_pickNext 45 = .ok (.goto (-40), 3) := by decide +kernel
theorem dX2_pickNext_48 : decode cX2_pickNext 48 = .ok (.iload_n 3, 1) := by decide +kernel
theorem dX2_pickNext_49 : decode cX2_pickNext 49 = .ok (.iconst (-1), 1) := by decide +kernel
theorem dX2_pickNext_50 : decode cX2_pickNext 50 = .ok (.if_icmp .ne 7, 3) := by decide +kernel
theorem dX2_pickNext_53 : decode cX2_pickNext 53 = .ok (.iconst 0, 1) := by decide +kernel
theorem dX2_pickNext_54 : decode cX2_pickNext 54 = .ok (.goto 6, 3) := by decide +kernel
theorem dX2_pickNext_57 : decode cX2_pickNext 57 = .ok (.iconst 1, 1) := by decide +kernel
theorem dX2_pickNext_58 : decode cX2_pickNext 58 = .ok (.iload_n 3, 1) := by decide +kernel
theorem dX2_pickNext_59 : decode cX2_pickNext 59 = .ok (.ishl, 1) := by decide +kernel
theorem dX2_pickNext_60 : decode cX2_pickNext 60 = .ok (.ireturn, 1) := by decide +kernel
theorem dX2_isAhead_0 : decode cX2_isAhead 0 = .ok (.iload_n 1, 1) := by decide +kernel
theorem dX2_isAhead_1 : decode cX2_isAhead 1 = .ok (.iconst 1, 1) := by decide +kernel
theorem dX2_isAhead_2 : decode cX2_isAhead 2 = .ok (.if_icmp .eq 8, 3) := by decide +kernel
theorem dX2_isAhead_5 : decode cX2_isAhead 5 = .ok (.iload_n 1, 1) := by decide +kernel
theorem dX2_isAhead_6 : decode cX2_isAhead 6 = .ok (.iconst 4, 1) := by decide +kernel
theorem dX2_isAhead_7 : decode cX2_isAhead 7 = .ok (.if_icmp .ne 30, 3) := by decide +kernel
theorem dX2_isAhead_10 : decode cX2_isAhead 10 = .ok (.aload_n 0, 1) := by decide +kernel
theorem dX2_isAhead_11 : decode cX2_isAhead 11 = .ok (.getfield 22, 3) := by decide +kernel
theorem dX2_isAhead_14 : decode cX2_isAhead 14 = .ok (.iload_n 2, 1) := by decide +kernel
theorem dX2_isAhead_15 : decode cX2_isAhead 15 = .ok (.iaload, 1) := by decide +kernel
theorem dX2_isAhead_16 : decode cX2_isAhead 16 = .ok (.invokestatic 35, 3) := by decide +kernel
theorem dX2_isAhead_19 : decode cX2_isAhead 19 = .ok (.aload_n 0, 1) := by decide +kernel
theorem dX2_isAhead_20 : decode cX2_isAhead 20 = .ok (.getfield 22, 3) := by decide +kernel
theorem dX2_isAhead_23 : decode cX2_isAhead 23 = .ok (.iload_n 3, 1) := by decide +kernel
theorem dX2_isAhead_24 : decode cX2_isAhead 24 = .ok (.iaload, 1) := by decide +kernel
theorem dX2_isAhead_25 : decode cX2_isAhead 25 = .ok (.invokestatic 35, 3) := by decide +kernel
theorem dX2_isAhead_28 : decode cX2_isAhead 28 = .ok (.if_icmp .le 7, 3) := by decide +kernel
theorem dX2_isAhead_31 : decode cX2_isAhead 31 = .ok (.iconst 1, 1) := by decide +kernel
theorem dX2_isAhead_32 : decode cX2_isAhead 32 = .ok (.goto 4, 3) := by decide +kernel
theorem dX2_isAhead_35 : decode cX2_isAhead 35 = .ok (.iconst 0, 1) := by decide +kernel
theorem dX2_isAhead_36 : decode cX2_isAhead 36 = .ok (.ireturn, 1) := by decide +kernel
theorem dX2_isAhead_37 : decode cX2_isAhead 37 = .ok (.iload_n 1, 1) := by decide +kernel
theorem dX2_isAhead_38 : decode cX2_isAhead 38 = .ok (.iconst 3, 1) := by decide +kernel
theorem dX2_isAhead_39 : decode cX2_isAhead 39 = .ok (.if_icmp .eq 9, 3) := by decide +kernel
theorem dX2_isAhead_42 : decode cX2_isAhead 42 = .ok (.iload_n 1, 1) := by decide +kernel
theorem dX2_isAhead_43 : decode cX2_isAhead 43 = .ok (.bipush 6, 2) := by decide +kernel
theorem dX2_isAhead_45 : decode cX2_isAhead 45 = .ok (.if_icmp .ne 7, 3) := by decide +kernel
theorem dX2_isAhead_48 : decode cX2_isAhead 48 = .ok (.iconst 1, 1) := by decide +kernel
theorem dX2_isAhead_49 : decode cX2_isAhead 49 = .ok (.goto 4, 3) := by decide +kernel
theorem dX2_isAhead_52 : decode cX2_isAhead 52 = .ok (.iconst 0, 1) := by decide +kernel
theorem dX2_isAhead_53 : decode cX2_isAhead 53 = .ok (.ireturn, 1) := by decide +kernel
theorem dX2_copyFrom_0 : decode cX2_copyFrom 0 = .ok (.aload_n 0, 1) := by decide +kernel
theorem dX2_copyFrom_1 : decode cX2_copyFrom 1 = .ok (.aload_n 1, 1) := by decide +kernel
theorem dX2_copyFrom_2 : decode cX2_copyFrom 2 = .ok (.getfield 9, 3) := by decide +kernel
theorem dX2_copyFrom_5 : decode cX2_copyFrom 5 = .ok (.putfield 9, 3) := by decide +kernel
theorem dX2_copyFrom_8 : decode cX2_copyFrom 8 = .ok (.aload_n 1, 1) := by decide +kernel
theorem dX2_copyFrom_9 : decode cX2_copyFrom 9 = .ok (.getfield 15, 3) := by decide +kernel
theorem dX2_copyFrom_12 : decode cX2_copyFrom 12 = .ok (.iconst 0, 1) := by decide +kernel
theorem dX2_copyFrom_13 : decode cX2_copyFrom 13 = .ok (.aload_n 0, 1) := by decide +kernel
theorem dX2_copyFrom_14 : decode cX2_copyFrom 14 = .ok (.getfield 15, 3) := by decide +kernel
theorem dX2_copyFrom_17 : decode cX2_copyFrom 17 = .ok (.iconst 0, 1) := by decide +kernel
theorem dX2_copyFrom_18 : decode cX2_copyFrom 18 = .ok (.bipush 7, 2) := by decide +kernel
theorem dX2_copyFrom_20 : decode cX2_copyFrom 20 = .ok (.invokestatic 61, 3) := by decide +kernel
theorem dX2_copyFrom_23 : decode cX2_copyFrom 23 = .ok (.aload_n 1, 1) := by decide +kernel
theorem dX2_copyFrom_24 : decode cX2_copyFrom 24 = .ok (.getfield 19, 3) := by decide +kernel
theorem dX2_copyFrom_27 : decode cX2_copyFrom 27 = .ok (.iconst 0, 1) := by decide +kernel
theorem dX2_copyFrom_28 : decode cX2_copyFrom 28 = .ok (.aload_n 0, 1) := by decide +kernel
theorem dX2_copyFrom_29 : decode cX2_copyFrom 29 = .ok (.getfield 19, 3) := by decide +kernel
theorem dX2_copyFrom_32 : decode cX2_copyFrom 32 = .ok (.iconst 0, 1) := by decide +kernel
theorem dX2_copyFrom_33 : decode cX2_copyFrom 33 = .ok (.bipush 7, 2) := by decide +kernel
theorem dX2_copyFrom_35 : decode cX2_copyFrom 35 = .ok (.invokestatic 61, 3) := by decide +kernel
theorem dX2_copyFrom_38 : decode cX2_copyFrom 38 = .ok (.aload_n 1, 1) := by decide +kernel
theorem dX2_copyFrom_39 : decode cX2_copyFrom 39 = .ok (.getfield 22, 3) := by decide +kernel
theorem dX2_copyFrom_42 : decode cX2_copyFrom 42 = .ok (.iconst 0, 1) := by decide +kernel
theorem dX2_copyFrom_43 : decode cX2_copyFrom 43 = .ok (.aload_n 0, 1) := by decide +kernel
theorem dX2_copyFrom_44 : decode cX2_copyFrom 44 = .ok (.getfield 22, 3) := by decide +kernel
theorem dX2_copyFrom_47 : decode cX2_copyFrom 47 = .ok (.iconst 0, 1) := by decide +kernel
theorem dX2_copyFrom_48 : decode cX2_copyFrom 48 = .ok (.bipush 7, 2) := by decide +kernel
theorem dX2_copyFrom_50 : decode cX2_copyFrom 50 = .ok (.invokestatic 61, 3) := by decide +kernel
theorem dX2_copyFrom_53 : decode cX2_copyFrom 53 = .ok (.aload_n 1, 1) := by decide +kernel
theorem dX2_copyFrom_54 : decode cX2_copyFrom 54 = .ok (.getfield 25, 3) := by decide +kernel
theorem dX2_copyFrom_57 : decode cX2_copyFrom 57 = .ok (.iconst 0, 1) := by decide +kernel
theorem dX2_copyFrom_58 : decode cX2_copyFrom 58 = .ok (.aload_n 0, 1) := by decide +kernel
theorem dX2_copyFrom_59 : decode cX2_copyFrom 59 = .ok (.getfield 25, 3) := by decide +kernel
theorem dX2_copyFrom_62 : decode cX2_copyFrom 62 = .ok (.iconst 0, 1) := by decide +kernel
theorem dX2_copyFrom_63 : decode cX2_copyFrom 63 = .ok (.bipush 7, 2) := by decide +kernel
theorem dX2_copyFrom_65 : decode cX2_copyFrom 65 = .ok (.invokestatic 61, 3) := by decide +kernel
theorem dX2_copyFrom_68 : decode cX2_copyFrom 68 = .ok (.aload_n 1, 1) := by decide +kernel
theorem dX2_copyFrom_69 : decode cX2_copyFrom 69 = .ok (.getfield 28, 3) := by decide +kernel
theorem dX2_copyFrom_72 : decode cX2_copyFrom 72 = .ok (.iconst 0, 1) := by decide +kernel
theorem dX2_copyFrom_73 : decode cX2_copyFrom 73 = .ok (.aload_n 0, 1) := by decide +kernel
theorem dX2_copyFrom_74 : decode cX2_copyFrom 74 = .ok (.getfield 28, 3) := by decide +kernel
theorem dX2_copyFrom_77 : decode cX2_copyFrom 77 = .ok (.iconst 0, 1) := by decide +kernel
theorem dX2_copyFrom_78 : decode cX2_copyFrom 78 = .ok (.bipush 49, 2) := by decide +kernel
theorem dX2_copyFrom_80 : decode cX2_copyFrom 80 = .ok (.invokestatic 61, 3) := by decide +kernel
theorem dX2_copyFrom_83 : decode cX2_copyFrom 83 = .ok (.return_, 1) := by decide +kernel
theorem dX3_init_0 : decode cX3_init 0 = .ok (.aload_n 0, 1) := by decide +kernel
theorem dX3_init_1 : decode cX3_init 1 = .ok (.invokespecial 3, 3) := by decide +kernel
theorem dX3_init_4 : decode cX3_init 4 = .ok (.aload_n 0, 1) := by decide +kernel
theorem dX3_init_5 : decode cX3_init 5 = .ok (.new 9, 3) := by decide +kernel
theorem dX3_init_8 : decode cX3_init 8 = .ok (.dup, 1) := by decide +kernel
theorem dX3_init_9 : decode cX3_init 9 = .ok (.invokespecial 11, 3) := by decide +kernel
theorem dX3_init_12 : decode cX3_init 12 = .ok (.putfield 12, 3) := by decide +kernel
theorem dX3_init_15 : decode cX3_init 15 = .ok (.aload_n 0, 1) := by decide +kernel
theorem dX3_init_16 : decode cX3_init 16 = .ok (.new 18, 3) := by decide +kernel
theorem dX3_init_19 : decode cX3_init 19 = .ok (.dup, 1) := by decide +kernel
theorem dX3_init_20 : decode cX3_init 20 = .ok (.invokespecial 20, 3) := by decide +kernel
theorem dX3_init_23 : decode cX3_init 23 = .ok (.putfield 21, 3) := by decide +kernel
theorem dX3_init_26 : decode cX3_init 26 = .ok (.aload_n 0, 1) := by decide +kernel
theorem dX3_init_27 : decode cX3_init 27 = .ok (.iconst 0, 1) := by decide +kernel
theorem dX3_init_28 : decode cX3_init 28 = .ok (.putfield 25, 3) := by decide +kernel
theorem dX3_init_31 : decode cX3_init 31 = .ok (.aload_n 0, 1) := by decide +kernel
theorem dX3_init_32 : decode cX3_init 32 = .ok (.iconst 0, 1) := by decide +kernel
theorem dX3_init_33 : decode cX3_init 33 = .ok (.putfield 29, 3) := by decide +kernel
theorem dX3_init_36 : decode cX3_init 36 = .ok (.aload_n 0, 1) := by decide +kernel
theorem dX3_init_37 : decode cX3_init 37 = .ok (.iconst 0, 1) := by decide +kernel
theorem dX3_init_38 : decode cX3_init 38 = .ok (.putfield 32, 3) := by decide +kernel
theorem dX3_init_41 : decode cX3_init 41 = .ok (.return_, 1) := by decide +kernel
theorem dX3_read_0 : decode cX3_read 0 = .ok (.aload_n 0, 1) := by decide +kernel
theorem dX3_read_1 : decode cX3_read 1 = .ok (.getfield 12, 3) := by decide +kernel
theorem dX3_read_4 : decode cX3_read 4 = .ok (.aload_n 1, 1) := by decide +kernel
theorem dX3_read_5 : decode cX3_read 5 = .ok (.invokevirtual 36, 3) := by decide +kernel
theorem dX3_read_8 : decode cX3_read 8 = .ok (.aload_n 0, 1) := by decide +kernel
theorem dX3_read_9 : decode cX3_read 9 = .ok (.getfield 21, 3) := by decide +kernel
theorem dX3_read_12 : decode cX3_read 12 = .ok (.invokevirtual 40, 3) := by decide +kernel
theorem dX3_read_15 : decode cX3_read 15 = .ok (.aload_n 0, 1) := by decide +kernel
theorem dX3_read_16 : decode cX3_read 16 = .ok (.iconst 0, 1) := by decide +kernel
theorem dX3_read_17 : decode cX3_read 17 = .ok (.putfield 25, 3) := by decide +kernel
theorem dX3_read_20 : decode cX3_read 20 = .ok (.iconst 1, 1) := by decide +kernel
theorem dX3_read_21 : decode cX3_read 21 = .ok (.istore_n 2, 1) := by decide +kernel
theorem dX3_read_22 : decode cX3_read 22 = .ok (.iload_n 2, 1) := by decide +kernel
theorem dX3_read_23 : decode cX3_read 23 = .ok (.bipush 10, 2) := by decide +kernel
theorem dX3_read_25 : decode cX3_read 25 = .ok (.if_icmp .gt 66, 3) := by decide +kernel
theorem dX3_read_28 : decode cX3_read 28 = .ok (.aload_n 0, 1) := by decide +kernel
theorem dX3_read_29 : decode cX3_read 29 = .ok (.invokevirtual 43, 3) := by decide +kernel
theorem dX3_read_32 : decode cX3_read 32 = .ok (.ifCond .eq 18, 3) := by decide +kernel
theorem dX3_read_35 : decode cX3_read 35 = .ok (.aload_n 0, 1) := by decide +kernel
theorem dX3_read_36 : decode cX3_read 36 = .ok (.getfield 32, 3) := by decide +kernel
theorem dX3_read_39 : decode cX3_read 39 = .ok (.ifCond .eq 13, 3) := by decide +kernel
theorem dX3_read_42 : decode cX3_read 42 = .ok (.aload_n 0, 1) := by decide +kernel
theorem dX3_read_43 : decode cX3_read 43 = .ok (.iconst 0, 1) := by decide +kernel
theorem dX3_read_44 : decode cX3_read 44 = .ok (.invokevirtual 47, 3) := by decide +kernel
theorem dX3_read_47 : decode cX3_read 47 = .ok (.ifCond .ne 5, 3) := by decide +kernel
theorem dX3_read_50 : decode cX3_read 50 = .ok (.iconst 0, 1) := by decide +kernel
theorem dX3_read_51 : decode cX3_read 51 = .ok (.ireturn, 1) := by decide +kernel
theorem dX3_read_52 : decode cX3_read 52 = .ok (.aload_n 0, 1) := by decide +kernel
theorem dX3_read_53 : decode cX3_read 53 = .ok (.getfield 25, 3) := by decide +kernel
theorem dX3_read_56 : decode cX3_read 56 = .ok (.aload_n 0, 1) := by decide +kernel
theorem dX3_read_57 : decode cX3_read 57 = .ok (.getfield 12, 3) := by decide +kernel
theorem dX3_read_60 : decode cX3_read 60 = .ok (.getfield 51, 3) := by decide +kernel
theorem dX3_read_63 : decode cX3_read 63 = .ok (.if_icmp .lt 5, 3) := by decide +kernel
theorem dX3_read_66 : decode cX3_read 66 = .ok (.iconst 1, 1) := by decide +kernel
theorem dX3_read_67 : decode cX3_read 67 = .ok (.ireturn, 1) := by decide +kernel
theorem dX3_read_68 : decode cX3_read 68 = .ok (.iload_n 2, 1) := by decide +kernel
theorem dX3_read_69 : decode cX3_read 69 = .ok (.bipush 10, 2) := by decide +kernel
theorem dX3_read_71 : decode cX3_read 71 = .ok (.if_icmp .eq 12, 3) := by decide +kernel
theorem dX3_read_74 : decode cX3_read 74 = .ok (.aload_n 0, 1) := by decide +kernel
theorem dX3_read_75 : decode cX3_read 75 = .ok (.bipush 59, 2) := by decide +kernel
theorem dX3_read_77 : decode cX3_read 77 = .ok (.invokevirtual 54, 3) := by decide +kernel
theorem dX3_read_80 : decode cX3_read 80 = .ok (.ifCond .ne 5, 3) := by decide +kernel
theorem dX3_read_83 : decode cX3_read 83 = .ok (.iconst 0, 1) := by decide +kernel
theorem dX3_read_84 : decode cX3_read 84 = .ok (.ireturn, 1) := by decide +kernel
theorem dX3_read_85 : decode cX3_read 85 = .ok (.iinc 2 1, 3) := by decide +kernel
theorem dX3_read_88 : decode cX3_read 88 = .ok (.goto (-66), 3) := by decide +kernel
theorem dX3_read_91 : decode cX3_read 91 = .ok (.iconst 0, 1) := by decide +kernel
theorem dX3_read_92 : decode cX3_read 92 = .ok (.ireturn, 1) := by decide +kernel
theorem dX3_readHead_0 : decode cX3_readHead 0 = .ok (.aload_n 0, 1) := by decide +kernel
theorem dX3_readHead_1 : decode cX3_readHead 1 = .ok (.getfield 12, 3) := by decide +kernel
theorem dX3_readHead_4 : decode cX3_readHead 4 = .ok (.aload_n 0, 1) := by decide +kernel
theorem dX3_readHead_5 : decode cX3_readHead 5 = .ok (.getfield 25, 3) := by decide +kernel
theorem dX3_readHead_8 : decode cX3_readHead 8 = .ok (.invokevirtual 58, 3) := by decide +kernel
theorem dX3_readHead_11 : decode cX3_readHead 11 = .ok (.lookupswitch 73 #[(102, 38), (108, 68), (115, 33)], 33) := by decide +kernel
theorem dX3_readHead_44 : decode cX3_readHead 44 = .ok (.aload_n 0, 1) := by decide +kernel
theorem dX3_readHead_45 : decode cX3_readHead 45 = .ok (.invokevirtual 62, 3) := by decide +kernel
theorem dX3_readHead_48 : decode cX3_readHead 48 = .ok (.ireturn, 1) := by decide +kernel
theorem dX3_readHead_49 : decode cX3_readHead 49 = .ok (.aload_n 0, 1) := by decide +kernel
theorem dX3_readHead_50 : decode cX3_readHead 50 = .ok (.getfield 12, 3) := by decide +kernel
theorem dX3_readHead_53 : decode cX3_readHead 53 = .ok (.aload_n 0, 1) := by decide +kernel
theorem dX3_readHead_54 : decode cX3_readHead 54 = .ok (.getfield 25, 3) := by decide +kernel
theorem dX3_readHead_57 : decode cX3_readHead 57 = .ok (.iconst 1, 1) := by decide +kernel
theorem dX3_readHead_58 : decode cX3_readHead 58 = .ok (.iadd, 1) := by decide +kernel
theorem dX3_readHead_59 : decode cX3_readHead 59 = .ok (.invokevirtual 58, 3) := by decide +kernel
theorem dX3_readHead_62 : decode cX3_readHead 62 = .ok (.bipush 101, 2) := by decide +kernel
theorem dX3_readHead_64 : decode cX3_readHead 64 = .ok (.if_icmp .ne 10, 3) := by decide +kernel
theorem dX3_readHead_67 : decode cX3_readHead 67 = .ok (.aload_n 0, 1) := by decide +kernel
theorem dX3_readHead_68 : decode cX3_readHead 68 = .ok (.invokevirtual 65, 3) := by decide +kernel
theorem dX3_readHead_71 : decode cX3_readHead 71 = .ok (.goto 7, 3) := by decide +kernel
theorem dX3_readHead_74 : decode cX3_readHead 74 = .ok (.aload_n 0, 1) := by decide +kernel
theorem dX3_readHead_75 : decode cX3_readHead 75 = .ok (.invokevirtual 68, 3) := by decide +kernel
theorem dX3_readHead_78 : decode cX3_readHead 78 = .ok (.ireturn, 1) := by decide +kernel
theorem dX3_readHead_79 : decode cX3_readHead 79 = .ok (.aload_n 0, 1) := by decide +kernel
theorem dX3_readHead_80 : decode cX3_readHead 80 = .ok (.invokevirtual 71, 3) := by decide +kernel
theorem dX3_readHead_83 : decode cX3_readHead 83 = .ok (.ireturn, 1) := by decide +kernel
theorem dX3_readHead_84 : decode cX3_readHead 84 = .ok (.iconst 0, 1) := by decide +kernel
theorem dX3_readHead_85 : decode cX3_readHead 85 = .ok (.ireturn, 1) := by decide +kernel
theorem dX3_readShun_0 : decode cX3_readShun 0 = .ok (.aload_n 0, 1) := by decide +kernel
theorem dX3_readShun_1 : decode cX3_readShun 1 = .ok (.ldc 74, 2) := by decide +kernel
theorem dX3_readShun_3 : decode cX3_readShun 3 = .ok (.invokevirtual 76, 3) := by decide +kernel
theorem dX3_readShun_6 : decode cX3_readShun 6 = .ok (.ifCond .ne 5, 3) := by decide +kernel
theorem dX3_readShun_9 : decode cX3_readShun 9 = .ok (.iconst 0, 1) := by decide +kernel
theorem dX3_readShun_10 : decode cX3_readShun 10 = .ok (.ireturn, 1) := by decide +kernel
theorem dX3_readShun_11 : decode cX3_readShun 11 = .ok (.aload_n 0, 1) := by decide +kernel
theorem dX3_readShun_12 : decode cX3_readShun 12 = .ok (.getfield 21, 3) := by decide +kernel
theorem dX3_readShun_15 : decode cX3_readShun 15 = .ok (.iconst 0, 1) := by decide +kernel
theorem dX3_readShun_16 : decode cX3_readShun 16 = .ok (.iconst 1, 1) := by decide +kernel
theorem dX3_readShun_17 : decode cX3_readShun 17 = .ok (.invokevirtual 80, 3) := by decide +kernel
theorem dX3_readShun_20 : decode cX3_readShun 20 = .ok (.aload_n 0, 1) := by decide +kernel
theorem dX3_readShun_21 : decode cX3_readShun 21 = .ok (.iconst 1, 1) := by decide +kernel
theorem dX3_readShun_22 : decode cX3_readShun 22 = .ok (.putfield 32, 3) := by decide +kernel
theorem dX3_readShun_25 : decode cX3_readShun 25 = .ok (.iconst 1, 1) := by decide +kernel
theorem dX3_readShun_26 : decode cX3_readShun 26 = .ok (.ireturn, 1) := by decide +kernel
theorem dX3_readFine_0 : decode cX3_readFine 0 = .ok (.aload_n 0, 1) := by decide +kernel
theorem dX3_readFine_1 : decode cX3_readFine 1 = .ok (.ldc 84, 2) := by decide +kernel
theorem dX3_readFine_3 : decode cX3_readFine 3 = .ok (.invokevirtual 76, 3) := by decide +kernel
theorem dX3_readFine_6 : decode cX3_readFine 6 = .ok (.ifCond .eq 19, 3) := by decide +kernel
theorem dX3_readFine_9 : decode cX3_readFine 9 = .ok (.aload_n 0, 1) := by decide +kernel
theorem dX3_readFine_10 : decode cX3_readFine 10 = .ok (.invokevirtual 86, 3) := by decide +kernel
theorem dX3_readFine_13 : decode cX3_readFine 13 = .ok (.ifCond .eq 12, 3) := by decide +kernel
theorem dX3_readFine_16 : decode cX3_readFine 16 = .ok (.aload_n 0, 1) := by decide +kernel
theorem dX3_readFine_17 : decode cX3_readFine 17 = .ok (.bipush 32, 2) := by decide +kernel
theorem dX3_readFine_19 : decode cX3_readFine 19 = .ok (.invokevirtual 54, 3) := by decide +kernel
theorem dX3_readFine_22 : decode cX3_readFine 22 = .ok (.ifCond .ne 5, 3) := by decide +kernel
theorem dX3_readFine_25 : decode cX3_readFine 25 = .ok (.iconst 0, 1) := by decide +kernel
theorem dX3_readFine_26 : decode cX3_readFine 26 = .ok (.ireturn, 1) := by decide +kernel
theorem dX3_readFine_27 : decode cX3_readFine 27 = .ok (.aload_n 0, 1) := by decide +kernel
theorem dX3_readFine_28 : decode cX3_readFine 28 = .ok (.getfield 21, 3) := by decide +kernel
theorem dX3_readFine_31 : decode cX3_readFine 31 = .ok (.iconst 1, 1) := by decide +kernel
theorem dX3_readFine_32 : decode cX3_readFine 32 = .ok (.aload_n 0, 1) := by decide +kernel
theorem dX3_readFine_33 : decode cX3_readFine 33 = .ok (.getfield 29, 3) := by decide +kernel
theorem dX3_readFine_36 : decode cX3_readFine 36 = .ok (.invokevirtual 80, 3) := by decide +kernel
theorem dX3_readFine_39 : decode cX3_readFine 39 = .ok (.aload_n 0, 1) := by decide +kernel
theorem dX3_readFine_40 : decode cX3_readFine 40 = .ok (.iconst 1, 1) := by decide +kernel
theorem dX3_readFine_41 : decode cX3_readFine 41 = .ok (.putfield 32, 3) := by decide +kernel
theorem dX3_readFine_44 : decode cX3_readFine 44 = .ok (.iconst 1, 1) := by decide +kernel
theorem dX3_readFine_45 : decode cX3_readFine 45 = .ok (.ireturn, 1) := by decide +kernel
theorem dX3_readFewer_0 : decode cX3_readFewer 0 = .ok (.aload_n 0, 1) := by decide +kernel
theorem dX3_readFewer_1 : decode cX3_readFewer 1 = .ok (.ldc 89, 2) := by decide +kernel
theorem dX3_readFewer_3 : decode cX3_readFewer 3 = .ok (.invokevirtual 76, 3) := by decide +kernel
theorem dX3_readFewer_6 : decode cX3_readFewer 6 = .ok (.ifCond .eq 10, 3) := by decide +kernel
theorem dX3_readFewer_9 : decode cX3_readFewer 9 = .ok (.aload_n 0, 1) := by decide +kernel
theorem dX3_readFewer_10 : decode cX3_readFewer 10 = .ok (.invokevirtual 86, 3) := by decide +kernel
theorem dX3_readFewer_13 : decode cX3_readFewer 13 = .ok (.ifCond .ne 5, 3) := by decide +kernel
theorem dX3_readFewer_16 : decode cX3_readFewer 16 = .ok (.iconst 0, 1) := by decide +kernel
theorem dX3_readFewer_17 : decode cX3_readFewer 17 = .ok (.ireturn, 1) := by decide +kernel
theorem dX3_readFewer_18 : decode cX3_readFewer 18 = .ok (.aload_n 0, 1) := by decide +kernel
theorem dX3_readFewer_19 : decode cX3_readFewer 19 = .ok (.getfield 21, 3) := by decide +kernel
theorem dX3_readFewer_22 : decode cX3_readFewer 22 = .ok (.aload_n 0, 1) := by decide +kernel
theorem dX3_readFewer_23 : decode cX3_readFewer 23 = .ok (.getfield 29, 3) := by decide +kernel
theorem dX3_readFewer_26 : decode cX3_readFewer 26 = .ok (.putfield 91, 3) := by decide +kernel
theorem dX3_readFewer_29 : decode cX3_readFewer 29 = .ok (.aload_n 0, 1) := by decide +kernel
theorem dX3_readFewer_30 : decode cX3_readFewer 30 = .ok (.iconst 0, 1) := by decide +kernel
theorem dX3_readFewer_31 : decode cX3_readFewer 31 = .ok (.putfield 32, 3) := by decide +kernel
theorem dX3_readFewer_34 : decode cX3_readFewer 34 = .ok (.iconst 1, 1) := by decide +kernel
theorem dX3_readFewer_35 : decode cX3_readFewer 35 = .ok (.ireturn, 1) := by decide +kernel
theorem dX3_readLaw_0 : decode cX3_readLaw 0 = .ok (.aload_n 0, 1) := by decide +kernel
theorem dX3_readLaw_1 : decode cX3_readLaw 1 = .ok (.ldc 94, 2) := by decide +kernel
theorem dX3_readLaw_3 : decode cX3_readLaw 3 = .ok (.invokevirtual 76, 3) := by decide +kernel
theorem dX3_readLaw_6 : decode cX3_readLaw 6 = .ok (.ifCond .eq 10, 3) := by decide +kernel
theorem dX3_readLaw_9 : decode cX3_readLaw 9 = .ok (.aload_n 0, 1) := by decide +kernel
theorem dX3_readLaw_10 : decode cX3_readLaw 10 = .ok (.invokevirtual 86, 3) := by decide +kernel
theorem dX3_readLaw_13 : decode cX3_readLaw 13 = .ok (.ifCond .ne 5, 3) := by decide +kernel
theorem dX3_readLaw_16 : decode cX3_readLaw 16 = .ok (.iconst 0, 1) := by decide +kernel
theorem dX3_readLaw_17 : decode cX3_readLaw 17 = .ok (.ireturn, 1) := by decide +kernel
theorem dX3_readLaw_18 : decode cX3_readLaw 18 = .ok (.aload_n 0, 1) := by decide +kernel
theorem dX3_readLaw_19 : decode cX3_readLaw 19 = .ok (.getfield 21, 3) := by decide +kernel
theorem dX3_readLaw_22 : decode cX3_readLaw 22 = .ok (.aload_n 0, 1) := by decide +kernel
theorem dX3_readLaw_23 : decode cX3_readLaw 23 = .ok (.getfield 29, 3) := by decide +kernel
theorem dX3_readLaw_26 : decode cX3_readLaw 26 = .ok (.iconst 2, 1) := by decide +kernel
theorem dX3_readLaw_27 : decode cX3_readLaw 27 = .ok (.irem, 1) := by decide +kernel
theorem dX3_readLaw_28 : decode cX3_readLaw 28 = .ok (.putfield 96, 3) := by decide +kernel
theorem dX3_readLaw_31 : decode cX3_readLaw 31 = .ok (.aload_n 0, 1) := by decide +kernel
theorem dX3_readLaw_32 : decode cX3_readLaw 32 = .ok (.iconst 0, 1) := by decide +kernel
theorem dX3_readLaw_33 : decode cX3_readLaw 33 = .ok (.putfield 32, 3) := by decide +kernel
theorem dX3_readLaw_36 : decode cX3_readLaw 36 = .ok (.iconst 1, 1) := by decide +kernel
theorem dX3_readLaw_37 : decode cX3_readLaw 37 = .ok (.ireturn, 1) := by decide +kernel
theorem dX3_readEither_0 : decode cX3_readEither 0 = .ok (.aload_n 0, 1) := by decide +kernel
theorem dX3_readEither_1 : decode cX3_readEither 1 = .ok (.iload_n 1, 1) := by decide +kernel
theorem dX3_readEither_2 : decode cX3_readEither 2 = .ok (.invokevirtual 99, 3) := by decide +kernel
theorem dX3_readEither_5 : decode cX3_readEither 5 = .ok (.ifCond .ne 5, 3) := by decide +kernel
theorem dX3_readEither_8 : decode cX3_readEither 8 = .ok (.iconst 0, 1) := by decide +kernel
theorem dX3_readEither_9 : decode cX3_readEither 9 = .ok (.ireturn, 1) := by decide +kernel
theorem dX3_readEither_10 : decode cX3_readEither 10 = .ok (.iconst 0, 1) := by decide +kernel
theorem dX3_readEither_11 : decode cX3_readEither 11 = .ok (.istore_n 2, 1) := by decide +kernel
theorem dX3_readEither_12 : decode cX3_readEither 12 = .ok (.iconst 1, 1) := by decide +kernel
theorem dX3_readEither_13 : decode cX3_readEither 13 = .ok (.istore_n 3, 1) := by decide +kernel
theorem dX3_readEither_14 : decode cX3_readEither 14 = .ok (.iload_n 3, 1) := by decide +kernel
theorem dX3_readEither_15 : decode cX3_readEither 15 = .ok (.bipush 100, 2) := by decide +kernel
theorem dX3_readEither_17 : decode cX3_readEither 17 = .ok (.if_icmp .gt 86, 3) := by decide +kernel
theorem dX3_readEither_20 : decode cX3_readEither 20 = .ok (.aload_n 0, 1) := by decide +kernel
theorem dX3_readEither_21 : decode cX3_readEither 21 = .ok (.bipush 38, 2) := by decide +kernel
theorem dX3_readEither_23 : decode cX3_readEither 23 = .ok (.invokevirtual 54, 3) := by decide +kernel
theorem dX3_readEither_26 : decode cX3_readEither 26 = .ok (.istore 4, 2) := by decide +kernel
theorem dX3_readEither_28 : decode cX3_readEither 28 = .ok (.iload 4, 2) := by decide +kernel
theorem dX3_readEither_30 : decode cX3_readEither 30 = .ok (.ifCond .ne 20, 3) := by decide +kernel
theorem dX3_readEither_33 : decode cX3_readEither 33 = .ok (.iload_n 2, 1) := by decide +kernel
theorem dX3_readEither_34 : decode cX3_readEither 34 = .ok (.ifCond .eq 16, 3) := by decide +kernel
theorem dX3_readEither_37 : decode cX3_readEither 37 = .ok (.aload_n 0, 1) := by decide +kernel
theorem dX3_readEither_38 : decode cX3_readEither 38 = .ok (.getfield 21, 3) := by decide +kernel
theorem dX3_readEither_41 : decode cX3_readEither 41 = .ok (.bipush (-3), 2) := by decide +kernel
theorem dX3_readEither_43 : decode cX3_readEither 43 = .ok (.iconst 0, 1) := by decide +kernel
theorem dX3_readEither_44 : decode cX3_readEither 44 = .ok (.iconst 0, 1) := by decide +kernel
theorem dX3_readEither_45 : decode cX3_readEither 45 = .ok (.invokevirtual 102, 3) := by decide +kernel
theorem dX3_readEither_48 : decode cX3_readEither 48 = .ok (.iconst 0, 1) := by decide +kernel
theorem dX3_readEither_49 : decode cX3_readEither 49 = .ok (.istore_n 2, 1) := by decide +kernel
theorem dX3_readEither_50 : decode cX3_readEither 50 = .ok (.iload 4, 2) := by decide +kernel
theorem dX3_readEither_52 : decode cX3_readEither 52 = .ok (.ifCond .ne 14, 3) := by decide +kernel
theorem dX3_readEither_55 : decode cX3_readEither 55 = .ok (.aload_n 0, 1) := by decide +kernel
theorem dX3_readEither_56 : decode cX3_readEither 56 = .ok (.bipush 124, 2) := by decide +kernel
theorem dX3_readEither_58 : decode cX3_readEither 58 = .ok (.invokevirtual 54, 3) := by decide +kernel
theorem dX3_readEither_61 : decode cX3_readEither 61 = .ok (.ifCond .ne 5, 3) := by decide +kernel
theorem dX3_readEither_64 : decode cX3_readEither 64 = .ok (.iconst 1, 1) := by decide +kernel
theorem dX3_readEither_65 : decode cX3_readEither 65 = .ok (.ireturn, 1) := by decide +kernel
theorem dX3_readEither_66 : decode cX3_readEither 66 = .ok (.aload_n 0, 1) := by decide +kernel
theorem dX3_readEither_67 : decode cX3_readEither 67 = .ok (.iload_n 1, 1) := by decide +kernel
theorem dX3_readEither_68 : decode cX3_readEither 68 = .ok (.invokevirtual 99, 3) := by decide +kernel
theorem dX3_readEither_71 : decode cX3_readEither 71 = .ok (.ifCond .ne 5, 3) := by decide +kernel
theorem dX3_readEither_74 : decode cX3_readEither 74 = .ok (.iconst 0, 1) := by decide +kernel
theorem dX3_readEither_75 : decode cX3_readEither 75 = .ok (.ireturn, 1) := by decide +kernel
theorem dX3_readEither_76 : decode cX3_readEither 76 = .ok (.iload 4, 2) := by decide +kernel
theorem dX3_readEither_78 : decode cX3_readEither 78 = .ok (.ifCond .eq 17, 3) := by decide +kernel
theorem dX3_readEither_81 : decode cX3_readEither 81 = .ok (.aload_n 0, 1) := by decide +kernel
theorem dX3_readEither_82 : decode cX3_readEither 82 = .ok (.getfield 21, 3) := by decide +kernel
theorem dX3_readEither_85 : decode cX3_readEither 85 = .ok (.bipush (-2), 2) := by decide +kernel
theorem dX3_readEither_87 : decode cX3_readEither 87 = .ok (.iconst 0, 1) := by decide +kernel
theorem dX3_readEither_88 : decode cX3_readEither 88 = .ok (.iconst 0, 1) := by decide +kernel
theorem dX3_readEither_89 : decode cX3_readEither 89 = .ok (.invokevirtual 102, 3) := by decide +kernel
theorem dX3_readEither_92 : decode cX3_readEither 92 = .ok (.goto 5, 3) := by decide +kernel
theorem dX3_readEither_95 : decode cX3_readEither 95 = .ok (.iconst 1, 1) := by decide +kernel
theorem dX3_readEither_96 : decode cX3_readEither 96 = .ok (.istore_n 2, 1) := by decide +kernel
theorem dX3_readEither_97 : decode cX3_readEither 97 = .ok (.iinc 3 1, 3) := by decide +kernel
theorem dX3_readEither_100 : decode cX3_readEither 100 = .ok (.goto (-86), 3) := by decide +kernel
theorem dX3_readEither_103 : decode cX3_readEither 103 = .ok (.iconst 0, 1) := by decide +kernel
theorem dX3_readEither_104 : decode cX3_readEither 104 = .ok (.ireturn, 1) := by decide +kernel
theorem dX3_readPart_0 : decode cX3_readPart 0 = .ok (.aload_n 0, 1) := by decide +kernel
theorem dX3_readPart_1 : decode cX3_readPart 1 = .ok (.getfield 12, 3) := by decide +kernel
theorem dX3_readPart_4 : decode cX3_readPart 4 = .ok (.aload_n 0, 1) := by decide +kernel
theorem dX3_readPart_5 : decode cX3_readPart 5 = .ok (.getfield 25, 3) := by decide +kernel
theorem dX3_readPart_8 : decode cX3_readPart 8 = .ok (.invokevirtual 58, 3) := by decide +kernel
theorem dX3_readPart_11 : decode cX3_readPart 11 = .ok (.istore_n 2, 1) := by decide +kernel
theorem dX3_readPart_12 : decode cX3_readPart 12 = .ok (.iload_n 2, 1) := by decide +kernel
theorem dX3_readPart_13 : decode cX3_readPart 13 = .ok (.bipush 33, 2) := by decide +kernel
theorem dX3_readPart_15 : decode cX3_readPart 15 = .ok (.if_icmp .eq 14, 3) := by decide +kernel
theorem dX3_readPart_18 : decode cX3_readPart 18 = .ok (.iload_n 2, 1) := by decide +kernel
theorem dX3_readPart_19 : decode cX3_readPart 19 = .ok (.bipush 40, 2) := by decide +kernel
theorem dX3_readPart_21 : decode cX3_readPart 21 = .ok (.if_icmp .eq 8, 3) := by decide +kernel
theorem dX3_readPart_24 : decode cX3_readPart 24 = .ok (.aload_n 0, 1) := by decide +kernel
theorem dX3_readPart_25 : decode cX3_readPart 25 = .ok (.invokevirtual 106, 3) := by decide +kernel
theorem dX3_readPart_28 : decode cX3_readPart 28 = .ok (.ireturn, 1) := by decide +kernel
theorem dX3_readPart_29 : decode cX3_readPart 29 = .ok (.iload_n 1, 1) := by decide +kernel
theorem dX3_readPart_30 : decode cX3_readPart 30 = .ok (.iconst 5, 1) := by decide +kernel
theorem dX3_readPart_31 : decode cX3_readPart 31 = .ok (.if_icmp .lt 5, 3) := by decide +kernel
theorem dX3_readPart_34 : decode cX3_readPart 34 = .ok (.iconst 0, 1) := by decide +kernel
theorem dX3_readPart_35 : decode cX3_readPart 35 = .ok (.ireturn, 1) := by decide +kernel
theorem dX3_readPart_36 : decode cX3_readPart 36 = .ok (.aload_n 0, 1) := by decide +kernel
theorem dX3_readPart_37 : decode cX3_readPart 37 = .ok (.dup, 1) := by decide +kernel
theorem dX3_readPart_38 : decode cX3_readPart 38 = .ok (.getfield 25, 3) := by decide +kernel
theorem dX3_readPart_41 : decode cX3_readPart 41 = .ok (.iconst 1, 1) := by decide +kernel
theorem dX3_readPart_42 : decode cX3_readPart 42 = .ok (.iadd, 1) := by decide +kernel
theorem dX3_readPart_43 : decode cX3_readPart 43 = .ok (.putfield 25, 3) := by decide +kernel
theorem dX3_readPart_46 : decode cX3_readPart 46 = .ok (.iload_n 2, 1) := by decide +kernel
theorem dX3_readPart_47 : decode cX3_readPart 47 = .ok (.bipush 40, 2) := by decide +kernel
theorem dX3_readPart_49 : decode cX3_readPart 49 = .ok (.if_icmp .ne 28, 3) := by decide +kernel
theorem dX3_readPart_52 : decode cX3_readPart 52 = .ok (.aload_n 0, 1) := by decide +kernel
theorem dX3_readPart_53 : decode cX3_readPart 53 = .ok (.iload_n 1, 1) := by decide +kernel
theorem dX3_readPart_54 : decode cX3_readPart 54 = .ok (.iconst 1, 1) := by decide +kernel
theorem dX3_readPart_55 : decode cX3_readPart 55 = .ok (.iadd, 1) := by decide +kernel
theorem dX3_readPart_56 : decode cX3_readPart 56 = .ok (.invokevirtual 47, 3) := by decide +kernel
theorem dX3_readPart_59 : decode cX3_readPart 59 = .ok (.ifCond .eq 16, 3) := by decide +kernel
theorem dX3_readPart_62 : decode cX3_readPart 62 = .ok (.aload_n 0, 1) := by decide +kernel
theorem dX3_readPart_63 : decode cX3_readPart 63 = .ok (.bipush 41, 2) := by decide +kernel
theorem dX3_readPart_65 : decode cX3_readPart 65 = .ok (.invokevirtual 54, 3) := by decide +kernel
theorem dX3_readPart_68 : decode cX3_readPart 68 = .ok (.ifCond .eq 7, 3) := by decide +kernel
theorem dX3_readPart_71 : decode cX3_readPart 71 = .ok (.iconst 1, 1) := by decide +kernel
theorem dX3_readPart_72 : decode cX3_readPart 72 = .ok (.goto 4, 3) := by decide +kernel
theorem dX3_readPart_75 : decode cX3_readPart 75 = .ok (.iconst 0, 1) := by decide +kernel
theorem dX3_readPart_76 : decode cX3_readPart 76 = .ok (.ireturn, 1) := by decide +kernel
theorem dX3_readPart_77 : decode cX3_readPart 77 = .ok (.aload_n 0, 1) := by decide +kernel
theorem dX3_readPart_78 : decode cX3_readPart 78 = .ok (.iload_n 1, 1) := by decide +kernel
theorem dX3_readPart_79 : decode cX3_readPart 79 = .ok (.iconst 1, 1) := by decide +kernel
theorem dX3_readPart_80 : decode cX3_readPart 80 = .ok (.iadd, 1) := by decide +kernel
theorem dX3_readPart_81 : decode cX3_readPart 81 = .ok (.invokevirtual 99, 3) := by decide +kernel
theorem dX3_readPart_84 : decode cX3_readPart 84 = .ok (.ifCond .ne 5, 3) := by decide +kernel
theorem dX3_readPart_87 : decode cX3_readPart 87 = .ok (.iconst 0, 1) := by decide +kernel
theorem dX3_readPart_88 : decode cX3_readPart 88 = .ok (.ireturn, 1) := by decide +kernel
theorem dX3_readPart_89 : decode cX3_readPart 89 = .ok (.aload_n 0, 1) := by decide +kernel
theorem dX3_readPart_90 : decode cX3_readPart 90 = .ok (.getfield 21, 3) := by decide +kernel
theorem dX3_readPart_93 : decode cX3_readPart 93 = .ok (.iconst (-1), 1) := by decide +kernel
theorem dX3_readPart_94 : decode cX3_readPart 94 = .ok (.iconst 0, 1) := by decide +kernel
theorem dX3_readPart_95 : decode cX3_readPart 95 = .ok (.iconst 0, 1) := by decide +kernel
theorem dX3_readPart_96 : decode cX3_readPart 96 = .ok (.invokevirtual 102, 3) := by decide +kernel
theorem dX3_readPart_99 : decode cX3_readPart 99 = .ok (.iconst 1, 1) := by decide +kernel
theorem dX3_readPart_100 : decode cX3_readPart 100 = .ok (.ireturn, 1) := by decide +kernel
theorem dX3_readTest_0 : decode cX3_readTest 0 = .ok (.aload_n 0, 1) := by decide +kernel
theorem dX3_readTest_1 : decode cX3_readTest 1 = .ok (.aload_n 0, 1) := by decide +kernel
theorem dX3_readTest_2 : decode cX3_readTest 2 = .ok (.getfield 12, 3) := by decide +kernel
theorem dX3_readTest_5 : decode cX3_readTest 5 = .ok (.aload_n 0, 1) := by decide +kernel
theorem dX3_readTest_6 : decode cX3_readTest 6 = .ok (.getfield 25, 3) := by decide +kernel
theorem dX3_readTest_9 : decode cX3_readTest 9 = .ok (.invokevirtual 58, 3) := by decide +kernel
theorem dX3_readTest_12 : decode cX3_readTest 12 = .ok (.invokevirtual 109, 3) := by decide +kernel
theorem dX3_readTest_15 : decode cX3_readTest 15 = .ok (.istore_n 1, 1) := by decide +kernel
theorem dX3_readTest_16 : decode cX3_readTest 16 = .ok (.iload_n 1, 1) := by decide +kernel
theorem dX3_readTest_17 : decode cX3_readTest 17 = .ok (.iconst (-1), 1) := by decide +kernel
theorem dX3_readTest_18 : decode cX3_readTest 18 = .ok (.if_icmp .ne 5, 3) := by decide +kernel
theorem dX3_readTest_21 : decode cX3_readTest 21 = .ok (.iconst 0, 1) := by decide +kernel
theorem dX3_readTest_22 : decode cX3_readTest 22 = .ok (.ireturn, 1) := by decide +kernel
theorem dX3_readTest_23 : decode cX3_readTest 23 = .ok (.aload_n 0, 1) := by decide +kernel
theorem dX3_readTest_24 : decode cX3_readTest 24 = .ok (.dup, 1) := by decide +kernel
theorem dX3_readTest_25 : decode cX3_readTest 25 = .ok (.getfield 25, 3) := by decide +kernel
theorem dX3_readTest_28 : decode cX3_readTest 28 = .ok (.iconst 1, 1) := by decide +kernel
theorem dX3_readTest_29 : decode cX3_readTest 29 = .ok (.iadd, 1) := by decide +kernel
theorem dX3_readTest_30 : decode cX3_readTest 30 = .ok (.putfield 25, 3) := by decide +kernel
theorem dX3_readTest_33 : decode cX3_readTest 33 = .ok (.aload_n 0, 1) := by decide +kernel
theorem dX3_readTest_34 : decode cX3_readTest 34 = .ok (.getfield 12, 3) := by decide +kernel
theorem dX3_readTest_37 : decode cX3_readTest 37 = .ok (.aload_n 0, 1) := by decide +kernel
theorem dX3_readTest_38 : decode cX3_readTest 38 = .ok (.getfield 25, 3) := by decide +kernel
theorem dX3_readTest_41 : decode cX3_readTest 41 = .ok (.invokevirtual 58, 3) := by decide +kernel
theorem dX3_readTest_44 : decode cX3_readTest 44 = .ok (.istore_n 2, 1) := by decide +kernel
theorem dX3_readTest_45 : decode cX3_readTest 45 = .ok (.iload_n 2, 1) := by decide +kernel
theorem dX3_readTest_46 : decode cX3_readTest 46 = .ok (.bipush 60, 2) := by decide +kernel
theorem dX3_readTest_48 : decode cX3_readTest 48 = .ok (.if_icmp .eq 17, 3) := by decide +kernel
theorem dX3_readTest_51 : decode cX3_readTest 51 = .ok (.iload_n 2, 1) := by decide +kernel
theorem dX3_readTest_52 : decode cX3_readTest 52 = .ok (.bipush 61, 2) := by decide +kernel
theorem dX3_readTest_54 : decode cX3_readTest 54 = .ok (.if_icmp .eq 11, 3) := by decide +kernel
theorem dX3_readTest_57 : decode cX3_readTest 57 = .ok (.iload_n 2, 1) := by decide +kernel
theorem dX3_readTest_58 : decode cX3_readTest 58 = .ok (.bipush 62, 2) := by decide +kernel
theorem dX3_readTest_60 : decode cX3_readTest 60 = .ok (.if_icmp .eq 5, 3) := by decide +kernel
theorem dX3_readTest_63 : decode cX3_readTest 63 = .ok (.iconst 0, 1) := by decide +kernel
theorem dX3_readTest_64 : decode cX3_readTest 64 = .ok (.ireturn, 1) := by decide +kernel
theorem dX3_readTest_65 : decode cX3_readTest 65 = .ok (.aload_n 0, 1) := by decide +kernel
theorem dX3_readTest_66 : decode cX3_readTest 66 = .ok (.dup, 1) := by decide +kernel
theorem dX3_readTest_67 : decode cX3_readTest 67 = .ok (.getfield 25, 3) := by decide +kernel
theorem dX3_readTest_70 : decode cX3_readTest 70 = .ok (.iconst 1, 1) := by decide +kernel
theorem dX3_readTest_71 : decode cX3_readTest 71 = .ok (.iadd, 1) := by decide +kernel
theorem dX3_readTest_72 : decode cX3_readTest 72 = .ok (.putfield 25, 3) := by decide +kernel
theorem dX3_readTest_75 : decode cX3_readTest 75 = .ok (.aload_n 0, 1) := by decide +kernel
theorem dX3_readTest_76 : decode cX3_readTest 76 = .ok (.invokevirtual 86, 3) := by decide +kernel
theorem dX3_readTest_79 : decode cX3_readTest 79 = .ok (.ifCond .ne 5, 3) := by decide +kernel
theorem dX3_readTest_82 : decode cX3_readTest 82 = .ok (.iconst 0, 1) := by decide +kernel
theorem dX3_readTest_83 : decode cX3_readTest 83 = .ok (.ireturn, 1) := by decide +kernel
theorem dX3_readTest_84 : decode cX3_readTest 84 = .ok (.iload_n 2, 1) := by decide +kernel
theorem dX3_readTest_85 : decode cX3_readTest 85 = .ok (.bipush 60, 2) := by decide +kernel
theorem dX3_readTest_87 : decode cX3_readTest 87 = .ok (.if_icmp .ne 21, 3) := by decide +kernel
theorem dX3_readTest_90 : decode cX3_readTest 90 = .ok (.aload_n 0, 1) := by decide +kernel
theorem dX3_readTest_91 : decode cX3_readTest 91 = .ok (.getfield 21, 3) := by decide +kernel
theorem dX3_readTest_94 : decode cX3_readTest 94 = .ok (.iload_n 1, 1) := by decide +kernel
theorem dX3_readTest_95 : decode cX3_readTest 95 = .ok (.iconst 0, 1) := by decide +kernel
theorem dX3_readTest_96 : decode cX3_readTest 96 = .ok (.aload_n 0, 1) := by decide +kernel
theorem dX3_readTest_97 : decode cX3_readTest 97 = .ok (.getfield 29, 3) := by decide +kernel
theorem dX3_readTest_100 : decode cX3_readTest 100 = .ok (.iconst 1, 1) := by decide +kernel
theorem dX3_readTest_101 : decode cX3_readTest 101 = .ok (.isub, 1) := by decide +kernel
theorem dX3_readTest_102 : decode cX3_readTest 102 = .ok (.invokevirtual 102, 3) := by decide +kernel
theorem dX3_readTest_105 : decode cX3_readTest 105 = .ok (.goto 44, 3) := by decide +kernel
theorem dX3_readTest_108 : decode cX3_readTest 108 = .ok (.iload_n 2, 1) := by decide +kernel
theorem dX3_readTest_109 : decode cX3_readTest 109 = .ok (.bipush 61, 2) := by decide +kernel
theorem dX3_readTest_111 : decode cX3_readTest 111 = .ok (.if_icmp .ne 22, 3) := by decide +kernel
theorem dX3_readTest_114 : decode cX3_readTest 114 = .ok (.aload_n 0, 1) := by decide +kernel
theorem dX3_readTest_115 : decode cX3_readTest 115 = .ok (.getfield 21, 3) := by decide +kernel
theorem dX3_readTest_118 : decode cX3_readTest 118 = .ok (.iload_n 1, 1) := by decide +kernel
theorem dX3_readTest_119 : decode cX3_readTest 119 = .ok (.aload_n 0, 1) := by decide +kernel
theorem dX3_readTest_120 : decode cX3_readTest 120 = .ok (.getfield 29, 3) := by decide +kernel
theorem dX3_readTest_123 : decode cX3_readTest 123 = .ok (.aload_n 0, 1) := by decide +kernel
theorem dX3_readTest_124 : decode cX3_readTest 124 = .ok (.getfield 29, 3) := by decide +kernel
theorem dX3_readTest_127 : decode cX3_readTest 127 = .ok (.invokevirtual 102, 3) := by decide +kernel
theorem dX3_readTest_130 : decode cX3_readTest 130 = .ok (.goto 19, 3) := by decide +kernel
theorem dX3_readTest_133 : decode cX3_readTest 133 = .ok (.aload_n 0, 1) := by decide +kernel
theorem dX3_readTest_134 : decode cX3_readTest 134 = .ok (.getfield 21, 3) := by decide +kernel
theorem dX3_readTest_137 : decode cX3_readTest 137 = .ok (.iload_n 1, 1) := by decide +kernel
theorem dX3_readTest_138 : decode cX3_readTest 138 = .ok (.aload_n 0, 1) := by decide +kernel
theorem dX3_readTest_139 : decode cX3_readTest 139 = .ok (.getfield 29, 3) := by decide +kernel
theorem dX3_readTest_142 : decode cX3_readTest 142 = .ok (.iconst 1, 1) := by decide +kernel
theorem dX3_readTest_143 : decode cX3_readTest 143 = .ok (.iadd, 1) := by decide +kernel
theorem dX3_readTest_144 : decode cX3_readTest 144 = .ok (.bipush 99, 2) := by decide +kernel
theorem dX3_readTest_146 : decode cX3_readTest 146 = .ok (.invokevirtual 102, 3) := by decide +kernel
theorem dX3_readTest_149 : decode cX3_readTest 149 = .ok (.iconst 1, 1) := by decide +kernel
theorem dX3_readTest_150 : decode cX3_readTest 150 = .ok (.ireturn, 1) := by decide +kernel
theorem dX3_factOf_0 : decode cX3_factOf 0 = .ok (.iload_n 1, 1) := by decide +kernel
theorem dX3_factOf_1 : decode cX3_factOf 1 = .ok (.tableswitch 77 100 112 #[75, 77, 77, 77, 77, 77, 77, 71, 77, 77, 73, 69, 67], 67) := by decide +kernel
theorem dX3_factOf_68 : decode cX3_factOf 68 = .ok (.iconst 0, 1) := by decide +kernel
theorem dX3_factOf_69 : decode cX3_factOf 69 = .ok (.ireturn, 1) := by decide +kernel
theorem dX3_factOf_70 : decode cX3_factOf 70 = .ok (.iconst 1, 1) := by decide +kernel
theorem dX3_factOf_71 : decode cX3_factOf 71 = .ok (.ireturn, 1) := by decide +kernel
theorem dX3_factOf_72 : decode cX3_factOf 72 = .ok (.iconst 2, 1) := by decide +kernel
theorem dX3_factOf_73 : decode cX3_factOf 73 = .ok (.ireturn, 1) := by decide +kernel
theorem dX3_factOf_74 : decode cX3_factOf 74 = .ok (.iconst 3, 1) := by decide +kernel
theorem dX3_factOf_75 : decode cX3_factOf 75 = .ok (.ireturn, 1) := by decide +kernel
theorem dX3_factOf_76 : decode cX3_factOf 76 = .ok (.iconst 4, 1) := by decide +kernel
theorem dX3_factOf_77 : decode cX3_factOf 77 = .ok (.ireturn, 1) := by decide +kernel
theorem dX3_factOf_78 : decode cX3_factOf 78 = .ok (.iconst (-1), 1) := by decide +kernel
theorem dX3_factOf_79 : decode cX3_factOf 79 = .ok (.ireturn, 1) := by decide +kernel
theorem dX3_readNumber_0 : decode cX3_readNumber 0 = .ok (.aload_n 0, 1) := by decide +kernel
theorem dX3_readNumber_1 : decode cX3_readNumber 1 = .ok (.getfield 12, 3) := by decide +kernel
theorem dX3_readNumber_4 : decode cX3_readNumber 4 = .ok (.aload_n 0, 1) := by decide +kernel
theorem dX3_readNumber_5 : decode cX3_readNumber 5 = .ok (.getfield 25, 3) := by decide +kernel
theorem dX3_readNumber_8 : decode cX3_readNumber 8 = .ok (.invokevirtual 58, 3) := by decide +kernel
theorem dX3_readNumber_11 : decode cX3_readNumber 11 = .ok (.istore_n 1, 1) := by decide +kernel
theorem dX3_readNumber_12 : decode cX3_readNumber 12 = .ok (.iload_n 1, 1) := by decide +kernel
theorem dX3_readNumber_13 : decode cX3_readNumber 13 = .ok (.bipush 48, 2) := by decide +kernel
theorem dX3_readNumber_15 : decode cX3_readNumber 15 = .ok (.if_icmp .lt 9, 3) := by decide +kernel
theorem dX3_readNumber_18 : decode cX3_readNumber 18 = .ok (.iload_n 1, 1) := by decide +kernel
theorem dX3_readNumber_19 : decode cX3_readNumber 19 = .ok (.bipush 57, 2) := by decide +kernel
theorem dX3_readNumber_21 : decode cX3_readNumber 21 = .ok (.if_icmp .le 5, 3) := by decide +kernel
theorem dX3_readNumber_24 : decode cX3_readNumber 24 = .ok (.iconst 0, 1) := by decide +kernel
theorem dX3_readNumber_25 : decode cX3_readNumber 25 = .ok (.ireturn, 1) := by decide +kernel
theorem dX3_readNumber_26 : decode cX3_readNumber 26 = .ok (.aload_n 0, 1) := by decide +kernel
theorem dX3_readNumber_27 : decode cX3_readNumber 27 = .ok (.dup, 1) := by decide +kernel
theorem dX3_readNumber_28 : decode cX3_readNumber 28 = .ok (.getfield 25, 3) := by decide +kernel
theorem dX3_readNumber_31 : decode cX3_readNumber 31 = .ok (.iconst 1, 1) := by decide +kernel
theorem dX3_readNumber_32 : decode cX3_readNumber 32 = .ok (.iadd, 1) := by decide +kernel
theorem dX3_readNumber_33 : decode cX3_readNumber 33 = .ok (.putfield 25, 3) := by decide +kernel
theorem dX3_readNumber_36 : decode cX3_readNumber 36 = .ok (.aload_n 0, 1) := by decide +kernel
theorem dX3_readNumber_37 : decode cX3_readNumber 37 = .ok (.iload_n 1, 1) := by decide +kernel
theorem dX3_readNumber_38 : decode cX3_readNumber 38 = .ok (.bipush 48, 2) := by decide +kernel
theorem dX3_readNumber_40 : decode cX3_readNumber 40 = .ok (.isub, 1) := by decide +kernel
theorem dX3_readNumber_41 : decode cX3_readNumber 41 = .ok (.putfield 29, 3) := by decide +kernel
theorem dX3_readNumber_44 : decode cX3_readNumber 44 = .ok (.aload_n 0, 1) := by decide +kernel
theorem dX3_readNumber_45 : decode cX3_readNumber 45 = .ok (.getfield 12, 3) := by decide +kernel
theorem dX3_readNumber_48 : decode cX3_readNumber 48 = .ok (.aload_n 0, 1) := by decide +kernel
theorem dX3_readNumber_49 : decode cX3_readNumber 49 = .ok (.getfield 25, 3) := by decide +kernel
theorem dX3_readNumber_52 : decode cX3_readNumber 52 = .ok (.invokevirtual 58, 3) := by decide +kernel
theorem dX3_readNumber_55 : decode cX3_readNumber 55 = .ok (.istore_n 2, 1) := by decide +kernel
theorem dX3_readNumber_56 : decode cX3_readNumber 56 = .ok (.aload_n 0, 1) := by decide +kernel
theorem dX3_readNumber_57 : decode cX3_readNumber 57 = .ok (.getfield 29, 3) := by decide +kernel
theorem dX3_readNumber_60 : decode cX3_readNumber 60 = .ok (.ifCond .eq 41, 3) := by decide +kernel
theorem dX3_readNumber_63 : decode cX3_readNumber 63 = .ok (.iload_n 2, 1) := by decide +kernel
theorem dX3_readNumber_64 : decode cX3_readNumber 64 = .ok (.bipush 48, 2) := by decide +kernel
theorem dX3_readNumber_66 : decode cX3_readNumber 66 = .ok (.if_icmp .lt 35, 3) := by decide +kernel
theorem dX3_readNumber_69 : decode cX3_readNumber 69 = .ok (.iload_n 2, 1) := by decide +kernel
theorem dX3_readNumber_70 : decode cX3_readNumber 70 = .ok (.bipush 57, 2) := by decide +kernel
theorem dX3_readNumber_72 : decode cX3_readNumber 72 = .ok (.if_icmp .gt 29, 3) := by decide +kernel
theorem dX3_readNumber_75 : decode cX3_readNumber 75 = .ok (.aload_n 0, 1) := by decide +kernel
theorem dX3_readNumber_76 : decode cX3_readNumber 76 = .ok (.dup, 1) := by decide +kernel
theorem dX3_readNumber_77 : decode cX3_readNumber 77 = .ok (.getfield 25, 3) := by decide +kernel
theorem dX3_readNumber_80 : decode cX3_readNumber 80 = .ok (.iconst 1, 1) := by decide +kernel
theorem dX3_readNumber_81 : decode cX3_readNumber 81 = .ok (.iadd, 1) := by decide +kernel
theorem dX3_readNumber_82 : decode cX3_readNumber 82 = .ok (.putfield 25, 3) := by decide +kernel
theorem dX3_readNumber_85 : decode cX3_readNumber 85 = .ok (.aload_n 0, 1) := by decide +kernel
theorem dX3_readNumber_86 : decode cX3_readNumber 86 = .ok (.bipush 10, 2) := by decide +kernel
theorem dX3_readNumber_88 : decode cX3_readNumber 88 = .ok (.aload_n 0, 1) := by decide +kernel
theorem dX3_readNumber_89 : decode cX3_readNumber 89 = .ok (.getfield 29, 3) := by decide +kernel
theorem dX3_readNumber_92 : decode cX3_readNumber 92 = .ok (.imul, 1) := by decide +kernel
theorem dX3_readNumber_93 : decode cX3_readNumber 93 = .ok (.iload_n 2, 1) := by decide +kernel
theorem dX3_readNumber_94 : decode cX3_readNumber 94 = .ok (.iadd, 1) := by decide +kernel
theorem dX3_readNumber_95 : decode cX3_readNumber 95 = .ok (.bipush 48, 2) := by decide +kernel
theorem dX3_readNumber_97 : decode cX3_readNumber 97 = .ok (.isub, 1) := by decide +kernel
theorem dX3_readNumber_98 : decode cX3_readNumber 98 = .ok (.putfield 29, 3) := by decide +kernel
theorem dX3_readNumber_101 : decode cX3_readNumber 101 = .ok (.iconst 1, 1) := by decide +kernel
theorem dX3_readNumber_102 : decode cX3_readNumber 102 = .ok (.ireturn, 1) := by decide +kernel
theorem dX3_readWord_0 : decode cX3_readWord 0 = .ok (.iconst 0, 1) := by decide +kernel
theorem dX3_readWord_1 : decode cX3_readWord 1 = .ok (.istore_n 2, 1) := by decide +kernel
theorem dX3_readWord_2 : decode cX3_readWord 2 = .ok (.iload_n 2, 1) := by decide +kernel
theorem dX3_readWord_3 : decode cX3_readWord 3 = .ok (.aload_n 1, 1) := by decide +kernel
theorem dX3_readWord_4 : decode cX3_readWord 4 = .ok (.invokevirtual 112, 3) := by decide +kernel
theorem dX3_readWord_7 : decode cX3_readWord 7 = .ok (.if_icmp .ge 23, 3) := by decide +kernel
theorem dX3_readWord_10 : decode cX3_readWord 10 = .ok (.aload_n 0, 1) := by decide +kernel
theorem dX3_readWord_11 : decode cX3_readWord 11 = .ok (.aload_n 1, 1) := by decide +kernel
theorem dX3_readWord_12 : decode cX3_readWord 12 = .ok (.iload_n 2, 1) := by decide +kernel
theorem dX3_readWord_13 : decode cX3_readWord 13 = .ok (.invokevirtual 118, 3) := by decide +kernel
theorem dX3_readWord_16 : decode cX3_readWord 16 = .ok (.invokevirtual 54, 3) := by decide +kernel
theorem dX3_readWord_19 : decode cX3_readWord 19 = .ok (.ifCond .ne 5, 3) := by decide +kernel
theorem dX3_readWord_22 : decode cX3_readWord 22 = .ok (.iconst 0, 1) := by decide +kernel
theorem dX3_readWord_23 : decode cX3_readWord 23 = .ok (.ireturn, 1) := by decide +kernel
theorem dX3_readWord_24 : decode cX3_readWord 24 = .ok (.iinc 2 1, 3) := by decide +kernel
theorem dX3_readWord_27 : decode cX3_readWord 27 = .ok (.goto (-25), 3) := by decide +kernel
theorem dX3_readWord_30 : decode cX3_readWord 30 = .ok (.iconst 1, 1) := by decide +kernel
theorem dX3_readWord_31 : decode cX3_readWord 31 = .ok (.ireturn, 1) := by decide +kernel
theorem dX3_skip_0 : decode cX3_skip 0 = .ok (.aload_n 0, 1) := by decide +kernel
theorem dX3_skip_1 : decode cX3_skip 1 = .ok (.getfield 12, 3) := by decide +kernel
theorem dX3_skip_4 : decode cX3_skip 4 = .ok (.aload_n 0, 1) := by decide +kernel
theorem dX3_skip_5 : decode cX3_skip 5 = .ok (.getfield 25, 3) := by decide +kernel
theorem dX3_skip_8 : decode cX3_skip 8 = .ok (.invokevirtual 58, 3) := by decide +kernel
theorem dX3_skip_11 : decode cX3_skip 11 = .ok (.iload_n 1, 1) := by decide +kernel
theorem dX3_skip_12 : decode cX3_skip 12 = .ok (.if_icmp .eq 5, 3) := by decide +kernel
theorem dX3_skip_15 : decode cX3_skip 15 = .ok (.iconst 0, 1) := by decide +kernel
theorem dX3_skip_16 : decode cX3_skip 16 = .ok (.ireturn, 1) := by decide +kernel
theorem dX3_skip_17 : decode cX3_skip 17 = .ok (.aload_n 0, 1) := by decide +kernel
theorem dX3_skip_18 : decode cX3_skip 18 = .ok (.dup, 1) := by decide +kernel
theorem dX3_skip_19 : decode cX3_skip 19 = .ok (.getfield 25, 3) := by decide +kernel
theorem dX3_skip_22 : decode cX3_skip 22 = .ok (.iconst 1, 1) := by decide +kernel
theorem dX3_skip_23 : decode cX3_skip 23 = .ok (.iadd, 1) := by decide +kernel
theorem dX3_skip_24 : decode cX3_skip 24 = .ok (.putfield 25, 3) := by decide +kernel
theorem dX3_skip_27 : decode cX3_skip 27 = .ok (.iconst 1, 1) := by decide +kernel
theorem dX3_skip_28 : decode cX3_skip 28 = .ok (.ireturn, 1) := by decide +kernel
theorem dX4_init_0 : decode cX4_init 0 = .ok (.aload_n 0, 1) := by decide +kernel
theorem dX4_init_1 : decode cX4_init 1 = .ok (.invokespecial 1, 3) := by decide +kernel
theorem dX4_init_4 : decode cX4_init 4 = .ok (.aload_n 0, 1) := by decide +kernel
theorem dX4_init_5 : decode cX4_init 5 = .ok (.iconst 0, 1) := by decide +kernel
theorem dX4_init_6 : decode cX4_init 6 = .ok (.putfield 7, 3) := by decide +kernel
theorem dX4_init_9 : decode cX4_init 9 = .ok (.aload_n 0, 1) := by decide +kernel
theorem dX4_init_10 : decode cX4_init 10 = .ok (.iconst 0, 1) := by decide +kernel
theorem dX4_init_11 : decode cX4_init 11 = .ok (.iload_n 1, 1) := by decide +kernel
theorem dX4_init_12 : decode cX4_init 12 = .ok (.invokestatic 13, 3) := by decide +kernel
theorem dX4_init_15 : decode cX4_init 15 = .ok (.newarray .int, 2) := by decide +kernel
theorem dX4_init_17 : decode cX4_init 17 = .ok (.putfield 19, 3) := by decide +kernel
theorem dX4_init_20 : decode cX4_init 20 = .ok (.aload_n 0, 1) := by decide +kernel
theorem dX4_init_21 : decode cX4_init 21 = .ok (.iconst 0, 1) := by decide +kernel
theorem dX4_init_22 : decode cX4_init 22 = .ok (.iload_n 1, 1) := by decide +kernel
theorem dX4_init_23 : decode cX4_init 23 = .ok (.invokestatic 13, 3) := by decide +kernel
theorem dX4_init_26 : decode cX4_init 26 = .ok (.newarray .int, 2) := by decide +kernel
theorem dX4_init_28 : decode cX4_init 28 = .ok (.putfield 23, 3) := by decide +kernel
theorem dX4_init_31 : decode cX4_init 31 = .ok (.return_, 1) := by decide +kernel
theorem dX4_add_0 : decode cX4_add 0 = .ok (.aload_n 0, 1) := by decide +kernel
theorem dX4_add_1 : decode cX4_add 1 = .ok (.getfield 7, 3) := by decide +kernel
theorem dX4_add_4 : decode cX4_add 4 = .ok (.aload_n 0, 1) := by decide +kernel
theorem dX4_add_5 : decode cX4_add 5 = .ok (.getfield 19, 3) := by decide +kernel
theorem dX4_add_8 : decode cX4_add 8 = .ok (.arraylength, 1) := by decide +kernel
theorem dX4_add_9 : decode cX4_add 9 = .ok (.if_icmp .ge 15, 3) := by decide +kernel
theorem dX4_add_12 : decode cX4_add 12 = .ok (.aload_n 0, 1) := by decide +kernel
theorem dX4_add_13 : decode cX4_add 13 = .ok (.getfield 7, 3) := by decide +kernel
theorem dX4_add_16 : decode cX4_add 16 = .ok (.aload_n 0, 1) := by decide +kernel
theorem dX4_add_17 : decode cX4_add 17 = .ok (.getfield 23, 3) := by decide +kernel
theorem dX4_add_20 : decode cX4_add 20 = .ok (.arraylength, 1) := by decide +kernel
theorem dX4_add_21 : decode cX4_add 21 = .ok (.if_icmp .lt 5, 3) := by decide +kernel
theorem dX4_add_24 : decode cX4_add 24 = .ok (.iconst 0, 1) := by decide +kernel
theorem dX4_add_25 : decode cX4_add 25 = .ok (.ireturn, 1) := by decide +kernel
theorem dX4_add_26 : decode cX4_add 26 = .ok (.aload_n 0, 1) := by decide +kernel
theorem dX4_add_27 : decode cX4_add 27 = .ok (.getfield 19, 3) := by decide +kernel
theorem dX4_add_30 : decode cX4_add 30 = .ok (.aload_n 0, 1) := by decide +kernel
theorem dX4_add_31 : decode cX4_add 31 = .ok (.getfield 7, 3) := by decide +kernel
theorem dX4_add_34 : decode cX4_add 34 = .ok (.iload_n 1, 1) := by decide +kernel
theorem dX4_add_35 : decode cX4_add 35 = .ok (.iastore, 1) := by decide +kernel
theorem dX4_add_36 : decode cX4_add 36 = .ok (.aload_n 0, 1) := by decide +kernel
theorem dX4_add_37 : decode cX4_add 37 = .ok (.getfield 23, 3) := by decide +kernel
theorem dX4_add_40 : decode cX4_add 40 = .ok (.aload_n 0, 1) := by decide +kernel
theorem dX4_add_41 : decode cX4_add 41 = .ok (.getfield 7, 3) := by decide +kernel
theorem dX4_add_44 : decode cX4_add 44 = .ok (.iload_n 2, 1) := by decide +kernel
theorem dX4_add_45 : decode cX4_add 45 = .ok (.iastore, 1) := by decide +kernel
theorem dX4_add_46 : decode cX4_add 46 = .ok (.aload_n 0, 1) := by decide +kernel
theorem dX4_add_47 : decode cX4_add 47 = .ok (.dup, 1) := by decide +kernel
theorem dX4_add_48 : decode cX4_add 48 = .ok (.getfield 7, 3) := by decide +kernel
theorem dX4_add_51 : decode cX4_add 51 = .ok (.iconst 1, 1) := by decide +kernel
theorem dX4_add_52 : decode cX4_add 52 = .ok (.iadd, 1) := by decide +kernel
theorem dX4_add_53 : decode cX4_add 53 = .ok (.putfield 7, 3) := by decide +kernel
theorem dX4_add_56 : decode cX4_add 56 = .ok (.iconst 1, 1) := by decide +kernel
theorem dX4_add_57 : decode cX4_add 57 = .ok (.ireturn, 1) := by decide +kernel
theorem dX4_copyFrom_0 : decode cX4_copyFrom 0 = .ok (.aload_n 0, 1) := by decide +kernel
theorem dX4_copyFrom_1 : decode cX4_copyFrom 1 = .ok (.iconst 0, 1) := by decide +kernel
theorem dX4_copyFrom_2 : decode cX4_copyFrom 2 = .ok (.putfield 7, 3) := by decide +kernel
theorem dX4_copyFrom_5 : decode cX4_copyFrom 5 = .ok (.iconst 0, 1) := by decide +kernel
theorem dX4_copyFrom_6 : decode cX4_copyFrom 6 = .ok (.istore_n 2, 1) := by decide +kernel
theorem dX4_copyFrom_7 : decode cX4_copyFrom 7 = .ok (.iload_n 2, 1) := by decide +kernel
theorem dX4_copyFrom_8 : decode cX4_copyFrom 8 = .ok (.aload_n 1, 1) := by decide +kernel
theorem dX4_copyFrom_9 : decode cX4_copyFrom 9 = .ok (.getfield 7, 3) := by decide +kernel
theorem dX4_copyFrom_12 : decode cX4_copyFrom 12 = .ok (.if_icmp .ge 26, 3) := by decide +kernel
theorem dX4_copyFrom_15 : decode cX4_copyFrom 15 = .ok (.aload_n 0, 1) := by decide +kernel
theorem dX4_copyFrom_16 : decode cX4_copyFrom 16 = .ok (.aload_n 1, 1) := by decide +kernel
theorem dX4_copyFrom_17 : decode cX4_copyFrom 17 = .ok (.getfield 19, 3) := by decide +kernel
theorem dX4_copyFrom_20 : decode cX4_copyFrom 20 = .ok (.iload_n 2, 1) := by decide +kernel
theorem dX4_copyFrom_21 : decode cX4_copyFrom 21 = .ok (.iaload, 1) := by decide +kernel
theorem dX4_copyFrom_22 : decode cX4_copyFrom 22 = .ok (.aload_n 1, 1) := by decide +kernel
theorem dX4_copyFrom_23 : decode cX4_copyFrom 23 = .ok (.getfield 23, 3) := by decide +kernel
theorem dX4_copyFrom_26 : decode cX4_copyFrom 26 = .ok (.iload_n 2, 1) := by decide +kernel
theorem dX4_copyFrom_27 : decode cX4_copyFrom 27 = .ok (.iaload, 1) := by decide +kernel
theorem dX4_copyFrom_28 : decode cX4_copyFrom 28 = .ok (.invokevirtual 26, 3) := by decide +kernel
theorem dX4_copyFrom_31 : decode cX4_copyFrom 31 = .ok (.pop, 1) := by decide +kernel
theorem dX4_copyFrom_32 : decode cX4_copyFrom 32 = .ok (.iinc 2 1, 3) := by decide +kernel
theorem dX4_copyFrom_35 : decode cX4_copyFrom 35 = .ok (.goto (-28), 3) := by decide +kernel
theorem dX4_copyFrom_38 : decode cX4_copyFrom 38 = .ok (.return_, 1) := by decide +kernel
theorem dX5_init_0 : decode cX5_init 0 = .ok (.aload_n 0, 1) := by decide +kernel
theorem dX5_init_1 : decode cX5_init 1 = .ok (.invokespecial 3, 3) := by decide +kernel
theorem dX5_init_4 : decode cX5_init 4 = .ok (.aload_n 0, 1) := by decide +kernel
theorem dX5_init_5 : decode cX5_init 5 = .ok (.new 9, 3) := by decide +kernel
theorem dX5_init_8 : decode cX5_init 8 = .ok (.dup, 1) := by decide +kernel
theorem dX5_init_9 : decode cX5_init 9 = .ok (.invokespecial 11, 3) := by decide +kernel
theorem dX5_init_12 : decode cX5_init 12 = .ok (.putfield 12, 3) := by decide +kernel
theorem dX5_init_15 : decode cX5_init 15 = .ok (.aload_n 0, 1) := by decide +kernel
theorem dX5_init_16 : decode cX5_init 16 = .ok (.new 18, 3) := by decide +kernel
theorem dX5_init_19 : decode cX5_init 19 = .ok (.dup, 1) := by decide +kernel
theorem dX5_init_20 : decode cX5_init 20 = .ok (.invokespecial 20, 3) := by decide +kernel
theorem dX5_init_23 : decode cX5_init 23 = .ok (.putfield 21, 3) := by decide +kernel
theorem dX5_init_26 : decode cX5_init 26 = .ok (.aload_n 0, 1) := by decide +kernel
theorem dX5_init_27 : decode cX5_init 27 = .ok (.iconst 0, 1) := by decide +kernel
theorem dX5_init_28 : decode cX5_init 28 = .ok (.putfield 25, 3) := by decide +kernel
theorem dX5_init_31 : decode cX5_init 31 = .ok (.aload_n 0, 1) := by decide +kernel
theorem dX5_init_32 : decode cX5_init 32 = .ok (.new 29, 3) := by decide +kernel
theorem dX5_init_35 : decode cX5_init 35 = .ok (.dup, 1) := by decide +kernel
theorem dX5_init_36 : decode cX5_init 36 = .ok (.invokespecial 31, 3) := by decide +kernel
theorem dX5_init_39 : decode cX5_init 39 = .ok (.putfield 32, 3) := by decide +kernel
theorem dX5_init_42 : decode cX5_init 42 = .ok (.aload_n 0, 1) := by decide +kernel
theorem dX5_init_43 : decode cX5_init 43 = .ok (.new 36, 3) := by decide +kernel
theorem dX5_init_46 : decode cX5_init 46 = .ok (.dup, 1) := by decide +kernel
theorem dX5_init_47 : decode cX5_init 47 = .ok (.invokespecial 38, 3) := by decide +kernel
theorem dX5_init_50 : decode cX5_init 50 = .ok (.putfield 39, 3) := by decide +kernel
theorem dX5_init_53 : decode cX5_init 53 = .ok (.aload_n 0, 1) := by decide +kernel
theorem dX5_init_54 : decode cX5_init 54 = .ok (.new 43, 3) := by decide +kernel
theorem dX5_init_57 : decode cX5_init 57 = .ok (.dup, 1) := by decide +kernel
theorem dX5_init_58 : decode cX5_init 58 = .ok (.bipush 6, 2) := by decide +kernel
theorem dX5_init_60 : decode cX5_init 60 = .ok (.invokespecial 45, 3) := by decide +kernel
theorem dX5_init_63 : decode cX5_init 63 = .ok (.putfield 48, 3) := by decide +kernel
theorem dX5_init_66 : decode cX5_init 66 = .ok (.aload_n 0, 1) := by decide +kernel
theorem dX5_init_67 : decode cX5_init 67 = .ok (.new 43, 3) := by decide +kernel
theorem dX5_init_70 : decode cX5_init 70 = .ok (.dup, 1) := by decide +kernel
theorem dX5_init_71 : decode cX5_init 71 = .ok (.bipush 8, 2) := by decide +kernel
theorem dX5_init_73 : decode cX5_init 73 = .ok (.invokespecial 45, 3) := by decide +kernel
theorem dX5_init_76 : decode cX5_init 76 = .ok (.putfield 52, 3) := by decide +kernel
theorem dX5_init_79 : decode cX5_init 79 = .ok (.return_, 1) := by decide +kernel
theorem dX5_copyFrom_0 : decode cX5_copyFrom 0 = .ok (.aload_n 0, 1) := by decide +kernel
theorem dX5_copyFrom_1 : decode cX5_copyFrom 1 = .ok (.getfield 12, 3) := by decide +kernel
theorem dX5_copyFrom_4 : decode cX5_copyFrom 4 = .ok (.aload_n 1, 1) := by decide +kernel
theorem dX5_copyFrom_5 : decode cX5_copyFrom 5 = .ok (.getfield 12, 3) := by decide +kernel
theorem dX5_copyFrom_8 : decode cX5_copyFrom 8 = .ok (.invokevirtual 55, 3) := by decide +kernel
theorem dX5_copyFrom_11 : decode cX5_copyFrom 11 = .ok (.aload_n 0, 1) := by decide +kernel
theorem dX5_copyFrom_12 : decode cX5_copyFrom 12 = .ok (.getfield 21, 3) := by decide +kernel
theorem dX5_copyFrom_15 : decode cX5_copyFrom 15 = .ok (.aload_n 1, 1) := by decide +kernel
theorem dX5_copyFrom_16 : decode cX5_copyFrom 16 = .ok (.getfield 21, 3) := by decide +kernel
theorem dX5_copyFrom_19 : decode cX5_copyFrom 19 = .ok (.invokevirtual 59, 3) := by decide +kernel
theorem dX5_copyFrom_22 : decode cX5_copyFrom 22 = .ok (.aload_n 0, 1) := by decide +kernel
theorem dX5_copyFrom_23 : decode cX5_copyFrom 23 = .ok (.aload_n 1, 1) := by decide +kernel
theorem dX5_copyFrom_24 : decode cX5_copyFrom 24 = .ok (.getfield 25, 3) := by decide +kernel
theorem dX5_copyFrom_27 : decode cX5_copyFrom 27 = .ok (.putfield 25, 3) := by decide +kernel
theorem dX5_copyFrom_30 : decode cX5_copyFrom 30 = .ok (.aload_n 0, 1) := by decide +kernel
theorem dX5_copyFrom_31 : decode cX5_copyFrom 31 = .ok (.getfield 32, 3) := by decide +kernel
theorem dX5_copyFrom_34 : decode cX5_copyFrom 34 = .ok (.aload_n 1, 1) := by decide +kernel
theorem dX5_copyFrom_35 : decode cX5_copyFrom 35 = .ok (.getfield 32, 3) := by decide +kernel
theorem dX5_copyFrom_38 : decode cX5_copyFrom 38 = .ok (.invokevirtual 62, 3) := by decide +kernel
theorem dX5_copyFrom_41 : decode cX5_copyFrom 41 = .ok (.aload_n 0, 1) := by decide +kernel
theorem dX5_copyFrom_42 : decode cX5_copyFrom 42 = .ok (.getfield 39, 3) := by decide +kernel
theorem dX5_copyFrom_45 : decode cX5_copyFrom 45 = .ok (.aload_n 1, 1) := by decide +kernel
theorem dX5_copyFrom_46 : decode cX5_copyFrom 46 = .ok (.getfield 39, 3) := by decide +kernel
theorem dX5_copyFrom_49 : decode cX5_copyFrom 49 = .ok (.invokevirtual 65, 3) := by decide +kernel
theorem dX5_copyFrom_52 : decode cX5_copyFrom 52 = .ok (.aload_n 0, 1) := by decide +kernel
theorem dX5_copyFrom_53 : decode cX5_copyFrom 53 = .ok (.getfield 48, 3) := by decide +kernel
theorem dX5_copyFrom_56 : decode cX5_copyFrom 56 = .ok (.aload_n 1, 1) := by decide +kernel
theorem dX5_copyFrom_57 : decode cX5_copyFrom 57 = .ok (.getfield 48, 3) := by decide +kernel
theorem dX5_copyFrom_60 : decode cX5_copyFrom 60 = .ok (.invokevirtual 68, 3) := by decide +kernel
theorem dX5_copyFrom_63 : decode cX5_copyFrom 63 = .ok (.aload_n 0, 1) := by decide +kernel
theorem dX5_copyFrom_64 : decode cX5_copyFrom 64 = .ok (.getfield 52, 3) := by decide +kernel
theorem dX5_copyFrom_67 : decode cX5_copyFrom 67 = .ok (.aload_n 1, 1) := by decide +kernel
theorem dX5_copyFrom_68 : decode cX5_copyFrom 68 = .ok (.getfield 52, 3) := by decide +kernel
theorem dX5_copyFrom_71 : decode cX5_copyFrom 71 = .ok (.invokevirtual 68, 3) := by decide +kernel
theorem dX5_copyFrom_74 : decode cX5_copyFrom 74 = .ok (.return_, 1) := by decide +kernel
theorem dX6_init_0 : decode cX6_init 0 = .ok (.aload_n 0, 1) := by decide +kernel
theorem dX6_init_1 : decode cX6_init 1 = .ok (.invokespecial 3, 3) := by decide +kernel
theorem dX6_init_4 : decode cX6_init 4 = .ok (.aload_n 0, 1) := by decide +kernel
theorem dX6_init_5 : decode cX6_init 5 = .ok (.bipush 100, 2) := by decide +kernel
theorem dX6_init_7 : decode cX6_init 7 = .ok (.newarray .int, 2) := by decide +kernel
theorem dX6_init_9 : decode cX6_init 9 = .ok (.putfield 9, 3) := by decide +kernel
theorem dX6_init_12 : decode cX6_init 12 = .ok (.aload_n 0, 1) := by decide +kernel
theorem dX6_init_13 : decode cX6_init 13 = .ok (.iconst 0, 1) := by decide +kernel
theorem dX6_init_14 : decode cX6_init 14 = .ok (.putfield 15, 3) := by decide +kernel
theorem dX6_init_17 : decode cX6_init 17 = .ok (.return_, 1) := by decide +kernel
theorem dX6_add_0 : decode cX6_add 0 = .ok (.aload_n 0, 1) := by decide +kernel
theorem dX6_add_1 : decode cX6_add 1 = .ok (.getfield 15, 3) := by decide +kernel
theorem dX6_add_4 : decode cX6_add 4 = .ok (.bipush 100, 2) := by decide +kernel
theorem dX6_add_6 : decode cX6_add 6 = .ok (.if_icmp .lt 5, 3) := by decide +kernel
theorem dX6_add_9 : decode cX6_add 9 = .ok (.iconst 0, 1) := by decide +kernel
theorem dX6_add_10 : decode cX6_add 10 = .ok (.ireturn, 1) := by decide +kernel
theorem dX6_add_11 : decode cX6_add 11 = .ok (.aload_n 0, 1) := by decide +kernel
theorem dX6_add_12 : decode cX6_add 12 = .ok (.getfield 9, 3) := by decide +kernel
theorem dX6_add_15 : decode cX6_add 15 = .ok (.aload_n 0, 1) := by decide +kernel
theorem dX6_add_16 : decode cX6_add 16 = .ok (.getfield 15, 3) := by decide +kernel
theorem dX6_add_19 : decode cX6_add 19 = .ok (.iload_n 1, 1) := by decide +kernel
theorem dX6_add_20 : decode cX6_add 20 = .ok (.iastore, 1) := by decide +kernel
theorem dX6_add_21 : decode cX6_add 21 = .ok (.aload_n 0, 1) := by decide +kernel
theorem dX6_add_22 : decode cX6_add 22 = .ok (.dup, 1) := by decide +kernel
theorem dX6_add_23 : decode cX6_add 23 = .ok (.getfield 15, 3) := by decide +kernel
theorem dX6_add_26 : decode cX6_add 26 = .ok (.iconst 1, 1) := by decide +kernel
theorem dX6_add_27 : decode cX6_add 27 = .ok (.iadd, 1) := by decide +kernel
theorem dX6_add_28 : decode cX6_add 28 = .ok (.putfield 15, 3) := by decide +kernel
theorem dX6_add_31 : decode cX6_add 31 = .ok (.iconst 1, 1) := by decide +kernel
theorem dX6_add_32 : decode cX6_add 32 = .ok (.ireturn, 1) := by decide +kernel
theorem dX6_at_0 : decode cX6_at 0 = .ok (.iload_n 1, 1) := by decide +kernel
theorem dX6_at_1 : decode cX6_at 1 = .ok (.ifCond .lt 20, 3) := by decide +kernel
theorem dX6_at_4 : decode cX6_at 4 = .ok (.iload_n 1, 1) := by decide +kernel
theorem dX6_at_5 : decode cX6_at 5 = .ok (.aload_n 0, 1) := by decide +kernel
theorem dX6_at_6 : decode cX6_at 6 = .ok (.getfield 15, 3) := by decide +kernel
theorem dX6_at_9 : decode cX6_at 9 = .ok (.if_icmp .ge 12, 3) := by decide +kernel
theorem dX6_at_12 : decode cX6_at 12 = .ok (.aload_n 0, 1) := by decide +kernel
theorem dX6_at_13 : decode cX6_at 13 = .ok (.getfield 9, 3) := by decide +kernel
theorem dX6_at_16 : decode cX6_at 16 = .ok (.iload_n 1, 1) := by decide +kernel
theorem dX6_at_17 : decode cX6_at 17 = .ok (.iaload, 1) := by decide +kernel
theorem dX6_at_18 : decode cX6_at 18 = .ok (.goto 4, 3) := by decide +kernel
theorem dX6_at_21 : decode cX6_at 21 = .ok (.iconst (-1), 1) := by decide +kernel
theorem dX6_at_22 : decode cX6_at 22 = .ok (.ireturn, 1) := by decide +kernel
theorem dX6_copyFrom_0 : decode cX6_copyFrom 0 = .ok (.aload_n 1, 1) := by decide +kernel
theorem dX6_copyFrom_1 : decode cX6_copyFrom 1 = .ok (.getfield 9, 3) := by decide +kernel
theorem dX6_copyFrom_4 : decode cX6_copyFrom 4 = .ok (.iconst 0, 1) := by decide +kernel
theorem dX6_copyFrom_5 : decode cX6_copyFrom 5 = .ok (.aload_n 0, 1) := by decide +kernel
theorem dX6_copyFrom_6 : decode cX6_copyFrom 6 = .ok (.getfield 9, 3) := by decide +kernel
theorem dX6_copyFrom_9 : decode cX6_copyFrom 9 = .ok (.iconst 0, 1) := by decide +kernel
theorem dX6_copyFrom_10 : decode cX6_copyFrom 10 = .ok (.bipush 100, 2) := by decide +kernel
theorem dX6_copyFrom_12 : decode cX6_copyFrom 12 = .ok (.invokestatic 19, 3) := by decide +kernel
theorem dX6_copyFrom_15 : decode cX6_copyFrom 15 = .ok (.aload_n 0, 1) := by decide +kernel
theorem dX6_copyFrom_16 : decode cX6_copyFrom 16 = .ok (.aload_n 1, 1) := by decide +kernel
theorem dX6_copyFrom_17 : decode cX6_copyFrom 17 = .ok (.getfield 15, 3) := by decide +kernel
theorem dX6_copyFrom_20 : decode cX6_copyFrom 20 = .ok (.putfield 15, 3) := by decide +kernel
theorem dX6_copyFrom_23 : decode cX6_copyFrom 23 = .ok (.return_, 1) := by decide +kernel
theorem dX7_init_0 : decode cX7_init 0 = .ok (.aload_n 0, 1) := by decide +kernel
theorem dX7_init_1 : decode cX7_init 1 = .ok (.invokespecial 3, 3) := by decide +kernel
theorem dX7_init_4 : decode cX7_init 4 = .ok (.aload_n 0, 1) := by decide +kernel
theorem dX7_init_5 : decode cX7_init 5 = .ok (.new 9, 3) := by decide +kernel
theorem dX7_init_8 : decode cX7_init 8 = .ok (.dup, 1) := by decide +kernel
theorem dX7_init_9 : decode cX7_init 9 = .ok (.invokespecial 11, 3) := by decide +kernel
theorem dX7_init_12 : decode cX7_init 12 = .ok (.putfield 12, 3) := by decide +kernel
theorem dX7_init_15 : decode cX7_init 15 = .ok (.aload_n 0, 1) := by decide +kernel
theorem dX7_init_16 : decode cX7_init 16 = .ok (.iconst 5, 1) := by decide +kernel
theorem dX7_init_17 : decode cX7_init 17 = .ok (.newarray .int, 2) := by decide +kernel
theorem dX7_init_19 : decode cX7_init 19 = .ok (.putfield 20, 3) := by decide +kernel
theorem dX7_init_22 : decode cX7_init 22 = .ok (.return_, 1) := by decide +kernel
theorem dX7_setFacts_0 : decode cX7_setFacts 0 = .ok (.aload_n 0, 1) := by decide +kernel
theorem dX7_setFacts_1 : decode cX7_setFacts 1 = .ok (.getfield 20, 3) := by decide +kernel
theorem dX7_setFacts_4 : decode cX7_setFacts 4 = .ok (.iconst 0, 1) := by decide +kernel
theorem dX7_setFacts_5 : decode cX7_setFacts 5 = .ok (.iload_n 2, 1) := by decide +kernel
theorem dX7_setFacts_6 : decode cX7_setFacts 6 = .ok (.iastore, 1) := by decide +kernel
theorem dX7_setFacts_7 : decode cX7_setFacts 7 = .ok (.aload_n 0, 1) := by decide +kernel
theorem dX7_setFacts_8 : decode cX7_setFacts 8 = .ok (.getfield 20, 3) := by decide +kernel
theorem dX7_setFacts_11 : decode cX7_setFacts 11 = .ok (.iconst 1, 1) := by decide +kernel
theorem dX7_setFacts_12 : decode cX7_setFacts 12 = .ok (.iload_n 3, 1) := by decide +kernel
theorem dX7_setFacts_13 : decode cX7_setFacts 13 = .ok (.iastore, 1) := by decide +kernel
theorem dX7_setFacts_14 : decode cX7_setFacts 14 = .ok (.aload_n 0, 1) := by decide +kernel
theorem dX7_setFacts_15 : decode cX7_setFacts 15 = .ok (.getfield 20, 3) := by decide +kernel
theorem dX7_setFacts_18 : decode cX7_setFacts 18 = .ok (.iconst 2, 1) := by decide +kernel
theorem dX7_setFacts_19 : decode cX7_setFacts 19 = .ok (.aload_n 0, 1) := by decide +kernel
theorem dX7_setFacts_20 : decode cX7_setFacts 20 = .ok (.getfield 12, 3) := by decide +kernel
theorem dX7_setFacts_23 : decode cX7_setFacts 23 = .ok (.getfield 24, 3) := by decide +kernel
theorem dX7_setFacts_26 : decode cX7_setFacts 26 = .ok (.getfield 28, 3) := by decide +kernel
theorem dX7_setFacts_29 : decode cX7_setFacts 29 = .ok (.iload_n 2, 1) := by decide +kernel
theorem dX7_setFacts_30 : decode cX7_setFacts 30 = .ok (.iaload, 1) := by decide +kernel
theorem dX7_setFacts_31 : decode cX7_setFacts 31 = .ok (.iastore, 1) := by decide +kernel
theorem dX7_setFacts_32 : decode cX7_setFacts 32 = .ok (.aload_n 0, 1) := by decide +kernel
theorem dX7_setFacts_33 : decode cX7_setFacts 33 = .ok (.getfield 20, 3) := by decide +kernel
theorem dX7_setFacts_36 : decode cX7_setFacts 36 = .ok (.iconst 3, 1) := by decide +kernel
theorem dX7_setFacts_37 : decode cX7_setFacts 37 = .ok (.aload_n 1, 1) := by decide +kernel
theorem dX7_setFacts_38 : decode cX7_setFacts 38 = .ok (.getfield 33, 3) := by decide +kernel
theorem dX7_setFacts_41 : decode cX7_setFacts 41 = .ok (.iload_n 2, 1) := by decide +kernel
theorem dX7_setFacts_42 : decode cX7_setFacts 42 = .ok (.invokestatic 39, 3) := by decide +kernel
theorem dX7_setFacts_45 : decode cX7_setFacts 45 = .ok (.ifCond .eq 12, 3) := by decide +kernel
theorem dX7_setFacts_48 : decode cX7_setFacts 48 = .ok (.aload_n 1, 1) := by decide +kernel
theorem dX7_setFacts_49 : decode cX7_setFacts 49 = .ok (.getfield 43, 3) := by decide +kernel
theorem dX7_setFacts_52 : decode cX7_setFacts 52 = .ok (.iload_n 2, 1) := by decide +kernel
theorem dX7_setFacts_53 : decode cX7_setFacts 53 = .ok (.iaload, 1) := by decide +kernel
theorem dX7_setFacts_54 : decode cX7_setFacts 54 = .ok (.goto 5, 3) := by decide +kernel
theorem dX7_setFacts_57 : decode cX7_setFacts 57 = .ok (.bipush 9, 2) := by decide +kernel
theorem dX7_setFacts_59 : decode cX7_setFacts 59 = .ok (.iastore, 1) := by decide +kernel
theorem dX7_setFacts_60 : decode cX7_setFacts 60 = .ok (.aload_n 0, 1) := by decide +kernel
theorem dX7_setFacts_61 : decode cX7_setFacts 61 = .ok (.getfield 20, 3) := by decide +kernel
theorem dX7_setFacts_64 : decode cX7_setFacts 64 = .ok (.iconst 4, 1) := by decide +kernel
theorem dX7_setFacts_65 : decode cX7_setFacts 65 = .ok (.aload_n 1, 1) := by decide +kernel
theorem dX7_setFacts_66 : decode cX7_setFacts 66 = .ok (.getfield 46, 3) := by decide +kernel
theorem dX7_setFacts_69 : decode cX7_setFacts 69 = .ok (.bipush 7, 2) := by decide +kernel
theorem dX7_setFacts_71 : decode cX7_setFacts 71 = .ok (.irem, 1) := by decide +kernel
theorem dX7_setFacts_72 : decode cX7_setFacts 72 = .ok (.iastore, 1) := by decide +kernel
theorem dX7_setFacts_73 : decode cX7_setFacts 73 = .ok (.return_, 1) := by decide +kernel
theorem dX7_mayOf_0 : decode cX7_mayOf 0 = .ok (.iconst 0, 1) := by decide +kernel
theorem dX7_mayOf_1 : decode cX7_mayOf 1 = .ok (.istore_n 3, 1) := by decide +kernel
theorem dX7_mayOf_2 : decode cX7_mayOf 2 = .ok (.iconst 0, 1) := by decide +kernel
theorem dX7_mayOf_3 : decode cX7_mayOf 3 = .ok (.istore 4, 2) := by decide +kernel
theorem dX7_mayOf_5 : decode cX7_mayOf 5 = .ok (.iload 4, 2) := by decide +kernel
theorem dX7_mayOf_7 : decode cX7_mayOf 7 = .ok (.aload_n 0, 1) := by decide +kernel
theorem dX7_mayOf_8 : decode cX7_mayOf 8 = .ok (.getfield 12, 3) := by decide +kernel
theorem dX7_mayOf_11 : decode cX7_mayOf 11 = .ok (.getfield 24, 3) := by decide +kernel
theorem dX7_mayOf_14 : decode cX7_mayOf 14 = .ok (.getfield 49, 3) := by decide +kernel
theorem dX7_mayOf_17 : decode cX7_mayOf 17 = .ok (.if_icmp .ge 74, 3) := by decide +kernel
theorem dX7_mayOf_20 : decode cX7_mayOf 20 = .ok (.aload_n 0, 1) := by decide +kernel
theorem dX7_mayOf_21 : decode cX7_mayOf 21 = .ok (.getfield 12, 3) := by decide +kernel
theorem dX7_mayOf_24 : decode cX7_mayOf 24 = .ok (.getfield 24, 3) := by decide +kernel
theorem dX7_mayOf_27 : decode cX7_mayOf 27 = .ok (.getfield 52, 3) := by decide +kernel
theorem dX7_mayOf_30 : decode cX7_mayOf 30 = .ok (.iload_n 2, 1) := by decide +kernel
theorem dX7_mayOf_31 : decode cX7_mayOf 31 = .ok (.iaload, 1) := by decide +kernel
theorem dX7_mayOf_32 : decode cX7_mayOf 32 = .ok (.iload 4, 2) := by decide +kernel
theorem dX7_mayOf_34 : decode cX7_mayOf 34 = .ok (.invokestatic 39, 3) := by decide +kernel
theorem dX7_mayOf_37 : decode cX7_mayOf 37 = .ok (.ifCond .eq 48, 3) := by decide +kernel
theorem dX7_mayOf_40 : decode cX7_mayOf 40 = .ok (.aload_n 1, 1) := by decide +kernel
theorem dX7_mayOf_41 : decode cX7_mayOf 41 = .ok (.getfield 33, 3) := by decide +kernel
theorem dX7_mayOf_44 : decode cX7_mayOf 44 = .ok (.iload 4, 2) := by decide +kernel
theorem dX7_mayOf_46 : decode cX7_mayOf 46 = .ok (.invokestatic 39, 3) := by decide +kernel
theorem dX7_mayOf_49 : decode cX7_mayOf 49 = .ok (.ifCond .ne 36, 3) := by decide +kernel
theorem dX7_mayOf_52 : decode cX7_mayOf 52 = .ok (.aload_n 0, 1) := by decide +kernel
theorem dX7_mayOf_53 : decode cX7_mayOf 53 = .ok (.aload_n 1, 1) := by decide +kernel
theorem dX7_mayOf_54 : decode cX7_mayOf 54 = .ok (.iload_n 2, 1) := by decide +kernel
theorem dX7_mayOf_55 : decode cX7_mayOf 55 = .ok (.iload 4, 2) := by decide +kernel
theorem dX7_mayOf_57 : decode cX7_mayOf 57 = .ok (.invokevirtual 55, 3) := by decide +kernel
theorem dX7_mayOf_60 : decode cX7_mayOf 60 = .ok (.aload_n 0, 1) := by decide +kernel
theorem dX7_mayOf_61 : decode cX7_mayOf 61 = .ok (.getfield 12, 3) := by decide +kernel
theorem dX7_mayOf_64 : decode cX7_mayOf 64 = .ok (.getfield 59, 3) := by decide +kernel
theorem dX7_mayOf_67 : decode cX7_mayOf 67 = .ok (.iconst 0, 1) := by decide +kernel
theorem dX7_mayOf_68 : decode cX7_mayOf 68 = .ok (.aload_n 0, 1) := by decide +kernel
theorem dX7_mayOf_69 : decode cX7_mayOf 69 = .ok (.getfield 20, 3) := by decide +kernel
theorem dX7_mayOf_72 : decode cX7_mayOf 72 = .ok (.invokevirtual 63, 3) := by decide +kernel
theorem dX7_mayOf_75 : decode cX7_mayOf 75 = .ok (.ifCond .ne 10, 3) := by decide +kernel
theorem dX7_mayOf_78 : decode cX7_mayOf 78 = .ok (.iload_n 3, 1) := by decide +kernel
theorem dX7_mayOf_79 : decode cX7_mayOf 79 = .ok (.iconst 1, 1) := by decide +kernel
theorem dX7_mayOf_80 : decode cX7_mayOf 80 = .ok (.iload 4, 2) := by decide +kernel
theorem dX7_mayOf_82 : decode cX7_mayOf 82 = .ok (.ishl, 1) := by decide +kernel
theorem dX7_mayOf_83 : decode cX7_mayOf 83 = .ok (.ior, 1) := by decide +kernel
theorem dX7_mayOf_84 : decode cX7_mayOf 84 = .ok (.istore_n 3, 1) := by decide +kernel
theorem dX7_mayOf_85 : decode cX7_mayOf 85 = .ok (.iinc 4 1, 3) := by decide +kernel
theorem dX7_mayOf_88 : decode cX7_mayOf 88 = .ok (.goto (-83), 3) := by decide +kernel
theorem dX7_mayOf_91 : decode cX7_mayOf 91 = .ok (.iload_n 3, 1) := by decide +kernel
theorem dX7_mayOf_92 : decode cX7_mayOf 92 = .ok (.ireturn, 1) := by decide +kernel
theorem dX7_fineOf_0 : decode cX7_fineOf 0 = .ok (.aload_n 0, 1) := by decide +kernel
theorem dX7_fineOf_1 : decode cX7_fineOf 1 = .ok (.aload_n 1, 1) := by decide +kernel
theorem dX7_fineOf_2 : decode cX7_fineOf 2 = .ok (.iload_n 2, 1) := by decide +kernel
theorem dX7_fineOf_3 : decode cX7_fineOf 3 = .ok (.bipush 9, 2) := by decide +kernel
theorem dX7_fineOf_5 : decode cX7_fineOf 5 = .ok (.invokevirtual 55, 3) := by decide +kernel
theorem dX7_fineOf_8 : decode cX7_fineOf 8 = .ok (.aload_n 0, 1) := by decide +kernel
theorem dX7_fineOf_9 : decode cX7_fineOf 9 = .ok (.getfield 12, 3) := by decide +kernel
theorem dX7_fineOf_12 : decode cX7_fineOf 12 = .ok (.getfield 59, 3) := by decide +kernel
theorem dX7_fineOf_15 : decode cX7_fineOf 15 = .ok (.iconst 1, 1) := by decide +kernel
theorem dX7_fineOf_16 : decode cX7_fineOf 16 = .ok (.aload_n 0, 1) := by decide +kernel
theorem dX7_fineOf_17 : decode cX7_fineOf 17 = .ok (.getfield 20, 3) := by decide +kernel
theorem dX7_fineOf_20 : decode cX7_fineOf 20 = .ok (.invokevirtual 63, 3) := by decide +kernel
theorem dX7_fineOf_23 : decode cX7_fineOf 23 = .ok (.ireturn, 1) := by decide +kernel
theorem dX7_askedOf_0 : decode cX7_askedOf 0 = .ok (.aload_n 1, 1) := by decide +kernel
theorem dX7_askedOf_1 : decode cX7_askedOf 1 = .ok (.getfield 43, 3) := by decide +kernel
theorem dX7_askedOf_4 : decode cX7_askedOf 4 = .ok (.iload_n 2, 1) := by decide +kernel
theorem dX7_askedOf_5 : decode cX7_askedOf 5 = .ok (.iaload, 1) := by decide +kernel
theorem dX7_askedOf_6 : decode cX7_askedOf 6 = .ok (.istore_n 3, 1) := by decide +kernel
theorem dX7_askedOf_7 : decode cX7_askedOf 7 = .ok (.aload_n 0, 1) := by decide +kernel
theorem dX7_askedOf_8 : decode cX7_askedOf 8 = .ok (.getfield 12, 3) := by decide +kernel
theorem dX7_askedOf_11 : decode cX7_askedOf 11 = .ok (.getfield 24, 3) := by decide +kernel
theorem dX7_askedOf_14 : decode cX7_askedOf 14 = .ok (.getfield 28, 3) := by decide +kernel
theorem dX7_askedOf_17 : decode cX7_askedOf 17 = .ok (.iload_n 2, 1) := by decide +kernel
theorem dX7_askedOf_18 : decode cX7_askedOf 18 = .ok (.iaload, 1) := by decide +kernel
theorem dX7_askedOf_19 : decode cX7_askedOf 19 = .ok (.istore 4, 2) := by decide +kernel
theorem dX7_askedOf_21 : decode cX7_askedOf 21 = .ok (.iload 4, 2) := by decide +kernel
theorem dX7_askedOf_23 : decode cX7_askedOf 23 = .ok (.iconst 2, 1) := by decide +kernel
theorem dX7_askedOf_24 : decode cX7_askedOf 24 = .ok (.if_icmp .eq 9, 3) := by decide +kernel
theorem dX7_askedOf_27 : decode cX7_askedOf 27 = .ok (.iload 4, 2) := by decide +kernel
theorem dX7_askedOf_29 : decode cX7_askedOf 29 = .ok (.iconst 5, 1) := by decide +kernel
theorem dX7_askedOf_30 : decode cX7_askedOf 30 = .ok (.if_icmp .ne 27, 3) := by decide +kernel
theorem dX7_askedOf_33 : decode cX7_askedOf 33 = .ok (.iload_n 3, 1) := by decide +kernel
theorem dX7_askedOf_34 : decode cX7_askedOf 34 = .ok (.aload_n 0, 1) := by decide +kernel
theorem dX7_askedOf_35 : decode cX7_askedOf 35 = .ok (.getfield 12, 3) := by decide +kernel
theorem dX7_askedOf_38 : decode cX7_askedOf 38 = .ok (.getfield 24, 3) := by decide +kernel
theorem dX7_askedOf_41 : decode cX7_askedOf 41 = .ok (.getfield 67, 3) := by decide +kernel
theorem dX7_askedOf_44 : decode cX7_askedOf 44 = .ok (.iload_n 2, 1) := by decide +kernel
theorem dX7_askedOf_45 : decode cX7_askedOf 45 = .ok (.iaload, 1) := by decide +kernel
theorem dX7_askedOf_46 : decode cX7_askedOf 46 = .ok (.iconst 3, 1) := by decide +kernel
theorem dX7_askedOf_47 : decode cX7_askedOf 47 = .ok (.irem, 1) := by decide +kernel
theorem dX7_askedOf_48 : decode cX7_askedOf 48 = .ok (.if_icmp .gt 7, 3) := by decide +kernel
theorem dX7_askedOf_51 : decode cX7_askedOf 51 = .ok (.iconst 0, 1) := by decide +kernel
theorem dX7_askedOf_52 : decode cX7_askedOf 52 = .ok (.goto 4, 3) := by decide +kernel
theorem dX7_askedOf_55 : decode cX7_askedOf 55 = .ok (.iload_n 3, 1) := by decide +kernel
theorem dX7_askedOf_56 : decode cX7_askedOf 56 = .ok (.ireturn, 1) := by decide +kernel
theorem dX7_askedOf_57 : decode cX7_askedOf 57 = .ok (.iload 4, 2) := by decide +kernel
theorem dX7_askedOf_59 : decode cX7_askedOf 59 = .ok (.iconst 4, 1) := by decide +kernel
theorem dX7_askedOf_60 : decode cX7_askedOf 60 = .ok (.if_icmp .ne 9, 3) := by decide +kernel
theorem dX7_askedOf_63 : decode cX7_askedOf 63 = .ok (.iload_n 3, 1) := by decide +kernel
theorem dX7_askedOf_64 : decode cX7_askedOf 64 = .ok (.iconst 1, 1) := by decide +kernel
theorem dX7_askedOf_65 : decode cX7_askedOf 65 = .ok (.iadd, 1) := by decide +kernel
theorem dX7_askedOf_66 : decode cX7_askedOf 66 = .ok (.goto 4, 3) := by decide +kernel
theorem dX7_askedOf_69 : decode cX7_askedOf 69 = .ok (.iload_n 3, 1) := by decide +kernel
theorem dX7_askedOf_70 : decode cX7_askedOf 70 = .ok (.ireturn, 1) := by decide +kernel
theorem dX7_goDay_0 : decode cX7_goDay 0 = .ok (.aload_n 1, 1) := by decide +kernel
theorem dX7_goDay_1 : decode cX7_goDay 1 = .ok (.invokevirtual 70, 3) := by decide +kernel
theorem dX7_goDay_4 : decode cX7_goDay 4 = .ok (.istore 5, 2) := by decide +kernel
theorem dX7_goDay_6 : decode cX7_goDay 6 = .ok (.aload_n 0, 1) := by decide +kernel
theorem dX7_goDay_7 : decode cX7_goDay 7 = .ok (.getfield 12, 3) := by decide +kernel
theorem dX7_goDay_10 : decode cX7_goDay 10 = .ok (.getfield 24, 3) := by decide +kernel
theorem dX7_goDay_13 : decode cX7_goDay 13 = .ok (.aload_n 1, 1) := by decide +kernel
theorem dX7_goDay_14 : decode cX7_goDay 14 = .ok (.getfield 46, 3) := by decide +kernel
theorem dX7_goDay_17 : decode cX7_goDay 17 = .ok (.invokevirtual 74, 3) := by decide +kernel
theorem dX7_goDay_20 : decode cX7_goDay 20 = .ok (.iload 4, 2) := by decide +kernel
theorem dX7_goDay_22 : decode cX7_goDay 22 = .ok (.iconst (-1), 1) := by decide +kernel
theorem dX7_goDay_23 : decode cX7_goDay 23 = .ok (.if_icmp .ne 7, 3) := by decide +kernel
theorem dX7_goDay_26 : decode cX7_goDay 26 = .ok (.iconst 0, 1) := by decide +kernel
theorem dX7_goDay_27 : decode cX7_goDay 27 = .ok (.goto 7, 3) := by decide +kernel
theorem dX7_goDay_30 : decode cX7_goDay 30 = .ok (.iconst 1, 1) := by decide +kernel
theorem dX7_goDay_31 : decode cX7_goDay 31 = .ok (.iload 4, 2) := by decide +kernel
theorem dX7_goDay_33 : decode cX7_goDay 33 = .ok (.ishl, 1) := by decide +kernel
theorem dX7_goDay_34 : decode cX7_goDay 34 = .ok (.ior, 1) := by decide +kernel
theorem dX7_goDay_35 : decode cX7_goDay 35 = .ok (.istore 6, 2) := by decide +kernel
theorem dX7_goDay_37 : decode cX7_goDay 37 = .ok (.iconst 0, 1) := by decide +kernel
theorem dX7_goDay_38 : decode cX7_goDay 38 = .ok (.istore 7, 2) := by decide +kernel
theorem dX7_goDay_40 : decode cX7_goDay 40 = .ok (.iconst 0, 1) := by decide +kernel
theorem dX7_goDay_41 : decode cX7_goDay 41 = .ok (.istore 8, 2) := by decide +kernel
theorem dX7_goDay_43 : decode cX7_goDay 43 = .ok (.iload 8, 2) := by decide +kernel
theorem dX7_goDay_45 : decode cX7_goDay 45 = .ok (.aload_n 0, 1) := by decide +kernel
theorem dX7_goDay_46 : decode cX7_goDay 46 = .ok (.getfield 12, 3) := by decide +kernel
theorem dX7_goDay_49 : decode cX7_goDay 49 = .ok (.getfield 24, 3) := by decide +kernel
end
section
theorem dX7_goDay_52 : decode cX7_goDay 52 = .ok (.getfield 49, 3) := by decide +kernel
theorem dX7_goDay_55 : decode cX7_goDay 55 = .ok (.if_icmp .ge 127, 3) := by decide +kernel
theorem dX7_goDay_58 : decode cX7_goDay 58 = .ok (.iload 5, 2) := by decide +kernel
theorem dX7_goDay_60 : decode cX7_goDay 60 = .ok (.iload 8, 2) := by decide +kernel
theorem dX7_goDay_62 : decode cX7_goDay 62 = .ok (.invokestatic 39, 3) := by decide +kernel
theorem dX7_goDay_65 : decode cX7_goDay 65 = .ok (.ifCond .eq 111, 3) := by decide +kernel
theorem dX7_goDay_68 : decode cX7_goDay 68 = .ok (.aload_n 0, 1) := by decide +kernel
theorem dX7_goDay_69 : decode cX7_goDay 69 = .ok (.aload_n 1, 1) := by decide +kernel
theorem dX7_goDay_70 : decode cX7_goDay 70 = .ok (.iload 8, 2) := by decide +kernel
theorem dX7_goDay_72 : decode cX7_goDay 72 = .ok (.invokevirtual 78, 3) := by decide +kernel
theorem dX7_goDay_75 : decode cX7_goDay 75 = .ok (.istore 9, 2) := by decide +kernel
theorem dX7_goDay_77 : decode cX7_goDay 77 = .ok (.iload 8, 2) := by decide +kernel
theorem dX7_goDay_79 : decode cX7_goDay 79 = .ok (.iload_n 2, 1) := by decide +kernel
theorem dX7_goDay_80 : decode cX7_goDay 80 = .ok (.if_icmp .ne 7, 3) := by decide +kernel
theorem dX7_goDay_83 : decode cX7_goDay 83 = .ok (.iload_n 3, 1) := by decide +kernel
theorem dX7_goDay_84 : decode cX7_goDay 84 = .ok (.goto 24, 3) := by decide +kernel
theorem dX7_goDay_87 : decode cX7_goDay 87 = .ok (.aload_n 0, 1) := by decide +kernel
theorem dX7_goDay_88 : decode cX7_goDay 88 = .ok (.getfield 12, 3) := by decide +kernel
theorem dX7_goDay_91 : decode cX7_goDay 91 = .ok (.getfield 24, 3) := by decide +kernel
theorem dX7_goDay_94 : decode cX7_goDay 94 = .ok (.iload 8, 2) := by decide +kernel
theorem dX7_goDay_96 : decode cX7_goDay 96 = .ok (.aload_n 0, 1) := by decide +kernel
theorem dX7_goDay_97 : decode cX7_goDay 97 = .ok (.aload_n 1, 1) := by decide +kernel
theorem dX7_goDay_98 : decode cX7_goDay 98 = .ok (.iload 8, 2) := by decide +kernel
theorem dX7_goDay_100 : decode cX7_goDay 100 = .ok (.invokevirtual 82, 3) := by decide +kernel
theorem dX7_goDay_103 : decode cX7_goDay 103 = .ok (.iload 9, 2) := by decide +kernel
theorem dX7_goDay_105 : decode cX7_goDay 105 = .ok (.invokevirtual 85, 3) := by decide +kernel
theorem dX7_goDay_108 : decode cX7_goDay 108 = .ok (.istore 10, 2) := by decide +kernel
theorem dX7_goDay_110 : decode cX7_goDay 110 = .ok (.iload 9, 2) := by decide +kernel
theorem dX7_goDay_112 : decode cX7_goDay 112 = .ok (.iload 10, 2) := by decide +kernel
theorem dX7_goDay_114 : decode cX7_goDay 114 = .ok (.invokestatic 89, 3) := by decide +kernel
theorem dX7_goDay_117 : decode cX7_goDay 117 = .ok (.isub, 1) := by decide +kernel
theorem dX7_goDay_118 : decode cX7_goDay 118 = .ok (.istore 11, 2) := by decide +kernel
theorem dX7_goDay_120 : decode cX7_goDay 120 = .ok (.aload_n 1, 1) := by decide +kernel
theorem dX7_goDay_121 : decode cX7_goDay 121 = .ok (.dup, 1) := by decide +kernel
theorem dX7_goDay_122 : decode cX7_goDay 122 = .ok (.getfield 94, 3) := by decide +kernel
theorem dX7_goDay_125 : decode cX7_goDay 125 = .ok (.iload 11, 2) := by decide +kernel
theorem dX7_goDay_127 : decode cX7_goDay 127 = .ok (.ifCond .le 16, 3) := by decide +kernel
theorem dX7_goDay_130 : decode cX7_goDay 130 = .ok (.iload 11, 2) := by decide +kernel
theorem dX7_goDay_132 : decode cX7_goDay 132 = .ok (.aload_n 0, 1) := by decide +kernel
theorem dX7_goDay_133 : decode cX7_goDay 133 = .ok (.aload_n 1, 1) := by decide +kernel
theorem dX7_goDay_134 : decode cX7_goDay 134 = .ok (.iload 8, 2) := by decide +kernel
theorem dX7_goDay_136 : decode cX7_goDay 136 = .ok (.invokevirtual 97, 3) := by decide +kernel
theorem dX7_goDay_139 : decode cX7_goDay 139 = .ok (.imul, 1) := by decide +kernel
theorem dX7_goDay_140 : decode cX7_goDay 140 = .ok (.goto 4, 3) := by decide +kernel
theorem dX7_goDay_143 : decode cX7_goDay 143 = .ok (.iconst 0, 1) := by decide +kernel
theorem dX7_goDay_144 : decode cX7_goDay 144 = .ok (.iadd, 1) := by decide +kernel
theorem dX7_goDay_145 : decode cX7_goDay 145 = .ok (.putfield 94, 3) := by decide +kernel
theorem dX7_goDay_148 : decode cX7_goDay 148 = .ok (.aload_n 0, 1) := by decide +kernel
theorem dX7_goDay_149 : decode cX7_goDay 149 = .ok (.aload_n 1, 1) := by decide +kernel
theorem dX7_goDay_150 : decode cX7_goDay 150 = .ok (.iload 8, 2) := by decide +kernel
theorem dX7_goDay_152 : decode cX7_goDay 152 = .ok (.iload 10, 2) := by decide +kernel
theorem dX7_goDay_154 : decode cX7_goDay 154 = .ok (.iload 6, 2) := by decide +kernel
theorem dX7_goDay_156 : decode cX7_goDay 156 = .ok (.iconst (-1), 1) := by decide +kernel
theorem dX7_goDay_157 : decode cX7_goDay 157 = .ok (.ixor, 1) := by decide +kernel
theorem dX7_goDay_158 : decode cX7_goDay 158 = .ok (.iand, 1) := by decide +kernel
theorem dX7_goDay_159 : decode cX7_goDay 159 = .ok (.iload 7, 2) := by decide +kernel
theorem dX7_goDay_161 : decode cX7_goDay 161 = .ok (.invokevirtual 100, 3) := by decide +kernel
theorem dX7_goDay_164 : decode cX7_goDay 164 = .ok (.iload 7, 2) := by decide +kernel
theorem dX7_goDay_166 : decode cX7_goDay 166 = .ok (.iload 10, 2) := by decide +kernel
theorem dX7_goDay_168 : decode cX7_goDay 168 = .ok (.iload 6, 2) := by decide +kernel
theorem dX7_goDay_170 : decode cX7_goDay 170 = .ok (.iconst (-1), 1) := by decide +kernel
theorem dX7_goDay_171 : decode cX7_goDay 171 = .ok (.ixor, 1) := by decide +kernel
theorem dX7_goDay_172 : decode cX7_goDay 172 = .ok (.iand, 1) := by decide +kernel
theorem dX7_goDay_173 : decode cX7_goDay 173 = .ok (.ior, 1) := by decide +kernel
theorem dX7_goDay_174 : decode cX7_goDay 174 = .ok (.istore 7, 2) := by decide +kernel
theorem dX7_goDay_176 : decode cX7_goDay 176 = .ok (.iinc 8 1, 3) := by decide +kernel
theorem dX7_goDay_179 : decode cX7_goDay 179 = .ok (.goto (-136), 3) := by decide +kernel
theorem dX7_goDay_182 : decode cX7_goDay 182 = .ok (.aload_n 1, 1) := by decide +kernel
theorem dX7_goDay_183 : decode cX7_goDay 183 = .ok (.dup, 1) := by decide +kernel
theorem dX7_goDay_184 : decode cX7_goDay 184 = .ok (.getfield 104, 3) := by decide +kernel
theorem dX7_goDay_187 : decode cX7_goDay 187 = .ok (.iload 5, 2) := by decide +kernel
theorem dX7_goDay_189 : decode cX7_goDay 189 = .ok (.ior, 1) := by decide +kernel
theorem dX7_goDay_190 : decode cX7_goDay 190 = .ok (.putfield 104, 3) := by decide +kernel
theorem dX7_goDay_193 : decode cX7_goDay 193 = .ok (.aload_n 1, 1) := by decide +kernel
theorem dX7_goDay_194 : decode cX7_goDay 194 = .ok (.dup, 1) := by decide +kernel
theorem dX7_goDay_195 : decode cX7_goDay 195 = .ok (.getfield 33, 3) := by decide +kernel
theorem dX7_goDay_198 : decode cX7_goDay 198 = .ok (.iload 7, 2) := by decide +kernel
theorem dX7_goDay_200 : decode cX7_goDay 200 = .ok (.ior, 1) := by decide +kernel
theorem dX7_goDay_201 : decode cX7_goDay 201 = .ok (.putfield 33, 3) := by decide +kernel
theorem dX7_goDay_204 : decode cX7_goDay 204 = .ok (.aload_n 1, 1) := by decide +kernel
theorem dX7_goDay_205 : decode cX7_goDay 205 = .ok (.dup, 1) := by decide +kernel
theorem dX7_goDay_206 : decode cX7_goDay 206 = .ok (.getfield 46, 3) := by decide +kernel
theorem dX7_goDay_209 : decode cX7_goDay 209 = .ok (.iconst 1, 1) := by decide +kernel
theorem dX7_goDay_210 : decode cX7_goDay 210 = .ok (.iadd, 1) := by decide +kernel
theorem dX7_goDay_211 : decode cX7_goDay 211 = .ok (.putfield 46, 3) := by decide +kernel
theorem dX7_goDay_214 : decode cX7_goDay 214 = .ok (.iload 7, 2) := by decide +kernel
theorem dX7_goDay_216 : decode cX7_goDay 216 = .ok (.invokestatic 89, 3) := by decide +kernel
theorem dX7_goDay_219 : decode cX7_goDay 219 = .ok (.ireturn, 1) := by decide +kernel
theorem dX7_hand_0 : decode cX7_hand 0 = .ok (.iconst 0, 1) := by decide +kernel
theorem dX7_hand_1 : decode cX7_hand 1 = .ok (.aload_n 1, 1) := by decide +kernel
theorem dX7_hand_2 : decode cX7_hand 2 = .ok (.getfield 43, 3) := by decide +kernel
theorem dX7_hand_5 : decode cX7_hand 5 = .ok (.iload_n 2, 1) := by decide +kernel
theorem dX7_hand_6 : decode cX7_hand 6 = .ok (.iaload, 1) := by decide +kernel
theorem dX7_hand_7 : decode cX7_hand 7 = .ok (.aload_n 0, 1) := by decide +kernel
theorem dX7_hand_8 : decode cX7_hand 8 = .ok (.getfield 12, 3) := by decide +kernel
theorem dX7_hand_11 : decode cX7_hand 11 = .ok (.getfield 59, 3) := by decide +kernel
theorem dX7_hand_14 : decode cX7_hand 14 = .ok (.getfield 107, 3) := by decide +kernel
theorem dX7_hand_17 : decode cX7_hand 17 = .ok (.isub, 1) := by decide +kernel
theorem dX7_hand_18 : decode cX7_hand 18 = .ok (.invokestatic 110, 3) := by decide +kernel
theorem dX7_hand_21 : decode cX7_hand 21 = .ok (.istore 5, 2) := by decide +kernel
theorem dX7_hand_23 : decode cX7_hand 23 = .ok (.iconst 0, 1) := by decide +kernel
theorem dX7_hand_24 : decode cX7_hand 24 = .ok (.istore 6, 2) := by decide +kernel
theorem dX7_hand_26 : decode cX7_hand 26 = .ok (.iload 6, 2) := by decide +kernel
theorem dX7_hand_28 : decode cX7_hand 28 = .ok (.aload_n 0, 1) := by decide +kernel
theorem dX7_hand_29 : decode cX7_hand 29 = .ok (.getfield 12, 3) := by decide +kernel
theorem dX7_hand_32 : decode cX7_hand 32 = .ok (.getfield 24, 3) := by decide +kernel
theorem dX7_hand_35 : decode cX7_hand 35 = .ok (.getfield 49, 3) := by decide +kernel
theorem dX7_hand_38 : decode cX7_hand 38 = .ok (.if_icmp .ge 105, 3) := by decide +kernel
theorem dX7_hand_41 : decode cX7_hand 41 = .ok (.iload_n 3, 1) := by decide +kernel
theorem dX7_hand_42 : decode cX7_hand 42 = .ok (.iload 6, 2) := by decide +kernel
theorem dX7_hand_44 : decode cX7_hand 44 = .ok (.invokestatic 39, 3) := by decide +kernel
theorem dX7_hand_47 : decode cX7_hand 47 = .ok (.ifCond .eq 90, 3) := by decide +kernel
theorem dX7_hand_50 : decode cX7_hand 50 = .ok (.aload_n 1, 1) := by decide +kernel
theorem dX7_hand_51 : decode cX7_hand 51 = .ok (.getfield 116, 3) := by decide +kernel
theorem dX7_hand_54 : decode cX7_hand 54 = .ok (.iload 6, 2) := by decide +kernel
theorem dX7_hand_56 : decode cX7_hand 56 = .ok (.aload_n 1, 1) := by decide +kernel
theorem dX7_hand_57 : decode cX7_hand 57 = .ok (.getfield 46, 3) := by decide +kernel
theorem dX7_hand_60 : decode cX7_hand 60 = .ok (.iastore, 1) := by decide +kernel
theorem dX7_hand_61 : decode cX7_hand 61 = .ok (.iload 4, 2) := by decide +kernel
theorem dX7_hand_63 : decode cX7_hand 63 = .ok (.iload 6, 2) := by decide +kernel
theorem dX7_hand_65 : decode cX7_hand 65 = .ok (.invokestatic 39, 3) := by decide +kernel
theorem dX7_hand_68 : decode cX7_hand 68 = .ok (.ifCond .ne 15, 3) := by decide +kernel
theorem dX7_hand_71 : decode cX7_hand 71 = .ok (.aload_n 1, 1) := by decide +kernel
theorem dX7_hand_72 : decode cX7_hand 72 = .ok (.getfield 43, 3) := by decide +kernel
theorem dX7_hand_75 : decode cX7_hand 75 = .ok (.iload 6, 2) := by decide +kernel
theorem dX7_hand_77 : decode cX7_hand 77 = .ok (.iload 5, 2) := by decide +kernel
theorem dX7_hand_79 : decode cX7_hand 79 = .ok (.iastore, 1) := by decide +kernel
theorem dX7_hand_80 : decode cX7_hand 80 = .ok (.goto 57, 3) := by decide +kernel
theorem dX7_hand_83 : decode cX7_hand 83 = .ok (.aload_n 0, 1) := by decide +kernel
theorem dX7_hand_84 : decode cX7_hand 84 = .ok (.getfield 12, 3) := by decide +kernel
theorem dX7_hand_87 : decode cX7_hand 87 = .ok (.getfield 59, 3) := by decide +kernel
theorem dX7_hand_90 : decode cX7_hand 90 = .ok (.getfield 119, 3) := by decide +kernel
theorem dX7_hand_93 : decode cX7_hand 93 = .ok (.ifCond .ne 25, 3) := by decide +kernel
theorem dX7_hand_96 : decode cX7_hand 96 = .ok (.aload_n 1, 1) := by decide +kernel
theorem dX7_hand_97 : decode cX7_hand 97 = .ok (.getfield 43, 3) := by decide +kernel
theorem dX7_hand_100 : decode cX7_hand 100 = .ok (.iload 6, 2) := by decide +kernel
theorem dX7_hand_102 : decode cX7_hand 102 = .ok (.aload_n 1, 1) := by decide +kernel
theorem dX7_hand_103 : decode cX7_hand 103 = .ok (.getfield 43, 3) := by decide +kernel
theorem dX7_hand_106 : decode cX7_hand 106 = .ok (.iload 6, 2) := by decide +kernel
theorem dX7_hand_108 : decode cX7_hand 108 = .ok (.iaload, 1) := by decide +kernel
theorem dX7_hand_109 : decode cX7_hand 109 = .ok (.iload 5, 2) := by decide +kernel
theorem dX7_hand_111 : decode cX7_hand 111 = .ok (.invokestatic 122, 3) := by decide +kernel
theorem dX7_hand_114 : decode cX7_hand 114 = .ok (.iastore, 1) := by decide +kernel
theorem dX7_hand_115 : decode cX7_hand 115 = .ok (.goto 22, 3) := by decide +kernel
theorem dX7_hand_118 : decode cX7_hand 118 = .ok (.aload_n 1, 1) := by decide +kernel
theorem dX7_hand_119 : decode cX7_hand 119 = .ok (.getfield 43, 3) := by decide +kernel
theorem dX7_hand_122 : decode cX7_hand 122 = .ok (.iload 6, 2) := by decide +kernel
theorem dX7_hand_124 : decode cX7_hand 124 = .ok (.aload_n 1, 1) := by decide +kernel
theorem dX7_hand_125 : decode cX7_hand 125 = .ok (.getfield 43, 3) := by decide +kernel
theorem dX7_hand_128 : decode cX7_hand 128 = .ok (.iload 6, 2) := by decide +kernel
theorem dX7_hand_130 : decode cX7_hand 130 = .ok (.iaload, 1) := by decide +kernel
theorem dX7_hand_131 : decode cX7_hand 131 = .ok (.iload 5, 2) := by decide +kernel
theorem dX7_hand_133 : decode cX7_hand 133 = .ok (.invokestatic 110, 3) := by decide +kernel
theorem dX7_hand_136 : decode cX7_hand 136 = .ok (.iastore, 1) := by decide +kernel
theorem dX7_hand_137 : decode cX7_hand 137 = .ok (.iinc 6 1, 3) := by decide +kernel
theorem dX7_hand_140 : decode cX7_hand 140 = .ok (.goto (-114), 3) := by decide +kernel
theorem dX7_hand_143 : decode cX7_hand 143 = .ok (.return_, 1) := by decide +kernel
theorem dX7_goOn_0 : decode cX7_goOn 0 = .ok (.iconst 0, 1) := by decide +kernel
theorem dX7_goOn_1 : decode cX7_goOn 1 = .ok (.istore 5, 2) := by decide +kernel
theorem dX7_goOn_3 : decode cX7_goOn 3 = .ok (.iload 5, 2) := by decide +kernel
theorem dX7_goOn_5 : decode cX7_goOn 5 = .ok (.bipush 7, 2) := by decide +kernel
theorem dX7_goOn_7 : decode cX7_goOn 7 = .ok (.if_icmp .gt 29, 3) := by decide +kernel
theorem dX7_goOn_10 : decode cX7_goOn 10 = .ok (.aload_n 1, 1) := by decide +kernel
theorem dX7_goOn_11 : decode cX7_goOn 11 = .ok (.invokevirtual 70, 3) := by decide +kernel
theorem dX7_goOn_14 : decode cX7_goOn 14 = .ok (.ifCond .ne 6, 3) := by decide +kernel
theorem dX7_goOn_17 : decode cX7_goOn 17 = .ok (.iload 5, 2) := by decide +kernel
theorem dX7_goOn_19 : decode cX7_goOn 19 = .ok (.ireturn, 1) := by decide +kernel
theorem dX7_goOn_20 : decode cX7_goOn 20 = .ok (.aload_n 0, 1) := by decide +kernel
theorem dX7_goOn_21 : decode cX7_goOn 21 = .ok (.aload_n 1, 1) := by decide +kernel
theorem dX7_goOn_22 : decode cX7_goOn 22 = .ok (.iload_n 2, 1) := by decide +kernel
theorem dX7_goOn_23 : decode cX7_goOn 23 = .ok (.iload_n 3, 1) := by decide +kernel
theorem dX7_goOn_24 : decode cX7_goOn 24 = .ok (.iload 4, 2) := by decide +kernel
theorem dX7_goOn_26 : decode cX7_goOn 26 = .ok (.invokevirtual 125, 3) := by decide +kernel
theorem dX7_goOn_29 : decode cX7_goOn 29 = .ok (.pop, 1) := by decide +kernel
theorem dX7_goOn_30 : decode cX7_goOn 30 = .ok (.iinc 5 1, 3) := by decide +kernel
theorem dX7_goOn_33 : decode cX7_goOn 33 = .ok (.goto (-30), 3) := by decide +kernel
theorem dX7_goOn_36 : decode cX7_goOn 36 = .ok (.bipush 7, 2) := by decide +kernel
theorem dX7_goOn_38 : decode cX7_goOn 38 = .ok (.ireturn, 1) := by decide +kernel
theorem dX8_init_0 : decode cX8_init 0 = .ok (.aload_n 0, 1) := by decide +kernel
theorem dX8_init_1 : decode cX8_init 1 = .ok (.invokespecial 3, 3) := by decide +kernel
theorem dX8_init_4 : decode cX8_init 4 = .ok (.aload_n 0, 1) := by decide +kernel
theorem dX8_init_5 : decode cX8_init 5 = .ok (.iconst 1, 1) := by decide +kernel
theorem dX8_init_6 : decode cX8_init 6 = .ok (.putfield 9, 3) := by decide +kernel
theorem dX8_init_9 : decode cX8_init 9 = .ok (.aload_n 0, 1) := by decide +kernel
theorem dX8_init_10 : decode cX8_init 10 = .ok (.iconst 0, 1) := by decide +kernel
theorem dX8_init_11 : decode cX8_init 11 = .ok (.putfield 15, 3) := by decide +kernel
theorem dX8_init_14 : decode cX8_init 14 = .ok (.aload_n 0, 1) := by decide +kernel
theorem dX8_init_15 : decode cX8_init 15 = .ok (.iconst 0, 1) := by decide +kernel
theorem dX8_init_16 : decode cX8_init 16 = .ok (.putfield 18, 3) := by decide +kernel
theorem dX8_init_19 : decode cX8_init 19 = .ok (.aload_n 0, 1) := by decide +kernel
theorem dX8_init_20 : decode cX8_init 20 = .ok (.iconst 0, 1) := by decide +kernel
theorem dX8_init_21 : decode cX8_init 21 = .ok (.putfield 21, 3) := by decide +kernel
theorem dX8_init_24 : decode cX8_init 24 = .ok (.aload_n 0, 1) := by decide +kernel
theorem dX8_init_25 : decode cX8_init 25 = .ok (.bipush 10, 2) := by decide +kernel
theorem dX8_init_27 : decode cX8_init 27 = .ok (.newarray .int, 2) := by decide +kernel
theorem dX8_init_29 : decode cX8_init 29 = .ok (.putfield 24, 3) := by decide +kernel
theorem dX8_init_32 : decode cX8_init 32 = .ok (.aload_n 0, 1) := by decide +kernel
theorem dX8_init_33 : decode cX8_init 33 = .ok (.bipush 10, 2) := by decide +kernel
theorem dX8_init_35 : decode cX8_init 35 = .ok (.newarray .int, 2) := by decide +kernel
theorem dX8_init_37 : decode cX8_init 37 = .ok (.putfield 28, 3) := by decide +kernel
theorem dX8_init_40 : decode cX8_init 40 = .ok (.aload_n 0, 1) := by decide +kernel
theorem dX8_init_41 : decode cX8_init 41 = .ok (.bipush 10, 2) := by decide +kernel
theorem dX8_init_43 : decode cX8_init 43 = .ok (.newarray .int, 2) := by decide +kernel
theorem dX8_init_45 : decode cX8_init 45 = .ok (.putfield 31, 3) := by decide +kernel
theorem dX8_init_48 : decode cX8_init 48 = .ok (.aload_n 0, 1) := by decide +kernel
theorem dX8_init_49 : decode cX8_init 49 = .ok (.bipush 10, 2) := by decide +kernel
theorem dX8_init_51 : decode cX8_init 51 = .ok (.newarray .int, 2) := by decide +kernel
theorem dX8_init_53 : decode cX8_init 53 = .ok (.putfield 34, 3) := by decide +kernel
theorem dX8_init_56 : decode cX8_init 56 = .ok (.aload_n 0, 1) := by decide +kernel
theorem dX8_init_57 : decode cX8_init 57 = .ok (.bipush 100, 2) := by decide +kernel
theorem dX8_init_59 : decode cX8_init 59 = .ok (.newarray .int, 2) := by decide +kernel
theorem dX8_init_61 : decode cX8_init 61 = .ok (.putfield 37, 3) := by decide +kernel
theorem dX8_init_64 : decode cX8_init 64 = .ok (.aload_n 0, 1) := by decide +kernel
theorem dX8_init_65 : decode cX8_init 65 = .ok (.bipush 100, 2) := by decide +kernel
theorem dX8_init_67 : decode cX8_init 67 = .ok (.newarray .int, 2) := by decide +kernel
theorem dX8_init_69 : decode cX8_init 69 = .ok (.putfield 40, 3) := by decide +kernel
theorem dX8_init_72 : decode cX8_init 72 = .ok (.aload_n 0, 1) := by decide +kernel
theorem dX8_init_73 : decode cX8_init 73 = .ok (.bipush 100, 2) := by decide +kernel
theorem dX8_init_75 : decode cX8_init 75 = .ok (.newarray .int, 2) := by decide +kernel
theorem dX8_init_77 : decode cX8_init 77 = .ok (.putfield 43, 3) := by decide +kernel
theorem dX8_init_80 : decode cX8_init 80 = .ok (.return_, 1) := by decide +kernel
theorem dX8_clear_0 : decode cX8_clear 0 = .ok (.aload_n 0, 1) := by decide +kernel
theorem dX8_clear_1 : decode cX8_clear 1 = .ok (.iconst 1, 1) := by decide +kernel
theorem dX8_clear_2 : decode cX8_clear 2 = .ok (.putfield 9, 3) := by decide +kernel
theorem dX8_clear_5 : decode cX8_clear 5 = .ok (.aload_n 0, 1) := by decide +kernel
theorem dX8_clear_6 : decode cX8_clear 6 = .ok (.iconst 0, 1) := by decide +kernel
theorem dX8_clear_7 : decode cX8_clear 7 = .ok (.putfield 15, 3) := by decide +kernel
theorem dX8_clear_10 : decode cX8_clear 10 = .ok (.aload_n 0, 1) := by decide +kernel
theorem dX8_clear_11 : decode cX8_clear 11 = .ok (.iconst 0, 1) := by decide +kernel
theorem dX8_clear_12 : decode cX8_clear 12 = .ok (.putfield 18, 3) := by decide +kernel
theorem dX8_clear_15 : decode cX8_clear 15 = .ok (.aload_n 0, 1) := by decide +kernel
theorem dX8_clear_16 : decode cX8_clear 16 = .ok (.iconst 0, 1) := by decide +kernel
theorem dX8_clear_17 : decode cX8_clear 17 = .ok (.putfield 21, 3) := by decide +kernel
theorem dX8_clear_20 : decode cX8_clear 20 = .ok (.return_, 1) := by decide +kernel
theorem dX8_addClause_0 : decode cX8_addClause 0 = .ok (.aload_n 0, 1) := by decide +kernel
theorem dX8_addClause_1 : decode cX8_addClause 1 = .ok (.getfield 18, 3) := by decide +kernel
theorem dX8_addClause_4 : decode cX8_addClause 4 = .ok (.bipush 10, 2) := by decide +kernel
theorem dX8_addClause_6 : decode cX8_addClause 6 = .ok (.if_icmp .ge 59, 3) := by decide +kernel
theorem dX8_addClause_9 : decode cX8_addClause 9 = .ok (.aload_n 0, 1) := by decide +kernel
theorem dX8_addClause_10 : decode cX8_addClause 10 = .ok (.getfield 24, 3) := by decide +kernel
theorem dX8_addClause_13 : decode cX8_addClause 13 = .ok (.aload_n 0, 1) := by decide +kernel
theorem dX8_addClause_14 : decode cX8_addClause 14 = .ok (.getfield 18, 3) := by decide +kernel
theorem dX8_addClause_17 : decode cX8_addClause 17 = .ok (.iload_n 1, 1) := by decide +kernel
theorem dX8_addClause_18 : decode cX8_addClause 18 = .ok (.iastore, 1) := by decide +kernel
theorem dX8_addClause_19 : decode cX8_addClause 19 = .ok (.aload_n 0, 1) := by decide +kernel
theorem dX8_addClause_20 : decode cX8_addClause 20 = .ok (.getfield 28, 3) := by decide +kernel
theorem dX8_addClause_23 : decode cX8_addClause 23 = .ok (.aload_n 0, 1) := by decide +kernel
theorem dX8_addClause_24 : decode cX8_addClause 24 = .ok (.getfield 18, 3) := by decide +kernel
theorem dX8_addClause_27 : decode cX8_addClause 27 = .ok (.iload_n 2, 1) := by decide +kernel
theorem dX8_addClause_28 : decode cX8_addClause 28 = .ok (.iastore, 1) := by decide +kernel
theorem dX8_addClause_29 : decode cX8_addClause 29 = .ok (.aload_n 0, 1) := by decide +kernel
theorem dX8_addClause_30 : decode cX8_addClause 30 = .ok (.getfield 31, 3) := by decide +kernel
theorem dX8_addClause_33 : decode cX8_addClause 33 = .ok (.aload_n 0, 1) := by decide +kernel
theorem dX8_addClause_34 : decode cX8_addClause 34 = .ok (.getfield 18, 3) := by decide +kernel
theorem dX8_addClause_37 : decode cX8_addClause 37 = .ok (.aload_n 0, 1) := by decide +kernel
theorem dX8_addClause_38 : decode cX8_addClause 38 = .ok (.getfield 21, 3) := by decide +kernel
theorem dX8_addClause_41 : decode cX8_addClause 41 = .ok (.iastore, 1) := by decide +kernel
theorem dX8_addClause_42 : decode cX8_addClause 42 = .ok (.aload_n 0, 1) := by decide +kernel
theorem dX8_addClause_43 : decode cX8_addClause 43 = .ok (.getfield 34, 3) := by decide +kernel
theorem dX8_addClause_46 : decode cX8_addClause 46 = .ok (.aload_n 0, 1) := by decide +kernel
theorem dX8_addClause_47 : decode cX8_addClause 47 = .ok (.getfield 18, 3) := by decide +kernel
theorem dX8_addClause_50 : decode cX8_addClause 50 = .ok (.aload_n 0, 1) := by decide +kernel
theorem dX8_addClause_51 : decode cX8_addClause 51 = .ok (.getfield 21, 3) := by decide +kernel
theorem dX8_addClause_54 : decode cX8_addClause 54 = .ok (.iastore, 1) := by decide +kernel
theorem dX8_addClause_55 : decode cX8_addClause 55 = .ok (.aload_n 0, 1) := by decide +kernel
theorem dX8_addClause_56 : decode cX8_addClause 56 = .ok (.dup, 1) := by decide +kernel
theorem dX8_addClause_57 : decode cX8_addClause 57 = .ok (.getfield 18, 3) := by decide +kernel
theorem dX8_addClause_60 : decode cX8_addClause 60 = .ok (.iconst 1, 1) := by decide +kernel
theorem dX8_addClause_61 : decode cX8_addClause 61 = .ok (.iadd, 1) := by decide +kernel
theorem dX8_addClause_62 : decode cX8_addClause 62 = .ok (.putfield 18, 3) := by decide +kernel
theorem dX8_addClause_65 : decode cX8_addClause 65 = .ok (.return_, 1) := by decide +kernel
theorem dX8_addStep_0 : decode cX8_addStep 0 = .ok (.aload_n 0, 1) := by decide +kernel
theorem dX8_addStep_1 : decode cX8_addStep 1 = .ok (.getfield 21, 3) := by decide +kernel
theorem dX8_addStep_4 : decode cX8_addStep 4 = .ok (.bipush 100, 2) := by decide +kernel
theorem dX8_addStep_6 : decode cX8_addStep 6 = .ok (.if_icmp .ge 65, 3) := by decide +kernel
theorem dX8_addStep_9 : decode cX8_addStep 9 = .ok (.aload_n 0, 1) := by decide +kernel
theorem dX8_addStep_10 : decode cX8_addStep 10 = .ok (.getfield 18, 3) := by decide +kernel
theorem dX8_addStep_13 : decode cX8_addStep 13 = .ok (.ifCond .le 58, 3) := by decide +kernel
theorem dX8_addStep_16 : decode cX8_addStep 16 = .ok (.aload_n 0, 1) := by decide +kernel
theorem dX8_addStep_17 : decode cX8_addStep 17 = .ok (.getfield 37, 3) := by decide +kernel
theorem dX8_addStep_20 : decode cX8_addStep 20 = .ok (.aload_n 0, 1) := by decide +kernel
theorem dX8_addStep_21 : decode cX8_addStep 21 = .ok (.getfield 21, 3) := by decide +kernel
theorem dX8_addStep_24 : decode cX8_addStep 24 = .ok (.iload_n 1, 1) := by decide +kernel
theorem dX8_addStep_25 : decode cX8_addStep 25 = .ok (.iastore, 1) := by decide +kernel
theorem dX8_addStep_26 : decode cX8_addStep 26 = .ok (.aload_n 0, 1) := by decide +kernel
theorem dX8_addStep_27 : decode cX8_addStep 27 = .ok (.getfield 40, 3) := by decide +kernel
theorem dX8_addStep_30 : decode cX8_addStep 30 = .ok (.aload_n 0, 1) := by decide +kernel
theorem dX8_addStep_31 : decode cX8_addStep 31 = .ok (.getfield 21, 3) := by decide +kernel
theorem dX8_addStep_34 : decode cX8_addStep 34 = .ok (.iload_n 2, 1) := by decide +kernel
theorem dX8_addStep_35 : decode cX8_addStep 35 = .ok (.iastore, 1) := by decide +kernel
theorem dX8_addStep_36 : decode cX8_addStep 36 = .ok (.aload_n 0, 1) := by decide +kernel
theorem dX8_addStep_37 : decode cX8_addStep 37 = .ok (.getfield 43, 3) := by decide +kernel
theorem dX8_addStep_40 : decode cX8_addStep 40 = .ok (.aload_n 0, 1) := by decide +kernel
theorem dX8_addStep_41 : decode cX8_addStep 41 = .ok (.getfield 21, 3) := by decide +kernel
theorem dX8_addStep_44 : decode cX8_addStep 44 = .ok (.iload_n 3, 1) := by decide +kernel
theorem dX8_addStep_45 : decode cX8_addStep 45 = .ok (.iastore, 1) := by decide +kernel
theorem dX8_addStep_46 : decode cX8_addStep 46 = .ok (.aload_n 0, 1) := by decide +kernel
theorem dX8_addStep_47 : decode cX8_addStep 47 = .ok (.dup, 1) := by decide +kernel
theorem dX8_addStep_48 : decode cX8_addStep 48 = .ok (.getfield 21, 3) := by decide +kernel
theorem dX8_addStep_51 : decode cX8_addStep 51 = .ok (.iconst 1, 1) := by decide +kernel
theorem dX8_addStep_52 : decode cX8_addStep 52 = .ok (.iadd, 1) := by decide +kernel
theorem dX8_addStep_53 : decode cX8_addStep 53 = .ok (.putfield 21, 3) := by decide +kernel
theorem dX8_addStep_56 : decode cX8_addStep 56 = .ok (.aload_n 0, 1) := by decide +kernel
theorem dX8_addStep_57 : decode cX8_addStep 57 = .ok (.getfield 34, 3) := by decide +kernel
theorem dX8_addStep_60 : decode cX8_addStep 60 = .ok (.aload_n 0, 1) := by decide +kernel
theorem dX8_addStep_61 : decode cX8_addStep 61 = .ok (.getfield 18, 3) := by decide +kernel
theorem dX8_addStep_64 : decode cX8_addStep 64 = .ok (.iconst 1, 1) := by decide +kernel
theorem dX8_addStep_65 : decode cX8_addStep 65 = .ok (.isub, 1) := by decide +kernel
theorem dX8_addStep_66 : decode cX8_addStep 66 = .ok (.aload_n 0, 1) := by decide +kernel
theorem dX8_addStep_67 : decode cX8_addStep 67 = .ok (.getfield 21, 3) := by decide +kernel
theorem dX8_addStep_70 : decode cX8_addStep 70 = .ok (.iastore, 1) := by decide +kernel
theorem dX8_addStep_71 : decode cX8_addStep 71 = .ok (.return_, 1) := by decide +kernel
theorem dX8_weigh_0 : decode cX8_weigh 0 = .ok (.iconst 0, 1) := by decide +kernel
theorem dX8_weigh_1 : decode cX8_weigh 1 = .ok (.istore_n 3, 1) := by decide +kernel
theorem dX8_weigh_2 : decode cX8_weigh 2 = .ok (.iconst 0, 1) := by decide +kernel
theorem dX8_weigh_3 : decode cX8_weigh 3 = .ok (.istore 4, 2) := by decide +kernel
theorem dX8_weigh_5 : decode cX8_weigh 5 = .ok (.iload 4, 2) := by decide +kernel
theorem dX8_weigh_7 : decode cX8_weigh 7 = .ok (.aload_n 0, 1) := by decide +kernel
theorem dX8_weigh_8 : decode cX8_weigh 8 = .ok (.getfield 18, 3) := by decide +kernel
theorem dX8_weigh_11 : decode cX8_weigh 11 = .ok (.if_icmp .ge 40, 3) := by decide +kernel
theorem dX8_weigh_14 : decode cX8_weigh 14 = .ok (.aload_n 0, 1) := by decide +kernel
theorem dX8_weigh_15 : decode cX8_weigh 15 = .ok (.getfield 24, 3) := by decide +kernel
theorem dX8_weigh_18 : decode cX8_weigh 18 = .ok (.iload 4, 2) := by decide +kernel
theorem dX8_weigh_20 : decode cX8_weigh 20 = .ok (.iaload, 1) := by decide +kernel
theorem dX8_weigh_21 : decode cX8_weigh 21 = .ok (.iload_n 1, 1) := by decide +kernel
theorem dX8_weigh_22 : decode cX8_weigh 22 = .ok (.if_icmp .ne 23, 3) := by decide +kernel
theorem dX8_weigh_25 : decode cX8_weigh 25 = .ok (.aload_n 0, 1) := by decide +kernel
theorem dX8_weigh_26 : decode cX8_weigh 26 = .ok (.iload 4, 2) := by decide +kernel
theorem dX8_weigh_28 : decode cX8_weigh 28 = .ok (.aload_n 2, 1) := by decide +kernel
theorem dX8_weigh_29 : decode cX8_weigh 29 = .ok (.invokevirtual 46, 3) := by decide +kernel
theorem dX8_weigh_32 : decode cX8_weigh 32 = .ok (.ifCond .eq 13, 3) := by decide +kernel
theorem dX8_weigh_35 : decode cX8_weigh 35 = .ok (.iload_n 3, 1) := by decide +kernel
theorem dX8_weigh_36 : decode cX8_weigh 36 = .ok (.aload_n 0, 1) := by decide +kernel
theorem dX8_weigh_37 : decode cX8_weigh 37 = .ok (.getfield 28, 3) := by decide +kernel
theorem dX8_weigh_40 : decode cX8_weigh 40 = .ok (.iload 4, 2) := by decide +kernel
theorem dX8_weigh_42 : decode cX8_weigh 42 = .ok (.iaload, 1) := by decide +kernel
theorem dX8_weigh_43 : decode cX8_weigh 43 = .ok (.iadd, 1) := by decide +kernel
theorem dX8_weigh_44 : decode cX8_weigh 44 = .ok (.istore_n 3, 1) := by decide +kernel
theorem dX8_weigh_45 : decode cX8_weigh 45 = .ok (.iinc 4 1, 3) := by decide +kernel
theorem dX8_weigh_48 : decode cX8_weigh 48 = .ok (.goto (-43), 3) := by decide +kernel
theorem dX8_weigh_51 : decode cX8_weigh 51 = .ok (.iload_n 3, 1) := by decide +kernel
theorem dX8_weigh_52 : decode cX8_weigh 52 = .ok (.ireturn, 1) := by decide +kernel
theorem dX8_holds_0 : decode cX8_holds 0 = .ok (.iconst 0, 1) := by decide +kernel
theorem dX8_holds_1 : decode cX8_holds 1 = .ok (.istore_n 3, 1) := by decide +kernel
theorem dX8_holds_2 : decode cX8_holds 2 = .ok (.aload_n 0, 1) := by decide +kernel
theorem dX8_holds_3 : decode cX8_holds 3 = .ok (.getfield 31, 3) := by decide +kernel
theorem dX8_holds_6 : decode cX8_holds 6 = .ok (.iload_n 1, 1) := by decide +kernel
theorem dX8_holds_7 : decode cX8_holds 7 = .ok (.iaload, 1) := by decide +kernel
theorem dX8_holds_8 : decode cX8_holds 8 = .ok (.istore 4, 2) := by decide +kernel
theorem dX8_holds_10 : decode cX8_holds 10 = .ok (.iload 4, 2) := by decide +kernel
theorem dX8_holds_12 : decode cX8_holds 12 = .ok (.aload_n 0, 1) := by decide +kernel
theorem dX8_holds_13 : decode cX8_holds 13 = .ok (.getfield 34, 3) := by decide +kernel
theorem dX8_holds_16 : decode cX8_holds 16 = .ok (.iload_n 1, 1) := by decide +kernel
theorem dX8_holds_17 : decode cX8_holds 17 = .ok (.iaload, 1) := by decide +kernel
theorem dX8_holds_18 : decode cX8_holds 18 = .ok (.if_icmp .ge 130, 3) := by decide +kernel
theorem dX8_holds_21 : decode cX8_holds 21 = .ok (.aload_n 0, 1) := by decide +kernel
theorem dX8_holds_22 : decode cX8_holds 22 = .ok (.getfield 37, 3) := by decide +kernel
theorem dX8_holds_25 : decode cX8_holds 25 = .ok (.iload 4, 2) := by decide +kernel
theorem dX8_holds_27 : decode cX8_holds 27 = .ok (.iaload, 1) := by decide +kernel
theorem dX8_holds_28 : decode cX8_holds 28 = .ok (.istore 5, 2) := by decide +kernel
theorem dX8_holds_30 : decode cX8_holds 30 = .ok (.iload 5, 2) := by decide +kernel
theorem dX8_holds_32 : decode cX8_holds 32 = .ok (.iconst (-1), 1) := by decide +kernel
theorem dX8_holds_33 : decode cX8_holds 33 = .ok (.if_icmp .ne 10, 3) := by decide +kernel
theorem dX8_holds_36 : decode cX8_holds 36 = .ok (.iload_n 3, 1) := by decide +kernel
theorem dX8_holds_37 : decode cX8_holds 37 = .ok (.iconst 1, 1) := by decide +kernel
theorem dX8_holds_38 : decode cX8_holds 38 = .ok (.ixor, 1) := by decide +kernel
theorem dX8_holds_39 : decode cX8_holds 39 = .ok (.istore_n 3, 1) := by decide +kernel
theorem dX8_holds_40 : decode cX8_holds 40 = .ok (.goto 102, 3) := by decide +kernel
theorem dX8_holds_43 : decode cX8_holds 43 = .ok (.iload 5, 2) := by decide +kernel
theorem dX8_holds_45 : decode cX8_holds 45 = .ok (.bipush (-2), 2) := by decide +kernel
theorem dX8_holds_47 : decode cX8_holds 47 = .ok (.if_icmp .ne 15, 3) := by decide +kernel
theorem dX8_holds_50 : decode cX8_holds 50 = .ok (.iload_n 3, 1) := by decide +kernel
theorem dX8_holds_51 : decode cX8_holds 51 = .ok (.iconst 1, 1) := by decide +kernel
theorem dX8_holds_52 : decode cX8_holds 52 = .ok (.ishr, 1) := by decide +kernel
theorem dX8_holds_53 : decode cX8_holds 53 = .ok (.iload_n 3, 1) := by decide +kernel
theorem dX8_holds_54 : decode cX8_holds 54 = .ok (.bipush (-2), 2) := by decide +kernel
theorem dX8_holds_56 : decode cX8_holds 56 = .ok (.ior, 1) := by decide +kernel
theorem dX8_holds_57 : decode cX8_holds 57 = .ok (.iand, 1) := by decide +kernel
theorem dX8_holds_58 : decode cX8_holds 58 = .ok (.istore_n 3, 1) := by decide +kernel
theorem dX8_holds_59 : decode cX8_holds 59 = .ok (.goto 83, 3) := by decide +kernel
theorem dX8_holds_62 : decode cX8_holds 62 = .ok (.iload 5, 2) := by decide +kernel
theorem dX8_holds_64 : decode cX8_holds 64 = .ok (.bipush (-3), 2) := by decide +kernel
theorem dX8_holds_66 : decode cX8_holds 66 = .ok (.if_icmp .ne 14, 3) := by decide +kernel
theorem dX8_holds_69 : decode cX8_holds 69 = .ok (.iload_n 3, 1) := by decide +kernel
theorem dX8_holds_70 : decode cX8_holds 70 = .ok (.iconst 1, 1) := by decide +kernel
theorem dX8_holds_71 : decode cX8_holds 71 = .ok (.ishr, 1) := by decide +kernel
theorem dX8_holds_72 : decode cX8_holds 72 = .ok (.iload_n 3, 1) := by decide +kernel
theorem dX8_holds_73 : decode cX8_holds 73 = .ok (.iconst 1, 1) := by decide +kernel
theorem dX8_holds_74 : decode cX8_holds 74 = .ok (.iand, 1) := by decide +kernel
theorem dX8_holds_75 : decode cX8_holds 75 = .ok (.ior, 1) := by decide +kernel
theorem dX8_holds_76 : decode cX8_holds 76 = .ok (.istore_n 3, 1) := by decide +kernel
theorem dX8_holds_77 : decode cX8_holds 77 = .ok (.goto 65, 3) := by decide +kernel
theorem dX8_holds_80 : decode cX8_holds 80 = .ok (.iload 5, 2) := by decide +kernel
theorem dX8_holds_82 : decode cX8_holds 82 = .ok (.ifCond .lt 60, 3) := by decide +kernel
theorem dX8_holds_85 : decode cX8_holds 85 = .ok (.iload 5, 2) := by decide +kernel
theorem dX8_holds_87 : decode cX8_holds 87 = .ok (.aload_n 2, 1) := by decide +kernel
theorem dX8_holds_88 : decode cX8_holds 88 = .ok (.arraylength, 1) := by decide +kernel
theorem dX8_holds_89 : decode cX8_holds 89 = .ok (.if_icmp .ge 53, 3) := by decide +kernel
theorem dX8_holds_92 : decode cX8_holds 92 = .ok (.aload_n 2, 1) := by decide +kernel
theorem dX8_holds_93 : decode cX8_holds 93 = .ok (.iload 5, 2) := by decide +kernel
theorem dX8_holds_95 : decode cX8_holds 95 = .ok (.iaload, 1) := by decide +kernel
theorem dX8_holds_96 : decode cX8_holds 96 = .ok (.aload_n 0, 1) := by decide +kernel
theorem dX8_holds_97 : decode cX8_holds 97 = .ok (.getfield 40, 3) := by decide +kernel
theorem dX8_holds_100 : decode cX8_holds 100 = .ok (.iload 4, 2) := by decide +kernel
theorem dX8_holds_102 : decode cX8_holds 102 = .ok (.iaload, 1) := by decide +kernel
theorem dX8_holds_103 : decode cX8_holds 103 = .ok (.if_icmp .lt 21, 3) := by decide +kernel
theorem dX8_holds_106 : decode cX8_holds 106 = .ok (.aload_n 2, 1) := by decide +kernel
theorem dX8_holds_107 : decode cX8_holds 107 = .ok (.iload 5, 2) := by decide +kernel
theorem dX8_holds_109 : decode cX8_holds 109 = .ok (.iaload, 1) := by decide +kernel
theorem dX8_holds_110 : decode cX8_holds 110 = .ok (.aload_n 0, 1) := by decide +kernel
theorem dX8_holds_111 : decode cX8_holds 111 = .ok (.getfield 43, 3) := by decide +kernel
theorem dX8_holds_114 : decode cX8_holds 114 = .ok (.iload 4, 2) := by decide +kernel
theorem dX8_holds_116 : decode cX8_holds 116 = .ok (.iaload, 1) := by decide +kernel
theorem dX8_holds_117 : decode cX8_holds 117 = .ok (.if_icmp .gt 7, 3) := by decide +kernel
theorem dX8_holds_120 : decode cX8_holds 120 = .ok (.iconst 1, 1) := by decide +kernel
theorem dX8_holds_121 : decode cX8_holds 121 = .ok (.goto 4, 3) := by decide +kernel
theorem dX8_holds_124 : decode cX8_holds 124 = .ok (.iconst 0, 1) := by decide +kernel
theorem dX8_holds_125 : decode cX8_holds 125 = .ok (.istore 6, 2) := by decide +kernel
theorem dX8_holds_127 : decode cX8_holds 127 = .ok (.iload_n 3, 1) := by decide +kernel
theorem dX8_holds_128 : decode cX8_holds 128 = .ok (.iconst 1, 1) := by decide +kernel
theorem dX8_holds_129 : decode cX8_holds 129 = .ok (.ishl, 1) := by decide +kernel
theorem dX8_holds_130 : decode cX8_holds 130 = .ok (.iload 6, 2) := by decide +kernel
theorem dX8_holds_132 : decode cX8_holds 132 = .ok (.ifCond .eq 7, 3) := by decide +kernel
theorem dX8_holds_135 : decode cX8_holds 135 = .ok (.iconst 1, 1) := by decide +kernel
theorem dX8_holds_136 : decode cX8_holds 136 = .ok (.goto 4, 3) := by decide +kernel
theorem dX8_holds_139 : decode cX8_holds 139 = .ok (.iconst 0, 1) := by decide +kernel
theorem dX8_holds_140 : decode cX8_holds 140 = .ok (.ior, 1) := by decide +kernel
theorem dX8_holds_141 : decode cX8_holds 141 = .ok (.istore_n 3, 1) := by decide +kernel
theorem dX8_holds_142 : decode cX8_holds 142 = .ok (.iinc 4 1, 3) := by decide +kernel
theorem dX8_holds_145 : decode cX8_holds 145 = .ok (.goto (-135), 3) := by decide +kernel
theorem dX8_holds_148 : decode cX8_holds 148 = .ok (.iload_n 3, 1) := by decide +kernel
theorem dX8_holds_149 : decode cX8_holds 149 = .ok (.iconst 1, 1) := by decide +kernel
theorem dX8_holds_150 : decode cX8_holds 150 = .ok (.iand, 1) := by decide +kernel
theorem dX8_holds_151 : decode cX8_holds 151 = .ok (.iconst 1, 1) := by decide +kernel
theorem dX8_holds_152 : decode cX8_holds 152 = .ok (.if_icmp .ne 7, 3) := by decide +kernel
theorem dX8_holds_155 : decode cX8_holds 155 = .ok (.iconst 1, 1) := by decide +kernel
theorem dX8_holds_156 : decode cX8_holds 156 = .ok (.goto 4, 3) := by decide +kernel
theorem dX8_holds_159 : decode cX8_holds 159 = .ok (.iconst 0, 1) := by decide +kernel
theorem dX8_holds_160 : decode cX8_holds 160 = .ok (.ireturn, 1) := by decide +kernel
theorem dX8_sumOf_0 : decode cX8_sumOf 0 = .ok (.aload_n 0, 1) := by decide +kernel
theorem dX8_sumOf_1 : decode cX8_sumOf 1 = .ok (.getfield 9, 3) := by decide +kernel
theorem dX8_sumOf_4 : decode cX8_sumOf 4 = .ok (.ifCond .gt 6, 3) := by decide +kernel
theorem dX8_sumOf_7 : decode cX8_sumOf 7 = .ok (.iload_n 1, 1) := by decide +kernel
theorem dX8_sumOf_8 : decode cX8_sumOf 8 = .ok (.i2l, 1) := by decide +kernel
theorem dX8_sumOf_9 : decode cX8_sumOf 9 = .ok (.lreturn, 1) := by decide +kernel
theorem dX8_sumOf_10 : decode cX8_sumOf 10 = .ok (.lconst 0, 1) := by decide +kernel
theorem dX8_sumOf_11 : decode cX8_sumOf 11 = .ok (.lstore_n 2, 1) := by decide +kernel
theorem dX8_sumOf_12 : decode cX8_sumOf 12 = .ok (.iconst 1, 1) := by decide +kernel
theorem dX8_sumOf_13 : decode cX8_sumOf 13 = .ok (.istore 4, 2) := by decide +kernel
theorem dX8_sumOf_15 : decode cX8_sumOf 15 = .ok (.iload 4, 2) := by decide +kernel
theorem dX8_sumOf_17 : decode cX8_sumOf 17 = .ok (.iload_n 1, 1) := by decide +kernel
theorem dX8_sumOf_18 : decode cX8_sumOf 18 = .ok (.if_icmp .gt 31, 3) := by decide +kernel
theorem dX8_sumOf_21 : decode cX8_sumOf 21 = .ok (.iload_n 1, 1) := by decide +kernel
theorem dX8_sumOf_22 : decode cX8_sumOf 22 = .ok (.iload 4, 2) := by decide +kernel
theorem dX8_sumOf_24 : decode cX8_sumOf 24 = .ok (.isub, 1) := by decide +kernel
theorem dX8_sumOf_25 : decode cX8_sumOf 25 = .ok (.aload_n 0, 1) := by decide +kernel
theorem dX8_sumOf_26 : decode cX8_sumOf 26 = .ok (.getfield 9, 3) := by decide +kernel
theorem dX8_sumOf_29 : decode cX8_sumOf 29 = .ok (.irem, 1) := by decide +kernel
theorem dX8_sumOf_30 : decode cX8_sumOf 30 = .ok (.ifCond .ne 13, 3) := by decide +kernel
theorem dX8_sumOf_33 : decode cX8_sumOf 33 = .ok (.iload 4, 2) := by decide +kernel
theorem dX8_sumOf_35 : decode cX8_sumOf 35 = .ok (.i2l, 1) := by decide +kernel
theorem dX8_sumOf_36 : decode cX8_sumOf 36 = .ok (.iload 4, 2) := by decide +kernel
theorem dX8_sumOf_38 : decode cX8_sumOf 38 = .ok (.i2l, 1) := by decide +kernel
theorem dX8_sumOf_39 : decode cX8_sumOf 39 = .ok (.lload_n 2, 1) := by decide +kernel
theorem dX8_sumOf_40 : decode cX8_sumOf 40 = .ok (.lmul, 1) := by decide +kernel
theorem dX8_sumOf_41 : decode cX8_sumOf 41 = .ok (.ladd, 1) := by decide +kernel
theorem dX8_sumOf_42 : decode cX8_sumOf 42 = .ok (.lstore_n 2, 1) := by decide +kernel
theorem dX8_sumOf_43 : decode cX8_sumOf 43 = .ok (.iinc 4 1, 3) := by decide +kernel
theorem dX8_sumOf_46 : decode cX8_sumOf 46 = .ok (.goto (-31), 3) := by decide +kernel
theorem dX8_sumOf_49 : decode cX8_sumOf 49 = .ok (.lload_n 2, 1) := by decide +kernel
theorem dX8_sumOf_50 : decode cX8_sumOf 50 = .ok (.lreturn, 1) := by decide +kernel
theorem dX8_copyFrom_0 : decode cX8_copyFrom 0 = .ok (.aload_n 0, 1) := by decide +kernel
theorem dX8_copyFrom_1 : decode cX8_copyFrom 1 = .ok (.aload_n 1, 1) := by decide +kernel
theorem dX8_copyFrom_2 : decode cX8_copyFrom 2 = .ok (.getfield 9, 3) := by decide +kernel
theorem dX8_copyFrom_5 : decode cX8_copyFrom 5 = .ok (.putfield 9, 3) := by decide +kernel
theorem dX8_copyFrom_8 : decode cX8_copyFrom 8 = .ok (.aload_n 0, 1) := by decide +kernel
theorem dX8_copyFrom_9 : decode cX8_copyFrom 9 = .ok (.aload_n 1, 1) := by decide +kernel
theorem dX8_copyFrom_10 : decode cX8_copyFrom 10 = .ok (.getfield 15, 3) := by decide +kernel
theorem dX8_copyFrom_13 : decode cX8_copyFrom 13 = .ok (.putfield 15, 3) := by decide +kernel
theorem dX8_copyFrom_16 : decode cX8_copyFrom 16 = .ok (.aload_n 0, 1) := by decide +kernel
theorem dX8_copyFrom_17 : decode cX8_copyFrom 17 = .ok (.aload_n 1, 1) := by decide +kernel
theorem dX8_copyFrom_18 : decode cX8_copyFrom 18 = .ok (.getfield 18, 3) := by decide +kernel
theorem dX8_copyFrom_21 : decode cX8_copyFrom 21 = .ok (.putfield 18, 3) := by decide +kernel
theorem dX8_copyFrom_24 : decode cX8_copyFrom 24 = .ok (.aload_n 0, 1) := by decide +kernel
theorem dX8_copyFrom_25 : decode cX8_copyFrom 25 = .ok (.aload_n 1, 1) := by decide +kernel
theorem dX8_copyFrom_26 : decode cX8_copyFrom 26 = .ok (.getfield 21, 3) := by decide +kernel
theorem dX8_copyFrom_29 : decode cX8_copyFrom 29 = .ok (.putfield 21, 3) := by decide +kernel
theorem dX8_copyFrom_32 : decode cX8_copyFrom 32 = .ok (.aload_n 1, 1) := by decide +kernel
theorem dX8_copyFrom_33 : decode cX8_copyFrom 33 = .ok (.getfield 24, 3) := by decide +kernel
theorem dX8_copyFrom_36 : decode cX8_copyFrom 36 = .ok (.iconst 0, 1) := by decide +kernel
theorem dX8_copyFrom_37 : decode cX8_copyFrom 37 = .ok (.aload_n 0, 1) := by decide +kernel
theorem dX8_copyFrom_38 : decode cX8_copyFrom 38 = .ok (.getfield 24, 3) := by decide +kernel
theorem dX8_copyFrom_41 : decode cX8_copyFrom 41 = .ok (.iconst 0, 1) := by decide +kernel
theorem dX8_copyFrom_42 : decode cX8_copyFrom 42 = .ok (.bipush 10, 2) := by decide +kernel
theorem dX8_copyFrom_44 : decode cX8_copyFrom 44 = .ok (.invokestatic 50, 3) := by decide +kernel
theorem dX8_copyFrom_47 : decode cX8_copyFrom 47 = .ok (.aload_n 1, 1) := by decide +kernel
theorem dX8_copyFrom_48 : decode cX8_copyFrom 48 = .ok (.getfield 28, 3) := by decide +kernel
theorem dX8_copyFrom_51 : decode cX8_copyFrom 51 = .ok (.iconst 0, 1) := by decide +kernel
theorem dX8_copyFrom_52 : decode cX8_copyFrom 52 = .ok (.aload_n 0, 1) := by decide +kernel
theorem dX8_copyFrom_53 : decode cX8_copyFrom 53 = .ok (.getfield 28, 3) := by decide +kernel
theorem dX8_copyFrom_56 : decode cX8_copyFrom 56 = .ok (.iconst 0, 1) := by decide +kernel
theorem dX8_copyFrom_57 : decode cX8_copyFrom 57 = .ok (.bipush 10, 2) := by decide +kernel
theorem dX8_copyFrom_59 : decode cX8_copyFrom 59 = .ok (.invokestatic 50, 3) := by decide +kernel
theorem dX8_copyFrom_62 : decode cX8_copyFrom 62 = .ok (.aload_n 1, 1) := by decide +kernel
theorem dX8_copyFrom_63 : decode cX8_copyFrom 63 = .ok (.getfield 31, 3) := by decide +kernel
theorem dX8_copyFrom_66 : decode cX8_copyFrom 66 = .ok (.iconst 0, 1) := by decide +kernel
theorem dX8_copyFrom_67 : decode cX8_copyFrom 67 = .ok (.aload_n 0, 1) := by decide +kernel
theorem dX8_copyFrom_68 : decode cX8_copyFrom 68 = .ok (.getfield 31, 3) := by decide +kernel
theorem dX8_copyFrom_71 : decode cX8_copyFrom 71 = .ok (.iconst 0, 1) := by decide +kernel
theorem dX8_copyFrom_72 : decode cX8_copyFrom 72 = .ok (.bipush 10, 2) := by decide +kernel
theorem dX8_copyFrom_74 : decode cX8_copyFrom 74 = .ok (.invokestatic 50, 3) := by decide +kernel
theorem dX8_copyFrom_77 : decode cX8_copyFrom 77 = .ok (.aload_n 1, 1) := by decide +kernel
theorem dX8_copyFrom_78 : decode cX8_copyFrom 78 = .ok (.getfield 34, 3) := by decide +kernel
theorem dX8_copyFrom_81 : decode cX8_copyFrom 81 = .ok (.iconst 0, 1) := by decide +kernel
theorem dX8_copyFrom_82 : decode cX8_copyFrom 82 = .ok (.aload_n 0, 1) := by decide +kernel
theorem dX8_copyFrom_83 : decode cX8_copyFrom 83 = .ok (.getfield 34, 3) := by decide +kernel
theorem dX8_copyFrom_86 : decode cX8_copyFrom 86 = .ok (.iconst 0, 1) := by decide +kernel
theorem dX8_copyFrom_87 : decode cX8_copyFrom 87 = .ok (.bipush 10, 2) := by decide +kernel
theorem dX8_copyFrom_89 : decode cX8_copyFrom 89 = .ok (.invokestatic 50, 3) := by decide +kernel
theorem dX8_copyFrom_92 : decode cX8_copyFrom 92 = .ok (.aload_n 1, 1) := by decide +kernel
theorem dX8_copyFrom_93 : decode cX8_copyFrom 93 = .ok (.getfield 37, 3) := by decide +kernel
theorem dX8_copyFrom_96 : decode cX8_copyFrom 96 = .ok (.iconst 0, 1) := by decide +kernel
theorem dX8_copyFrom_97 : decode cX8_copyFrom 97 = .ok (.aload_n 0, 1) := by decide +kernel
theorem dX8_copyFrom_98 : decode cX8_copyFrom 98 = .ok (.getfield 37, 3) := by decide +kernel
theorem dX8_copyFrom_101 : decode cX8_copyFrom 101 = .ok (.iconst 0, 1) := by decide +kernel
theorem dX8_copyFrom_102 : decode cX8_copyFrom 102 = .ok (.bipush 100, 2) := by decide +kernel
theorem dX8_copyFrom_104 : decode cX8_copyFrom 104 = .ok (.invokestatic 50, 3) := by decide +kernel
theorem dX8_copyFrom_107 : decode cX8_copyFrom 107 = .ok (.aload_n 1, 1) := by decide +kernel
theorem dX8_copyFrom_108 : decode cX8_copyFrom 108 = .ok (.getfield 40, 3) := by decide +kernel
theorem dX8_copyFrom_111 : decode cX8_copyFrom 111 = .ok (.iconst 0, 1) := by decide +kernel
theorem dX8_copyFrom_112 : decode cX8_copyFrom 112 = .ok (.aload_n 0, 1) := by decide +kernel
theorem dX8_copyFrom_113 : decode cX8_copyFrom 113 = .ok (.getfield 40, 3) := by decide +kernel
theorem dX8_copyFrom_116 : decode cX8_copyFrom 116 = .ok (.iconst 0, 1) := by decide +kernel
theorem dX8_copyFrom_117 : decode cX8_copyFrom 117 = .ok (.bipush 100, 2) := by decide +kernel
theorem dX8_copyFrom_119 : decode cX8_copyFrom 119 = .ok (.invokestatic 50, 3) := by decide +kernel
theorem dX8_copyFrom_122 : decode cX8_copyFrom 122 = .ok (.aload_n 1, 1) := by decide +kernel
theorem dX8_copyFrom_123 : decode cX8_copyFrom 123 = .ok (.getfield 43, 3) := by decide +kernel
theorem dX8_copyFrom_126 : decode cX8_copyFrom 126 = .ok (.iconst 0, 1) := by decide +kernel
theorem dX8_copyFrom_127 : decode cX8_copyFrom 127 = .ok (.aload_n 0, 1) := by decide +kernel
theorem dX8_copyFrom_128 : decode cX8_copyFrom 128 = .ok (.getfield 43, 3) := by decide +kernel
theorem dX8_copyFrom_131 : decode cX8_copyFrom 131 = .ok (.iconst 0, 1) := by decide +kernel
theorem dX8_copyFrom_132 : decode cX8_copyFrom 132 = .ok (.bipush 100, 2) := by decide +kernel
theorem dX8_copyFrom_134 : decode cX8_copyFrom 134 = .ok (.invokestatic 50, 3) := by decide +kernel
theorem dX8_copyFrom_137 : decode cX8_copyFrom 137 = .ok (.return_, 1) := by decide +kernel
theorem dX9_init_0 : decode cX9_init 0 = .ok (.aload_n 0, 1) := by decide +kernel
theorem dX9_init_1 : decode cX9_init 1 = .ok (.invokespecial 3, 3) := by decide +kernel
theorem dX9_init_4 : decode cX9_init 4 = .ok (.aload_n 0, 1) := by decide +kernel
theorem dX9_init_5 : decode cX9_init 5 = .ok (.iconst 0, 1) := by decide +kernel
theorem dX9_init_6 : decode cX9_init 6 = .ok (.putfield 9, 3) := by decide +kernel
theorem dX9_init_9 : decode cX9_init 9 = .ok (.aload_n 0, 1) := by decide +kernel
theorem dX9_init_10 : decode cX9_init 10 = .ok (.iconst 0, 1) := by decide +kernel
theorem dX9_init_11 : decode cX9_init 11 = .ok (.putfield 15, 3) := by decide +kernel
theorem dX9_init_14 : decode cX9_init 14 = .ok (.aload_n 0, 1) := by decide +kernel
theorem dX9_init_15 : decode cX9_init 15 = .ok (.iconst 0, 1) := by decide +kernel
theorem dX9_init_16 : decode cX9_init 16 = .ok (.putfield 18, 3) := by decide +kernel
theorem dX9_init_19 : decode cX9_init 19 = .ok (.aload_n 0, 1) := by decide +kernel
theorem dX9_init_20 : decode cX9_init 20 = .ok (.iconst 0, 1) := by decide +kernel
theorem dX9_init_21 : decode cX9_init 21 = .ok (.putfield 21, 3) := by decide +kernel
theorem dX9_init_24 : decode cX9_init 24 = .ok (.aload_n 0, 1) := by decide +kernel
theorem dX9_init_25 : decode cX9_init 25 = .ok (.bipush 7, 2) := by decide +kernel
theorem dX9_init_27 : decode cX9_init 27 = .ok (.newarray .int, 2) := by decide +kernel
theorem dX9_init_29 : decode cX9_init 29 = .ok (.putfield 24, 3) := by decide +kernel
theorem dX9_init_32 : decode cX9_init 32 = .ok (.aload_n 0, 1) := by decide +kernel
theorem dX9_init_33 : decode cX9_init 33 = .ok (.bipush 7, 2) := by decide +kernel
theorem dX9_init_35 : decode cX9_init 35 = .ok (.newarray .int, 2) := by decide +kernel
theorem dX9_init_37 : decode cX9_init 37 = .ok (.putfield 28, 3) := by decide +kernel
theorem dX9_init_40 : decode cX9_init 40 = .ok (.return_, 1) := by decide +kernel
theorem dX9_startWith_0 : decode cX9_startWith 0 = .ok (.aload_n 0, 1) := by decide +kernel
theorem dX9_startWith_1 : decode cX9_startWith 1 = .ok (.iload_n 3, 1) := by decide +kernel
theorem dX9_startWith_2 : decode cX9_startWith 2 = .ok (.putfield 9, 3) := by decide +kernel
theorem dX9_startWith_5 : decode cX9_startWith 5 = .ok (.aload_n 0, 1) := by decide +kernel
theorem dX9_startWith_6 : decode cX9_startWith 6 = .ok (.iconst 0, 1) := by decide +kernel
theorem dX9_startWith_7 : decode cX9_startWith 7 = .ok (.putfield 15, 3) := by decide +kernel
theorem dX9_startWith_10 : decode cX9_startWith 10 = .ok (.aload_n 0, 1) := by decide +kernel
theorem dX9_startWith_11 : decode cX9_startWith 11 = .ok (.iconst 1, 1) := by decide +kernel
theorem dX9_startWith_12 : decode cX9_startWith 12 = .ok (.iload_n 1, 1) := by decide +kernel
theorem dX9_startWith_13 : decode cX9_startWith 13 = .ok (.ishl, 1) := by decide +kernel
theorem dX9_startWith_14 : decode cX9_startWith 14 = .ok (.putfield 18, 3) := by decide +kernel
theorem dX9_startWith_17 : decode cX9_startWith 17 = .ok (.aload_n 0, 1) := by decide +kernel
theorem dX9_startWith_18 : decode cX9_startWith 18 = .ok (.iconst 0, 1) := by decide +kernel
theorem dX9_startWith_19 : decode cX9_startWith 19 = .ok (.putfield 21, 3) := by decide +kernel
theorem dX9_startWith_22 : decode cX9_startWith 22 = .ok (.aload_n 0, 1) := by decide +kernel
theorem dX9_startWith_23 : decode cX9_startWith 23 = .ok (.getfield 24, 3) := by decide +kernel
theorem dX9_startWith_26 : decode cX9_startWith 26 = .ok (.iload_n 1, 1) := by decide +kernel
theorem dX9_startWith_27 : decode cX9_startWith 27 = .ok (.iload_n 2, 1) := by decide +kernel
theorem dX9_startWith_28 : decode cX9_startWith 28 = .ok (.iastore, 1) := by decide +kernel
theorem dX9_startWith_29 : decode cX9_startWith 29 = .ok (.aload_n 0, 1) := by decide +kernel
theorem dX9_startWith_30 : decode cX9_startWith 30 = .ok (.getfield 28, 3) := by decide +kernel
theorem dX9_startWith_33 : decode cX9_startWith 33 = .ok (.iload_n 1, 1) := by decide +kernel
theorem dX9_startWith_34 : decode cX9_startWith 34 = .ok (.iload_n 3, 1) := by decide +kernel
theorem dX9_startWith_35 : decode cX9_startWith 35 = .ok (.iastore, 1) := by decide +kernel
theorem dX9_startWith_36 : decode cX9_startWith 36 = .ok (.return_, 1) := by decide +kernel
theorem dX9_yetToTell_0 : decode cX9_yetToTell 0 = .ok (.aload_n 0, 1) := by decide +kernel
theorem dX9_yetToTell_1 : decode cX9_yetToTell 1 = .ok (.getfield 18, 3) := by decide +kernel
theorem dX9_yetToTell_4 : decode cX9_yetToTell 4 = .ok (.aload_n 0, 1) := by decide +kernel
theorem dX9_yetToTell_5 : decode cX9_yetToTell 5 = .ok (.getfield 21, 3) := by decide +kernel
theorem dX9_yetToTell_8 : decode cX9_yetToTell 8 = .ok (.iconst (-1), 1) := by decide +kernel
theorem dX9_yetToTell_9 : decode cX9_yetToTell 9 = .ok (.ixor, 1) := by decide +kernel
theorem dX9_yetToTell_10 : decode cX9_yetToTell 10 = .ok (.iand, 1) := by decide +kernel
theorem dX9_yetToTell_11 : decode cX9_yetToTell 11 = .ok (.ireturn, 1) := by decide +kernel
theorem dX9_copyFrom_0 : decode cX9_copyFrom 0 = .ok (.aload_n 0, 1) := by decide +kernel
theorem dX9_copyFrom_1 : decode cX9_copyFrom 1 = .ok (.aload_n 1, 1) := by decide +kernel
theorem dX9_copyFrom_2 : decode cX9_copyFrom 2 = .ok (.getfield 9, 3) := by decide +kernel
theorem dX9_copyFrom_5 : decode cX9_copyFrom 5 = .ok (.putfield 9, 3) := by decide +kernel
theorem dX9_copyFrom_8 : decode cX9_copyFrom 8 = .ok (.aload_n 0, 1) := by decide +kernel
theorem dX9_copyFrom_9 : decode cX9_copyFrom 9 = .ok (.aload_n 1, 1) := by decide +kernel
theorem dX9_copyFrom_10 : decode cX9_copyFrom 10 = .ok (.getfield 15, 3) := by decide +kernel
theorem dX9_copyFrom_13 : decode cX9_copyFrom 13 = .ok (.putfield 15, 3) := by decide +kernel
theorem dX9_copyFrom_16 : decode cX9_copyFrom 16 = .ok (.aload_n 0, 1) := by decide +kernel
theorem dX9_copyFrom_17 : decode cX9_copyFrom 17 = .ok (.aload_n 1, 1) := by decide +kernel
theorem dX9_copyFrom_18 : decode cX9_copyFrom 18 = .ok (.getfield 18, 3) := by decide +kernel
theorem dX9_copyFrom_21 : decode cX9_copyFrom 21 = .ok (.putfield 18, 3) := by decide +kernel
theorem dX9_copyFrom_24 : decode cX9_copyFrom 24 = .ok (.aload_n 0, 1) := by decide +kernel
theorem dX9_copyFrom_25 : decode cX9_copyFrom 25 = .ok (.aload_n 1, 1) := by decide +kernel
theorem dX9_copyFrom_26 : decode cX9_copyFrom 26 = .ok (.getfield 21, 3) := by decide +kernel
theorem dX9_copyFrom_29 : decode cX9_copyFrom 29 = .ok (.putfield 21, 3) := by decide +kernel
theorem dX9_copyFrom_32 : decode cX9_copyFrom 32 = .ok (.aload_n 1, 1) := by decide +kernel
theorem dX9_copyFrom_33 : decode cX9_copyFrom 33 = .ok (.getfield 24, 3) := by decide +kernel
theorem dX9_copyFrom_36 : decode cX9_copyFrom 36 = .ok (.iconst 0, 1) := by decide +kernel
theorem dX9_copyFrom_37 : decode cX9_copyFrom 37 = .ok (.aload_n 0, 1) := by decide +kernel
theorem dX9_copyFrom_38 : decode cX9_copyFrom 38 = .ok (.getfield 24, 3) := by decide +kernel
theorem dX9_copyFrom_41 : decode cX9_copyFrom 41 = .ok (.iconst 0, 1) := by decide +kernel
theorem dX9_copyFrom_42 : decode cX9_copyFrom 42 = .ok (.bipush 7, 2) := by decide +kernel
theorem dX9_copyFrom_44 : decode cX9_copyFrom 44 = .ok (.invokestatic 31, 3) := by decide +kernel
theorem dX9_copyFrom_47 : decode cX9_copyFrom 47 = .ok (.aload_n 1, 1) := by decide +kernel
theorem dX9_copyFrom_48 : decode cX9_copyFrom 48 = .ok (.getfield 28, 3) := by decide +kernel
theorem dX9_copyFrom_51 : decode cX9_copyFrom 51 = .ok (.iconst 0, 1) := by decide +kernel
theorem dX9_copyFrom_52 : decode cX9_copyFrom 52 = .ok (.aload_n 0, 1) := by decide +kernel
theorem dX9_copyFrom_53 : decode cX9_copyFrom 53 = .ok (.getfield 28, 3) := by decide +kernel
theorem dX9_copyFrom_56 : decode cX9_copyFrom 56 = .ok (.iconst 0, 1) := by decide +kernel
theorem dX9_copyFrom_57 : decode cX9_copyFrom 57 = .ok (.bipush 7, 2) := by decide +kernel
theorem dX9_copyFrom_59 : decode cX9_copyFrom 59 = .ok (.invokestatic 31, 3) := by decide +kernel
theorem dX9_copyFrom_62 : decode cX9_copyFrom 62 = .ok (.return_, 1) := by decide +kernel
theorem dX10_init_0 : decode cX10_init 0 = .ok (.aload_n 0, 1) := by decide +kernel
theorem dX10_init_1 : decode cX10_init 1 = .ok (.invokespecial 3, 3) := by decide +kernel
theorem dX10_init_4 : decode cX10_init 4 = .ok (.aload_n 0, 1) := by decide +kernel
theorem dX10_init_5 : decode cX10_init 5 = .ok (.new 9, 3) := by decide +kernel
theorem dX10_init_8 : decode cX10_init 8 = .ok (.dup, 1) := by decide +kernel
theorem dX10_init_9 : decode cX10_init 9 = .ok (.invokespecial 11, 3) := by decide +kernel
theorem dX10_init_12 : decode cX10_init 12 = .ok (.putfield 12, 3) := by decide +kernel
theorem dX10_init_15 : decode cX10_init 15 = .ok (.aload_n 0, 1) := by decide +kernel
theorem dX10_init_16 : decode cX10_init 16 = .ok (.aload_n 0, 1) := by decide +kernel
theorem dX10_init_17 : decode cX10_init 17 = .ok (.getfield 12, 3) := by decide +kernel
theorem dX10_init_20 : decode cX10_init 20 = .ok (.getfield 18, 3) := by decide +kernel
theorem dX10_init_23 : decode cX10_init 23 = .ok (.putfield 22, 3) := by decide +kernel
theorem dX10_init_26 : decode cX10_init 26 = .ok (.aload_n 0, 1) := by decide +kernel
theorem dX10_init_27 : decode cX10_init 27 = .ok (.aload_n 0, 1) := by decide +kernel
theorem dX10_init_28 : decode cX10_init 28 = .ok (.getfield 22, 3) := by decide +kernel
theorem dX10_init_31 : decode cX10_init 31 = .ok (.getfield 23, 3) := by decide +kernel
theorem dX10_init_34 : decode cX10_init 34 = .ok (.putfield 29, 3) := by decide +kernel
theorem dX10_init_37 : decode cX10_init 37 = .ok (.aload_n 0, 1) := by decide +kernel
theorem dX10_init_38 : decode cX10_init 38 = .ok (.new 32, 3) := by decide +kernel
theorem dX10_init_41 : decode cX10_init 41 = .ok (.dup, 1) := by decide +kernel
theorem dX10_init_42 : decode cX10_init 42 = .ok (.invokespecial 34, 3) := by decide +kernel
theorem dX10_init_45 : decode cX10_init 45 = .ok (.putfield 35, 3) := by decide +kernel
theorem dX10_init_48 : decode cX10_init 48 = .ok (.aload_n 0, 1) := by decide +kernel
theorem dX10_init_49 : decode cX10_init 49 = .ok (.new 38, 3) := by decide +kernel
theorem dX10_init_52 : decode cX10_init 52 = .ok (.dup, 1) := by decide +kernel
theorem dX10_init_53 : decode cX10_init 53 = .ok (.invokespecial 40, 3) := by decide +kernel
theorem dX10_init_56 : decode cX10_init 56 = .ok (.putfield 41, 3) := by decide +kernel
theorem dX10_init_59 : decode cX10_init 59 = .ok (.aload_n 0, 1) := by decide +kernel
theorem dX10_init_60 : decode cX10_init 60 = .ok (.new 45, 3) := by decide +kernel
theorem dX10_init_63 : decode cX10_init 63 = .ok (.dup, 1) := by decide +kernel
theorem dX10_init_64 : decode cX10_init 64 = .ok (.invokespecial 47, 3) := by decide +kernel
theorem dX10_init_67 : decode cX10_init 67 = .ok (.putfield 48, 3) := by decide +kernel
theorem dX10_init_70 : decode cX10_init 70 = .ok (.aload_n 0, 1) := by decide +kernel
theorem dX10_init_71 : decode cX10_init 71 = .ok (.iconst 0, 1) := by decide +kernel
theorem dX10_init_72 : decode cX10_init 72 = .ok (.putfield 52, 3) := by decide +kernel
theorem dX10_init_75 : decode cX10_init 75 = .ok (.return_, 1) := by decide +kernel
theorem dX10_feed_0 : decode cX10_feed 0 = .ok (.iload_n 1, 1) := by decide +kernel
theorem dX10_feed_1 : decode cX10_feed 1 = .ok (.ifCond .lt 9, 3) := by decide +kernel
theorem dX10_feed_4 : decode cX10_feed 4 = .ok (.iload_n 1, 1) := by decide +kernel
theorem dX10_feed_5 : decode cX10_feed 5 = .ok (.bipush 127, 2) := by decide +kernel
theorem dX10_feed_7 : decode cX10_feed 7 = .ok (.if_icmp .le 6, 3) := by decide +kernel
theorem dX10_feed_10 : decode cX10_feed 10 = .ok (.bipush (-2), 2) := by decide +kernel
theorem dX10_feed_12 : decode cX10_feed 12 = .ok (.ireturn, 1) := by decide +kernel
theorem dX10_feed_13 : decode cX10_feed 13 = .ok (.aload_n 0, 1) := by decide +kernel
theorem dX10_feed_14 : decode cX10_feed 14 = .ok (.getfield 29, 3) := by decide +kernel
theorem dX10_feed_17 : decode cX10_feed 17 = .ok (.getfield 56, 3) := by decide +kernel
theorem dX10_feed_20 : decode cX10_feed 20 = .ok (.iload_n 1, 1) := by decide +kernel
theorem dX10_feed_21 : decode cX10_feed 21 = .ok (.invokevirtual 60, 3) := by decide +kernel
theorem dX10_feed_24 : decode cX10_feed 24 = .ok (.ifCond .eq 16, 3) := by decide +kernel
theorem dX10_feed_27 : decode cX10_feed 27 = .ok (.aload_n 0, 1) := by decide +kernel
theorem dX10_feed_28 : decode cX10_feed 28 = .ok (.getfield 29, 3) := by decide +kernel
theorem dX10_feed_31 : decode cX10_feed 31 = .ok (.getfield 56, 3) := by decide +kernel
theorem dX10_feed_34 : decode cX10_feed 34 = .ok (.getfield 66, 3) := by decide +kernel
theorem dX10_feed_37 : decode cX10_feed 37 = .ok (.goto 5, 3) := by decide +kernel
theorem dX10_feed_40 : decode cX10_feed 40 = .ok (.bipush (-4), 2) := by decide +kernel
theorem dX10_feed_42 : decode cX10_feed 42 = .ok (.ireturn, 1) := by decide +kernel
theorem dX10_town_0 : decode cX10_town 0 = .ok (.aload_n 0, 1) := by decide +kernel
theorem dX10_town_1 : decode cX10_town 1 = .ok (.getfield 29, 3) := by decide +kernel
theorem dX10_town_4 : decode cX10_town 4 = .ok (.getfield 70, 3) := by decide +kernel
theorem dX10_town_7 : decode cX10_town 7 = .ok (.iconst 5, 1) := by decide +kernel
theorem dX10_town_8 : decode cX10_town 8 = .ok (.if_icmp .lt 6, 3) := by decide +kernel
theorem dX10_town_11 : decode cX10_town 11 = .ok (.bipush (-4), 2) := by decide +kernel
theorem dX10_town_13 : decode cX10_town 13 = .ok (.ireturn, 1) := by decide +kernel
theorem dX10_town_14 : decode cX10_town 14 = .ok (.aload_n 0, 1) := by decide +kernel
theorem dX10_town_15 : decode cX10_town 15 = .ok (.getfield 41, 3) := by decide +kernel
theorem dX10_town_18 : decode cX10_town 18 = .ok (.aload_n 0, 1) := by decide +kernel
theorem dX10_town_19 : decode cX10_town 19 = .ok (.getfield 29, 3) := by decide +kernel
theorem dX10_town_22 : decode cX10_town 22 = .ok (.getfield 56, 3) := by decide +kernel
theorem dX10_town_25 : decode cX10_town 25 = .ok (.invokevirtual 73, 3) := by decide +kernel
theorem dX10_town_28 : decode cX10_town 28 = .ok (.istore_n 1, 1) := by decide +kernel
theorem dX10_town_29 : decode cX10_town 29 = .ok (.aload_n 0, 1) := by decide +kernel
theorem dX10_town_30 : decode cX10_town 30 = .ok (.getfield 29, 3) := by decide +kernel
theorem dX10_town_33 : decode cX10_town 33 = .ok (.getfield 56, 3) := by decide +kernel
theorem dX10_town_36 : decode cX10_town 36 = .ok (.iconst 0, 1) := by decide +kernel
theorem dX10_town_37 : decode cX10_town 37 = .ok (.putfield 66, 3) := by decide +kernel
theorem dX10_town_40 : decode cX10_town 40 = .ok (.iload_n 1, 1) := by decide +kernel
theorem dX10_town_41 : decode cX10_town 41 = .ok (.ifCond .ne 14, 3) := by decide +kernel
theorem dX10_town_44 : decode cX10_town 44 = .ok (.bipush (-10), 2) := by decide +kernel
theorem dX10_town_46 : decode cX10_town 46 = .ok (.aload_n 0, 1) := by decide +kernel
theorem dX10_town_47 : decode cX10_town 47 = .ok (.getfield 41, 3) := by decide +kernel
theorem dX10_town_50 : decode cX10_town 50 = .ok (.getfield 77, 3) := by decide +kernel
theorem dX10_town_53 : decode cX10_town 53 = .ok (.isub, 1) := by decide +kernel
theorem dX10_town_54 : decode cX10_town 54 = .ok (.ireturn, 1) := by decide +kernel
theorem dX10_town_55 : decode cX10_town 55 = .ok (.aload_n 0, 1) := by decide +kernel
theorem dX10_town_56 : decode cX10_town 56 = .ok (.getfield 29, 3) := by decide +kernel
theorem dX10_town_59 : decode cX10_town 59 = .ok (.getfield 80, 3) := by decide +kernel
theorem dX10_town_62 : decode cX10_town 62 = .ok (.aload_n 0, 1) := by decide +kernel
theorem dX10_town_63 : decode cX10_town 63 = .ok (.getfield 41, 3) := by decide +kernel
theorem dX10_town_66 : decode cX10_town 66 = .ok (.getfield 84, 3) := by decide +kernel
theorem dX10_town_69 : decode cX10_town 69 = .ok (.invokevirtual 85, 3) := by decide +kernel
theorem dX10_town_72 : decode cX10_town 72 = .ok (.aload_n 0, 1) := by decide +kernel
theorem dX10_town_73 : decode cX10_town 73 = .ok (.getfield 29, 3) := by decide +kernel
theorem dX10_town_76 : decode cX10_town 76 = .ok (.dup, 1) := by decide +kernel
theorem dX10_town_77 : decode cX10_town 77 = .ok (.getfield 70, 3) := by decide +kernel
theorem dX10_town_80 : decode cX10_town 80 = .ok (.iconst 1, 1) := by decide +kernel
theorem dX10_town_81 : decode cX10_town 81 = .ok (.iadd, 1) := by decide +kernel
theorem dX10_town_82 : decode cX10_town 82 = .ok (.putfield 70, 3) := by decide +kernel
theorem dX10_town_85 : decode cX10_town 85 = .ok (.aload_n 0, 1) := by decide +kernel
theorem dX10_town_86 : decode cX10_town 86 = .ok (.getfield 29, 3) := by decide +kernel
theorem dX10_town_89 : decode cX10_town 89 = .ok (.getfield 70, 3) := by decide +kernel
theorem dX10_town_92 : decode cX10_town 92 = .ok (.iconst 1, 1) := by decide +kernel
theorem dX10_town_93 : decode cX10_town 93 = .ok (.isub, 1) := by decide +kernel
theorem dX10_town_94 : decode cX10_town 94 = .ok (.ireturn, 1) := by decide +kernel
theorem dX10_person_0 : decode cX10_person 0 = .ok (.iload_n 1, 1) := by decide +kernel
theorem dX10_person_1 : decode cX10_person 1 = .ok (.bipush 7, 2) := by decide +kernel
theorem dX10_person_3 : decode cX10_person 3 = .ok (.invokestatic 91, 3) := by decide +kernel
theorem dX10_person_6 : decode cX10_person 6 = .ok (.ifCond .ne 5, 3) := by decide +kernel
theorem dX10_person_9 : decode cX10_person 9 = .ok (.iconst (-1), 1) := by decide +kernel
theorem dX10_person_10 : decode cX10_person 10 = .ok (.ireturn, 1) := by decide +kernel
theorem dX10_person_11 : decode cX10_person 11 = .ok (.iload_n 2, 1) := by decide +kernel
theorem dX10_person_12 : decode cX10_person 12 = .ok (.invokestatic 95, 3) := by decide +kernel
theorem dX10_person_15 : decode cX10_person 15 = .ok (.ifCond .ne 6, 3) := by decide +kernel
theorem dX10_person_18 : decode cX10_person 18 = .ok (.bipush (-2), 2) := by decide +kernel
theorem dX10_person_20 : decode cX10_person 20 = .ok (.ireturn, 1) := by decide +kernel
theorem dX10_person_21 : decode cX10_person 21 = .ok (.aload_n 0, 1) := by decide +kernel
theorem dX10_person_22 : decode cX10_person 22 = .ok (.getfield 29, 3) := by decide +kernel
theorem dX10_person_25 : decode cX10_person 25 = .ok (.getfield 98, 3) := by decide +kernel
theorem dX10_person_28 : decode cX10_person 28 = .ok (.iload_n 1, 1) := by decide +kernel
theorem dX10_person_29 : decode cX10_person 29 = .ok (.iload_n 2, 1) := by decide +kernel
theorem dX10_person_30 : decode cX10_person 30 = .ok (.invokevirtual 102, 3) := by decide +kernel
theorem dX10_person_33 : decode cX10_person 33 = .ok (.ifCond .eq 18, 3) := by decide +kernel
theorem dX10_person_36 : decode cX10_person 36 = .ok (.aload_n 0, 1) := by decide +kernel
theorem dX10_person_37 : decode cX10_person 37 = .ok (.getfield 29, 3) := by decide +kernel
theorem dX10_person_40 : decode cX10_person 40 = .ok (.getfield 98, 3) := by decide +kernel
theorem dX10_person_43 : decode cX10_person 43 = .ok (.getfield 106, 3) := by decide +kernel
theorem dX10_person_46 : decode cX10_person 46 = .ok (.iconst 1, 1) := by decide +kernel
theorem dX10_person_47 : decode cX10_person 47 = .ok (.isub, 1) := by decide +kernel
theorem dX10_person_48 : decode cX10_person 48 = .ok (.goto 5, 3) := by decide +kernel
theorem dX10_person_51 : decode cX10_person 51 = .ok (.bipush (-4), 2) := by decide +kernel
theorem dX10_person_53 : decode cX10_person 53 = .ok (.ireturn, 1) := by decide +kernel
theorem dX10_of_0 : decode cX10_of 0 = .ok (.aload_n 0, 1) := by decide +kernel
theorem dX10_of_1 : decode cX10_of 1 = .ok (.getfield 29, 3) := by decide +kernel
theorem dX10_of_4 : decode cX10_of 4 = .ok (.getfield 98, 3) := by decide +kernel
theorem dX10_of_7 : decode cX10_of 7 = .ok (.iload_n 1, 1) := by decide +kernel
theorem dX10_of_8 : decode cX10_of 8 = .ok (.invokevirtual 107, 3) := by decide +kernel
theorem dX10_of_11 : decode cX10_of 11 = .ok (.ifCond .ne 5, 3) := by decide +kernel
theorem dX10_of_14 : decode cX10_of 14 = .ok (.iconst (-1), 1) := by decide +kernel
theorem dX10_of_15 : decode cX10_of 15 = .ok (.ireturn, 1) := by decide +kernel
theorem dX10_of_16 : decode cX10_of 16 = .ok (.aload_n 0, 1) := by decide +kernel
theorem dX10_of_17 : decode cX10_of 17 = .ok (.getfield 29, 3) := by decide +kernel
theorem dX10_of_20 : decode cX10_of 20 = .ok (.getfield 110, 3) := by decide +kernel
theorem dX10_of_23 : decode cX10_of 23 = .ok (.astore_n 3, 1) := by decide +kernel
theorem dX10_of_24 : decode cX10_of 24 = .ok (.iload_n 2, 1) := by decide +kernel
theorem dX10_of_25 : decode cX10_of 25 = .ok (.tableswitch 183 0 11 #[63, 76, 89, 159, 106, 159, 123, 159, 159, 159, 136, 146], 63) := by decide +kernel
theorem dX10_of_88 : decode cX10_of 88 = .ok (.aload_n 0, 1) := by decide +kernel
theorem dX10_of_89 : decode cX10_of 89 = .ok (.getfield 29, 3) := by decide +kernel
theorem dX10_of_92 : decode cX10_of 92 = .ok (.getfield 98, 3) := by decide +kernel
theorem dX10_of_95 : decode cX10_of 95 = .ok (.getfield 114, 3) := by decide +kernel
theorem dX10_of_98 : decode cX10_of 98 = .ok (.iload_n 1, 1) := by decide +kernel
theorem dX10_of_99 : decode cX10_of 99 = .ok (.iaload, 1) := by decide +kernel
theorem dX10_of_100 : decode cX10_of 100 = .ok (.ireturn, 1) := by decide +kernel
theorem dX10_of_101 : decode cX10_of 101 = .ok (.aload_n 0, 1) := by decide +kernel
theorem dX10_of_102 : decode cX10_of 102 = .ok (.getfield 29, 3) := by decide +kernel
theorem dX10_of_105 : decode cX10_of 105 = .ok (.getfield 98, 3) := by decide +kernel
theorem dX10_of_108 : decode cX10_of 108 = .ok (.getfield 118, 3) := by decide +kernel
theorem dX10_of_111 : decode cX10_of 111 = .ok (.iload_n 1, 1) := by decide +kernel
theorem dX10_of_112 : decode cX10_of 112 = .ok (.iaload, 1) := by decide +kernel
theorem dX10_of_113 : decode cX10_of 113 = .ok (.ireturn, 1) := by decide +kernel
theorem dX10_of_114 : decode cX10_of 114 = .ok (.aload_n 3, 1) := by decide +kernel
theorem dX10_of_115 : decode cX10_of 115 = .ok (.getfield 121, 3) := by decide +kernel
theorem dX10_of_118 : decode cX10_of 118 = .ok (.iload_n 1, 1) := by decide +kernel
theorem dX10_of_119 : decode cX10_of 119 = .ok (.invokestatic 126, 3) := by decide +kernel
theorem dX10_of_122 : decode cX10_of 122 = .ok (.ifCond .eq 7, 3) := by decide +kernel
theorem dX10_of_125 : decode cX10_of 125 = .ok (.iconst 1, 1) := by decide +kernel
theorem dX10_of_126 : decode cX10_of 126 = .ok (.goto 4, 3) := by decide +kernel
theorem dX10_of_129 : decode cX10_of 129 = .ok (.iconst 0, 1) := by decide +kernel
theorem dX10_of_130 : decode cX10_of 130 = .ok (.ireturn, 1) := by decide +kernel
theorem dX10_of_131 : decode cX10_of 131 = .ok (.aload_n 3, 1) := by decide +kernel
theorem dX10_of_132 : decode cX10_of 132 = .ok (.getfield 129, 3) := by decide +kernel
theorem dX10_of_135 : decode cX10_of 135 = .ok (.iload_n 1, 1) := by decide +kernel
theorem dX10_of_136 : decode cX10_of 136 = .ok (.invokestatic 126, 3) := by decide +kernel
theorem dX10_of_139 : decode cX10_of 139 = .ok (.ifCond .eq 7, 3) := by decide +kernel
theorem dX10_of_142 : decode cX10_of 142 = .ok (.iconst 1, 1) := by decide +kernel
theorem dX10_of_143 : decode cX10_of 143 = .ok (.goto 4, 3) := by decide +kernel
theorem dX10_of_146 : decode cX10_of 146 = .ok (.iconst 0, 1) := by decide +kernel
theorem dX10_of_147 : decode cX10_of 147 = .ok (.ireturn, 1) := by decide +kernel
theorem dX10_of_148 : decode cX10_of 148 = .ok (.aload_n 0, 1) := by decide +kernel
theorem dX10_of_149 : decode cX10_of 149 = .ok (.getfield 29, 3) := by decide +kernel
theorem dX10_of_152 : decode cX10_of 152 = .ok (.getfield 98, 3) := by decide +kernel
theorem dX10_of_155 : decode cX10_of 155 = .ok (.getfield 132, 3) := by decide +kernel
theorem dX10_of_158 : decode cX10_of 158 = .ok (.iload_n 1, 1) := by decide +kernel
theorem dX10_of_159 : decode cX10_of 159 = .ok (.iaload, 1) := by decide +kernel
theorem dX10_of_160 : decode cX10_of 160 = .ok (.ireturn, 1) := by decide +kernel
theorem dX10_of_161 : decode cX10_of 161 = .ok (.aload_n 0, 1) := by decide +kernel
theorem dX10_of_162 : decode cX10_of 162 = .ok (.getfield 22, 3) := by decide +kernel
theorem dX10_of_165 : decode cX10_of 165 = .ok (.aload_n 3, 1) := by decide +kernel
theorem dX10_of_166 : decode cX10_of 166 = .ok (.iload_n 1, 1) := by decide +kernel
theorem dX10_of_167 : decode cX10_of 167 = .ok (.invokevirtual 135, 3) := by decide +kernel
theorem dX10_of_170 : decode cX10_of 170 = .ok (.ireturn, 1) := by decide +kernel
theorem dX10_of_171 : decode cX10_of 171 = .ok (.aload_n 0, 1) := by decide +kernel
theorem dX10_of_172 : decode cX10_of 172 = .ok (.getfield 29, 3) := by decide +kernel
theorem dX10_of_175 : decode cX10_of 175 = .ok (.getfield 98, 3) := by decide +kernel
theorem dX10_of_178 : decode cX10_of 178 = .ok (.getfield 139, 3) := by decide +kernel
theorem dX10_of_181 : decode cX10_of 181 = .ok (.iload_n 1, 1) := by decide +kernel
theorem dX10_of_182 : decode cX10_of 182 = .ok (.iaload, 1) := by decide +kernel
theorem dX10_of_183 : decode cX10_of 183 = .ok (.ireturn, 1) := by decide +kernel
theorem dX10_of_184 : decode cX10_of 184 = .ok (.aload_n 3, 1) := by decide +kernel
theorem dX10_of_185 : decode cX10_of 185 = .ok (.getfield 121, 3) := by decide +kernel
theorem dX10_of_188 : decode cX10_of 188 = .ok (.iload_n 1, 1) := by decide +kernel
theorem dX10_of_189 : decode cX10_of 189 = .ok (.invokestatic 126, 3) := by decide +kernel
theorem dX10_of_192 : decode cX10_of 192 = .ok (.ifCond .eq 13, 3) := by decide +kernel
theorem dX10_of_195 : decode cX10_of 195 = .ok (.aload_n 0, 1) := by decide +kernel
theorem dX10_of_196 : decode cX10_of 196 = .ok (.aload_n 3, 1) := by decide +kernel
theorem dX10_of_197 : decode cX10_of 197 = .ok (.iload_n 1, 1) := by decide +kernel
theorem dX10_of_198 : decode cX10_of 198 = .ok (.iload_n 2, 1) := by decide +kernel
theorem dX10_of_199 : decode cX10_of 199 = .ok (.invokevirtual 142, 3) := by decide +kernel
theorem dX10_of_202 : decode cX10_of 202 = .ok (.goto 5, 3) := by decide +kernel
theorem dX10_of_205 : decode cX10_of 205 = .ok (.bipush (-5), 2) := by decide +kernel
theorem dX10_of_207 : decode cX10_of 207 = .ok (.ireturn, 1) := by decide +kernel
theorem dX10_of_208 : decode cX10_of 208 = .ok (.iconst (-1), 1) := by decide +kernel
theorem dX10_of_209 : decode cX10_of 209 = .ok (.ireturn, 1) := by decide +kernel
theorem dX10_ofTeller_0 : decode cX10_ofTeller 0 = .ok (.iload_n 3, 1) := by decide +kernel
theorem dX10_ofTeller_1 : decode cX10_ofTeller 1 = .ok (.tableswitch 73 3 8 #[39, 73, 46, 73, 53, 63], 39) := by decide +kernel
theorem dX10_ofTeller_40 : decode cX10_ofTeller 40 = .ok (.aload_n 1, 1) := by decide +kernel
theorem dX10_ofTeller_41 : decode cX10_ofTeller 41 = .ok (.getfield 146, 3) := by decide +kernel
theorem dX10_ofTeller_44 : decode cX10_ofTeller 44 = .ok (.iload_n 2, 1) := by decide +kernel
theorem dX10_ofTeller_45 : decode cX10_ofTeller 45 = .ok (.iaload, 1) := by decide +kernel
theorem dX10_ofTeller_46 : decode cX10_ofTeller 46 = .ok (.ireturn, 1) := by decide +kernel
theorem dX10_ofTeller_47 : decode cX10_ofTeller 47 = .ok (.aload_n 1, 1) := by decide +kernel
theorem dX10_ofTeller_48 : decode cX10_ofTeller 48 = .ok (.getfield 149, 3) := by decide +kernel
theorem dX10_ofTeller_51 : decode cX10_ofTeller 51 = .ok (.iload_n 2, 1) := by decide +kernel
theorem dX10_ofTeller_52 : decode cX10_ofTeller 52 = .ok (.iaload, 1) := by decide +kernel
theorem dX10_ofTeller_53 : decode cX10_ofTeller 53 = .ok (.ireturn, 1) := by decide +kernel
theorem dX10_ofTeller_54 : decode cX10_ofTeller 54 = .ok (.aload_n 0, 1) := by decide +kernel
theorem dX10_ofTeller_55 : decode cX10_ofTeller 55 = .ok (.getfield 22, 3) := by decide +kernel
theorem dX10_ofTeller_58 : decode cX10_ofTeller 58 = .ok (.aload_n 1, 1) := by decide +kernel
theorem dX10_ofTeller_59 : decode cX10_ofTeller 59 = .ok (.iload_n 2, 1) := by decide +kernel
theorem dX10_ofTeller_60 : decode cX10_ofTeller 60 = .ok (.invokevirtual 152, 3) := by decide +kernel
theorem dX10_ofTeller_63 : decode cX10_ofTeller 63 = .ok (.ireturn, 1) := by decide +kernel
theorem dX10_ofTeller_64 : decode cX10_ofTeller 64 = .ok (.aload_n 0, 1) := by decide +kernel
theorem dX10_ofTeller_65 : decode cX10_ofTeller 65 = .ok (.getfield 22, 3) := by decide +kernel
theorem dX10_ofTeller_68 : decode cX10_ofTeller 68 = .ok (.aload_n 1, 1) := by decide +kernel
theorem dX10_ofTeller_69 : decode cX10_ofTeller 69 = .ok (.iload_n 2, 1) := by decide +kernel
theorem dX10_ofTeller_70 : decode cX10_ofTeller 70 = .ok (.invokevirtual 155, 3) := by decide +kernel
theorem dX10_ofTeller_73 : decode cX10_ofTeller 73 = .ok (.ireturn, 1) := by decide +kernel
theorem dX10_ofTeller_74 : decode cX10_ofTeller 74 = .ok (.aload_n 0, 1) := by decide +kernel
theorem dX10_ofTeller_75 : decode cX10_ofTeller 75 = .ok (.getfield 22, 3) := by decide +kernel
theorem dX10_ofTeller_78 : decode cX10_ofTeller 78 = .ok (.aload_n 1, 1) := by decide +kernel
theorem dX10_ofTeller_79 : decode cX10_ofTeller 79 = .ok (.iload_n 2, 1) := by decide +kernel
theorem dX10_ofTeller_80 : decode cX10_ofTeller 80 = .ok (.invokevirtual 152, 3) := by decide +kernel
theorem dX10_ofTeller_83 : decode cX10_ofTeller 83 = .ok (.istore 4, 2) := by decide +kernel
theorem dX10_ofTeller_85 : decode cX10_ofTeller 85 = .ok (.aload_n 0, 1) := by decide +kernel
theorem dX10_ofTeller_86 : decode cX10_ofTeller 86 = .ok (.getfield 29, 3) := by decide +kernel
theorem dX10_ofTeller_89 : decode cX10_ofTeller 89 = .ok (.getfield 98, 3) := by decide +kernel
theorem dX10_ofTeller_92 : decode cX10_ofTeller 92 = .ok (.iload_n 2, 1) := by decide +kernel
theorem dX10_ofTeller_93 : decode cX10_ofTeller 93 = .ok (.iload 4, 2) := by decide +kernel
theorem dX10_ofTeller_95 : decode cX10_ofTeller 95 = .ok (.aload_n 0, 1) := by decide +kernel
theorem dX10_ofTeller_96 : decode cX10_ofTeller 96 = .ok (.getfield 22, 3) := by decide +kernel
theorem dX10_ofTeller_99 : decode cX10_ofTeller 99 = .ok (.aload_n 1, 1) := by decide +kernel
theorem dX10_ofTeller_100 : decode cX10_ofTeller 100 = .ok (.iload_n 2, 1) := by decide +kernel
theorem dX10_ofTeller_101 : decode cX10_ofTeller 101 = .ok (.invokevirtual 155, 3) := by decide +kernel
theorem dX10_ofTeller_104 : decode cX10_ofTeller 104 = .ok (.invokevirtual 158, 3) := by decide +kernel
theorem dX10_ofTeller_107 : decode cX10_ofTeller 107 = .ok (.ireturn, 1) := by decide +kernel
theorem dX10_know_0 : decode cX10_know 0 = .ok (.aload_n 0, 1) := by decide +kernel
theorem dX10_know_1 : decode cX10_know 1 = .ok (.getfield 29, 3) := by decide +kernel
theorem dX10_know_4 : decode cX10_know 4 = .ok (.getfield 98, 3) := by decide +kernel
theorem dX10_know_7 : decode cX10_know 7 = .ok (.iload_n 1, 1) := by decide +kernel
theorem dX10_know_8 : decode cX10_know 8 = .ok (.invokevirtual 107, 3) := by decide +kernel
theorem dX10_know_11 : decode cX10_know 11 = .ok (.ifCond .eq 17, 3) := by decide +kernel
theorem dX10_know_14 : decode cX10_know 14 = .ok (.aload_n 0, 1) := by decide +kernel
theorem dX10_know_15 : decode cX10_know 15 = .ok (.getfield 29, 3) := by decide +kernel
theorem dX10_know_18 : decode cX10_know 18 = .ok (.getfield 98, 3) := by decide +kernel
theorem dX10_know_21 : decode cX10_know 21 = .ok (.iload_n 2, 1) := by decide +kernel
theorem dX10_know_22 : decode cX10_know 22 = .ok (.invokevirtual 107, 3) := by decide +kernel
theorem dX10_know_25 : decode cX10_know 25 = .ok (.ifCond .ne 5, 3) := by decide +kernel
theorem dX10_know_28 : decode cX10_know 28 = .ok (.iconst (-1), 1) := by decide +kernel
theorem dX10_know_29 : decode cX10_know 29 = .ok (.ireturn, 1) := by decide +kernel
theorem dX10_know_30 : decode cX10_know 30 = .ok (.iload_n 1, 1) := by decide +kernel
theorem dX10_know_31 : decode cX10_know 31 = .ok (.iload_n 2, 1) := by decide +kernel
theorem dX10_know_32 : decode cX10_know 32 = .ok (.if_icmp .ne 6, 3) := by decide +kernel
theorem dX10_know_35 : decode cX10_know 35 = .ok (.bipush (-2), 2) := by decide +kernel
theorem dX10_know_37 : decode cX10_know 37 = .ok (.ireturn, 1) := by decide +kernel
theorem dX10_know_38 : decode cX10_know 38 = .ok (.aload_n 0, 1) := by decide +kernel
theorem dX10_know_39 : decode cX10_know 39 = .ok (.getfield 29, 3) := by decide +kernel
theorem dX10_know_42 : decode cX10_know 42 = .ok (.getfield 98, 3) := by decide +kernel
theorem dX10_know_45 : decode cX10_know 45 = .ok (.getfield 132, 3) := by decide +kernel
theorem dX10_know_48 : decode cX10_know 48 = .ok (.iload_n 1, 1) := by decide +kernel
theorem dX10_know_49 : decode cX10_know 49 = .ok (.iaload, 1) := by decide +kernel
theorem dX10_know_50 : decode cX10_know 50 = .ok (.iload_n 2, 1) := by decide +kernel
theorem dX10_know_51 : decode cX10_know 51 = .ok (.invokestatic 126, 3) := by decide +kernel
theorem dX10_know_54 : decode cX10_know 54 = .ok (.istore 4, 2) := by decide +kernel
theorem dX10_know_56 : decode cX10_know 56 = .ok (.aload_n 0, 1) := by decide +kernel
theorem dX10_know_57 : decode cX10_know 57 = .ok (.getfield 29, 3) := by decide +kernel
theorem dX10_know_60 : decode cX10_know 60 = .ok (.getfield 98, 3) := by decide +kernel
theorem dX10_know_63 : decode cX10_know 63 = .ok (.iload_n 1, 1) := by decide +kernel
theorem dX10_know_64 : decode cX10_know 64 = .ok (.iload_n 2, 1) := by decide +kernel
theorem dX10_know_65 : decode cX10_know 65 = .ok (.iload_n 3, 1) := by decide +kernel
theorem dX10_know_66 : decode cX10_know 66 = .ok (.invokevirtual 162, 3) := by decide +kernel
theorem dX10_know_69 : decode cX10_know 69 = .ok (.iload 4, 2) := by decide +kernel
theorem dX10_know_71 : decode cX10_know 71 = .ok (.ifCond .eq 7, 3) := by decide +kernel
theorem dX10_know_74 : decode cX10_know 74 = .ok (.iconst 1, 1) := by decide +kernel
theorem dX10_know_75 : decode cX10_know 75 = .ok (.goto 4, 3) := by decide +kernel
theorem dX10_know_78 : decode cX10_know 78 = .ok (.iconst 0, 1) := by decide +kernel
theorem dX10_know_79 : decode cX10_know 79 = .ok (.ireturn, 1) := by decide +kernel
theorem dX10_row_0 : decode cX10_row 0 = .ok (.aload_n 0, 1) := by decide +kernel
theorem dX10_row_1 : decode cX10_row 1 = .ok (.getfield 29, 3) := by decide +kernel
theorem dX10_row_4 : decode cX10_row 4 = .ok (.getfield 98, 3) := by decide +kernel
theorem dX10_row_7 : decode cX10_row 7 = .ok (.astore_n 3, 1) := by decide +kernel
theorem dX10_row_8 : decode cX10_row 8 = .ok (.aload_n 3, 1) := by decide +kernel
theorem dX10_row_9 : decode cX10_row 9 = .ok (.iload_n 1, 1) := by decide +kernel
theorem dX10_row_10 : decode cX10_row 10 = .ok (.invokevirtual 107, 3) := by decide +kernel
theorem dX10_row_13 : decode cX10_row 13 = .ok (.ifCond .eq 16, 3) := by decide +kernel
theorem dX10_row_16 : decode cX10_row 16 = .ok (.iload_n 2, 1) := by decide +kernel
theorem dX10_row_17 : decode cX10_row 17 = .ok (.iconst (-1), 1) := by decide +kernel
theorem dX10_row_18 : decode cX10_row 18 = .ok (.if_icmp .eq 13, 3) := by decide +kernel
theorem dX10_row_21 : decode cX10_row 21 = .ok (.aload_n 3, 1) := by decide +kernel
theorem dX10_row_22 : decode cX10_row 22 = .ok (.iload_n 2, 1) := by decide +kernel
theorem dX10_row_23 : decode cX10_row 23 = .ok (.invokevirtual 107, 3) := by decide +kernel
theorem dX10_row_26 : decode cX10_row 26 = .ok (.ifCond .ne 5, 3) := by decide +kernel
theorem dX10_row_29 : decode cX10_row 29 = .ok (.iconst (-1), 1) := by decide +kernel
theorem dX10_row_30 : decode cX10_row 30 = .ok (.ireturn, 1) := by decide +kernel
theorem dX10_row_31 : decode cX10_row 31 = .ok (.aload_n 3, 1) := by decide +kernel
theorem dX10_row_32 : decode cX10_row 32 = .ok (.getfield 114, 3) := by decide +kernel
theorem dX10_row_35 : decode cX10_row 35 = .ok (.iload_n 1, 1) := by decide +kernel
theorem dX10_row_36 : decode cX10_row 36 = .ok (.iaload, 1) := by decide +kernel
theorem dX10_row_37 : decode cX10_row 37 = .ok (.bipush 6, 2) := by decide +kernel
theorem dX10_row_39 : decode cX10_row 39 = .ok (.if_icmp .eq 6, 3) := by decide +kernel
theorem dX10_row_42 : decode cX10_row 42 = .ok (.bipush (-3), 2) := by decide +kernel
theorem dX10_row_44 : decode cX10_row 44 = .ok (.ireturn, 1) := by decide +kernel
theorem dX10_row_45 : decode cX10_row 45 = .ok (.iload_n 2, 1) := by decide +kernel
theorem dX10_row_46 : decode cX10_row 46 = .ok (.iconst (-1), 1) := by decide +kernel
theorem dX10_row_47 : decode cX10_row 47 = .ok (.if_icmp .ne 12, 3) := by decide +kernel
theorem dX10_row_50 : decode cX10_row 50 = .ok (.aload_n 3, 1) := by decide +kernel
theorem dX10_row_51 : decode cX10_row 51 = .ok (.getfield 139, 3) := by decide +kernel
theorem dX10_row_54 : decode cX10_row 54 = .ok (.iload_n 1, 1) := by decide +kernel
theorem dX10_row_55 : decode cX10_row 55 = .ok (.iconst 0, 1) := by decide +kernel
theorem dX10_row_56 : decode cX10_row 56 = .ok (.iastore, 1) := by decide +kernel
theorem dX10_row_57 : decode cX10_row 57 = .ok (.iconst 0, 1) := by decide +kernel
theorem dX10_row_58 : decode cX10_row 58 = .ok (.ireturn, 1) := by decide +kernel
theorem dX10_row_59 : decode cX10_row 59 = .ok (.aload_n 3, 1) := by decide +kernel
theorem dX10_row_60 : decode cX10_row 60 = .ok (.iload_n 1, 1) := by decide +kernel
theorem dX10_row_61 : decode cX10_row 61 = .ok (.iload_n 2, 1) := by decide +kernel
theorem dX10_row_62 : decode cX10_row 62 = .ok (.invokevirtual 166, 3) := by decide +kernel
theorem dX10_row_65 : decode cX10_row 65 = .ok (.ifCond .eq 12, 3) := by decide +kernel
theorem dX10_row_68 : decode cX10_row 68 = .ok (.aload_n 3, 1) := by decide +kernel
theorem dX10_row_69 : decode cX10_row 69 = .ok (.getfield 139, 3) := by decide +kernel
theorem dX10_row_72 : decode cX10_row 72 = .ok (.iload_n 1, 1) := by decide +kernel
theorem dX10_row_73 : decode cX10_row 73 = .ok (.iaload, 1) := by decide +kernel
theorem dX10_row_74 : decode cX10_row 74 = .ok (.goto 5, 3) := by decide +kernel
theorem dX10_row_77 : decode cX10_row 77 = .ok (.bipush (-4), 2) := by decide +kernel
theorem dX10_row_79 : decode cX10_row 79 = .ok (.ireturn, 1) := by decide +kernel
theorem dX10_told_0 : decode cX10_told 0 = .ok (.iload_n 1, 1) := by decide +kernel
theorem dX10_told_1 : decode cX10_told 1 = .ok (.tableswitch 90 0 4 #[35, 46, 57, 68, 79], 35) := by decide +kernel
theorem dX10_told_36 : decode cX10_told 36 = .ok (.aload_n 0, 1) := by decide +kernel
theorem dX10_told_37 : decode cX10_told 37 = .ok (.getfield 29, 3) := by decide +kernel
theorem dX10_told_40 : decode cX10_told 40 = .ok (.getfield 110, 3) := by decide +kernel
theorem dX10_told_43 : decode cX10_told 43 = .ok (.getfield 169, 3) := by decide +kernel
theorem dX10_told_46 : decode cX10_told 46 = .ok (.ireturn, 1) := by decide +kernel
theorem dX10_told_47 : decode cX10_told 47 = .ok (.aload_n 0, 1) := by decide +kernel
theorem dX10_told_48 : decode cX10_told 48 = .ok (.getfield 29, 3) := by decide +kernel
theorem dX10_told_51 : decode cX10_told 51 = .ok (.getfield 110, 3) := by decide +kernel
theorem dX10_told_54 : decode cX10_told 54 = .ok (.getfield 172, 3) := by decide +kernel
theorem dX10_told_57 : decode cX10_told 57 = .ok (.ireturn, 1) := by decide +kernel
theorem dX10_told_58 : decode cX10_told 58 = .ok (.aload_n 0, 1) := by decide +kernel
theorem dX10_told_59 : decode cX10_told 59 = .ok (.getfield 29, 3) := by decide +kernel
theorem dX10_told_62 : decode cX10_told 62 = .ok (.getfield 80, 3) := by decide +kernel
theorem dX10_told_65 : decode cX10_told 65 = .ok (.getfield 175, 3) := by decide +kernel
theorem dX10_told_68 : decode cX10_told 68 = .ok (.ireturn, 1) := by decide +kernel
theorem dX10_told_69 : decode cX10_told 69 = .ok (.aload_n 0, 1) := by decide +kernel
theorem dX10_told_70 : decode cX10_told 70 = .ok (.getfield 29, 3) := by decide +kernel
theorem dX10_told_73 : decode cX10_told 73 = .ok (.getfield 80, 3) := by decide +kernel
theorem dX10_told_76 : decode cX10_told 76 = .ok (.getfield 178, 3) := by decide +kernel
theorem dX10_told_79 : decode cX10_told 79 = .ok (.ireturn, 1) := by decide +kernel
theorem dX10_told_80 : decode cX10_told 80 = .ok (.aload_n 0, 1) := by decide +kernel
theorem dX10_told_81 : decode cX10_told 81 = .ok (.getfield 29, 3) := by decide +kernel
theorem dX10_told_84 : decode cX10_told 84 = .ok (.getfield 110, 3) := by decide +kernel
theorem dX10_told_87 : decode cX10_told 87 = .ok (.getfield 121, 3) := by decide +kernel
theorem dX10_told_90 : decode cX10_told 90 = .ok (.ireturn, 1) := by decide +kernel
theorem dX10_told_91 : decode cX10_told 91 = .ok (.iconst (-1), 1) := by decide +kernel
theorem dX10_told_92 : decode cX10_told 92 = .ok (.ireturn, 1) := by decide +kernel
theorem dX10_begin_0 : decode cX10_begin 0 = .ok (.aload_n 0, 1) := by decide +kernel
theorem dX10_begin_1 : decode cX10_begin 1 = .ok (.getfield 29, 3) := by decide +kernel
theorem dX10_begin_4 : decode cX10_begin 4 = .ok (.getfield 98, 3) := by decide +kernel
theorem dX10_begin_7 : decode cX10_begin 7 = .ok (.iload_n 1, 1) := by decide +kernel
theorem dX10_begin_8 : decode cX10_begin 8 = .ok (.invokevirtual 107, 3) := by decide +kernel
theorem dX10_begin_11 : decode cX10_begin 11 = .ok (.ifCond .ne 5, 3) := by decide +kernel
theorem dX10_begin_14 : decode cX10_begin 14 = .ok (.iconst (-1), 1) := by decide +kernel
theorem dX10_begin_15 : decode cX10_begin 15 = .ok (.ireturn, 1) := by decide +kernel
theorem dX10_begin_16 : decode cX10_begin 16 = .ok (.iload_n 2, 1) := by decide +kernel
theorem dX10_begin_17 : decode cX10_begin 17 = .ok (.invokestatic 95, 3) := by decide +kernel
theorem dX10_begin_20 : decode cX10_begin 20 = .ok (.ifCond .ne 6, 3) := by decide +kernel
theorem dX10_begin_23 : decode cX10_begin 23 = .ok (.bipush (-2), 2) := by decide +kernel
theorem dX10_begin_25 : decode cX10_begin 25 = .ok (.ireturn, 1) := by decide +kernel
theorem dX10_begin_26 : decode cX10_begin 26 = .ok (.aload_n 0, 1) := by decide +kernel
theorem dX10_begin_27 : decode cX10_begin 27 = .ok (.getfield 29, 3) := by decide +kernel
theorem dX10_begin_30 : decode cX10_begin 30 = .ok (.getfield 110, 3) := by decide +kernel
theorem dX10_begin_33 : decode cX10_begin 33 = .ok (.iload_n 1, 1) := by decide +kernel
theorem dX10_begin_34 : decode cX10_begin 34 = .ok (.iload_n 2, 1) := by decide +kernel
theorem dX10_begin_35 : decode cX10_begin 35 = .ok (.aload_n 0, 1) := by decide +kernel
theorem dX10_begin_36 : decode cX10_begin 36 = .ok (.getfield 29, 3) := by decide +kernel
theorem dX10_begin_39 : decode cX10_begin 39 = .ok (.getfield 110, 3) := by decide +kernel
theorem dX10_begin_42 : decode cX10_begin 42 = .ok (.getfield 169, 3) := by decide +kernel
theorem dX10_begin_45 : decode cX10_begin 45 = .ok (.invokevirtual 181, 3) := by decide +kernel
theorem dX10_begin_48 : decode cX10_begin 48 = .ok (.iconst 1, 1) := by decide +kernel
theorem dX10_begin_49 : decode cX10_begin 49 = .ok (.ireturn, 1) := by decide +kernel
theorem dX10_day_0 : decode cX10_day 0 = .ok (.aload_n 0, 1) := by decide +kernel
theorem dX10_day_1 : decode cX10_day 1 = .ok (.getfield 29, 3) := by decide +kernel
theorem dX10_day_4 : decode cX10_day 4 = .ok (.getfield 110, 3) := by decide +kernel
theorem dX10_day_7 : decode cX10_day 7 = .ok (.getfield 169, 3) := by decide +kernel
theorem dX10_day_10 : decode cX10_day 10 = .ok (.sipush 999, 3) := by decide +kernel
theorem dX10_day_13 : decode cX10_day 13 = .ok (.if_icmp .lt 6, 3) := by decide +kernel
theorem dX10_day_16 : decode cX10_day 16 = .ok (.bipush (-3), 2) := by decide +kernel
theorem dX10_day_18 : decode cX10_day 18 = .ok (.ireturn, 1) := by decide +kernel
theorem dX10_day_19 : decode cX10_day 19 = .ok (.aload_n 0, 1) := by decide +kernel
theorem dX10_day_20 : decode cX10_day 20 = .ok (.getfield 22, 3) := by decide +kernel
theorem dX10_day_23 : decode cX10_day 23 = .ok (.aload_n 0, 1) := by decide +kernel
theorem dX10_day_24 : decode cX10_day 24 = .ok (.getfield 29, 3) := by decide +kernel
theorem dX10_day_27 : decode cX10_day 27 = .ok (.getfield 110, 3) := by decide +kernel
theorem dX10_day_30 : decode cX10_day 30 = .ok (.iconst (-1), 1) := by decide +kernel
theorem dX10_day_31 : decode cX10_day 31 = .ok (.iconst 0, 1) := by decide +kernel
theorem dX10_day_32 : decode cX10_day 32 = .ok (.iconst (-1), 1) := by decide +kernel
theorem dX10_day_33 : decode cX10_day 33 = .ok (.invokevirtual 185, 3) := by decide +kernel
theorem dX10_day_36 : decode cX10_day 36 = .ok (.ireturn, 1) := by decide +kernel
theorem dX10_sum_0 : decode cX10_sum 0 = .ok (.iload_n 1, 1) := by decide +kernel
theorem dX10_sum_1 : decode cX10_sum 1 = .ok (.bipush 13, 2) := by decide +kernel
theorem dX10_sum_3 : decode cX10_sum 3 = .ok (.invokestatic 91, 3) := by decide +kernel
theorem dX10_sum_6 : decode cX10_sum 6 = .ok (.ifCond .ne 7, 3) := by decide +kernel
theorem dX10_sum_9 : decode cX10_sum 9 = .ok (.ldc2_w 189, 3) := by decide +kernel
theorem dX10_sum_12 : decode cX10_sum 12 = .ok (.lreturn, 1) := by decide +kernel
theorem dX10_sum_13 : decode cX10_sum 13 = .ok (.aload_n 0, 1) := by decide +kernel
theorem dX10_sum_14 : decode cX10_sum 14 = .ok (.getfield 29, 3) := by decide +kernel
theorem dX10_sum_17 : decode cX10_sum 17 = .ok (.getfield 80, 3) := by decide +kernel
theorem dX10_sum_20 : decode cX10_sum 20 = .ok (.iload_n 1, 1) := by decide +kernel
theorem dX10_sum_21 : decode cX10_sum 21 = .ok (.invokevirtual 191, 3) := by decide +kernel
theorem dX10_sum_24 : decode cX10_sum 24 = .ok (.lreturn, 1) := by decide +kernel
theorem dX10_enough_0 : decode cX10_enough 0 = .ok (.iload_n 1, 1) := by decide +kernel
theorem dX10_enough_1 : decode cX10_enough 1 = .ok (.ifCond .lt 9, 3) := by decide +kernel
theorem dX10_enough_4 : decode cX10_enough 4 = .ok (.iload_n 1, 1) := by decide +kernel
theorem dX10_enough_5 : decode cX10_enough 5 = .ok (.ldc 195, 2) := by decide +kernel
theorem dX10_enough_7 : decode cX10_enough 7 = .ok (.if_icmp .le 6, 3) := by decide +kernel
theorem dX10_enough_10 : decode cX10_enough 10 = .ok (.bipush (-2), 2) := by decide +kernel
theorem dX10_enough_12 : decode cX10_enough 12 = .ok (.ireturn, 1) := by decide +kernel
theorem dX10_enough_13 : decode cX10_enough 13 = .ok (.iconst 0, 1) := by decide +kernel
theorem dX10_enough_14 : decode cX10_enough 14 = .ok (.istore_n 2, 1) := by decide +kernel
theorem dX10_enough_15 : decode cX10_enough 15 = .ok (.iload_n 2, 1) := by decide +kernel
theorem dX10_enough_16 : decode cX10_enough 16 = .ok (.bipush 12, 2) := by decide +kernel
theorem dX10_enough_18 : decode cX10_enough 18 = .ok (.if_icmp .gt 28, 3) := by decide +kernel
theorem dX10_enough_21 : decode cX10_enough 21 = .ok (.aload_n 0, 1) := by decide +kernel
theorem dX10_enough_22 : decode cX10_enough 22 = .ok (.getfield 29, 3) := by decide +kernel
theorem dX10_enough_25 : decode cX10_enough 25 = .ok (.getfield 80, 3) := by decide +kernel
theorem dX10_enough_28 : decode cX10_enough 28 = .ok (.iload_n 2, 1) := by decide +kernel
theorem dX10_enough_29 : decode cX10_enough 29 = .ok (.invokevirtual 191, 3) := by decide +kernel
theorem dX10_enough_32 : decode cX10_enough 32 = .ok (.iload_n 1, 1) := by decide +kernel
theorem dX10_enough_33 : decode cX10_enough 33 = .ok (.i2l, 1) := by decide +kernel
theorem dX10_enough_34 : decode cX10_enough 34 = .ok (.lcmp, 1) := by decide +kernel
theorem dX10_enough_35 : decode cX10_enough 35 = .ok (.ifCond .lt 5, 3) := by decide +kernel
theorem dX10_enough_38 : decode cX10_enough 38 = .ok (.iload_n 2, 1) := by decide +kernel
theorem dX10_enough_39 : decode cX10_enough 39 = .ok (.ireturn, 1) := by decide +kernel
theorem dX10_enough_40 : decode cX10_enough 40 = .ok (.iinc 2 1, 3) := by decide +kernel
theorem dX10_enough_43 : decode cX10_enough 43 = .ok (.goto (-28), 3) := by decide +kernel
theorem dX10_enough_46 : decode cX10_enough 46 = .ok (.bipush (-5), 2) := by decide +kernel
theorem dX10_enough_48 : decode cX10_enough 48 = .ok (.ireturn, 1) := by decide +kernel
theorem dX10_end_0 : decode cX10_end 0 = .ok (.aload_n 0, 1) := by decide +kernel
theorem dX10_end_1 : decode cX10_end 1 = .ok (.getfield 12, 3) := by decide +kernel
theorem dX10_end_4 : decode cX10_end 4 = .ok (.getfield 196, 3) := by decide +kernel
theorem dX10_end_7 : decode cX10_end 7 = .ok (.astore_n 2, 1) := by decide +kernel
theorem dX10_end_8 : decode cX10_end 8 = .ok (.aload_n 2, 1) := by decide +kernel
theorem dX10_end_9 : decode cX10_end 9 = .ok (.aload_n 0, 1) := by decide +kernel
theorem dX10_end_10 : decode cX10_end 10 = .ok (.getfield 29, 3) := by decide +kernel
theorem dX10_end_13 : decode cX10_end 13 = .ok (.getfield 110, 3) := by decide +kernel
theorem dX10_end_16 : decode cX10_end 16 = .ok (.invokevirtual 199, 3) := by decide +kernel
theorem dX10_end_19 : decode cX10_end 19 = .ok (.aload_n 0, 1) := by decide +kernel
theorem dX10_end_20 : decode cX10_end 20 = .ok (.getfield 22, 3) := by decide +kernel
theorem dX10_end_23 : decode cX10_end 23 = .ok (.aload_n 2, 1) := by decide +kernel
theorem dX10_end_24 : decode cX10_end 24 = .ok (.iconst (-1), 1) := by decide +kernel
theorem dX10_end_25 : decode cX10_end 25 = .ok (.iconst 0, 1) := by decide +kernel
theorem dX10_end_26 : decode cX10_end 26 = .ok (.iconst (-1), 1) := by decide +kernel
theorem dX10_end_27 : decode cX10_end 27 = .ok (.invokevirtual 202, 3) := by decide +kernel
theorem dX10_end_30 : decode cX10_end 30 = .ok (.istore_n 3, 1) := by decide +kernel
theorem dX10_end_31 : decode cX10_end 31 = .ok (.iload_n 1, 1) := by decide +kernel
theorem dX10_end_32 : decode cX10_end 32 = .ok (.tableswitch 65 0 3 #[32, 34, 42, 47], 32) := by decide +kernel
theorem dX10_end_64 : decode cX10_end 64 = .ok (.iload_n 3, 1) := by decide +kernel
theorem dX10_end_65 : decode cX10_end 65 = .ok (.ireturn, 1) := by decide +kernel
theorem dX10_end_66 : decode cX10_end 66 = .ok (.aload_n 2, 1) := by decide +kernel
theorem dX10_end_67 : decode cX10_end 67 = .ok (.getfield 121, 3) := by decide +kernel
theorem dX10_end_70 : decode cX10_end 70 = .ok (.invokestatic 205, 3) := by decide +kernel
theorem dX10_end_73 : decode cX10_end 73 = .ok (.ireturn, 1) := by decide +kernel
theorem dX10_end_74 : decode cX10_end 74 = .ok (.aload_n 2, 1) := by decide +kernel
theorem dX10_end_75 : decode cX10_end 75 = .ok (.getfield 172, 3) := by decide +kernel
theorem dX10_end_78 : decode cX10_end 78 = .ok (.ireturn, 1) := by decide +kernel
theorem dX10_end_79 : decode cX10_end 79 = .ok (.aload_n 0, 1) := by decide +kernel
theorem dX10_end_80 : decode cX10_end 80 = .ok (.getfield 29, 3) := by decide +kernel
theorem dX10_end_83 : decode cX10_end 83 = .ok (.getfield 98, 3) := by decide +kernel
theorem dX10_end_86 : decode cX10_end 86 = .ok (.invokevirtual 211, 3) := by decide +kernel
theorem dX10_end_89 : decode cX10_end 89 = .ok (.aload_n 2, 1) := by decide +kernel
theorem dX10_end_90 : decode cX10_end 90 = .ok (.getfield 121, 3) := by decide +kernel
theorem dX10_end_93 : decode cX10_end 93 = .ok (.iconst (-1), 1) := by decide +kernel
theorem dX10_end_94 : decode cX10_end 94 = .ok (.ixor, 1) := by decide +kernel
theorem dX10_end_95 : decode cX10_end 95 = .ok (.iand, 1) := by decide +kernel
theorem dX10_end_96 : decode cX10_end 96 = .ok (.ireturn, 1) := by decide +kernel
theorem dX10_end_97 : decode cX10_end 97 = .ok (.iconst (-1), 1) := by decide +kernel
theorem dX10_end_98 : decode cX10_end 98 = .ok (.ireturn, 1) := by decide +kernel
theorem dX10_best_0 : decode cX10_best 0 = .ok (.iload_n 2, 1) := by decide +kernel
theorem dX10_best_1 : decode cX10_best 1 = .ok (.iconst 3, 1) := by decide +kernel
theorem dX10_best_2 : decode cX10_best 2 = .ok (.invokestatic 91, 3) := by decide +kernel
theorem dX10_best_5 : decode cX10_best 5 = .ok (.ifCond .ne 5, 3) := by decide +kernel
theorem dX10_best_8 : decode cX10_best 8 = .ok (.iconst (-1), 1) := by decide +kernel
theorem dX10_best_9 : decode cX10_best 9 = .ok (.ireturn, 1) := by decide +kernel
theorem dX10_best_10 : decode cX10_best 10 = .ok (.iload_n 1, 1) := by decide +kernel
theorem dX10_best_11 : decode cX10_best 11 = .ok (.invokestatic 95, 3) := by decide +kernel
theorem dX10_best_14 : decode cX10_best 14 = .ok (.ifCond .ne 6, 3) := by decide +kernel
theorem dX10_best_17 : decode cX10_best 17 = .ok (.bipush (-2), 2) := by decide +kernel
theorem dX10_best_19 : decode cX10_best 19 = .ok (.ireturn, 1) := by decide +kernel
theorem dX10_best_20 : decode cX10_best 20 = .ok (.aload_n 0, 1) := by decide +kernel
theorem dX10_best_21 : decode cX10_best 21 = .ok (.getfield 29, 3) := by decide +kernel
theorem dX10_best_24 : decode cX10_best 24 = .ok (.getfield 98, 3) := by decide +kernel
theorem dX10_best_27 : decode cX10_best 27 = .ok (.getfield 106, 3) := by decide +kernel
theorem dX10_best_30 : decode cX10_best 30 = .ok (.ifCond .ne 6, 3) := by decide +kernel
theorem dX10_best_33 : decode cX10_best 33 = .ok (.bipush (-3), 2) := by decide +kernel
theorem dX10_best_35 : decode cX10_best 35 = .ok (.ireturn, 1) := by decide +kernel
theorem dX10_best_36 : decode cX10_best 36 = .ok (.aload_n 0, 1) := by decide +kernel
theorem dX10_best_37 : decode cX10_best 37 = .ok (.getfield 12, 3) := by decide +kernel
theorem dX10_best_40 : decode cX10_best 40 = .ok (.iload_n 1, 1) := by decide +kernel
theorem dX10_best_41 : decode cX10_best 41 = .ok (.invokevirtual 215, 3) := by decide +kernel
theorem dX10_best_44 : decode cX10_best 44 = .ok (.iload_n 2, 1) := by decide +kernel
theorem dX10_best_45 : decode cX10_best 45 = .ok (.lookupswitch 43 #[(0, 27), (1, 35)], 27) := by decide +kernel
theorem dX10_best_72 : decode cX10_best 72 = .ok (.aload_n 0, 1) := by decide +kernel
theorem dX10_best_73 : decode cX10_best 73 = .ok (.getfield 12, 3) := by decide +kernel
theorem dX10_best_76 : decode cX10_best 76 = .ok (.getfield 219, 3) := by decide +kernel
theorem dX10_best_79 : decode cX10_best 79 = .ok (.ireturn, 1) := by decide +kernel
theorem dX10_best_80 : decode cX10_best 80 = .ok (.aload_n 0, 1) := by decide +kernel
theorem dX10_best_81 : decode cX10_best 81 = .ok (.getfield 12, 3) := by decide +kernel
theorem dX10_best_84 : decode cX10_best 84 = .ok (.getfield 222, 3) := by decide +kernel
theorem dX10_best_87 : decode cX10_best 87 = .ok (.ireturn, 1) := by decide +kernel
theorem dX10_best_88 : decode cX10_best 88 = .ok (.aload_n 0, 1) := by decide +kernel
theorem dX10_best_89 : decode cX10_best 89 = .ok (.getfield 12, 3) := by decide +kernel
theorem dX10_best_92 : decode cX10_best 92 = .ok (.getfield 225, 3) := by decide +kernel
theorem dX10_best_95 : decode cX10_best 95 = .ok (.ireturn, 1) := by decide +kernel
theorem dX10_choice_0 : decode cX10_choice 0 = .ok (.aload_n 0, 1) := by decide +kernel
theorem dX10_choice_1 : decode cX10_choice 1 = .ok (.getfield 29, 3) := by decide +kernel
theorem dX10_choice_4 : decode cX10_choice 4 = .ok (.getfield 98, 3) := by decide +kernel
theorem dX10_choice_7 : decode cX10_choice 7 = .ok (.iload_n 1, 1) := by decide +kernel
theorem dX10_choice_8 : decode cX10_choice 8 = .ok (.invokevirtual 107, 3) := by decide +kernel
theorem dX10_choice_11 : decode cX10_choice 11 = .ok (.ifCond .eq 11, 3) := by decide +kernel
theorem dX10_choice_14 : decode cX10_choice 14 = .ok (.iload_n 2, 1) := by decide +kernel
theorem dX10_choice_15 : decode cX10_choice 15 = .ok (.iconst 2, 1) := by decide +kernel
theorem dX10_choice_16 : decode cX10_choice 16 = .ok (.invokestatic 91, 3) := by decide +kernel
theorem dX10_choice_19 : decode cX10_choice 19 = .ok (.ifCond .ne 5, 3) := by decide +kernel
theorem dX10_choice_22 : decode cX10_choice 22 = .ok (.iconst (-1), 1) := by decide +kernel
theorem dX10_choice_23 : decode cX10_choice 23 = .ok (.ireturn, 1) := by decide +kernel
theorem dX10_choice_24 : decode cX10_choice 24 = .ok (.aload_n 0, 1) := by decide +kernel
theorem dX10_choice_25 : decode cX10_choice 25 = .ok (.getfield 29, 3) := by decide +kernel
theorem dX10_choice_28 : decode cX10_choice 28 = .ok (.getfield 110, 3) := by decide +kernel
theorem dX10_choice_31 : decode cX10_choice 31 = .ok (.invokevirtual 228, 3) := by decide +kernel
theorem dX10_choice_34 : decode cX10_choice 34 = .ok (.iload_n 1, 1) := by decide +kernel
theorem dX10_choice_35 : decode cX10_choice 35 = .ok (.invokestatic 126, 3) := by decide +kernel
theorem dX10_choice_38 : decode cX10_choice 38 = .ok (.ifCond .ne 6, 3) := by decide +kernel
theorem dX10_choice_41 : decode cX10_choice 41 = .ok (.bipush (-3), 2) := by decide +kernel
theorem dX10_choice_43 : decode cX10_choice 43 = .ok (.ireturn, 1) := by decide +kernel
theorem dX10_choice_44 : decode cX10_choice 44 = .ok (.aload_n 0, 1) := by decide +kernel
theorem dX10_choice_45 : decode cX10_choice 45 = .ok (.getfield 12, 3) := by decide +kernel
theorem dX10_choice_48 : decode cX10_choice 48 = .ok (.iload_n 1, 1) := by decide +kernel
theorem dX10_choice_49 : decode cX10_choice 49 = .ok (.invokevirtual 231, 3) := by decide +kernel
theorem dX10_choice_52 : decode cX10_choice 52 = .ok (.iload_n 2, 1) := by decide +kernel
theorem dX10_choice_53 : decode cX10_choice 53 = .ok (.ifCond .ne 13, 3) := by decide +kernel
theorem dX10_choice_56 : decode cX10_choice 56 = .ok (.aload_n 0, 1) := by decide +kernel
theorem dX10_choice_57 : decode cX10_choice 57 = .ok (.getfield 12, 3) := by decide +kernel
theorem dX10_choice_60 : decode cX10_choice 60 = .ok (.getfield 234, 3) := by decide +kernel
theorem dX10_choice_63 : decode cX10_choice 63 = .ok (.goto 10, 3) := by decide +kernel
theorem dX10_choice_66 : decode cX10_choice 66 = .ok (.aload_n 0, 1) := by decide +kernel
theorem dX10_choice_67 : decode cX10_choice 67 = .ok (.getfield 12, 3) := by decide +kernel
theorem dX10_choice_70 : decode cX10_choice 70 = .ok (.getfield 237, 3) := by decide +kernel
theorem dX10_choice_73 : decode cX10_choice 73 = .ok (.ireturn, 1) := by decide +kernel
theorem dX10_reach_0 : decode cX10_reach 0 = .ok (.aload_n 0, 1) := by decide +kernel
theorem dX10_reach_1 : decode cX10_reach 1 = .ok (.getfield 29, 3) := by decide +kernel
theorem dX10_reach_4 : decode cX10_reach 4 = .ok (.getfield 98, 3) := by decide +kernel
theorem dX10_reach_7 : decode cX10_reach 7 = .ok (.iload_n 1, 1) := by decide +kernel
theorem dX10_reach_8 : decode cX10_reach 8 = .ok (.invokevirtual 107, 3) := by decide +kernel
theorem dX10_reach_11 : decode cX10_reach 11 = .ok (.ifCond .eq 17, 3) := by decide +kernel
theorem dX10_reach_14 : decode cX10_reach 14 = .ok (.aload_n 0, 1) := by decide +kernel
theorem dX10_reach_15 : decode cX10_reach 15 = .ok (.getfield 29, 3) := by decide +kernel
theorem dX10_reach_18 : decode cX10_reach 18 = .ok (.getfield 98, 3) := by decide +kernel
theorem dX10_reach_21 : decode cX10_reach 21 = .ok (.iload_n 2, 1) := by decide +kernel
theorem dX10_reach_22 : decode cX10_reach 22 = .ok (.invokevirtual 107, 3) := by decide +kernel
theorem dX10_reach_25 : decode cX10_reach 25 = .ok (.ifCond .ne 5, 3) := by decide +kernel
theorem dX10_reach_28 : decode cX10_reach 28 = .ok (.iconst (-1), 1) := by decide +kernel
theorem dX10_reach_29 : decode cX10_reach 29 = .ok (.ireturn, 1) := by decide +kernel
theorem dX10_reach_30 : decode cX10_reach 30 = .ok (.aload_n 0, 1) := by decide +kernel
theorem dX10_reach_31 : decode cX10_reach 31 = .ok (.getfield 29, 3) := by decide +kernel
theorem dX10_reach_34 : decode cX10_reach 34 = .ok (.getfield 110, 3) := by decide +kernel
theorem dX10_reach_37 : decode cX10_reach 37 = .ok (.invokevirtual 228, 3) := by decide +kernel
theorem dX10_reach_40 : decode cX10_reach 40 = .ok (.iload_n 1, 1) := by decide +kernel
theorem dX10_reach_41 : decode cX10_reach 41 = .ok (.invokestatic 126, 3) := by decide +kernel
theorem dX10_reach_44 : decode cX10_reach 44 = .ok (.ifCond .ne 6, 3) := by decide +kernel
theorem dX10_reach_47 : decode cX10_reach 47 = .ok (.bipush (-3), 2) := by decide +kernel
theorem dX10_reach_49 : decode cX10_reach 49 = .ok (.ireturn, 1) := by decide +kernel
theorem dX10_reach_50 : decode cX10_reach 50 = .ok (.aload_n 0, 1) := by decide +kernel
theorem dX10_reach_51 : decode cX10_reach 51 = .ok (.getfield 12, 3) := by decide +kernel
theorem dX10_reach_54 : decode cX10_reach 54 = .ok (.iload_n 1, 1) := by decide +kernel
theorem dX10_reach_55 : decode cX10_reach 55 = .ok (.iload_n 2, 1) := by decide +kernel
theorem dX10_reach_56 : decode cX10_reach 56 = .ok (.invokevirtual 240, 3) := by decide +kernel
theorem dX10_reach_59 : decode cX10_reach 59 = .ok (.ireturn, 1) := by decide +kernel
theorem dX10_see_0 : decode cX10_see 0 = .ok (.iload_n 1, 1) := by decide +kernel
theorem dX10_see_1 : decode cX10_see 1 = .ok (.iconst (-1), 1) := by decide +kernel
theorem dX10_see_2 : decode cX10_see 2 = .ok (.if_icmp .ne 16, 3) := by decide +kernel
theorem dX10_see_5 : decode cX10_see 5 = .ok (.aload_n 0, 1) := by decide +kernel
theorem dX10_see_6 : decode cX10_see 6 = .ok (.getfield 29, 3) := by decide +kernel
theorem dX10_see_9 : decode cX10_see 9 = .ok (.getfield 244, 3) := by decide +kernel
theorem dX10_see_12 : decode cX10_see 12 = .ok (.iconst 0, 1) := by decide +kernel
theorem dX10_see_13 : decode cX10_see 13 = .ok (.putfield 248, 3) := by decide +kernel
theorem dX10_see_16 : decode cX10_see 16 = .ok (.iconst 0, 1) := by decide +kernel
theorem dX10_see_17 : decode cX10_see 17 = .ok (.ireturn, 1) := by decide +kernel
theorem dX10_see_18 : decode cX10_see 18 = .ok (.iload_n 1, 1) := by decide +kernel
theorem dX10_see_19 : decode cX10_see 19 = .ok (.ifCond .lt 26, 3) := by decide +kernel
theorem dX10_see_22 : decode cX10_see 22 = .ok (.iload_n 1, 1) := by decide +kernel
theorem dX10_see_23 : decode cX10_see 23 = .ok (.aload_n 0, 1) := by decide +kernel
theorem dX10_see_24 : decode cX10_see 24 = .ok (.getfield 29, 3) := by decide +kernel
theorem dX10_see_27 : decode cX10_see 27 = .ok (.getfield 98, 3) := by decide +kernel
theorem dX10_see_30 : decode cX10_see 30 = .ok (.invokevirtual 211, 3) := by decide +kernel
theorem dX10_see_33 : decode cX10_see 33 = .ok (.if_icmp .gt 12, 3) := by decide +kernel
theorem dX10_see_36 : decode cX10_see 36 = .ok (.iload_n 2, 1) := by decide +kernel
theorem dX10_see_37 : decode cX10_see 37 = .ok (.bipush 7, 2) := by decide +kernel
theorem dX10_see_39 : decode cX10_see 39 = .ok (.invokestatic 91, 3) := by decide +kernel
theorem dX10_see_42 : decode cX10_see 42 = .ok (.ifCond .ne 6, 3) := by decide +kernel
theorem dX10_see_45 : decode cX10_see 45 = .ok (.bipush (-2), 2) := by decide +kernel
theorem dX10_see_47 : decode cX10_see 47 = .ok (.ireturn, 1) := by decide +kernel
theorem dX10_see_48 : decode cX10_see 48 = .ok (.aload_n 0, 1) := by decide +kernel
theorem dX10_see_49 : decode cX10_see 49 = .ok (.getfield 29, 3) := by decide +kernel
theorem dX10_see_52 : decode cX10_see 52 = .ok (.getfield 244, 3) := by decide +kernel
theorem dX10_see_55 : decode cX10_see 55 = .ok (.iload_n 1, 1) := by decide +kernel
theorem dX10_see_56 : decode cX10_see 56 = .ok (.iload_n 2, 1) := by decide +kernel
theorem dX10_see_57 : decode cX10_see 57 = .ok (.invokevirtual 251, 3) := by decide +kernel
theorem dX10_see_60 : decode cX10_see 60 = .ok (.ifCond .eq 16, 3) := by decide +kernel
theorem dX10_see_63 : decode cX10_see 63 = .ok (.aload_n 0, 1) := by decide +kernel
theorem dX10_see_64 : decode cX10_see 64 = .ok (.getfield 29, 3) := by decide +kernel
theorem dX10_see_67 : decode cX10_see 67 = .ok (.getfield 244, 3) := by decide +kernel
theorem dX10_see_70 : decode cX10_see 70 = .ok (.getfield 248, 3) := by decide +kernel
theorem dX10_see_73 : decode cX10_see 73 = .ok (.goto 5, 3) := by decide +kernel
theorem dX10_see_76 : decode cX10_see 76 = .ok (.bipush (-4), 2) := by decide +kernel
theorem dX10_see_78 : decode cX10_see 78 = .ok (.ireturn, 1) := by decide +kernel
theorem dX10_began_0 : decode cX10_began 0 = .ok (.iload_n 1, 1) := by decide +kernel
theorem dX10_began_1 : decode cX10_began 1 = .ok (.iconst 2, 1) := by decide +kernel
theorem dX10_began_2 : decode cX10_began 2 = .ok (.invokestatic 91, 3) := by decide +kernel
theorem dX10_began_5 : decode cX10_began 5 = .ok (.ifCond .ne 5, 3) := by decide +kernel
theorem dX10_began_8 : decode cX10_began 8 = .ok (.iconst (-1), 1) := by decide +kernel
theorem dX10_began_9 : decode cX10_began 9 = .ok (.ireturn, 1) := by decide +kernel
theorem dX10_began_10 : decode cX10_began 10 = .ok (.aload_n 0, 1) := by decide +kernel
theorem dX10_began_11 : decode cX10_began 11 = .ok (.getfield 12, 3) := by decide +kernel
theorem dX10_began_14 : decode cX10_began 14 = .ok (.invokevirtual 252, 3) := by decide +kernel
theorem dX10_began_17 : decode cX10_began 17 = .ok (.iload_n 1, 1) := by decide +kernel
theorem dX10_began_18 : decode cX10_began 18 = .ok (.ifCond .ne 13, 3) := by decide +kernel
theorem dX10_began_21 : decode cX10_began 21 = .ok (.aload_n 0, 1) := by decide +kernel
theorem dX10_began_22 : decode cX10_began 22 = .ok (.getfield 12, 3) := by decide +kernel
theorem dX10_began_25 : decode cX10_began 25 = .ok (.getfield 255, 3) := by decide +kernel
theorem dX10_began_28 : decode cX10_began 28 = .ok (.goto 10, 3) := by decide +kernel
theorem dX10_began_31 : decode cX10_began 31 = .ok (.aload_n 0, 1) := by decide +kernel
theorem dX10_began_32 : decode cX10_began 32 = .ok (.getfield 12, 3) := by decide +kernel
theorem dX10_began_35 : decode cX10_began 35 = .ok (.getfield 258, 3) := by decide +kernel
theorem dX10_began_38 : decode cX10_began 38 = .ok (.ireturn, 1) := by decide +kernel
theorem dX10_stops_0 : decode cX10_stops 0 = .ok (.aload_n 0, 1) := by decide +kernel
theorem dX10_stops_1 : decode cX10_stops 1 = .ok (.getfield 29, 3) := by decide +kernel
theorem dX10_stops_4 : decode cX10_stops 4 = .ok (.getfield 98, 3) := by decide +kernel
theorem dX10_stops_7 : decode cX10_stops 7 = .ok (.iload_n 1, 1) := by decide +kernel
theorem dX10_stops_8 : decode cX10_stops 8 = .ok (.invokevirtual 107, 3) := by decide +kernel
theorem dX10_stops_11 : decode cX10_stops 11 = .ok (.ifCond .ne 7, 3) := by decide +kernel
theorem dX10_stops_14 : decode cX10_stops 14 = .ok (.sipush (-1001), 3) := by decide +kernel
theorem dX10_stops_17 : decode cX10_stops 17 = .ok (.ireturn, 1) := by decide +kernel
theorem dX10_stops_18 : decode cX10_stops 18 = .ok (.aload_n 0, 1) := by decide +kernel
theorem dX10_stops_19 : decode cX10_stops 19 = .ok (.getfield 29, 3) := by decide +kernel
theorem dX10_stops_22 : decode cX10_stops 22 = .ok (.getfield 110, 3) := by decide +kernel
theorem dX10_stops_25 : decode cX10_stops 25 = .ok (.getfield 121, 3) := by decide +kernel
theorem dX10_stops_28 : decode cX10_stops 28 = .ok (.iload_n 1, 1) := by decide +kernel
theorem dX10_stops_29 : decode cX10_stops 29 = .ok (.invokestatic 126, 3) := by decide +kernel
theorem dX10_stops_32 : decode cX10_stops 32 = .ok (.ifCond .eq 7, 3) := by decide +kernel
theorem dX10_stops_35 : decode cX10_stops 35 = .ok (.sipush (-1002), 3) := by decide +kernel
theorem dX10_stops_38 : decode cX10_stops 38 = .ok (.ireturn, 1) := by decide +kernel
theorem dX10_stops_39 : decode cX10_stops 39 = .ok (.aload_n 0, 1) := by decide +kernel
theorem dX10_stops_40 : decode cX10_stops 40 = .ok (.getfield 12, 3) := by decide +kernel
theorem dX10_stops_43 : decode cX10_stops 43 = .ok (.getfield 196, 3) := by decide +kernel
theorem dX10_stops_46 : decode cX10_stops 46 = .ok (.astore_n 2, 1) := by decide +kernel
theorem dX10_stops_47 : decode cX10_stops 47 = .ok (.aload_n 2, 1) := by decide +kernel
theorem dX10_stops_48 : decode cX10_stops 48 = .ok (.aload_n 0, 1) := by decide +kernel
theorem dX10_stops_49 : decode cX10_stops 49 = .ok (.getfield 29, 3) := by decide +kernel
theorem dX10_stops_52 : decode cX10_stops 52 = .ok (.getfield 110, 3) := by decide +kernel
theorem dX10_stops_55 : decode cX10_stops 55 = .ok (.invokevirtual 199, 3) := by decide +kernel
theorem dX10_stops_58 : decode cX10_stops 58 = .ok (.aload_n 0, 1) := by decide +kernel
theorem dX10_stops_59 : decode cX10_stops 59 = .ok (.getfield 22, 3) := by decide +kernel
theorem dX10_stops_62 : decode cX10_stops 62 = .ok (.aload_n 2, 1) := by decide +kernel
theorem dX10_stops_63 : decode cX10_stops 63 = .ok (.iconst (-1), 1) := by decide +kernel
theorem dX10_stops_64 : decode cX10_stops 64 = .ok (.iconst 0, 1) := by decide +kernel
theorem dX10_stops_65 : decode cX10_stops 65 = .ok (.iconst (-1), 1) := by decide +kernel
theorem dX10_stops_66 : decode cX10_stops 66 = .ok (.invokevirtual 202, 3) := by decide +kernel
theorem dX10_stops_69 : decode cX10_stops 69 = .ok (.pop, 1) := by decide +kernel
theorem dX10_stops_70 : decode cX10_stops 70 = .ok (.aload_n 2, 1) := by decide +kernel
theorem dX10_stops_71 : decode cX10_stops 71 = .ok (.getfield 121, 3) := by decide +kernel
theorem dX10_stops_74 : decode cX10_stops 74 = .ok (.iconst 1, 1) := by decide +kernel
theorem dX10_stops_75 : decode cX10_stops 75 = .ok (.iload_n 1, 1) := by decide +kernel
theorem dX10_stops_76 : decode cX10_stops 76 = .ok (.ishl, 1) := by decide +kernel
theorem dX10_stops_77 : decode cX10_stops 77 = .ok (.iconst (-1), 1) := by decide +kernel
theorem dX10_stops_78 : decode cX10_stops 78 = .ok (.ixor, 1) := by decide +kernel
theorem dX10_stops_79 : decode cX10_stops 79 = .ok (.iand, 1) := by decide +kernel
theorem dX10_stops_80 : decode cX10_stops 80 = .ok (.invokestatic 205, 3) := by decide +kernel
theorem dX10_stops_83 : decode cX10_stops 83 = .ok (.istore_n 3, 1) := by decide +kernel
theorem dX10_stops_84 : decode cX10_stops 84 = .ok (.aload_n 2, 1) := by decide +kernel
theorem dX10_stops_85 : decode cX10_stops 85 = .ok (.aload_n 0, 1) := by decide +kernel
theorem dX10_stops_86 : decode cX10_stops 86 = .ok (.getfield 29, 3) := by decide +kernel
theorem dX10_stops_89 : decode cX10_stops 89 = .ok (.getfield 110, 3) := by decide +kernel
theorem dX10_stops_92 : decode cX10_stops 92 = .ok (.invokevirtual 199, 3) := by decide +kernel
theorem dX10_stops_95 : decode cX10_stops 95 = .ok (.aload_n 0, 1) := by decide +kernel
theorem dX10_stops_96 : decode cX10_stops 96 = .ok (.getfield 22, 3) := by decide +kernel
theorem dX10_stops_99 : decode cX10_stops 99 = .ok (.aload_n 2, 1) := by decide +kernel
theorem dX10_stops_100 : decode cX10_stops 100 = .ok (.iconst (-1), 1) := by decide +kernel
theorem dX10_stops_101 : decode cX10_stops 101 = .ok (.iconst 0, 1) := by decide +kernel
theorem dX10_stops_102 : decode cX10_stops 102 = .ok (.iload_n 1, 1) := by decide +kernel
theorem dX10_stops_103 : decode cX10_stops 103 = .ok (.invokevirtual 202, 3) := by decide +kernel
theorem dX10_stops_106 : decode cX10_stops 106 = .ok (.pop, 1) := by decide +kernel
theorem dX10_stops_107 : decode cX10_stops 107 = .ok (.iload_n 3, 1) := by decide +kernel
theorem dX10_stops_108 : decode cX10_stops 108 = .ok (.aload_n 2, 1) := by decide +kernel
theorem dX10_stops_109 : decode cX10_stops 109 = .ok (.getfield 121, 3) := by decide +kernel
theorem dX10_stops_112 : decode cX10_stops 112 = .ok (.invokestatic 205, 3) := by decide +kernel
theorem dX10_stops_115 : decode cX10_stops 115 = .ok (.isub, 1) := by decide +kernel
theorem dX10_stops_116 : decode cX10_stops 116 = .ok (.ireturn, 1) := by decide +kernel
theorem dX10_odds_0 : decode cX10_odds 0 = .ok (.aload_n 0, 1) := by decide +kernel
theorem dX10_odds_1 : decode cX10_odds 1 = .ok (.getfield 29, 3) := by decide +kernel
theorem dX10_odds_4 : decode cX10_odds 4 = .ok (.getfield 98, 3) := by decide +kernel
theorem dX10_odds_7 : decode cX10_odds 7 = .ok (.iload_n 1, 1) := by decide +kernel
theorem dX10_odds_8 : decode cX10_odds 8 = .ok (.invokevirtual 107, 3) := by decide +kernel
theorem dX10_odds_11 : decode cX10_odds 11 = .ok (.ifCond .eq 32, 3) := by decide +kernel
theorem dX10_odds_14 : decode cX10_odds 14 = .ok (.iload_n 2, 1) := by decide +kernel
theorem dX10_odds_15 : decode cX10_odds 15 = .ok (.invokestatic 95, 3) := by decide +kernel
theorem dX10_odds_18 : decode cX10_odds 18 = .ok (.ifCond .eq 25, 3) := by decide +kernel
theorem dX10_odds_21 : decode cX10_odds 21 = .ok (.iload_n 3, 1) := by decide +kernel
theorem dX10_odds_22 : decode cX10_odds 22 = .ok (.iconst 2, 1) := by decide +kernel
theorem dX10_odds_23 : decode cX10_odds 23 = .ok (.invokestatic 91, 3) := by decide +kernel
theorem dX10_odds_26 : decode cX10_odds 26 = .ok (.ifCond .eq 17, 3) := by decide +kernel
theorem dX10_odds_29 : decode cX10_odds 29 = .ok (.aload_n 0, 1) := by decide +kernel
theorem dX10_odds_30 : decode cX10_odds 30 = .ok (.getfield 29, 3) := by decide +kernel
theorem dX10_odds_33 : decode cX10_odds 33 = .ok (.getfield 98, 3) := by decide +kernel
theorem dX10_odds_36 : decode cX10_odds 36 = .ok (.getfield 106, 3) := by decide +kernel
theorem dX10_odds_39 : decode cX10_odds 39 = .ok (.iconst 2, 1) := by decide +kernel
theorem dX10_odds_40 : decode cX10_odds 40 = .ok (.if_icmp .ge 7, 3) := by decide +kernel
theorem dX10_odds_43 : decode cX10_odds 43 = .ok (.ldc2_w 189, 3) := by decide +kernel
theorem dX10_odds_46 : decode cX10_odds 46 = .ok (.lreturn, 1) := by decide +kernel
theorem dX10_odds_47 : decode cX10_odds 47 = .ok (.aload_n 0, 1) := by decide +kernel
theorem dX10_odds_48 : decode cX10_odds 48 = .ok (.getfield 12, 3) := by decide +kernel
theorem dX10_odds_51 : decode cX10_odds 51 = .ok (.iload_n 1, 1) := by decide +kernel
theorem dX10_odds_52 : decode cX10_odds 52 = .ok (.iload_n 2, 1) := by decide +kernel
theorem dX10_odds_53 : decode cX10_odds 53 = .ok (.invokevirtual 261, 3) := by decide +kernel
theorem dX10_odds_56 : decode cX10_odds 56 = .ok (.i2l, 1) := by decide +kernel
theorem dX10_odds_57 : decode cX10_odds 57 = .ok (.aload_n 0, 1) := by decide +kernel
theorem dX10_odds_58 : decode cX10_odds 58 = .ok (.getfield 29, 3) := by decide +kernel
theorem dX10_odds_61 : decode cX10_odds 61 = .ok (.getfield 98, 3) := by decide +kernel
theorem dX10_odds_64 : decode cX10_odds 64 = .ok (.getfield 106, 3) := by decide +kernel
theorem dX10_odds_67 : decode cX10_odds 67 = .ok (.iconst 1, 1) := by decide +kernel
theorem dX10_odds_68 : decode cX10_odds 68 = .ok (.isub, 1) := by decide +kernel
theorem dX10_odds_69 : decode cX10_odds 69 = .ok (.i2l, 1) := by decide +kernel
theorem dX10_odds_70 : decode cX10_odds 70 = .ok (.iload_n 3, 1) := by decide +kernel
theorem dX10_odds_71 : decode cX10_odds 71 = .ok (.invokestatic 264, 3) := by decide +kernel
theorem dX10_odds_74 : decode cX10_odds 74 = .ok (.lreturn, 1) := by decide +kernel
theorem dX10_mean_0 : decode cX10_mean 0 = .ok (.iload_n 1, 1) := by decide +kernel
theorem dX10_mean_1 : decode cX10_mean 1 = .ok (.invokestatic 95, 3) := by decide +kernel
theorem dX10_mean_4 : decode cX10_mean 4 = .ok (.ifCond .eq 25, 3) := by decide +kernel
theorem dX10_mean_7 : decode cX10_mean 7 = .ok (.iload_n 2, 1) := by decide +kernel
theorem dX10_mean_8 : decode cX10_mean 8 = .ok (.iconst 2, 1) := by decide +kernel
theorem dX10_mean_9 : decode cX10_mean 9 = .ok (.invokestatic 91, 3) := by decide +kernel
theorem dX10_mean_12 : decode cX10_mean 12 = .ok (.ifCond .eq 17, 3) := by decide +kernel
theorem dX10_mean_15 : decode cX10_mean 15 = .ok (.aload_n 0, 1) := by decide +kernel
theorem dX10_mean_16 : decode cX10_mean 16 = .ok (.getfield 29, 3) := by decide +kernel
theorem dX10_mean_19 : decode cX10_mean 19 = .ok (.getfield 98, 3) := by decide +kernel
theorem dX10_mean_22 : decode cX10_mean 22 = .ok (.getfield 106, 3) := by decide +kernel
theorem dX10_mean_25 : decode cX10_mean 25 = .ok (.iconst 1, 1) := by decide +kernel
theorem dX10_mean_26 : decode cX10_mean 26 = .ok (.if_icmp .ge 7, 3) := by decide +kernel
theorem dX10_mean_29 : decode cX10_mean 29 = .ok (.ldc2_w 189, 3) := by decide +kernel
theorem dX10_mean_32 : decode cX10_mean 32 = .ok (.lreturn, 1) := by decide +kernel
theorem dX10_mean_33 : decode cX10_mean 33 = .ok (.aload_n 0, 1) := by decide +kernel
theorem dX10_mean_34 : decode cX10_mean 34 = .ok (.getfield 12, 3) := by decide +kernel
theorem dX10_mean_37 : decode cX10_mean 37 = .ok (.iload_n 1, 1) := by decide +kernel
theorem dX10_mean_38 : decode cX10_mean 38 = .ok (.invokevirtual 268, 3) := by decide +kernel
theorem dX10_mean_41 : decode cX10_mean 41 = .ok (.aload_n 0, 1) := by decide +kernel
theorem dX10_mean_42 : decode cX10_mean 42 = .ok (.getfield 29, 3) := by decide +kernel
theorem dX10_mean_45 : decode cX10_mean 45 = .ok (.getfield 98, 3) := by decide +kernel
theorem dX10_mean_48 : decode cX10_mean 48 = .ok (.getfield 106, 3) := by decide +kernel
theorem dX10_mean_51 : decode cX10_mean 51 = .ok (.i2l, 1) := by decide +kernel
theorem dX10_mean_52 : decode cX10_mean 52 = .ok (.iload_n 2, 1) := by decide +kernel
theorem dX10_mean_53 : decode cX10_mean 53 = .ok (.invokestatic 264, 3) := by decide +kernel
theorem dX10_mean_56 : decode cX10_mean 56 = .ok (.lreturn, 1) := by decide +kernel
theorem dX10_book_0 : decode cX10_book 0 = .ok (.iload_n 1, 1) := by decide +kernel
theorem dX10_book_1 : decode cX10_book 1 = .ok (.iconst (-1), 1) := by decide +kernel
theorem dX10_book_2 : decode cX10_book 2 = .ok (.if_icmp .ne 16, 3) := by decide +kernel
theorem dX10_book_5 : decode cX10_book 5 = .ok (.aload_n 0, 1) := by decide +kernel
theorem dX10_book_6 : decode cX10_book 6 = .ok (.getfield 29, 3) := by decide +kernel
theorem dX10_book_9 : decode cX10_book 9 = .ok (.getfield 271, 3) := by decide +kernel
theorem dX10_book_12 : decode cX10_book 12 = .ok (.iconst 0, 1) := by decide +kernel
theorem dX10_book_13 : decode cX10_book 13 = .ok (.putfield 248, 3) := by decide +kernel
theorem dX10_book_16 : decode cX10_book 16 = .ok (.iconst 0, 1) := by decide +kernel
theorem dX10_book_17 : decode cX10_book 17 = .ok (.ireturn, 1) := by decide +kernel
theorem dX10_book_18 : decode cX10_book 18 = .ok (.aload_n 0, 1) := by decide +kernel
theorem dX10_book_19 : decode cX10_book 19 = .ok (.getfield 29, 3) := by decide +kernel
theorem dX10_book_22 : decode cX10_book 22 = .ok (.getfield 98, 3) := by decide +kernel
theorem dX10_book_25 : decode cX10_book 25 = .ok (.iload_n 1, 1) := by decide +kernel
theorem dX10_book_26 : decode cX10_book 26 = .ok (.invokevirtual 107, 3) := by decide +kernel
theorem dX10_book_29 : decode cX10_book 29 = .ok (.ifCond .ne 5, 3) := by decide +kernel
theorem dX10_book_32 : decode cX10_book 32 = .ok (.iconst (-1), 1) := by decide +kernel
theorem dX10_book_33 : decode cX10_book 33 = .ok (.ireturn, 1) := by decide +kernel
theorem dX10_book_34 : decode cX10_book 34 = .ok (.iload_n 2, 1) := by decide +kernel
theorem dX10_book_35 : decode cX10_book 35 = .ok (.sipush 1000, 3) := by decide +kernel
theorem dX10_book_38 : decode cX10_book 38 = .ok (.invokestatic 91, 3) := by decide +kernel
theorem dX10_book_41 : decode cX10_book 41 = .ok (.ifCond .ne 6, 3) := by decide +kernel
theorem dX10_book_44 : decode cX10_book 44 = .ok (.bipush (-2), 2) := by decide +kernel
theorem dX10_book_46 : decode cX10_book 46 = .ok (.ireturn, 1) := by decide +kernel
theorem dX10_book_47 : decode cX10_book 47 = .ok (.aload_n 0, 1) := by decide +kernel
theorem dX10_book_48 : decode cX10_book 48 = .ok (.getfield 29, 3) := by decide +kernel
theorem dX10_book_51 : decode cX10_book 51 = .ok (.getfield 271, 3) := by decide +kernel
theorem dX10_book_54 : decode cX10_book 54 = .ok (.iload_n 1, 1) := by decide +kernel
theorem dX10_book_55 : decode cX10_book 55 = .ok (.iload_n 2, 1) := by decide +kernel
theorem dX10_book_56 : decode cX10_book 56 = .ok (.invokevirtual 251, 3) := by decide +kernel
theorem dX10_book_59 : decode cX10_book 59 = .ok (.ifCond .eq 16, 3) := by decide +kernel
theorem dX10_book_62 : decode cX10_book 62 = .ok (.aload_n 0, 1) := by decide +kernel
theorem dX10_book_63 : decode cX10_book 63 = .ok (.getfield 29, 3) := by decide +kernel
theorem dX10_book_66 : decode cX10_book 66 = .ok (.getfield 271, 3) := by decide +kernel
theorem dX10_book_69 : decode cX10_book 69 = .ok (.getfield 248, 3) := by decide +kernel
theorem dX10_book_72 : decode cX10_book 72 = .ok (.goto 5, 3) := by decide +kernel
theorem dX10_book_75 : decode cX10_book 75 = .ok (.bipush (-4), 2) := by decide +kernel
theorem dX10_book_77 : decode cX10_book 77 = .ok (.ireturn, 1) := by decide +kernel
theorem dX10_looked_0 : decode cX10_looked 0 = .ok (.aload_n 0, 1) := by decide +kernel
theorem dX10_looked_1 : decode cX10_looked 1 = .ok (.getfield 29, 3) := by decide +kernel
theorem dX10_looked_4 : decode cX10_looked 4 = .ok (.getfield 110, 3) := by decide +kernel
theorem dX10_looked_7 : decode cX10_looked 7 = .ok (.astore_n 1, 1) := by decide +kernel
theorem dX10_looked_8 : decode cX10_looked 8 = .ok (.iconst 0, 1) := by decide +kernel
theorem dX10_looked_9 : decode cX10_looked 9 = .ok (.istore_n 2, 1) := by decide +kernel
theorem dX10_looked_10 : decode cX10_looked 10 = .ok (.iload_n 2, 1) := by decide +kernel
theorem dX10_looked_11 : decode cX10_looked 11 = .ok (.aload_n 0, 1) := by decide +kernel
theorem dX10_looked_12 : decode cX10_looked 12 = .ok (.getfield 29, 3) := by decide +kernel
theorem dX10_looked_15 : decode cX10_looked 15 = .ok (.getfield 271, 3) := by decide +kernel
theorem dX10_looked_18 : decode cX10_looked 18 = .ok (.getfield 248, 3) := by decide +kernel
theorem dX10_looked_21 : decode cX10_looked 21 = .ok (.if_icmp .ge 56, 3) := by decide +kernel
theorem dX10_looked_24 : decode cX10_looked 24 = .ok (.aload_n 0, 1) := by decide +kernel
theorem dX10_looked_25 : decode cX10_looked 25 = .ok (.getfield 29, 3) := by decide +kernel
theorem dX10_looked_28 : decode cX10_looked 28 = .ok (.getfield 271, 3) := by decide +kernel
theorem dX10_looked_31 : decode cX10_looked 31 = .ok (.getfield 274, 3) := by decide +kernel
theorem dX10_looked_34 : decode cX10_looked 34 = .ok (.iload_n 2, 1) := by decide +kernel
theorem dX10_looked_35 : decode cX10_looked 35 = .ok (.iaload, 1) := by decide +kernel
theorem dX10_looked_36 : decode cX10_looked 36 = .ok (.istore_n 3, 1) := by decide +kernel
theorem dX10_looked_37 : decode cX10_looked 37 = .ok (.aload_n 1, 1) := by decide +kernel
theorem dX10_looked_38 : decode cX10_looked 38 = .ok (.getfield 121, 3) := by decide +kernel
theorem dX10_looked_41 : decode cX10_looked 41 = .ok (.iload_n 3, 1) := by decide +kernel
theorem dX10_looked_42 : decode cX10_looked 42 = .ok (.invokestatic 126, 3) := by decide +kernel
theorem dX10_looked_45 : decode cX10_looked 45 = .ok (.ifCond .eq 24, 3) := by decide +kernel
theorem dX10_looked_48 : decode cX10_looked 48 = .ok (.aload_n 1, 1) := by decide +kernel
theorem dX10_looked_49 : decode cX10_looked 49 = .ok (.getfield 149, 3) := by decide +kernel
theorem dX10_looked_52 : decode cX10_looked 52 = .ok (.iload_n 3, 1) := by decide +kernel
theorem dX10_looked_53 : decode cX10_looked 53 = .ok (.iaload, 1) := by decide +kernel
theorem dX10_looked_54 : decode cX10_looked 54 = .ok (.aload_n 0, 1) := by decide +kernel
theorem dX10_looked_55 : decode cX10_looked 55 = .ok (.getfield 29, 3) := by decide +kernel
theorem dX10_looked_58 : decode cX10_looked 58 = .ok (.getfield 271, 3) := by decide +kernel
theorem dX10_looked_61 : decode cX10_looked 61 = .ok (.getfield 277, 3) := by decide +kernel
theorem dX10_looked_64 : decode cX10_looked 64 = .ok (.iload_n 2, 1) := by decide +kernel
theorem dX10_looked_65 : decode cX10_looked 65 = .ok (.iaload, 1) := by decide +kernel
theorem dX10_looked_66 : decode cX10_looked 66 = .ok (.if_icmp .eq 5, 3) := by decide +kernel
theorem dX10_looked_69 : decode cX10_looked 69 = .ok (.iload_n 2, 1) := by decide +kernel
theorem dX10_looked_70 : decode cX10_looked 70 = .ok (.ireturn, 1) := by decide +kernel
theorem dX10_looked_71 : decode cX10_looked 71 = .ok (.iinc 2 1, 3) := by decide +kernel
theorem dX10_looked_74 : decode cX10_looked 74 = .ok (.goto (-64), 3) := by decide +kernel
theorem dX10_looked_77 : decode cX10_looked 77 = .ok (.bipush (-5), 2) := by decide +kernel
theorem dX10_looked_79 : decode cX10_looked 79 = .ok (.ireturn, 1) := by decide +kernel
theorem dX10_act_0 : decode cX10_act 0 = .ok (.aload_n 0, 1) := by decide +kernel
theorem dX10_act_1 : decode cX10_act 1 = .ok (.getfield 48, 3) := by decide +kernel
theorem dX10_act_4 : decode cX10_act 4 = .ok (.iconst 0, 1) := by decide +kernel
theorem dX10_act_5 : decode cX10_act 5 = .ok (.putfield 280, 3) := by decide +kernel
theorem dX10_act_8 : decode cX10_act 8 = .ok (.aload_n 0, 1) := by decide +kernel
theorem dX10_act_9 : decode cX10_act 9 = .ok (.getfield 29, 3) := by decide +kernel
theorem dX10_act_12 : decode cX10_act 12 = .ok (.getfield 98, 3) := by decide +kernel
theorem dX10_act_15 : decode cX10_act 15 = .ok (.iload_n 1, 1) := by decide +kernel
theorem dX10_act_16 : decode cX10_act 16 = .ok (.invokevirtual 107, 3) := by decide +kernel
theorem dX10_act_19 : decode cX10_act 19 = .ok (.ifCond .ne 5, 3) := by decide +kernel
theorem dX10_act_22 : decode cX10_act 22 = .ok (.iconst 0, 1) := by decide +kernel
theorem dX10_act_23 : decode cX10_act 23 = .ok (.ireturn, 1) := by decide +kernel
theorem dX10_act_24 : decode cX10_act 24 = .ok (.aload_n 0, 1) := by decide +kernel
theorem dX10_act_25 : decode cX10_act 25 = .ok (.getfield 48, 3) := by decide +kernel
theorem dX10_act_28 : decode cX10_act 28 = .ok (.aload_n 0, 1) := by decide +kernel
theorem dX10_act_29 : decode cX10_act 29 = .ok (.getfield 29, 3) := by decide +kernel
theorem dX10_act_32 : decode cX10_act 32 = .ok (.getfield 98, 3) := by decide +kernel
theorem dX10_act_35 : decode cX10_act 35 = .ok (.getfield 114, 3) := by decide +kernel
theorem dX10_act_38 : decode cX10_act 38 = .ok (.iload_n 1, 1) := by decide +kernel
theorem dX10_act_39 : decode cX10_act 39 = .ok (.iaload, 1) := by decide +kernel
theorem dX10_act_40 : decode cX10_act 40 = .ok (.iload_n 1, 1) := by decide +kernel
theorem dX10_act_41 : decode cX10_act 41 = .ok (.aload_n 0, 1) := by decide +kernel
theorem dX10_act_42 : decode cX10_act 42 = .ok (.getfield 29, 3) := by decide +kernel
theorem dX10_act_45 : decode cX10_act 45 = .ok (.getfield 98, 3) := by decide +kernel
theorem dX10_act_48 : decode cX10_act 48 = .ok (.getfield 118, 3) := by decide +kernel
theorem dX10_act_51 : decode cX10_act 51 = .ok (.iload_n 1, 1) := by decide +kernel
theorem dX10_act_52 : decode cX10_act 52 = .ok (.iaload, 1) := by decide +kernel
theorem dX10_act_53 : decode cX10_act 53 = .ok (.invokevirtual 283, 3) := by decide +kernel
theorem dX10_act_56 : decode cX10_act 56 = .ok (.iload_n 2, 1) := by decide +kernel
theorem dX10_act_57 : decode cX10_act 57 = .ok (.tableswitch 54 0 2 #[27, 36, 45], 27) := by decide +kernel
theorem dX10_act_84 : decode cX10_act 84 = .ok (.aload_n 0, 1) := by decide +kernel
theorem dX10_act_85 : decode cX10_act 85 = .ok (.getfield 48, 3) := by decide +kernel
theorem dX10_act_88 : decode cX10_act 88 = .ok (.iload_n 3, 1) := by decide +kernel
theorem dX10_act_89 : decode cX10_act 89 = .ok (.invokevirtual 286, 3) := by decide +kernel
theorem dX10_act_92 : decode cX10_act 92 = .ok (.ireturn, 1) := by decide +kernel
theorem dX10_act_93 : decode cX10_act 93 = .ok (.aload_n 0, 1) := by decide +kernel
theorem dX10_act_94 : decode cX10_act 94 = .ok (.getfield 48, 3) := by decide +kernel
theorem dX10_act_97 : decode cX10_act 97 = .ok (.iload_n 3, 1) := by decide +kernel
theorem dX10_act_98 : decode cX10_act 98 = .ok (.invokevirtual 289, 3) := by decide +kernel
theorem dX10_act_101 : decode cX10_act 101 = .ok (.ireturn, 1) := by decide +kernel
theorem dX10_act_102 : decode cX10_act 102 = .ok (.aload_n 0, 1) := by decide +kernel
theorem dX10_act_103 : decode cX10_act 103 = .ok (.getfield 48, 3) := by decide +kernel
theorem dX10_act_106 : decode cX10_act 106 = .ok (.iload_n 3, 1) := by decide +kernel
theorem dX10_act_107 : decode cX10_act 107 = .ok (.invokevirtual 292, 3) := by decide +kernel
theorem dX10_act_110 : decode cX10_act 110 = .ok (.ireturn, 1) := by decide +kernel
theorem dX10_act_111 : decode cX10_act 111 = .ok (.iconst 0, 1) := by decide +kernel
theorem dX10_act_112 : decode cX10_act 112 = .ok (.ireturn, 1) := by decide +kernel
theorem dX10_trace_0 : decode cX10_trace 0 = .ok (.iload_n 1, 1) := by decide +kernel
theorem dX10_trace_1 : decode cX10_trace 1 = .ok (.aload_n 0, 1) := by decide +kernel
theorem dX10_trace_2 : decode cX10_trace 2 = .ok (.getfield 48, 3) := by decide +kernel
theorem dX10_trace_5 : decode cX10_trace 5 = .ok (.getfield 280, 3) := by decide +kernel
theorem dX10_trace_8 : decode cX10_trace 8 = .ok (.bipush 20, 2) := by decide +kernel
theorem dX10_trace_10 : decode cX10_trace 10 = .ok (.invokestatic 295, 3) := by decide +kernel
theorem dX10_trace_13 : decode cX10_trace 13 = .ok (.invokestatic 91, 3) := by decide +kernel
theorem dX10_trace_16 : decode cX10_trace 16 = .ok (.ifCond .eq 15, 3) := by decide +kernel
theorem dX10_trace_19 : decode cX10_trace 19 = .ok (.aload_n 0, 1) := by decide +kernel
theorem dX10_trace_20 : decode cX10_trace 20 = .ok (.getfield 48, 3) := by decide +kernel
theorem dX10_trace_23 : decode cX10_trace 23 = .ok (.getfield 300, 3) := by decide +kernel
theorem dX10_trace_26 : decode cX10_trace 26 = .ok (.iload_n 1, 1) := by decide +kernel
theorem dX10_trace_27 : decode cX10_trace 27 = .ok (.iaload, 1) := by decide +kernel
theorem dX10_trace_28 : decode cX10_trace 28 = .ok (.goto 4, 3) := by decide +kernel
theorem dX10_trace_31 : decode cX10_trace 31 = .ok (.iconst (-1), 1) := by decide +kernel
theorem dX10_trace_32 : decode cX10_trace 32 = .ok (.ireturn, 1) := by decide +kernel
theorem dX10_as_0 : decode cX10_as 0 = .ok (.aload_n 0, 1) := by decide +kernel
theorem dX10_as_1 : decode cX10_as 1 = .ok (.getfield 29, 3) := by decide +kernel
theorem dX10_as_4 : decode cX10_as 4 = .ok (.getfield 98, 3) := by decide +kernel
theorem dX10_as_7 : decode cX10_as 7 = .ok (.iload_n 1, 1) := by decide +kernel
theorem dX10_as_8 : decode cX10_as 8 = .ok (.invokevirtual 107, 3) := by decide +kernel
theorem dX10_as_11 : decode cX10_as 11 = .ok (.ifCond .eq 12, 3) := by decide +kernel
theorem dX10_as_14 : decode cX10_as 14 = .ok (.iload_n 2, 1) := by decide +kernel
theorem dX10_as_15 : decode cX10_as 15 = .ok (.bipush 7, 2) := by decide +kernel
theorem dX10_as_17 : decode cX10_as 17 = .ok (.invokestatic 91, 3) := by decide +kernel
theorem dX10_as_20 : decode cX10_as 20 = .ok (.ifCond .ne 5, 3) := by decide +kernel
theorem dX10_as_23 : decode cX10_as 23 = .ok (.iconst (-1), 1) := by decide +kernel
theorem dX10_as_24 : decode cX10_as 24 = .ok (.ireturn, 1) := by decide +kernel
theorem dX10_as_25 : decode cX10_as 25 = .ok (.aload_n 0, 1) := by decide +kernel
theorem dX10_as_26 : decode cX10_as 26 = .ok (.getfield 29, 3) := by decide +kernel
theorem dX10_as_29 : decode cX10_as 29 = .ok (.getfield 98, 3) := by decide +kernel
theorem dX10_as_32 : decode cX10_as 32 = .ok (.getfield 114, 3) := by decide +kernel
theorem dX10_as_35 : decode cX10_as 35 = .ok (.iload_n 1, 1) := by decide +kernel
theorem dX10_as_36 : decode cX10_as 36 = .ok (.iaload, 1) := by decide +kernel
theorem dX10_as_37 : decode cX10_as 37 = .ok (.iload_n 2, 1) := by decide +kernel
theorem dX10_as_38 : decode cX10_as 38 = .ok (.invokestatic 303, 3) := by decide +kernel
theorem dX10_as_41 : decode cX10_as 41 = .ok (.ifCond .eq 18, 3) := by decide +kernel
theorem dX10_as_44 : decode cX10_as 44 = .ok (.aload_n 0, 1) := by decide +kernel
theorem dX10_as_45 : decode cX10_as 45 = .ok (.getfield 29, 3) := by decide +kernel
theorem dX10_as_48 : decode cX10_as 48 = .ok (.getfield 98, 3) := by decide +kernel
theorem dX10_as_51 : decode cX10_as 51 = .ok (.getfield 118, 3) := by decide +kernel
theorem dX10_as_54 : decode cX10_as 54 = .ok (.iload_n 1, 1) := by decide +kernel
theorem dX10_as_55 : decode cX10_as 55 = .ok (.iaload, 1) := by decide +kernel
theorem dX10_as_56 : decode cX10_as 56 = .ok (.goto 5, 3) := by decide +kernel
theorem dX10_as_59 : decode cX10_as 59 = .ok (.bipush (-6), 2) := by decide +kernel
theorem dX10_as_61 : decode cX10_as 61 = .ok (.ireturn, 1) := by decide +kernel
theorem dX10_image_0 : decode cX10_image 0 = .ok (.aload_n 0, 1) := by decide +kernel
theorem dX10_image_1 : decode cX10_image 1 = .ok (.getfield 35, 3) := by decide +kernel
theorem dX10_image_4 : decode cX10_image 4 = .ok (.aload_n 0, 1) := by decide +kernel
theorem dX10_image_5 : decode cX10_image 5 = .ok (.getfield 29, 3) := by decide +kernel
theorem dX10_image_8 : decode cX10_image 8 = .ok (.invokevirtual 306, 3) := by decide +kernel
theorem dX10_image_11 : decode cX10_image 11 = .ok (.aload_n 0, 1) := by decide +kernel
theorem dX10_image_12 : decode cX10_image 12 = .ok (.iconst 1, 1) := by decide +kernel
theorem dX10_image_13 : decode cX10_image 13 = .ok (.putfield 52, 3) := by decide +kernel
theorem dX10_image_16 : decode cX10_image 16 = .ok (.aload_n 0, 1) := by decide +kernel
theorem dX10_image_17 : decode cX10_image 17 = .ok (.getfield 29, 3) := by decide +kernel
theorem dX10_image_20 : decode cX10_image 20 = .ok (.getfield 98, 3) := by decide +kernel
theorem dX10_image_23 : decode cX10_image 23 = .ok (.getfield 106, 3) := by decide +kernel
theorem dX10_image_26 : decode cX10_image 26 = .ok (.ireturn, 1) := by decide +kernel
theorem dX10_undo_0 : decode cX10_undo 0 = .ok (.aload_n 0, 1) := by decide +kernel
theorem dX10_undo_1 : decode cX10_undo 1 = .ok (.getfield 52, 3) := by decide +kernel
theorem dX10_undo_4 : decode cX10_undo 4 = .ok (.ifCond .ne 6, 3) := by decide +kernel
theorem dX10_undo_7 : decode cX10_undo 7 = .ok (.bipush (-3), 2) := by decide +kernel
theorem dX10_undo_9 : decode cX10_undo 9 = .ok (.ireturn, 1) := by decide +kernel
theorem dX10_undo_10 : decode cX10_undo 10 = .ok (.aload_n 0, 1) := by decide +kernel
theorem dX10_undo_11 : decode cX10_undo 11 = .ok (.getfield 29, 3) := by decide +kernel
theorem dX10_undo_14 : decode cX10_undo 14 = .ok (.aload_n 0, 1) := by decide +kernel
theorem dX10_undo_15 : decode cX10_undo 15 = .ok (.getfield 35, 3) := by decide +kernel
theorem dX10_undo_18 : decode cX10_undo 18 = .ok (.invokevirtual 306, 3) := by decide +kernel
theorem dX10_undo_21 : decode cX10_undo 21 = .ok (.aload_n 0, 1) := by decide +kernel
theorem dX10_undo_22 : decode cX10_undo 22 = .ok (.getfield 29, 3) := by decide +kernel
theorem dX10_undo_25 : decode cX10_undo 25 = .ok (.getfield 98, 3) := by decide +kernel
theorem dX10_undo_28 : decode cX10_undo 28 = .ok (.getfield 106, 3) := by decide +kernel
theorem dX10_undo_31 : decode cX10_undo 31 = .ok (.ireturn, 1) := by decide +kernel
theorem dX10_count_0 : decode cX10_count 0 = .ok (.iload_n 1, 1) := by decide +kernel
theorem dX10_count_1 : decode cX10_count 1 = .ok (.tableswitch 99 0 5 #[39, 50, 58, 69, 80, 91], 39) := by decide +kernel
theorem dX10_count_40 : decode cX10_count 40 = .ok (.aload_n 0, 1) := by decide +kernel
theorem dX10_count_41 : decode cX10_count 41 = .ok (.getfield 29, 3) := by decide +kernel
theorem dX10_count_44 : decode cX10_count 44 = .ok (.getfield 98, 3) := by decide +kernel
theorem dX10_count_47 : decode cX10_count 47 = .ok (.getfield 106, 3) := by decide +kernel
theorem dX10_count_50 : decode cX10_count 50 = .ok (.ireturn, 1) := by decide +kernel
theorem dX10_count_51 : decode cX10_count 51 = .ok (.aload_n 0, 1) := by decide +kernel
theorem dX10_count_52 : decode cX10_count 52 = .ok (.getfield 29, 3) := by decide +kernel
theorem dX10_count_55 : decode cX10_count 55 = .ok (.getfield 70, 3) := by decide +kernel
theorem dX10_count_58 : decode cX10_count 58 = .ok (.ireturn, 1) := by decide +kernel
theorem dX10_count_59 : decode cX10_count 59 = .ok (.aload_n 0, 1) := by decide +kernel
theorem dX10_count_60 : decode cX10_count 60 = .ok (.getfield 29, 3) := by decide +kernel
theorem dX10_count_63 : decode cX10_count 63 = .ok (.getfield 244, 3) := by decide +kernel
theorem dX10_count_66 : decode cX10_count 66 = .ok (.getfield 248, 3) := by decide +kernel
theorem dX10_count_69 : decode cX10_count 69 = .ok (.ireturn, 1) := by decide +kernel
theorem dX10_count_70 : decode cX10_count 70 = .ok (.aload_n 0, 1) := by decide +kernel
theorem dX10_count_71 : decode cX10_count 71 = .ok (.getfield 29, 3) := by decide +kernel
theorem dX10_count_74 : decode cX10_count 74 = .ok (.getfield 271, 3) := by decide +kernel
theorem dX10_count_77 : decode cX10_count 77 = .ok (.getfield 248, 3) := by decide +kernel
theorem dX10_count_80 : decode cX10_count 80 = .ok (.ireturn, 1) := by decide +kernel
theorem dX10_count_81 : decode cX10_count 81 = .ok (.aload_n 0, 1) := by decide +kernel
theorem dX10_count_82 : decode cX10_count 82 = .ok (.getfield 29, 3) := by decide +kernel
theorem dX10_count_85 : decode cX10_count 85 = .ok (.getfield 56, 3) := by decide +kernel
theorem dX10_count_88 : decode cX10_count 88 = .ok (.getfield 66, 3) := by decide +kernel
theorem dX10_count_91 : decode cX10_count 91 = .ok (.ireturn, 1) := by decide +kernel
theorem dX10_count_92 : decode cX10_count 92 = .ok (.aload_n 0, 1) := by decide +kernel
theorem dX10_count_93 : decode cX10_count 93 = .ok (.getfield 48, 3) := by decide +kernel
theorem dX10_count_96 : decode cX10_count 96 = .ok (.getfield 280, 3) := by decide +kernel
theorem dX10_count_99 : decode cX10_count 99 = .ok (.ireturn, 1) := by decide +kernel
theorem dX10_count_100 : decode cX10_count 100 = .ok (.iconst (-1), 1) := by decide +kernel
theorem dX10_count_101 : decode cX10_count 101 = .ok (.ireturn, 1) := by decide +kernel
theorem dX10_isIn_0 : decode cX10_isIn 0 = .ok (.iload_n 0, 1) := by decide +kernel
theorem dX10_isIn_1 : decode cX10_isIn 1 = .ok (.ifCond .lt 12, 3) := by decide +kernel
theorem dX10_isIn_4 : decode cX10_isIn 4 = .ok (.iload_n 0, 1) := by decide +kernel
theorem dX10_isIn_5 : decode cX10_isIn 5 = .ok (.iload_n 1, 1) := by decide +kernel
theorem dX10_isIn_6 : decode cX10_isIn 6 = .ok (.if_icmp .ge 7, 3) := by decide +kernel
theorem dX10_isIn_9 : decode cX10_isIn 9 = .ok (.iconst 1, 1) := by decide +kernel
theorem dX10_isIn_10 : decode cX10_isIn 10 = .ok (.goto 4, 3) := by decide +kernel
theorem dX10_isIn_13 : decode cX10_isIn 13 = .ok (.iconst 0, 1) := by decide +kernel
theorem dX10_isIn_14 : decode cX10_isIn 14 = .ok (.ireturn, 1) := by decide +kernel
theorem dX10_isNumber_0 : decode cX10_isNumber 0 = .ok (.iload_n 0, 1) := by decide +kernel
theorem dX10_isNumber_1 : decode cX10_isNumber 1 = .ok (.ifCond .lt 13, 3) := by decide +kernel
theorem dX10_isNumber_4 : decode cX10_isNumber 4 = .ok (.iload_n 0, 1) := by decide +kernel
theorem dX10_isNumber_5 : decode cX10_isNumber 5 = .ok (.bipush 9, 2) := by decide +kernel
theorem dX10_isNumber_7 : decode cX10_isNumber 7 = .ok (.if_icmp .gt 7, 3) := by decide +kernel
theorem dX10_isNumber_10 : decode cX10_isNumber 10 = .ok (.iconst 1, 1) := by decide +kernel
theorem dX10_isNumber_11 : decode cX10_isNumber 11 = .ok (.goto 4, 3) := by decide +kernel
theorem dX10_isNumber_14 : decode cX10_isNumber 14 = .ok (.iconst 0, 1) := by decide +kernel
theorem dX10_isNumber_15 : decode cX10_isNumber 15 = .ok (.ireturn, 1) := by decide +kernel
theorem dX10_hasBit_0 : decode cX10_hasBit 0 = .ok (.iload_n 0, 1) := by decide +kernel
theorem dX10_hasBit_1 : decode cX10_hasBit 1 = .ok (.iload_n 1, 1) := by decide +kernel
theorem dX10_hasBit_2 : decode cX10_hasBit 2 = .ok (.ishr, 1) := by decide +kernel
theorem dX10_hasBit_3 : decode cX10_hasBit 3 = .ok (.iconst 1, 1) := by decide +kernel
theorem dX10_hasBit_4 : decode cX10_hasBit 4 = .ok (.iand, 1) := by decide +kernel
theorem dX10_hasBit_5 : decode cX10_hasBit 5 = .ok (.iconst 1, 1) := by decide +kernel
theorem dX10_hasBit_6 : decode cX10_hasBit 6 = .ok (.if_icmp .ne 7, 3) := by decide +kernel
theorem dX10_hasBit_9 : decode cX10_hasBit 9 = .ok (.iconst 1, 1) := by decide +kernel
theorem dX10_hasBit_10 : decode cX10_hasBit 10 = .ok (.goto 4, 3) := by decide +kernel
theorem dX10_hasBit_13 : decode cX10_hasBit 13 = .ok (.iconst 0, 1) := by decide +kernel
theorem dX10_hasBit_14 : decode cX10_hasBit 14 = .ok (.ireturn, 1) := by decide +kernel
theorem dX10_isUnder_0 : decode cX10_isUnder 0 = .ok (.iload_n 0, 1) := by decide +kernel
theorem dX10_isUnder_1 : decode cX10_isUnder 1 = .ok (.istore_n 2, 1) := by decide +kernel
theorem dX10_isUnder_2 : decode cX10_isUnder 2 = .ok (.iconst 0, 1) := by decide +kernel
theorem dX10_isUnder_3 : decode cX10_isUnder 3 = .ok (.istore_n 3, 1) := by decide +kernel
theorem dX10_isUnder_4 : decode cX10_isUnder 4 = .ok (.iload_n 3, 1) := by decide +kernel
theorem dX10_isUnder_5 : decode cX10_isUnder 5 = .ok (.bipush 7, 2) := by decide +kernel
theorem dX10_isUnder_7 : decode cX10_isUnder 7 = .ok (.if_icmp .ge 31, 3) := by decide +kernel
theorem dX10_isUnder_10 : decode cX10_isUnder 10 = .ok (.iload_n 2, 1) := by decide +kernel
theorem dX10_isUnder_11 : decode cX10_isUnder 11 = .ok (.bipush 7, 2) := by decide +kernel
theorem dX10_isUnder_13 : decode cX10_isUnder 13 = .ok (.invokestatic 91, 3) := by decide +kernel
theorem dX10_isUnder_16 : decode cX10_isUnder 16 = .ok (.ifCond .eq 22, 3) := by decide +kernel
theorem dX10_isUnder_19 : decode cX10_isUnder 19 = .ok (.iload_n 2, 1) := by decide +kernel
theorem dX10_isUnder_20 : decode cX10_isUnder 20 = .ok (.iload_n 1, 1) := by decide +kernel
theorem dX10_isUnder_21 : decode cX10_isUnder 21 = .ok (.if_icmp .ne 5, 3) := by decide +kernel
theorem dX10_isUnder_24 : decode cX10_isUnder 24 = .ok (.iconst 1, 1) := by decide +kernel
theorem dX10_isUnder_25 : decode cX10_isUnder 25 = .ok (.ireturn, 1) := by decide +kernel
theorem dX10_isUnder_26 : decode cX10_isUnder 26 = .ok (.getstatic 309, 3) := by decide +kernel
theorem dX10_isUnder_29 : decode cX10_isUnder 29 = .ok (.iload_n 2, 1) := by decide +kernel
theorem dX10_isUnder_30 : decode cX10_isUnder 30 = .ok (.iaload, 1) := by decide +kernel
theorem dX10_isUnder_31 : decode cX10_isUnder 31 = .ok (.istore_n 2, 1) := by decide +kernel
theorem dX10_isUnder_32 : decode cX10_isUnder 32 = .ok (.iinc 3 1, 3) := by decide +kernel
theorem dX10_isUnder_35 : decode cX10_isUnder 35 = .ok (.goto (-31), 3) := by decide +kernel
theorem dX10_isUnder_38 : decode cX10_isUnder 38 = .ok (.iconst 0, 1) := by decide +kernel
theorem dX10_isUnder_39 : decode cX10_isUnder 39 = .ok (.ireturn, 1) := by decide +kernel
theorem dX10_partOf_0 : decode cX10_partOf 0 = .ok (.lload_n 2, 1) := by decide +kernel
theorem dX10_partOf_1 : decode cX10_partOf 1 = .ok (.lstore 5, 2) := by decide +kernel
theorem dX10_partOf_3 : decode cX10_partOf 3 = .ok (.lload_n 0, 1) := by decide +kernel
theorem dX10_partOf_4 : decode cX10_partOf 4 = .ok (.lstore 7, 2) := by decide +kernel
theorem dX10_partOf_6 : decode cX10_partOf 6 = .ok (.iconst 0, 1) := by decide +kernel
theorem dX10_partOf_7 : decode cX10_partOf 7 = .ok (.istore 9, 2) := by decide +kernel
theorem dX10_partOf_9 : decode cX10_partOf 9 = .ok (.iload 9, 2) := by decide +kernel
theorem dX10_partOf_11 : decode cX10_partOf 11 = .ok (.sipush 200, 3) := by decide +kernel
theorem dX10_partOf_14 : decode cX10_partOf 14 = .ok (.if_icmp .ge 31, 3) := by decide +kernel
theorem dX10_partOf_17 : decode cX10_partOf 17 = .ok (.lload 7, 2) := by decide +kernel
theorem dX10_partOf_19 : decode cX10_partOf 19 = .ok (.lconst 0, 1) := by decide +kernel
theorem dX10_partOf_20 : decode cX10_partOf 20 = .ok (.lcmp, 1) := by decide +kernel
theorem dX10_partOf_21 : decode cX10_partOf 21 = .ok (.ifCond .eq 24, 3) := by decide +kernel
theorem dX10_partOf_24 : decode cX10_partOf 24 = .ok (.lload 5, 2) := by decide +kernel
theorem dX10_partOf_26 : decode cX10_partOf 26 = .ok (.lload 7, 2) := by decide +kernel
theorem dX10_partOf_28 : decode cX10_partOf 28 = .ok (.lrem, 1) := by decide +kernel
theorem dX10_partOf_29 : decode cX10_partOf 29 = .ok (.lstore 10, 2) := by decide +kernel
theorem dX10_partOf_31 : decode cX10_partOf 31 = .ok (.lload 7, 2) := by decide +kernel
theorem dX10_partOf_33 : decode cX10_partOf 33 = .ok (.lstore 5, 2) := by decide +kernel
theorem dX10_partOf_35 : decode cX10_partOf 35 = .ok (.lload 10, 2) := by decide +kernel
theorem dX10_partOf_37 : decode cX10_partOf 37 = .ok (.lstore 7, 2) := by decide +kernel
theorem dX10_partOf_39 : decode cX10_partOf 39 = .ok (.iinc 9 1, 3) := by decide +kernel
theorem dX10_partOf_42 : decode cX10_partOf 42 = .ok (.goto (-33), 3) := by decide +kernel
theorem dX10_partOf_45 : decode cX10_partOf 45 = .ok (.lload 5, 2) := by decide +kernel
theorem dX10_partOf_47 : decode cX10_partOf 47 = .ok (.lconst 0, 1) := by decide +kernel
theorem dX10_partOf_48 : decode cX10_partOf 48 = .ok (.lcmp, 1) := by decide +kernel
theorem dX10_partOf_49 : decode cX10_partOf 49 = .ok (.ifCond .ne 7, 3) := by decide +kernel
theorem dX10_partOf_52 : decode cX10_partOf 52 = .ok (.ldc2_w 189, 3) := by decide +kernel
theorem dX10_partOf_55 : decode cX10_partOf 55 = .ok (.lreturn, 1) := by decide +kernel
theorem dX10_partOf_56 : decode cX10_partOf 56 = .ok (.iload 4, 2) := by decide +kernel
theorem dX10_partOf_58 : decode cX10_partOf 58 = .ok (.ifCond .ne 7, 3) := by decide +kernel
theorem dX10_partOf_61 : decode cX10_partOf 61 = .ok (.lload_n 0, 1) := by decide +kernel
theorem dX10_partOf_62 : decode cX10_partOf 62 = .ok (.goto 4, 3) := by decide +kernel
theorem dX10_partOf_65 : decode cX10_partOf 65 = .ok (.lload_n 2, 1) := by decide +kernel
theorem dX10_partOf_66 : decode cX10_partOf 66 = .ok (.lload 5, 2) := by decide +kernel
theorem dX10_partOf_68 : decode cX10_partOf 68 = .ok (.ldiv, 1) := by decide +kernel
theorem dX10_partOf_69 : decode cX10_partOf 69 = .ok (.lreturn, 1) := by decide +kernel
theorem dX11_init_0 : decode cX11_init 0 = .ok (.aload_n 0, 1) := by decide +kernel
theorem dX11_init_1 : decode cX11_init 1 = .ok (.invokespecial 3, 3) := by decide +kernel
theorem dX11_init_4 : decode cX11_init 4 = .ok (.aload_n 0, 1) := by decide +kernel
theorem dX11_init_5 : decode cX11_init 5 = .ok (.sipush 944, 3) := by decide +kernel
theorem dX11_init_8 : decode cX11_init 8 = .ok (.newarray .int, 2) := by decide +kernel
theorem dX11_init_10 : decode cX11_init 10 = .ok (.putfield 9, 3) := by decide +kernel
theorem dX11_init_13 : decode cX11_init 13 = .ok (.aload_n 0, 1) := by decide +kernel
theorem dX11_init_14 : decode cX11_init 14 = .ok (.sipush 944, 3) := by decide +kernel
theorem dX11_init_17 : decode cX11_init 17 = .ok (.newarray .int, 2) := by decide +kernel
theorem dX11_init_19 : decode cX11_init 19 = .ok (.putfield 15, 3) := by decide +kernel
theorem dX11_init_22 : decode cX11_init 22 = .ok (.aload_n 0, 1) := by decide +kernel
theorem dX11_init_23 : decode cX11_init 23 = .ok (.bipush 18, 2) := by decide +kernel
theorem dX11_init_25 : decode cX11_init 25 = .ok (.newarray .int, 2) := by decide +kernel
theorem dX11_init_27 : decode cX11_init 27 = .ok (.putfield 18, 3) := by decide +kernel
theorem dX11_init_30 : decode cX11_init 30 = .ok (.aload_n 0, 1) := by decide +kernel
theorem dX11_init_31 : decode cX11_init 31 = .ok (.iconst 5, 1) := by decide +kernel
theorem dX11_init_32 : decode cX11_init 32 = .ok (.newarray .int, 2) := by decide +kernel
theorem dX11_init_34 : decode cX11_init 34 = .ok (.putfield 21, 3) := by decide +kernel
theorem dX11_init_37 : decode cX11_init 37 = .ok (.aload_n 0, 1) := by decide +kernel
theorem dX11_init_38 : decode cX11_init 38 = .ok (.bipush 64, 2) := by decide +kernel
theorem dX11_init_40 : decode cX11_init 40 = .ok (.newarray .boolean, 2) := by decide +kernel
theorem dX11_init_42 : decode cX11_init 42 = .ok (.putfield 24, 3) := by decide +kernel
theorem dX11_init_45 : decode cX11_init 45 = .ok (.aload_n 0, 1) := by decide +kernel
theorem dX11_init_46 : decode cX11_init 46 = .ok (.bipush 7, 2) := by decide +kernel
theorem dX11_init_48 : decode cX11_init 48 = .ok (.newarray .int, 2) := by decide +kernel
theorem dX11_init_50 : decode cX11_init 50 = .ok (.putfield 28, 3) := by decide +kernel
theorem dX11_init_53 : decode cX11_init 53 = .ok (.aload_n 0, 1) := by decide +kernel
theorem dX11_init_54 : decode cX11_init 54 = .ok (.bipush 7, 2) := by decide +kernel
theorem dX11_init_56 : decode cX11_init 56 = .ok (.newarray .int, 2) := by decide +kernel
theorem dX11_init_58 : decode cX11_init 58 = .ok (.putfield 31, 3) := by decide +kernel
theorem dX11_init_61 : decode cX11_init 61 = .ok (.aload_n 0, 1) := by decide +kernel
theorem dX11_init_62 : decode cX11_init 62 = .ok (.iconst (-1), 1) := by decide +kernel
theorem dX11_init_63 : decode cX11_init 63 = .ok (.putfield 34, 3) := by decide +kernel
theorem dX11_init_66 : decode cX11_init 66 = .ok (.aload_n 0, 1) := by decide +kernel
theorem dX11_init_67 : decode cX11_init 67 = .ok (.iconst (-1), 1) := by decide +kernel
theorem dX11_init_68 : decode cX11_init 68 = .ok (.putfield 38, 3) := by decide +kernel
theorem dX11_init_71 : decode cX11_init 71 = .ok (.aload_n 0, 1) := by decide +kernel
theorem dX11_init_72 : decode cX11_init 72 = .ok (.bipush 20, 2) := by decide +kernel
theorem dX11_init_74 : decode cX11_init 74 = .ok (.newarray .int, 2) := by decide +kernel
theorem dX11_init_76 : decode cX11_init 76 = .ok (.putfield 41, 3) := by decide +kernel
theorem dX11_init_79 : decode cX11_init 79 = .ok (.aload_n 0, 1) := by decide +kernel
theorem dX11_init_80 : decode cX11_init 80 = .ok (.getfield 9, 3) := by decide +kernel
theorem dX11_init_83 : decode cX11_init 83 = .ok (.bipush 23, 2) := by decide +kernel
theorem dX11_init_85 : decode cX11_init 85 = .ok (.iconst (-1), 1) := by decide +kernel
theorem dX11_init_86 : decode cX11_init 86 = .ok (.iastore, 1) := by decide +kernel
theorem dX11_init_87 : decode cX11_init 87 = .ok (.return_, 1) := by decide +kernel
theorem dX11_in_0 : decode cX11_in 0 = .ok (.iload_n 0, 1) := by decide +kernel
theorem dX11_in_1 : decode cX11_in 1 = .ok (.iload_n 1, 1) := by decide +kernel
theorem dX11_in_2 : decode cX11_in 2 = .ok (.if_icmp .lt 12, 3) := by decide +kernel
theorem dX11_in_5 : decode cX11_in 5 = .ok (.iload_n 0, 1) := by decide +kernel
theorem dX11_in_6 : decode cX11_in 6 = .ok (.iload_n 2, 1) := by decide +kernel
theorem dX11_in_7 : decode cX11_in 7 = .ok (.if_icmp .gt 7, 3) := by decide +kernel
theorem dX11_in_10 : decode cX11_in 10 = .ok (.iconst 1, 1) := by decide +kernel
theorem dX11_in_11 : decode cX11_in 11 = .ok (.goto 4, 3) := by decide +kernel
theorem dX11_in_14 : decode cX11_in 14 = .ok (.iconst 0, 1) := by decide +kernel
theorem dX11_in_15 : decode cX11_in 15 = .ok (.ireturn, 1) := by decide +kernel
theorem dX11_isPerson_0 : decode cX11_isPerson 0 = .ok (.iload_n 1, 1) := by decide +kernel
theorem dX11_isPerson_1 : decode cX11_isPerson 1 = .ok (.iconst 0, 1) := by decide +kernel
theorem dX11_isPerson_2 : decode cX11_isPerson 2 = .ok (.aload_n 0, 1) := by decide +kernel
theorem dX11_isPerson_3 : decode cX11_isPerson 3 = .ok (.getfield 9, 3) := by decide +kernel
theorem dX11_isPerson_6 : decode cX11_isPerson 6 = .ok (.bipush 18, 2) := by decide +kernel
theorem dX11_isPerson_8 : decode cX11_isPerson 8 = .ok (.iaload, 1) := by decide +kernel
theorem dX11_isPerson_9 : decode cX11_isPerson 9 = .ok (.iconst 1, 1) := by decide +kernel
theorem dX11_isPerson_10 : decode cX11_isPerson 10 = .ok (.isub, 1) := by decide +kernel
theorem dX11_isPerson_11 : decode cX11_isPerson 11 = .ok (.invokestatic 47, 3) := by decide +kernel
theorem dX11_isPerson_14 : decode cX11_isPerson 14 = .ok (.ireturn, 1) := by decide +kernel
theorem dX11_keeps_0 : decode cX11_keeps 0 = .ok (.iconst 0, 1) := by decide +kernel
theorem dX11_keeps_1 : decode cX11_keeps 1 = .ok (.istore_n 1, 1) := by decide +kernel
theorem dX11_keeps_2 : decode cX11_keeps 2 = .ok (.iload_n 1, 1) := by decide +kernel
theorem dX11_keeps_3 : decode cX11_keeps 3 = .ok (.bipush 18, 2) := by decide +kernel
theorem dX11_keeps_5 : decode cX11_keeps 5 = .ok (.if_icmp .ge 21, 3) := by decide +kernel
theorem dX11_keeps_8 : decode cX11_keeps 8 = .ok (.aload_n 0, 1) := by decide +kernel
theorem dX11_keeps_9 : decode cX11_keeps 9 = .ok (.getfield 18, 3) := by decide +kernel
theorem dX11_keeps_12 : decode cX11_keeps 12 = .ok (.iload_n 1, 1) := by decide +kernel
theorem dX11_keeps_13 : decode cX11_keeps 13 = .ok (.aload_n 0, 1) := by decide +kernel
theorem dX11_keeps_14 : decode cX11_keeps 14 = .ok (.getfield 9, 3) := by decide +kernel
theorem dX11_keeps_17 : decode cX11_keeps 17 = .ok (.iload_n 1, 1) := by decide +kernel
theorem dX11_keeps_18 : decode cX11_keeps 18 = .ok (.iaload, 1) := by decide +kernel
theorem dX11_keeps_19 : decode cX11_keeps 19 = .ok (.iastore, 1) := by decide +kernel
theorem dX11_keeps_20 : decode cX11_keeps 20 = .ok (.iinc 1 1, 3) := by decide +kernel
theorem dX11_keeps_23 : decode cX11_keeps 23 = .ok (.goto (-21), 3) := by decide +kernel
theorem dX11_keeps_26 : decode cX11_keeps 26 = .ok (.return_, 1) := by decide +kernel
theorem dX11_goesBack_0 : decode cX11_goesBack 0 = .ok (.iconst 0, 1) := by decide +kernel
theorem dX11_goesBack_1 : decode cX11_goesBack 1 = .ok (.istore_n 1, 1) := by decide +kernel
theorem dX11_goesBack_2 : decode cX11_goesBack 2 = .ok (.iload_n 1, 1) := by decide +kernel
theorem dX11_goesBack_3 : decode cX11_goesBack 3 = .ok (.bipush 18, 2) := by decide +kernel
theorem dX11_goesBack_5 : decode cX11_goesBack 5 = .ok (.if_icmp .ge 21, 3) := by decide +kernel
theorem dX11_goesBack_8 : decode cX11_goesBack 8 = .ok (.aload_n 0, 1) := by decide +kernel
theorem dX11_goesBack_9 : decode cX11_goesBack 9 = .ok (.getfield 9, 3) := by decide +kernel
theorem dX11_goesBack_12 : decode cX11_goesBack 12 = .ok (.iload_n 1, 1) := by decide +kernel
theorem dX11_goesBack_13 : decode cX11_goesBack 13 = .ok (.aload_n 0, 1) := by decide +kernel
theorem dX11_goesBack_14 : decode cX11_goesBack 14 = .ok (.getfield 18, 3) := by decide +kernel
theorem dX11_goesBack_17 : decode cX11_goesBack 17 = .ok (.iload_n 1, 1) := by decide +kernel
theorem dX11_goesBack_18 : decode cX11_goesBack 18 = .ok (.iaload, 1) := by decide +kernel
theorem dX11_goesBack_19 : decode cX11_goesBack 19 = .ok (.iastore, 1) := by decide +kernel
theorem dX11_goesBack_20 : decode cX11_goesBack 20 = .ok (.iinc 1 1, 3) := by decide +kernel
theorem dX11_goesBack_23 : decode cX11_goesBack 23 = .ok (.goto (-21), 3) := by decide +kernel
theorem dX11_goesBack_26 : decode cX11_goesBack 26 = .ok (.return_, 1) := by decide +kernel
theorem dX11_count1_0 : decode cX11_count1 0 = .ok (.iconst 0, 1) := by decide +kernel
theorem dX11_count1_1 : decode cX11_count1 1 = .ok (.istore_n 1, 1) := by decide +kernel
theorem dX11_count1_2 : decode cX11_count1 2 = .ok (.iconst 0, 1) := by decide +kernel
theorem dX11_count1_3 : decode cX11_count1 3 = .ok (.istore_n 2, 1) := by decide +kernel
theorem dX11_count1_4 : decode cX11_count1 4 = .ok (.iload_n 2, 1) := by decide +kernel
theorem dX11_count1_5 : decode cX11_count1 5 = .ok (.bipush 7, 2) := by decide +kernel
theorem dX11_count1_7 : decode cX11_count1 7 = .ok (.if_icmp .ge 17, 3) := by decide +kernel
theorem dX11_count1_10 : decode cX11_count1 10 = .ok (.iload_n 1, 1) := by decide +kernel
theorem dX11_count1_11 : decode cX11_count1 11 = .ok (.iload_n 0, 1) := by decide +kernel
theorem dX11_count1_12 : decode cX11_count1 12 = .ok (.iload_n 2, 1) := by decide +kernel
theorem dX11_count1_13 : decode cX11_count1 13 = .ok (.ishr, 1) := by decide +kernel
theorem dX11_count1_14 : decode cX11_count1 14 = .ok (.iconst 1, 1) := by decide +kernel
theorem dX11_count1_15 : decode cX11_count1 15 = .ok (.iand, 1) := by decide +kernel
theorem dX11_count1_16 : decode cX11_count1 16 = .ok (.iadd, 1) := by decide +kernel
theorem dX11_count1_17 : decode cX11_count1 17 = .ok (.istore_n 1, 1) := by decide +kernel
theorem dX11_count1_18 : decode cX11_count1 18 = .ok (.iinc 2 1, 3) := by decide +kernel
theorem dX11_count1_21 : decode cX11_count1 21 = .ok (.goto (-17), 3) := by decide +kernel
theorem dX11_count1_24 : decode cX11_count1 24 = .ok (.iload_n 1, 1) := by decide +kernel
theorem dX11_count1_25 : decode cX11_count1 25 = .ok (.ireturn, 1) := by decide +kernel
theorem dX11_feed_0 : decode cX11_feed 0 = .ok (.iload_n 1, 1) := by decide +kernel
theorem dX11_feed_1 : decode cX11_feed 1 = .ok (.iconst 0, 1) := by decide +kernel
theorem dX11_feed_2 : decode cX11_feed 2 = .ok (.bipush 127, 2) := by decide +kernel
theorem dX11_feed_4 : decode cX11_feed 4 = .ok (.invokestatic 47, 3) := by decide +kernel
theorem dX11_feed_7 : decode cX11_feed 7 = .ok (.ifCond .ne 6, 3) := by decide +kernel
theorem dX11_feed_10 : decode cX11_feed 10 = .ok (.bipush (-2), 2) := by decide +kernel
theorem dX11_feed_12 : decode cX11_feed 12 = .ok (.ireturn, 1) := by decide +kernel
theorem dX11_feed_13 : decode cX11_feed 13 = .ok (.aload_n 0, 1) := by decide +kernel
theorem dX11_feed_14 : decode cX11_feed 14 = .ok (.getfield 9, 3) := by decide +kernel
theorem dX11_feed_17 : decode cX11_feed 17 = .ok (.bipush 22, 2) := by decide +kernel
theorem dX11_feed_19 : decode cX11_feed 19 = .ok (.iaload, 1) := by decide +kernel
theorem dX11_feed_20 : decode cX11_feed 20 = .ok (.bipush 100, 2) := by decide +kernel
theorem dX11_feed_22 : decode cX11_feed 22 = .ok (.if_icmp .ne 6, 3) := by decide +kernel
theorem dX11_feed_25 : decode cX11_feed 25 = .ok (.bipush (-4), 2) := by decide +kernel
theorem dX11_feed_27 : decode cX11_feed 27 = .ok (.ireturn, 1) := by decide +kernel
theorem dX11_feed_28 : decode cX11_feed 28 = .ok (.aload_n 0, 1) := by decide +kernel
theorem dX11_feed_29 : decode cX11_feed 29 = .ok (.getfield 9, 3) := by decide +kernel
theorem dX11_feed_32 : decode cX11_feed 32 = .ok (.sipush 129, 3) := by decide +kernel
theorem dX11_feed_35 : decode cX11_feed 35 = .ok (.aload_n 0, 1) := by decide +kernel
theorem dX11_feed_36 : decode cX11_feed 36 = .ok (.getfield 9, 3) := by decide +kernel
theorem dX11_feed_39 : decode cX11_feed 39 = .ok (.bipush 22, 2) := by decide +kernel
theorem dX11_feed_41 : decode cX11_feed 41 = .ok (.iaload, 1) := by decide +kernel
theorem dX11_feed_42 : decode cX11_feed 42 = .ok (.iadd, 1) := by decide +kernel
theorem dX11_feed_43 : decode cX11_feed 43 = .ok (.iload_n 1, 1) := by decide +kernel
theorem dX11_feed_44 : decode cX11_feed 44 = .ok (.iastore, 1) := by decide +kernel
theorem dX11_feed_45 : decode cX11_feed 45 = .ok (.aload_n 0, 1) := by decide +kernel
theorem dX11_feed_46 : decode cX11_feed 46 = .ok (.getfield 9, 3) := by decide +kernel
theorem dX11_feed_49 : decode cX11_feed 49 = .ok (.bipush 22, 2) := by decide +kernel
theorem dX11_feed_51 : decode cX11_feed 51 = .ok (.dup2, 1) := by decide +kernel
theorem dX11_feed_52 : decode cX11_feed 52 = .ok (.iaload, 1) := by decide +kernel
theorem dX11_feed_53 : decode cX11_feed 53 = .ok (.iconst 1, 1) := by decide +kernel
theorem dX11_feed_54 : decode cX11_feed 54 = .ok (.iadd, 1) := by decide +kernel
theorem dX11_feed_55 : decode cX11_feed 55 = .ok (.iastore, 1) := by decide +kernel
theorem dX11_feed_56 : decode cX11_feed 56 = .ok (.aload_n 0, 1) := by decide +kernel
theorem dX11_feed_57 : decode cX11_feed 57 = .ok (.getfield 9, 3) := by decide +kernel
theorem dX11_feed_60 : decode cX11_feed 60 = .ok (.bipush 22, 2) := by decide +kernel
theorem dX11_feed_62 : decode cX11_feed 62 = .ok (.iaload, 1) := by decide +kernel
theorem dX11_feed_63 : decode cX11_feed 63 = .ok (.ireturn, 1) := by decide +kernel
theorem dX11_here_0 : decode cX11_here 0 = .ok (.aload_n 0, 1) := by decide +kernel
end
section
theorem dX11_here_1 : decode cX11_here 1 = .ok (.getfield 51, 3) := by decide +kernel
theorem dX11_here_4 : decode cX11_here 4 = .ok (.aload_n 0, 1) := by decide +kernel
theorem dX11_here_5 : decode cX11_here 5 = .ok (.getfield 54, 3) := by decide +kernel
theorem dX11_here_8 : decode cX11_here 8 = .ok (.if_icmp .ge 19, 3) := by decide +kernel
theorem dX11_here_11 : decode cX11_here 11 = .ok (.aload_n 0, 1) := by decide +kernel
theorem dX11_here_12 : decode cX11_here 12 = .ok (.getfield 9, 3) := by decide +kernel
theorem dX11_here_15 : decode cX11_here 15 = .ok (.sipush 129, 3) := by decide +kernel
theorem dX11_here_18 : decode cX11_here 18 = .ok (.aload_n 0, 1) := by decide +kernel
theorem dX11_here_19 : decode cX11_here 19 = .ok (.getfield 51, 3) := by decide +kernel
theorem dX11_here_22 : decode cX11_here 22 = .ok (.iadd, 1) := by decide +kernel
theorem dX11_here_23 : decode cX11_here 23 = .ok (.iaload, 1) := by decide +kernel
theorem dX11_here_24 : decode cX11_here 24 = .ok (.goto 4, 3) := by decide +kernel
theorem dX11_here_27 : decode cX11_here 27 = .ok (.iconst (-1), 1) := by decide +kernel
theorem dX11_here_28 : decode cX11_here 28 = .ok (.ireturn, 1) := by decide +kernel
theorem dX11_must_0 : decode cX11_must 0 = .ok (.aload_n 0, 1) := by decide +kernel
theorem dX11_must_1 : decode cX11_must 1 = .ok (.aload_n 0, 1) := by decide +kernel
theorem dX11_must_2 : decode cX11_must 2 = .ok (.getfield 57, 3) := by decide +kernel
theorem dX11_must_5 : decode cX11_must 5 = .ok (.ifCond .ne 11, 3) := by decide +kernel
theorem dX11_must_8 : decode cX11_must 8 = .ok (.aload_n 0, 1) := by decide +kernel
theorem dX11_must_9 : decode cX11_must 9 = .ok (.invokevirtual 61, 3) := by decide +kernel
theorem dX11_must_12 : decode cX11_must 12 = .ok (.iload_n 1, 1) := by decide +kernel
theorem dX11_must_13 : decode cX11_must 13 = .ok (.if_icmp .eq 7, 3) := by decide +kernel
theorem dX11_must_16 : decode cX11_must 16 = .ok (.iconst 1, 1) := by decide +kernel
theorem dX11_must_17 : decode cX11_must 17 = .ok (.goto 4, 3) := by decide +kernel
theorem dX11_must_20 : decode cX11_must 20 = .ok (.iconst 0, 1) := by decide +kernel
theorem dX11_must_21 : decode cX11_must 21 = .ok (.putfield 57, 3) := by decide +kernel
theorem dX11_must_24 : decode cX11_must 24 = .ok (.aload_n 0, 1) := by decide +kernel
theorem dX11_must_25 : decode cX11_must 25 = .ok (.dup, 1) := by decide +kernel
theorem dX11_must_26 : decode cX11_must 26 = .ok (.getfield 51, 3) := by decide +kernel
theorem dX11_must_29 : decode cX11_must 29 = .ok (.aload_n 0, 1) := by decide +kernel
theorem dX11_must_30 : decode cX11_must 30 = .ok (.getfield 57, 3) := by decide +kernel
theorem dX11_must_33 : decode cX11_must 33 = .ok (.ifCond .eq 7, 3) := by decide +kernel
theorem dX11_must_36 : decode cX11_must 36 = .ok (.iconst 0, 1) := by decide +kernel
theorem dX11_must_37 : decode cX11_must 37 = .ok (.goto 4, 3) := by decide +kernel
theorem dX11_must_40 : decode cX11_must 40 = .ok (.iconst 1, 1) := by decide +kernel
theorem dX11_must_41 : decode cX11_must 41 = .ok (.iadd, 1) := by decide +kernel
theorem dX11_must_42 : decode cX11_must 42 = .ok (.putfield 51, 3) := by decide +kernel
theorem dX11_must_45 : decode cX11_must 45 = .ok (.return_, 1) := by decide +kernel
theorem dX11_spells_0 : decode cX11_spells 0 = .ok (.iconst 0, 1) := by decide +kernel
theorem dX11_spells_1 : decode cX11_spells 1 = .ok (.istore_n 2, 1) := by decide +kernel
theorem dX11_spells_2 : decode cX11_spells 2 = .ok (.iload_n 2, 1) := by decide +kernel
theorem dX11_spells_3 : decode cX11_spells 3 = .ok (.aload_n 1, 1) := by decide +kernel
theorem dX11_spells_4 : decode cX11_spells 4 = .ok (.invokevirtual 65, 3) := by decide +kernel
theorem dX11_spells_7 : decode cX11_spells 7 = .ok (.if_icmp .ge 18, 3) := by decide +kernel
theorem dX11_spells_10 : decode cX11_spells 10 = .ok (.aload_n 0, 1) := by decide +kernel
theorem dX11_spells_11 : decode cX11_spells 11 = .ok (.aload_n 1, 1) := by decide +kernel
theorem dX11_spells_12 : decode cX11_spells 12 = .ok (.iload_n 2, 1) := by decide +kernel
theorem dX11_spells_13 : decode cX11_spells 13 = .ok (.invokevirtual 70, 3) := by decide +kernel
theorem dX11_spells_16 : decode cX11_spells 16 = .ok (.invokevirtual 74, 3) := by decide +kernel
theorem dX11_spells_19 : decode cX11_spells 19 = .ok (.iinc 2 1, 3) := by decide +kernel
theorem dX11_spells_22 : decode cX11_spells 22 = .ok (.goto (-20), 3) := by decide +kernel
theorem dX11_spells_25 : decode cX11_spells 25 = .ok (.return_, 1) := by decide +kernel
theorem dX11_figures_0 : decode cX11_figures 0 = .ok (.aload_n 0, 1) := by decide +kernel
theorem dX11_figures_1 : decode cX11_figures 1 = .ok (.aload_n 0, 1) := by decide +kernel
theorem dX11_figures_2 : decode cX11_figures 2 = .ok (.getfield 57, 3) := by decide +kernel
theorem dX11_figures_5 : decode cX11_figures 5 = .ok (.ifCond .ne 17, 3) := by decide +kernel
theorem dX11_figures_8 : decode cX11_figures 8 = .ok (.aload_n 0, 1) := by decide +kernel
theorem dX11_figures_9 : decode cX11_figures 9 = .ok (.invokevirtual 61, 3) := by decide +kernel
theorem dX11_figures_12 : decode cX11_figures 12 = .ok (.bipush 48, 2) := by decide +kernel
theorem dX11_figures_14 : decode cX11_figures 14 = .ok (.bipush 57, 2) := by decide +kernel
theorem dX11_figures_16 : decode cX11_figures 16 = .ok (.invokestatic 47, 3) := by decide +kernel
theorem dX11_figures_19 : decode cX11_figures 19 = .ok (.ifCond .ne 7, 3) := by decide +kernel
theorem dX11_figures_22 : decode cX11_figures 22 = .ok (.iconst 1, 1) := by decide +kernel
theorem dX11_figures_23 : decode cX11_figures 23 = .ok (.goto 4, 3) := by decide +kernel
theorem dX11_figures_26 : decode cX11_figures 26 = .ok (.iconst 0, 1) := by decide +kernel
theorem dX11_figures_27 : decode cX11_figures 27 = .ok (.putfield 57, 3) := by decide +kernel
theorem dX11_figures_30 : decode cX11_figures 30 = .ok (.iconst 0, 1) := by decide +kernel
theorem dX11_figures_31 : decode cX11_figures 31 = .ok (.istore_n 1, 1) := by decide +kernel
theorem dX11_figures_32 : decode cX11_figures 32 = .ok (.iconst 0, 1) := by decide +kernel
theorem dX11_figures_33 : decode cX11_figures 33 = .ok (.istore_n 2, 1) := by decide +kernel
theorem dX11_figures_34 : decode cX11_figures 34 = .ok (.iload_n 2, 1) := by decide +kernel
theorem dX11_figures_35 : decode cX11_figures 35 = .ok (.iconst 2, 1) := by decide +kernel
theorem dX11_figures_36 : decode cX11_figures 36 = .ok (.if_icmp .ge 61, 3) := by decide +kernel
theorem dX11_figures_39 : decode cX11_figures 39 = .ok (.aload_n 0, 1) := by decide +kernel
theorem dX11_figures_40 : decode cX11_figures 40 = .ok (.getfield 57, 3) := by decide +kernel
theorem dX11_figures_43 : decode cX11_figures 43 = .ok (.ifCond .ne 54, 3) := by decide +kernel
theorem dX11_figures_46 : decode cX11_figures 46 = .ok (.aload_n 0, 1) := by decide +kernel
theorem dX11_figures_47 : decode cX11_figures 47 = .ok (.invokevirtual 61, 3) := by decide +kernel
theorem dX11_figures_50 : decode cX11_figures 50 = .ok (.bipush 48, 2) := by decide +kernel
theorem dX11_figures_52 : decode cX11_figures 52 = .ok (.bipush 57, 2) := by decide +kernel
theorem dX11_figures_54 : decode cX11_figures 54 = .ok (.invokestatic 47, 3) := by decide +kernel
theorem dX11_figures_57 : decode cX11_figures 57 = .ok (.ifCond .eq 40, 3) := by decide +kernel
theorem dX11_figures_60 : decode cX11_figures 60 = .ok (.iload_n 2, 1) := by decide +kernel
theorem dX11_figures_61 : decode cX11_figures 61 = .ok (.ifCond .eq 7, 3) := by decide +kernel
theorem dX11_figures_64 : decode cX11_figures 64 = .ok (.iload_n 1, 1) := by decide +kernel
theorem dX11_figures_65 : decode cX11_figures 65 = .ok (.ifCond .le 32, 3) := by decide +kernel
theorem dX11_figures_68 : decode cX11_figures 68 = .ok (.bipush 10, 2) := by decide +kernel
theorem dX11_figures_70 : decode cX11_figures 70 = .ok (.iload_n 1, 1) := by decide +kernel
theorem dX11_figures_71 : decode cX11_figures 71 = .ok (.imul, 1) := by decide +kernel
theorem dX11_figures_72 : decode cX11_figures 72 = .ok (.aload_n 0, 1) := by decide +kernel
theorem dX11_figures_73 : decode cX11_figures 73 = .ok (.invokevirtual 61, 3) := by decide +kernel
theorem dX11_figures_76 : decode cX11_figures 76 = .ok (.iadd, 1) := by decide +kernel
theorem dX11_figures_77 : decode cX11_figures 77 = .ok (.bipush 48, 2) := by decide +kernel
theorem dX11_figures_79 : decode cX11_figures 79 = .ok (.isub, 1) := by decide +kernel
theorem dX11_figures_80 : decode cX11_figures 80 = .ok (.istore_n 1, 1) := by decide +kernel
theorem dX11_figures_81 : decode cX11_figures 81 = .ok (.aload_n 0, 1) := by decide +kernel
theorem dX11_figures_82 : decode cX11_figures 82 = .ok (.dup, 1) := by decide +kernel
theorem dX11_figures_83 : decode cX11_figures 83 = .ok (.getfield 51, 3) := by decide +kernel
theorem dX11_figures_86 : decode cX11_figures 86 = .ok (.iconst 1, 1) := by decide +kernel
theorem dX11_figures_87 : decode cX11_figures 87 = .ok (.iadd, 1) := by decide +kernel
theorem dX11_figures_88 : decode cX11_figures 88 = .ok (.putfield 51, 3) := by decide +kernel
theorem dX11_figures_91 : decode cX11_figures 91 = .ok (.iinc 2 1, 3) := by decide +kernel
theorem dX11_figures_94 : decode cX11_figures 94 = .ok (.goto (-60), 3) := by decide +kernel
theorem dX11_figures_97 : decode cX11_figures 97 = .ok (.iload_n 1, 1) := by decide +kernel
theorem dX11_figures_98 : decode cX11_figures 98 = .ok (.ireturn, 1) := by decide +kernel
theorem dX11_among_0 : decode cX11_among 0 = .ok (.iconst 0, 1) := by decide +kernel
theorem dX11_among_1 : decode cX11_among 1 = .ok (.istore_n 2, 1) := by decide +kernel
theorem dX11_among_2 : decode cX11_among 2 = .ok (.iload_n 2, 1) := by decide +kernel
theorem dX11_among_3 : decode cX11_among 3 = .ok (.aload_n 1, 1) := by decide +kernel
theorem dX11_among_4 : decode cX11_among 4 = .ok (.invokevirtual 65, 3) := by decide +kernel
theorem dX11_among_7 : decode cX11_among 7 = .ok (.if_icmp .ge 33, 3) := by decide +kernel
theorem dX11_among_10 : decode cX11_among 10 = .ok (.aload_n 0, 1) := by decide +kernel
theorem dX11_among_11 : decode cX11_among 11 = .ok (.invokevirtual 61, 3) := by decide +kernel
theorem dX11_among_14 : decode cX11_among 14 = .ok (.aload_n 1, 1) := by decide +kernel
theorem dX11_among_15 : decode cX11_among 15 = .ok (.iload_n 2, 1) := by decide +kernel
theorem dX11_among_16 : decode cX11_among 16 = .ok (.invokevirtual 70, 3) := by decide +kernel
theorem dX11_among_19 : decode cX11_among 19 = .ok (.if_icmp .ne 15, 3) := by decide +kernel
theorem dX11_among_22 : decode cX11_among 22 = .ok (.aload_n 0, 1) := by decide +kernel
theorem dX11_among_23 : decode cX11_among 23 = .ok (.dup, 1) := by decide +kernel
theorem dX11_among_24 : decode cX11_among 24 = .ok (.getfield 51, 3) := by decide +kernel
theorem dX11_among_27 : decode cX11_among 27 = .ok (.iconst 1, 1) := by decide +kernel
theorem dX11_among_28 : decode cX11_among 28 = .ok (.iadd, 1) := by decide +kernel
theorem dX11_among_29 : decode cX11_among 29 = .ok (.putfield 51, 3) := by decide +kernel
theorem dX11_among_32 : decode cX11_among 32 = .ok (.iload_n 2, 1) := by decide +kernel
theorem dX11_among_33 : decode cX11_among 33 = .ok (.ireturn, 1) := by decide +kernel
theorem dX11_among_34 : decode cX11_among 34 = .ok (.iinc 2 1, 3) := by decide +kernel
theorem dX11_among_37 : decode cX11_among 37 = .ok (.goto (-35), 3) := by decide +kernel
theorem dX11_among_40 : decode cX11_among 40 = .ok (.iconst (-1), 1) := by decide +kernel
theorem dX11_among_41 : decode cX11_among 41 = .ok (.ireturn, 1) := by decide +kernel
theorem dX11_emits_0 : decode cX11_emits 0 = .ok (.aload_n 0, 1) := by decide +kernel
theorem dX11_emits_1 : decode cX11_emits 1 = .ok (.getfield 57, 3) := by decide +kernel
theorem dX11_emits_4 : decode cX11_emits 4 = .ok (.ifCond .ne 52, 3) := by decide +kernel
theorem dX11_emits_7 : decode cX11_emits 7 = .ok (.aload_n 0, 1) := by decide +kernel
theorem dX11_emits_8 : decode cX11_emits 8 = .ok (.getfield 9, 3) := by decide +kernel
theorem dX11_emits_11 : decode cX11_emits 11 = .ok (.sipush 244, 3) := by decide +kernel
theorem dX11_emits_14 : decode cX11_emits 14 = .ok (.sipush 140, 3) := by decide +kernel
theorem dX11_emits_17 : decode cX11_emits 17 = .ok (.aload_n 0, 1) := by decide +kernel
theorem dX11_emits_18 : decode cX11_emits 18 = .ok (.getfield 78, 3) := by decide +kernel
theorem dX11_emits_21 : decode cX11_emits 21 = .ok (.imul, 1) := by decide +kernel
theorem dX11_emits_22 : decode cX11_emits 22 = .ok (.iadd, 1) := by decide +kernel
theorem dX11_emits_23 : decode cX11_emits 23 = .ok (.aload_n 0, 1) := by decide +kernel
theorem dX11_emits_24 : decode cX11_emits 24 = .ok (.getfield 9, 3) := by decide +kernel
theorem dX11_emits_27 : decode cX11_emits 27 = .ok (.sipush 239, 3) := by decide +kernel
theorem dX11_emits_30 : decode cX11_emits 30 = .ok (.aload_n 0, 1) := by decide +kernel
theorem dX11_emits_31 : decode cX11_emits 31 = .ok (.getfield 78, 3) := by decide +kernel
theorem dX11_emits_34 : decode cX11_emits 34 = .ok (.iadd, 1) := by decide +kernel
theorem dX11_emits_35 : decode cX11_emits 35 = .ok (.iaload, 1) := by decide +kernel
theorem dX11_emits_36 : decode cX11_emits 36 = .ok (.iadd, 1) := by decide +kernel
theorem dX11_emits_37 : decode cX11_emits 37 = .ok (.iload_n 1, 1) := by decide +kernel
theorem dX11_emits_38 : decode cX11_emits 38 = .ok (.iastore, 1) := by decide +kernel
theorem dX11_emits_39 : decode cX11_emits 39 = .ok (.aload_n 0, 1) := by decide +kernel
theorem dX11_emits_40 : decode cX11_emits 40 = .ok (.getfield 9, 3) := by decide +kernel
theorem dX11_emits_43 : decode cX11_emits 43 = .ok (.sipush 239, 3) := by decide +kernel
theorem dX11_emits_46 : decode cX11_emits 46 = .ok (.aload_n 0, 1) := by decide +kernel
theorem dX11_emits_47 : decode cX11_emits 47 = .ok (.getfield 78, 3) := by decide +kernel
theorem dX11_emits_50 : decode cX11_emits 50 = .ok (.iadd, 1) := by decide +kernel
theorem dX11_emits_51 : decode cX11_emits 51 = .ok (.dup2, 1) := by decide +kernel
theorem dX11_emits_52 : decode cX11_emits 52 = .ok (.iaload, 1) := by decide +kernel
theorem dX11_emits_53 : decode cX11_emits 53 = .ok (.iconst 1, 1) := by decide +kernel
theorem dX11_emits_54 : decode cX11_emits 54 = .ok (.iadd, 1) := by decide +kernel
theorem dX11_emits_55 : decode cX11_emits 55 = .ok (.iastore, 1) := by decide +kernel
theorem dX11_emits_56 : decode cX11_emits 56 = .ok (.return_, 1) := by decide +kernel
theorem dX11_factor_0 : decode cX11_factor 0 = .ok (.aload_n 0, 1) := by decide +kernel
theorem dX11_factor_1 : decode cX11_factor 1 = .ok (.getfield 57, 3) := by decide +kernel
theorem dX11_factor_4 : decode cX11_factor 4 = .ok (.ifCond .eq 4, 3) := by decide +kernel
theorem dX11_factor_7 : decode cX11_factor 7 = .ok (.return_, 1) := by decide +kernel
theorem dX11_factor_8 : decode cX11_factor 8 = .ok (.aload_n 0, 1) := by decide +kernel
theorem dX11_factor_9 : decode cX11_factor 9 = .ok (.invokevirtual 61, 3) := by decide +kernel
theorem dX11_factor_12 : decode cX11_factor 12 = .ok (.istore_n 1, 1) := by decide +kernel
theorem dX11_factor_13 : decode cX11_factor 13 = .ok (.iload_n 1, 1) := by decide +kernel
theorem dX11_factor_14 : decode cX11_factor 14 = .ok (.bipush 33, 2) := by decide +kernel
theorem dX11_factor_16 : decode cX11_factor 16 = .ok (.if_icmp .eq 9, 3) := by decide +kernel
theorem dX11_factor_19 : decode cX11_factor 19 = .ok (.iload_n 1, 1) := by decide +kernel
theorem dX11_factor_20 : decode cX11_factor 20 = .ok (.bipush 40, 2) := by decide +kernel
theorem dX11_factor_22 : decode cX11_factor 22 = .ok (.if_icmp .ne 90, 3) := by decide +kernel
theorem dX11_factor_25 : decode cX11_factor 25 = .ok (.aload_n 0, 1) := by decide +kernel
theorem dX11_factor_26 : decode cX11_factor 26 = .ok (.aload_n 0, 1) := by decide +kernel
theorem dX11_factor_27 : decode cX11_factor 27 = .ok (.getfield 81, 3) := by decide +kernel
theorem dX11_factor_30 : decode cX11_factor 30 = .ok (.iconst 5, 1) := by decide +kernel
theorem dX11_factor_31 : decode cX11_factor 31 = .ok (.if_icmp .ne 7, 3) := by decide +kernel
theorem dX11_factor_34 : decode cX11_factor 34 = .ok (.iconst 1, 1) := by decide +kernel
theorem dX11_factor_35 : decode cX11_factor 35 = .ok (.goto 4, 3) := by decide +kernel
theorem dX11_factor_38 : decode cX11_factor 38 = .ok (.iconst 0, 1) := by decide +kernel
theorem dX11_factor_39 : decode cX11_factor 39 = .ok (.putfield 57, 3) := by decide +kernel
theorem dX11_factor_42 : decode cX11_factor 42 = .ok (.aload_n 0, 1) := by decide +kernel
theorem dX11_factor_43 : decode cX11_factor 43 = .ok (.dup, 1) := by decide +kernel
theorem dX11_factor_44 : decode cX11_factor 44 = .ok (.getfield 81, 3) := by decide +kernel
theorem dX11_factor_47 : decode cX11_factor 47 = .ok (.iconst 1, 1) := by decide +kernel
theorem dX11_factor_48 : decode cX11_factor 48 = .ok (.iadd, 1) := by decide +kernel
theorem dX11_factor_49 : decode cX11_factor 49 = .ok (.putfield 81, 3) := by decide +kernel
theorem dX11_factor_52 : decode cX11_factor 52 = .ok (.aload_n 0, 1) := by decide +kernel
theorem dX11_factor_53 : decode cX11_factor 53 = .ok (.dup, 1) := by decide +kernel
theorem dX11_factor_54 : decode cX11_factor 54 = .ok (.getfield 51, 3) := by decide +kernel
theorem dX11_factor_57 : decode cX11_factor 57 = .ok (.aload_n 0, 1) := by decide +kernel
theorem dX11_factor_58 : decode cX11_factor 58 = .ok (.getfield 57, 3) := by decide +kernel
theorem dX11_factor_61 : decode cX11_factor 61 = .ok (.ifCond .eq 7, 3) := by decide +kernel
theorem dX11_factor_64 : decode cX11_factor 64 = .ok (.iconst 0, 1) := by decide +kernel
theorem dX11_factor_65 : decode cX11_factor 65 = .ok (.goto 4, 3) := by decide +kernel
theorem dX11_factor_68 : decode cX11_factor 68 = .ok (.iconst 1, 1) := by decide +kernel
theorem dX11_factor_69 : decode cX11_factor 69 = .ok (.iadd, 1) := by decide +kernel
theorem dX11_factor_70 : decode cX11_factor 70 = .ok (.putfield 51, 3) := by decide +kernel
theorem dX11_factor_73 : decode cX11_factor 73 = .ok (.iload_n 1, 1) := by decide +kernel
theorem dX11_factor_74 : decode cX11_factor 74 = .ok (.bipush 33, 2) := by decide +kernel
theorem dX11_factor_76 : decode cX11_factor 76 = .ok (.if_icmp .ne 15, 3) := by decide +kernel
theorem dX11_factor_79 : decode cX11_factor 79 = .ok (.aload_n 0, 1) := by decide +kernel
theorem dX11_factor_80 : decode cX11_factor 80 = .ok (.invokevirtual 84, 3) := by decide +kernel
theorem dX11_factor_83 : decode cX11_factor 83 = .ok (.aload_n 0, 1) := by decide +kernel
theorem dX11_factor_84 : decode cX11_factor 84 = .ok (.iconst (-1), 1) := by decide +kernel
theorem dX11_factor_85 : decode cX11_factor 85 = .ok (.invokevirtual 87, 3) := by decide +kernel
theorem dX11_factor_88 : decode cX11_factor 88 = .ok (.goto 13, 3) := by decide +kernel
theorem dX11_factor_91 : decode cX11_factor 91 = .ok (.aload_n 0, 1) := by decide +kernel
theorem dX11_factor_92 : decode cX11_factor 92 = .ok (.invokevirtual 90, 3) := by decide +kernel
theorem dX11_factor_95 : decode cX11_factor 95 = .ok (.aload_n 0, 1) := by decide +kernel
theorem dX11_factor_96 : decode cX11_factor 96 = .ok (.bipush 41, 2) := by decide +kernel
theorem dX11_factor_98 : decode cX11_factor 98 = .ok (.invokevirtual 74, 3) := by decide +kernel
theorem dX11_factor_101 : decode cX11_factor 101 = .ok (.aload_n 0, 1) := by decide +kernel
theorem dX11_factor_102 : decode cX11_factor 102 = .ok (.dup, 1) := by decide +kernel
theorem dX11_factor_103 : decode cX11_factor 103 = .ok (.getfield 81, 3) := by decide +kernel
theorem dX11_factor_106 : decode cX11_factor 106 = .ok (.iconst 1, 1) := by decide +kernel
theorem dX11_factor_107 : decode cX11_factor 107 = .ok (.isub, 1) := by decide +kernel
theorem dX11_factor_108 : decode cX11_factor 108 = .ok (.putfield 81, 3) := by decide +kernel
theorem dX11_factor_111 : decode cX11_factor 111 = .ok (.return_, 1) := by decide +kernel
theorem dX11_factor_112 : decode cX11_factor 112 = .ok (.aload_n 0, 1) := by decide +kernel
theorem dX11_factor_113 : decode cX11_factor 113 = .ok (.ldc 93, 2) := by decide +kernel
theorem dX11_factor_115 : decode cX11_factor 115 = .ok (.invokevirtual 95, 3) := by decide +kernel
theorem dX11_factor_118 : decode cX11_factor 118 = .ok (.istore_n 2, 1) := by decide +kernel
theorem dX11_factor_119 : decode cX11_factor 119 = .ok (.aload_n 0, 1) := by decide +kernel
theorem dX11_factor_120 : decode cX11_factor 120 = .ok (.iload_n 2, 1) := by decide +kernel
theorem dX11_factor_121 : decode cX11_factor 121 = .ok (.iconst (-1), 1) := by decide +kernel
theorem dX11_factor_122 : decode cX11_factor 122 = .ok (.if_icmp .ne 7, 3) := by decide +kernel
theorem dX11_factor_125 : decode cX11_factor 125 = .ok (.iconst 1, 1) := by decide +kernel
theorem dX11_factor_126 : decode cX11_factor 126 = .ok (.goto 4, 3) := by decide +kernel
theorem dX11_factor_129 : decode cX11_factor 129 = .ok (.iconst 0, 1) := by decide +kernel
theorem dX11_factor_130 : decode cX11_factor 130 = .ok (.putfield 57, 3) := by decide +kernel
theorem dX11_factor_133 : decode cX11_factor 133 = .ok (.aload_n 0, 1) := by decide +kernel
theorem dX11_factor_134 : decode cX11_factor 134 = .ok (.getfield 57, 3) := by decide +kernel
theorem dX11_factor_137 : decode cX11_factor 137 = .ok (.ifCond .eq 7, 3) := by decide +kernel
theorem dX11_factor_140 : decode cX11_factor 140 = .ok (.iconst 0, 1) := by decide +kernel
theorem dX11_factor_141 : decode cX11_factor 141 = .ok (.goto 9, 3) := by decide +kernel
theorem dX11_factor_144 : decode cX11_factor 144 = .ok (.aload_n 0, 1) := by decide +kernel
theorem dX11_factor_145 : decode cX11_factor 145 = .ok (.ldc 99, 2) := by decide +kernel
theorem dX11_factor_147 : decode cX11_factor 147 = .ok (.invokevirtual 95, 3) := by decide +kernel
theorem dX11_factor_150 : decode cX11_factor 150 = .ok (.istore_n 3, 1) := by decide +kernel
theorem dX11_factor_151 : decode cX11_factor 151 = .ok (.aload_n 0, 1) := by decide +kernel
theorem dX11_factor_152 : decode cX11_factor 152 = .ok (.aload_n 0, 1) := by decide +kernel
theorem dX11_factor_153 : decode cX11_factor 153 = .ok (.getfield 57, 3) := by decide +kernel
theorem dX11_factor_156 : decode cX11_factor 156 = .ok (.ifCond .ne 8, 3) := by decide +kernel
theorem dX11_factor_159 : decode cX11_factor 159 = .ok (.iload_n 3, 1) := by decide +kernel
theorem dX11_factor_160 : decode cX11_factor 160 = .ok (.iconst (-1), 1) := by decide +kernel
theorem dX11_factor_161 : decode cX11_factor 161 = .ok (.if_icmp .ne 7, 3) := by decide +kernel
theorem dX11_factor_164 : decode cX11_factor 164 = .ok (.iconst 1, 1) := by decide +kernel
theorem dX11_factor_165 : decode cX11_factor 165 = .ok (.goto 4, 3) := by decide +kernel
theorem dX11_factor_168 : decode cX11_factor 168 = .ok (.iconst 0, 1) := by decide +kernel
theorem dX11_factor_169 : decode cX11_factor 169 = .ok (.putfield 57, 3) := by decide +kernel
theorem dX11_factor_172 : decode cX11_factor 172 = .ok (.aload_n 0, 1) := by decide +kernel
theorem dX11_factor_173 : decode cX11_factor 173 = .ok (.invokevirtual 101, 3) := by decide +kernel
theorem dX11_factor_176 : decode cX11_factor 176 = .ok (.istore 4, 2) := by decide +kernel
theorem dX11_factor_178 : decode cX11_factor 178 = .ok (.aload_n 0, 1) := by decide +kernel
theorem dX11_factor_179 : decode cX11_factor 179 = .ok (.iload_n 2, 1) := by decide +kernel
theorem dX11_factor_180 : decode cX11_factor 180 = .ok (.bipush 8, 2) := by decide +kernel
theorem dX11_factor_182 : decode cX11_factor 182 = .ok (.iload_n 3, 1) := by decide +kernel
theorem dX11_factor_183 : decode cX11_factor 183 = .ok (.imul, 1) := by decide +kernel
theorem dX11_factor_184 : decode cX11_factor 184 = .ok (.iadd, 1) := by decide +kernel
theorem dX11_factor_185 : decode cX11_factor 185 = .ok (.bipush 32, 2) := by decide +kernel
theorem dX11_factor_187 : decode cX11_factor 187 = .ok (.iload 4, 2) := by decide +kernel
theorem dX11_factor_189 : decode cX11_factor 189 = .ok (.imul, 1) := by decide +kernel
theorem dX11_factor_190 : decode cX11_factor 190 = .ok (.iadd, 1) := by decide +kernel
theorem dX11_factor_191 : decode cX11_factor 191 = .ok (.invokevirtual 87, 3) := by decide +kernel
theorem dX11_factor_194 : decode cX11_factor 194 = .ok (.return_, 1) := by decide +kernel
theorem dX11_every_0 : decode cX11_every 0 = .ok (.aload_n 0, 1) := by decide +kernel
theorem dX11_every_1 : decode cX11_every 1 = .ok (.invokevirtual 84, 3) := by decide +kernel
theorem dX11_every_4 : decode cX11_every 4 = .ok (.aload_n 0, 1) := by decide +kernel
theorem dX11_every_5 : decode cX11_every 5 = .ok (.getfield 57, 3) := by decide +kernel
theorem dX11_every_8 : decode cX11_every 8 = .ok (.ifCond .ne 35, 3) := by decide +kernel
theorem dX11_every_11 : decode cX11_every 11 = .ok (.aload_n 0, 1) := by decide +kernel
theorem dX11_every_12 : decode cX11_every 12 = .ok (.invokevirtual 61, 3) := by decide +kernel
theorem dX11_every_15 : decode cX11_every 15 = .ok (.bipush 38, 2) := by decide +kernel
theorem dX11_every_17 : decode cX11_every 17 = .ok (.if_icmp .ne 26, 3) := by decide +kernel
theorem dX11_every_20 : decode cX11_every 20 = .ok (.aload_n 0, 1) := by decide +kernel
theorem dX11_every_21 : decode cX11_every 21 = .ok (.dup, 1) := by decide +kernel
theorem dX11_every_22 : decode cX11_every 22 = .ok (.getfield 51, 3) := by decide +kernel
theorem dX11_every_25 : decode cX11_every 25 = .ok (.iconst 1, 1) := by decide +kernel
theorem dX11_every_26 : decode cX11_every 26 = .ok (.iadd, 1) := by decide +kernel
theorem dX11_every_27 : decode cX11_every 27 = .ok (.putfield 51, 3) := by decide +kernel
theorem dX11_every_30 : decode cX11_every 30 = .ok (.aload_n 0, 1) := by decide +kernel
theorem dX11_every_31 : decode cX11_every 31 = .ok (.invokevirtual 84, 3) := by decide +kernel
theorem dX11_every_34 : decode cX11_every 34 = .ok (.aload_n 0, 1) := by decide +kernel
theorem dX11_every_35 : decode cX11_every 35 = .ok (.bipush (-2), 2) := by decide +kernel
theorem dX11_every_37 : decode cX11_every 37 = .ok (.invokevirtual 87, 3) := by decide +kernel
theorem dX11_every_40 : decode cX11_every 40 = .ok (.goto (-36), 3) := by decide +kernel
theorem dX11_every_43 : decode cX11_every 43 = .ok (.return_, 1) := by decide +kernel
theorem dX11_some_0 : decode cX11_some 0 = .ok (.aload_n 0, 1) := by decide +kernel
theorem dX11_some_1 : decode cX11_some 1 = .ok (.invokevirtual 104, 3) := by decide +kernel
theorem dX11_some_4 : decode cX11_some 4 = .ok (.aload_n 0, 1) := by decide +kernel
theorem dX11_some_5 : decode cX11_some 5 = .ok (.getfield 57, 3) := by decide +kernel
theorem dX11_some_8 : decode cX11_some 8 = .ok (.ifCond .ne 35, 3) := by decide +kernel
theorem dX11_some_11 : decode cX11_some 11 = .ok (.aload_n 0, 1) := by decide +kernel
theorem dX11_some_12 : decode cX11_some 12 = .ok (.invokevirtual 61, 3) := by decide +kernel
theorem dX11_some_15 : decode cX11_some 15 = .ok (.bipush 124, 2) := by decide +kernel
theorem dX11_some_17 : decode cX11_some 17 = .ok (.if_icmp .ne 26, 3) := by decide +kernel
theorem dX11_some_20 : decode cX11_some 20 = .ok (.aload_n 0, 1) := by decide +kernel
theorem dX11_some_21 : decode cX11_some 21 = .ok (.dup, 1) := by decide +kernel
theorem dX11_some_22 : decode cX11_some 22 = .ok (.getfield 51, 3) := by decide +kernel
theorem dX11_some_25 : decode cX11_some 25 = .ok (.iconst 1, 1) := by decide +kernel
theorem dX11_some_26 : decode cX11_some 26 = .ok (.iadd, 1) := by decide +kernel
theorem dX11_some_27 : decode cX11_some 27 = .ok (.putfield 51, 3) := by decide +kernel
theorem dX11_some_30 : decode cX11_some 30 = .ok (.aload_n 0, 1) := by decide +kernel
theorem dX11_some_31 : decode cX11_some 31 = .ok (.invokevirtual 104, 3) := by decide +kernel
theorem dX11_some_34 : decode cX11_some 34 = .ok (.aload_n 0, 1) := by decide +kernel
theorem dX11_some_35 : decode cX11_some 35 = .ok (.bipush (-3), 2) := by decide +kernel
theorem dX11_some_37 : decode cX11_some 37 = .ok (.invokevirtual 87, 3) := by decide +kernel
theorem dX11_some_40 : decode cX11_some 40 = .ok (.goto (-36), 3) := by decide +kernel
theorem dX11_some_43 : decode cX11_some 43 = .ok (.return_, 1) := by decide +kernel
theorem dX11_tellsHere_0 : decode cX11_tellsHere 0 = .ok (.aload_n 0, 1) := by decide +kernel
theorem dX11_tellsHere_1 : decode cX11_tellsHere 1 = .ok (.aload_n 2, 1) := by decide +kernel
theorem dX11_tellsHere_2 : decode cX11_tellsHere 2 = .ok (.invokevirtual 107, 3) := by decide +kernel
theorem dX11_tellsHere_5 : decode cX11_tellsHere 5 = .ok (.aload_n 0, 1) := by decide +kernel
theorem dX11_tellsHere_6 : decode cX11_tellsHere 6 = .ok (.invokevirtual 101, 3) := by decide +kernel
theorem dX11_tellsHere_9 : decode cX11_tellsHere 9 = .ok (.istore_n 3, 1) := by decide +kernel
theorem dX11_tellsHere_10 : decode cX11_tellsHere 10 = .ok (.aload_n 0, 1) := by decide +kernel
theorem dX11_tellsHere_11 : decode cX11_tellsHere 11 = .ok (.getfield 57, 3) := by decide +kernel
theorem dX11_tellsHere_14 : decode cX11_tellsHere 14 = .ok (.ifCond .ne 15, 3) := by decide +kernel
theorem dX11_tellsHere_17 : decode cX11_tellsHere 17 = .ok (.aload_n 0, 1) := by decide +kernel
theorem dX11_tellsHere_18 : decode cX11_tellsHere 18 = .ok (.getfield 9, 3) := by decide +kernel
theorem dX11_tellsHere_21 : decode cX11_tellsHere 21 = .ok (.iload_n 1, 1) := by decide +kernel
theorem dX11_tellsHere_22 : decode cX11_tellsHere 22 = .ok (.aload_n 0, 1) := by decide +kernel
theorem dX11_tellsHere_23 : decode cX11_tellsHere 23 = .ok (.getfield 78, 3) := by decide +kernel
theorem dX11_tellsHere_26 : decode cX11_tellsHere 26 = .ok (.iadd, 1) := by decide +kernel
theorem dX11_tellsHere_27 : decode cX11_tellsHere 27 = .ok (.iload_n 3, 1) := by decide +kernel
theorem dX11_tellsHere_28 : decode cX11_tellsHere 28 = .ok (.iastore, 1) := by decide +kernel
theorem dX11_tellsHere_29 : decode cX11_tellsHere 29 = .ok (.return_, 1) := by decide +kernel
theorem dX11_clauseOfF_0 : decode cX11_clauseOfF 0 = .ok (.aload_n 0, 1) := by decide +kernel
theorem dX11_clauseOfF_1 : decode cX11_clauseOfF 1 = .ok (.bipush 102, 2) := by decide +kernel
theorem dX11_clauseOfF_3 : decode cX11_clauseOfF 3 = .ok (.invokevirtual 74, 3) := by decide +kernel
theorem dX11_clauseOfF_6 : decode cX11_clauseOfF 6 = .ok (.aload_n 0, 1) := by decide +kernel
theorem dX11_clauseOfF_7 : decode cX11_clauseOfF 7 = .ok (.invokevirtual 61, 3) := by decide +kernel
theorem dX11_clauseOfF_10 : decode cX11_clauseOfF 10 = .ok (.bipush 105, 2) := by decide +kernel
theorem dX11_clauseOfF_12 : decode cX11_clauseOfF 12 = .ok (.if_icmp .ne 36, 3) := by decide +kernel
theorem dX11_clauseOfF_15 : decode cX11_clauseOfF 15 = .ok (.aload_n 0, 1) := by decide +kernel
theorem dX11_clauseOfF_16 : decode cX11_clauseOfF 16 = .ok (.ldc 111, 2) := by decide +kernel
theorem dX11_clauseOfF_18 : decode cX11_clauseOfF 18 = .ok (.invokevirtual 107, 3) := by decide +kernel
theorem dX11_clauseOfF_21 : decode cX11_clauseOfF 21 = .ok (.aload_n 0, 1) := by decide +kernel
theorem dX11_clauseOfF_22 : decode cX11_clauseOfF 22 = .ok (.invokevirtual 101, 3) := by decide +kernel
theorem dX11_clauseOfF_25 : decode cX11_clauseOfF 25 = .ok (.istore_n 1, 1) := by decide +kernel
theorem dX11_clauseOfF_26 : decode cX11_clauseOfF 26 = .ok (.aload_n 0, 1) := by decide +kernel
theorem dX11_clauseOfF_27 : decode cX11_clauseOfF 27 = .ok (.bipush 32, 2) := by decide +kernel
theorem dX11_clauseOfF_29 : decode cX11_clauseOfF 29 = .ok (.invokevirtual 74, 3) := by decide +kernel
theorem dX11_clauseOfF_32 : decode cX11_clauseOfF 32 = .ok (.aload_n 0, 1) := by decide +kernel
theorem dX11_clauseOfF_33 : decode cX11_clauseOfF 33 = .ok (.invokevirtual 90, 3) := by decide +kernel
theorem dX11_clauseOfF_36 : decode cX11_clauseOfF 36 = .ok (.aload_n 0, 1) := by decide +kernel
theorem dX11_clauseOfF_37 : decode cX11_clauseOfF 37 = .ok (.sipush (-200), 3) := by decide +kernel
theorem dX11_clauseOfF_40 : decode cX11_clauseOfF 40 = .ok (.iload_n 1, 1) := by decide +kernel
theorem dX11_clauseOfF_41 : decode cX11_clauseOfF 41 = .ok (.isub, 1) := by decide +kernel
theorem dX11_clauseOfF_42 : decode cX11_clauseOfF 42 = .ok (.invokevirtual 87, 3) := by decide +kernel
theorem dX11_clauseOfF_45 : decode cX11_clauseOfF 45 = .ok (.goto 12, 3) := by decide +kernel
theorem dX11_clauseOfF_48 : decode cX11_clauseOfF 48 = .ok (.aload_n 0, 1) := by decide +kernel
theorem dX11_clauseOfF_49 : decode cX11_clauseOfF 49 = .ok (.sipush 229, 3) := by decide +kernel
theorem dX11_clauseOfF_52 : decode cX11_clauseOfF 52 = .ok (.ldc 113, 2) := by decide +kernel
theorem dX11_clauseOfF_54 : decode cX11_clauseOfF 54 = .ok (.invokevirtual 115, 3) := by decide +kernel
theorem dX11_clauseOfF_57 : decode cX11_clauseOfF 57 = .ok (.return_, 1) := by decide +kernel
theorem dX11_clauseHere_0 : decode cX11_clauseHere 0 = .ok (.aload_n 0, 1) := by decide +kernel
theorem dX11_clauseHere_1 : decode cX11_clauseHere 1 = .ok (.invokevirtual 61, 3) := by decide +kernel
theorem dX11_clauseHere_4 : decode cX11_clauseHere 4 = .ok (.lookupswitch 74 #[(102, 55), (108, 62), (115, 36)], 36) := by decide +kernel
theorem dX11_clauseHere_40 : decode cX11_clauseHere 40 = .ok (.aload_n 0, 1) := by decide +kernel
theorem dX11_clauseHere_41 : decode cX11_clauseHere 41 = .ok (.ldc 119, 2) := by decide +kernel
theorem dX11_clauseHere_43 : decode cX11_clauseHere 43 = .ok (.invokevirtual 107, 3) := by decide +kernel
theorem dX11_clauseHere_46 : decode cX11_clauseHere 46 = .ok (.aload_n 0, 1) := by decide +kernel
theorem dX11_clauseHere_47 : decode cX11_clauseHere 47 = .ok (.invokevirtual 90, 3) := by decide +kernel
theorem dX11_clauseHere_50 : decode cX11_clauseHere 50 = .ok (.aload_n 0, 1) := by decide +kernel
theorem dX11_clauseHere_51 : decode cX11_clauseHere 51 = .ok (.bipush (-10), 2) := by decide +kernel
theorem dX11_clauseHere_53 : decode cX11_clauseHere 53 = .ok (.invokevirtual 87, 3) := by decide +kernel
theorem dX11_clauseHere_56 : decode cX11_clauseHere 56 = .ok (.goto 27, 3) := by decide +kernel
theorem dX11_clauseHere_59 : decode cX11_clauseHere 59 = .ok (.aload_n 0, 1) := by decide +kernel
theorem dX11_clauseHere_60 : decode cX11_clauseHere 60 = .ok (.invokevirtual 121, 3) := by decide +kernel
theorem dX11_clauseHere_63 : decode cX11_clauseHere 63 = .ok (.goto 20, 3) := by decide +kernel
theorem dX11_clauseHere_66 : decode cX11_clauseHere 66 = .ok (.aload_n 0, 1) := by decide +kernel
theorem dX11_clauseHere_67 : decode cX11_clauseHere 67 = .ok (.sipush 234, 3) := by decide +kernel
theorem dX11_clauseHere_70 : decode cX11_clauseHere 70 = .ok (.ldc 124, 2) := by decide +kernel
theorem dX11_clauseHere_72 : decode cX11_clauseHere 72 = .ok (.invokevirtual 115, 3) := by decide +kernel
theorem dX11_clauseHere_75 : decode cX11_clauseHere 75 = .ok (.goto 8, 3) := by decide +kernel
theorem dX11_clauseHere_78 : decode cX11_clauseHere 78 = .ok (.aload_n 0, 1) := by decide +kernel
theorem dX11_clauseHere_79 : decode cX11_clauseHere 79 = .ok (.iconst 1, 1) := by decide +kernel
theorem dX11_clauseHere_80 : decode cX11_clauseHere 80 = .ok (.putfield 57, 3) := by decide +kernel
theorem dX11_clauseHere_83 : decode cX11_clauseHere 83 = .ok (.return_, 1) := by decide +kernel
theorem dX11_town_0 : decode cX11_town 0 = .ok (.aload_n 0, 1) := by decide +kernel
theorem dX11_town_1 : decode cX11_town 1 = .ok (.getfield 9, 3) := by decide +kernel
theorem dX11_town_4 : decode cX11_town 4 = .ok (.bipush 19, 2) := by decide +kernel
theorem dX11_town_6 : decode cX11_town 6 = .ok (.iaload, 1) := by decide +kernel
theorem dX11_town_7 : decode cX11_town 7 = .ok (.iconst 5, 1) := by decide +kernel
theorem dX11_town_8 : decode cX11_town 8 = .ok (.if_icmp .ne 6, 3) := by decide +kernel
theorem dX11_town_11 : decode cX11_town 11 = .ok (.bipush (-4), 2) := by decide +kernel
theorem dX11_town_13 : decode cX11_town 13 = .ok (.ireturn, 1) := by decide +kernel
theorem dX11_town_14 : decode cX11_town 14 = .ok (.aload_n 0, 1) := by decide +kernel
theorem dX11_town_15 : decode cX11_town 15 = .ok (.aload_n 0, 1) := by decide +kernel
theorem dX11_town_16 : decode cX11_town 16 = .ok (.getfield 9, 3) := by decide +kernel
theorem dX11_town_19 : decode cX11_town 19 = .ok (.bipush 19, 2) := by decide +kernel
theorem dX11_town_21 : decode cX11_town 21 = .ok (.iaload, 1) := by decide +kernel
theorem dX11_town_22 : decode cX11_town 22 = .ok (.putfield 78, 3) := by decide +kernel
theorem dX11_town_25 : decode cX11_town 25 = .ok (.aload_n 0, 1) := by decide +kernel
theorem dX11_town_26 : decode cX11_town 26 = .ok (.aload_n 0, 1) := by decide +kernel
theorem dX11_town_27 : decode cX11_town 27 = .ok (.getfield 9, 3) := by decide +kernel
theorem dX11_town_30 : decode cX11_town 30 = .ok (.bipush 22, 2) := by decide +kernel
theorem dX11_town_32 : decode cX11_town 32 = .ok (.iaload, 1) := by decide +kernel
theorem dX11_town_33 : decode cX11_town 33 = .ok (.putfield 54, 3) := by decide +kernel
theorem dX11_town_36 : decode cX11_town 36 = .ok (.aload_n 0, 1) := by decide +kernel
theorem dX11_town_37 : decode cX11_town 37 = .ok (.getfield 9, 3) := by decide +kernel
theorem dX11_town_40 : decode cX11_town 40 = .ok (.bipush 22, 2) := by decide +kernel
theorem dX11_town_42 : decode cX11_town 42 = .ok (.iconst 0, 1) := by decide +kernel
theorem dX11_town_43 : decode cX11_town 43 = .ok (.iastore, 1) := by decide +kernel
theorem dX11_town_44 : decode cX11_town 44 = .ok (.aload_n 0, 1) := by decide +kernel
theorem dX11_town_45 : decode cX11_town 45 = .ok (.getfield 9, 3) := by decide +kernel
theorem dX11_town_48 : decode cX11_town 48 = .ok (.sipush 229, 3) := by decide +kernel
theorem dX11_town_51 : decode cX11_town 51 = .ok (.aload_n 0, 1) := by decide +kernel
theorem dX11_town_52 : decode cX11_town 52 = .ok (.getfield 78, 3) := by decide +kernel
theorem dX11_town_55 : decode cX11_town 55 = .ok (.iadd, 1) := by decide +kernel
theorem dX11_town_56 : decode cX11_town 56 = .ok (.iconst 1, 1) := by decide +kernel
theorem dX11_town_57 : decode cX11_town 57 = .ok (.iastore, 1) := by decide +kernel
theorem dX11_town_58 : decode cX11_town 58 = .ok (.aload_n 0, 1) := by decide +kernel
theorem dX11_town_59 : decode cX11_town 59 = .ok (.getfield 9, 3) := by decide +kernel
theorem dX11_town_62 : decode cX11_town 62 = .ok (.sipush 234, 3) := by decide +kernel
theorem dX11_town_65 : decode cX11_town 65 = .ok (.aload_n 0, 1) := by decide +kernel
theorem dX11_town_66 : decode cX11_town 66 = .ok (.getfield 78, 3) := by decide +kernel
theorem dX11_town_69 : decode cX11_town 69 = .ok (.iadd, 1) := by decide +kernel
theorem dX11_town_70 : decode cX11_town 70 = .ok (.iconst 0, 1) := by decide +kernel
theorem dX11_town_71 : decode cX11_town 71 = .ok (.iastore, 1) := by decide +kernel
theorem dX11_town_72 : decode cX11_town 72 = .ok (.aload_n 0, 1) := by decide +kernel
theorem dX11_town_73 : decode cX11_town 73 = .ok (.getfield 9, 3) := by decide +kernel
theorem dX11_town_76 : decode cX11_town 76 = .ok (.sipush 239, 3) := by decide +kernel
theorem dX11_town_79 : decode cX11_town 79 = .ok (.aload_n 0, 1) := by decide +kernel
theorem dX11_town_80 : decode cX11_town 80 = .ok (.getfield 78, 3) := by decide +kernel
theorem dX11_town_83 : decode cX11_town 83 = .ok (.iadd, 1) := by decide +kernel
theorem dX11_town_84 : decode cX11_town 84 = .ok (.iconst 0, 1) := by decide +kernel
theorem dX11_town_85 : decode cX11_town 85 = .ok (.iastore, 1) := by decide +kernel
theorem dX11_town_86 : decode cX11_town 86 = .ok (.aload_n 0, 1) := by decide +kernel
theorem dX11_town_87 : decode cX11_town 87 = .ok (.iconst 0, 1) := by decide +kernel
theorem dX11_town_88 : decode cX11_town 88 = .ok (.putfield 51, 3) := by decide +kernel
theorem dX11_town_91 : decode cX11_town 91 = .ok (.aload_n 0, 1) := by decide +kernel
theorem dX11_town_92 : decode cX11_town 92 = .ok (.iconst 0, 1) := by decide +kernel
theorem dX11_town_93 : decode cX11_town 93 = .ok (.putfield 57, 3) := by decide +kernel
theorem dX11_town_96 : decode cX11_town 96 = .ok (.aload_n 0, 1) := by decide +kernel
theorem dX11_town_97 : decode cX11_town 97 = .ok (.iconst 0, 1) := by decide +kernel
theorem dX11_town_98 : decode cX11_town 98 = .ok (.putfield 81, 3) := by decide +kernel
theorem dX11_town_101 : decode cX11_town 101 = .ok (.iconst 1, 1) := by decide +kernel
theorem dX11_town_102 : decode cX11_town 102 = .ok (.istore_n 1, 1) := by decide +kernel
theorem dX11_town_103 : decode cX11_town 103 = .ok (.aload_n 0, 1) := by decide +kernel
theorem dX11_town_104 : decode cX11_town 104 = .ok (.invokevirtual 126, 3) := by decide +kernel
theorem dX11_town_107 : decode cX11_town 107 = .ok (.aload_n 0, 1) := by decide +kernel
theorem dX11_town_108 : decode cX11_town 108 = .ok (.getfield 57, 3) := by decide +kernel
theorem dX11_town_111 : decode cX11_town 111 = .ok (.ifCond .ne 38, 3) := by decide +kernel
theorem dX11_town_114 : decode cX11_town 114 = .ok (.iload_n 1, 1) := by decide +kernel
theorem dX11_town_115 : decode cX11_town 115 = .ok (.bipush 10, 2) := by decide +kernel
theorem dX11_town_117 : decode cX11_town 117 = .ok (.if_icmp .ge 32, 3) := by decide +kernel
theorem dX11_town_120 : decode cX11_town 120 = .ok (.aload_n 0, 1) := by decide +kernel
theorem dX11_town_121 : decode cX11_town 121 = .ok (.invokevirtual 61, 3) := by decide +kernel
theorem dX11_town_124 : decode cX11_town 124 = .ok (.bipush 59, 2) := by decide +kernel
theorem dX11_town_126 : decode cX11_town 126 = .ok (.if_icmp .ne 23, 3) := by decide +kernel
theorem dX11_town_129 : decode cX11_town 129 = .ok (.aload_n 0, 1) := by decide +kernel
theorem dX11_town_130 : decode cX11_town 130 = .ok (.dup, 1) := by decide +kernel
theorem dX11_town_131 : decode cX11_town 131 = .ok (.getfield 51, 3) := by decide +kernel
theorem dX11_town_134 : decode cX11_town 134 = .ok (.iconst 1, 1) := by decide +kernel
theorem dX11_town_135 : decode cX11_town 135 = .ok (.iadd, 1) := by decide +kernel
theorem dX11_town_136 : decode cX11_town 136 = .ok (.putfield 51, 3) := by decide +kernel
theorem dX11_town_139 : decode cX11_town 139 = .ok (.aload_n 0, 1) := by decide +kernel
theorem dX11_town_140 : decode cX11_town 140 = .ok (.invokevirtual 126, 3) := by decide +kernel
theorem dX11_town_143 : decode cX11_town 143 = .ok (.iinc 1 1, 3) := by decide +kernel
theorem dX11_town_146 : decode cX11_town 146 = .ok (.goto (-39), 3) := by decide +kernel
theorem dX11_town_149 : decode cX11_town 149 = .ok (.aload_n 0, 1) := by decide +kernel
theorem dX11_town_150 : decode cX11_town 150 = .ok (.getfield 57, 3) := by decide +kernel
theorem dX11_town_153 : decode cX11_town 153 = .ok (.ifCond .ne 14, 3) := by decide +kernel
theorem dX11_town_156 : decode cX11_town 156 = .ok (.aload_n 0, 1) := by decide +kernel
theorem dX11_town_157 : decode cX11_town 157 = .ok (.getfield 51, 3) := by decide +kernel
theorem dX11_town_160 : decode cX11_town 160 = .ok (.aload_n 0, 1) := by decide +kernel
theorem dX11_town_161 : decode cX11_town 161 = .ok (.getfield 54, 3) := by decide +kernel
theorem dX11_town_164 : decode cX11_town 164 = .ok (.if_icmp .eq 11, 3) := by decide +kernel
theorem dX11_town_167 : decode cX11_town 167 = .ok (.bipush (-10), 2) := by decide +kernel
theorem dX11_town_169 : decode cX11_town 169 = .ok (.aload_n 0, 1) := by decide +kernel
theorem dX11_town_170 : decode cX11_town 170 = .ok (.getfield 51, 3) := by decide +kernel
theorem dX11_town_173 : decode cX11_town 173 = .ok (.isub, 1) := by decide +kernel
theorem dX11_town_174 : decode cX11_town 174 = .ok (.ireturn, 1) := by decide +kernel
theorem dX11_town_175 : decode cX11_town 175 = .ok (.aload_n 0, 1) := by decide +kernel
theorem dX11_town_176 : decode cX11_town 176 = .ok (.getfield 9, 3) := by decide +kernel
theorem dX11_town_179 : decode cX11_town 179 = .ok (.bipush 19, 2) := by decide +kernel
theorem dX11_town_181 : decode cX11_town 181 = .ok (.dup2, 1) := by decide +kernel
theorem dX11_town_182 : decode cX11_town 182 = .ok (.iaload, 1) := by decide +kernel
theorem dX11_town_183 : decode cX11_town 183 = .ok (.iconst 1, 1) := by decide +kernel
theorem dX11_town_184 : decode cX11_town 184 = .ok (.iadd, 1) := by decide +kernel
theorem dX11_town_185 : decode cX11_town 185 = .ok (.iastore, 1) := by decide +kernel
theorem dX11_town_186 : decode cX11_town 186 = .ok (.aload_n 0, 1) := by decide +kernel
theorem dX11_town_187 : decode cX11_town 187 = .ok (.getfield 9, 3) := by decide +kernel
theorem dX11_town_190 : decode cX11_town 190 = .ok (.bipush 23, 2) := by decide +kernel
theorem dX11_town_192 : decode cX11_town 192 = .ok (.aload_n 0, 1) := by decide +kernel
theorem dX11_town_193 : decode cX11_town 193 = .ok (.getfield 78, 3) := by decide +kernel
theorem dX11_town_196 : decode cX11_town 196 = .ok (.iastore, 1) := by decide +kernel
theorem dX11_town_197 : decode cX11_town 197 = .ok (.aload_n 0, 1) := by decide +kernel
theorem dX11_town_198 : decode cX11_town 198 = .ok (.getfield 78, 3) := by decide +kernel
theorem dX11_town_201 : decode cX11_town 201 = .ok (.ireturn, 1) := by decide +kernel
theorem dX11_tellsOf_0 : decode cX11_tellsOf 0 = .ok (.aload_n 0, 1) := by decide +kernel
theorem dX11_tellsOf_1 : decode cX11_tellsOf 1 = .ok (.getfield 9, 3) := by decide +kernel
theorem dX11_tellsOf_4 : decode cX11_tellsOf 4 = .ok (.bipush 23, 2) := by decide +kernel
theorem dX11_tellsOf_6 : decode cX11_tellsOf 6 = .ok (.iaload, 1) := by decide +kernel
theorem dX11_tellsOf_7 : decode cX11_tellsOf 7 = .ok (.iconst (-1), 1) := by decide +kernel
theorem dX11_tellsOf_8 : decode cX11_tellsOf 8 = .ok (.if_icmp .ne 7, 3) := by decide +kernel
theorem dX11_tellsOf_11 : decode cX11_tellsOf 11 = .ok (.iload_n 2, 1) := by decide +kernel
theorem dX11_tellsOf_12 : decode cX11_tellsOf 12 = .ok (.goto 17, 3) := by decide +kernel
theorem dX11_tellsOf_15 : decode cX11_tellsOf 15 = .ok (.aload_n 0, 1) := by decide +kernel
theorem dX11_tellsOf_16 : decode cX11_tellsOf 16 = .ok (.getfield 9, 3) := by decide +kernel
theorem dX11_tellsOf_19 : decode cX11_tellsOf 19 = .ok (.iload_n 1, 1) := by decide +kernel
theorem dX11_tellsOf_20 : decode cX11_tellsOf 20 = .ok (.aload_n 0, 1) := by decide +kernel
theorem dX11_tellsOf_21 : decode cX11_tellsOf 21 = .ok (.getfield 9, 3) := by decide +kernel
theorem dX11_tellsOf_24 : decode cX11_tellsOf 24 = .ok (.bipush 23, 2) := by decide +kernel
theorem dX11_tellsOf_26 : decode cX11_tellsOf 26 = .ok (.iaload, 1) := by decide +kernel
theorem dX11_tellsOf_27 : decode cX11_tellsOf 27 = .ok (.iadd, 1) := by decide +kernel
theorem dX11_tellsOf_28 : decode cX11_tellsOf 28 = .ok (.iaload, 1) := by decide +kernel
theorem dX11_tellsOf_29 : decode cX11_tellsOf 29 = .ok (.ireturn, 1) := by decide +kernel
theorem dX11_looks_0 : decode cX11_looks 0 = .ok (.aload_n 0, 1) := by decide +kernel
theorem dX11_looks_1 : decode cX11_looks 1 = .ok (.getfield 21, 3) := by decide +kernel
theorem dX11_looks_4 : decode cX11_looks 4 = .ok (.iconst 0, 1) := by decide +kernel
theorem dX11_looks_5 : decode cX11_looks 5 = .ok (.iload_n 1, 1) := by decide +kernel
theorem dX11_looks_6 : decode cX11_looks 6 = .ok (.iastore, 1) := by decide +kernel
theorem dX11_looks_7 : decode cX11_looks 7 = .ok (.aload_n 0, 1) := by decide +kernel
theorem dX11_looks_8 : decode cX11_looks 8 = .ok (.getfield 21, 3) := by decide +kernel
theorem dX11_looks_11 : decode cX11_looks 11 = .ok (.iconst 1, 1) := by decide +kernel
theorem dX11_looks_12 : decode cX11_looks 12 = .ok (.iload_n 2, 1) := by decide +kernel
theorem dX11_looks_13 : decode cX11_looks 13 = .ok (.iastore, 1) := by decide +kernel
theorem dX11_looks_14 : decode cX11_looks 14 = .ok (.aload_n 0, 1) := by decide +kernel
theorem dX11_looks_15 : decode cX11_looks 15 = .ok (.getfield 21, 3) := by decide +kernel
theorem dX11_looks_18 : decode cX11_looks 18 = .ok (.iconst 2, 1) := by decide +kernel
theorem dX11_looks_19 : decode cX11_looks 19 = .ok (.aload_n 0, 1) := by decide +kernel
theorem dX11_looks_20 : decode cX11_looks 20 = .ok (.getfield 9, 3) := by decide +kernel
theorem dX11_looks_23 : decode cX11_looks 23 = .ok (.bipush 24, 2) := by decide +kernel
theorem dX11_looks_25 : decode cX11_looks 25 = .ok (.iload_n 1, 1) := by decide +kernel
theorem dX11_looks_26 : decode cX11_looks 26 = .ok (.iadd, 1) := by decide +kernel
theorem dX11_looks_27 : decode cX11_looks 27 = .ok (.iaload, 1) := by decide +kernel
theorem dX11_looks_28 : decode cX11_looks 28 = .ok (.iastore, 1) := by decide +kernel
theorem dX11_looks_29 : decode cX11_looks 29 = .ok (.aload_n 0, 1) := by decide +kernel
theorem dX11_looks_30 : decode cX11_looks 30 = .ok (.getfield 21, 3) := by decide +kernel
theorem dX11_looks_33 : decode cX11_looks 33 = .ok (.iconst 3, 1) := by decide +kernel
theorem dX11_looks_34 : decode cX11_looks 34 = .ok (.aload_n 0, 1) := by decide +kernel
theorem dX11_looks_35 : decode cX11_looks 35 = .ok (.iload_n 1, 1) := by decide +kernel
theorem dX11_looks_36 : decode cX11_looks 36 = .ok (.invokevirtual 129, 3) := by decide +kernel
theorem dX11_looks_39 : decode cX11_looks 39 = .ok (.ifCond .eq 14, 3) := by decide +kernel
theorem dX11_looks_42 : decode cX11_looks 42 = .ok (.aload_n 0, 1) := by decide +kernel
theorem dX11_looks_43 : decode cX11_looks 43 = .ok (.getfield 9, 3) := by decide +kernel
theorem dX11_looks_46 : decode cX11_looks 46 = .ok (.iconst 4, 1) := by decide +kernel
theorem dX11_looks_47 : decode cX11_looks 47 = .ok (.iload_n 1, 1) := by decide +kernel
theorem dX11_looks_48 : decode cX11_looks 48 = .ok (.iadd, 1) := by decide +kernel
theorem dX11_looks_49 : decode cX11_looks 49 = .ok (.iaload, 1) := by decide +kernel
theorem dX11_looks_50 : decode cX11_looks 50 = .ok (.goto 5, 3) := by decide +kernel
theorem dX11_looks_53 : decode cX11_looks 53 = .ok (.bipush 9, 2) := by decide +kernel
theorem dX11_looks_55 : decode cX11_looks 55 = .ok (.iastore, 1) := by decide +kernel
theorem dX11_looks_56 : decode cX11_looks 56 = .ok (.aload_n 0, 1) := by decide +kernel
theorem dX11_looks_57 : decode cX11_looks 57 = .ok (.getfield 21, 3) := by decide +kernel
theorem dX11_looks_60 : decode cX11_looks 60 = .ok (.iconst 4, 1) := by decide +kernel
theorem dX11_looks_61 : decode cX11_looks 61 = .ok (.aload_n 0, 1) := by decide +kernel
theorem dX11_looks_62 : decode cX11_looks 62 = .ok (.getfield 9, 3) := by decide +kernel
theorem dX11_looks_65 : decode cX11_looks 65 = .ok (.iconst 0, 1) := by decide +kernel
theorem dX11_looks_66 : decode cX11_looks 66 = .ok (.iaload, 1) := by decide +kernel
theorem dX11_looks_67 : decode cX11_looks 67 = .ok (.bipush 7, 2) := by decide +kernel
theorem dX11_looks_69 : decode cX11_looks 69 = .ok (.irem, 1) := by decide +kernel
theorem dX11_looks_70 : decode cX11_looks 70 = .ok (.iastore, 1) := by decide +kernel
theorem dX11_looks_71 : decode cX11_looks 71 = .ok (.aload_n 0, 1) := by decide +kernel
theorem dX11_looks_72 : decode cX11_looks 72 = .ok (.iconst 0, 1) := by decide +kernel
theorem dX11_looks_73 : decode cX11_looks 73 = .ok (.putfield 133, 3) := by decide +kernel
theorem dX11_looks_76 : decode cX11_looks 76 = .ok (.aload_n 0, 1) := by decide +kernel
theorem dX11_looks_77 : decode cX11_looks 77 = .ok (.iconst 0, 1) := by decide +kernel
theorem dX11_looks_78 : decode cX11_looks 78 = .ok (.putfield 136, 3) := by decide +kernel
theorem dX11_looks_81 : decode cX11_looks 81 = .ok (.aload_n 0, 1) := by decide +kernel
theorem dX11_looks_82 : decode cX11_looks 82 = .ok (.sipush 239, 3) := by decide +kernel
theorem dX11_looks_85 : decode cX11_looks 85 = .ok (.iconst 0, 1) := by decide +kernel
theorem dX11_looks_86 : decode cX11_looks 86 = .ok (.invokevirtual 139, 3) := by decide +kernel
theorem dX11_looks_89 : decode cX11_looks 89 = .ok (.istore_n 3, 1) := by decide +kernel
theorem dX11_looks_90 : decode cX11_looks 90 = .ok (.sipush 244, 3) := by decide +kernel
theorem dX11_looks_93 : decode cX11_looks 93 = .ok (.sipush 140, 3) := by decide +kernel
theorem dX11_looks_96 : decode cX11_looks 96 = .ok (.aload_n 0, 1) := by decide +kernel
theorem dX11_looks_97 : decode cX11_looks 97 = .ok (.getfield 9, 3) := by decide +kernel
theorem dX11_looks_100 : decode cX11_looks 100 = .ok (.bipush 23, 2) := by decide +kernel
theorem dX11_looks_102 : decode cX11_looks 102 = .ok (.iaload, 1) := by decide +kernel
theorem dX11_looks_103 : decode cX11_looks 103 = .ok (.imul, 1) := by decide +kernel
theorem dX11_looks_104 : decode cX11_looks 104 = .ok (.iadd, 1) := by decide +kernel
theorem dX11_looks_105 : decode cX11_looks 105 = .ok (.istore 4, 2) := by decide +kernel
theorem dX11_looks_107 : decode cX11_looks 107 = .ok (.iconst 0, 1) := by decide +kernel
theorem dX11_looks_108 : decode cX11_looks 108 = .ok (.istore 5, 2) := by decide +kernel
theorem dX11_looks_110 : decode cX11_looks 110 = .ok (.iload 4, 2) := by decide +kernel
theorem dX11_looks_112 : decode cX11_looks 112 = .ok (.istore 6, 2) := by decide +kernel
theorem dX11_looks_114 : decode cX11_looks 114 = .ok (.iload 6, 2) := by decide +kernel
theorem dX11_looks_116 : decode cX11_looks 116 = .ok (.iload 4, 2) := by decide +kernel
theorem dX11_looks_118 : decode cX11_looks 118 = .ok (.iload_n 3, 1) := by decide +kernel
theorem dX11_looks_119 : decode cX11_looks 119 = .ok (.iadd, 1) := by decide +kernel
theorem dX11_looks_120 : decode cX11_looks 120 = .ok (.if_icmp .ge 309, 3) := by decide +kernel
theorem dX11_looks_123 : decode cX11_looks 123 = .ok (.aload_n 0, 1) := by decide +kernel
theorem dX11_looks_124 : decode cX11_looks 124 = .ok (.getfield 9, 3) := by decide +kernel
theorem dX11_looks_127 : decode cX11_looks 127 = .ok (.iload 6, 2) := by decide +kernel
theorem dX11_looks_129 : decode cX11_looks 129 = .ok (.iaload, 1) := by decide +kernel
theorem dX11_looks_130 : decode cX11_looks 130 = .ok (.istore 7, 2) := by decide +kernel
theorem dX11_looks_132 : decode cX11_looks 132 = .ok (.iload 7, 2) := by decide +kernel
theorem dX11_looks_134 : decode cX11_looks 134 = .ok (.ifCond .lt 97, 3) := by decide +kernel
theorem dX11_looks_137 : decode cX11_looks 137 = .ok (.aload_n 0, 1) := by decide +kernel
theorem dX11_looks_138 : decode cX11_looks 138 = .ok (.getfield 21, 3) := by decide +kernel
theorem dX11_looks_141 : decode cX11_looks 141 = .ok (.iload 7, 2) := by decide +kernel
theorem dX11_looks_143 : decode cX11_looks 143 = .ok (.bipush 8, 2) := by decide +kernel
theorem dX11_looks_145 : decode cX11_looks 145 = .ok (.irem, 1) := by decide +kernel
theorem dX11_looks_146 : decode cX11_looks 146 = .ok (.iaload, 1) := by decide +kernel
theorem dX11_looks_147 : decode cX11_looks 147 = .ok (.istore 8, 2) := by decide +kernel
theorem dX11_looks_149 : decode cX11_looks 149 = .ok (.iload 7, 2) := by decide +kernel
theorem dX11_looks_151 : decode cX11_looks 151 = .ok (.bipush 8, 2) := by decide +kernel
theorem dX11_looks_153 : decode cX11_looks 153 = .ok (.idiv, 1) := by decide +kernel
theorem dX11_looks_154 : decode cX11_looks 154 = .ok (.iconst 4, 1) := by decide +kernel
theorem dX11_looks_155 : decode cX11_looks 155 = .ok (.irem, 1) := by decide +kernel
theorem dX11_looks_156 : decode cX11_looks 156 = .ok (.istore 9, 2) := by decide +kernel
theorem dX11_looks_158 : decode cX11_looks 158 = .ok (.iload 7, 2) := by decide +kernel
theorem dX11_looks_160 : decode cX11_looks 160 = .ok (.bipush 32, 2) := by decide +kernel
theorem dX11_looks_162 : decode cX11_looks 162 = .ok (.idiv, 1) := by decide +kernel
theorem dX11_looks_163 : decode cX11_looks 163 = .ok (.istore 10, 2) := by decide +kernel
theorem dX11_looks_165 : decode cX11_looks 165 = .ok (.aload_n 0, 1) := by decide +kernel
theorem dX11_looks_166 : decode cX11_looks 166 = .ok (.getfield 24, 3) := by decide +kernel
theorem dX11_looks_169 : decode cX11_looks 169 = .ok (.iload 5, 2) := by decide +kernel
theorem dX11_looks_171 : decode cX11_looks 171 = .ok (.iload 9, 2) := by decide +kernel
theorem dX11_looks_173 : decode cX11_looks 173 = .ok (.ifCond .ne 18, 3) := by decide +kernel
theorem dX11_looks_176 : decode cX11_looks 176 = .ok (.iload 8, 2) := by decide +kernel
theorem dX11_looks_178 : decode cX11_looks 178 = .ok (.iload 10, 2) := by decide +kernel
theorem dX11_looks_180 : decode cX11_looks 180 = .ok (.if_icmp .ge 7, 3) := by decide +kernel
theorem dX11_looks_183 : decode cX11_looks 183 = .ok (.iconst 1, 1) := by decide +kernel
theorem dX11_looks_184 : decode cX11_looks 184 = .ok (.goto 40, 3) := by decide +kernel
theorem dX11_looks_187 : decode cX11_looks 187 = .ok (.iconst 0, 1) := by decide +kernel
theorem dX11_looks_188 : decode cX11_looks 188 = .ok (.goto 36, 3) := by decide +kernel
theorem dX11_looks_191 : decode cX11_looks 191 = .ok (.iload 9, 2) := by decide +kernel
theorem dX11_looks_193 : decode cX11_looks 193 = .ok (.iconst 1, 1) := by decide +kernel
theorem dX11_looks_194 : decode cX11_looks 194 = .ok (.if_icmp .ne 18, 3) := by decide +kernel
theorem dX11_looks_197 : decode cX11_looks 197 = .ok (.iload 8, 2) := by decide +kernel
theorem dX11_looks_199 : decode cX11_looks 199 = .ok (.iload 10, 2) := by decide +kernel
theorem dX11_looks_201 : decode cX11_looks 201 = .ok (.if_icmp .ne 7, 3) := by decide +kernel
theorem dX11_looks_204 : decode cX11_looks 204 = .ok (.iconst 1, 1) := by decide +kernel
theorem dX11_looks_205 : decode cX11_looks 205 = .ok (.goto 19, 3) := by decide +kernel
theorem dX11_looks_208 : decode cX11_looks 208 = .ok (.iconst 0, 1) := by decide +kernel
theorem dX11_looks_209 : decode cX11_looks 209 = .ok (.goto 15, 3) := by decide +kernel
theorem dX11_looks_212 : decode cX11_looks 212 = .ok (.iload 8, 2) := by decide +kernel
theorem dX11_looks_214 : decode cX11_looks 214 = .ok (.iload 10, 2) := by decide +kernel
theorem dX11_looks_216 : decode cX11_looks 216 = .ok (.if_icmp .le 7, 3) := by decide +kernel
theorem dX11_looks_219 : decode cX11_looks 219 = .ok (.iconst 1, 1) := by decide +kernel
theorem dX11_looks_220 : decode cX11_looks 220 = .ok (.goto 4, 3) := by decide +kernel
theorem dX11_looks_223 : decode cX11_looks 223 = .ok (.iconst 0, 1) := by decide +kernel
theorem dX11_looks_224 : decode cX11_looks 224 = .ok (.bastore, 1) := by decide +kernel
theorem dX11_looks_225 : decode cX11_looks 225 = .ok (.iinc 5 1, 3) := by decide +kernel
theorem dX11_looks_228 : decode cX11_looks 228 = .ok (.goto 195, 3) := by decide +kernel
theorem dX11_looks_231 : decode cX11_looks 231 = .ok (.iload 7, 2) := by decide +kernel
theorem dX11_looks_233 : decode cX11_looks 233 = .ok (.iconst (-1), 1) := by decide +kernel
theorem dX11_looks_234 : decode cX11_looks 234 = .ok (.if_icmp .ne 32, 3) := by decide +kernel
theorem dX11_looks_237 : decode cX11_looks 237 = .ok (.aload_n 0, 1) := by decide +kernel
theorem dX11_looks_238 : decode cX11_looks 238 = .ok (.getfield 24, 3) := by decide +kernel
theorem dX11_looks_241 : decode cX11_looks 241 = .ok (.iload 5, 2) := by decide +kernel
theorem dX11_looks_243 : decode cX11_looks 243 = .ok (.iconst 1, 1) := by decide +kernel
theorem dX11_looks_244 : decode cX11_looks 244 = .ok (.isub, 1) := by decide +kernel
theorem dX11_looks_245 : decode cX11_looks 245 = .ok (.aload_n 0, 1) := by decide +kernel
theorem dX11_looks_246 : decode cX11_looks 246 = .ok (.getfield 24, 3) := by decide +kernel
theorem dX11_looks_249 : decode cX11_looks 249 = .ok (.iload 5, 2) := by decide +kernel
theorem dX11_looks_251 : decode cX11_looks 251 = .ok (.iconst 1, 1) := by decide +kernel
theorem dX11_looks_252 : decode cX11_looks 252 = .ok (.isub, 1) := by decide +kernel
theorem dX11_looks_253 : decode cX11_looks 253 = .ok (.baload, 1) := by decide +kernel
theorem dX11_looks_254 : decode cX11_looks 254 = .ok (.ifCond .ne 7, 3) := by decide +kernel
theorem dX11_looks_257 : decode cX11_looks 257 = .ok (.iconst 1, 1) := by decide +kernel
theorem dX11_looks_258 : decode cX11_looks 258 = .ok (.goto 4, 3) := by decide +kernel
theorem dX11_looks_261 : decode cX11_looks 261 = .ok (.iconst 0, 1) := by decide +kernel
theorem dX11_looks_262 : decode cX11_looks 262 = .ok (.bastore, 1) := by decide +kernel
theorem dX11_looks_263 : decode cX11_looks 263 = .ok (.goto 160, 3) := by decide +kernel
theorem dX11_looks_266 : decode cX11_looks 266 = .ok (.iload 7, 2) := by decide +kernel
theorem dX11_looks_268 : decode cX11_looks 268 = .ok (.bipush (-10), 2) := by decide +kernel
theorem dX11_looks_270 : decode cX11_looks 270 = .ok (.if_icmp .le 82, 3) := by decide +kernel
theorem dX11_looks_273 : decode cX11_looks 273 = .ok (.iinc 5 (-1), 3) := by decide +kernel
theorem dX11_looks_276 : decode cX11_looks 276 = .ok (.aload_n 0, 1) := by decide +kernel
theorem dX11_looks_277 : decode cX11_looks 277 = .ok (.getfield 24, 3) := by decide +kernel
theorem dX11_looks_280 : decode cX11_looks 280 = .ok (.iload 5, 2) := by decide +kernel
theorem dX11_looks_282 : decode cX11_looks 282 = .ok (.iconst 1, 1) := by decide +kernel
theorem dX11_looks_283 : decode cX11_looks 283 = .ok (.isub, 1) := by decide +kernel
theorem dX11_looks_284 : decode cX11_looks 284 = .ok (.iload 7, 2) := by decide +kernel
theorem dX11_looks_286 : decode cX11_looks 286 = .ok (.bipush (-2), 2) := by decide +kernel
theorem dX11_looks_288 : decode cX11_looks 288 = .ok (.if_icmp .ne 33, 3) := by decide +kernel
theorem dX11_looks_291 : decode cX11_looks 291 = .ok (.aload_n 0, 1) := by decide +kernel
theorem dX11_looks_292 : decode cX11_looks 292 = .ok (.getfield 24, 3) := by decide +kernel
theorem dX11_looks_295 : decode cX11_looks 295 = .ok (.iload 5, 2) := by decide +kernel
theorem dX11_looks_297 : decode cX11_looks 297 = .ok (.iconst 1, 1) := by decide +kernel
theorem dX11_looks_298 : decode cX11_looks 298 = .ok (.isub, 1) := by decide +kernel
theorem dX11_looks_299 : decode cX11_looks 299 = .ok (.baload, 1) := by decide +kernel
theorem dX11_looks_300 : decode cX11_looks 300 = .ok (.ifCond .eq 17, 3) := by decide +kernel
theorem dX11_looks_303 : decode cX11_looks 303 = .ok (.aload_n 0, 1) := by decide +kernel
theorem dX11_looks_304 : decode cX11_looks 304 = .ok (.getfield 24, 3) := by decide +kernel
theorem dX11_looks_307 : decode cX11_looks 307 = .ok (.iload 5, 2) := by decide +kernel
theorem dX11_looks_309 : decode cX11_looks 309 = .ok (.baload, 1) := by decide +kernel
theorem dX11_looks_310 : decode cX11_looks 310 = .ok (.ifCond .eq 7, 3) := by decide +kernel
theorem dX11_looks_313 : decode cX11_looks 313 = .ok (.iconst 1, 1) := by decide +kernel
theorem dX11_looks_314 : decode cX11_looks 314 = .ok (.goto 34, 3) := by decide +kernel
theorem dX11_looks_317 : decode cX11_looks 317 = .ok (.iconst 0, 1) := by decide +kernel
theorem dX11_looks_318 : decode cX11_looks 318 = .ok (.goto 30, 3) := by decide +kernel
theorem dX11_looks_321 : decode cX11_looks 321 = .ok (.aload_n 0, 1) := by decide +kernel
theorem dX11_looks_322 : decode cX11_looks 322 = .ok (.getfield 24, 3) := by decide +kernel
theorem dX11_looks_325 : decode cX11_looks 325 = .ok (.iload 5, 2) := by decide +kernel
theorem dX11_looks_327 : decode cX11_looks 327 = .ok (.iconst 1, 1) := by decide +kernel
theorem dX11_looks_328 : decode cX11_looks 328 = .ok (.isub, 1) := by decide +kernel
theorem dX11_looks_329 : decode cX11_looks 329 = .ok (.baload, 1) := by decide +kernel
theorem dX11_looks_330 : decode cX11_looks 330 = .ok (.ifCond .ne 13, 3) := by decide +kernel
theorem dX11_looks_333 : decode cX11_looks 333 = .ok (.aload_n 0, 1) := by decide +kernel
theorem dX11_looks_334 : decode cX11_looks 334 = .ok (.getfield 24, 3) := by decide +kernel
theorem dX11_looks_337 : decode cX11_looks 337 = .ok (.iload 5, 2) := by decide +kernel
theorem dX11_looks_339 : decode cX11_looks 339 = .ok (.baload, 1) := by decide +kernel
theorem dX11_looks_340 : decode cX11_looks 340 = .ok (.ifCond .eq 7, 3) := by decide +kernel
theorem dX11_looks_343 : decode cX11_looks 343 = .ok (.iconst 1, 1) := by decide +kernel
theorem dX11_looks_344 : decode cX11_looks 344 = .ok (.goto 4, 3) := by decide +kernel
theorem dX11_looks_347 : decode cX11_looks 347 = .ok (.iconst 0, 1) := by decide +kernel
theorem dX11_looks_348 : decode cX11_looks 348 = .ok (.bastore, 1) := by decide +kernel
theorem dX11_looks_349 : decode cX11_looks 349 = .ok (.goto 74, 3) := by decide +kernel
theorem dX11_looks_352 : decode cX11_looks 352 = .ok (.iconst 0, 1) := by decide +kernel
theorem dX11_looks_353 : decode cX11_looks 353 = .ok (.istore 5, 2) := by decide +kernel
theorem dX11_looks_355 : decode cX11_looks 355 = .ok (.aload_n 0, 1) := by decide +kernel
theorem dX11_looks_356 : decode cX11_looks 356 = .ok (.aload_n 0, 1) := by decide +kernel
theorem dX11_looks_357 : decode cX11_looks 357 = .ok (.getfield 133, 3) := by decide +kernel
theorem dX11_looks_360 : decode cX11_looks 360 = .ok (.ifCond .ne 19, 3) := by decide +kernel
theorem dX11_looks_363 : decode cX11_looks 363 = .ok (.aload_n 0, 1) := by decide +kernel
theorem dX11_looks_364 : decode cX11_looks 364 = .ok (.getfield 24, 3) := by decide +kernel
theorem dX11_looks_367 : decode cX11_looks 367 = .ok (.iconst 0, 1) := by decide +kernel
theorem dX11_looks_368 : decode cX11_looks 368 = .ok (.baload, 1) := by decide +kernel
theorem dX11_looks_369 : decode cX11_looks 369 = .ok (.ifCond .eq 14, 3) := by decide +kernel
theorem dX11_looks_372 : decode cX11_looks 372 = .ok (.iload 7, 2) := by decide +kernel
theorem dX11_looks_374 : decode cX11_looks 374 = .ok (.bipush (-10), 2) := by decide +kernel
theorem dX11_looks_376 : decode cX11_looks 376 = .ok (.if_icmp .ne 7, 3) := by decide +kernel
theorem dX11_looks_379 : decode cX11_looks 379 = .ok (.iconst 1, 1) := by decide +kernel
theorem dX11_looks_380 : decode cX11_looks 380 = .ok (.goto 4, 3) := by decide +kernel
theorem dX11_looks_383 : decode cX11_looks 383 = .ok (.iconst 0, 1) := by decide +kernel
theorem dX11_looks_384 : decode cX11_looks 384 = .ok (.putfield 133, 3) := by decide +kernel
theorem dX11_looks_387 : decode cX11_looks 387 = .ok (.aload_n 0, 1) := by decide +kernel
theorem dX11_looks_388 : decode cX11_looks 388 = .ok (.dup, 1) := by decide +kernel
theorem dX11_looks_389 : decode cX11_looks 389 = .ok (.getfield 136, 3) := by decide +kernel
theorem dX11_looks_392 : decode cX11_looks 392 = .ok (.aload_n 0, 1) := by decide +kernel
theorem dX11_looks_393 : decode cX11_looks 393 = .ok (.getfield 24, 3) := by decide +kernel
theorem dX11_looks_396 : decode cX11_looks 396 = .ok (.iconst 0, 1) := by decide +kernel
theorem dX11_looks_397 : decode cX11_looks 397 = .ok (.baload, 1) := by decide +kernel
theorem dX11_looks_398 : decode cX11_looks 398 = .ok (.ifCond .eq 20, 3) := by decide +kernel
theorem dX11_looks_401 : decode cX11_looks 401 = .ok (.iload 7, 2) := by decide +kernel
theorem dX11_looks_403 : decode cX11_looks 403 = .ok (.sipush (-200), 3) := by decide +kernel
theorem dX11_looks_406 : decode cX11_looks 406 = .ok (.if_icmp .gt 12, 3) := by decide +kernel
theorem dX11_looks_409 : decode cX11_looks 409 = .ok (.sipush (-200), 3) := by decide +kernel
theorem dX11_looks_412 : decode cX11_looks 412 = .ok (.iload 7, 2) := by decide +kernel
theorem dX11_looks_414 : decode cX11_looks 414 = .ok (.isub, 1) := by decide +kernel
theorem dX11_looks_415 : decode cX11_looks 415 = .ok (.goto 4, 3) := by decide +kernel
theorem dX11_looks_418 : decode cX11_looks 418 = .ok (.iconst 0, 1) := by decide +kernel
theorem dX11_looks_419 : decode cX11_looks 419 = .ok (.iadd, 1) := by decide +kernel
theorem dX11_looks_420 : decode cX11_looks 420 = .ok (.putfield 136, 3) := by decide +kernel
theorem dX11_looks_423 : decode cX11_looks 423 = .ok (.iinc 6 1, 3) := by decide +kernel
theorem dX11_looks_426 : decode cX11_looks 426 = .ok (.goto (-312), 3) := by decide +kernel
theorem dX11_looks_429 : decode cX11_looks 429 = .ok (.return_, 1) := by decide +kernel
theorem dX11_fineOf_0 : decode cX11_fineOf 0 = .ok (.aload_n 0, 1) := by decide +kernel
theorem dX11_fineOf_1 : decode cX11_fineOf 1 = .ok (.iload_n 1, 1) := by decide +kernel
theorem dX11_fineOf_2 : decode cX11_fineOf 2 = .ok (.bipush 9, 2) := by decide +kernel
theorem dX11_fineOf_4 : decode cX11_fineOf 4 = .ok (.invokevirtual 143, 3) := by decide +kernel
theorem dX11_fineOf_7 : decode cX11_fineOf 7 = .ok (.aload_n 0, 1) := by decide +kernel
theorem dX11_fineOf_8 : decode cX11_fineOf 8 = .ok (.getfield 136, 3) := by decide +kernel
theorem dX11_fineOf_11 : decode cX11_fineOf 11 = .ok (.ireturn, 1) := by decide +kernel
theorem dX11_person_0 : decode cX11_person 0 = .ok (.iload_n 1, 1) := by decide +kernel
theorem dX11_person_1 : decode cX11_person 1 = .ok (.iconst 0, 1) := by decide +kernel
theorem dX11_person_2 : decode cX11_person 2 = .ok (.bipush 6, 2) := by decide +kernel
theorem dX11_person_4 : decode cX11_person 4 = .ok (.invokestatic 47, 3) := by decide +kernel
theorem dX11_person_7 : decode cX11_person 7 = .ok (.ifCond .ne 5, 3) := by decide +kernel
theorem dX11_person_10 : decode cX11_person 10 = .ok (.iconst (-1), 1) := by decide +kernel
theorem dX11_person_11 : decode cX11_person 11 = .ok (.ireturn, 1) := by decide +kernel
theorem dX11_person_12 : decode cX11_person 12 = .ok (.iload_n 2, 1) := by decide +kernel
theorem dX11_person_13 : decode cX11_person 13 = .ok (.iconst 0, 1) := by decide +kernel
theorem dX11_person_14 : decode cX11_person 14 = .ok (.bipush 9, 2) := by decide +kernel
theorem dX11_person_16 : decode cX11_person 16 = .ok (.invokestatic 47, 3) := by decide +kernel
theorem dX11_person_19 : decode cX11_person 19 = .ok (.ifCond .ne 6, 3) := by decide +kernel
theorem dX11_person_22 : decode cX11_person 22 = .ok (.bipush (-2), 2) := by decide +kernel
theorem dX11_person_24 : decode cX11_person 24 = .ok (.ireturn, 1) := by decide +kernel
theorem dX11_person_25 : decode cX11_person 25 = .ok (.aload_n 0, 1) := by decide +kernel
theorem dX11_person_26 : decode cX11_person 26 = .ok (.getfield 9, 3) := by decide +kernel
theorem dX11_person_29 : decode cX11_person 29 = .ok (.bipush 18, 2) := by decide +kernel
theorem dX11_person_31 : decode cX11_person 31 = .ok (.iaload, 1) := by decide +kernel
theorem dX11_person_32 : decode cX11_person 32 = .ok (.bipush 7, 2) := by decide +kernel
theorem dX11_person_34 : decode cX11_person 34 = .ok (.if_icmp .ne 6, 3) := by decide +kernel
theorem dX11_person_37 : decode cX11_person 37 = .ok (.bipush (-4), 2) := by decide +kernel
theorem dX11_person_39 : decode cX11_person 39 = .ok (.ireturn, 1) := by decide +kernel
theorem dX11_person_40 : decode cX11_person 40 = .ok (.aload_n 0, 1) := by decide +kernel
theorem dX11_person_41 : decode cX11_person 41 = .ok (.getfield 9, 3) := by decide +kernel
theorem dX11_person_44 : decode cX11_person 44 = .ok (.bipush 18, 2) := by decide +kernel
theorem dX11_person_46 : decode cX11_person 46 = .ok (.iaload, 1) := by decide +kernel
theorem dX11_person_47 : decode cX11_person 47 = .ok (.istore_n 3, 1) := by decide +kernel
theorem dX11_person_48 : decode cX11_person 48 = .ok (.aload_n 0, 1) := by decide +kernel
theorem dX11_person_49 : decode cX11_person 49 = .ok (.getfield 9, 3) := by decide +kernel
theorem dX11_person_52 : decode cX11_person 52 = .ok (.bipush 24, 2) := by decide +kernel
theorem dX11_person_54 : decode cX11_person 54 = .ok (.iload_n 3, 1) := by decide +kernel
theorem dX11_person_55 : decode cX11_person 55 = .ok (.iadd, 1) := by decide +kernel
theorem dX11_person_56 : decode cX11_person 56 = .ok (.iload_n 1, 1) := by decide +kernel
theorem dX11_person_57 : decode cX11_person 57 = .ok (.iastore, 1) := by decide +kernel
theorem dX11_person_58 : decode cX11_person 58 = .ok (.aload_n 0, 1) := by decide +kernel
theorem dX11_person_59 : decode cX11_person 59 = .ok (.getfield 9, 3) := by decide +kernel
theorem dX11_person_62 : decode cX11_person 62 = .ok (.bipush 31, 2) := by decide +kernel
theorem dX11_person_64 : decode cX11_person 64 = .ok (.iload_n 3, 1) := by decide +kernel
theorem dX11_person_65 : decode cX11_person 65 = .ok (.iadd, 1) := by decide +kernel
theorem dX11_person_66 : decode cX11_person 66 = .ok (.iload_n 2, 1) := by decide +kernel
theorem dX11_person_67 : decode cX11_person 67 = .ok (.iastore, 1) := by decide +kernel
theorem dX11_person_68 : decode cX11_person 68 = .ok (.aload_n 0, 1) := by decide +kernel
theorem dX11_person_69 : decode cX11_person 69 = .ok (.getfield 9, 3) := by decide +kernel
theorem dX11_person_72 : decode cX11_person 72 = .ok (.bipush 38, 2) := by decide +kernel
theorem dX11_person_74 : decode cX11_person 74 = .ok (.iload_n 3, 1) := by decide +kernel
theorem dX11_person_75 : decode cX11_person 75 = .ok (.iadd, 1) := by decide +kernel
theorem dX11_person_76 : decode cX11_person 76 = .ok (.iconst 0, 1) := by decide +kernel
theorem dX11_person_77 : decode cX11_person 77 = .ok (.iastore, 1) := by decide +kernel
theorem dX11_person_78 : decode cX11_person 78 = .ok (.aload_n 0, 1) := by decide +kernel
theorem dX11_person_79 : decode cX11_person 79 = .ok (.getfield 9, 3) := by decide +kernel
theorem dX11_person_82 : decode cX11_person 82 = .ok (.bipush 45, 2) := by decide +kernel
theorem dX11_person_84 : decode cX11_person 84 = .ok (.iload_n 3, 1) := by decide +kernel
theorem dX11_person_85 : decode cX11_person 85 = .ok (.iadd, 1) := by decide +kernel
theorem dX11_person_86 : decode cX11_person 86 = .ok (.iconst 0, 1) := by decide +kernel
theorem dX11_person_87 : decode cX11_person 87 = .ok (.iastore, 1) := by decide +kernel
theorem dX11_person_88 : decode cX11_person 88 = .ok (.aload_n 0, 1) := by decide +kernel
theorem dX11_person_89 : decode cX11_person 89 = .ok (.getfield 9, 3) := by decide +kernel
theorem dX11_person_92 : decode cX11_person 92 = .ok (.iconst 4, 1) := by decide +kernel
theorem dX11_person_93 : decode cX11_person 93 = .ok (.iload_n 3, 1) := by decide +kernel
theorem dX11_person_94 : decode cX11_person 94 = .ok (.iadd, 1) := by decide +kernel
theorem dX11_person_95 : decode cX11_person 95 = .ok (.iconst 0, 1) := by decide +kernel
theorem dX11_person_96 : decode cX11_person 96 = .ok (.iastore, 1) := by decide +kernel
theorem dX11_person_97 : decode cX11_person 97 = .ok (.aload_n 0, 1) := by decide +kernel
theorem dX11_person_98 : decode cX11_person 98 = .ok (.getfield 9, 3) := by decide +kernel
theorem dX11_person_101 : decode cX11_person 101 = .ok (.bipush 11, 2) := by decide +kernel
theorem dX11_person_103 : decode cX11_person 103 = .ok (.iload_n 3, 1) := by decide +kernel
theorem dX11_person_104 : decode cX11_person 104 = .ok (.iadd, 1) := by decide +kernel
theorem dX11_person_105 : decode cX11_person 105 = .ok (.iconst 0, 1) := by decide +kernel
theorem dX11_person_106 : decode cX11_person 106 = .ok (.iastore, 1) := by decide +kernel
theorem dX11_person_107 : decode cX11_person 107 = .ok (.aload_n 0, 1) := by decide +kernel
theorem dX11_person_108 : decode cX11_person 108 = .ok (.getfield 9, 3) := by decide +kernel
theorem dX11_person_111 : decode cX11_person 111 = .ok (.bipush 18, 2) := by decide +kernel
theorem dX11_person_113 : decode cX11_person 113 = .ok (.dup2, 1) := by decide +kernel
theorem dX11_person_114 : decode cX11_person 114 = .ok (.iaload, 1) := by decide +kernel
theorem dX11_person_115 : decode cX11_person 115 = .ok (.iconst 1, 1) := by decide +kernel
theorem dX11_person_116 : decode cX11_person 116 = .ok (.iadd, 1) := by decide +kernel
theorem dX11_person_117 : decode cX11_person 117 = .ok (.iastore, 1) := by decide +kernel
theorem dX11_person_118 : decode cX11_person 118 = .ok (.iload_n 3, 1) := by decide +kernel
theorem dX11_person_119 : decode cX11_person 119 = .ok (.ireturn, 1) := by decide +kernel
theorem dX11_hasHeard_0 : decode cX11_hasHeard 0 = .ok (.aload_n 0, 1) := by decide +kernel
theorem dX11_hasHeard_1 : decode cX11_hasHeard 1 = .ok (.getfield 9, 3) := by decide +kernel
theorem dX11_hasHeard_4 : decode cX11_hasHeard 4 = .ok (.iconst 2, 1) := by decide +kernel
theorem dX11_hasHeard_5 : decode cX11_hasHeard 5 = .ok (.iaload, 1) := by decide +kernel
theorem dX11_hasHeard_6 : decode cX11_hasHeard 6 = .ok (.iload_n 1, 1) := by decide +kernel
theorem dX11_hasHeard_7 : decode cX11_hasHeard 7 = .ok (.ishr, 1) := by decide +kernel
theorem dX11_hasHeard_8 : decode cX11_hasHeard 8 = .ok (.iconst 1, 1) := by decide +kernel
theorem dX11_hasHeard_9 : decode cX11_hasHeard 9 = .ok (.iand, 1) := by decide +kernel
theorem dX11_hasHeard_10 : decode cX11_hasHeard 10 = .ok (.iconst 1, 1) := by decide +kernel
theorem dX11_hasHeard_11 : decode cX11_hasHeard 11 = .ok (.if_icmp .ne 7, 3) := by decide +kernel
theorem dX11_hasHeard_14 : decode cX11_hasHeard 14 = .ok (.iconst 1, 1) := by decide +kernel
theorem dX11_hasHeard_15 : decode cX11_hasHeard 15 = .ok (.goto 4, 3) := by decide +kernel
theorem dX11_hasHeard_18 : decode cX11_hasHeard 18 = .ok (.iconst 0, 1) := by decide +kernel
theorem dX11_hasHeard_19 : decode cX11_hasHeard 19 = .ok (.ireturn, 1) := by decide +kernel
theorem dX11_hasTold_0 : decode cX11_hasTold 0 = .ok (.aload_n 0, 1) := by decide +kernel
theorem dX11_hasTold_1 : decode cX11_hasTold 1 = .ok (.getfield 9, 3) := by decide +kernel
theorem dX11_hasTold_4 : decode cX11_hasTold 4 = .ok (.iconst 3, 1) := by decide +kernel
theorem dX11_hasTold_5 : decode cX11_hasTold 5 = .ok (.iaload, 1) := by decide +kernel
theorem dX11_hasTold_6 : decode cX11_hasTold 6 = .ok (.iload_n 1, 1) := by decide +kernel
theorem dX11_hasTold_7 : decode cX11_hasTold 7 = .ok (.ishr, 1) := by decide +kernel
theorem dX11_hasTold_8 : decode cX11_hasTold 8 = .ok (.iconst 1, 1) := by decide +kernel
theorem dX11_hasTold_9 : decode cX11_hasTold 9 = .ok (.iand, 1) := by decide +kernel
theorem dX11_hasTold_10 : decode cX11_hasTold 10 = .ok (.iconst 1, 1) := by decide +kernel
theorem dX11_hasTold_11 : decode cX11_hasTold 11 = .ok (.if_icmp .ne 7, 3) := by decide +kernel
theorem dX11_hasTold_14 : decode cX11_hasTold 14 = .ok (.iconst 1, 1) := by decide +kernel
theorem dX11_hasTold_15 : decode cX11_hasTold 15 = .ok (.goto 4, 3) := by decide +kernel
theorem dX11_hasTold_18 : decode cX11_hasTold 18 = .ok (.iconst 0, 1) := by decide +kernel
theorem dX11_hasTold_19 : decode cX11_hasTold 19 = .ok (.ireturn, 1) := by decide +kernel
theorem dX11_mayOf_0 : decode cX11_mayOf 0 = .ok (.iconst 0, 1) := by decide +kernel
theorem dX11_mayOf_1 : decode cX11_mayOf 1 = .ok (.istore_n 2, 1) := by decide +kernel
theorem dX11_mayOf_2 : decode cX11_mayOf 2 = .ok (.iconst 0, 1) := by decide +kernel
theorem dX11_mayOf_3 : decode cX11_mayOf 3 = .ok (.istore_n 3, 1) := by decide +kernel
theorem dX11_mayOf_4 : decode cX11_mayOf 4 = .ok (.iload_n 3, 1) := by decide +kernel
theorem dX11_mayOf_5 : decode cX11_mayOf 5 = .ok (.aload_n 0, 1) := by decide +kernel
theorem dX11_mayOf_6 : decode cX11_mayOf 6 = .ok (.getfield 9, 3) := by decide +kernel
theorem dX11_mayOf_9 : decode cX11_mayOf 9 = .ok (.bipush 18, 2) := by decide +kernel
theorem dX11_mayOf_11 : decode cX11_mayOf 11 = .ok (.iaload, 1) := by decide +kernel
theorem dX11_mayOf_12 : decode cX11_mayOf 12 = .ok (.if_icmp .ge 57, 3) := by decide +kernel
theorem dX11_mayOf_15 : decode cX11_mayOf 15 = .ok (.aload_n 0, 1) := by decide +kernel
theorem dX11_mayOf_16 : decode cX11_mayOf 16 = .ok (.getfield 9, 3) := by decide +kernel
theorem dX11_mayOf_19 : decode cX11_mayOf 19 = .ok (.bipush 38, 2) := by decide +kernel
theorem dX11_mayOf_21 : decode cX11_mayOf 21 = .ok (.iload_n 1, 1) := by decide +kernel
theorem dX11_mayOf_22 : decode cX11_mayOf 22 = .ok (.iadd, 1) := by decide +kernel
theorem dX11_mayOf_23 : decode cX11_mayOf 23 = .ok (.iaload, 1) := by decide +kernel
theorem dX11_mayOf_24 : decode cX11_mayOf 24 = .ok (.iload_n 3, 1) := by decide +kernel
theorem dX11_mayOf_25 : decode cX11_mayOf 25 = .ok (.ishr, 1) := by decide +kernel
theorem dX11_mayOf_26 : decode cX11_mayOf 26 = .ok (.iconst 1, 1) := by decide +kernel
theorem dX11_mayOf_27 : decode cX11_mayOf 27 = .ok (.iand, 1) := by decide +kernel
theorem dX11_mayOf_28 : decode cX11_mayOf 28 = .ok (.iconst 1, 1) := by decide +kernel
theorem dX11_mayOf_29 : decode cX11_mayOf 29 = .ok (.if_icmp .ne 34, 3) := by decide +kernel
theorem dX11_mayOf_32 : decode cX11_mayOf 32 = .ok (.aload_n 0, 1) := by decide +kernel
theorem dX11_mayOf_33 : decode cX11_mayOf 33 = .ok (.iload_n 3, 1) := by decide +kernel
theorem dX11_mayOf_34 : decode cX11_mayOf 34 = .ok (.invokevirtual 129, 3) := by decide +kernel
theorem dX11_mayOf_37 : decode cX11_mayOf 37 = .ok (.ifCond .ne 26, 3) := by decide +kernel
theorem dX11_mayOf_40 : decode cX11_mayOf 40 = .ok (.aload_n 0, 1) := by decide +kernel
theorem dX11_mayOf_41 : decode cX11_mayOf 41 = .ok (.iload_n 1, 1) := by decide +kernel
theorem dX11_mayOf_42 : decode cX11_mayOf 42 = .ok (.iload_n 3, 1) := by decide +kernel
theorem dX11_mayOf_43 : decode cX11_mayOf 43 = .ok (.invokevirtual 143, 3) := by decide +kernel
theorem dX11_mayOf_46 : decode cX11_mayOf 46 = .ok (.iload_n 2, 1) := by decide +kernel
theorem dX11_mayOf_47 : decode cX11_mayOf 47 = .ok (.aload_n 0, 1) := by decide +kernel
theorem dX11_mayOf_48 : decode cX11_mayOf 48 = .ok (.getfield 133, 3) := by decide +kernel
theorem dX11_mayOf_51 : decode cX11_mayOf 51 = .ok (.ifCond .eq 7, 3) := by decide +kernel
theorem dX11_mayOf_54 : decode cX11_mayOf 54 = .ok (.iconst 0, 1) := by decide +kernel
theorem dX11_mayOf_55 : decode cX11_mayOf 55 = .ok (.goto 6, 3) := by decide +kernel
theorem dX11_mayOf_58 : decode cX11_mayOf 58 = .ok (.iconst 1, 1) := by decide +kernel
theorem dX11_mayOf_59 : decode cX11_mayOf 59 = .ok (.iload_n 3, 1) := by decide +kernel
theorem dX11_mayOf_60 : decode cX11_mayOf 60 = .ok (.ishl, 1) := by decide +kernel
theorem dX11_mayOf_61 : decode cX11_mayOf 61 = .ok (.ior, 1) := by decide +kernel
theorem dX11_mayOf_62 : decode cX11_mayOf 62 = .ok (.istore_n 2, 1) := by decide +kernel
theorem dX11_mayOf_63 : decode cX11_mayOf 63 = .ok (.iinc 3 1, 3) := by decide +kernel
theorem dX11_mayOf_66 : decode cX11_mayOf 66 = .ok (.goto (-62), 3) := by decide +kernel
theorem dX11_mayOf_69 : decode cX11_mayOf 69 = .ok (.iload_n 2, 1) := by decide +kernel
theorem dX11_mayOf_70 : decode cX11_mayOf 70 = .ok (.ireturn, 1) := by decide +kernel
theorem dX11_askedOf_0 : decode cX11_askedOf 0 = .ok (.aload_n 0, 1) := by decide +kernel
theorem dX11_askedOf_1 : decode cX11_askedOf 1 = .ok (.getfield 9, 3) := by decide +kernel
theorem dX11_askedOf_4 : decode cX11_askedOf 4 = .ok (.iconst 4, 1) := by decide +kernel
theorem dX11_askedOf_5 : decode cX11_askedOf 5 = .ok (.iload_n 1, 1) := by decide +kernel
theorem dX11_askedOf_6 : decode cX11_askedOf 6 = .ok (.iadd, 1) := by decide +kernel
theorem dX11_askedOf_7 : decode cX11_askedOf 7 = .ok (.iaload, 1) := by decide +kernel
theorem dX11_askedOf_8 : decode cX11_askedOf 8 = .ok (.istore_n 2, 1) := by decide +kernel
theorem dX11_askedOf_9 : decode cX11_askedOf 9 = .ok (.aload_n 0, 1) := by decide +kernel
theorem dX11_askedOf_10 : decode cX11_askedOf 10 = .ok (.getfield 9, 3) := by decide +kernel
theorem dX11_askedOf_13 : decode cX11_askedOf 13 = .ok (.bipush 24, 2) := by decide +kernel
theorem dX11_askedOf_15 : decode cX11_askedOf 15 = .ok (.iload_n 1, 1) := by decide +kernel
theorem dX11_askedOf_16 : decode cX11_askedOf 16 = .ok (.iadd, 1) := by decide +kernel
theorem dX11_askedOf_17 : decode cX11_askedOf 17 = .ok (.iaload, 1) := by decide +kernel
theorem dX11_askedOf_18 : decode cX11_askedOf 18 = .ok (.istore_n 3, 1) := by decide +kernel
theorem dX11_askedOf_19 : decode cX11_askedOf 19 = .ok (.iload_n 3, 1) := by decide +kernel
theorem dX11_askedOf_20 : decode cX11_askedOf 20 = .ok (.iconst 2, 1) := by decide +kernel
theorem dX11_askedOf_21 : decode cX11_askedOf 21 = .ok (.if_icmp .eq 8, 3) := by decide +kernel
theorem dX11_askedOf_24 : decode cX11_askedOf 24 = .ok (.iload_n 3, 1) := by decide +kernel
theorem dX11_askedOf_25 : decode cX11_askedOf 25 = .ok (.iconst 5, 1) := by decide +kernel
theorem dX11_askedOf_26 : decode cX11_askedOf 26 = .ok (.if_icmp .ne 22, 3) := by decide +kernel
theorem dX11_askedOf_29 : decode cX11_askedOf 29 = .ok (.iload_n 2, 1) := by decide +kernel
theorem dX11_askedOf_30 : decode cX11_askedOf 30 = .ok (.aload_n 0, 1) := by decide +kernel
theorem dX11_askedOf_31 : decode cX11_askedOf 31 = .ok (.getfield 9, 3) := by decide +kernel
theorem dX11_askedOf_34 : decode cX11_askedOf 34 = .ok (.bipush 31, 2) := by decide +kernel
theorem dX11_askedOf_36 : decode cX11_askedOf 36 = .ok (.iload_n 1, 1) := by decide +kernel
theorem dX11_askedOf_37 : decode cX11_askedOf 37 = .ok (.iadd, 1) := by decide +kernel
theorem dX11_askedOf_38 : decode cX11_askedOf 38 = .ok (.iaload, 1) := by decide +kernel
theorem dX11_askedOf_39 : decode cX11_askedOf 39 = .ok (.iconst 3, 1) := by decide +kernel
theorem dX11_askedOf_40 : decode cX11_askedOf 40 = .ok (.irem, 1) := by decide +kernel
theorem dX11_askedOf_41 : decode cX11_askedOf 41 = .ok (.if_icmp .gt 7, 3) := by decide +kernel
theorem dX11_askedOf_44 : decode cX11_askedOf 44 = .ok (.iconst 1, 1) := by decide +kernel
theorem dX11_askedOf_45 : decode cX11_askedOf 45 = .ok (.goto 4, 3) := by decide +kernel
theorem dX11_askedOf_48 : decode cX11_askedOf 48 = .ok (.iconst 0, 1) := by decide +kernel
theorem dX11_askedOf_49 : decode cX11_askedOf 49 = .ok (.istore 4, 2) := by decide +kernel
theorem dX11_askedOf_51 : decode cX11_askedOf 51 = .ok (.iload 4, 2) := by decide +kernel
theorem dX11_askedOf_53 : decode cX11_askedOf 53 = .ok (.ifCond .eq 7, 3) := by decide +kernel
theorem dX11_askedOf_56 : decode cX11_askedOf 56 = .ok (.iconst 0, 1) := by decide +kernel
theorem dX11_askedOf_57 : decode cX11_askedOf 57 = .ok (.goto 15, 3) := by decide +kernel
theorem dX11_askedOf_60 : decode cX11_askedOf 60 = .ok (.iload_n 2, 1) := by decide +kernel
theorem dX11_askedOf_61 : decode cX11_askedOf 61 = .ok (.iload_n 3, 1) := by decide +kernel
theorem dX11_askedOf_62 : decode cX11_askedOf 62 = .ok (.iconst 4, 1) := by decide +kernel
theorem dX11_askedOf_63 : decode cX11_askedOf 63 = .ok (.if_icmp .ne 7, 3) := by decide +kernel
theorem dX11_askedOf_66 : decode cX11_askedOf 66 = .ok (.iconst 1, 1) := by decide +kernel
theorem dX11_askedOf_67 : decode cX11_askedOf 67 = .ok (.goto 4, 3) := by decide +kernel
theorem dX11_askedOf_70 : decode cX11_askedOf 70 = .ok (.iconst 0, 1) := by decide +kernel
theorem dX11_askedOf_71 : decode cX11_askedOf 71 = .ok (.iadd, 1) := by decide +kernel
theorem dX11_askedOf_72 : decode cX11_askedOf 72 = .ok (.ireturn, 1) := by decide +kernel
theorem dX11_firstOf_0 : decode cX11_firstOf 0 = .ok (.aload_n 0, 1) := by decide +kernel
theorem dX11_firstOf_1 : decode cX11_firstOf 1 = .ok (.getfield 9, 3) := by decide +kernel
theorem dX11_firstOf_4 : decode cX11_firstOf 4 = .ok (.bipush 24, 2) := by decide +kernel
theorem dX11_firstOf_6 : decode cX11_firstOf 6 = .ok (.iload_n 1, 1) := by decide +kernel
theorem dX11_firstOf_7 : decode cX11_firstOf 7 = .ok (.iadd, 1) := by decide +kernel
theorem dX11_firstOf_8 : decode cX11_firstOf 8 = .ok (.iaload, 1) := by decide +kernel
theorem dX11_firstOf_9 : decode cX11_firstOf 9 = .ok (.istore_n 3, 1) := by decide +kernel
theorem dX11_firstOf_10 : decode cX11_firstOf 10 = .ok (.iconst 0, 1) := by decide +kernel
theorem dX11_firstOf_11 : decode cX11_firstOf 11 = .ok (.istore 4, 2) := by decide +kernel
theorem dX11_firstOf_13 : decode cX11_firstOf 13 = .ok (.iload 4, 2) := by decide +kernel
theorem dX11_firstOf_15 : decode cX11_firstOf 15 = .ok (.aload_n 0, 1) := by decide +kernel
theorem dX11_firstOf_16 : decode cX11_firstOf 16 = .ok (.getfield 9, 3) := by decide +kernel
theorem dX11_firstOf_19 : decode cX11_firstOf 19 = .ok (.bipush 45, 2) := by decide +kernel
theorem dX11_firstOf_21 : decode cX11_firstOf 21 = .ok (.iload_n 1, 1) := by decide +kernel
theorem dX11_firstOf_22 : decode cX11_firstOf 22 = .ok (.iadd, 1) := by decide +kernel
theorem dX11_firstOf_23 : decode cX11_firstOf 23 = .ok (.iaload, 1) := by decide +kernel
theorem dX11_firstOf_24 : decode cX11_firstOf 24 = .ok (.if_icmp .ge 48, 3) := by decide +kernel
theorem dX11_firstOf_27 : decode cX11_firstOf 27 = .ok (.iload_n 2, 1) := by decide +kernel
theorem dX11_firstOf_28 : decode cX11_firstOf 28 = .ok (.aload_n 0, 1) := by decide +kernel
theorem dX11_firstOf_29 : decode cX11_firstOf 29 = .ok (.getfield 9, 3) := by decide +kernel
theorem dX11_firstOf_32 : decode cX11_firstOf 32 = .ok (.bipush 52, 2) := by decide +kernel
theorem dX11_firstOf_34 : decode cX11_firstOf 34 = .ok (.bipush 7, 2) := by decide +kernel
theorem dX11_firstOf_36 : decode cX11_firstOf 36 = .ok (.iload_n 1, 1) := by decide +kernel
theorem dX11_firstOf_37 : decode cX11_firstOf 37 = .ok (.imul, 1) := by decide +kernel
theorem dX11_firstOf_38 : decode cX11_firstOf 38 = .ok (.iadd, 1) := by decide +kernel
theorem dX11_firstOf_39 : decode cX11_firstOf 39 = .ok (.iload 4, 2) := by decide +kernel
theorem dX11_firstOf_41 : decode cX11_firstOf 41 = .ok (.iadd, 1) := by decide +kernel
theorem dX11_firstOf_42 : decode cX11_firstOf 42 = .ok (.iaload, 1) := by decide +kernel
theorem dX11_firstOf_43 : decode cX11_firstOf 43 = .ok (.ishr, 1) := by decide +kernel
theorem dX11_firstOf_44 : decode cX11_firstOf 44 = .ok (.iconst 1, 1) := by decide +kernel
theorem dX11_firstOf_45 : decode cX11_firstOf 45 = .ok (.iand, 1) := by decide +kernel
theorem dX11_firstOf_46 : decode cX11_firstOf 46 = .ok (.iconst 1, 1) := by decide +kernel
theorem dX11_firstOf_47 : decode cX11_firstOf 47 = .ok (.if_icmp .ne 19, 3) := by decide +kernel
theorem dX11_firstOf_50 : decode cX11_firstOf 50 = .ok (.aload_n 0, 1) := by decide +kernel
theorem dX11_firstOf_51 : decode cX11_firstOf 51 = .ok (.getfield 9, 3) := by decide +kernel
theorem dX11_firstOf_54 : decode cX11_firstOf 54 = .ok (.bipush 52, 2) := by decide +kernel
theorem dX11_firstOf_56 : decode cX11_firstOf 56 = .ok (.bipush 7, 2) := by decide +kernel
theorem dX11_firstOf_58 : decode cX11_firstOf 58 = .ok (.iload_n 1, 1) := by decide +kernel
theorem dX11_firstOf_59 : decode cX11_firstOf 59 = .ok (.imul, 1) := by decide +kernel
theorem dX11_firstOf_60 : decode cX11_firstOf 60 = .ok (.iadd, 1) := by decide +kernel
theorem dX11_firstOf_61 : decode cX11_firstOf 61 = .ok (.iload 4, 2) := by decide +kernel
theorem dX11_firstOf_63 : decode cX11_firstOf 63 = .ok (.iadd, 1) := by decide +kernel
theorem dX11_firstOf_64 : decode cX11_firstOf 64 = .ok (.iaload, 1) := by decide +kernel
theorem dX11_firstOf_65 : decode cX11_firstOf 65 = .ok (.ireturn, 1) := by decide +kernel
theorem dX11_firstOf_66 : decode cX11_firstOf 66 = .ok (.iinc 4 1, 3) := by decide +kernel
theorem dX11_firstOf_69 : decode cX11_firstOf 69 = .ok (.goto (-56), 3) := by decide +kernel
theorem dX11_firstOf_72 : decode cX11_firstOf 72 = .ok (.iconst (-1), 1) := by decide +kernel
theorem dX11_firstOf_73 : decode cX11_firstOf 73 = .ok (.istore 4, 2) := by decide +kernel
theorem dX11_firstOf_75 : decode cX11_firstOf 75 = .ok (.iconst 0, 1) := by decide +kernel
theorem dX11_firstOf_76 : decode cX11_firstOf 76 = .ok (.istore 5, 2) := by decide +kernel
theorem dX11_firstOf_78 : decode cX11_firstOf 78 = .ok (.iload 5, 2) := by decide +kernel
theorem dX11_firstOf_80 : decode cX11_firstOf 80 = .ok (.aload_n 0, 1) := by decide +kernel
theorem dX11_firstOf_81 : decode cX11_firstOf 81 = .ok (.getfield 9, 3) := by decide +kernel
theorem dX11_firstOf_84 : decode cX11_firstOf 84 = .ok (.bipush 18, 2) := by decide +kernel
theorem dX11_firstOf_86 : decode cX11_firstOf 86 = .ok (.iaload, 1) := by decide +kernel
theorem dX11_firstOf_87 : decode cX11_firstOf 87 = .ok (.if_icmp .ge 102, 3) := by decide +kernel
theorem dX11_firstOf_90 : decode cX11_firstOf 90 = .ok (.iload_n 3, 1) := by decide +kernel
theorem dX11_firstOf_91 : decode cX11_firstOf 91 = .ok (.iconst 3, 1) := by decide +kernel
theorem dX11_firstOf_92 : decode cX11_firstOf 92 = .ok (.if_icmp .eq 54, 3) := by decide +kernel
theorem dX11_firstOf_95 : decode cX11_firstOf 95 = .ok (.iload_n 3, 1) := by decide +kernel
theorem dX11_firstOf_96 : decode cX11_firstOf 96 = .ok (.bipush 6, 2) := by decide +kernel
theorem dX11_firstOf_98 : decode cX11_firstOf 98 = .ok (.if_icmp .eq 48, 3) := by decide +kernel
theorem dX11_firstOf_101 : decode cX11_firstOf 101 = .ok (.iload_n 3, 1) := by decide +kernel
theorem dX11_firstOf_102 : decode cX11_firstOf 102 = .ok (.iconst 1, 1) := by decide +kernel
theorem dX11_firstOf_103 : decode cX11_firstOf 103 = .ok (.if_icmp .eq 8, 3) := by decide +kernel
theorem dX11_firstOf_106 : decode cX11_firstOf 106 = .ok (.iload_n 3, 1) := by decide +kernel
theorem dX11_firstOf_107 : decode cX11_firstOf 107 = .ok (.iconst 4, 1) := by decide +kernel
theorem dX11_firstOf_108 : decode cX11_firstOf 108 = .ok (.if_icmp .ne 42, 3) := by decide +kernel
theorem dX11_firstOf_111 : decode cX11_firstOf 111 = .ok (.iload 4, 2) := by decide +kernel
theorem dX11_firstOf_113 : decode cX11_firstOf 113 = .ok (.iconst (-1), 1) := by decide +kernel
theorem dX11_firstOf_114 : decode cX11_firstOf 114 = .ok (.if_icmp .eq 36, 3) := by decide +kernel
theorem dX11_firstOf_117 : decode cX11_firstOf 117 = .ok (.aload_n 0, 1) := by decide +kernel
theorem dX11_firstOf_118 : decode cX11_firstOf 118 = .ok (.getfield 9, 3) := by decide +kernel
theorem dX11_firstOf_121 : decode cX11_firstOf 121 = .ok (.bipush 38, 2) := by decide +kernel
theorem dX11_firstOf_123 : decode cX11_firstOf 123 = .ok (.iload 5, 2) := by decide +kernel
theorem dX11_firstOf_125 : decode cX11_firstOf 125 = .ok (.iadd, 1) := by decide +kernel
theorem dX11_firstOf_126 : decode cX11_firstOf 126 = .ok (.iaload, 1) := by decide +kernel
theorem dX11_firstOf_127 : decode cX11_firstOf 127 = .ok (.invokestatic 147, 3) := by decide +kernel
theorem dX11_firstOf_130 : decode cX11_firstOf 130 = .ok (.aload_n 0, 1) := by decide +kernel
theorem dX11_firstOf_131 : decode cX11_firstOf 131 = .ok (.getfield 9, 3) := by decide +kernel
theorem dX11_firstOf_134 : decode cX11_firstOf 134 = .ok (.bipush 38, 2) := by decide +kernel
theorem dX11_firstOf_136 : decode cX11_firstOf 136 = .ok (.iload 4, 2) := by decide +kernel
theorem dX11_firstOf_138 : decode cX11_firstOf 138 = .ok (.iadd, 1) := by decide +kernel
theorem dX11_firstOf_139 : decode cX11_firstOf 139 = .ok (.iaload, 1) := by decide +kernel
theorem dX11_firstOf_140 : decode cX11_firstOf 140 = .ok (.invokestatic 147, 3) := by decide +kernel
theorem dX11_firstOf_143 : decode cX11_firstOf 143 = .ok (.if_icmp .le 7, 3) := by decide +kernel
theorem dX11_firstOf_146 : decode cX11_firstOf 146 = .ok (.iconst 1, 1) := by decide +kernel
theorem dX11_firstOf_147 : decode cX11_firstOf 147 = .ok (.goto 4, 3) := by decide +kernel
theorem dX11_firstOf_150 : decode cX11_firstOf 150 = .ok (.iconst 0, 1) := by decide +kernel
theorem dX11_firstOf_151 : decode cX11_firstOf 151 = .ok (.istore 6, 2) := by decide +kernel
theorem dX11_firstOf_153 : decode cX11_firstOf 153 = .ok (.iload_n 2, 1) := by decide +kernel
theorem dX11_firstOf_154 : decode cX11_firstOf 154 = .ok (.iload 5, 2) := by decide +kernel
theorem dX11_firstOf_156 : decode cX11_firstOf 156 = .ok (.ishr, 1) := by decide +kernel
theorem dX11_firstOf_157 : decode cX11_firstOf 157 = .ok (.iconst 1, 1) := by decide +kernel
theorem dX11_firstOf_158 : decode cX11_firstOf 158 = .ok (.iand, 1) := by decide +kernel
theorem dX11_firstOf_159 : decode cX11_firstOf 159 = .ok (.iconst 1, 1) := by decide +kernel
theorem dX11_firstOf_160 : decode cX11_firstOf 160 = .ok (.if_icmp .ne 19, 3) := by decide +kernel
theorem dX11_firstOf_163 : decode cX11_firstOf 163 = .ok (.iload 4, 2) := by decide +kernel
theorem dX11_firstOf_165 : decode cX11_firstOf 165 = .ok (.iconst (-1), 1) := by decide +kernel
theorem dX11_firstOf_166 : decode cX11_firstOf 166 = .ok (.if_icmp .eq 8, 3) := by decide +kernel
theorem dX11_firstOf_169 : decode cX11_firstOf 169 = .ok (.iload 6, 2) := by decide +kernel
theorem dX11_firstOf_171 : decode cX11_firstOf 171 = .ok (.ifCond .eq 8, 3) := by decide +kernel
theorem dX11_firstOf_174 : decode cX11_firstOf 174 = .ok (.iload 5, 2) := by decide +kernel
theorem dX11_firstOf_176 : decode cX11_firstOf 176 = .ok (.goto 5, 3) := by decide +kernel
theorem dX11_firstOf_179 : decode cX11_firstOf 179 = .ok (.iload 4, 2) := by decide +kernel
theorem dX11_firstOf_181 : decode cX11_firstOf 181 = .ok (.istore 4, 2) := by decide +kernel
theorem dX11_firstOf_183 : decode cX11_firstOf 183 = .ok (.iinc 5 1, 3) := by decide +kernel
theorem dX11_firstOf_186 : decode cX11_firstOf 186 = .ok (.goto (-108), 3) := by decide +kernel
theorem dX11_firstOf_189 : decode cX11_firstOf 189 = .ok (.iload 4, 2) := by decide +kernel
theorem dX11_firstOf_191 : decode cX11_firstOf 191 = .ok (.ireturn, 1) := by decide +kernel
theorem dX11_choiceOf_0 : decode cX11_choiceOf 0 = .ok (.aload_n 0, 1) := by decide +kernel
theorem dX11_choiceOf_1 : decode cX11_choiceOf 1 = .ok (.iload_n 1, 1) := by decide +kernel
theorem dX11_choiceOf_2 : decode cX11_choiceOf 2 = .ok (.invokevirtual 151, 3) := by decide +kernel
theorem dX11_choiceOf_5 : decode cX11_choiceOf 5 = .ok (.istore_n 2, 1) := by decide +kernel
theorem dX11_choiceOf_6 : decode cX11_choiceOf 6 = .ok (.iconst 0, 1) := by decide +kernel
theorem dX11_choiceOf_7 : decode cX11_choiceOf 7 = .ok (.istore_n 3, 1) := by decide +kernel
theorem dX11_choiceOf_8 : decode cX11_choiceOf 8 = .ok (.iconst 0, 1) := by decide +kernel
theorem dX11_choiceOf_9 : decode cX11_choiceOf 9 = .ok (.istore 4, 2) := by decide +kernel
theorem dX11_choiceOf_11 : decode cX11_choiceOf 11 = .ok (.iload 4, 2) := by decide +kernel
theorem dX11_choiceOf_13 : decode cX11_choiceOf 13 = .ok (.aload_n 0, 1) := by decide +kernel
theorem dX11_choiceOf_14 : decode cX11_choiceOf 14 = .ok (.iload_n 1, 1) := by decide +kernel
theorem dX11_choiceOf_15 : decode cX11_choiceOf 15 = .ok (.invokevirtual 154, 3) := by decide +kernel
theorem dX11_choiceOf_18 : decode cX11_choiceOf 18 = .ok (.if_icmp .ge 37, 3) := by decide +kernel
theorem dX11_choiceOf_21 : decode cX11_choiceOf 21 = .ok (.iload_n 2, 1) := by decide +kernel
theorem dX11_choiceOf_22 : decode cX11_choiceOf 22 = .ok (.ifCond .eq 33, 3) := by decide +kernel
theorem dX11_choiceOf_25 : decode cX11_choiceOf 25 = .ok (.aload_n 0, 1) := by decide +kernel
theorem dX11_choiceOf_26 : decode cX11_choiceOf 26 = .ok (.iload_n 1, 1) := by decide +kernel
theorem dX11_choiceOf_27 : decode cX11_choiceOf 27 = .ok (.iload_n 2, 1) := by decide +kernel
theorem dX11_choiceOf_28 : decode cX11_choiceOf 28 = .ok (.invokevirtual 157, 3) := by decide +kernel
theorem dX11_choiceOf_31 : decode cX11_choiceOf 31 = .ok (.istore 5, 2) := by decide +kernel
theorem dX11_choiceOf_33 : decode cX11_choiceOf 33 = .ok (.iload_n 3, 1) := by decide +kernel
theorem dX11_choiceOf_34 : decode cX11_choiceOf 34 = .ok (.iconst 1, 1) := by decide +kernel
theorem dX11_choiceOf_35 : decode cX11_choiceOf 35 = .ok (.iload 5, 2) := by decide +kernel
theorem dX11_choiceOf_37 : decode cX11_choiceOf 37 = .ok (.ishl, 1) := by decide +kernel
theorem dX11_choiceOf_38 : decode cX11_choiceOf 38 = .ok (.ior, 1) := by decide +kernel
theorem dX11_choiceOf_39 : decode cX11_choiceOf 39 = .ok (.istore_n 3, 1) := by decide +kernel
theorem dX11_choiceOf_40 : decode cX11_choiceOf 40 = .ok (.iload_n 2, 1) := by decide +kernel
theorem dX11_choiceOf_41 : decode cX11_choiceOf 41 = .ok (.iconst 1, 1) := by decide +kernel
theorem dX11_choiceOf_42 : decode cX11_choiceOf 42 = .ok (.iload 5, 2) := by decide +kernel
theorem dX11_choiceOf_44 : decode cX11_choiceOf 44 = .ok (.ishl, 1) := by decide +kernel
theorem dX11_choiceOf_45 : decode cX11_choiceOf 45 = .ok (.iconst (-1), 1) := by decide +kernel
theorem dX11_choiceOf_46 : decode cX11_choiceOf 46 = .ok (.ixor, 1) := by decide +kernel
theorem dX11_choiceOf_47 : decode cX11_choiceOf 47 = .ok (.iand, 1) := by decide +kernel
theorem dX11_choiceOf_48 : decode cX11_choiceOf 48 = .ok (.istore_n 2, 1) := by decide +kernel
theorem dX11_choiceOf_49 : decode cX11_choiceOf 49 = .ok (.iinc 4 1, 3) := by decide +kernel
theorem dX11_choiceOf_52 : decode cX11_choiceOf 52 = .ok (.goto (-41), 3) := by decide +kernel
theorem dX11_choiceOf_55 : decode cX11_choiceOf 55 = .ok (.iload_n 3, 1) := by decide +kernel
theorem dX11_choiceOf_56 : decode cX11_choiceOf 56 = .ok (.ireturn, 1) := by decide +kernel
theorem dX11_of_0 : decode cX11_of 0 = .ok (.aload_n 0, 1) := by decide +kernel
theorem dX11_of_1 : decode cX11_of 1 = .ok (.iload_n 1, 1) := by decide +kernel
theorem dX11_of_2 : decode cX11_of 2 = .ok (.invokevirtual 160, 3) := by decide +kernel
theorem dX11_of_5 : decode cX11_of 5 = .ok (.ifCond .ne 5, 3) := by decide +kernel
theorem dX11_of_8 : decode cX11_of 8 = .ok (.iconst (-1), 1) := by decide +kernel
theorem dX11_of_9 : decode cX11_of 9 = .ok (.ireturn, 1) := by decide +kernel
theorem dX11_of_10 : decode cX11_of 10 = .ok (.aload_n 0, 1) := by decide +kernel
theorem dX11_of_11 : decode cX11_of 11 = .ok (.iload_n 1, 1) := by decide +kernel
theorem dX11_of_12 : decode cX11_of 12 = .ok (.invokevirtual 129, 3) := by decide +kernel
theorem dX11_of_15 : decode cX11_of 15 = .ok (.istore_n 3, 1) := by decide +kernel
theorem dX11_of_16 : decode cX11_of 16 = .ok (.iload_n 2, 1) := by decide +kernel
theorem dX11_of_17 : decode cX11_of 17 = .ok (.tableswitch 215 0 11 #[63, 73, 83, 93, 111, 125, 144, 154, 169, 184, 199, 205], 63) := by decide +kernel
theorem dX11_of_80 : decode cX11_of 80 = .ok (.aload_n 0, 1) := by decide +kernel
theorem dX11_of_81 : decode cX11_of 81 = .ok (.getfield 9, 3) := by decide +kernel
theorem dX11_of_84 : decode cX11_of 84 = .ok (.bipush 24, 2) := by decide +kernel
theorem dX11_of_86 : decode cX11_of 86 = .ok (.iload_n 1, 1) := by decide +kernel
theorem dX11_of_87 : decode cX11_of 87 = .ok (.iadd, 1) := by decide +kernel
theorem dX11_of_88 : decode cX11_of 88 = .ok (.iaload, 1) := by decide +kernel
theorem dX11_of_89 : decode cX11_of 89 = .ok (.ireturn, 1) := by decide +kernel
theorem dX11_of_90 : decode cX11_of 90 = .ok (.aload_n 0, 1) := by decide +kernel
theorem dX11_of_91 : decode cX11_of 91 = .ok (.getfield 9, 3) := by decide +kernel
theorem dX11_of_94 : decode cX11_of 94 = .ok (.bipush 31, 2) := by decide +kernel
theorem dX11_of_96 : decode cX11_of 96 = .ok (.iload_n 1, 1) := by decide +kernel
theorem dX11_of_97 : decode cX11_of 97 = .ok (.iadd, 1) := by decide +kernel
theorem dX11_of_98 : decode cX11_of 98 = .ok (.iaload, 1) := by decide +kernel
theorem dX11_of_99 : decode cX11_of 99 = .ok (.ireturn, 1) := by decide +kernel
theorem dX11_of_100 : decode cX11_of 100 = .ok (.iload_n 3, 1) := by decide +kernel
theorem dX11_of_101 : decode cX11_of 101 = .ok (.ifCond .eq 7, 3) := by decide +kernel
theorem dX11_of_104 : decode cX11_of 104 = .ok (.iconst 1, 1) := by decide +kernel
theorem dX11_of_105 : decode cX11_of 105 = .ok (.goto 4, 3) := by decide +kernel
theorem dX11_of_108 : decode cX11_of 108 = .ok (.iconst 0, 1) := by decide +kernel
theorem dX11_of_109 : decode cX11_of 109 = .ok (.ireturn, 1) := by decide +kernel
theorem dX11_of_110 : decode cX11_of 110 = .ok (.iload_n 3, 1) := by decide +kernel
theorem dX11_of_111 : decode cX11_of 111 = .ok (.ifCond .eq 14, 3) := by decide +kernel
theorem dX11_of_114 : decode cX11_of 114 = .ok (.aload_n 0, 1) := by decide +kernel
theorem dX11_of_115 : decode cX11_of 115 = .ok (.getfield 9, 3) := by decide +kernel
theorem dX11_of_118 : decode cX11_of 118 = .ok (.iconst 4, 1) := by decide +kernel
theorem dX11_of_119 : decode cX11_of 119 = .ok (.iload_n 1, 1) := by decide +kernel
theorem dX11_of_120 : decode cX11_of 120 = .ok (.iadd, 1) := by decide +kernel
theorem dX11_of_121 : decode cX11_of 121 = .ok (.iaload, 1) := by decide +kernel
theorem dX11_of_122 : decode cX11_of 122 = .ok (.goto 5, 3) := by decide +kernel
theorem dX11_of_125 : decode cX11_of 125 = .ok (.bipush (-5), 2) := by decide +kernel
theorem dX11_of_127 : decode cX11_of 127 = .ok (.ireturn, 1) := by decide +kernel
theorem dX11_of_128 : decode cX11_of 128 = .ok (.aload_n 0, 1) := by decide +kernel
theorem dX11_of_129 : decode cX11_of 129 = .ok (.iload_n 1, 1) := by decide +kernel
theorem dX11_of_130 : decode cX11_of 130 = .ok (.invokevirtual 163, 3) := by decide +kernel
theorem dX11_of_133 : decode cX11_of 133 = .ok (.ifCond .eq 7, 3) := by decide +kernel
theorem dX11_of_136 : decode cX11_of 136 = .ok (.iconst 1, 1) := by decide +kernel
theorem dX11_of_137 : decode cX11_of 137 = .ok (.goto 4, 3) := by decide +kernel
theorem dX11_of_140 : decode cX11_of 140 = .ok (.iconst 0, 1) := by decide +kernel
theorem dX11_of_141 : decode cX11_of 141 = .ok (.ireturn, 1) := by decide +kernel
theorem dX11_of_142 : decode cX11_of 142 = .ok (.iload_n 3, 1) := by decide +kernel
theorem dX11_of_143 : decode cX11_of 143 = .ok (.ifCond .eq 15, 3) := by decide +kernel
theorem dX11_of_146 : decode cX11_of 146 = .ok (.aload_n 0, 1) := by decide +kernel
theorem dX11_of_147 : decode cX11_of 147 = .ok (.getfield 9, 3) := by decide +kernel
theorem dX11_of_150 : decode cX11_of 150 = .ok (.bipush 11, 2) := by decide +kernel
theorem dX11_of_152 : decode cX11_of 152 = .ok (.iload_n 1, 1) := by decide +kernel
theorem dX11_of_153 : decode cX11_of 153 = .ok (.iadd, 1) := by decide +kernel
theorem dX11_of_154 : decode cX11_of 154 = .ok (.iaload, 1) := by decide +kernel
theorem dX11_of_155 : decode cX11_of 155 = .ok (.goto 5, 3) := by decide +kernel
theorem dX11_of_158 : decode cX11_of 158 = .ok (.bipush (-5), 2) := by decide +kernel
theorem dX11_of_160 : decode cX11_of 160 = .ok (.ireturn, 1) := by decide +kernel
theorem dX11_of_161 : decode cX11_of 161 = .ok (.aload_n 0, 1) := by decide +kernel
theorem dX11_of_162 : decode cX11_of 162 = .ok (.getfield 9, 3) := by decide +kernel
theorem dX11_of_165 : decode cX11_of 165 = .ok (.bipush 38, 2) := by decide +kernel
theorem dX11_of_167 : decode cX11_of 167 = .ok (.iload_n 1, 1) := by decide +kernel
theorem dX11_of_168 : decode cX11_of 168 = .ok (.iadd, 1) := by decide +kernel
theorem dX11_of_169 : decode cX11_of 169 = .ok (.iaload, 1) := by decide +kernel
theorem dX11_of_170 : decode cX11_of 170 = .ok (.ireturn, 1) := by decide +kernel
theorem dX11_of_171 : decode cX11_of 171 = .ok (.iload_n 3, 1) := by decide +kernel
theorem dX11_of_172 : decode cX11_of 172 = .ok (.ifCond .eq 11, 3) := by decide +kernel
theorem dX11_of_175 : decode cX11_of 175 = .ok (.aload_n 0, 1) := by decide +kernel
theorem dX11_of_176 : decode cX11_of 176 = .ok (.iload_n 1, 1) := by decide +kernel
theorem dX11_of_177 : decode cX11_of 177 = .ok (.invokevirtual 151, 3) := by decide +kernel
theorem dX11_of_180 : decode cX11_of 180 = .ok (.goto 5, 3) := by decide +kernel
theorem dX11_of_183 : decode cX11_of 183 = .ok (.bipush (-5), 2) := by decide +kernel
theorem dX11_of_185 : decode cX11_of 185 = .ok (.ireturn, 1) := by decide +kernel
theorem dX11_of_186 : decode cX11_of 186 = .ok (.iload_n 3, 1) := by decide +kernel
theorem dX11_of_187 : decode cX11_of 187 = .ok (.ifCond .eq 11, 3) := by decide +kernel
theorem dX11_of_190 : decode cX11_of 190 = .ok (.aload_n 0, 1) := by decide +kernel
theorem dX11_of_191 : decode cX11_of 191 = .ok (.iload_n 1, 1) := by decide +kernel
theorem dX11_of_192 : decode cX11_of 192 = .ok (.invokevirtual 154, 3) := by decide +kernel
theorem dX11_of_195 : decode cX11_of 195 = .ok (.goto 5, 3) := by decide +kernel
theorem dX11_of_198 : decode cX11_of 198 = .ok (.bipush (-5), 2) := by decide +kernel
theorem dX11_of_200 : decode cX11_of 200 = .ok (.ireturn, 1) := by decide +kernel
theorem dX11_of_201 : decode cX11_of 201 = .ok (.iload_n 3, 1) := by decide +kernel
theorem dX11_of_202 : decode cX11_of 202 = .ok (.ifCond .eq 11, 3) := by decide +kernel
theorem dX11_of_205 : decode cX11_of 205 = .ok (.aload_n 0, 1) := by decide +kernel
theorem dX11_of_206 : decode cX11_of 206 = .ok (.iload_n 1, 1) := by decide +kernel
theorem dX11_of_207 : decode cX11_of 207 = .ok (.invokevirtual 166, 3) := by decide +kernel
theorem dX11_of_210 : decode cX11_of 210 = .ok (.goto 5, 3) := by decide +kernel
theorem dX11_of_213 : decode cX11_of 213 = .ok (.bipush (-5), 2) := by decide +kernel
theorem dX11_of_215 : decode cX11_of 215 = .ok (.ireturn, 1) := by decide +kernel
theorem dX11_of_216 : decode cX11_of 216 = .ok (.aload_n 0, 1) := by decide +kernel
theorem dX11_of_217 : decode cX11_of 217 = .ok (.iload_n 1, 1) := by decide +kernel
theorem dX11_of_218 : decode cX11_of 218 = .ok (.invokevirtual 169, 3) := by decide +kernel
theorem dX11_of_221 : decode cX11_of 221 = .ok (.ireturn, 1) := by decide +kernel
theorem dX11_of_222 : decode cX11_of 222 = .ok (.aload_n 0, 1) := by decide +kernel
theorem dX11_of_223 : decode cX11_of 223 = .ok (.getfield 9, 3) := by decide +kernel
theorem dX11_of_226 : decode cX11_of 226 = .ok (.bipush 45, 2) := by decide +kernel
theorem dX11_of_228 : decode cX11_of 228 = .ok (.iload_n 1, 1) := by decide +kernel
theorem dX11_of_229 : decode cX11_of 229 = .ok (.iadd, 1) := by decide +kernel
theorem dX11_of_230 : decode cX11_of 230 = .ok (.iaload, 1) := by decide +kernel
theorem dX11_of_231 : decode cX11_of 231 = .ok (.ireturn, 1) := by decide +kernel
theorem dX11_of_232 : decode cX11_of 232 = .ok (.iconst (-1), 1) := by decide +kernel
theorem dX11_of_233 : decode cX11_of 233 = .ok (.ireturn, 1) := by decide +kernel
theorem dX11_know_0 : decode cX11_know 0 = .ok (.aload_n 0, 1) := by decide +kernel
theorem dX11_know_1 : decode cX11_know 1 = .ok (.iload_n 1, 1) := by decide +kernel
theorem dX11_know_2 : decode cX11_know 2 = .ok (.invokevirtual 160, 3) := by decide +kernel
theorem dX11_know_5 : decode cX11_know 5 = .ok (.ifCond .eq 11, 3) := by decide +kernel
theorem dX11_know_8 : decode cX11_know 8 = .ok (.aload_n 0, 1) := by decide +kernel
theorem dX11_know_9 : decode cX11_know 9 = .ok (.iload_n 2, 1) := by decide +kernel
theorem dX11_know_10 : decode cX11_know 10 = .ok (.invokevirtual 160, 3) := by decide +kernel
theorem dX11_know_13 : decode cX11_know 13 = .ok (.ifCond .ne 5, 3) := by decide +kernel
theorem dX11_know_16 : decode cX11_know 16 = .ok (.iconst (-1), 1) := by decide +kernel
theorem dX11_know_17 : decode cX11_know 17 = .ok (.ireturn, 1) := by decide +kernel
theorem dX11_know_18 : decode cX11_know 18 = .ok (.iload_n 1, 1) := by decide +kernel
theorem dX11_know_19 : decode cX11_know 19 = .ok (.iload_n 2, 1) := by decide +kernel
theorem dX11_know_20 : decode cX11_know 20 = .ok (.if_icmp .ne 6, 3) := by decide +kernel
theorem dX11_know_23 : decode cX11_know 23 = .ok (.bipush (-2), 2) := by decide +kernel
theorem dX11_know_25 : decode cX11_know 25 = .ok (.ireturn, 1) := by decide +kernel
theorem dX11_know_26 : decode cX11_know 26 = .ok (.aload_n 0, 1) := by decide +kernel
theorem dX11_know_27 : decode cX11_know 27 = .ok (.getfield 9, 3) := by decide +kernel
theorem dX11_know_30 : decode cX11_know 30 = .ok (.bipush 38, 2) := by decide +kernel
theorem dX11_know_32 : decode cX11_know 32 = .ok (.iload_n 1, 1) := by decide +kernel
theorem dX11_know_33 : decode cX11_know 33 = .ok (.iadd, 1) := by decide +kernel
theorem dX11_know_34 : decode cX11_know 34 = .ok (.iaload, 1) := by decide +kernel
theorem dX11_know_35 : decode cX11_know 35 = .ok (.iload_n 2, 1) := by decide +kernel
theorem dX11_know_36 : decode cX11_know 36 = .ok (.ishr, 1) := by decide +kernel
theorem dX11_know_37 : decode cX11_know 37 = .ok (.iconst 1, 1) := by decide +kernel
theorem dX11_know_38 : decode cX11_know 38 = .ok (.iand, 1) := by decide +kernel
theorem dX11_know_39 : decode cX11_know 39 = .ok (.istore 4, 2) := by decide +kernel
theorem dX11_know_41 : decode cX11_know 41 = .ok (.aload_n 0, 1) := by decide +kernel
theorem dX11_know_42 : decode cX11_know 42 = .ok (.getfield 9, 3) := by decide +kernel
theorem dX11_know_45 : decode cX11_know 45 = .ok (.bipush 38, 2) := by decide +kernel
theorem dX11_know_47 : decode cX11_know 47 = .ok (.iload_n 1, 1) := by decide +kernel
theorem dX11_know_48 : decode cX11_know 48 = .ok (.iadd, 1) := by decide +kernel
theorem dX11_know_49 : decode cX11_know 49 = .ok (.iload_n 3, 1) := by decide +kernel
theorem dX11_know_50 : decode cX11_know 50 = .ok (.ifCond .eq 19, 3) := by decide +kernel
theorem dX11_know_53 : decode cX11_know 53 = .ok (.aload_n 0, 1) := by decide +kernel
theorem dX11_know_54 : decode cX11_know 54 = .ok (.getfield 9, 3) := by decide +kernel
theorem dX11_know_57 : decode cX11_know 57 = .ok (.bipush 38, 2) := by decide +kernel
theorem dX11_know_59 : decode cX11_know 59 = .ok (.iload_n 1, 1) := by decide +kernel
theorem dX11_know_60 : decode cX11_know 60 = .ok (.iadd, 1) := by decide +kernel
theorem dX11_know_61 : decode cX11_know 61 = .ok (.iaload, 1) := by decide +kernel
theorem dX11_know_62 : decode cX11_know 62 = .ok (.iconst 1, 1) := by decide +kernel
theorem dX11_know_63 : decode cX11_know 63 = .ok (.iload_n 2, 1) := by decide +kernel
theorem dX11_know_64 : decode cX11_know 64 = .ok (.ishl, 1) := by decide +kernel
theorem dX11_know_65 : decode cX11_know 65 = .ok (.ior, 1) := by decide +kernel
theorem dX11_know_66 : decode cX11_know 66 = .ok (.goto 18, 3) := by decide +kernel
theorem dX11_know_69 : decode cX11_know 69 = .ok (.aload_n 0, 1) := by decide +kernel
theorem dX11_know_70 : decode cX11_know 70 = .ok (.getfield 9, 3) := by decide +kernel
theorem dX11_know_73 : decode cX11_know 73 = .ok (.bipush 38, 2) := by decide +kernel
theorem dX11_know_75 : decode cX11_know 75 = .ok (.iload_n 1, 1) := by decide +kernel
theorem dX11_know_76 : decode cX11_know 76 = .ok (.iadd, 1) := by decide +kernel
theorem dX11_know_77 : decode cX11_know 77 = .ok (.iaload, 1) := by decide +kernel
theorem dX11_know_78 : decode cX11_know 78 = .ok (.iconst 1, 1) := by decide +kernel
theorem dX11_know_79 : decode cX11_know 79 = .ok (.iload_n 2, 1) := by decide +kernel
theorem dX11_know_80 : decode cX11_know 80 = .ok (.ishl, 1) := by decide +kernel
theorem dX11_know_81 : decode cX11_know 81 = .ok (.iconst (-1), 1) := by decide +kernel
theorem dX11_know_82 : decode cX11_know 82 = .ok (.ixor, 1) := by decide +kernel
theorem dX11_know_83 : decode cX11_know 83 = .ok (.iand, 1) := by decide +kernel
theorem dX11_know_84 : decode cX11_know 84 = .ok (.iastore, 1) := by decide +kernel
theorem dX11_know_85 : decode cX11_know 85 = .ok (.aload_n 0, 1) := by decide +kernel
theorem dX11_know_86 : decode cX11_know 86 = .ok (.getfield 9, 3) := by decide +kernel
theorem dX11_know_89 : decode cX11_know 89 = .ok (.bipush 38, 2) := by decide +kernel
theorem dX11_know_91 : decode cX11_know 91 = .ok (.iload_n 2, 1) := by decide +kernel
theorem dX11_know_92 : decode cX11_know 92 = .ok (.iadd, 1) := by decide +kernel
theorem dX11_know_93 : decode cX11_know 93 = .ok (.iload_n 3, 1) := by decide +kernel
theorem dX11_know_94 : decode cX11_know 94 = .ok (.ifCond .eq 19, 3) := by decide +kernel
theorem dX11_know_97 : decode cX11_know 97 = .ok (.aload_n 0, 1) := by decide +kernel
theorem dX11_know_98 : decode cX11_know 98 = .ok (.getfield 9, 3) := by decide +kernel
theorem dX11_know_101 : decode cX11_know 101 = .ok (.bipush 38, 2) := by decide +kernel
theorem dX11_know_103 : decode cX11_know 103 = .ok (.iload_n 2, 1) := by decide +kernel
theorem dX11_know_104 : decode cX11_know 104 = .ok (.iadd, 1) := by decide +kernel
theorem dX11_know_105 : decode cX11_know 105 = .ok (.iaload, 1) := by decide +kernel
theorem dX11_know_106 : decode cX11_know 106 = .ok (.iconst 1, 1) := by decide +kernel
theorem dX11_know_107 : decode cX11_know 107 = .ok (.iload_n 1, 1) := by decide +kernel
theorem dX11_know_108 : decode cX11_know 108 = .ok (.ishl, 1) := by decide +kernel
theorem dX11_know_109 : decode cX11_know 109 = .ok (.ior, 1) := by decide +kernel
theorem dX11_know_110 : decode cX11_know 110 = .ok (.goto 18, 3) := by decide +kernel
theorem dX11_know_113 : decode cX11_know 113 = .ok (.aload_n 0, 1) := by decide +kernel
theorem dX11_know_114 : decode cX11_know 114 = .ok (.getfield 9, 3) := by decide +kernel
theorem dX11_know_117 : decode cX11_know 117 = .ok (.bipush 38, 2) := by decide +kernel
theorem dX11_know_119 : decode cX11_know 119 = .ok (.iload_n 2, 1) := by decide +kernel
theorem dX11_know_120 : decode cX11_know 120 = .ok (.iadd, 1) := by decide +kernel
theorem dX11_know_121 : decode cX11_know 121 = .ok (.iaload, 1) := by decide +kernel
theorem dX11_know_122 : decode cX11_know 122 = .ok (.iconst 1, 1) := by decide +kernel
theorem dX11_know_123 : decode cX11_know 123 = .ok (.iload_n 1, 1) := by decide +kernel
theorem dX11_know_124 : decode cX11_know 124 = .ok (.ishl, 1) := by decide +kernel
theorem dX11_know_125 : decode cX11_know 125 = .ok (.iconst (-1), 1) := by decide +kernel
theorem dX11_know_126 : decode cX11_know 126 = .ok (.ixor, 1) := by decide +kernel
theorem dX11_know_127 : decode cX11_know 127 = .ok (.iand, 1) := by decide +kernel
theorem dX11_know_128 : decode cX11_know 128 = .ok (.iastore, 1) := by decide +kernel
theorem dX11_know_129 : decode cX11_know 129 = .ok (.iload 4, 2) := by decide +kernel
theorem dX11_know_131 : decode cX11_know 131 = .ok (.ireturn, 1) := by decide +kernel
theorem dX11_row_0 : decode cX11_row 0 = .ok (.aload_n 0, 1) := by decide +kernel
theorem dX11_row_1 : decode cX11_row 1 = .ok (.iload_n 1, 1) := by decide +kernel
theorem dX11_row_2 : decode cX11_row 2 = .ok (.invokevirtual 160, 3) := by decide +kernel
theorem dX11_row_5 : decode cX11_row 5 = .ok (.ifCond .eq 16, 3) := by decide +kernel
theorem dX11_row_8 : decode cX11_row 8 = .ok (.iload_n 2, 1) := by decide +kernel
theorem dX11_row_9 : decode cX11_row 9 = .ok (.iconst (-1), 1) := by decide +kernel
theorem dX11_row_10 : decode cX11_row 10 = .ok (.if_icmp .eq 13, 3) := by decide +kernel
theorem dX11_row_13 : decode cX11_row 13 = .ok (.aload_n 0, 1) := by decide +kernel
theorem dX11_row_14 : decode cX11_row 14 = .ok (.iload_n 2, 1) := by decide +kernel
theorem dX11_row_15 : decode cX11_row 15 = .ok (.invokevirtual 160, 3) := by decide +kernel
theorem dX11_row_18 : decode cX11_row 18 = .ok (.ifCond .ne 5, 3) := by decide +kernel
theorem dX11_row_21 : decode cX11_row 21 = .ok (.iconst (-1), 1) := by decide +kernel
theorem dX11_row_22 : decode cX11_row 22 = .ok (.ireturn, 1) := by decide +kernel
theorem dX11_row_23 : decode cX11_row 23 = .ok (.aload_n 0, 1) := by decide +kernel
theorem dX11_row_24 : decode cX11_row 24 = .ok (.getfield 9, 3) := by decide +kernel
theorem dX11_row_27 : decode cX11_row 27 = .ok (.bipush 24, 2) := by decide +kernel
theorem dX11_row_29 : decode cX11_row 29 = .ok (.iload_n 1, 1) := by decide +kernel
theorem dX11_row_30 : decode cX11_row 30 = .ok (.iadd, 1) := by decide +kernel
theorem dX11_row_31 : decode cX11_row 31 = .ok (.iaload, 1) := by decide +kernel
theorem dX11_row_32 : decode cX11_row 32 = .ok (.bipush 6, 2) := by decide +kernel
theorem dX11_row_34 : decode cX11_row 34 = .ok (.if_icmp .eq 6, 3) := by decide +kernel
theorem dX11_row_37 : decode cX11_row 37 = .ok (.bipush (-3), 2) := by decide +kernel
theorem dX11_row_39 : decode cX11_row 39 = .ok (.ireturn, 1) := by decide +kernel
theorem dX11_row_40 : decode cX11_row 40 = .ok (.iload_n 2, 1) := by decide +kernel
theorem dX11_row_41 : decode cX11_row 41 = .ok (.iconst (-1), 1) := by decide +kernel
theorem dX11_row_42 : decode cX11_row 42 = .ok (.if_icmp .ne 15, 3) := by decide +kernel
theorem dX11_row_45 : decode cX11_row 45 = .ok (.aload_n 0, 1) := by decide +kernel
theorem dX11_row_46 : decode cX11_row 46 = .ok (.getfield 9, 3) := by decide +kernel
theorem dX11_row_49 : decode cX11_row 49 = .ok (.bipush 45, 2) := by decide +kernel
theorem dX11_row_51 : decode cX11_row 51 = .ok (.iload_n 1, 1) := by decide +kernel
theorem dX11_row_52 : decode cX11_row 52 = .ok (.iadd, 1) := by decide +kernel
theorem dX11_row_53 : decode cX11_row 53 = .ok (.iconst 0, 1) := by decide +kernel
theorem dX11_row_54 : decode cX11_row 54 = .ok (.iastore, 1) := by decide +kernel
theorem dX11_row_55 : decode cX11_row 55 = .ok (.iconst 0, 1) := by decide +kernel
theorem dX11_row_56 : decode cX11_row 56 = .ok (.ireturn, 1) := by decide +kernel
theorem dX11_row_57 : decode cX11_row 57 = .ok (.aload_n 0, 1) := by decide +kernel
theorem dX11_row_58 : decode cX11_row 58 = .ok (.getfield 9, 3) := by decide +kernel
theorem dX11_row_61 : decode cX11_row 61 = .ok (.bipush 45, 2) := by decide +kernel
theorem dX11_row_63 : decode cX11_row 63 = .ok (.iload_n 1, 1) := by decide +kernel
theorem dX11_row_64 : decode cX11_row 64 = .ok (.iadd, 1) := by decide +kernel
theorem dX11_row_65 : decode cX11_row 65 = .ok (.iaload, 1) := by decide +kernel
theorem dX11_row_66 : decode cX11_row 66 = .ok (.bipush 7, 2) := by decide +kernel
theorem dX11_row_68 : decode cX11_row 68 = .ok (.if_icmp .ne 6, 3) := by decide +kernel
theorem dX11_row_71 : decode cX11_row 71 = .ok (.bipush (-4), 2) := by decide +kernel
theorem dX11_row_73 : decode cX11_row 73 = .ok (.ireturn, 1) := by decide +kernel
theorem dX11_row_74 : decode cX11_row 74 = .ok (.aload_n 0, 1) := by decide +kernel
theorem dX11_row_75 : decode cX11_row 75 = .ok (.getfield 9, 3) := by decide +kernel
theorem dX11_row_78 : decode cX11_row 78 = .ok (.bipush 52, 2) := by decide +kernel
theorem dX11_row_80 : decode cX11_row 80 = .ok (.bipush 7, 2) := by decide +kernel
theorem dX11_row_82 : decode cX11_row 82 = .ok (.iload_n 1, 1) := by decide +kernel
theorem dX11_row_83 : decode cX11_row 83 = .ok (.imul, 1) := by decide +kernel
theorem dX11_row_84 : decode cX11_row 84 = .ok (.iadd, 1) := by decide +kernel
theorem dX11_row_85 : decode cX11_row 85 = .ok (.aload_n 0, 1) := by decide +kernel
theorem dX11_row_86 : decode cX11_row 86 = .ok (.getfield 9, 3) := by decide +kernel
theorem dX11_row_89 : decode cX11_row 89 = .ok (.bipush 45, 2) := by decide +kernel
theorem dX11_row_91 : decode cX11_row 91 = .ok (.iload_n 1, 1) := by decide +kernel
theorem dX11_row_92 : decode cX11_row 92 = .ok (.iadd, 1) := by decide +kernel
theorem dX11_row_93 : decode cX11_row 93 = .ok (.iaload, 1) := by decide +kernel
theorem dX11_row_94 : decode cX11_row 94 = .ok (.iadd, 1) := by decide +kernel
theorem dX11_row_95 : decode cX11_row 95 = .ok (.iload_n 2, 1) := by decide +kernel
theorem dX11_row_96 : decode cX11_row 96 = .ok (.iastore, 1) := by decide +kernel
theorem dX11_row_97 : decode cX11_row 97 = .ok (.aload_n 0, 1) := by decide +kernel
theorem dX11_row_98 : decode cX11_row 98 = .ok (.getfield 9, 3) := by decide +kernel
theorem dX11_row_101 : decode cX11_row 101 = .ok (.bipush 45, 2) := by decide +kernel
theorem dX11_row_103 : decode cX11_row 103 = .ok (.iload_n 1, 1) := by decide +kernel
theorem dX11_row_104 : decode cX11_row 104 = .ok (.iadd, 1) := by decide +kernel
theorem dX11_row_105 : decode cX11_row 105 = .ok (.dup2, 1) := by decide +kernel
theorem dX11_row_106 : decode cX11_row 106 = .ok (.iaload, 1) := by decide +kernel
theorem dX11_row_107 : decode cX11_row 107 = .ok (.iconst 1, 1) := by decide +kernel
theorem dX11_row_108 : decode cX11_row 108 = .ok (.iadd, 1) := by decide +kernel
theorem dX11_row_109 : decode cX11_row 109 = .ok (.iastore, 1) := by decide +kernel
theorem dX11_row_110 : decode cX11_row 110 = .ok (.aload_n 0, 1) := by decide +kernel
theorem dX11_row_111 : decode cX11_row 111 = .ok (.getfield 9, 3) := by decide +kernel
theorem dX11_row_114 : decode cX11_row 114 = .ok (.bipush 45, 2) := by decide +kernel
theorem dX11_row_116 : decode cX11_row 116 = .ok (.iload_n 1, 1) := by decide +kernel
theorem dX11_row_117 : decode cX11_row 117 = .ok (.iadd, 1) := by decide +kernel
theorem dX11_row_118 : decode cX11_row 118 = .ok (.iaload, 1) := by decide +kernel
theorem dX11_row_119 : decode cX11_row 119 = .ok (.ireturn, 1) := by decide +kernel
theorem dX11_told_0 : decode cX11_told 0 = .ok (.iload_n 1, 1) := by decide +kernel
theorem dX11_told_1 : decode cX11_told 1 = .ok (.tableswitch 76 0 4 #[35, 42, 49, 58, 69], 35) := by decide +kernel
theorem dX11_told_36 : decode cX11_told 36 = .ok (.aload_n 0, 1) := by decide +kernel
theorem dX11_told_37 : decode cX11_told 37 = .ok (.getfield 9, 3) := by decide +kernel
theorem dX11_told_40 : decode cX11_told 40 = .ok (.iconst 0, 1) := by decide +kernel
theorem dX11_told_41 : decode cX11_told 41 = .ok (.iaload, 1) := by decide +kernel
theorem dX11_told_42 : decode cX11_told 42 = .ok (.ireturn, 1) := by decide +kernel
theorem dX11_told_43 : decode cX11_told 43 = .ok (.aload_n 0, 1) := by decide +kernel
theorem dX11_told_44 : decode cX11_told 44 = .ok (.getfield 9, 3) := by decide +kernel
theorem dX11_told_47 : decode cX11_told 47 = .ok (.iconst 1, 1) := by decide +kernel
theorem dX11_told_48 : decode cX11_told 48 = .ok (.iaload, 1) := by decide +kernel
theorem dX11_told_49 : decode cX11_told 49 = .ok (.ireturn, 1) := by decide +kernel
theorem dX11_told_50 : decode cX11_told 50 = .ok (.aload_n 0, 1) := by decide +kernel
theorem dX11_told_51 : decode cX11_told 51 = .ok (.sipush 229, 3) := by decide +kernel
theorem dX11_told_54 : decode cX11_told 54 = .ok (.iconst 1, 1) := by decide +kernel
theorem dX11_told_55 : decode cX11_told 55 = .ok (.invokevirtual 139, 3) := by decide +kernel
theorem dX11_told_58 : decode cX11_told 58 = .ok (.ireturn, 1) := by decide +kernel
theorem dX11_told_59 : decode cX11_told 59 = .ok (.aload_n 0, 1) := by decide +kernel
theorem dX11_told_60 : decode cX11_told 60 = .ok (.sipush 234, 3) := by decide +kernel
theorem dX11_told_63 : decode cX11_told 63 = .ok (.iconst 0, 1) := by decide +kernel
theorem dX11_told_64 : decode cX11_told 64 = .ok (.invokevirtual 139, 3) := by decide +kernel
theorem dX11_told_67 : decode cX11_told 67 = .ok (.iconst 2, 1) := by decide +kernel
theorem dX11_told_68 : decode cX11_told 68 = .ok (.irem, 1) := by decide +kernel
theorem dX11_told_69 : decode cX11_told 69 = .ok (.ireturn, 1) := by decide +kernel
theorem dX11_told_70 : decode cX11_told 70 = .ok (.aload_n 0, 1) := by decide +kernel
theorem dX11_told_71 : decode cX11_told 71 = .ok (.getfield 9, 3) := by decide +kernel
theorem dX11_told_74 : decode cX11_told 74 = .ok (.iconst 2, 1) := by decide +kernel
theorem dX11_told_75 : decode cX11_told 75 = .ok (.iaload, 1) := by decide +kernel
theorem dX11_told_76 : decode cX11_told 76 = .ok (.ireturn, 1) := by decide +kernel
theorem dX11_told_77 : decode cX11_told 77 = .ok (.iconst (-1), 1) := by decide +kernel
theorem dX11_told_78 : decode cX11_told 78 = .ok (.ireturn, 1) := by decide +kernel
theorem dX11_begins_0 : decode cX11_begins 0 = .ok (.aload_n 0, 1) := by decide +kernel
theorem dX11_begins_1 : decode cX11_begins 1 = .ok (.getfield 9, 3) := by decide +kernel
theorem dX11_begins_4 : decode cX11_begins 4 = .ok (.iconst 2, 1) := by decide +kernel
theorem dX11_begins_5 : decode cX11_begins 5 = .ok (.iconst 1, 1) := by decide +kernel
theorem dX11_begins_6 : decode cX11_begins 6 = .ok (.iload_n 1, 1) := by decide +kernel
theorem dX11_begins_7 : decode cX11_begins 7 = .ok (.ishl, 1) := by decide +kernel
theorem dX11_begins_8 : decode cX11_begins 8 = .ok (.iastore, 1) := by decide +kernel
theorem dX11_begins_9 : decode cX11_begins 9 = .ok (.aload_n 0, 1) := by decide +kernel
theorem dX11_begins_10 : decode cX11_begins 10 = .ok (.getfield 9, 3) := by decide +kernel
theorem dX11_begins_13 : decode cX11_begins 13 = .ok (.iconst 3, 1) := by decide +kernel
theorem dX11_begins_14 : decode cX11_begins 14 = .ok (.iconst 0, 1) := by decide +kernel
theorem dX11_begins_15 : decode cX11_begins 15 = .ok (.iastore, 1) := by decide +kernel
theorem dX11_begins_16 : decode cX11_begins 16 = .ok (.aload_n 0, 1) := by decide +kernel
theorem dX11_begins_17 : decode cX11_begins 17 = .ok (.getfield 9, 3) := by decide +kernel
theorem dX11_begins_20 : decode cX11_begins 20 = .ok (.iconst 4, 1) := by decide +kernel
theorem dX11_begins_21 : decode cX11_begins 21 = .ok (.iload_n 1, 1) := by decide +kernel
theorem dX11_begins_22 : decode cX11_begins 22 = .ok (.iadd, 1) := by decide +kernel
theorem dX11_begins_23 : decode cX11_begins 23 = .ok (.iload_n 2, 1) := by decide +kernel
theorem dX11_begins_24 : decode cX11_begins 24 = .ok (.iastore, 1) := by decide +kernel
theorem dX11_begins_25 : decode cX11_begins 25 = .ok (.aload_n 0, 1) := by decide +kernel
theorem dX11_begins_26 : decode cX11_begins 26 = .ok (.getfield 9, 3) := by decide +kernel
theorem dX11_begins_29 : decode cX11_begins 29 = .ok (.bipush 11, 2) := by decide +kernel
theorem dX11_begins_31 : decode cX11_begins 31 = .ok (.iload_n 1, 1) := by decide +kernel
theorem dX11_begins_32 : decode cX11_begins 32 = .ok (.iadd, 1) := by decide +kernel
theorem dX11_begins_33 : decode cX11_begins 33 = .ok (.aload_n 0, 1) := by decide +kernel
theorem dX11_begins_34 : decode cX11_begins 34 = .ok (.getfield 9, 3) := by decide +kernel
theorem dX11_begins_37 : decode cX11_begins 37 = .ok (.iconst 0, 1) := by decide +kernel
theorem dX11_begins_38 : decode cX11_begins 38 = .ok (.iaload, 1) := by decide +kernel
theorem dX11_begins_39 : decode cX11_begins 39 = .ok (.iastore, 1) := by decide +kernel
theorem dX11_begins_40 : decode cX11_begins 40 = .ok (.aload_n 0, 1) := by decide +kernel
theorem dX11_begins_41 : decode cX11_begins 41 = .ok (.getfield 9, 3) := by decide +kernel
theorem dX11_begins_44 : decode cX11_begins 44 = .ok (.iconst 1, 1) := by decide +kernel
theorem dX11_begins_45 : decode cX11_begins 45 = .ok (.iconst 0, 1) := by decide +kernel
theorem dX11_begins_46 : decode cX11_begins 46 = .ok (.iastore, 1) := by decide +kernel
theorem dX11_begins_47 : decode cX11_begins 47 = .ok (.return_, 1) := by decide +kernel
theorem dX11_begin_0 : decode cX11_begin 0 = .ok (.aload_n 0, 1) := by decide +kernel
theorem dX11_begin_1 : decode cX11_begin 1 = .ok (.iload_n 1, 1) := by decide +kernel
theorem dX11_begin_2 : decode cX11_begin 2 = .ok (.invokevirtual 160, 3) := by decide +kernel
theorem dX11_begin_5 : decode cX11_begin 5 = .ok (.ifCond .ne 5, 3) := by decide +kernel
theorem dX11_begin_8 : decode cX11_begin 8 = .ok (.iconst (-1), 1) := by decide +kernel
theorem dX11_begin_9 : decode cX11_begin 9 = .ok (.ireturn, 1) := by decide +kernel
theorem dX11_begin_10 : decode cX11_begin 10 = .ok (.iload_n 2, 1) := by decide +kernel
theorem dX11_begin_11 : decode cX11_begin 11 = .ok (.iconst 0, 1) := by decide +kernel
theorem dX11_begin_12 : decode cX11_begin 12 = .ok (.bipush 9, 2) := by decide +kernel
theorem dX11_begin_14 : decode cX11_begin 14 = .ok (.invokestatic 47, 3) := by decide +kernel
theorem dX11_begin_17 : decode cX11_begin 17 = .ok (.ifCond .ne 6, 3) := by decide +kernel
theorem dX11_begin_20 : decode cX11_begin 20 = .ok (.bipush (-2), 2) := by decide +kernel
theorem dX11_begin_22 : decode cX11_begin 22 = .ok (.ireturn, 1) := by decide +kernel
theorem dX11_begin_23 : decode cX11_begin 23 = .ok (.aload_n 0, 1) := by decide +kernel
theorem dX11_begin_24 : decode cX11_begin 24 = .ok (.iload_n 1, 1) := by decide +kernel
theorem dX11_begin_25 : decode cX11_begin 25 = .ok (.iload_n 2, 1) := by decide +kernel
theorem dX11_begin_26 : decode cX11_begin 26 = .ok (.invokevirtual 172, 3) := by decide +kernel
theorem dX11_begin_29 : decode cX11_begin 29 = .ok (.iconst 1, 1) := by decide +kernel
theorem dX11_begin_30 : decode cX11_begin 30 = .ok (.ireturn, 1) := by decide +kernel
theorem dX11_isToTell_0 : decode cX11_isToTell 0 = .ok (.aload_n 0, 1) := by decide +kernel
theorem dX11_isToTell_1 : decode cX11_isToTell 1 = .ok (.iload_n 1, 1) := by decide +kernel
theorem dX11_isToTell_2 : decode cX11_isToTell 2 = .ok (.invokevirtual 129, 3) := by decide +kernel
theorem dX11_isToTell_5 : decode cX11_isToTell 5 = .ok (.ifCond .eq 15, 3) := by decide +kernel
theorem dX11_isToTell_8 : decode cX11_isToTell 8 = .ok (.aload_n 0, 1) := by decide +kernel
theorem dX11_isToTell_9 : decode cX11_isToTell 9 = .ok (.iload_n 1, 1) := by decide +kernel
theorem dX11_isToTell_10 : decode cX11_isToTell 10 = .ok (.invokevirtual 163, 3) := by decide +kernel
theorem dX11_isToTell_13 : decode cX11_isToTell 13 = .ok (.ifCond .ne 7, 3) := by decide +kernel
theorem dX11_isToTell_16 : decode cX11_isToTell 16 = .ok (.iconst 1, 1) := by decide +kernel
theorem dX11_isToTell_17 : decode cX11_isToTell 17 = .ok (.goto 4, 3) := by decide +kernel
theorem dX11_isToTell_20 : decode cX11_isToTell 20 = .ok (.iconst 0, 1) := by decide +kernel
theorem dX11_isToTell_21 : decode cX11_isToTell 21 = .ok (.ireturn, 1) := by decide +kernel
theorem dX11_isDeaf_0 : decode cX11_isDeaf 0 = .ok (.iload_n 1, 1) := by decide +kernel
theorem dX11_isDeaf_1 : decode cX11_isDeaf 1 = .ok (.aload_n 0, 1) := by decide +kernel
theorem dX11_isDeaf_2 : decode cX11_isDeaf 2 = .ok (.getfield 34, 3) := by decide +kernel
theorem dX11_isDeaf_5 : decode cX11_isDeaf 5 = .ok (.if_icmp .eq 37, 3) := by decide +kernel
theorem dX11_isDeaf_8 : decode cX11_isDeaf 8 = .ok (.aload_n 0, 1) := by decide +kernel
theorem dX11_isDeaf_9 : decode cX11_isDeaf 9 = .ok (.getfield 9, 3) := by decide +kernel
theorem dX11_isDeaf_12 : decode cX11_isDeaf 12 = .ok (.bipush 24, 2) := by decide +kernel
theorem dX11_isDeaf_14 : decode cX11_isDeaf 14 = .ok (.iload_n 1, 1) := by decide +kernel
theorem dX11_isDeaf_15 : decode cX11_isDeaf 15 = .ok (.iadd, 1) := by decide +kernel
theorem dX11_isDeaf_16 : decode cX11_isDeaf 16 = .ok (.iaload, 1) := by decide +kernel
theorem dX11_isDeaf_17 : decode cX11_isDeaf 17 = .ok (.iconst 5, 1) := by decide +kernel
theorem dX11_isDeaf_18 : decode cX11_isDeaf 18 = .ok (.if_icmp .ne 28, 3) := by decide +kernel
theorem dX11_isDeaf_21 : decode cX11_isDeaf 21 = .ok (.aload_n 0, 1) := by decide +kernel
theorem dX11_isDeaf_22 : decode cX11_isDeaf 22 = .ok (.getfield 9, 3) := by decide +kernel
theorem dX11_isDeaf_25 : decode cX11_isDeaf 25 = .ok (.iconst 0, 1) := by decide +kernel
theorem dX11_isDeaf_26 : decode cX11_isDeaf 26 = .ok (.iaload, 1) := by decide +kernel
theorem dX11_isDeaf_27 : decode cX11_isDeaf 27 = .ok (.aload_n 0, 1) := by decide +kernel
theorem dX11_isDeaf_28 : decode cX11_isDeaf 28 = .ok (.getfield 9, 3) := by decide +kernel
theorem dX11_isDeaf_31 : decode cX11_isDeaf 31 = .ok (.bipush 31, 2) := by decide +kernel
theorem dX11_isDeaf_33 : decode cX11_isDeaf 33 = .ok (.iload_n 1, 1) := by decide +kernel
theorem dX11_isDeaf_34 : decode cX11_isDeaf 34 = .ok (.iadd, 1) := by decide +kernel
theorem dX11_isDeaf_35 : decode cX11_isDeaf 35 = .ok (.iaload, 1) := by decide +kernel
theorem dX11_isDeaf_36 : decode cX11_isDeaf 36 = .ok (.iconst 2, 1) := by decide +kernel
theorem dX11_isDeaf_37 : decode cX11_isDeaf 37 = .ok (.iadd, 1) := by decide +kernel
theorem dX11_isDeaf_38 : decode cX11_isDeaf 38 = .ok (.irem, 1) := by decide +kernel
theorem dX11_isDeaf_39 : decode cX11_isDeaf 39 = .ok (.ifCond .ne 7, 3) := by decide +kernel
theorem dX11_isDeaf_42 : decode cX11_isDeaf 42 = .ok (.iconst 1, 1) := by decide +kernel
theorem dX11_isDeaf_43 : decode cX11_isDeaf 43 = .ok (.goto 4, 3) := by decide +kernel
theorem dX11_isDeaf_46 : decode cX11_isDeaf 46 = .ok (.iconst 0, 1) := by decide +kernel
theorem dX11_isDeaf_47 : decode cX11_isDeaf 47 = .ok (.ireturn, 1) := by decide +kernel
theorem dX11_chooses_0 : decode cX11_chooses 0 = .ok (.iconst 0, 1) := by decide +kernel
theorem dX11_chooses_1 : decode cX11_chooses 1 = .ok (.istore_n 1, 1) := by decide +kernel
theorem dX11_chooses_2 : decode cX11_chooses 2 = .ok (.iconst 0, 1) := by decide +kernel
theorem dX11_chooses_3 : decode cX11_chooses 3 = .ok (.istore_n 2, 1) := by decide +kernel
theorem dX11_chooses_4 : decode cX11_chooses 4 = .ok (.iload_n 2, 1) := by decide +kernel
theorem dX11_chooses_5 : decode cX11_chooses 5 = .ok (.aload_n 0, 1) := by decide +kernel
theorem dX11_chooses_6 : decode cX11_chooses 6 = .ok (.getfield 9, 3) := by decide +kernel
theorem dX11_chooses_9 : decode cX11_chooses 9 = .ok (.bipush 18, 2) := by decide +kernel
theorem dX11_chooses_11 : decode cX11_chooses 11 = .ok (.iaload, 1) := by decide +kernel
theorem dX11_chooses_12 : decode cX11_chooses 12 = .ok (.if_icmp .ge 74, 3) := by decide +kernel
theorem dX11_chooses_15 : decode cX11_chooses 15 = .ok (.aload_n 0, 1) := by decide +kernel
theorem dX11_chooses_16 : decode cX11_chooses 16 = .ok (.getfield 28, 3) := by decide +kernel
theorem dX11_chooses_19 : decode cX11_chooses 19 = .ok (.iload_n 2, 1) := by decide +kernel
theorem dX11_chooses_20 : decode cX11_chooses 20 = .ok (.iconst 0, 1) := by decide +kernel
theorem dX11_chooses_21 : decode cX11_chooses 21 = .ok (.iastore, 1) := by decide +kernel
theorem dX11_chooses_22 : decode cX11_chooses 22 = .ok (.aload_n 0, 1) := by decide +kernel
theorem dX11_chooses_23 : decode cX11_chooses 23 = .ok (.iload_n 2, 1) := by decide +kernel
theorem dX11_chooses_24 : decode cX11_chooses 24 = .ok (.invokevirtual 175, 3) := by decide +kernel
theorem dX11_chooses_27 : decode cX11_chooses 27 = .ok (.ifCond .eq 53, 3) := by decide +kernel
theorem dX11_chooses_30 : decode cX11_chooses 30 = .ok (.aload_n 0, 1) := by decide +kernel
theorem dX11_chooses_31 : decode cX11_chooses 31 = .ok (.getfield 28, 3) := by decide +kernel
theorem dX11_chooses_34 : decode cX11_chooses 34 = .ok (.iload_n 2, 1) := by decide +kernel
theorem dX11_chooses_35 : decode cX11_chooses 35 = .ok (.iload_n 2, 1) := by decide +kernel
theorem dX11_chooses_36 : decode cX11_chooses 36 = .ok (.aload_n 0, 1) := by decide +kernel
theorem dX11_chooses_37 : decode cX11_chooses 37 = .ok (.getfield 38, 3) := by decide +kernel
theorem dX11_chooses_40 : decode cX11_chooses 40 = .ok (.if_icmp .ne 10, 3) := by decide +kernel
theorem dX11_chooses_43 : decode cX11_chooses 43 = .ok (.aload_n 0, 1) := by decide +kernel
theorem dX11_chooses_44 : decode cX11_chooses 44 = .ok (.getfield 178, 3) := by decide +kernel
theorem dX11_chooses_47 : decode cX11_chooses 47 = .ok (.goto 8, 3) := by decide +kernel
theorem dX11_chooses_50 : decode cX11_chooses 50 = .ok (.aload_n 0, 1) := by decide +kernel
theorem dX11_chooses_51 : decode cX11_chooses 51 = .ok (.iload_n 2, 1) := by decide +kernel
theorem dX11_chooses_52 : decode cX11_chooses 52 = .ok (.invokevirtual 166, 3) := by decide +kernel
theorem dX11_chooses_55 : decode cX11_chooses 55 = .ok (.iastore, 1) := by decide +kernel
theorem dX11_chooses_56 : decode cX11_chooses 56 = .ok (.iload_n 1, 1) := by decide +kernel
theorem dX11_chooses_57 : decode cX11_chooses 57 = .ok (.aload_n 0, 1) := by decide +kernel
theorem dX11_chooses_58 : decode cX11_chooses 58 = .ok (.iload_n 2, 1) := by decide +kernel
theorem dX11_chooses_59 : decode cX11_chooses 59 = .ok (.invokevirtual 169, 3) := by decide +kernel
theorem dX11_chooses_62 : decode cX11_chooses 62 = .ok (.aload_n 0, 1) := by decide +kernel
theorem dX11_chooses_63 : decode cX11_chooses 63 = .ok (.iload_n 2, 1) := by decide +kernel
theorem dX11_chooses_64 : decode cX11_chooses 64 = .ok (.invokevirtual 154, 3) := by decide +kernel
theorem dX11_chooses_67 : decode cX11_chooses 67 = .ok (.aload_n 0, 1) := by decide +kernel
theorem dX11_chooses_68 : decode cX11_chooses 68 = .ok (.getfield 28, 3) := by decide +kernel
theorem dX11_chooses_71 : decode cX11_chooses 71 = .ok (.iload_n 2, 1) := by decide +kernel
theorem dX11_chooses_72 : decode cX11_chooses 72 = .ok (.iaload, 1) := by decide +kernel
theorem dX11_chooses_73 : decode cX11_chooses 73 = .ok (.invokestatic 147, 3) := by decide +kernel
theorem dX11_chooses_76 : decode cX11_chooses 76 = .ok (.isub, 1) := by decide +kernel
theorem dX11_chooses_77 : decode cX11_chooses 77 = .ok (.imul, 1) := by decide +kernel
theorem dX11_chooses_78 : decode cX11_chooses 78 = .ok (.iadd, 1) := by decide +kernel
theorem dX11_chooses_79 : decode cX11_chooses 79 = .ok (.istore_n 1, 1) := by decide +kernel
theorem dX11_chooses_80 : decode cX11_chooses 80 = .ok (.iinc 2 1, 3) := by decide +kernel
theorem dX11_chooses_83 : decode cX11_chooses 83 = .ok (.goto (-79), 3) := by decide +kernel
theorem dX11_chooses_86 : decode cX11_chooses 86 = .ok (.aload_n 0, 1) := by decide +kernel
theorem dX11_chooses_87 : decode cX11_chooses 87 = .ok (.iconst (-1), 1) := by decide +kernel
theorem dX11_chooses_88 : decode cX11_chooses 88 = .ok (.putfield 38, 3) := by decide +kernel
theorem dX11_chooses_91 : decode cX11_chooses 91 = .ok (.aload_n 0, 1) := by decide +kernel
theorem dX11_chooses_92 : decode cX11_chooses 92 = .ok (.getfield 9, 3) := by decide +kernel
theorem dX11_chooses_95 : decode cX11_chooses 95 = .ok (.iconst 1, 1) := by decide +kernel
theorem dX11_chooses_96 : decode cX11_chooses 96 = .ok (.dup2, 1) := by decide +kernel
theorem dX11_chooses_97 : decode cX11_chooses 97 = .ok (.iaload, 1) := by decide +kernel
theorem dX11_chooses_98 : decode cX11_chooses 98 = .ok (.iload_n 1, 1) := by decide +kernel
theorem dX11_chooses_99 : decode cX11_chooses 99 = .ok (.iadd, 1) := by decide +kernel
theorem dX11_chooses_100 : decode cX11_chooses 100 = .ok (.iastore, 1) := by decide +kernel
theorem dX11_chooses_101 : decode cX11_chooses 101 = .ok (.return_, 1) := by decide +kernel
theorem dX11_lessOne_0 : decode cX11_lessOne 0 = .ok (.iload_n 1, 1) := by decide +kernel
theorem dX11_lessOne_1 : decode cX11_lessOne 1 = .ok (.aload_n 0, 1) := by decide +kernel
theorem dX11_lessOne_2 : decode cX11_lessOne 2 = .ok (.sipush 229, 3) := by decide +kernel
theorem dX11_lessOne_5 : decode cX11_lessOne 5 = .ok (.iconst 1, 1) := by decide +kernel
theorem dX11_lessOne_6 : decode cX11_lessOne 6 = .ok (.invokevirtual 139, 3) := by decide +kernel
theorem dX11_lessOne_9 : decode cX11_lessOne 9 = .ok (.isub, 1) := by decide +kernel
theorem dX11_lessOne_10 : decode cX11_lessOne 10 = .ok (.istore_n 2, 1) := by decide +kernel
theorem dX11_lessOne_11 : decode cX11_lessOne 11 = .ok (.iload_n 2, 1) := by decide +kernel
theorem dX11_lessOne_12 : decode cX11_lessOne 12 = .ok (.ifCond .ge 7, 3) := by decide +kernel
theorem dX11_lessOne_15 : decode cX11_lessOne 15 = .ok (.iconst 0, 1) := by decide +kernel
theorem dX11_lessOne_16 : decode cX11_lessOne 16 = .ok (.goto 4, 3) := by decide +kernel
theorem dX11_lessOne_19 : decode cX11_lessOne 19 = .ok (.iload_n 2, 1) := by decide +kernel
theorem dX11_lessOne_20 : decode cX11_lessOne 20 = .ok (.ireturn, 1) := by decide +kernel
theorem dX11_numberFor_0 : decode cX11_numberFor 0 = .ok (.aload_n 0, 1) := by decide +kernel
theorem dX11_numberFor_1 : decode cX11_numberFor 1 = .ok (.sipush 234, 3) := by decide +kernel
theorem dX11_numberFor_4 : decode cX11_numberFor 4 = .ok (.iconst 0, 1) := by decide +kernel
theorem dX11_numberFor_5 : decode cX11_numberFor 5 = .ok (.invokevirtual 139, 3) := by decide +kernel
theorem dX11_numberFor_8 : decode cX11_numberFor 8 = .ok (.iconst 2, 1) := by decide +kernel
theorem dX11_numberFor_9 : decode cX11_numberFor 9 = .ok (.irem, 1) := by decide +kernel
theorem dX11_numberFor_10 : decode cX11_numberFor 10 = .ok (.iconst 1, 1) := by decide +kernel
theorem dX11_numberFor_11 : decode cX11_numberFor 11 = .ok (.if_icmp .ne 7, 3) := by decide +kernel
theorem dX11_numberFor_14 : decode cX11_numberFor 14 = .ok (.iconst 1, 1) := by decide +kernel
theorem dX11_numberFor_15 : decode cX11_numberFor 15 = .ok (.goto 4, 3) := by decide +kernel
theorem dX11_numberFor_18 : decode cX11_numberFor 18 = .ok (.iconst 0, 1) := by decide +kernel
theorem dX11_numberFor_19 : decode cX11_numberFor 19 = .ok (.istore_n 2, 1) := by decide +kernel
theorem dX11_numberFor_20 : decode cX11_numberFor 20 = .ok (.iconst (-1), 1) := by decide +kernel
theorem dX11_numberFor_21 : decode cX11_numberFor 21 = .ok (.istore_n 3, 1) := by decide +kernel
theorem dX11_numberFor_22 : decode cX11_numberFor 22 = .ok (.iconst 0, 1) := by decide +kernel
theorem dX11_numberFor_23 : decode cX11_numberFor 23 = .ok (.istore 4, 2) := by decide +kernel
theorem dX11_numberFor_25 : decode cX11_numberFor 25 = .ok (.iload 4, 2) := by decide +kernel
theorem dX11_numberFor_27 : decode cX11_numberFor 27 = .ok (.aload_n 0, 1) := by decide +kernel
theorem dX11_numberFor_28 : decode cX11_numberFor 28 = .ok (.getfield 9, 3) := by decide +kernel
theorem dX11_numberFor_31 : decode cX11_numberFor 31 = .ok (.bipush 18, 2) := by decide +kernel
theorem dX11_numberFor_33 : decode cX11_numberFor 33 = .ok (.iaload, 1) := by decide +kernel
theorem dX11_numberFor_34 : decode cX11_numberFor 34 = .ok (.if_icmp .ge 70, 3) := by decide +kernel
theorem dX11_numberFor_37 : decode cX11_numberFor 37 = .ok (.aload_n 0, 1) := by decide +kernel
theorem dX11_numberFor_38 : decode cX11_numberFor 38 = .ok (.getfield 28, 3) := by decide +kernel
theorem dX11_numberFor_41 : decode cX11_numberFor 41 = .ok (.iload 4, 2) := by decide +kernel
theorem dX11_numberFor_43 : decode cX11_numberFor 43 = .ok (.iaload, 1) := by decide +kernel
theorem dX11_numberFor_44 : decode cX11_numberFor 44 = .ok (.iload_n 1, 1) := by decide +kernel
theorem dX11_numberFor_45 : decode cX11_numberFor 45 = .ok (.ishr, 1) := by decide +kernel
theorem dX11_numberFor_46 : decode cX11_numberFor 46 = .ok (.iconst 1, 1) := by decide +kernel
theorem dX11_numberFor_47 : decode cX11_numberFor 47 = .ok (.iand, 1) := by decide +kernel
theorem dX11_numberFor_48 : decode cX11_numberFor 48 = .ok (.iconst 1, 1) := by decide +kernel
theorem dX11_numberFor_49 : decode cX11_numberFor 49 = .ok (.if_icmp .ne 49, 3) := by decide +kernel
theorem dX11_numberFor_52 : decode cX11_numberFor 52 = .ok (.aload_n 0, 1) := by decide +kernel
theorem dX11_numberFor_53 : decode cX11_numberFor 53 = .ok (.aload_n 0, 1) := by decide +kernel
theorem dX11_numberFor_54 : decode cX11_numberFor 54 = .ok (.getfield 9, 3) := by decide +kernel
theorem dX11_numberFor_57 : decode cX11_numberFor 57 = .ok (.iconst 4, 1) := by decide +kernel
theorem dX11_numberFor_58 : decode cX11_numberFor 58 = .ok (.iload 4, 2) := by decide +kernel
theorem dX11_numberFor_60 : decode cX11_numberFor 60 = .ok (.iadd, 1) := by decide +kernel
theorem dX11_numberFor_61 : decode cX11_numberFor 61 = .ok (.iaload, 1) := by decide +kernel
theorem dX11_numberFor_62 : decode cX11_numberFor 62 = .ok (.invokevirtual 181, 3) := by decide +kernel
theorem dX11_numberFor_65 : decode cX11_numberFor 65 = .ok (.istore 5, 2) := by decide +kernel
theorem dX11_numberFor_67 : decode cX11_numberFor 67 = .ok (.iload_n 3, 1) := by decide +kernel
theorem dX11_numberFor_68 : decode cX11_numberFor 68 = .ok (.iconst (-1), 1) := by decide +kernel
theorem dX11_numberFor_69 : decode cX11_numberFor 69 = .ok (.if_icmp .eq 22, 3) := by decide +kernel
theorem dX11_numberFor_72 : decode cX11_numberFor 72 = .ok (.iload_n 2, 1) := by decide +kernel
theorem dX11_numberFor_73 : decode cX11_numberFor 73 = .ok (.ifCond .eq 12, 3) := by decide +kernel
theorem dX11_numberFor_76 : decode cX11_numberFor 76 = .ok (.iload 5, 2) := by decide +kernel
theorem dX11_numberFor_78 : decode cX11_numberFor 78 = .ok (.iload_n 3, 1) := by decide +kernel
theorem dX11_numberFor_79 : decode cX11_numberFor 79 = .ok (.if_icmp .le 17, 3) := by decide +kernel
theorem dX11_numberFor_82 : decode cX11_numberFor 82 = .ok (.goto 9, 3) := by decide +kernel
theorem dX11_numberFor_85 : decode cX11_numberFor 85 = .ok (.iload 5, 2) := by decide +kernel
theorem dX11_numberFor_87 : decode cX11_numberFor 87 = .ok (.iload_n 3, 1) := by decide +kernel
theorem dX11_numberFor_88 : decode cX11_numberFor 88 = .ok (.if_icmp .ge 8, 3) := by decide +kernel
theorem dX11_numberFor_91 : decode cX11_numberFor 91 = .ok (.iload 5, 2) := by decide +kernel
theorem dX11_numberFor_93 : decode cX11_numberFor 93 = .ok (.goto 4, 3) := by decide +kernel
theorem dX11_numberFor_96 : decode cX11_numberFor 96 = .ok (.iload_n 3, 1) := by decide +kernel
theorem dX11_numberFor_97 : decode cX11_numberFor 97 = .ok (.istore_n 3, 1) := by decide +kernel
theorem dX11_numberFor_98 : decode cX11_numberFor 98 = .ok (.iinc 4 1, 3) := by decide +kernel
theorem dX11_numberFor_101 : decode cX11_numberFor 101 = .ok (.goto (-76), 3) := by decide +kernel
theorem dX11_numberFor_104 : decode cX11_numberFor 104 = .ok (.iload_n 3, 1) := by decide +kernel
theorem dX11_numberFor_105 : decode cX11_numberFor 105 = .ok (.ireturn, 1) := by decide +kernel
theorem dX11_goes_0 : decode cX11_goes 0 = .ok (.aload_n 0, 1) := by decide +kernel
theorem dX11_goes_1 : decode cX11_goes 1 = .ok (.invokevirtual 184, 3) := by decide +kernel
theorem dX11_goes_4 : decode cX11_goes 4 = .ok (.iconst 0, 1) := by decide +kernel
theorem dX11_goes_5 : decode cX11_goes 5 = .ok (.istore_n 1, 1) := by decide +kernel
theorem dX11_goes_6 : decode cX11_goes 6 = .ok (.iload_n 1, 1) := by decide +kernel
theorem dX11_goes_7 : decode cX11_goes 7 = .ok (.aload_n 0, 1) := by decide +kernel
theorem dX11_goes_8 : decode cX11_goes 8 = .ok (.getfield 9, 3) := by decide +kernel
theorem dX11_goes_11 : decode cX11_goes 11 = .ok (.bipush 18, 2) := by decide +kernel
theorem dX11_goes_13 : decode cX11_goes 13 = .ok (.iaload, 1) := by decide +kernel
theorem dX11_goes_14 : decode cX11_goes 14 = .ok (.if_icmp .ge 32, 3) := by decide +kernel
theorem dX11_goes_17 : decode cX11_goes 17 = .ok (.aload_n 0, 1) := by decide +kernel
theorem dX11_goes_18 : decode cX11_goes 18 = .ok (.getfield 31, 3) := by decide +kernel
theorem dX11_goes_21 : decode cX11_goes 21 = .ok (.iload_n 1, 1) := by decide +kernel
theorem dX11_goes_22 : decode cX11_goes 22 = .ok (.aload_n 0, 1) := by decide +kernel
theorem dX11_goes_23 : decode cX11_goes 23 = .ok (.iload_n 1, 1) := by decide +kernel
theorem dX11_goes_24 : decode cX11_goes 24 = .ok (.invokevirtual 187, 3) := by decide +kernel
theorem dX11_goes_27 : decode cX11_goes 27 = .ok (.ifCond .eq 7, 3) := by decide +kernel
theorem dX11_goes_30 : decode cX11_goes 30 = .ok (.iconst (-1), 1) := by decide +kernel
theorem dX11_goes_31 : decode cX11_goes 31 = .ok (.goto 8, 3) := by decide +kernel
theorem dX11_goes_34 : decode cX11_goes 34 = .ok (.aload_n 0, 1) := by decide +kernel
theorem dX11_goes_35 : decode cX11_goes 35 = .ok (.iload_n 1, 1) := by decide +kernel
theorem dX11_goes_36 : decode cX11_goes 36 = .ok (.invokevirtual 190, 3) := by decide +kernel
theorem dX11_goes_39 : decode cX11_goes 39 = .ok (.iastore, 1) := by decide +kernel
theorem dX11_goes_40 : decode cX11_goes 40 = .ok (.iinc 1 1, 3) := by decide +kernel
theorem dX11_goes_43 : decode cX11_goes 43 = .ok (.goto (-37), 3) := by decide +kernel
theorem dX11_goes_46 : decode cX11_goes 46 = .ok (.iconst 0, 1) := by decide +kernel
theorem dX11_goes_47 : decode cX11_goes 47 = .ok (.istore_n 1, 1) := by decide +kernel
theorem dX11_goes_48 : decode cX11_goes 48 = .ok (.aload_n 0, 1) := by decide +kernel
theorem dX11_goes_49 : decode cX11_goes 49 = .ok (.getfield 9, 3) := by decide +kernel
theorem dX11_goes_52 : decode cX11_goes 52 = .ok (.iconst 3, 1) := by decide +kernel
theorem dX11_goes_53 : decode cX11_goes 53 = .ok (.dup2, 1) := by decide +kernel
theorem dX11_goes_54 : decode cX11_goes 54 = .ok (.iaload, 1) := by decide +kernel
theorem dX11_goes_55 : decode cX11_goes 55 = .ok (.aload_n 0, 1) := by decide +kernel
theorem dX11_goes_56 : decode cX11_goes 56 = .ok (.getfield 9, 3) := by decide +kernel
theorem dX11_goes_59 : decode cX11_goes 59 = .ok (.iconst 2, 1) := by decide +kernel
theorem dX11_goes_60 : decode cX11_goes 60 = .ok (.iaload, 1) := by decide +kernel
theorem dX11_goes_61 : decode cX11_goes 61 = .ok (.ior, 1) := by decide +kernel
theorem dX11_goes_62 : decode cX11_goes 62 = .ok (.iastore, 1) := by decide +kernel
theorem dX11_goes_63 : decode cX11_goes 63 = .ok (.iconst 0, 1) := by decide +kernel
theorem dX11_goes_64 : decode cX11_goes 64 = .ok (.istore_n 2, 1) := by decide +kernel
theorem dX11_goes_65 : decode cX11_goes 65 = .ok (.iload_n 2, 1) := by decide +kernel
theorem dX11_goes_66 : decode cX11_goes 66 = .ok (.aload_n 0, 1) := by decide +kernel
theorem dX11_goes_67 : decode cX11_goes 67 = .ok (.getfield 9, 3) := by decide +kernel
theorem dX11_goes_70 : decode cX11_goes 70 = .ok (.bipush 18, 2) := by decide +kernel
theorem dX11_goes_72 : decode cX11_goes 72 = .ok (.iaload, 1) := by decide +kernel
theorem dX11_goes_73 : decode cX11_goes 73 = .ok (.if_icmp .ge 63, 3) := by decide +kernel
theorem dX11_goes_76 : decode cX11_goes 76 = .ok (.aload_n 0, 1) := by decide +kernel
theorem dX11_goes_77 : decode cX11_goes 77 = .ok (.getfield 31, 3) := by decide +kernel
theorem dX11_goes_80 : decode cX11_goes 80 = .ok (.iload_n 2, 1) := by decide +kernel
theorem dX11_goes_81 : decode cX11_goes 81 = .ok (.iaload, 1) := by decide +kernel
theorem dX11_goes_82 : decode cX11_goes 82 = .ok (.iconst (-1), 1) := by decide +kernel
theorem dX11_goes_83 : decode cX11_goes 83 = .ok (.if_icmp .eq 47, 3) := by decide +kernel
theorem dX11_goes_86 : decode cX11_goes 86 = .ok (.aload_n 0, 1) := by decide +kernel
theorem dX11_goes_87 : decode cX11_goes 87 = .ok (.getfield 9, 3) := by decide +kernel
theorem dX11_goes_90 : decode cX11_goes 90 = .ok (.iconst 2, 1) := by decide +kernel
theorem dX11_goes_91 : decode cX11_goes 91 = .ok (.dup2, 1) := by decide +kernel
theorem dX11_goes_92 : decode cX11_goes 92 = .ok (.iaload, 1) := by decide +kernel
theorem dX11_goes_93 : decode cX11_goes 93 = .ok (.iconst 1, 1) := by decide +kernel
theorem dX11_goes_94 : decode cX11_goes 94 = .ok (.iload_n 2, 1) := by decide +kernel
theorem dX11_goes_95 : decode cX11_goes 95 = .ok (.ishl, 1) := by decide +kernel
theorem dX11_goes_96 : decode cX11_goes 96 = .ok (.ior, 1) := by decide +kernel
theorem dX11_goes_97 : decode cX11_goes 97 = .ok (.iastore, 1) := by decide +kernel
theorem dX11_goes_98 : decode cX11_goes 98 = .ok (.aload_n 0, 1) := by decide +kernel
theorem dX11_goes_99 : decode cX11_goes 99 = .ok (.getfield 9, 3) := by decide +kernel
theorem dX11_goes_102 : decode cX11_goes 102 = .ok (.iconst 4, 1) := by decide +kernel
theorem dX11_goes_103 : decode cX11_goes 103 = .ok (.iload_n 2, 1) := by decide +kernel
theorem dX11_goes_104 : decode cX11_goes 104 = .ok (.iadd, 1) := by decide +kernel
theorem dX11_goes_105 : decode cX11_goes 105 = .ok (.aload_n 0, 1) := by decide +kernel
theorem dX11_goes_106 : decode cX11_goes 106 = .ok (.getfield 31, 3) := by decide +kernel
theorem dX11_goes_109 : decode cX11_goes 109 = .ok (.iload_n 2, 1) := by decide +kernel
theorem dX11_goes_110 : decode cX11_goes 110 = .ok (.iaload, 1) := by decide +kernel
theorem dX11_goes_111 : decode cX11_goes 111 = .ok (.iastore, 1) := by decide +kernel
theorem dX11_goes_112 : decode cX11_goes 112 = .ok (.aload_n 0, 1) := by decide +kernel
theorem dX11_goes_113 : decode cX11_goes 113 = .ok (.getfield 9, 3) := by decide +kernel
theorem dX11_goes_116 : decode cX11_goes 116 = .ok (.bipush 11, 2) := by decide +kernel
theorem dX11_goes_118 : decode cX11_goes 118 = .ok (.iload_n 2, 1) := by decide +kernel
theorem dX11_goes_119 : decode cX11_goes 119 = .ok (.iadd, 1) := by decide +kernel
theorem dX11_goes_120 : decode cX11_goes 120 = .ok (.aload_n 0, 1) := by decide +kernel
theorem dX11_goes_121 : decode cX11_goes 121 = .ok (.getfield 9, 3) := by decide +kernel
theorem dX11_goes_124 : decode cX11_goes 124 = .ok (.iconst 0, 1) := by decide +kernel
theorem dX11_goes_125 : decode cX11_goes 125 = .ok (.iaload, 1) := by decide +kernel
theorem dX11_goes_126 : decode cX11_goes 126 = .ok (.iastore, 1) := by decide +kernel
theorem dX11_goes_127 : decode cX11_goes 127 = .ok (.iinc 1 1, 3) := by decide +kernel
theorem dX11_goes_130 : decode cX11_goes 130 = .ok (.iinc 2 1, 3) := by decide +kernel
theorem dX11_goes_133 : decode cX11_goes 133 = .ok (.goto (-68), 3) := by decide +kernel
theorem dX11_goes_136 : decode cX11_goes 136 = .ok (.aload_n 0, 1) := by decide +kernel
theorem dX11_goes_137 : decode cX11_goes 137 = .ok (.getfield 9, 3) := by decide +kernel
theorem dX11_goes_140 : decode cX11_goes 140 = .ok (.iconst 0, 1) := by decide +kernel
theorem dX11_goes_141 : decode cX11_goes 141 = .ok (.dup2, 1) := by decide +kernel
theorem dX11_goes_142 : decode cX11_goes 142 = .ok (.iaload, 1) := by decide +kernel
theorem dX11_goes_143 : decode cX11_goes 143 = .ok (.iconst 1, 1) := by decide +kernel
theorem dX11_goes_144 : decode cX11_goes 144 = .ok (.iadd, 1) := by decide +kernel
theorem dX11_goes_145 : decode cX11_goes 145 = .ok (.iastore, 1) := by decide +kernel
theorem dX11_goes_146 : decode cX11_goes 146 = .ok (.iload_n 1, 1) := by decide +kernel
theorem dX11_goes_147 : decode cX11_goes 147 = .ok (.ireturn, 1) := by decide +kernel
theorem dX11_day_0 : decode cX11_day 0 = .ok (.aload_n 0, 1) := by decide +kernel
theorem dX11_day_1 : decode cX11_day 1 = .ok (.getfield 9, 3) := by decide +kernel
theorem dX11_day_4 : decode cX11_day 4 = .ok (.iconst 0, 1) := by decide +kernel
theorem dX11_day_5 : decode cX11_day 5 = .ok (.iaload, 1) := by decide +kernel
theorem dX11_day_6 : decode cX11_day 6 = .ok (.sipush 999, 3) := by decide +kernel
theorem dX11_day_9 : decode cX11_day 9 = .ok (.if_icmp .ne 8, 3) := by decide +kernel
theorem dX11_day_12 : decode cX11_day 12 = .ok (.bipush (-3), 2) := by decide +kernel
theorem dX11_day_14 : decode cX11_day 14 = .ok (.goto 7, 3) := by decide +kernel
theorem dX11_day_17 : decode cX11_day 17 = .ok (.aload_n 0, 1) := by decide +kernel
theorem dX11_day_18 : decode cX11_day 18 = .ok (.invokevirtual 193, 3) := by decide +kernel
theorem dX11_day_21 : decode cX11_day 21 = .ok (.ireturn, 1) := by decide +kernel
theorem dX11_sumOf_0 : decode cX11_sumOf 0 = .ok (.aload_n 0, 1) := by decide +kernel
theorem dX11_sumOf_1 : decode cX11_sumOf 1 = .ok (.sipush 229, 3) := by decide +kernel
theorem dX11_sumOf_4 : decode cX11_sumOf 4 = .ok (.iconst 1, 1) := by decide +kernel
theorem dX11_sumOf_5 : decode cX11_sumOf 5 = .ok (.invokevirtual 139, 3) := by decide +kernel
theorem dX11_sumOf_8 : decode cX11_sumOf 8 = .ok (.istore_n 2, 1) := by decide +kernel
theorem dX11_sumOf_9 : decode cX11_sumOf 9 = .ok (.lconst 0, 1) := by decide +kernel
theorem dX11_sumOf_10 : decode cX11_sumOf 10 = .ok (.lstore_n 3, 1) := by decide +kernel
theorem dX11_sumOf_11 : decode cX11_sumOf 11 = .ok (.iload_n 2, 1) := by decide +kernel
theorem dX11_sumOf_12 : decode cX11_sumOf 12 = .ok (.ifCond .ne 7, 3) := by decide +kernel
theorem dX11_sumOf_15 : decode cX11_sumOf 15 = .ok (.iload_n 1, 1) := by decide +kernel
theorem dX11_sumOf_16 : decode cX11_sumOf 16 = .ok (.goto 6, 3) := by decide +kernel
theorem dX11_sumOf_19 : decode cX11_sumOf 19 = .ok (.iload_n 1, 1) := by decide +kernel
theorem dX11_sumOf_20 : decode cX11_sumOf 20 = .ok (.iload_n 2, 1) := by decide +kernel
theorem dX11_sumOf_21 : decode cX11_sumOf 21 = .ok (.irem, 1) := by decide +kernel
theorem dX11_sumOf_22 : decode cX11_sumOf 22 = .ok (.istore 5, 2) := by decide +kernel
theorem dX11_sumOf_24 : decode cX11_sumOf 24 = .ok (.iload 5, 2) := by decide +kernel
theorem dX11_sumOf_26 : decode cX11_sumOf 26 = .ok (.istore 6, 2) := by decide +kernel
theorem dX11_sumOf_28 : decode cX11_sumOf 28 = .ok (.iload 6, 2) := by decide +kernel
theorem dX11_sumOf_30 : decode cX11_sumOf 30 = .ok (.iload_n 1, 1) := by decide +kernel
theorem dX11_sumOf_31 : decode cX11_sumOf 31 = .ok (.if_icmp .gt 41, 3) := by decide +kernel
theorem dX11_sumOf_34 : decode cX11_sumOf 34 = .ok (.iload_n 2, 1) := by decide +kernel
theorem dX11_sumOf_35 : decode cX11_sumOf 35 = .ok (.ifCond .ne 9, 3) := by decide +kernel
theorem dX11_sumOf_38 : decode cX11_sumOf 38 = .ok (.iload 6, 2) := by decide +kernel
theorem dX11_sumOf_40 : decode cX11_sumOf 40 = .ok (.i2l, 1) := by decide +kernel
theorem dX11_sumOf_41 : decode cX11_sumOf 41 = .ok (.goto 12, 3) := by decide +kernel
theorem dX11_sumOf_44 : decode cX11_sumOf 44 = .ok (.iload 6, 2) := by decide +kernel
theorem dX11_sumOf_46 : decode cX11_sumOf 46 = .ok (.i2l, 1) := by decide +kernel
theorem dX11_sumOf_47 : decode cX11_sumOf 47 = .ok (.iload 6, 2) := by decide +kernel
theorem dX11_sumOf_49 : decode cX11_sumOf 49 = .ok (.i2l, 1) := by decide +kernel
theorem dX11_sumOf_50 : decode cX11_sumOf 50 = .ok (.lload_n 3, 1) := by decide +kernel
theorem dX11_sumOf_51 : decode cX11_sumOf 51 = .ok (.lmul, 1) := by decide +kernel
theorem dX11_sumOf_52 : decode cX11_sumOf 52 = .ok (.ladd, 1) := by decide +kernel
theorem dX11_sumOf_53 : decode cX11_sumOf 53 = .ok (.lstore_n 3, 1) := by decide +kernel
theorem dX11_sumOf_54 : decode cX11_sumOf 54 = .ok (.iload 6, 2) := by decide +kernel
theorem dX11_sumOf_56 : decode cX11_sumOf 56 = .ok (.iload_n 2, 1) := by decide +kernel
theorem dX11_sumOf_57 : decode cX11_sumOf 57 = .ok (.ifCond .ne 8, 3) := by decide +kernel
theorem dX11_sumOf_60 : decode cX11_sumOf 60 = .ok (.bipush 99, 2) := by decide +kernel
theorem dX11_sumOf_62 : decode cX11_sumOf 62 = .ok (.goto 4, 3) := by decide +kernel
theorem dX11_sumOf_65 : decode cX11_sumOf 65 = .ok (.iload_n 2, 1) := by decide +kernel
theorem dX11_sumOf_66 : decode cX11_sumOf 66 = .ok (.iadd, 1) := by decide +kernel
theorem dX11_sumOf_67 : decode cX11_sumOf 67 = .ok (.istore 6, 2) := by decide +kernel
theorem dX11_sumOf_69 : decode cX11_sumOf 69 = .ok (.goto (-41), 3) := by decide +kernel
theorem dX11_sumOf_72 : decode cX11_sumOf 72 = .ok (.lload_n 3, 1) := by decide +kernel
theorem dX11_sumOf_73 : decode cX11_sumOf 73 = .ok (.lreturn, 1) := by decide +kernel
theorem dX11_sum_0 : decode cX11_sum 0 = .ok (.iload_n 1, 1) := by decide +kernel
theorem dX11_sum_1 : decode cX11_sum 1 = .ok (.iconst 0, 1) := by decide +kernel
theorem dX11_sum_2 : decode cX11_sum 2 = .ok (.bipush 12, 2) := by decide +kernel
theorem dX11_sum_4 : decode cX11_sum 4 = .ok (.invokestatic 47, 3) := by decide +kernel
theorem dX11_sum_7 : decode cX11_sum 7 = .ok (.ifCond .eq 11, 3) := by decide +kernel
theorem dX11_sum_10 : decode cX11_sum 10 = .ok (.aload_n 0, 1) := by decide +kernel
theorem dX11_sum_11 : decode cX11_sum 11 = .ok (.iload_n 1, 1) := by decide +kernel
theorem dX11_sum_12 : decode cX11_sum 12 = .ok (.invokevirtual 196, 3) := by decide +kernel
theorem dX11_sum_15 : decode cX11_sum 15 = .ok (.goto 6, 3) := by decide +kernel
theorem dX11_sum_18 : decode cX11_sum 18 = .ok (.ldc2_w 200, 3) := by decide +kernel
theorem dX11_sum_21 : decode cX11_sum 21 = .ok (.lreturn, 1) := by decide +kernel
theorem dX11_enough_0 : decode cX11_enough 0 = .ok (.iload_n 1, 1) := by decide +kernel
theorem dX11_enough_1 : decode cX11_enough 1 = .ok (.iconst 0, 1) := by decide +kernel
theorem dX11_enough_2 : decode cX11_enough 2 = .ok (.ldc 202, 2) := by decide +kernel
theorem dX11_enough_4 : decode cX11_enough 4 = .ok (.invokestatic 47, 3) := by decide +kernel
theorem dX11_enough_7 : decode cX11_enough 7 = .ok (.ifCond .ne 6, 3) := by decide +kernel
theorem dX11_enough_10 : decode cX11_enough 10 = .ok (.bipush (-2), 2) := by decide +kernel
theorem dX11_enough_12 : decode cX11_enough 12 = .ok (.ireturn, 1) := by decide +kernel
theorem dX11_enough_13 : decode cX11_enough 13 = .ok (.iconst 0, 1) := by decide +kernel
theorem dX11_enough_14 : decode cX11_enough 14 = .ok (.istore_n 2, 1) := by decide +kernel
theorem dX11_enough_15 : decode cX11_enough 15 = .ok (.iload_n 2, 1) := by decide +kernel
theorem dX11_enough_16 : decode cX11_enough 16 = .ok (.bipush 12, 2) := by decide +kernel
theorem dX11_enough_18 : decode cX11_enough 18 = .ok (.if_icmp .gt 22, 3) := by decide +kernel
theorem dX11_enough_21 : decode cX11_enough 21 = .ok (.aload_n 0, 1) := by decide +kernel
theorem dX11_enough_22 : decode cX11_enough 22 = .ok (.iload_n 2, 1) := by decide +kernel
theorem dX11_enough_23 : decode cX11_enough 23 = .ok (.invokevirtual 196, 3) := by decide +kernel
theorem dX11_enough_26 : decode cX11_enough 26 = .ok (.iload_n 1, 1) := by decide +kernel
theorem dX11_enough_27 : decode cX11_enough 27 = .ok (.i2l, 1) := by decide +kernel
theorem dX11_enough_28 : decode cX11_enough 28 = .ok (.lcmp, 1) := by decide +kernel
theorem dX11_enough_29 : decode cX11_enough 29 = .ok (.ifCond .lt 5, 3) := by decide +kernel
theorem dX11_enough_32 : decode cX11_enough 32 = .ok (.iload_n 2, 1) := by decide +kernel
theorem dX11_enough_33 : decode cX11_enough 33 = .ok (.ireturn, 1) := by decide +kernel
theorem dX11_enough_34 : decode cX11_enough 34 = .ok (.iinc 2 1, 3) := by decide +kernel
theorem dX11_enough_37 : decode cX11_enough 37 = .ok (.goto (-22), 3) := by decide +kernel
theorem dX11_enough_40 : decode cX11_enough 40 = .ok (.bipush (-5), 2) := by decide +kernel
theorem dX11_enough_42 : decode cX11_enough 42 = .ok (.ireturn, 1) := by decide +kernel
theorem dX11_ends_0 : decode cX11_ends 0 = .ok (.iconst 0, 1) := by decide +kernel
theorem dX11_ends_1 : decode cX11_ends 1 = .ok (.istore_n 1, 1) := by decide +kernel
theorem dX11_ends_2 : decode cX11_ends 2 = .ok (.aload_n 0, 1) := by decide +kernel
theorem dX11_ends_3 : decode cX11_ends 3 = .ok (.getfield 9, 3) := by decide +kernel
theorem dX11_ends_6 : decode cX11_ends 6 = .ok (.iconst 2, 1) := by decide +kernel
theorem dX11_ends_7 : decode cX11_ends 7 = .ok (.iaload, 1) := by decide +kernel
theorem dX11_ends_8 : decode cX11_ends 8 = .ok (.aload_n 0, 1) := by decide +kernel
theorem dX11_ends_9 : decode cX11_ends 9 = .ok (.getfield 9, 3) := by decide +kernel
theorem dX11_ends_12 : decode cX11_ends 12 = .ok (.iconst 3, 1) := by decide +kernel
theorem dX11_ends_13 : decode cX11_ends 13 = .ok (.iaload, 1) := by decide +kernel
theorem dX11_ends_14 : decode cX11_ends 14 = .ok (.iconst (-1), 1) := by decide +kernel
theorem dX11_ends_15 : decode cX11_ends 15 = .ok (.ixor, 1) := by decide +kernel
theorem dX11_ends_16 : decode cX11_ends 16 = .ok (.iand, 1) := by decide +kernel
theorem dX11_ends_17 : decode cX11_ends 17 = .ok (.ifCond .eq 14, 3) := by decide +kernel
theorem dX11_ends_20 : decode cX11_ends 20 = .ok (.aload_n 0, 1) := by decide +kernel
theorem dX11_ends_21 : decode cX11_ends 21 = .ok (.invokevirtual 193, 3) := by decide +kernel
theorem dX11_ends_24 : decode cX11_ends 24 = .ok (.pop, 1) := by decide +kernel
theorem dX11_ends_25 : decode cX11_ends 25 = .ok (.iinc 1 1, 3) := by decide +kernel
theorem dX11_ends_28 : decode cX11_ends 28 = .ok (.goto (-26), 3) := by decide +kernel
theorem dX11_ends_31 : decode cX11_ends 31 = .ok (.iload_n 1, 1) := by decide +kernel
theorem dX11_ends_32 : decode cX11_ends 32 = .ok (.ireturn, 1) := by decide +kernel
theorem dX11_end_0 : decode cX11_end 0 = .ok (.iload_n 1, 1) := by decide +kernel
theorem dX11_end_1 : decode cX11_end 1 = .ok (.iconst 0, 1) := by decide +kernel
theorem dX11_end_2 : decode cX11_end 2 = .ok (.iconst 3, 1) := by decide +kernel
theorem dX11_end_3 : decode cX11_end 3 = .ok (.invokestatic 47, 3) := by decide +kernel
theorem dX11_end_6 : decode cX11_end 6 = .ok (.ifCond .ne 5, 3) := by decide +kernel
theorem dX11_end_9 : decode cX11_end 9 = .ok (.iconst (-1), 1) := by decide +kernel
theorem dX11_end_10 : decode cX11_end 10 = .ok (.ireturn, 1) := by decide +kernel
theorem dX11_end_11 : decode cX11_end 11 = .ok (.aload_n 0, 1) := by decide +kernel
theorem dX11_end_12 : decode cX11_end 12 = .ok (.invokevirtual 203, 3) := by decide +kernel
theorem dX11_end_15 : decode cX11_end 15 = .ok (.aload_n 0, 1) := by decide +kernel
theorem dX11_end_16 : decode cX11_end 16 = .ok (.invokevirtual 206, 3) := by decide +kernel
theorem dX11_end_19 : decode cX11_end 19 = .ok (.istore_n 2, 1) := by decide +kernel
theorem dX11_end_20 : decode cX11_end 20 = .ok (.aload_n 0, 1) := by decide +kernel
theorem dX11_end_21 : decode cX11_end 21 = .ok (.getfield 9, 3) := by decide +kernel
theorem dX11_end_24 : decode cX11_end 24 = .ok (.iconst 2, 1) := by decide +kernel
theorem dX11_end_25 : decode cX11_end 25 = .ok (.iaload, 1) := by decide +kernel
theorem dX11_end_26 : decode cX11_end 26 = .ok (.iconst (-1), 1) := by decide +kernel
theorem dX11_end_27 : decode cX11_end 27 = .ok (.ixor, 1) := by decide +kernel
theorem dX11_end_28 : decode cX11_end 28 = .ok (.iconst 1, 1) := by decide +kernel
theorem dX11_end_29 : decode cX11_end 29 = .ok (.aload_n 0, 1) := by decide +kernel
theorem dX11_end_30 : decode cX11_end 30 = .ok (.getfield 9, 3) := by decide +kernel
theorem dX11_end_33 : decode cX11_end 33 = .ok (.bipush 18, 2) := by decide +kernel
theorem dX11_end_35 : decode cX11_end 35 = .ok (.iaload, 1) := by decide +kernel
theorem dX11_end_36 : decode cX11_end 36 = .ok (.ishl, 1) := by decide +kernel
theorem dX11_end_37 : decode cX11_end 37 = .ok (.iconst 1, 1) := by decide +kernel
theorem dX11_end_38 : decode cX11_end 38 = .ok (.isub, 1) := by decide +kernel
theorem dX11_end_39 : decode cX11_end 39 = .ok (.iand, 1) := by decide +kernel
theorem dX11_end_40 : decode cX11_end 40 = .ok (.istore_n 3, 1) := by decide +kernel
theorem dX11_end_41 : decode cX11_end 41 = .ok (.iload_n 1, 1) := by decide +kernel
theorem dX11_end_42 : decode cX11_end 42 = .ok (.ifCond .ne 7, 3) := by decide +kernel
theorem dX11_end_45 : decode cX11_end 45 = .ok (.iload_n 2, 1) := by decide +kernel
theorem dX11_end_46 : decode cX11_end 46 = .ok (.goto 35, 3) := by decide +kernel
theorem dX11_end_49 : decode cX11_end 49 = .ok (.iload_n 1, 1) := by decide +kernel
theorem dX11_end_50 : decode cX11_end 50 = .ok (.iconst 1, 1) := by decide +kernel
theorem dX11_end_51 : decode cX11_end 51 = .ok (.if_icmp .ne 15, 3) := by decide +kernel
theorem dX11_end_54 : decode cX11_end 54 = .ok (.aload_n 0, 1) := by decide +kernel
theorem dX11_end_55 : decode cX11_end 55 = .ok (.getfield 9, 3) := by decide +kernel
theorem dX11_end_58 : decode cX11_end 58 = .ok (.iconst 2, 1) := by decide +kernel
theorem dX11_end_59 : decode cX11_end 59 = .ok (.iaload, 1) := by decide +kernel
theorem dX11_end_60 : decode cX11_end 60 = .ok (.invokestatic 147, 3) := by decide +kernel
end
section
theorem dX11_end_63 : decode cX11_end 63 = .ok (.goto 18, 3) := by decide +kernel
theorem dX11_end_66 : decode cX11_end 66 = .ok (.iload_n 1, 1) := by decide +kernel
theorem dX11_end_67 : decode cX11_end 67 = .ok (.iconst 2, 1) := by decide +kernel
theorem dX11_end_68 : decode cX11_end 68 = .ok (.if_icmp .ne 12, 3) := by decide +kernel
theorem dX11_end_71 : decode cX11_end 71 = .ok (.aload_n 0, 1) := by decide +kernel
theorem dX11_end_72 : decode cX11_end 72 = .ok (.getfield 9, 3) := by decide +kernel
theorem dX11_end_75 : decode cX11_end 75 = .ok (.iconst 1, 1) := by decide +kernel
theorem dX11_end_76 : decode cX11_end 76 = .ok (.iaload, 1) := by decide +kernel
theorem dX11_end_77 : decode cX11_end 77 = .ok (.goto 4, 3) := by decide +kernel
theorem dX11_end_80 : decode cX11_end 80 = .ok (.iload_n 3, 1) := by decide +kernel
theorem dX11_end_81 : decode cX11_end 81 = .ok (.istore 4, 2) := by decide +kernel
theorem dX11_end_83 : decode cX11_end 83 = .ok (.aload_n 0, 1) := by decide +kernel
theorem dX11_end_84 : decode cX11_end 84 = .ok (.invokevirtual 209, 3) := by decide +kernel
theorem dX11_end_87 : decode cX11_end 87 = .ok (.iload 4, 2) := by decide +kernel
theorem dX11_end_89 : decode cX11_end 89 = .ok (.ireturn, 1) := by decide +kernel
theorem dX11_best_0 : decode cX11_best 0 = .ok (.iload_n 2, 1) := by decide +kernel
theorem dX11_best_1 : decode cX11_best 1 = .ok (.iconst 0, 1) := by decide +kernel
theorem dX11_best_2 : decode cX11_best 2 = .ok (.iconst 2, 1) := by decide +kernel
theorem dX11_best_3 : decode cX11_best 3 = .ok (.invokestatic 47, 3) := by decide +kernel
theorem dX11_best_6 : decode cX11_best 6 = .ok (.ifCond .ne 5, 3) := by decide +kernel
theorem dX11_best_9 : decode cX11_best 9 = .ok (.iconst (-1), 1) := by decide +kernel
theorem dX11_best_10 : decode cX11_best 10 = .ok (.ireturn, 1) := by decide +kernel
theorem dX11_best_11 : decode cX11_best 11 = .ok (.iload_n 1, 1) := by decide +kernel
theorem dX11_best_12 : decode cX11_best 12 = .ok (.iconst 0, 1) := by decide +kernel
theorem dX11_best_13 : decode cX11_best 13 = .ok (.bipush 9, 2) := by decide +kernel
theorem dX11_best_15 : decode cX11_best 15 = .ok (.invokestatic 47, 3) := by decide +kernel
theorem dX11_best_18 : decode cX11_best 18 = .ok (.ifCond .ne 6, 3) := by decide +kernel
theorem dX11_best_21 : decode cX11_best 21 = .ok (.bipush (-2), 2) := by decide +kernel
theorem dX11_best_23 : decode cX11_best 23 = .ok (.ireturn, 1) := by decide +kernel
theorem dX11_best_24 : decode cX11_best 24 = .ok (.aload_n 0, 1) := by decide +kernel
theorem dX11_best_25 : decode cX11_best 25 = .ok (.getfield 9, 3) := by decide +kernel
theorem dX11_best_28 : decode cX11_best 28 = .ok (.bipush 18, 2) := by decide +kernel
theorem dX11_best_30 : decode cX11_best 30 = .ok (.iaload, 1) := by decide +kernel
theorem dX11_best_31 : decode cX11_best 31 = .ok (.ifCond .ne 6, 3) := by decide +kernel
theorem dX11_best_34 : decode cX11_best 34 = .ok (.bipush (-3), 2) := by decide +kernel
theorem dX11_best_36 : decode cX11_best 36 = .ok (.ireturn, 1) := by decide +kernel
theorem dX11_best_37 : decode cX11_best 37 = .ok (.iconst 0, 1) := by decide +kernel
theorem dX11_best_38 : decode cX11_best 38 = .ok (.istore_n 3, 1) := by decide +kernel
theorem dX11_best_39 : decode cX11_best 39 = .ok (.iconst (-1), 1) := by decide +kernel
theorem dX11_best_40 : decode cX11_best 40 = .ok (.istore 4, 2) := by decide +kernel
theorem dX11_best_42 : decode cX11_best 42 = .ok (.iconst 0, 1) := by decide +kernel
theorem dX11_best_43 : decode cX11_best 43 = .ok (.istore 5, 2) := by decide +kernel
theorem dX11_best_45 : decode cX11_best 45 = .ok (.aload_n 0, 1) := by decide +kernel
theorem dX11_best_46 : decode cX11_best 46 = .ok (.invokevirtual 203, 3) := by decide +kernel
theorem dX11_best_49 : decode cX11_best 49 = .ok (.iconst 0, 1) := by decide +kernel
theorem dX11_best_50 : decode cX11_best 50 = .ok (.istore 6, 2) := by decide +kernel
theorem dX11_best_52 : decode cX11_best 52 = .ok (.iload 6, 2) := by decide +kernel
theorem dX11_best_54 : decode cX11_best 54 = .ok (.aload_n 0, 1) := by decide +kernel
theorem dX11_best_55 : decode cX11_best 55 = .ok (.getfield 9, 3) := by decide +kernel
theorem dX11_best_58 : decode cX11_best 58 = .ok (.bipush 18, 2) := by decide +kernel
theorem dX11_best_60 : decode cX11_best 60 = .ok (.iaload, 1) := by decide +kernel
theorem dX11_best_61 : decode cX11_best 61 = .ok (.if_icmp .ge 112, 3) := by decide +kernel
theorem dX11_best_64 : decode cX11_best 64 = .ok (.aload_n 0, 1) := by decide +kernel
theorem dX11_best_65 : decode cX11_best 65 = .ok (.iload 6, 2) := by decide +kernel
theorem dX11_best_67 : decode cX11_best 67 = .ok (.iload_n 1, 1) := by decide +kernel
theorem dX11_best_68 : decode cX11_best 68 = .ok (.invokevirtual 172, 3) := by decide +kernel
theorem dX11_best_71 : decode cX11_best 71 = .ok (.aload_n 0, 1) := by decide +kernel
theorem dX11_best_72 : decode cX11_best 72 = .ok (.invokevirtual 206, 3) := by decide +kernel
theorem dX11_best_75 : decode cX11_best 75 = .ok (.pop, 1) := by decide +kernel
theorem dX11_best_76 : decode cX11_best 76 = .ok (.aload_n 0, 1) := by decide +kernel
theorem dX11_best_77 : decode cX11_best 77 = .ok (.getfield 9, 3) := by decide +kernel
theorem dX11_best_80 : decode cX11_best 80 = .ok (.iconst 2, 1) := by decide +kernel
theorem dX11_best_81 : decode cX11_best 81 = .ok (.iaload, 1) := by decide +kernel
theorem dX11_best_82 : decode cX11_best 82 = .ok (.invokestatic 147, 3) := by decide +kernel
theorem dX11_best_85 : decode cX11_best 85 = .ok (.istore 7, 2) := by decide +kernel
theorem dX11_best_87 : decode cX11_best 87 = .ok (.iload 7, 2) := by decide +kernel
theorem dX11_best_89 : decode cX11_best 89 = .ok (.iload 4, 2) := by decide +kernel
theorem dX11_best_91 : decode cX11_best 91 = .ok (.if_icmp .gt 21, 3) := by decide +kernel
theorem dX11_best_94 : decode cX11_best 94 = .ok (.iload 7, 2) := by decide +kernel
theorem dX11_best_96 : decode cX11_best 96 = .ok (.iload 4, 2) := by decide +kernel
theorem dX11_best_98 : decode cX11_best 98 = .ok (.if_icmp .ne 18, 3) := by decide +kernel
theorem dX11_best_101 : decode cX11_best 101 = .ok (.aload_n 0, 1) := by decide +kernel
theorem dX11_best_102 : decode cX11_best 102 = .ok (.getfield 9, 3) := by decide +kernel
theorem dX11_best_105 : decode cX11_best 105 = .ok (.iconst 1, 1) := by decide +kernel
theorem dX11_best_106 : decode cX11_best 106 = .ok (.iaload, 1) := by decide +kernel
theorem dX11_best_107 : decode cX11_best 107 = .ok (.iload 5, 2) := by decide +kernel
theorem dX11_best_109 : decode cX11_best 109 = .ok (.if_icmp .ge 7, 3) := by decide +kernel
theorem dX11_best_112 : decode cX11_best 112 = .ok (.iconst 1, 1) := by decide +kernel
theorem dX11_best_113 : decode cX11_best 113 = .ok (.goto 4, 3) := by decide +kernel
theorem dX11_best_116 : decode cX11_best 116 = .ok (.iconst 0, 1) := by decide +kernel
theorem dX11_best_117 : decode cX11_best 117 = .ok (.istore 8, 2) := by decide +kernel
theorem dX11_best_119 : decode cX11_best 119 = .ok (.iload 8, 2) := by decide +kernel
theorem dX11_best_121 : decode cX11_best 121 = .ok (.ifCond .eq 8, 3) := by decide +kernel
theorem dX11_best_124 : decode cX11_best 124 = .ok (.iload 6, 2) := by decide +kernel
theorem dX11_best_126 : decode cX11_best 126 = .ok (.goto 4, 3) := by decide +kernel
theorem dX11_best_129 : decode cX11_best 129 = .ok (.iload_n 3, 1) := by decide +kernel
theorem dX11_best_130 : decode cX11_best 130 = .ok (.istore_n 3, 1) := by decide +kernel
theorem dX11_best_131 : decode cX11_best 131 = .ok (.iload 8, 2) := by decide +kernel
theorem dX11_best_133 : decode cX11_best 133 = .ok (.ifCond .eq 8, 3) := by decide +kernel
theorem dX11_best_136 : decode cX11_best 136 = .ok (.iload 7, 2) := by decide +kernel
theorem dX11_best_138 : decode cX11_best 138 = .ok (.goto 5, 3) := by decide +kernel
theorem dX11_best_141 : decode cX11_best 141 = .ok (.iload 4, 2) := by decide +kernel
theorem dX11_best_143 : decode cX11_best 143 = .ok (.istore 4, 2) := by decide +kernel
theorem dX11_best_145 : decode cX11_best 145 = .ok (.iload 8, 2) := by decide +kernel
theorem dX11_best_147 : decode cX11_best 147 = .ok (.ifCond .eq 12, 3) := by decide +kernel
theorem dX11_best_150 : decode cX11_best 150 = .ok (.aload_n 0, 1) := by decide +kernel
theorem dX11_best_151 : decode cX11_best 151 = .ok (.getfield 9, 3) := by decide +kernel
theorem dX11_best_154 : decode cX11_best 154 = .ok (.iconst 1, 1) := by decide +kernel
theorem dX11_best_155 : decode cX11_best 155 = .ok (.iaload, 1) := by decide +kernel
theorem dX11_best_156 : decode cX11_best 156 = .ok (.goto 5, 3) := by decide +kernel
theorem dX11_best_159 : decode cX11_best 159 = .ok (.iload 5, 2) := by decide +kernel
theorem dX11_best_161 : decode cX11_best 161 = .ok (.istore 5, 2) := by decide +kernel
theorem dX11_best_163 : decode cX11_best 163 = .ok (.aload_n 0, 1) := by decide +kernel
theorem dX11_best_164 : decode cX11_best 164 = .ok (.invokevirtual 209, 3) := by decide +kernel
theorem dX11_best_167 : decode cX11_best 167 = .ok (.iinc 6 1, 3) := by decide +kernel
theorem dX11_best_170 : decode cX11_best 170 = .ok (.goto (-118), 3) := by decide +kernel
theorem dX11_best_173 : decode cX11_best 173 = .ok (.iload_n 2, 1) := by decide +kernel
theorem dX11_best_174 : decode cX11_best 174 = .ok (.ifCond .ne 7, 3) := by decide +kernel
theorem dX11_best_177 : decode cX11_best 177 = .ok (.iload_n 3, 1) := by decide +kernel
theorem dX11_best_178 : decode cX11_best 178 = .ok (.goto 15, 3) := by decide +kernel
theorem dX11_best_181 : decode cX11_best 181 = .ok (.iload_n 2, 1) := by decide +kernel
theorem dX11_best_182 : decode cX11_best 182 = .ok (.iconst 1, 1) := by decide +kernel
theorem dX11_best_183 : decode cX11_best 183 = .ok (.if_icmp .ne 8, 3) := by decide +kernel
theorem dX11_best_186 : decode cX11_best 186 = .ok (.iload 4, 2) := by decide +kernel
theorem dX11_best_188 : decode cX11_best 188 = .ok (.goto 5, 3) := by decide +kernel
theorem dX11_best_191 : decode cX11_best 191 = .ok (.iload 5, 2) := by decide +kernel
theorem dX11_best_193 : decode cX11_best 193 = .ok (.ireturn, 1) := by decide +kernel
theorem dX11_triesSets_0 : decode cX11_triesSets 0 = .ok (.aload_n 0, 1) := by decide +kernel
theorem dX11_triesSets_1 : decode cX11_triesSets 1 = .ok (.iload_n 1, 1) := by decide +kernel
theorem dX11_triesSets_2 : decode cX11_triesSets 2 = .ok (.invokevirtual 151, 3) := by decide +kernel
theorem dX11_triesSets_5 : decode cX11_triesSets 5 = .ok (.istore_n 3, 1) := by decide +kernel
theorem dX11_triesSets_6 : decode cX11_triesSets 6 = .ok (.aload_n 0, 1) := by decide +kernel
theorem dX11_triesSets_7 : decode cX11_triesSets 7 = .ok (.iload_n 1, 1) := by decide +kernel
theorem dX11_triesSets_8 : decode cX11_triesSets 8 = .ok (.invokevirtual 154, 3) := by decide +kernel
theorem dX11_triesSets_11 : decode cX11_triesSets 11 = .ok (.istore 4, 2) := by decide +kernel
theorem dX11_triesSets_13 : decode cX11_triesSets 13 = .ok (.iload_n 3, 1) := by decide +kernel
theorem dX11_triesSets_14 : decode cX11_triesSets 14 = .ok (.invokestatic 147, 3) := by decide +kernel
theorem dX11_triesSets_17 : decode cX11_triesSets 17 = .ok (.iload 4, 2) := by decide +kernel
theorem dX11_triesSets_19 : decode cX11_triesSets 19 = .ok (.if_icmp .ge 10, 3) := by decide +kernel
theorem dX11_triesSets_22 : decode cX11_triesSets 22 = .ok (.iload_n 3, 1) := by decide +kernel
theorem dX11_triesSets_23 : decode cX11_triesSets 23 = .ok (.invokestatic 147, 3) := by decide +kernel
theorem dX11_triesSets_26 : decode cX11_triesSets 26 = .ok (.goto 5, 3) := by decide +kernel
theorem dX11_triesSets_29 : decode cX11_triesSets 29 = .ok (.iload 4, 2) := by decide +kernel
theorem dX11_triesSets_31 : decode cX11_triesSets 31 = .ok (.istore 5, 2) := by decide +kernel
theorem dX11_triesSets_33 : decode cX11_triesSets 33 = .ok (.aload_n 0, 1) := by decide +kernel
theorem dX11_triesSets_34 : decode cX11_triesSets 34 = .ok (.iconst 0, 1) := by decide +kernel
theorem dX11_triesSets_35 : decode cX11_triesSets 35 = .ok (.putfield 212, 3) := by decide +kernel
theorem dX11_triesSets_38 : decode cX11_triesSets 38 = .ok (.aload_n 0, 1) := by decide +kernel
theorem dX11_triesSets_39 : decode cX11_triesSets 39 = .ok (.iconst (-1), 1) := by decide +kernel
theorem dX11_triesSets_40 : decode cX11_triesSets 40 = .ok (.putfield 215, 3) := by decide +kernel
theorem dX11_triesSets_43 : decode cX11_triesSets 43 = .ok (.aload_n 0, 1) := by decide +kernel
theorem dX11_triesSets_44 : decode cX11_triesSets 44 = .ok (.bipush (-5), 2) := by decide +kernel
theorem dX11_triesSets_46 : decode cX11_triesSets 46 = .ok (.putfield 218, 3) := by decide +kernel
theorem dX11_triesSets_49 : decode cX11_triesSets 49 = .ok (.aload_n 0, 1) := by decide +kernel
theorem dX11_triesSets_50 : decode cX11_triesSets 50 = .ok (.invokevirtual 203, 3) := by decide +kernel
theorem dX11_triesSets_53 : decode cX11_triesSets 53 = .ok (.iconst 0, 1) := by decide +kernel
theorem dX11_triesSets_54 : decode cX11_triesSets 54 = .ok (.istore 6, 2) := by decide +kernel
theorem dX11_triesSets_56 : decode cX11_triesSets 56 = .ok (.iload 6, 2) := by decide +kernel
theorem dX11_triesSets_58 : decode cX11_triesSets 58 = .ok (.iload_n 3, 1) := by decide +kernel
theorem dX11_triesSets_59 : decode cX11_triesSets 59 = .ok (.if_icmp .gt 138, 3) := by decide +kernel
theorem dX11_triesSets_62 : decode cX11_triesSets 62 = .ok (.iload 6, 2) := by decide +kernel
theorem dX11_triesSets_64 : decode cX11_triesSets 64 = .ok (.iload_n 3, 1) := by decide +kernel
theorem dX11_triesSets_65 : decode cX11_triesSets 65 = .ok (.iconst (-1), 1) := by decide +kernel
theorem dX11_triesSets_66 : decode cX11_triesSets 66 = .ok (.ixor, 1) := by decide +kernel
theorem dX11_triesSets_67 : decode cX11_triesSets 67 = .ok (.iand, 1) := by decide +kernel
theorem dX11_triesSets_68 : decode cX11_triesSets 68 = .ok (.ifCond .ne 123, 3) := by decide +kernel
theorem dX11_triesSets_71 : decode cX11_triesSets 71 = .ok (.iload 6, 2) := by decide +kernel
theorem dX11_triesSets_73 : decode cX11_triesSets 73 = .ok (.invokestatic 147, 3) := by decide +kernel
theorem dX11_triesSets_76 : decode cX11_triesSets 76 = .ok (.iload 5, 2) := by decide +kernel
theorem dX11_triesSets_78 : decode cX11_triesSets 78 = .ok (.if_icmp .ne 113, 3) := by decide +kernel
theorem dX11_triesSets_81 : decode cX11_triesSets 81 = .ok (.aload_n 0, 1) := by decide +kernel
theorem dX11_triesSets_82 : decode cX11_triesSets 82 = .ok (.iload_n 1, 1) := by decide +kernel
theorem dX11_triesSets_83 : decode cX11_triesSets 83 = .ok (.putfield 38, 3) := by decide +kernel
theorem dX11_triesSets_86 : decode cX11_triesSets 86 = .ok (.aload_n 0, 1) := by decide +kernel
theorem dX11_triesSets_87 : decode cX11_triesSets 87 = .ok (.iload 6, 2) := by decide +kernel
theorem dX11_triesSets_89 : decode cX11_triesSets 89 = .ok (.putfield 178, 3) := by decide +kernel
theorem dX11_triesSets_92 : decode cX11_triesSets 92 = .ok (.aload_n 0, 1) := by decide +kernel
theorem dX11_triesSets_93 : decode cX11_triesSets 93 = .ok (.invokevirtual 206, 3) := by decide +kernel
theorem dX11_triesSets_96 : decode cX11_triesSets 96 = .ok (.pop, 1) := by decide +kernel
theorem dX11_triesSets_97 : decode cX11_triesSets 97 = .ok (.aload_n 0, 1) := by decide +kernel
theorem dX11_triesSets_98 : decode cX11_triesSets 98 = .ok (.getfield 9, 3) := by decide +kernel
theorem dX11_triesSets_101 : decode cX11_triesSets 101 = .ok (.iconst 2, 1) := by decide +kernel
theorem dX11_triesSets_102 : decode cX11_triesSets 102 = .ok (.iaload, 1) := by decide +kernel
theorem dX11_triesSets_103 : decode cX11_triesSets 103 = .ok (.invokestatic 147, 3) := by decide +kernel
theorem dX11_triesSets_106 : decode cX11_triesSets 106 = .ok (.istore 7, 2) := by decide +kernel
theorem dX11_triesSets_108 : decode cX11_triesSets 108 = .ok (.aload_n 0, 1) := by decide +kernel
theorem dX11_triesSets_109 : decode cX11_triesSets 109 = .ok (.iload 7, 2) := by decide +kernel
theorem dX11_triesSets_111 : decode cX11_triesSets 111 = .ok (.aload_n 0, 1) := by decide +kernel
theorem dX11_triesSets_112 : decode cX11_triesSets 112 = .ok (.getfield 215, 3) := by decide +kernel
theorem dX11_triesSets_115 : decode cX11_triesSets 115 = .ok (.if_icmp .le 8, 3) := by decide +kernel
theorem dX11_triesSets_118 : decode cX11_triesSets 118 = .ok (.iload 6, 2) := by decide +kernel
theorem dX11_triesSets_120 : decode cX11_triesSets 120 = .ok (.goto 7, 3) := by decide +kernel
theorem dX11_triesSets_123 : decode cX11_triesSets 123 = .ok (.aload_n 0, 1) := by decide +kernel
theorem dX11_triesSets_124 : decode cX11_triesSets 124 = .ok (.getfield 212, 3) := by decide +kernel
theorem dX11_triesSets_127 : decode cX11_triesSets 127 = .ok (.putfield 212, 3) := by decide +kernel
theorem dX11_triesSets_130 : decode cX11_triesSets 130 = .ok (.aload_n 0, 1) := by decide +kernel
theorem dX11_triesSets_131 : decode cX11_triesSets 131 = .ok (.iload 7, 2) := by decide +kernel
theorem dX11_triesSets_133 : decode cX11_triesSets 133 = .ok (.aload_n 0, 1) := by decide +kernel
theorem dX11_triesSets_134 : decode cX11_triesSets 134 = .ok (.getfield 215, 3) := by decide +kernel
theorem dX11_triesSets_137 : decode cX11_triesSets 137 = .ok (.if_icmp .le 8, 3) := by decide +kernel
theorem dX11_triesSets_140 : decode cX11_triesSets 140 = .ok (.iload 7, 2) := by decide +kernel
theorem dX11_triesSets_142 : decode cX11_triesSets 142 = .ok (.goto 7, 3) := by decide +kernel
theorem dX11_triesSets_145 : decode cX11_triesSets 145 = .ok (.aload_n 0, 1) := by decide +kernel
theorem dX11_triesSets_146 : decode cX11_triesSets 146 = .ok (.getfield 215, 3) := by decide +kernel
theorem dX11_triesSets_149 : decode cX11_triesSets 149 = .ok (.putfield 215, 3) := by decide +kernel
theorem dX11_triesSets_152 : decode cX11_triesSets 152 = .ok (.aload_n 0, 1) := by decide +kernel
theorem dX11_triesSets_153 : decode cX11_triesSets 153 = .ok (.aload_n 0, 1) := by decide +kernel
theorem dX11_triesSets_154 : decode cX11_triesSets 154 = .ok (.getfield 218, 3) := by decide +kernel
theorem dX11_triesSets_157 : decode cX11_triesSets 157 = .ok (.bipush (-5), 2) := by decide +kernel
theorem dX11_triesSets_159 : decode cX11_triesSets 159 = .ok (.if_icmp .ne 21, 3) := by decide +kernel
theorem dX11_triesSets_162 : decode cX11_triesSets 162 = .ok (.iload_n 2, 1) := by decide +kernel
theorem dX11_triesSets_163 : decode cX11_triesSets 163 = .ok (.iconst (-1), 1) := by decide +kernel
theorem dX11_triesSets_164 : decode cX11_triesSets 164 = .ok (.if_icmp .eq 16, 3) := by decide +kernel
theorem dX11_triesSets_167 : decode cX11_triesSets 167 = .ok (.aload_n 0, 1) := by decide +kernel
theorem dX11_triesSets_168 : decode cX11_triesSets 168 = .ok (.iload_n 2, 1) := by decide +kernel
theorem dX11_triesSets_169 : decode cX11_triesSets 169 = .ok (.invokevirtual 129, 3) := by decide +kernel
theorem dX11_triesSets_172 : decode cX11_triesSets 172 = .ok (.ifCond .eq 8, 3) := by decide +kernel
theorem dX11_triesSets_175 : decode cX11_triesSets 175 = .ok (.iload 6, 2) := by decide +kernel
theorem dX11_triesSets_177 : decode cX11_triesSets 177 = .ok (.goto 7, 3) := by decide +kernel
theorem dX11_triesSets_180 : decode cX11_triesSets 180 = .ok (.aload_n 0, 1) := by decide +kernel
theorem dX11_triesSets_181 : decode cX11_triesSets 181 = .ok (.getfield 218, 3) := by decide +kernel
theorem dX11_triesSets_184 : decode cX11_triesSets 184 = .ok (.putfield 218, 3) := by decide +kernel
theorem dX11_triesSets_187 : decode cX11_triesSets 187 = .ok (.aload_n 0, 1) := by decide +kernel
theorem dX11_triesSets_188 : decode cX11_triesSets 188 = .ok (.invokevirtual 209, 3) := by decide +kernel
theorem dX11_triesSets_191 : decode cX11_triesSets 191 = .ok (.iinc 6 1, 3) := by decide +kernel
theorem dX11_triesSets_194 : decode cX11_triesSets 194 = .ok (.goto (-138), 3) := by decide +kernel
theorem dX11_triesSets_197 : decode cX11_triesSets 197 = .ok (.return_, 1) := by decide +kernel
theorem dX11_choice_0 : decode cX11_choice 0 = .ok (.aload_n 0, 1) := by decide +kernel
theorem dX11_choice_1 : decode cX11_choice 1 = .ok (.iload_n 1, 1) := by decide +kernel
theorem dX11_choice_2 : decode cX11_choice 2 = .ok (.invokevirtual 160, 3) := by decide +kernel
theorem dX11_choice_5 : decode cX11_choice 5 = .ok (.ifCond .eq 12, 3) := by decide +kernel
theorem dX11_choice_8 : decode cX11_choice 8 = .ok (.iload_n 2, 1) := by decide +kernel
theorem dX11_choice_9 : decode cX11_choice 9 = .ok (.iconst 0, 1) := by decide +kernel
theorem dX11_choice_10 : decode cX11_choice 10 = .ok (.iconst 1, 1) := by decide +kernel
theorem dX11_choice_11 : decode cX11_choice 11 = .ok (.invokestatic 47, 3) := by decide +kernel
theorem dX11_choice_14 : decode cX11_choice 14 = .ok (.ifCond .ne 5, 3) := by decide +kernel
theorem dX11_choice_17 : decode cX11_choice 17 = .ok (.iconst (-1), 1) := by decide +kernel
theorem dX11_choice_18 : decode cX11_choice 18 = .ok (.ireturn, 1) := by decide +kernel
theorem dX11_choice_19 : decode cX11_choice 19 = .ok (.aload_n 0, 1) := by decide +kernel
theorem dX11_choice_20 : decode cX11_choice 20 = .ok (.iload_n 1, 1) := by decide +kernel
theorem dX11_choice_21 : decode cX11_choice 21 = .ok (.invokevirtual 175, 3) := by decide +kernel
theorem dX11_choice_24 : decode cX11_choice 24 = .ok (.ifCond .ne 6, 3) := by decide +kernel
theorem dX11_choice_27 : decode cX11_choice 27 = .ok (.bipush (-3), 2) := by decide +kernel
theorem dX11_choice_29 : decode cX11_choice 29 = .ok (.ireturn, 1) := by decide +kernel
theorem dX11_choice_30 : decode cX11_choice 30 = .ok (.aload_n 0, 1) := by decide +kernel
theorem dX11_choice_31 : decode cX11_choice 31 = .ok (.iload_n 1, 1) := by decide +kernel
theorem dX11_choice_32 : decode cX11_choice 32 = .ok (.iconst (-1), 1) := by decide +kernel
theorem dX11_choice_33 : decode cX11_choice 33 = .ok (.invokevirtual 221, 3) := by decide +kernel
theorem dX11_choice_36 : decode cX11_choice 36 = .ok (.iload_n 2, 1) := by decide +kernel
theorem dX11_choice_37 : decode cX11_choice 37 = .ok (.ifCond .ne 10, 3) := by decide +kernel
theorem dX11_choice_40 : decode cX11_choice 40 = .ok (.aload_n 0, 1) := by decide +kernel
theorem dX11_choice_41 : decode cX11_choice 41 = .ok (.getfield 212, 3) := by decide +kernel
theorem dX11_choice_44 : decode cX11_choice 44 = .ok (.goto 7, 3) := by decide +kernel
theorem dX11_choice_47 : decode cX11_choice 47 = .ok (.aload_n 0, 1) := by decide +kernel
theorem dX11_choice_48 : decode cX11_choice 48 = .ok (.getfield 215, 3) := by decide +kernel
theorem dX11_choice_51 : decode cX11_choice 51 = .ok (.ireturn, 1) := by decide +kernel
theorem dX11_reach_0 : decode cX11_reach 0 = .ok (.aload_n 0, 1) := by decide +kernel
theorem dX11_reach_1 : decode cX11_reach 1 = .ok (.iload_n 1, 1) := by decide +kernel
theorem dX11_reach_2 : decode cX11_reach 2 = .ok (.invokevirtual 160, 3) := by decide +kernel
theorem dX11_reach_5 : decode cX11_reach 5 = .ok (.ifCond .eq 11, 3) := by decide +kernel
theorem dX11_reach_8 : decode cX11_reach 8 = .ok (.aload_n 0, 1) := by decide +kernel
theorem dX11_reach_9 : decode cX11_reach 9 = .ok (.iload_n 2, 1) := by decide +kernel
theorem dX11_reach_10 : decode cX11_reach 10 = .ok (.invokevirtual 160, 3) := by decide +kernel
theorem dX11_reach_13 : decode cX11_reach 13 = .ok (.ifCond .ne 5, 3) := by decide +kernel
theorem dX11_reach_16 : decode cX11_reach 16 = .ok (.iconst (-1), 1) := by decide +kernel
theorem dX11_reach_17 : decode cX11_reach 17 = .ok (.ireturn, 1) := by decide +kernel
theorem dX11_reach_18 : decode cX11_reach 18 = .ok (.aload_n 0, 1) := by decide +kernel
theorem dX11_reach_19 : decode cX11_reach 19 = .ok (.iload_n 1, 1) := by decide +kernel
theorem dX11_reach_20 : decode cX11_reach 20 = .ok (.invokevirtual 175, 3) := by decide +kernel
theorem dX11_reach_23 : decode cX11_reach 23 = .ok (.ifCond .ne 6, 3) := by decide +kernel
theorem dX11_reach_26 : decode cX11_reach 26 = .ok (.bipush (-3), 2) := by decide +kernel
theorem dX11_reach_28 : decode cX11_reach 28 = .ok (.ireturn, 1) := by decide +kernel
theorem dX11_reach_29 : decode cX11_reach 29 = .ok (.aload_n 0, 1) := by decide +kernel
theorem dX11_reach_30 : decode cX11_reach 30 = .ok (.iload_n 1, 1) := by decide +kernel
theorem dX11_reach_31 : decode cX11_reach 31 = .ok (.iload_n 2, 1) := by decide +kernel
theorem dX11_reach_32 : decode cX11_reach 32 = .ok (.invokevirtual 221, 3) := by decide +kernel
theorem dX11_reach_35 : decode cX11_reach 35 = .ok (.aload_n 0, 1) := by decide +kernel
theorem dX11_reach_36 : decode cX11_reach 36 = .ok (.getfield 218, 3) := by decide +kernel
theorem dX11_reach_39 : decode cX11_reach 39 = .ok (.ireturn, 1) := by decide +kernel
theorem dX11_see_0 : decode cX11_see 0 = .ok (.iload_n 1, 1) := by decide +kernel
theorem dX11_see_1 : decode cX11_see 1 = .ok (.iconst (-1), 1) := by decide +kernel
theorem dX11_see_2 : decode cX11_see 2 = .ok (.if_icmp .ne 13, 3) := by decide +kernel
theorem dX11_see_5 : decode cX11_see 5 = .ok (.aload_n 0, 1) := by decide +kernel
theorem dX11_see_6 : decode cX11_see 6 = .ok (.getfield 9, 3) := by decide +kernel
theorem dX11_see_9 : decode cX11_see 9 = .ok (.bipush 20, 2) := by decide +kernel
theorem dX11_see_11 : decode cX11_see 11 = .ok (.iconst 0, 1) := by decide +kernel
theorem dX11_see_12 : decode cX11_see 12 = .ok (.iastore, 1) := by decide +kernel
theorem dX11_see_13 : decode cX11_see 13 = .ok (.iconst 0, 1) := by decide +kernel
theorem dX11_see_14 : decode cX11_see 14 = .ok (.ireturn, 1) := by decide +kernel
theorem dX11_see_15 : decode cX11_see 15 = .ok (.iload_n 1, 1) := by decide +kernel
theorem dX11_see_16 : decode cX11_see 16 = .ok (.iconst 0, 1) := by decide +kernel
theorem dX11_see_17 : decode cX11_see 17 = .ok (.iconst 1, 1) := by decide +kernel
theorem dX11_see_18 : decode cX11_see 18 = .ok (.aload_n 0, 1) := by decide +kernel
theorem dX11_see_19 : decode cX11_see 19 = .ok (.getfield 9, 3) := by decide +kernel
theorem dX11_see_22 : decode cX11_see 22 = .ok (.bipush 18, 2) := by decide +kernel
theorem dX11_see_24 : decode cX11_see 24 = .ok (.iaload, 1) := by decide +kernel
theorem dX11_see_25 : decode cX11_see 25 = .ok (.ishl, 1) := by decide +kernel
theorem dX11_see_26 : decode cX11_see 26 = .ok (.iconst 1, 1) := by decide +kernel
theorem dX11_see_27 : decode cX11_see 27 = .ok (.isub, 1) := by decide +kernel
theorem dX11_see_28 : decode cX11_see 28 = .ok (.invokestatic 47, 3) := by decide +kernel
theorem dX11_see_31 : decode cX11_see 31 = .ok (.ifCond .eq 13, 3) := by decide +kernel
theorem dX11_see_34 : decode cX11_see 34 = .ok (.iload_n 2, 1) := by decide +kernel
theorem dX11_see_35 : decode cX11_see 35 = .ok (.iconst 0, 1) := by decide +kernel
theorem dX11_see_36 : decode cX11_see 36 = .ok (.bipush 6, 2) := by decide +kernel
theorem dX11_see_38 : decode cX11_see 38 = .ok (.invokestatic 47, 3) := by decide +kernel
theorem dX11_see_41 : decode cX11_see 41 = .ok (.ifCond .ne 6, 3) := by decide +kernel
theorem dX11_see_44 : decode cX11_see 44 = .ok (.bipush (-2), 2) := by decide +kernel
theorem dX11_see_46 : decode cX11_see 46 = .ok (.ireturn, 1) := by decide +kernel
theorem dX11_see_47 : decode cX11_see 47 = .ok (.aload_n 0, 1) := by decide +kernel
theorem dX11_see_48 : decode cX11_see 48 = .ok (.getfield 9, 3) := by decide +kernel
theorem dX11_see_51 : decode cX11_see 51 = .ok (.bipush 20, 2) := by decide +kernel
theorem dX11_see_53 : decode cX11_see 53 = .ok (.iaload, 1) := by decide +kernel
theorem dX11_see_54 : decode cX11_see 54 = .ok (.bipush 6, 2) := by decide +kernel
theorem dX11_see_56 : decode cX11_see 56 = .ok (.if_icmp .ne 6, 3) := by decide +kernel
theorem dX11_see_59 : decode cX11_see 59 = .ok (.bipush (-4), 2) := by decide +kernel
theorem dX11_see_61 : decode cX11_see 61 = .ok (.ireturn, 1) := by decide +kernel
theorem dX11_see_62 : decode cX11_see 62 = .ok (.aload_n 0, 1) := by decide +kernel
theorem dX11_see_63 : decode cX11_see 63 = .ok (.getfield 9, 3) := by decide +kernel
theorem dX11_see_66 : decode cX11_see 66 = .ok (.bipush 101, 2) := by decide +kernel
theorem dX11_see_68 : decode cX11_see 68 = .ok (.aload_n 0, 1) := by decide +kernel
theorem dX11_see_69 : decode cX11_see 69 = .ok (.getfield 9, 3) := by decide +kernel
theorem dX11_see_72 : decode cX11_see 72 = .ok (.bipush 20, 2) := by decide +kernel
theorem dX11_see_74 : decode cX11_see 74 = .ok (.iaload, 1) := by decide +kernel
theorem dX11_see_75 : decode cX11_see 75 = .ok (.iadd, 1) := by decide +kernel
theorem dX11_see_76 : decode cX11_see 76 = .ok (.iload_n 1, 1) := by decide +kernel
theorem dX11_see_77 : decode cX11_see 77 = .ok (.iastore, 1) := by decide +kernel
theorem dX11_see_78 : decode cX11_see 78 = .ok (.aload_n 0, 1) := by decide +kernel
theorem dX11_see_79 : decode cX11_see 79 = .ok (.getfield 9, 3) := by decide +kernel
theorem dX11_see_82 : decode cX11_see 82 = .ok (.bipush 107, 2) := by decide +kernel
theorem dX11_see_84 : decode cX11_see 84 = .ok (.aload_n 0, 1) := by decide +kernel
theorem dX11_see_85 : decode cX11_see 85 = .ok (.getfield 9, 3) := by decide +kernel
theorem dX11_see_88 : decode cX11_see 88 = .ok (.bipush 20, 2) := by decide +kernel
theorem dX11_see_90 : decode cX11_see 90 = .ok (.iaload, 1) := by decide +kernel
theorem dX11_see_91 : decode cX11_see 91 = .ok (.iadd, 1) := by decide +kernel
theorem dX11_see_92 : decode cX11_see 92 = .ok (.iload_n 2, 1) := by decide +kernel
theorem dX11_see_93 : decode cX11_see 93 = .ok (.iastore, 1) := by decide +kernel
theorem dX11_see_94 : decode cX11_see 94 = .ok (.aload_n 0, 1) := by decide +kernel
theorem dX11_see_95 : decode cX11_see 95 = .ok (.getfield 9, 3) := by decide +kernel
theorem dX11_see_98 : decode cX11_see 98 = .ok (.bipush 20, 2) := by decide +kernel
theorem dX11_see_100 : decode cX11_see 100 = .ok (.dup2, 1) := by decide +kernel
theorem dX11_see_101 : decode cX11_see 101 = .ok (.iaload, 1) := by decide +kernel
theorem dX11_see_102 : decode cX11_see 102 = .ok (.iconst 1, 1) := by decide +kernel
theorem dX11_see_103 : decode cX11_see 103 = .ok (.iadd, 1) := by decide +kernel
theorem dX11_see_104 : decode cX11_see 104 = .ok (.iastore, 1) := by decide +kernel
theorem dX11_see_105 : decode cX11_see 105 = .ok (.aload_n 0, 1) := by decide +kernel
theorem dX11_see_106 : decode cX11_see 106 = .ok (.getfield 9, 3) := by decide +kernel
theorem dX11_see_109 : decode cX11_see 109 = .ok (.bipush 20, 2) := by decide +kernel
theorem dX11_see_111 : decode cX11_see 111 = .ok (.iaload, 1) := by decide +kernel
theorem dX11_see_112 : decode cX11_see 112 = .ok (.ireturn, 1) := by decide +kernel
theorem dX11_isAsSeen_0 : decode cX11_isAsSeen 0 = .ok (.iconst 1, 1) := by decide +kernel
theorem dX11_isAsSeen_1 : decode cX11_isAsSeen 1 = .ok (.istore_n 1, 1) := by decide +kernel
theorem dX11_isAsSeen_2 : decode cX11_isAsSeen 2 = .ok (.iconst 0, 1) := by decide +kernel
theorem dX11_isAsSeen_3 : decode cX11_isAsSeen 3 = .ok (.istore_n 2, 1) := by decide +kernel
theorem dX11_isAsSeen_4 : decode cX11_isAsSeen 4 = .ok (.iload_n 2, 1) := by decide +kernel
theorem dX11_isAsSeen_5 : decode cX11_isAsSeen 5 = .ok (.bipush 7, 2) := by decide +kernel
theorem dX11_isAsSeen_7 : decode cX11_isAsSeen 7 = .ok (.if_icmp .ge 74, 3) := by decide +kernel
theorem dX11_isAsSeen_10 : decode cX11_isAsSeen 10 = .ok (.iconst 0, 1) := by decide +kernel
theorem dX11_isAsSeen_11 : decode cX11_isAsSeen 11 = .ok (.istore_n 3, 1) := by decide +kernel
theorem dX11_isAsSeen_12 : decode cX11_isAsSeen 12 = .ok (.iload_n 3, 1) := by decide +kernel
theorem dX11_isAsSeen_13 : decode cX11_isAsSeen 13 = .ok (.aload_n 0, 1) := by decide +kernel
theorem dX11_isAsSeen_14 : decode cX11_isAsSeen 14 = .ok (.getfield 9, 3) := by decide +kernel
theorem dX11_isAsSeen_17 : decode cX11_isAsSeen 17 = .ok (.bipush 20, 2) := by decide +kernel
theorem dX11_isAsSeen_19 : decode cX11_isAsSeen 19 = .ok (.iaload, 1) := by decide +kernel
theorem dX11_isAsSeen_20 : decode cX11_isAsSeen 20 = .ok (.if_icmp .ge 50, 3) := by decide +kernel
theorem dX11_isAsSeen_23 : decode cX11_isAsSeen 23 = .ok (.iload_n 1, 1) := by decide +kernel
theorem dX11_isAsSeen_24 : decode cX11_isAsSeen 24 = .ok (.ifCond .eq 38, 3) := by decide +kernel
theorem dX11_isAsSeen_27 : decode cX11_isAsSeen 27 = .ok (.aload_n 0, 1) := by decide +kernel
theorem dX11_isAsSeen_28 : decode cX11_isAsSeen 28 = .ok (.getfield 9, 3) := by decide +kernel
theorem dX11_isAsSeen_31 : decode cX11_isAsSeen 31 = .ok (.bipush 107, 2) := by decide +kernel
theorem dX11_isAsSeen_33 : decode cX11_isAsSeen 33 = .ok (.iload_n 3, 1) := by decide +kernel
theorem dX11_isAsSeen_34 : decode cX11_isAsSeen 34 = .ok (.iadd, 1) := by decide +kernel
theorem dX11_isAsSeen_35 : decode cX11_isAsSeen 35 = .ok (.iaload, 1) := by decide +kernel
theorem dX11_isAsSeen_36 : decode cX11_isAsSeen 36 = .ok (.iload_n 2, 1) := by decide +kernel
theorem dX11_isAsSeen_37 : decode cX11_isAsSeen 37 = .ok (.if_icmp .ne 21, 3) := by decide +kernel
theorem dX11_isAsSeen_40 : decode cX11_isAsSeen 40 = .ok (.aload_n 0, 1) := by decide +kernel
theorem dX11_isAsSeen_41 : decode cX11_isAsSeen 41 = .ok (.getfield 9, 3) := by decide +kernel
theorem dX11_isAsSeen_44 : decode cX11_isAsSeen 44 = .ok (.bipush 101, 2) := by decide +kernel
theorem dX11_isAsSeen_46 : decode cX11_isAsSeen 46 = .ok (.iload_n 3, 1) := by decide +kernel
theorem dX11_isAsSeen_47 : decode cX11_isAsSeen 47 = .ok (.iadd, 1) := by decide +kernel
theorem dX11_isAsSeen_48 : decode cX11_isAsSeen 48 = .ok (.iaload, 1) := by decide +kernel
theorem dX11_isAsSeen_49 : decode cX11_isAsSeen 49 = .ok (.aload_n 0, 1) := by decide +kernel
theorem dX11_isAsSeen_50 : decode cX11_isAsSeen 50 = .ok (.getfield 9, 3) := by decide +kernel
theorem dX11_isAsSeen_53 : decode cX11_isAsSeen 53 = .ok (.iconst 2, 1) := by decide +kernel
theorem dX11_isAsSeen_54 : decode cX11_isAsSeen 54 = .ok (.iaload, 1) := by decide +kernel
theorem dX11_isAsSeen_55 : decode cX11_isAsSeen 55 = .ok (.if_icmp .ne 7, 3) := by decide +kernel
theorem dX11_isAsSeen_58 : decode cX11_isAsSeen 58 = .ok (.iconst 1, 1) := by decide +kernel
theorem dX11_isAsSeen_59 : decode cX11_isAsSeen 59 = .ok (.goto 4, 3) := by decide +kernel
theorem dX11_isAsSeen_62 : decode cX11_isAsSeen 62 = .ok (.iconst 0, 1) := by decide +kernel
theorem dX11_isAsSeen_63 : decode cX11_isAsSeen 63 = .ok (.istore_n 1, 1) := by decide +kernel
theorem dX11_isAsSeen_64 : decode cX11_isAsSeen 64 = .ok (.iinc 3 1, 3) := by decide +kernel
theorem dX11_isAsSeen_67 : decode cX11_isAsSeen 67 = .ok (.goto (-55), 3) := by decide +kernel
theorem dX11_isAsSeen_70 : decode cX11_isAsSeen 70 = .ok (.aload_n 0, 1) := by decide +kernel
theorem dX11_isAsSeen_71 : decode cX11_isAsSeen 71 = .ok (.invokevirtual 193, 3) := by decide +kernel
theorem dX11_isAsSeen_74 : decode cX11_isAsSeen 74 = .ok (.pop, 1) := by decide +kernel
theorem dX11_isAsSeen_75 : decode cX11_isAsSeen 75 = .ok (.iinc 2 1, 3) := by decide +kernel
theorem dX11_isAsSeen_78 : decode cX11_isAsSeen 78 = .ok (.goto (-74), 3) := by decide +kernel
theorem dX11_isAsSeen_81 : decode cX11_isAsSeen 81 = .ok (.iload_n 1, 1) := by decide +kernel
theorem dX11_isAsSeen_82 : decode cX11_isAsSeen 82 = .ok (.ireturn, 1) := by decide +kernel
theorem dX11_began_0 : decode cX11_began 0 = .ok (.iload_n 1, 1) := by decide +kernel
theorem dX11_began_1 : decode cX11_began 1 = .ok (.iconst 0, 1) := by decide +kernel
theorem dX11_began_2 : decode cX11_began 2 = .ok (.iconst 1, 1) := by decide +kernel
theorem dX11_began_3 : decode cX11_began 3 = .ok (.invokestatic 47, 3) := by decide +kernel
theorem dX11_began_6 : decode cX11_began 6 = .ok (.ifCond .ne 5, 3) := by decide +kernel
theorem dX11_began_9 : decode cX11_began 9 = .ok (.iconst (-1), 1) := by decide +kernel
theorem dX11_began_10 : decode cX11_began 10 = .ok (.ireturn, 1) := by decide +kernel
theorem dX11_began_11 : decode cX11_began 11 = .ok (.iconst 0, 1) := by decide +kernel
theorem dX11_began_12 : decode cX11_began 12 = .ok (.istore_n 2, 1) := by decide +kernel
theorem dX11_began_13 : decode cX11_began 13 = .ok (.bipush (-5), 2) := by decide +kernel
theorem dX11_began_15 : decode cX11_began 15 = .ok (.istore_n 3, 1) := by decide +kernel
theorem dX11_began_16 : decode cX11_began 16 = .ok (.aload_n 0, 1) := by decide +kernel
theorem dX11_began_17 : decode cX11_began 17 = .ok (.invokevirtual 203, 3) := by decide +kernel
theorem dX11_began_20 : decode cX11_began 20 = .ok (.iconst 0, 1) := by decide +kernel
theorem dX11_began_21 : decode cX11_began 21 = .ok (.istore 4, 2) := by decide +kernel
theorem dX11_began_23 : decode cX11_began 23 = .ok (.iload 4, 2) := by decide +kernel
theorem dX11_began_25 : decode cX11_began 25 = .ok (.aload_n 0, 1) := by decide +kernel
theorem dX11_began_26 : decode cX11_began 26 = .ok (.getfield 9, 3) := by decide +kernel
theorem dX11_began_29 : decode cX11_began 29 = .ok (.bipush 18, 2) := by decide +kernel
theorem dX11_began_31 : decode cX11_began 31 = .ok (.iaload, 1) := by decide +kernel
theorem dX11_began_32 : decode cX11_began 32 = .ok (.if_icmp .ge 64, 3) := by decide +kernel
theorem dX11_began_35 : decode cX11_began 35 = .ok (.iconst 0, 1) := by decide +kernel
theorem dX11_began_36 : decode cX11_began 36 = .ok (.istore 5, 2) := by decide +kernel
theorem dX11_began_38 : decode cX11_began 38 = .ok (.iload 5, 2) := by decide +kernel
theorem dX11_began_40 : decode cX11_began 40 = .ok (.bipush 7, 2) := by decide +kernel
theorem dX11_began_42 : decode cX11_began 42 = .ok (.if_icmp .ge 48, 3) := by decide +kernel
theorem dX11_began_45 : decode cX11_began 45 = .ok (.aload_n 0, 1) := by decide +kernel
theorem dX11_began_46 : decode cX11_began 46 = .ok (.iload 4, 2) := by decide +kernel
theorem dX11_began_48 : decode cX11_began 48 = .ok (.iload 5, 2) := by decide +kernel
theorem dX11_began_50 : decode cX11_began 50 = .ok (.invokevirtual 172, 3) := by decide +kernel
theorem dX11_began_53 : decode cX11_began 53 = .ok (.aload_n 0, 1) := by decide +kernel
theorem dX11_began_54 : decode cX11_began 54 = .ok (.invokevirtual 224, 3) := by decide +kernel
theorem dX11_began_57 : decode cX11_began 57 = .ok (.ifCond .eq 23, 3) := by decide +kernel
theorem dX11_began_60 : decode cX11_began 60 = .ok (.iload_n 2, 1) := by decide +kernel
theorem dX11_began_61 : decode cX11_began 61 = .ok (.ifCond .ne 14, 3) := by decide +kernel
theorem dX11_began_64 : decode cX11_began 64 = .ok (.bipush 10, 2) := by decide +kernel
theorem dX11_began_66 : decode cX11_began 66 = .ok (.iload 4, 2) := by decide +kernel
theorem dX11_began_68 : decode cX11_began 68 = .ok (.imul, 1) := by decide +kernel
theorem dX11_began_69 : decode cX11_began 69 = .ok (.iload 5, 2) := by decide +kernel
theorem dX11_began_71 : decode cX11_began 71 = .ok (.iadd, 1) := by decide +kernel
theorem dX11_began_72 : decode cX11_began 72 = .ok (.goto 4, 3) := by decide +kernel
theorem dX11_began_75 : decode cX11_began 75 = .ok (.iload_n 3, 1) := by decide +kernel
theorem dX11_began_76 : decode cX11_began 76 = .ok (.istore_n 3, 1) := by decide +kernel
theorem dX11_began_77 : decode cX11_began 77 = .ok (.iinc 2 1, 3) := by decide +kernel
theorem dX11_began_80 : decode cX11_began 80 = .ok (.aload_n 0, 1) := by decide +kernel
theorem dX11_began_81 : decode cX11_began 81 = .ok (.invokevirtual 209, 3) := by decide +kernel
theorem dX11_began_84 : decode cX11_began 84 = .ok (.iinc 5 1, 3) := by decide +kernel
theorem dX11_began_87 : decode cX11_began 87 = .ok (.goto (-49), 3) := by decide +kernel
theorem dX11_began_90 : decode cX11_began 90 = .ok (.iinc 4 1, 3) := by decide +kernel
theorem dX11_began_93 : decode cX11_began 93 = .ok (.goto (-70), 3) := by decide +kernel
theorem dX11_began_96 : decode cX11_began 96 = .ok (.iload_n 1, 1) := by decide +kernel
theorem dX11_began_97 : decode cX11_began 97 = .ok (.ifCond .ne 7, 3) := by decide +kernel
theorem dX11_began_100 : decode cX11_began 100 = .ok (.iload_n 2, 1) := by decide +kernel
theorem dX11_began_101 : decode cX11_began 101 = .ok (.goto 4, 3) := by decide +kernel
theorem dX11_began_104 : decode cX11_began 104 = .ok (.iload_n 3, 1) := by decide +kernel
theorem dX11_began_105 : decode cX11_began 105 = .ok (.ireturn, 1) := by decide +kernel
theorem dX11_othersHeard_0 : decode cX11_othersHeard 0 = .ok (.aload_n 0, 1) := by decide +kernel
theorem dX11_othersHeard_1 : decode cX11_othersHeard 1 = .ok (.invokevirtual 203, 3) := by decide +kernel
theorem dX11_othersHeard_4 : decode cX11_othersHeard 4 = .ok (.aload_n 0, 1) := by decide +kernel
theorem dX11_othersHeard_5 : decode cX11_othersHeard 5 = .ok (.invokevirtual 206, 3) := by decide +kernel
theorem dX11_othersHeard_8 : decode cX11_othersHeard 8 = .ok (.pop, 1) := by decide +kernel
theorem dX11_othersHeard_9 : decode cX11_othersHeard 9 = .ok (.aload_n 0, 1) := by decide +kernel
theorem dX11_othersHeard_10 : decode cX11_othersHeard 10 = .ok (.getfield 9, 3) := by decide +kernel
theorem dX11_othersHeard_13 : decode cX11_othersHeard 13 = .ok (.iconst 2, 1) := by decide +kernel
theorem dX11_othersHeard_14 : decode cX11_othersHeard 14 = .ok (.iaload, 1) := by decide +kernel
theorem dX11_othersHeard_15 : decode cX11_othersHeard 15 = .ok (.iconst 1, 1) := by decide +kernel
theorem dX11_othersHeard_16 : decode cX11_othersHeard 16 = .ok (.iload_n 1, 1) := by decide +kernel
theorem dX11_othersHeard_17 : decode cX11_othersHeard 17 = .ok (.ishl, 1) := by decide +kernel
theorem dX11_othersHeard_18 : decode cX11_othersHeard 18 = .ok (.iconst (-1), 1) := by decide +kernel
theorem dX11_othersHeard_19 : decode cX11_othersHeard 19 = .ok (.ixor, 1) := by decide +kernel
theorem dX11_othersHeard_20 : decode cX11_othersHeard 20 = .ok (.iand, 1) := by decide +kernel
theorem dX11_othersHeard_21 : decode cX11_othersHeard 21 = .ok (.invokestatic 147, 3) := by decide +kernel
theorem dX11_othersHeard_24 : decode cX11_othersHeard 24 = .ok (.istore_n 2, 1) := by decide +kernel
theorem dX11_othersHeard_25 : decode cX11_othersHeard 25 = .ok (.aload_n 0, 1) := by decide +kernel
theorem dX11_othersHeard_26 : decode cX11_othersHeard 26 = .ok (.invokevirtual 209, 3) := by decide +kernel
theorem dX11_othersHeard_29 : decode cX11_othersHeard 29 = .ok (.iload_n 2, 1) := by decide +kernel
theorem dX11_othersHeard_30 : decode cX11_othersHeard 30 = .ok (.ireturn, 1) := by decide +kernel
theorem dX11_stops_0 : decode cX11_stops 0 = .ok (.aload_n 0, 1) := by decide +kernel
theorem dX11_stops_1 : decode cX11_stops 1 = .ok (.iload_n 1, 1) := by decide +kernel
theorem dX11_stops_2 : decode cX11_stops 2 = .ok (.invokevirtual 160, 3) := by decide +kernel
theorem dX11_stops_5 : decode cX11_stops 5 = .ok (.ifCond .ne 7, 3) := by decide +kernel
theorem dX11_stops_8 : decode cX11_stops 8 = .ok (.sipush (-1001), 3) := by decide +kernel
theorem dX11_stops_11 : decode cX11_stops 11 = .ok (.ireturn, 1) := by decide +kernel
theorem dX11_stops_12 : decode cX11_stops 12 = .ok (.aload_n 0, 1) := by decide +kernel
theorem dX11_stops_13 : decode cX11_stops 13 = .ok (.iload_n 1, 1) := by decide +kernel
theorem dX11_stops_14 : decode cX11_stops 14 = .ok (.invokevirtual 129, 3) := by decide +kernel
theorem dX11_stops_17 : decode cX11_stops 17 = .ok (.ifCond .eq 7, 3) := by decide +kernel
theorem dX11_stops_20 : decode cX11_stops 20 = .ok (.sipush (-1002), 3) := by decide +kernel
theorem dX11_stops_23 : decode cX11_stops 23 = .ok (.ireturn, 1) := by decide +kernel
theorem dX11_stops_24 : decode cX11_stops 24 = .ok (.aload_n 0, 1) := by decide +kernel
theorem dX11_stops_25 : decode cX11_stops 25 = .ok (.iload_n 1, 1) := by decide +kernel
theorem dX11_stops_26 : decode cX11_stops 26 = .ok (.invokevirtual 228, 3) := by decide +kernel
theorem dX11_stops_29 : decode cX11_stops 29 = .ok (.istore_n 2, 1) := by decide +kernel
theorem dX11_stops_30 : decode cX11_stops 30 = .ok (.aload_n 0, 1) := by decide +kernel
theorem dX11_stops_31 : decode cX11_stops 31 = .ok (.iload_n 1, 1) := by decide +kernel
theorem dX11_stops_32 : decode cX11_stops 32 = .ok (.putfield 34, 3) := by decide +kernel
theorem dX11_stops_35 : decode cX11_stops 35 = .ok (.aload_n 0, 1) := by decide +kernel
theorem dX11_stops_36 : decode cX11_stops 36 = .ok (.iload_n 1, 1) := by decide +kernel
theorem dX11_stops_37 : decode cX11_stops 37 = .ok (.invokevirtual 228, 3) := by decide +kernel
theorem dX11_stops_40 : decode cX11_stops 40 = .ok (.istore_n 3, 1) := by decide +kernel
theorem dX11_stops_41 : decode cX11_stops 41 = .ok (.aload_n 0, 1) := by decide +kernel
theorem dX11_stops_42 : decode cX11_stops 42 = .ok (.iconst (-1), 1) := by decide +kernel
theorem dX11_stops_43 : decode cX11_stops 43 = .ok (.putfield 34, 3) := by decide +kernel
theorem dX11_stops_46 : decode cX11_stops 46 = .ok (.iload_n 2, 1) := by decide +kernel
theorem dX11_stops_47 : decode cX11_stops 47 = .ok (.iload_n 3, 1) := by decide +kernel
theorem dX11_stops_48 : decode cX11_stops 48 = .ok (.isub, 1) := by decide +kernel
theorem dX11_stops_49 : decode cX11_stops 49 = .ok (.ireturn, 1) := by decide +kernel
theorem dX11_lowest_0 : decode cX11_lowest 0 = .ok (.lload_n 0, 1) := by decide +kernel
theorem dX11_lowest_1 : decode cX11_lowest 1 = .ok (.lstore 5, 2) := by decide +kernel
theorem dX11_lowest_3 : decode cX11_lowest 3 = .ok (.lload_n 2, 1) := by decide +kernel
theorem dX11_lowest_4 : decode cX11_lowest 4 = .ok (.lstore 7, 2) := by decide +kernel
theorem dX11_lowest_6 : decode cX11_lowest 6 = .ok (.lload 7, 2) := by decide +kernel
theorem dX11_lowest_8 : decode cX11_lowest 8 = .ok (.lconst 0, 1) := by decide +kernel
theorem dX11_lowest_9 : decode cX11_lowest 9 = .ok (.lcmp, 1) := by decide +kernel
theorem dX11_lowest_10 : decode cX11_lowest 10 = .ok (.ifCond .eq 21, 3) := by decide +kernel
theorem dX11_lowest_13 : decode cX11_lowest 13 = .ok (.lload 5, 2) := by decide +kernel
theorem dX11_lowest_15 : decode cX11_lowest 15 = .ok (.lload 7, 2) := by decide +kernel
theorem dX11_lowest_17 : decode cX11_lowest 17 = .ok (.lrem, 1) := by decide +kernel
theorem dX11_lowest_18 : decode cX11_lowest 18 = .ok (.lstore 9, 2) := by decide +kernel
theorem dX11_lowest_20 : decode cX11_lowest 20 = .ok (.lload 7, 2) := by decide +kernel
theorem dX11_lowest_22 : decode cX11_lowest 22 = .ok (.lstore 5, 2) := by decide +kernel
theorem dX11_lowest_24 : decode cX11_lowest 24 = .ok (.lload 9, 2) := by decide +kernel
theorem dX11_lowest_26 : decode cX11_lowest 26 = .ok (.lstore 7, 2) := by decide +kernel
theorem dX11_lowest_28 : decode cX11_lowest 28 = .ok (.goto (-22), 3) := by decide +kernel
theorem dX11_lowest_31 : decode cX11_lowest 31 = .ok (.iload 4, 2) := by decide +kernel
theorem dX11_lowest_33 : decode cX11_lowest 33 = .ok (.ifCond .ne 7, 3) := by decide +kernel
theorem dX11_lowest_36 : decode cX11_lowest 36 = .ok (.lload_n 0, 1) := by decide +kernel
theorem dX11_lowest_37 : decode cX11_lowest 37 = .ok (.goto 4, 3) := by decide +kernel
theorem dX11_lowest_40 : decode cX11_lowest 40 = .ok (.lload_n 2, 1) := by decide +kernel
theorem dX11_lowest_41 : decode cX11_lowest 41 = .ok (.lload 5, 2) := by decide +kernel
theorem dX11_lowest_43 : decode cX11_lowest 43 = .ok (.ldiv, 1) := by decide +kernel
theorem dX11_lowest_44 : decode cX11_lowest 44 = .ok (.lreturn, 1) := by decide +kernel
theorem dX11_odds_0 : decode cX11_odds 0 = .ok (.aload_n 0, 1) := by decide +kernel
theorem dX11_odds_1 : decode cX11_odds 1 = .ok (.iload_n 1, 1) := by decide +kernel
theorem dX11_odds_2 : decode cX11_odds 2 = .ok (.invokevirtual 160, 3) := by decide +kernel
theorem dX11_odds_5 : decode cX11_odds 5 = .ok (.ifCond .eq 33, 3) := by decide +kernel
theorem dX11_odds_8 : decode cX11_odds 8 = .ok (.iload_n 2, 1) := by decide +kernel
theorem dX11_odds_9 : decode cX11_odds 9 = .ok (.iconst 0, 1) := by decide +kernel
theorem dX11_odds_10 : decode cX11_odds 10 = .ok (.bipush 9, 2) := by decide +kernel
theorem dX11_odds_12 : decode cX11_odds 12 = .ok (.invokestatic 47, 3) := by decide +kernel
theorem dX11_odds_15 : decode cX11_odds 15 = .ok (.ifCond .eq 23, 3) := by decide +kernel
theorem dX11_odds_18 : decode cX11_odds 18 = .ok (.iload_n 3, 1) := by decide +kernel
theorem dX11_odds_19 : decode cX11_odds 19 = .ok (.iconst 0, 1) := by decide +kernel
theorem dX11_odds_20 : decode cX11_odds 20 = .ok (.iconst 1, 1) := by decide +kernel
theorem dX11_odds_21 : decode cX11_odds 21 = .ok (.invokestatic 47, 3) := by decide +kernel
theorem dX11_odds_24 : decode cX11_odds 24 = .ok (.ifCond .eq 14, 3) := by decide +kernel
theorem dX11_odds_27 : decode cX11_odds 27 = .ok (.aload_n 0, 1) := by decide +kernel
theorem dX11_odds_28 : decode cX11_odds 28 = .ok (.getfield 9, 3) := by decide +kernel
theorem dX11_odds_31 : decode cX11_odds 31 = .ok (.bipush 18, 2) := by decide +kernel
theorem dX11_odds_33 : decode cX11_odds 33 = .ok (.iaload, 1) := by decide +kernel
theorem dX11_odds_34 : decode cX11_odds 34 = .ok (.iconst 1, 1) := by decide +kernel
theorem dX11_odds_35 : decode cX11_odds 35 = .ok (.if_icmp .ne 7, 3) := by decide +kernel
theorem dX11_odds_38 : decode cX11_odds 38 = .ok (.ldc2_w 200, 3) := by decide +kernel
theorem dX11_odds_41 : decode cX11_odds 41 = .ok (.lreturn, 1) := by decide +kernel
theorem dX11_odds_42 : decode cX11_odds 42 = .ok (.lconst 0, 1) := by decide +kernel
theorem dX11_odds_43 : decode cX11_odds 43 = .ok (.lstore 4, 2) := by decide +kernel
theorem dX11_odds_45 : decode cX11_odds 45 = .ok (.aload_n 0, 1) := by decide +kernel
theorem dX11_odds_46 : decode cX11_odds 46 = .ok (.invokevirtual 203, 3) := by decide +kernel
theorem dX11_odds_49 : decode cX11_odds 49 = .ok (.iconst 0, 1) := by decide +kernel
theorem dX11_odds_50 : decode cX11_odds 50 = .ok (.istore 6, 2) := by decide +kernel
theorem dX11_odds_52 : decode cX11_odds 52 = .ok (.iload 6, 2) := by decide +kernel
theorem dX11_odds_54 : decode cX11_odds 54 = .ok (.aload_n 0, 1) := by decide +kernel
theorem dX11_odds_55 : decode cX11_odds 55 = .ok (.getfield 9, 3) := by decide +kernel
theorem dX11_odds_58 : decode cX11_odds 58 = .ok (.bipush 18, 2) := by decide +kernel
theorem dX11_odds_60 : decode cX11_odds 60 = .ok (.iaload, 1) := by decide +kernel
theorem dX11_odds_61 : decode cX11_odds 61 = .ok (.if_icmp .ge 49, 3) := by decide +kernel
theorem dX11_odds_64 : decode cX11_odds 64 = .ok (.iload 6, 2) := by decide +kernel
theorem dX11_odds_66 : decode cX11_odds 66 = .ok (.iload_n 1, 1) := by decide +kernel
theorem dX11_odds_67 : decode cX11_odds 67 = .ok (.if_icmp .eq 37, 3) := by decide +kernel
theorem dX11_odds_70 : decode cX11_odds 70 = .ok (.aload_n 0, 1) := by decide +kernel
theorem dX11_odds_71 : decode cX11_odds 71 = .ok (.iload 6, 2) := by decide +kernel
theorem dX11_odds_73 : decode cX11_odds 73 = .ok (.iload_n 2, 1) := by decide +kernel
theorem dX11_odds_74 : decode cX11_odds 74 = .ok (.invokevirtual 172, 3) := by decide +kernel
theorem dX11_odds_77 : decode cX11_odds 77 = .ok (.aload_n 0, 1) := by decide +kernel
theorem dX11_odds_78 : decode cX11_odds 78 = .ok (.invokevirtual 206, 3) := by decide +kernel
theorem dX11_odds_81 : decode cX11_odds 81 = .ok (.pop, 1) := by decide +kernel
theorem dX11_odds_82 : decode cX11_odds 82 = .ok (.lload 4, 2) := by decide +kernel
theorem dX11_odds_84 : decode cX11_odds 84 = .ok (.aload_n 0, 1) := by decide +kernel
theorem dX11_odds_85 : decode cX11_odds 85 = .ok (.iload_n 1, 1) := by decide +kernel
theorem dX11_odds_86 : decode cX11_odds 86 = .ok (.invokevirtual 129, 3) := by decide +kernel
theorem dX11_odds_89 : decode cX11_odds 89 = .ok (.ifCond .eq 7, 3) := by decide +kernel
theorem dX11_odds_92 : decode cX11_odds 92 = .ok (.lconst 1, 1) := by decide +kernel
theorem dX11_odds_93 : decode cX11_odds 93 = .ok (.goto 4, 3) := by decide +kernel
theorem dX11_odds_96 : decode cX11_odds 96 = .ok (.lconst 0, 1) := by decide +kernel
theorem dX11_odds_97 : decode cX11_odds 97 = .ok (.ladd, 1) := by decide +kernel
theorem dX11_odds_98 : decode cX11_odds 98 = .ok (.lstore 4, 2) := by decide +kernel
theorem dX11_odds_100 : decode cX11_odds 100 = .ok (.aload_n 0, 1) := by decide +kernel
theorem dX11_odds_101 : decode cX11_odds 101 = .ok (.invokevirtual 209, 3) := by decide +kernel
theorem dX11_odds_104 : decode cX11_odds 104 = .ok (.iinc 6 1, 3) := by decide +kernel
theorem dX11_odds_107 : decode cX11_odds 107 = .ok (.goto (-55), 3) := by decide +kernel
theorem dX11_odds_110 : decode cX11_odds 110 = .ok (.lload 4, 2) := by decide +kernel
theorem dX11_odds_112 : decode cX11_odds 112 = .ok (.aload_n 0, 1) := by decide +kernel
theorem dX11_odds_113 : decode cX11_odds 113 = .ok (.getfield 9, 3) := by decide +kernel
theorem dX11_odds_116 : decode cX11_odds 116 = .ok (.bipush 18, 2) := by decide +kernel
theorem dX11_odds_118 : decode cX11_odds 118 = .ok (.iaload, 1) := by decide +kernel
theorem dX11_odds_119 : decode cX11_odds 119 = .ok (.i2l, 1) := by decide +kernel
theorem dX11_odds_120 : decode cX11_odds 120 = .ok (.lconst 1, 1) := by decide +kernel
theorem dX11_odds_121 : decode cX11_odds 121 = .ok (.lsub, 1) := by decide +kernel
theorem dX11_odds_122 : decode cX11_odds 122 = .ok (.iload_n 3, 1) := by decide +kernel
theorem dX11_odds_123 : decode cX11_odds 123 = .ok (.invokestatic 231, 3) := by decide +kernel
theorem dX11_odds_126 : decode cX11_odds 126 = .ok (.lreturn, 1) := by decide +kernel
theorem dX11_mean_0 : decode cX11_mean 0 = .ok (.iload_n 1, 1) := by decide +kernel
theorem dX11_mean_1 : decode cX11_mean 1 = .ok (.iconst 0, 1) := by decide +kernel
theorem dX11_mean_2 : decode cX11_mean 2 = .ok (.bipush 9, 2) := by decide +kernel
theorem dX11_mean_4 : decode cX11_mean 4 = .ok (.invokestatic 47, 3) := by decide +kernel
theorem dX11_mean_7 : decode cX11_mean 7 = .ok (.ifCond .eq 22, 3) := by decide +kernel
theorem dX11_mean_10 : decode cX11_mean 10 = .ok (.iload_n 2, 1) := by decide +kernel
theorem dX11_mean_11 : decode cX11_mean 11 = .ok (.iconst 0, 1) := by decide +kernel
theorem dX11_mean_12 : decode cX11_mean 12 = .ok (.iconst 1, 1) := by decide +kernel
theorem dX11_mean_13 : decode cX11_mean 13 = .ok (.invokestatic 47, 3) := by decide +kernel
theorem dX11_mean_16 : decode cX11_mean 16 = .ok (.ifCond .eq 13, 3) := by decide +kernel
theorem dX11_mean_19 : decode cX11_mean 19 = .ok (.aload_n 0, 1) := by decide +kernel
theorem dX11_mean_20 : decode cX11_mean 20 = .ok (.getfield 9, 3) := by decide +kernel
theorem dX11_mean_23 : decode cX11_mean 23 = .ok (.bipush 18, 2) := by decide +kernel
theorem dX11_mean_25 : decode cX11_mean 25 = .ok (.iaload, 1) := by decide +kernel
theorem dX11_mean_26 : decode cX11_mean 26 = .ok (.ifCond .ne 7, 3) := by decide +kernel
theorem dX11_mean_29 : decode cX11_mean 29 = .ok (.ldc2_w 200, 3) := by decide +kernel
theorem dX11_mean_32 : decode cX11_mean 32 = .ok (.lreturn, 1) := by decide +kernel
theorem dX11_mean_33 : decode cX11_mean 33 = .ok (.lconst 0, 1) := by decide +kernel
theorem dX11_mean_34 : decode cX11_mean 34 = .ok (.lstore_n 3, 1) := by decide +kernel
theorem dX11_mean_35 : decode cX11_mean 35 = .ok (.aload_n 0, 1) := by decide +kernel
theorem dX11_mean_36 : decode cX11_mean 36 = .ok (.invokevirtual 203, 3) := by decide +kernel
theorem dX11_mean_39 : decode cX11_mean 39 = .ok (.iconst 0, 1) := by decide +kernel
theorem dX11_mean_40 : decode cX11_mean 40 = .ok (.istore 5, 2) := by decide +kernel
theorem dX11_mean_42 : decode cX11_mean 42 = .ok (.iload 5, 2) := by decide +kernel
theorem dX11_mean_44 : decode cX11_mean 44 = .ok (.aload_n 0, 1) := by decide +kernel
theorem dX11_mean_45 : decode cX11_mean 45 = .ok (.getfield 9, 3) := by decide +kernel
theorem dX11_mean_48 : decode cX11_mean 48 = .ok (.bipush 18, 2) := by decide +kernel
theorem dX11_mean_50 : decode cX11_mean 50 = .ok (.iaload, 1) := by decide +kernel
theorem dX11_mean_51 : decode cX11_mean 51 = .ok (.if_icmp .ge 35, 3) := by decide +kernel
theorem dX11_mean_54 : decode cX11_mean 54 = .ok (.aload_n 0, 1) := by decide +kernel
theorem dX11_mean_55 : decode cX11_mean 55 = .ok (.iload 5, 2) := by decide +kernel
theorem dX11_mean_57 : decode cX11_mean 57 = .ok (.iload_n 1, 1) := by decide +kernel
theorem dX11_mean_58 : decode cX11_mean 58 = .ok (.invokevirtual 172, 3) := by decide +kernel
theorem dX11_mean_61 : decode cX11_mean 61 = .ok (.aload_n 0, 1) := by decide +kernel
theorem dX11_mean_62 : decode cX11_mean 62 = .ok (.invokevirtual 206, 3) := by decide +kernel
theorem dX11_mean_65 : decode cX11_mean 65 = .ok (.pop, 1) := by decide +kernel
theorem dX11_mean_66 : decode cX11_mean 66 = .ok (.lload_n 3, 1) := by decide +kernel
theorem dX11_mean_67 : decode cX11_mean 67 = .ok (.aload_n 0, 1) := by decide +kernel
theorem dX11_mean_68 : decode cX11_mean 68 = .ok (.getfield 9, 3) := by decide +kernel
theorem dX11_mean_71 : decode cX11_mean 71 = .ok (.iconst 1, 1) := by decide +kernel
theorem dX11_mean_72 : decode cX11_mean 72 = .ok (.iaload, 1) := by decide +kernel
theorem dX11_mean_73 : decode cX11_mean 73 = .ok (.i2l, 1) := by decide +kernel
theorem dX11_mean_74 : decode cX11_mean 74 = .ok (.ladd, 1) := by decide +kernel
theorem dX11_mean_75 : decode cX11_mean 75 = .ok (.lstore_n 3, 1) := by decide +kernel
theorem dX11_mean_76 : decode cX11_mean 76 = .ok (.aload_n 0, 1) := by decide +kernel
theorem dX11_mean_77 : decode cX11_mean 77 = .ok (.invokevirtual 209, 3) := by decide +kernel
theorem dX11_mean_80 : decode cX11_mean 80 = .ok (.iinc 5 1, 3) := by decide +kernel
theorem dX11_mean_83 : decode cX11_mean 83 = .ok (.goto (-41), 3) := by decide +kernel
theorem dX11_mean_86 : decode cX11_mean 86 = .ok (.lload_n 3, 1) := by decide +kernel
theorem dX11_mean_87 : decode cX11_mean 87 = .ok (.aload_n 0, 1) := by decide +kernel
theorem dX11_mean_88 : decode cX11_mean 88 = .ok (.getfield 9, 3) := by decide +kernel
theorem dX11_mean_91 : decode cX11_mean 91 = .ok (.bipush 18, 2) := by decide +kernel
theorem dX11_mean_93 : decode cX11_mean 93 = .ok (.iaload, 1) := by decide +kernel
theorem dX11_mean_94 : decode cX11_mean 94 = .ok (.i2l, 1) := by decide +kernel
theorem dX11_mean_95 : decode cX11_mean 95 = .ok (.iload_n 2, 1) := by decide +kernel
theorem dX11_mean_96 : decode cX11_mean 96 = .ok (.invokestatic 231, 3) := by decide +kernel
theorem dX11_mean_99 : decode cX11_mean 99 = .ok (.lreturn, 1) := by decide +kernel
theorem dX11_book_0 : decode cX11_book 0 = .ok (.iload_n 1, 1) := by decide +kernel
theorem dX11_book_1 : decode cX11_book 1 = .ok (.iconst (-1), 1) := by decide +kernel
theorem dX11_book_2 : decode cX11_book 2 = .ok (.if_icmp .ne 13, 3) := by decide +kernel
theorem dX11_book_5 : decode cX11_book 5 = .ok (.aload_n 0, 1) := by decide +kernel
theorem dX11_book_6 : decode cX11_book 6 = .ok (.getfield 9, 3) := by decide +kernel
theorem dX11_book_9 : decode cX11_book 9 = .ok (.bipush 21, 2) := by decide +kernel
theorem dX11_book_11 : decode cX11_book 11 = .ok (.iconst 0, 1) := by decide +kernel
theorem dX11_book_12 : decode cX11_book 12 = .ok (.iastore, 1) := by decide +kernel
theorem dX11_book_13 : decode cX11_book 13 = .ok (.iconst 0, 1) := by decide +kernel
theorem dX11_book_14 : decode cX11_book 14 = .ok (.ireturn, 1) := by decide +kernel
theorem dX11_book_15 : decode cX11_book 15 = .ok (.aload_n 0, 1) := by decide +kernel
theorem dX11_book_16 : decode cX11_book 16 = .ok (.iload_n 1, 1) := by decide +kernel
theorem dX11_book_17 : decode cX11_book 17 = .ok (.invokevirtual 160, 3) := by decide +kernel
theorem dX11_book_20 : decode cX11_book 20 = .ok (.ifCond .ne 5, 3) := by decide +kernel
theorem dX11_book_23 : decode cX11_book 23 = .ok (.iconst (-1), 1) := by decide +kernel
theorem dX11_book_24 : decode cX11_book 24 = .ok (.ireturn, 1) := by decide +kernel
theorem dX11_book_25 : decode cX11_book 25 = .ok (.iload_n 2, 1) := by decide +kernel
theorem dX11_book_26 : decode cX11_book 26 = .ok (.iconst 0, 1) := by decide +kernel
theorem dX11_book_27 : decode cX11_book 27 = .ok (.sipush 999, 3) := by decide +kernel
theorem dX11_book_30 : decode cX11_book 30 = .ok (.invokestatic 47, 3) := by decide +kernel
theorem dX11_book_33 : decode cX11_book 33 = .ok (.ifCond .ne 6, 3) := by decide +kernel
theorem dX11_book_36 : decode cX11_book 36 = .ok (.bipush (-2), 2) := by decide +kernel
theorem dX11_book_38 : decode cX11_book 38 = .ok (.ireturn, 1) := by decide +kernel
theorem dX11_book_39 : decode cX11_book 39 = .ok (.aload_n 0, 1) := by decide +kernel
theorem dX11_book_40 : decode cX11_book 40 = .ok (.getfield 9, 3) := by decide +kernel
theorem dX11_book_43 : decode cX11_book 43 = .ok (.bipush 21, 2) := by decide +kernel
theorem dX11_book_45 : decode cX11_book 45 = .ok (.iaload, 1) := by decide +kernel
theorem dX11_book_46 : decode cX11_book 46 = .ok (.bipush 8, 2) := by decide +kernel
theorem dX11_book_48 : decode cX11_book 48 = .ok (.if_icmp .ne 6, 3) := by decide +kernel
theorem dX11_book_51 : decode cX11_book 51 = .ok (.bipush (-4), 2) := by decide +kernel
theorem dX11_book_53 : decode cX11_book 53 = .ok (.ireturn, 1) := by decide +kernel
theorem dX11_book_54 : decode cX11_book 54 = .ok (.aload_n 0, 1) := by decide +kernel
theorem dX11_book_55 : decode cX11_book 55 = .ok (.getfield 9, 3) := by decide +kernel
theorem dX11_book_58 : decode cX11_book 58 = .ok (.bipush 113, 2) := by decide +kernel
theorem dX11_book_60 : decode cX11_book 60 = .ok (.aload_n 0, 1) := by decide +kernel
theorem dX11_book_61 : decode cX11_book 61 = .ok (.getfield 9, 3) := by decide +kernel
theorem dX11_book_64 : decode cX11_book 64 = .ok (.bipush 21, 2) := by decide +kernel
theorem dX11_book_66 : decode cX11_book 66 = .ok (.iaload, 1) := by decide +kernel
theorem dX11_book_67 : decode cX11_book 67 = .ok (.iadd, 1) := by decide +kernel
theorem dX11_book_68 : decode cX11_book 68 = .ok (.iload_n 1, 1) := by decide +kernel
theorem dX11_book_69 : decode cX11_book 69 = .ok (.iastore, 1) := by decide +kernel
theorem dX11_book_70 : decode cX11_book 70 = .ok (.aload_n 0, 1) := by decide +kernel
theorem dX11_book_71 : decode cX11_book 71 = .ok (.getfield 9, 3) := by decide +kernel
theorem dX11_book_74 : decode cX11_book 74 = .ok (.bipush 121, 2) := by decide +kernel
theorem dX11_book_76 : decode cX11_book 76 = .ok (.aload_n 0, 1) := by decide +kernel
theorem dX11_book_77 : decode cX11_book 77 = .ok (.getfield 9, 3) := by decide +kernel
theorem dX11_book_80 : decode cX11_book 80 = .ok (.bipush 21, 2) := by decide +kernel
theorem dX11_book_82 : decode cX11_book 82 = .ok (.iaload, 1) := by decide +kernel
theorem dX11_book_83 : decode cX11_book 83 = .ok (.iadd, 1) := by decide +kernel
theorem dX11_book_84 : decode cX11_book 84 = .ok (.iload_n 2, 1) := by decide +kernel
theorem dX11_book_85 : decode cX11_book 85 = .ok (.iastore, 1) := by decide +kernel
theorem dX11_book_86 : decode cX11_book 86 = .ok (.aload_n 0, 1) := by decide +kernel
theorem dX11_book_87 : decode cX11_book 87 = .ok (.getfield 9, 3) := by decide +kernel
theorem dX11_book_90 : decode cX11_book 90 = .ok (.bipush 21, 2) := by decide +kernel
theorem dX11_book_92 : decode cX11_book 92 = .ok (.dup2, 1) := by decide +kernel
theorem dX11_book_93 : decode cX11_book 93 = .ok (.iaload, 1) := by decide +kernel
theorem dX11_book_94 : decode cX11_book 94 = .ok (.iconst 1, 1) := by decide +kernel
theorem dX11_book_95 : decode cX11_book 95 = .ok (.iadd, 1) := by decide +kernel
theorem dX11_book_96 : decode cX11_book 96 = .ok (.iastore, 1) := by decide +kernel
theorem dX11_book_97 : decode cX11_book 97 = .ok (.aload_n 0, 1) := by decide +kernel
theorem dX11_book_98 : decode cX11_book 98 = .ok (.getfield 9, 3) := by decide +kernel
theorem dX11_book_101 : decode cX11_book 101 = .ok (.bipush 21, 2) := by decide +kernel
theorem dX11_book_103 : decode cX11_book 103 = .ok (.iaload, 1) := by decide +kernel
theorem dX11_book_104 : decode cX11_book 104 = .ok (.ireturn, 1) := by decide +kernel
theorem dX11_looked_0 : decode cX11_looked 0 = .ok (.iconst 0, 1) := by decide +kernel
theorem dX11_looked_1 : decode cX11_looked 1 = .ok (.istore_n 1, 1) := by decide +kernel
theorem dX11_looked_2 : decode cX11_looked 2 = .ok (.iload_n 1, 1) := by decide +kernel
theorem dX11_looked_3 : decode cX11_looked 3 = .ok (.aload_n 0, 1) := by decide +kernel
theorem dX11_looked_4 : decode cX11_looked 4 = .ok (.getfield 9, 3) := by decide +kernel
theorem dX11_looked_7 : decode cX11_looked 7 = .ok (.bipush 21, 2) := by decide +kernel
theorem dX11_looked_9 : decode cX11_looked 9 = .ok (.iaload, 1) := by decide +kernel
theorem dX11_looked_10 : decode cX11_looked 10 = .ok (.if_icmp .ge 50, 3) := by decide +kernel
theorem dX11_looked_13 : decode cX11_looked 13 = .ok (.aload_n 0, 1) := by decide +kernel
theorem dX11_looked_14 : decode cX11_looked 14 = .ok (.getfield 9, 3) := by decide +kernel
theorem dX11_looked_17 : decode cX11_looked 17 = .ok (.bipush 113, 2) := by decide +kernel
theorem dX11_looked_19 : decode cX11_looked 19 = .ok (.iload_n 1, 1) := by decide +kernel
theorem dX11_looked_20 : decode cX11_looked 20 = .ok (.iadd, 1) := by decide +kernel
theorem dX11_looked_21 : decode cX11_looked 21 = .ok (.iaload, 1) := by decide +kernel
theorem dX11_looked_22 : decode cX11_looked 22 = .ok (.istore_n 2, 1) := by decide +kernel
theorem dX11_looked_23 : decode cX11_looked 23 = .ok (.aload_n 0, 1) := by decide +kernel
theorem dX11_looked_24 : decode cX11_looked 24 = .ok (.iload_n 2, 1) := by decide +kernel
theorem dX11_looked_25 : decode cX11_looked 25 = .ok (.invokevirtual 129, 3) := by decide +kernel
theorem dX11_looked_28 : decode cX11_looked 28 = .ok (.ifCond .eq 24, 3) := by decide +kernel
theorem dX11_looked_31 : decode cX11_looked 31 = .ok (.aload_n 0, 1) := by decide +kernel
theorem dX11_looked_32 : decode cX11_looked 32 = .ok (.getfield 9, 3) := by decide +kernel
theorem dX11_looked_35 : decode cX11_looked 35 = .ok (.bipush 11, 2) := by decide +kernel
theorem dX11_looked_37 : decode cX11_looked 37 = .ok (.iload_n 2, 1) := by decide +kernel
theorem dX11_looked_38 : decode cX11_looked 38 = .ok (.iadd, 1) := by decide +kernel
theorem dX11_looked_39 : decode cX11_looked 39 = .ok (.iaload, 1) := by decide +kernel
theorem dX11_looked_40 : decode cX11_looked 40 = .ok (.aload_n 0, 1) := by decide +kernel
theorem dX11_looked_41 : decode cX11_looked 41 = .ok (.getfield 9, 3) := by decide +kernel
theorem dX11_looked_44 : decode cX11_looked 44 = .ok (.bipush 121, 2) := by decide +kernel
theorem dX11_looked_46 : decode cX11_looked 46 = .ok (.iload_n 1, 1) := by decide +kernel
theorem dX11_looked_47 : decode cX11_looked 47 = .ok (.iadd, 1) := by decide +kernel
theorem dX11_looked_48 : decode cX11_looked 48 = .ok (.iaload, 1) := by decide +kernel
theorem dX11_looked_49 : decode cX11_looked 49 = .ok (.if_icmp .eq 5, 3) := by decide +kernel
theorem dX11_looked_52 : decode cX11_looked 52 = .ok (.iload_n 1, 1) := by decide +kernel
theorem dX11_looked_53 : decode cX11_looked 53 = .ok (.ireturn, 1) := by decide +kernel
theorem dX11_looked_54 : decode cX11_looked 54 = .ok (.iinc 1 1, 3) := by decide +kernel
theorem dX11_looked_57 : decode cX11_looked 57 = .ok (.goto (-55), 3) := by decide +kernel
theorem dX11_looked_60 : decode cX11_looked 60 = .ok (.bipush (-5), 2) := by decide +kernel
theorem dX11_looked_62 : decode cX11_looked 62 = .ok (.ireturn, 1) := by decide +kernel
theorem dX11_ranBody_0 : decode cX11_ranBody 0 = .ok (.aload_n 0, 1) := by decide +kernel
theorem dX11_ranBody_1 : decode cX11_ranBody 1 = .ok (.getfield 235, 3) := by decide +kernel
theorem dX11_ranBody_4 : decode cX11_ranBody 4 = .ok (.bipush 20, 2) := by decide +kernel
theorem dX11_ranBody_6 : decode cX11_ranBody 6 = .ok (.if_icmp .ge 13, 3) := by decide +kernel
theorem dX11_ranBody_9 : decode cX11_ranBody 9 = .ok (.aload_n 0, 1) := by decide +kernel
theorem dX11_ranBody_10 : decode cX11_ranBody 10 = .ok (.getfield 41, 3) := by decide +kernel
theorem dX11_ranBody_13 : decode cX11_ranBody 13 = .ok (.aload_n 0, 1) := by decide +kernel
theorem dX11_ranBody_14 : decode cX11_ranBody 14 = .ok (.getfield 235, 3) := by decide +kernel
theorem dX11_ranBody_17 : decode cX11_ranBody 17 = .ok (.iload_n 1, 1) := by decide +kernel
theorem dX11_ranBody_18 : decode cX11_ranBody 18 = .ok (.iastore, 1) := by decide +kernel
theorem dX11_ranBody_19 : decode cX11_ranBody 19 = .ok (.aload_n 0, 1) := by decide +kernel
theorem dX11_ranBody_20 : decode cX11_ranBody 20 = .ok (.dup, 1) := by decide +kernel
theorem dX11_ranBody_21 : decode cX11_ranBody 21 = .ok (.getfield 235, 3) := by decide +kernel
theorem dX11_ranBody_24 : decode cX11_ranBody 24 = .ok (.iconst 1, 1) := by decide +kernel
theorem dX11_ranBody_25 : decode cX11_ranBody 25 = .ok (.iadd, 1) := by decide +kernel
theorem dX11_ranBody_26 : decode cX11_ranBody 26 = .ok (.putfield 235, 3) := by decide +kernel
theorem dX11_ranBody_29 : decode cX11_ranBody 29 = .ok (.return_, 1) := by decide +kernel
theorem dX11_isUnder_0 : decode cX11_isUnder 0 = .ok (.iload_n 1, 1) := by decide +kernel
theorem dX11_isUnder_1 : decode cX11_isUnder 1 = .ok (.ifCond .eq 24, 3) := by decide +kernel
theorem dX11_isUnder_4 : decode cX11_isUnder 4 = .ok (.iload_n 1, 1) := by decide +kernel
theorem dX11_isUnder_5 : decode cX11_isUnder 5 = .ok (.iload_n 0, 1) := by decide +kernel
theorem dX11_isUnder_6 : decode cX11_isUnder 6 = .ok (.if_icmp .eq 19, 3) := by decide +kernel
theorem dX11_isUnder_9 : decode cX11_isUnder 9 = .ok (.iload_n 1, 1) := by decide +kernel
theorem dX11_isUnder_10 : decode cX11_isUnder 10 = .ok (.ifCond .le 19, 3) := by decide +kernel
theorem dX11_isUnder_13 : decode cX11_isUnder 13 = .ok (.iload_n 1, 1) := by decide +kernel
theorem dX11_isUnder_14 : decode cX11_isUnder 14 = .ok (.iconst 4, 1) := by decide +kernel
theorem dX11_isUnder_15 : decode cX11_isUnder 15 = .ok (.if_icmp .ge 14, 3) := by decide +kernel
theorem dX11_isUnder_18 : decode cX11_isUnder 18 = .ok (.iload_n 0, 1) := by decide +kernel
theorem dX11_isUnder_19 : decode cX11_isUnder 19 = .ok (.iload_n 1, 1) := by decide +kernel
theorem dX11_isUnder_20 : decode cX11_isUnder 20 = .ok (.iconst 3, 1) := by decide +kernel
theorem dX11_isUnder_21 : decode cX11_isUnder 21 = .ok (.iadd, 1) := by decide +kernel
theorem dX11_isUnder_22 : decode cX11_isUnder 22 = .ok (.if_icmp .ne 7, 3) := by decide +kernel
theorem dX11_isUnder_25 : decode cX11_isUnder 25 = .ok (.iconst 1, 1) := by decide +kernel
theorem dX11_isUnder_26 : decode cX11_isUnder 26 = .ok (.goto 4, 3) := by decide +kernel
theorem dX11_isUnder_29 : decode cX11_isUnder 29 = .ok (.iconst 0, 1) := by decide +kernel
theorem dX11_isUnder_30 : decode cX11_isUnder 30 = .ok (.ireturn, 1) := by decide +kernel
theorem dX11_plainHears_0 : decode cX11_plainHears 0 = .ok (.aload_n 0, 1) := by decide +kernel
theorem dX11_plainHears_1 : decode cX11_plainHears 1 = .ok (.iconst 1, 1) := by decide +kernel
theorem dX11_plainHears_2 : decode cX11_plainHears 2 = .ok (.invokevirtual 238, 3) := by decide +kernel
theorem dX11_plainHears_5 : decode cX11_plainHears 5 = .ok (.iload_n 1, 1) := by decide +kernel
theorem dX11_plainHears_6 : decode cX11_plainHears 6 = .ok (.aload_n 0, 1) := by decide +kernel
theorem dX11_plainHears_7 : decode cX11_plainHears 7 = .ok (.getfield 241, 3) := by decide +kernel
theorem dX11_plainHears_10 : decode cX11_plainHears 10 = .ok (.iadd, 1) := by decide +kernel
theorem dX11_plainHears_11 : decode cX11_plainHears 11 = .ok (.ireturn, 1) := by decide +kernel
theorem dX11_hearsActs_0 : decode cX11_hearsActs 0 = .ok (.aload_n 0, 1) := by decide +kernel
theorem dX11_hearsActs_1 : decode cX11_hearsActs 1 = .ok (.getfield 244, 3) := by decide +kernel
theorem dX11_hearsActs_4 : decode cX11_hearsActs 4 = .ok (.iconst 1, 1) := by decide +kernel
theorem dX11_hearsActs_5 : decode cX11_hearsActs 5 = .ok (.invokestatic 247, 3) := by decide +kernel
theorem dX11_hearsActs_8 : decode cX11_hearsActs 8 = .ok (.ifCond .eq 17, 3) := by decide +kernel
theorem dX11_hearsActs_11 : decode cX11_hearsActs 11 = .ok (.aload_n 0, 1) := by decide +kernel
theorem dX11_hearsActs_12 : decode cX11_hearsActs 12 = .ok (.bipush 11, 2) := by decide +kernel
theorem dX11_hearsActs_14 : decode cX11_hearsActs 14 = .ok (.invokevirtual 238, 3) := by decide +kernel
theorem dX11_hearsActs_17 : decode cX11_hearsActs 17 = .ok (.aload_n 0, 1) := by decide +kernel
theorem dX11_hearsActs_18 : decode cX11_hearsActs 18 = .ok (.iload_n 1, 1) := by decide +kernel
theorem dX11_hearsActs_19 : decode cX11_hearsActs 19 = .ok (.iconst 3, 1) := by decide +kernel
theorem dX11_hearsActs_20 : decode cX11_hearsActs 20 = .ok (.imul, 1) := by decide +kernel
theorem dX11_hearsActs_21 : decode cX11_hearsActs 21 = .ok (.invokevirtual 251, 3) := by decide +kernel
theorem dX11_hearsActs_24 : decode cX11_hearsActs 24 = .ok (.ireturn, 1) := by decide +kernel
theorem dX11_hearsActs_25 : decode cX11_hearsActs 25 = .ok (.aload_n 0, 1) := by decide +kernel
theorem dX11_hearsActs_26 : decode cX11_hearsActs 26 = .ok (.getfield 244, 3) := by decide +kernel
theorem dX11_hearsActs_29 : decode cX11_hearsActs 29 = .ok (.iconst 5, 1) := by decide +kernel
theorem dX11_hearsActs_30 : decode cX11_hearsActs 30 = .ok (.if_icmp .ne 20, 3) := by decide +kernel
theorem dX11_hearsActs_33 : decode cX11_hearsActs 33 = .ok (.aload_n 0, 1) := by decide +kernel
theorem dX11_hearsActs_34 : decode cX11_hearsActs 34 = .ok (.bipush 51, 2) := by decide +kernel
theorem dX11_hearsActs_36 : decode cX11_hearsActs 36 = .ok (.invokevirtual 238, 3) := by decide +kernel
theorem dX11_hearsActs_39 : decode cX11_hearsActs 39 = .ok (.aload_n 0, 1) := by decide +kernel
theorem dX11_hearsActs_40 : decode cX11_hearsActs 40 = .ok (.iload_n 1, 1) := by decide +kernel
theorem dX11_hearsActs_41 : decode cX11_hearsActs 41 = .ok (.invokevirtual 251, 3) := by decide +kernel
theorem dX11_hearsActs_44 : decode cX11_hearsActs 44 = .ok (.aload_n 0, 1) := by decide +kernel
theorem dX11_hearsActs_45 : decode cX11_hearsActs 45 = .ok (.getfield 241, 3) := by decide +kernel
theorem dX11_hearsActs_48 : decode cX11_hearsActs 48 = .ok (.ixor, 1) := by decide +kernel
theorem dX11_hearsActs_49 : decode cX11_hearsActs 49 = .ok (.ireturn, 1) := by decide +kernel
theorem dX11_hearsActs_50 : decode cX11_hearsActs 50 = .ok (.aload_n 0, 1) := by decide +kernel
theorem dX11_hearsActs_51 : decode cX11_hearsActs 51 = .ok (.iload_n 1, 1) := by decide +kernel
theorem dX11_hearsActs_52 : decode cX11_hearsActs 52 = .ok (.invokevirtual 251, 3) := by decide +kernel
theorem dX11_hearsActs_55 : decode cX11_hearsActs 55 = .ok (.ireturn, 1) := by decide +kernel
theorem dX11_plainTells_0 : decode cX11_plainTells 0 = .ok (.aload_n 0, 1) := by decide +kernel
theorem dX11_plainTells_1 : decode cX11_plainTells 1 = .ok (.iconst 2, 1) := by decide +kernel
theorem dX11_plainTells_2 : decode cX11_plainTells 2 = .ok (.invokevirtual 238, 3) := by decide +kernel
theorem dX11_plainTells_5 : decode cX11_plainTells 5 = .ok (.aload_n 0, 1) := by decide +kernel
theorem dX11_plainTells_6 : decode cX11_plainTells 6 = .ok (.iload_n 1, 1) := by decide +kernel
theorem dX11_plainTells_7 : decode cX11_plainTells 7 = .ok (.invokevirtual 254, 3) := by decide +kernel
theorem dX11_plainTells_10 : decode cX11_plainTells 10 = .ok (.aload_n 0, 1) := by decide +kernel
theorem dX11_plainTells_11 : decode cX11_plainTells 11 = .ok (.getfield 257, 3) := by decide +kernel
theorem dX11_plainTells_14 : decode cX11_plainTells 14 = .ok (.isub, 1) := by decide +kernel
theorem dX11_plainTells_15 : decode cX11_plainTells 15 = .ok (.ireturn, 1) := by decide +kernel
theorem dX11_tellsActs_0 : decode cX11_tellsActs 0 = .ok (.aload_n 0, 1) := by decide +kernel
theorem dX11_tellsActs_1 : decode cX11_tellsActs 1 = .ok (.getfield 244, 3) := by decide +kernel
theorem dX11_tellsActs_4 : decode cX11_tellsActs 4 = .ok (.iconst 2, 1) := by decide +kernel
theorem dX11_tellsActs_5 : decode cX11_tellsActs 5 = .ok (.invokestatic 247, 3) := by decide +kernel
theorem dX11_tellsActs_8 : decode cX11_tellsActs 8 = .ok (.ifCond .eq 16, 3) := by decide +kernel
theorem dX11_tellsActs_11 : decode cX11_tellsActs 11 = .ok (.aload_n 0, 1) := by decide +kernel
theorem dX11_tellsActs_12 : decode cX11_tellsActs 12 = .ok (.bipush 21, 2) := by decide +kernel
theorem dX11_tellsActs_14 : decode cX11_tellsActs 14 = .ok (.invokevirtual 238, 3) := by decide +kernel
theorem dX11_tellsActs_17 : decode cX11_tellsActs 17 = .ok (.aload_n 0, 1) := by decide +kernel
theorem dX11_tellsActs_18 : decode cX11_tellsActs 18 = .ok (.iload_n 1, 1) := by decide +kernel
theorem dX11_tellsActs_19 : decode cX11_tellsActs 19 = .ok (.invokevirtual 260, 3) := by decide +kernel
theorem dX11_tellsActs_22 : decode cX11_tellsActs 22 = .ok (.ineg, 1) := by decide +kernel
theorem dX11_tellsActs_23 : decode cX11_tellsActs 23 = .ok (.ireturn, 1) := by decide +kernel
theorem dX11_tellsActs_24 : decode cX11_tellsActs 24 = .ok (.aload_n 0, 1) := by decide +kernel
theorem dX11_tellsActs_25 : decode cX11_tellsActs 25 = .ok (.getfield 244, 3) := by decide +kernel
theorem dX11_tellsActs_28 : decode cX11_tellsActs 28 = .ok (.bipush 6, 2) := by decide +kernel
theorem dX11_tellsActs_30 : decode cX11_tellsActs 30 = .ok (.if_icmp .ne 20, 3) := by decide +kernel
theorem dX11_tellsActs_33 : decode cX11_tellsActs 33 = .ok (.aload_n 0, 1) := by decide +kernel
theorem dX11_tellsActs_34 : decode cX11_tellsActs 34 = .ok (.bipush 61, 2) := by decide +kernel
theorem dX11_tellsActs_36 : decode cX11_tellsActs 36 = .ok (.invokevirtual 238, 3) := by decide +kernel
theorem dX11_tellsActs_39 : decode cX11_tellsActs 39 = .ok (.aload_n 0, 1) := by decide +kernel
theorem dX11_tellsActs_40 : decode cX11_tellsActs 40 = .ok (.iload_n 1, 1) := by decide +kernel
theorem dX11_tellsActs_41 : decode cX11_tellsActs 41 = .ok (.invokevirtual 260, 3) := by decide +kernel
theorem dX11_tellsActs_44 : decode cX11_tellsActs 44 = .ok (.aload_n 0, 1) := by decide +kernel
theorem dX11_tellsActs_45 : decode cX11_tellsActs 45 = .ok (.getfield 257, 3) := by decide +kernel
theorem dX11_tellsActs_48 : decode cX11_tellsActs 48 = .ok (.iadd, 1) := by decide +kernel
theorem dX11_tellsActs_49 : decode cX11_tellsActs 49 = .ok (.ireturn, 1) := by decide +kernel
theorem dX11_tellsActs_50 : decode cX11_tellsActs 50 = .ok (.aload_n 0, 1) := by decide +kernel
theorem dX11_tellsActs_51 : decode cX11_tellsActs 51 = .ok (.iload_n 1, 1) := by decide +kernel
theorem dX11_tellsActs_52 : decode cX11_tellsActs 52 = .ok (.invokevirtual 260, 3) := by decide +kernel
theorem dX11_tellsActs_55 : decode cX11_tellsActs 55 = .ok (.ireturn, 1) := by decide +kernel
theorem dX11_plainPays_0 : decode cX11_plainPays 0 = .ok (.aload_n 0, 1) := by decide +kernel
theorem dX11_plainPays_1 : decode cX11_plainPays 1 = .ok (.iconst 3, 1) := by decide +kernel
theorem dX11_plainPays_2 : decode cX11_plainPays 2 = .ok (.invokevirtual 238, 3) := by decide +kernel
theorem dX11_plainPays_5 : decode cX11_plainPays 5 = .ok (.aload_n 0, 1) := by decide +kernel
theorem dX11_plainPays_6 : decode cX11_plainPays 6 = .ok (.iload_n 1, 1) := by decide +kernel
theorem dX11_plainPays_7 : decode cX11_plainPays 7 = .ok (.invokevirtual 263, 3) := by decide +kernel
theorem dX11_plainPays_10 : decode cX11_plainPays 10 = .ok (.iconst 2, 1) := by decide +kernel
theorem dX11_plainPays_11 : decode cX11_plainPays 11 = .ok (.imul, 1) := by decide +kernel
theorem dX11_plainPays_12 : decode cX11_plainPays 12 = .ok (.ireturn, 1) := by decide +kernel
theorem dX11_paysActs_0 : decode cX11_paysActs 0 = .ok (.aload_n 0, 1) := by decide +kernel
theorem dX11_paysActs_1 : decode cX11_paysActs 1 = .ok (.getfield 244, 3) := by decide +kernel
theorem dX11_paysActs_4 : decode cX11_paysActs 4 = .ok (.iconst 3, 1) := by decide +kernel
theorem dX11_paysActs_5 : decode cX11_paysActs 5 = .ok (.invokestatic 247, 3) := by decide +kernel
theorem dX11_paysActs_8 : decode cX11_paysActs 8 = .ok (.ifCond .eq 18, 3) := by decide +kernel
theorem dX11_paysActs_11 : decode cX11_paysActs 11 = .ok (.aload_n 0, 1) := by decide +kernel
theorem dX11_paysActs_12 : decode cX11_paysActs 12 = .ok (.bipush 31, 2) := by decide +kernel
theorem dX11_paysActs_14 : decode cX11_paysActs 14 = .ok (.invokevirtual 238, 3) := by decide +kernel
theorem dX11_paysActs_17 : decode cX11_paysActs 17 = .ok (.aload_n 0, 1) := by decide +kernel
theorem dX11_paysActs_18 : decode cX11_paysActs 18 = .ok (.iload_n 1, 1) := by decide +kernel
theorem dX11_paysActs_19 : decode cX11_paysActs 19 = .ok (.invokevirtual 266, 3) := by decide +kernel
theorem dX11_paysActs_22 : decode cX11_paysActs 22 = .ok (.bipush 7, 2) := by decide +kernel
theorem dX11_paysActs_24 : decode cX11_paysActs 24 = .ok (.ixor, 1) := by decide +kernel
theorem dX11_paysActs_25 : decode cX11_paysActs 25 = .ok (.ireturn, 1) := by decide +kernel
theorem dX11_paysActs_26 : decode cX11_paysActs 26 = .ok (.aload_n 0, 1) := by decide +kernel
theorem dX11_paysActs_27 : decode cX11_paysActs 27 = .ok (.getfield 244, 3) := by decide +kernel
theorem dX11_paysActs_30 : decode cX11_paysActs 30 = .ok (.iconst 4, 1) := by decide +kernel
theorem dX11_paysActs_31 : decode cX11_paysActs 31 = .ok (.if_icmp .ne 25, 3) := by decide +kernel
theorem dX11_paysActs_34 : decode cX11_paysActs 34 = .ok (.aload_n 0, 1) := by decide +kernel
theorem dX11_paysActs_35 : decode cX11_paysActs 35 = .ok (.bipush 41, 2) := by decide +kernel
theorem dX11_paysActs_37 : decode cX11_paysActs 37 = .ok (.invokevirtual 238, 3) := by decide +kernel
theorem dX11_paysActs_40 : decode cX11_paysActs 40 = .ok (.aload_n 0, 1) := by decide +kernel
theorem dX11_paysActs_41 : decode cX11_paysActs 41 = .ok (.iload_n 1, 1) := by decide +kernel
theorem dX11_paysActs_42 : decode cX11_paysActs 42 = .ok (.iconst 1, 1) := by decide +kernel
theorem dX11_paysActs_43 : decode cX11_paysActs 43 = .ok (.isub, 1) := by decide +kernel
theorem dX11_paysActs_44 : decode cX11_paysActs 44 = .ok (.invokevirtual 266, 3) := by decide +kernel
theorem dX11_paysActs_47 : decode cX11_paysActs 47 = .ok (.istore_n 2, 1) := by decide +kernel
theorem dX11_paysActs_48 : decode cX11_paysActs 48 = .ok (.iload_n 2, 1) := by decide +kernel
theorem dX11_paysActs_49 : decode cX11_paysActs 49 = .ok (.aload_n 0, 1) := by decide +kernel
theorem dX11_paysActs_50 : decode cX11_paysActs 50 = .ok (.iconst 2, 1) := by decide +kernel
theorem dX11_paysActs_51 : decode cX11_paysActs 51 = .ok (.invokevirtual 254, 3) := by decide +kernel
theorem dX11_paysActs_54 : decode cX11_paysActs 54 = .ok (.iadd, 1) := by decide +kernel
theorem dX11_paysActs_55 : decode cX11_paysActs 55 = .ok (.ireturn, 1) := by decide +kernel
theorem dX11_paysActs_56 : decode cX11_paysActs 56 = .ok (.aload_n 0, 1) := by decide +kernel
theorem dX11_paysActs_57 : decode cX11_paysActs 57 = .ok (.iload_n 1, 1) := by decide +kernel
theorem dX11_paysActs_58 : decode cX11_paysActs 58 = .ok (.invokevirtual 266, 3) := by decide +kernel
theorem dX11_paysActs_61 : decode cX11_paysActs 61 = .ok (.ireturn, 1) := by decide +kernel
theorem dX11_act_0 : decode cX11_act 0 = .ok (.aload_n 0, 1) := by decide +kernel
theorem dX11_act_1 : decode cX11_act 1 = .ok (.iconst 0, 1) := by decide +kernel
theorem dX11_act_2 : decode cX11_act 2 = .ok (.putfield 235, 3) := by decide +kernel
theorem dX11_act_5 : decode cX11_act 5 = .ok (.aload_n 0, 1) := by decide +kernel
theorem dX11_act_6 : decode cX11_act 6 = .ok (.iload_n 1, 1) := by decide +kernel
theorem dX11_act_7 : decode cX11_act 7 = .ok (.invokevirtual 160, 3) := by decide +kernel
theorem dX11_act_10 : decode cX11_act 10 = .ok (.ifCond .eq 12, 3) := by decide +kernel
theorem dX11_act_13 : decode cX11_act 13 = .ok (.iload_n 2, 1) := by decide +kernel
theorem dX11_act_14 : decode cX11_act 14 = .ok (.iconst 0, 1) := by decide +kernel
theorem dX11_act_15 : decode cX11_act 15 = .ok (.iconst 2, 1) := by decide +kernel
theorem dX11_act_16 : decode cX11_act 16 = .ok (.invokestatic 47, 3) := by decide +kernel
theorem dX11_act_19 : decode cX11_act 19 = .ok (.ifCond .ne 5, 3) := by decide +kernel
theorem dX11_act_22 : decode cX11_act 22 = .ok (.iconst 0, 1) := by decide +kernel
theorem dX11_act_23 : decode cX11_act 23 = .ok (.ireturn, 1) := by decide +kernel
theorem dX11_act_24 : decode cX11_act 24 = .ok (.aload_n 0, 1) := by decide +kernel
theorem dX11_act_25 : decode cX11_act 25 = .ok (.aload_n 0, 1) := by decide +kernel
theorem dX11_act_26 : decode cX11_act 26 = .ok (.getfield 9, 3) := by decide +kernel
theorem dX11_act_29 : decode cX11_act 29 = .ok (.bipush 24, 2) := by decide +kernel
theorem dX11_act_31 : decode cX11_act 31 = .ok (.iload_n 1, 1) := by decide +kernel
theorem dX11_act_32 : decode cX11_act 32 = .ok (.iadd, 1) := by decide +kernel
theorem dX11_act_33 : decode cX11_act 33 = .ok (.iaload, 1) := by decide +kernel
theorem dX11_act_34 : decode cX11_act 34 = .ok (.putfield 244, 3) := by decide +kernel
theorem dX11_act_37 : decode cX11_act 37 = .ok (.aload_n 0, 1) := by decide +kernel
theorem dX11_act_38 : decode cX11_act 38 = .ok (.iload_n 1, 1) := by decide +kernel
theorem dX11_act_39 : decode cX11_act 39 = .ok (.putfield 241, 3) := by decide +kernel
theorem dX11_act_42 : decode cX11_act 42 = .ok (.aload_n 0, 1) := by decide +kernel
theorem dX11_act_43 : decode cX11_act 43 = .ok (.aload_n 0, 1) := by decide +kernel
theorem dX11_act_44 : decode cX11_act 44 = .ok (.getfield 9, 3) := by decide +kernel
theorem dX11_act_47 : decode cX11_act 47 = .ok (.bipush 31, 2) := by decide +kernel
theorem dX11_act_49 : decode cX11_act 49 = .ok (.iload_n 1, 1) := by decide +kernel
theorem dX11_act_50 : decode cX11_act 50 = .ok (.iadd, 1) := by decide +kernel
theorem dX11_act_51 : decode cX11_act 51 = .ok (.iaload, 1) := by decide +kernel
theorem dX11_act_52 : decode cX11_act 52 = .ok (.putfield 257, 3) := by decide +kernel
theorem dX11_act_55 : decode cX11_act 55 = .ok (.iload_n 2, 1) := by decide +kernel
theorem dX11_act_56 : decode cX11_act 56 = .ok (.ifCond .ne 11, 3) := by decide +kernel
theorem dX11_act_59 : decode cX11_act 59 = .ok (.aload_n 0, 1) := by decide +kernel
theorem dX11_act_60 : decode cX11_act 60 = .ok (.iload_n 3, 1) := by decide +kernel
theorem dX11_act_61 : decode cX11_act 61 = .ok (.invokevirtual 254, 3) := by decide +kernel
theorem dX11_act_64 : decode cX11_act 64 = .ok (.goto 21, 3) := by decide +kernel
theorem dX11_act_67 : decode cX11_act 67 = .ok (.iload_n 2, 1) := by decide +kernel
theorem dX11_act_68 : decode cX11_act 68 = .ok (.iconst 1, 1) := by decide +kernel
theorem dX11_act_69 : decode cX11_act 69 = .ok (.if_icmp .ne 11, 3) := by decide +kernel
theorem dX11_act_72 : decode cX11_act 72 = .ok (.aload_n 0, 1) := by decide +kernel
theorem dX11_act_73 : decode cX11_act 73 = .ok (.iload_n 3, 1) := by decide +kernel
theorem dX11_act_74 : decode cX11_act 74 = .ok (.invokevirtual 263, 3) := by decide +kernel
theorem dX11_act_77 : decode cX11_act 77 = .ok (.goto 8, 3) := by decide +kernel
theorem dX11_act_80 : decode cX11_act 80 = .ok (.aload_n 0, 1) := by decide +kernel
theorem dX11_act_81 : decode cX11_act 81 = .ok (.iload_n 3, 1) := by decide +kernel
theorem dX11_act_82 : decode cX11_act 82 = .ok (.invokevirtual 269, 3) := by decide +kernel
theorem dX11_act_85 : decode cX11_act 85 = .ok (.ireturn, 1) := by decide +kernel
theorem dX11_trace_0 : decode cX11_trace 0 = .ok (.iload_n 1, 1) := by decide +kernel
theorem dX11_trace_1 : decode cX11_trace 1 = .ok (.iconst 0, 1) := by decide +kernel
theorem dX11_trace_2 : decode cX11_trace 2 = .ok (.aload_n 0, 1) := by decide +kernel
theorem dX11_trace_3 : decode cX11_trace 3 = .ok (.getfield 235, 3) := by decide +kernel
theorem dX11_trace_6 : decode cX11_trace 6 = .ok (.bipush 20, 2) := by decide +kernel
theorem dX11_trace_8 : decode cX11_trace 8 = .ok (.if_icmp .ge 10, 3) := by decide +kernel
theorem dX11_trace_11 : decode cX11_trace 11 = .ok (.aload_n 0, 1) := by decide +kernel
theorem dX11_trace_12 : decode cX11_trace 12 = .ok (.getfield 235, 3) := by decide +kernel
theorem dX11_trace_15 : decode cX11_trace 15 = .ok (.goto 5, 3) := by decide +kernel
theorem dX11_trace_18 : decode cX11_trace 18 = .ok (.bipush 20, 2) := by decide +kernel
theorem dX11_trace_20 : decode cX11_trace 20 = .ok (.iconst 1, 1) := by decide +kernel
theorem dX11_trace_21 : decode cX11_trace 21 = .ok (.isub, 1) := by decide +kernel
theorem dX11_trace_22 : decode cX11_trace 22 = .ok (.invokestatic 47, 3) := by decide +kernel
theorem dX11_trace_25 : decode cX11_trace 25 = .ok (.ifCond .eq 12, 3) := by decide +kernel
theorem dX11_trace_28 : decode cX11_trace 28 = .ok (.aload_n 0, 1) := by decide +kernel
theorem dX11_trace_29 : decode cX11_trace 29 = .ok (.getfield 41, 3) := by decide +kernel
theorem dX11_trace_32 : decode cX11_trace 32 = .ok (.iload_n 1, 1) := by decide +kernel
theorem dX11_trace_33 : decode cX11_trace 33 = .ok (.iaload, 1) := by decide +kernel
theorem dX11_trace_34 : decode cX11_trace 34 = .ok (.goto 4, 3) := by decide +kernel
theorem dX11_trace_37 : decode cX11_trace 37 = .ok (.iconst (-1), 1) := by decide +kernel
theorem dX11_trace_38 : decode cX11_trace 38 = .ok (.ireturn, 1) := by decide +kernel
theorem dX11_as_0 : decode cX11_as 0 = .ok (.aload_n 0, 1) := by decide +kernel
theorem dX11_as_1 : decode cX11_as 1 = .ok (.iload_n 1, 1) := by decide +kernel
theorem dX11_as_2 : decode cX11_as 2 = .ok (.invokevirtual 160, 3) := by decide +kernel
theorem dX11_as_5 : decode cX11_as 5 = .ok (.ifCond .eq 13, 3) := by decide +kernel
theorem dX11_as_8 : decode cX11_as 8 = .ok (.iload_n 2, 1) := by decide +kernel
theorem dX11_as_9 : decode cX11_as 9 = .ok (.iconst 0, 1) := by decide +kernel
theorem dX11_as_10 : decode cX11_as 10 = .ok (.bipush 6, 2) := by decide +kernel
theorem dX11_as_12 : decode cX11_as 12 = .ok (.invokestatic 47, 3) := by decide +kernel
theorem dX11_as_15 : decode cX11_as 15 = .ok (.ifCond .ne 5, 3) := by decide +kernel
theorem dX11_as_18 : decode cX11_as 18 = .ok (.iconst (-1), 1) := by decide +kernel
theorem dX11_as_19 : decode cX11_as 19 = .ok (.ireturn, 1) := by decide +kernel
theorem dX11_as_20 : decode cX11_as 20 = .ok (.aload_n 0, 1) := by decide +kernel
theorem dX11_as_21 : decode cX11_as 21 = .ok (.getfield 9, 3) := by decide +kernel
theorem dX11_as_24 : decode cX11_as 24 = .ok (.bipush 24, 2) := by decide +kernel
theorem dX11_as_26 : decode cX11_as 26 = .ok (.iload_n 1, 1) := by decide +kernel
theorem dX11_as_27 : decode cX11_as 27 = .ok (.iadd, 1) := by decide +kernel
theorem dX11_as_28 : decode cX11_as 28 = .ok (.iaload, 1) := by decide +kernel
theorem dX11_as_29 : decode cX11_as 29 = .ok (.iload_n 2, 1) := by decide +kernel
theorem dX11_as_30 : decode cX11_as 30 = .ok (.invokestatic 247, 3) := by decide +kernel
theorem dX11_as_33 : decode cX11_as 33 = .ok (.ifCond .eq 15, 3) := by decide +kernel
theorem dX11_as_36 : decode cX11_as 36 = .ok (.aload_n 0, 1) := by decide +kernel
theorem dX11_as_37 : decode cX11_as 37 = .ok (.getfield 9, 3) := by decide +kernel
theorem dX11_as_40 : decode cX11_as 40 = .ok (.bipush 31, 2) := by decide +kernel
theorem dX11_as_42 : decode cX11_as 42 = .ok (.iload_n 1, 1) := by decide +kernel
theorem dX11_as_43 : decode cX11_as 43 = .ok (.iadd, 1) := by decide +kernel
theorem dX11_as_44 : decode cX11_as 44 = .ok (.iaload, 1) := by decide +kernel
theorem dX11_as_45 : decode cX11_as 45 = .ok (.goto 5, 3) := by decide +kernel
theorem dX11_as_48 : decode cX11_as 48 = .ok (.bipush (-6), 2) := by decide +kernel
theorem dX11_as_50 : decode cX11_as 50 = .ok (.ireturn, 1) := by decide +kernel
theorem dX11_image_0 : decode cX11_image 0 = .ok (.iconst 0, 1) := by decide +kernel
theorem dX11_image_1 : decode cX11_image 1 = .ok (.istore_n 1, 1) := by decide +kernel
theorem dX11_image_2 : decode cX11_image 2 = .ok (.iload_n 1, 1) := by decide +kernel
theorem dX11_image_3 : decode cX11_image 3 = .ok (.sipush 944, 3) := by decide +kernel
theorem dX11_image_6 : decode cX11_image 6 = .ok (.if_icmp .ge 21, 3) := by decide +kernel
theorem dX11_image_9 : decode cX11_image 9 = .ok (.aload_n 0, 1) := by decide +kernel
theorem dX11_image_10 : decode cX11_image 10 = .ok (.getfield 15, 3) := by decide +kernel
theorem dX11_image_13 : decode cX11_image 13 = .ok (.iload_n 1, 1) := by decide +kernel
theorem dX11_image_14 : decode cX11_image 14 = .ok (.aload_n 0, 1) := by decide +kernel
theorem dX11_image_15 : decode cX11_image 15 = .ok (.getfield 9, 3) := by decide +kernel
theorem dX11_image_18 : decode cX11_image 18 = .ok (.iload_n 1, 1) := by decide +kernel
theorem dX11_image_19 : decode cX11_image 19 = .ok (.iaload, 1) := by decide +kernel
theorem dX11_image_20 : decode cX11_image 20 = .ok (.iastore, 1) := by decide +kernel
theorem dX11_image_21 : decode cX11_image 21 = .ok (.iinc 1 1, 3) := by decide +kernel
theorem dX11_image_24 : decode cX11_image 24 = .ok (.goto (-22), 3) := by decide +kernel
theorem dX11_image_27 : decode cX11_image 27 = .ok (.aload_n 0, 1) := by decide +kernel
theorem dX11_image_28 : decode cX11_image 28 = .ok (.iconst 1, 1) := by decide +kernel
theorem dX11_image_29 : decode cX11_image 29 = .ok (.putfield 272, 3) := by decide +kernel
theorem dX11_image_32 : decode cX11_image 32 = .ok (.aload_n 0, 1) := by decide +kernel
theorem dX11_image_33 : decode cX11_image 33 = .ok (.getfield 9, 3) := by decide +kernel
theorem dX11_image_36 : decode cX11_image 36 = .ok (.bipush 18, 2) := by decide +kernel
theorem dX11_image_38 : decode cX11_image 38 = .ok (.iaload, 1) := by decide +kernel
theorem dX11_image_39 : decode cX11_image 39 = .ok (.ireturn, 1) := by decide +kernel
theorem dX11_undo_0 : decode cX11_undo 0 = .ok (.aload_n 0, 1) := by decide +kernel
theorem dX11_undo_1 : decode cX11_undo 1 = .ok (.getfield 272, 3) := by decide +kernel
theorem dX11_undo_4 : decode cX11_undo 4 = .ok (.ifCond .ne 6, 3) := by decide +kernel
theorem dX11_undo_7 : decode cX11_undo 7 = .ok (.bipush (-3), 2) := by decide +kernel
theorem dX11_undo_9 : decode cX11_undo 9 = .ok (.ireturn, 1) := by decide +kernel
theorem dX11_undo_10 : decode cX11_undo 10 = .ok (.iconst 0, 1) := by decide +kernel
theorem dX11_undo_11 : decode cX11_undo 11 = .ok (.istore_n 1, 1) := by decide +kernel
theorem dX11_undo_12 : decode cX11_undo 12 = .ok (.iload_n 1, 1) := by decide +kernel
theorem dX11_undo_13 : decode cX11_undo 13 = .ok (.sipush 944, 3) := by decide +kernel
theorem dX11_undo_16 : decode cX11_undo 16 = .ok (.if_icmp .ge 21, 3) := by decide +kernel
theorem dX11_undo_19 : decode cX11_undo 19 = .ok (.aload_n 0, 1) := by decide +kernel
theorem dX11_undo_20 : decode cX11_undo 20 = .ok (.getfield 9, 3) := by decide +kernel
theorem dX11_undo_23 : decode cX11_undo 23 = .ok (.iload_n 1, 1) := by decide +kernel
theorem dX11_undo_24 : decode cX11_undo 24 = .ok (.aload_n 0, 1) := by decide +kernel
theorem dX11_undo_25 : decode cX11_undo 25 = .ok (.getfield 15, 3) := by decide +kernel
theorem dX11_undo_28 : decode cX11_undo 28 = .ok (.iload_n 1, 1) := by decide +kernel
theorem dX11_undo_29 : decode cX11_undo 29 = .ok (.iaload, 1) := by decide +kernel
theorem dX11_undo_30 : decode cX11_undo 30 = .ok (.iastore, 1) := by decide +kernel
theorem dX11_undo_31 : decode cX11_undo 31 = .ok (.iinc 1 1, 3) := by decide +kernel
theorem dX11_undo_34 : decode cX11_undo 34 = .ok (.goto (-22), 3) := by decide +kernel
theorem dX11_undo_37 : decode cX11_undo 37 = .ok (.aload_n 0, 1) := by decide +kernel
theorem dX11_undo_38 : decode cX11_undo 38 = .ok (.getfield 9, 3) := by decide +kernel
theorem dX11_undo_41 : decode cX11_undo 41 = .ok (.bipush 18, 2) := by decide +kernel
theorem dX11_undo_43 : decode cX11_undo 43 = .ok (.iaload, 1) := by decide +kernel
theorem dX11_undo_44 : decode cX11_undo 44 = .ok (.ireturn, 1) := by decide +kernel
theorem dX11_count_0 : decode cX11_count 0 = .ok (.iload_n 1, 1) := by decide +kernel
theorem dX11_count_1 : decode cX11_count 1 = .ok (.iconst 5, 1) := by decide +kernel
theorem dX11_count_2 : decode cX11_count 2 = .ok (.if_icmp .ne 10, 3) := by decide +kernel
theorem dX11_count_5 : decode cX11_count 5 = .ok (.aload_n 0, 1) := by decide +kernel
theorem dX11_count_6 : decode cX11_count 6 = .ok (.getfield 235, 3) := by decide +kernel
theorem dX11_count_9 : decode cX11_count 9 = .ok (.goto 25, 3) := by decide +kernel
theorem dX11_count_12 : decode cX11_count 12 = .ok (.iload_n 1, 1) := by decide +kernel
theorem dX11_count_13 : decode cX11_count 13 = .ok (.iconst 0, 1) := by decide +kernel
theorem dX11_count_14 : decode cX11_count 14 = .ok (.iconst 4, 1) := by decide +kernel
theorem dX11_count_15 : decode cX11_count 15 = .ok (.invokestatic 47, 3) := by decide +kernel
theorem dX11_count_18 : decode cX11_count 18 = .ok (.ifCond .eq 15, 3) := by decide +kernel
theorem dX11_count_21 : decode cX11_count 21 = .ok (.aload_n 0, 1) := by decide +kernel
theorem dX11_count_22 : decode cX11_count 22 = .ok (.getfield 9, 3) := by decide +kernel
theorem dX11_count_25 : decode cX11_count 25 = .ok (.bipush 18, 2) := by decide +kernel
theorem dX11_count_27 : decode cX11_count 27 = .ok (.iload_n 1, 1) := by decide +kernel
theorem dX11_count_28 : decode cX11_count 28 = .ok (.iadd, 1) := by decide +kernel
theorem dX11_count_29 : decode cX11_count 29 = .ok (.iaload, 1) := by decide +kernel
theorem dX11_count_30 : decode cX11_count 30 = .ok (.goto 4, 3) := by decide +kernel
theorem dX11_count_33 : decode cX11_count 33 = .ok (.iconst (-1), 1) := by decide +kernel
theorem dX11_count_34 : decode cX11_count 34 = .ok (.ireturn, 1) := by decide +kernel
theorem dJ6_bitCount_0f7a4_0 : decode cJ6_bitCount_0f7a4 0 = .ok (.iload_n 0, 1) := by decide +kernel
theorem dJ6_bitCount_0f7a4_1 : decode cJ6_bitCount_0f7a4 1 = .ok (.iload_n 0, 1) := by decide +kernel
theorem dJ6_bitCount_0f7a4_2 : decode cJ6_bitCount_0f7a4 2 = .ok (.iconst 1, 1) := by decide +kernel
theorem dJ6_bitCount_0f7a4_3 : decode cJ6_bitCount_0f7a4 3 = .ok (.iushr, 1) := by decide +kernel
theorem dJ6_bitCount_0f7a4_4 : decode cJ6_bitCount_0f7a4 4 = .ok (.ldc_w 265, 3) := by decide +kernel
theorem dJ6_bitCount_0f7a4_7 : decode cJ6_bitCount_0f7a4 7 = .ok (.iand, 1) := by decide +kernel
theorem dJ6_bitCount_0f7a4_8 : decode cJ6_bitCount_0f7a4 8 = .ok (.isub, 1) := by decide +kernel
theorem dJ6_bitCount_0f7a4_9 : decode cJ6_bitCount_0f7a4 9 = .ok (.istore_n 0, 1) := by decide +kernel
theorem dJ6_bitCount_0f7a4_10 : decode cJ6_bitCount_0f7a4 10 = .ok (.iload_n 0, 1) := by decide +kernel
theorem dJ6_bitCount_0f7a4_11 : decode cJ6_bitCount_0f7a4 11 = .ok (.ldc_w 266, 3) := by decide +kernel
theorem dJ6_bitCount_0f7a4_14 : decode cJ6_bitCount_0f7a4 14 = .ok (.iand, 1) := by decide +kernel
theorem dJ6_bitCount_0f7a4_15 : decode cJ6_bitCount_0f7a4 15 = .ok (.iload_n 0, 1) := by decide +kernel
theorem dJ6_bitCount_0f7a4_16 : decode cJ6_bitCount_0f7a4 16 = .ok (.iconst 2, 1) := by decide +kernel
theorem dJ6_bitCount_0f7a4_17 : decode cJ6_bitCount_0f7a4 17 = .ok (.iushr, 1) := by decide +kernel
theorem dJ6_bitCount_0f7a4_18 : decode cJ6_bitCount_0f7a4 18 = .ok (.ldc_w 266, 3) := by decide +kernel
theorem dJ6_bitCount_0f7a4_21 : decode cJ6_bitCount_0f7a4 21 = .ok (.iand, 1) := by decide +kernel
theorem dJ6_bitCount_0f7a4_22 : decode cJ6_bitCount_0f7a4 22 = .ok (.iadd, 1) := by decide +kernel
theorem dJ6_bitCount_0f7a4_23 : decode cJ6_bitCount_0f7a4 23 = .ok (.istore_n 0, 1) := by decide +kernel
theorem dJ6_bitCount_0f7a4_24 : decode cJ6_bitCount_0f7a4 24 = .ok (.iload_n 0, 1) := by decide +kernel
theorem dJ6_bitCount_0f7a4_25 : decode cJ6_bitCount_0f7a4 25 = .ok (.iload_n 0, 1) := by decide +kernel
theorem dJ6_bitCount_0f7a4_26 : decode cJ6_bitCount_0f7a4 26 = .ok (.iconst 4, 1) := by decide +kernel
theorem dJ6_bitCount_0f7a4_27 : decode cJ6_bitCount_0f7a4 27 = .ok (.iushr, 1) := by decide +kernel
theorem dJ6_bitCount_0f7a4_28 : decode cJ6_bitCount_0f7a4 28 = .ok (.iadd, 1) := by decide +kernel
theorem dJ6_bitCount_0f7a4_29 : decode cJ6_bitCount_0f7a4 29 = .ok (.ldc_w 267, 3) := by decide +kernel
theorem dJ6_bitCount_0f7a4_32 : decode cJ6_bitCount_0f7a4 32 = .ok (.iand, 1) := by decide +kernel
theorem dJ6_bitCount_0f7a4_33 : decode cJ6_bitCount_0f7a4 33 = .ok (.istore_n 0, 1) := by decide +kernel
theorem dJ6_bitCount_0f7a4_34 : decode cJ6_bitCount_0f7a4 34 = .ok (.iload_n 0, 1) := by decide +kernel
theorem dJ6_bitCount_0f7a4_35 : decode cJ6_bitCount_0f7a4 35 = .ok (.iload_n 0, 1) := by decide +kernel
theorem dJ6_bitCount_0f7a4_36 : decode cJ6_bitCount_0f7a4 36 = .ok (.bipush 8, 2) := by decide +kernel
theorem dJ6_bitCount_0f7a4_38 : decode cJ6_bitCount_0f7a4 38 = .ok (.iushr, 1) := by decide +kernel
theorem dJ6_bitCount_0f7a4_39 : decode cJ6_bitCount_0f7a4 39 = .ok (.iadd, 1) := by decide +kernel
theorem dJ6_bitCount_0f7a4_40 : decode cJ6_bitCount_0f7a4 40 = .ok (.istore_n 0, 1) := by decide +kernel
theorem dJ6_bitCount_0f7a4_41 : decode cJ6_bitCount_0f7a4 41 = .ok (.iload_n 0, 1) := by decide +kernel
theorem dJ6_bitCount_0f7a4_42 : decode cJ6_bitCount_0f7a4 42 = .ok (.iload_n 0, 1) := by decide +kernel
theorem dJ6_bitCount_0f7a4_43 : decode cJ6_bitCount_0f7a4 43 = .ok (.bipush 16, 2) := by decide +kernel
theorem dJ6_bitCount_0f7a4_45 : decode cJ6_bitCount_0f7a4 45 = .ok (.iushr, 1) := by decide +kernel
theorem dJ6_bitCount_0f7a4_46 : decode cJ6_bitCount_0f7a4 46 = .ok (.iadd, 1) := by decide +kernel
theorem dJ6_bitCount_0f7a4_47 : decode cJ6_bitCount_0f7a4 47 = .ok (.istore_n 0, 1) := by decide +kernel
theorem dJ6_bitCount_0f7a4_48 : decode cJ6_bitCount_0f7a4 48 = .ok (.iload_n 0, 1) := by decide +kernel
theorem dJ6_bitCount_0f7a4_49 : decode cJ6_bitCount_0f7a4 49 = .ok (.bipush 63, 2) := by decide +kernel
theorem dJ6_bitCount_0f7a4_51 : decode cJ6_bitCount_0f7a4 51 = .ok (.iand, 1) := by decide +kernel
theorem dJ6_bitCount_0f7a4_52 : decode cJ6_bitCount_0f7a4 52 = .ok (.ireturn, 1) := by decide +kernel
theorem dJ9_max_7cf53_0 : decode cJ9_max_7cf53 0 = .ok (.iload_n 0, 1) := by decide +kernel
theorem dJ9_max_7cf53_1 : decode cJ9_max_7cf53 1 = .ok (.iload_n 1, 1) := by decide +kernel
theorem dJ9_max_7cf53_2 : decode cJ9_max_7cf53 2 = .ok (.if_icmp .lt 7, 3) := by decide +kernel
theorem dJ9_max_7cf53_5 : decode cJ9_max_7cf53 5 = .ok (.iload_n 0, 1) := by decide +kernel
theorem dJ9_max_7cf53_6 : decode cJ9_max_7cf53 6 = .ok (.goto 4, 3) := by decide +kernel
theorem dJ9_max_7cf53_9 : decode cJ9_max_7cf53 9 = .ok (.iload_n 1, 1) := by decide +kernel
theorem dJ9_max_7cf53_10 : decode cJ9_max_7cf53 10 = .ok (.ireturn, 1) := by decide +kernel
theorem dJ9_min_7cf53_0 : decode cJ9_min_7cf53 0 = .ok (.iload_n 0, 1) := by decide +kernel
theorem dJ9_min_7cf53_1 : decode cJ9_min_7cf53 1 = .ok (.iload_n 1, 1) := by decide +kernel
theorem dJ9_min_7cf53_2 : decode cJ9_min_7cf53 2 = .ok (.if_icmp .gt 7, 3) := by decide +kernel
theorem dJ9_min_7cf53_5 : decode cJ9_min_7cf53 5 = .ok (.iload_n 0, 1) := by decide +kernel
theorem dJ9_min_7cf53_6 : decode cJ9_min_7cf53 6 = .ok (.goto 4, 3) := by decide +kernel
theorem dJ9_min_7cf53_9 : decode cJ9_min_7cf53 9 = .ok (.iload_n 1, 1) := by decide +kernel
theorem dJ9_min_7cf53_10 : decode cJ9_min_7cf53 10 = .ok (.ireturn, 1) := by decide +kernel
theorem dJ0_length_8abf5_0 : decode cJ0_length_8abf5 0 = .ok (.aload_n 0, 1) := by decide +kernel
theorem dJ0_length_8abf5_1 : decode cJ0_length_8abf5 1 = .ok (.getfield 9, 3) := by decide +kernel
theorem dJ0_length_8abf5_4 : decode cJ0_length_8abf5 4 = .ok (.arraylength, 1) := by decide +kernel
theorem dJ0_length_8abf5_5 : decode cJ0_length_8abf5 5 = .ok (.aload_n 0, 1) := by decide +kernel
theorem dJ0_length_8abf5_6 : decode cJ0_length_8abf5 6 = .ok (.invokevirtual 335, 3) := by decide +kernel
theorem dJ0_length_8abf5_9 : decode cJ0_length_8abf5 9 = .ok (.ishr, 1) := by decide +kernel
theorem dJ0_length_8abf5_10 : decode cJ0_length_8abf5 10 = .ok (.ireturn, 1) := by decide +kernel
theorem dJ0_charAt_5068e_0 : decode cJ0_charAt_5068e 0 = .ok (.aload_n 0, 1) := by decide +kernel
theorem dJ0_charAt_5068e_1 : decode cJ0_charAt_5068e 1 = .ok (.invokevirtual 492, 3) := by decide +kernel
theorem dJ0_charAt_5068e_4 : decode cJ0_charAt_5068e 4 = .ok (.ifCond .eq 12, 3) := by decide +kernel
theorem dJ0_charAt_5068e_7 : decode cJ0_charAt_5068e 7 = .ok (.aload_n 0, 1) := by decide +kernel
theorem dJ0_charAt_5068e_8 : decode cJ0_charAt_5068e 8 = .ok (.getfield 9, 3) := by decide +kernel
theorem dJ0_charAt_5068e_11 : decode cJ0_charAt_5068e 11 = .ok (.iload_n 1, 1) := by decide +kernel
theorem dJ0_charAt_5068e_12 : decode cJ0_charAt_5068e 12 = .ok (.invokestatic 495, 3) := by decide +kernel
theorem dJ0_charAt_5068e_15 : decode cJ0_charAt_5068e 15 = .ok (.ireturn, 1) := by decide +kernel
theorem dJ0_charAt_5068e_16 : decode cJ0_charAt_5068e 16 = .ok (.aload_n 0, 1) := by decide +kernel
theorem dJ0_charAt_5068e_17 : decode cJ0_charAt_5068e 17 = .ok (.getfield 9, 3) := by decide +kernel
theorem dJ0_charAt_5068e_20 : decode cJ0_charAt_5068e 20 = .ok (.iload_n 1, 1) := by decide +kernel
theorem dJ0_charAt_5068e_21 : decode cJ0_charAt_5068e 21 = .ok (.invokestatic 498, 3) := by decide +kernel
theorem dJ0_charAt_5068e_24 : decode cJ0_charAt_5068e 24 = .ok (.ireturn, 1) := by decide +kernel
theorem dJ0_coder_7d493_0 : decode cJ0_coder_7d493 0 = .ok (.getstatic 38, 3) := by decide +kernel
theorem dJ0_coder_7d493_3 : decode cJ0_coder_7d493 3 = .ok (.ifCond .eq 10, 3) := by decide +kernel
theorem dJ0_coder_7d493_6 : decode cJ0_coder_7d493 6 = .ok (.aload_n 0, 1) := by decide +kernel
theorem dJ0_coder_7d493_7 : decode cJ0_coder_7d493 7 = .ok (.getfield 15, 3) := by decide +kernel
theorem dJ0_coder_7d493_10 : decode cJ0_coder_7d493 10 = .ok (.goto 4, 3) := by decide +kernel
theorem dJ0_coder_7d493_13 : decode cJ0_coder_7d493 13 = .ok (.iconst 1, 1) := by decide +kernel
theorem dJ0_coder_7d493_14 : decode cJ0_coder_7d493 14 = .ok (.ireturn, 1) := by decide +kernel
theorem dJ0_isLatin1_aae02_0 : decode cJ0_isLatin1_aae02 0 = .ok (.getstatic 38, 3) := by decide +kernel
theorem dJ0_isLatin1_aae02_3 : decode cJ0_isLatin1_aae02 3 = .ok (.ifCond .eq 14, 3) := by decide +kernel
theorem dJ0_isLatin1_aae02_6 : decode cJ0_isLatin1_aae02 6 = .ok (.aload_n 0, 1) := by decide +kernel
theorem dJ0_isLatin1_aae02_7 : decode cJ0_isLatin1_aae02 7 = .ok (.getfield 15, 3) := by decide +kernel
theorem dJ0_isLatin1_aae02_10 : decode cJ0_isLatin1_aae02 10 = .ok (.ifCond .ne 7, 3) := by decide +kernel
theorem dJ0_isLatin1_aae02_13 : decode cJ0_isLatin1_aae02 13 = .ok (.iconst 1, 1) := by decide +kernel
theorem dJ0_isLatin1_aae02_14 : decode cJ0_isLatin1_aae02 14 = .ok (.goto 4, 3) := by decide +kernel
theorem dJ0_isLatin1_aae02_17 : decode cJ0_isLatin1_aae02 17 = .ok (.iconst 0, 1) := by decide +kernel
theorem dJ0_isLatin1_aae02_18 : decode cJ0_isLatin1_aae02 18 = .ok (.ireturn, 1) := by decide +kernel
theorem dJ0_checkIndex_df160_0 : decode cJ0_checkIndex_df160 0 = .ok (.iload_n 0, 1) := by decide +kernel
theorem dJ0_checkIndex_df160_1 : decode cJ0_checkIndex_df160 1 = .ok (.iload_n 1, 1) := by decide +kernel
theorem dJ0_checkIndex_df160_2 : decode cJ0_checkIndex_df160 2 = .ok (.getstatic 1053, 3) := by decide +kernel
theorem dJ0_checkIndex_df160_5 : decode cJ0_checkIndex_df160 5 = .ok (.invokestatic 1059, 3) := by decide +kernel
theorem dJ0_checkIndex_df160_8 : decode cJ0_checkIndex_df160 8 = .ok (.pop, 1) := by decide +kernel
theorem dJ0_checkIndex_df160_9 : decode cJ0_checkIndex_df160 9 = .ok (.return_, 1) := by decide +kernel
theorem dJ1_charAt_3b067_0 : decode cJ1_charAt_3b067 0 = .ok (.iload_n 1, 1) := by decide +kernel
theorem dJ1_charAt_3b067_1 : decode cJ1_charAt_3b067 1 = .ok (.aload_n 0, 1) := by decide +kernel
theorem dJ1_charAt_3b067_2 : decode cJ1_charAt_3b067 2 = .ok (.arraylength, 1) := by decide +kernel
theorem dJ1_charAt_3b067_3 : decode cJ1_charAt_3b067 3 = .ok (.invokestatic 9, 3) := by decide +kernel
theorem dJ1_charAt_3b067_6 : decode cJ1_charAt_3b067 6 = .ok (.aload_n 0, 1) := by decide +kernel
theorem dJ1_charAt_3b067_7 : decode cJ1_charAt_3b067 7 = .ok (.iload_n 1, 1) := by decide +kernel
theorem dJ1_charAt_3b067_8 : decode cJ1_charAt_3b067 8 = .ok (.baload, 1) := by decide +kernel
theorem dJ1_charAt_3b067_9 : decode cJ1_charAt_3b067 9 = .ok (.sipush 255, 3) := by decide +kernel
theorem dJ1_charAt_3b067_12 : decode cJ1_charAt_3b067 12 = .ok (.iand, 1) := by decide +kernel
theorem dJ1_charAt_3b067_13 : decode cJ1_charAt_3b067 13 = .ok (.i2c, 1) := by decide +kernel
theorem dJ1_charAt_3b067_14 : decode cJ1_charAt_3b067 14 = .ok (.ireturn, 1) := by decide +kernel
theorem dJ2_getChar_3b067_0 : decode cJ2_getChar_3b067 0 = .ok (.getstatic 44, 3) := by decide +kernel
theorem dJ2_getChar_3b067_3 : decode cJ2_getChar_3b067 3 = .ok (.ifCond .ne 25, 3) := by decide +kernel
theorem dJ2_getChar_3b067_6 : decode cJ2_getChar_3b067 6 = .ok (.iload_n 1, 1) := by decide +kernel
theorem dJ2_getChar_3b067_7 : decode cJ2_getChar_3b067 7 = .ok (.ifCond .lt 11, 3) := by decide +kernel
theorem dJ2_getChar_3b067_10 : decode cJ2_getChar_3b067 10 = .ok (.iload_n 1, 1) := by decide +kernel
theorem dJ2_getChar_3b067_11 : decode cJ2_getChar_3b067 11 = .ok (.aload_n 0, 1) := by decide +kernel
theorem dJ2_getChar_3b067_12 : decode cJ2_getChar_3b067 12 = .ok (.invokestatic 48, 3) := by decide +kernel
theorem dJ2_getChar_3b067_15 : decode cJ2_getChar_3b067 15 = .ok (.if_icmp .lt 13, 3) := by decide +kernel
theorem dJ2_getChar_3b067_18 : decode cJ2_getChar_3b067 18 = .ok (.new 52, 3) := by decide +kernel
theorem dJ2_getChar_3b067_21 : decode cJ2_getChar_3b067 21 = .ok (.dup, 1) := by decide +kernel
theorem dJ2_getChar_3b067_22 : decode cJ2_getChar_3b067 22 = .ok (.ldc 54, 2) := by decide +kernel
theorem dJ2_getChar_3b067_24 : decode cJ2_getChar_3b067 24 = .ok (.invokespecial 56, 3) := by decide +kernel
theorem dJ2_getChar_3b067_27 : decode cJ2_getChar_3b067 27 = .ok (.athrow, 1) := by decide +kernel
theorem dJ2_getChar_3b067_28 : decode cJ2_getChar_3b067 28 = .ok (.iload_n 1, 1) := by decide +kernel
theorem dJ2_getChar_3b067_29 : decode cJ2_getChar_3b067 29 = .ok (.iconst 1, 1) := by decide +kernel
theorem dJ2_getChar_3b067_30 : decode cJ2_getChar_3b067 30 = .ok (.ishl, 1) := by decide +kernel
theorem dJ2_getChar_3b067_31 : decode cJ2_getChar_3b067 31 = .ok (.istore_n 1, 1) := by decide +kernel
theorem dJ2_getChar_3b067_32 : decode cJ2_getChar_3b067 32 = .ok (.aload_n 0, 1) := by decide +kernel
theorem dJ2_getChar_3b067_33 : decode cJ2_getChar_3b067 33 = .ok (.iload_n 1, 1) := by decide +kernel
theorem dJ2_getChar_3b067_34 : decode cJ2_getChar_3b067 34 = .ok (.iinc 1 1, 3) := by decide +kernel
theorem dJ2_getChar_3b067_37 : decode cJ2_getChar_3b067 37 = .ok (.baload, 1) := by decide +kernel
theorem dJ2_getChar_3b067_38 : decode cJ2_getChar_3b067 38 = .ok (.sipush 255, 3) := by decide +kernel
theorem dJ2_getChar_3b067_41 : decode cJ2_getChar_3b067 41 = .ok (.iand, 1) := by decide +kernel
theorem dJ2_getChar_3b067_42 : decode cJ2_getChar_3b067 42 = .ok (.getstatic 59, 3) := by decide +kernel
theorem dJ2_getChar_3b067_45 : decode cJ2_getChar_3b067 45 = .ok (.ishl, 1) := by decide +kernel
theorem dJ2_getChar_3b067_46 : decode cJ2_getChar_3b067 46 = .ok (.aload_n 0, 1) := by decide +kernel
theorem dJ2_getChar_3b067_47 : decode cJ2_getChar_3b067 47 = .ok (.iload_n 1, 1) := by decide +kernel
theorem dJ2_getChar_3b067_48 : decode cJ2_getChar_3b067 48 = .ok (.baload, 1) := by decide +kernel
theorem dJ2_getChar_3b067_49 : decode cJ2_getChar_3b067 49 = .ok (.sipush 255, 3) := by decide +kernel
theorem dJ2_getChar_3b067_52 : decode cJ2_getChar_3b067 52 = .ok (.iand, 1) := by decide +kernel
theorem dJ2_getChar_3b067_53 : decode cJ2_getChar_3b067 53 = .ok (.getstatic 63, 3) := by decide +kernel
theorem dJ2_getChar_3b067_56 : decode cJ2_getChar_3b067 56 = .ok (.ishl, 1) := by decide +kernel
theorem dJ2_getChar_3b067_57 : decode cJ2_getChar_3b067 57 = .ok (.ior, 1) := by decide +kernel
theorem dJ2_getChar_3b067_58 : decode cJ2_getChar_3b067 58 = .ok (.i2c, 1) := by decide +kernel
theorem dJ2_getChar_3b067_59 : decode cJ2_getChar_3b067 59 = .ok (.ireturn, 1) := by decide +kernel
theorem dJ2_length_9d52b_0 : decode cJ2_length_9d52b 0 = .ok (.aload_n 0, 1) := by decide +kernel
theorem dJ2_length_9d52b_1 : decode cJ2_length_9d52b 1 = .ok (.arraylength, 1) := by decide +kernel
theorem dJ2_length_9d52b_2 : decode cJ2_length_9d52b 2 = .ok (.iconst 1, 1) := by decide +kernel
theorem dJ2_length_9d52b_3 : decode cJ2_length_9d52b 3 = .ok (.ishr, 1) := by decide +kernel
theorem dJ2_length_9d52b_4 : decode cJ2_length_9d52b 4 = .ok (.ireturn, 1) := by decide +kernel
theorem dJ2_charAt_3b067_0 : decode cJ2_charAt_3b067 0 = .ok (.iload_n 1, 1) := by decide +kernel
theorem dJ2_charAt_3b067_1 : decode cJ2_charAt_3b067 1 = .ok (.aload_n 0, 1) := by decide +kernel
theorem dJ2_charAt_3b067_2 : decode cJ2_charAt_3b067 2 = .ok (.invokestatic 67, 3) := by decide +kernel
theorem dJ2_charAt_3b067_5 : decode cJ2_charAt_3b067 5 = .ok (.aload_n 0, 1) := by decide +kernel
theorem dJ2_charAt_3b067_6 : decode cJ2_charAt_3b067 6 = .ok (.iload_n 1, 1) := by decide +kernel
theorem dJ2_charAt_3b067_7 : decode cJ2_charAt_3b067 7 = .ok (.invokestatic 71, 3) := by decide +kernel
theorem dJ2_charAt_3b067_10 : decode cJ2_charAt_3b067 10 = .ok (.ireturn, 1) := by decide +kernel
theorem dJ2_checkIndex_2214a_0 : decode cJ2_checkIndex_2214a 0 = .ok (.iload_n 0, 1) := by decide +kernel
theorem dJ2_checkIndex_2214a_1 : decode cJ2_checkIndex_2214a 1 = .ok (.aload_n 1, 1) := by decide +kernel
theorem dJ2_checkIndex_2214a_2 : decode cJ2_checkIndex_2214a 2 = .ok (.invokestatic 48, 3) := by decide +kernel
theorem dJ2_checkIndex_2214a_5 : decode cJ2_checkIndex_2214a 5 = .ok (.invokestatic 414, 3) := by decide +kernel
theorem dJ2_checkIndex_2214a_8 : decode cJ2_checkIndex_2214a 8 = .ok (.return_, 1) := by decide +kernel
theorem dJ3_checkIndex_8e157_0 : decode cJ3_checkIndex_8e157 0 = .ok (.iload_n 0, 1) := by decide +kernel
theorem dJ3_checkIndex_8e157_1 : decode cJ3_checkIndex_8e157 1 = .ok (.ifCond .lt 8, 3) := by decide +kernel
theorem dJ3_checkIndex_8e157_4 : decode cJ3_checkIndex_8e157 4 = .ok (.iload_n 0, 1) := by decide +kernel
theorem dJ3_checkIndex_8e157_5 : decode cJ3_checkIndex_8e157 5 = .ok (.iload_n 1, 1) := by decide +kernel
theorem dJ3_checkIndex_8e157_6 : decode cJ3_checkIndex_8e157 6 = .ok (.if_icmp .lt 10, 3) := by decide +kernel
theorem dJ3_checkIndex_8e157_9 : decode cJ3_checkIndex_8e157 9 = .ok (.aload_n 2, 1) := by decide +kernel
theorem dJ3_checkIndex_8e157_10 : decode cJ3_checkIndex_8e157 10 = .ok (.iload_n 0, 1) := by decide +kernel
theorem dJ3_checkIndex_8e157_11 : decode cJ3_checkIndex_8e157 11 = .ok (.iload_n 1, 1) := by decide +kernel
theorem dJ3_checkIndex_8e157_12 : decode cJ3_checkIndex_8e157 12 = .ok (.invokestatic 95, 3) := by decide +kernel
theorem dJ3_checkIndex_8e157_15 : decode cJ3_checkIndex_8e157 15 = .ok (.athrow, 1) := by decide +kernel
theorem dJ3_checkIndex_8e157_16 : decode cJ3_checkIndex_8e157 16 = .ok (.iload_n 0, 1) := by decide +kernel
theorem dJ3_checkIndex_8e157_17 : decode cJ3_checkIndex_8e157 17 = .ok (.ireturn, 1) := by decide +kernel
theorem dL_law_0 : decode cL_law 0 = .ok (.new 7, 3) := by decide +kernel
theorem dL_law_3 : decode cL_law 3 = .ok (.dup, 1) := by decide +kernel
theorem dL_law_4 : decode cL_law 4 = .ok (.invokespecial 9, 3) := by decide +kernel
theorem dL_law_7 : decode cL_law 7 = .ok (.astore_n 1, 1) := by decide +kernel
theorem dL_law_8 : decode cL_law 8 = .ok (.new 10, 3) := by decide +kernel
theorem dL_law_11 : decode cL_law 11 = .ok (.dup, 1) := by decide +kernel
theorem dL_law_12 : decode cL_law 12 = .ok (.invokespecial 12, 3) := by decide +kernel
theorem dL_law_15 : decode cL_law 15 = .ok (.astore_n 2, 1) := by decide +kernel
theorem dL_law_16 : decode cL_law 16 = .ok (.iconst 0, 1) := by decide +kernel
theorem dL_law_17 : decode cL_law 17 = .ok (.istore_n 3, 1) := by decide +kernel
theorem dL_law_18 : decode cL_law 18 = .ok (.iload_n 3, 1) := by decide +kernel
theorem dL_law_19 : decode cL_law 19 = .ok (.aload_n 0, 1) := by decide +kernel
theorem dL_law_20 : decode cL_law 20 = .ok (.arraylength, 1) := by decide +kernel
theorem dL_law_21 : decode cL_law 21 = .ok (.iconst 4, 1) := by decide +kernel
theorem dL_law_22 : decode cL_law 22 = .ok (.isub, 1) := by decide +kernel
theorem dL_law_23 : decode cL_law 23 = .ok (.if_icmp .gt 926, 3) := by decide +kernel
theorem dL_law_26 : decode cL_law 26 = .ok (.aload_n 0, 1) := by decide +kernel
theorem dL_law_27 : decode cL_law 27 = .ok (.iload_n 3, 1) := by decide +kernel
theorem dL_law_28 : decode cL_law 28 = .ok (.iaload, 1) := by decide +kernel
theorem dL_law_29 : decode cL_law 29 = .ok (.bipush 31, 2) := by decide +kernel
theorem dL_law_31 : decode cL_law 31 = .ok (.iand, 1) := by decide +kernel
theorem dL_law_32 : decode cL_law 32 = .ok (.tableswitch 911 0 27 #[128, 151, 164, 197, 230, 289, 322, 345, 378, 391, 415, 438, 461, 494, 527, 560, 593, 616, 639, 683, 717, 750, 763, 806, 829, 862, 875, 888], 128) := by decide +kernel
theorem dL_law_160 : decode cL_law 160 = .ok (.aload_n 1, 1) := by decide +kernel
theorem dL_law_161 : decode cL_law 161 = .ok (.aload_n 0, 1) := by decide +kernel
theorem dL_law_162 : decode cL_law 162 = .ok (.iload_n 3, 1) := by decide +kernel
theorem dL_law_163 : decode cL_law 163 = .ok (.iconst 1, 1) := by decide +kernel
theorem dL_law_164 : decode cL_law 164 = .ok (.iadd, 1) := by decide +kernel
theorem dL_law_165 : decode cL_law 165 = .ok (.iaload, 1) := by decide +kernel
theorem dL_law_166 : decode cL_law 166 = .ok (.invokevirtual 13, 3) := by decide +kernel
theorem dL_law_169 : decode cL_law 169 = .ok (.aload_n 2, 1) := by decide +kernel
theorem dL_law_170 : decode cL_law 170 = .ok (.aload_n 0, 1) := by decide +kernel
theorem dL_law_171 : decode cL_law 171 = .ok (.iload_n 3, 1) := by decide +kernel
theorem dL_law_172 : decode cL_law 172 = .ok (.iconst 1, 1) := by decide +kernel
theorem dL_law_173 : decode cL_law 173 = .ok (.iadd, 1) := by decide +kernel
theorem dL_law_174 : decode cL_law 174 = .ok (.iaload, 1) := by decide +kernel
theorem dL_law_175 : decode cL_law 175 = .ok (.invokevirtual 17, 3) := by decide +kernel
theorem dL_law_178 : decode cL_law 178 = .ok (.if_icmp .eq 765, 3) := by decide +kernel
theorem dL_law_181 : decode cL_law 181 = .ok (.iconst 0, 1) := by decide +kernel
theorem dL_law_182 : decode cL_law 182 = .ok (.ireturn, 1) := by decide +kernel
theorem dL_law_183 : decode cL_law 183 = .ok (.aload_n 1, 1) := by decide +kernel
theorem dL_law_184 : decode cL_law 184 = .ok (.invokevirtual 18, 3) := by decide +kernel
theorem dL_law_187 : decode cL_law 187 = .ok (.aload_n 2, 1) := by decide +kernel
theorem dL_law_188 : decode cL_law 188 = .ok (.invokevirtual 22, 3) := by decide +kernel
theorem dL_law_191 : decode cL_law 191 = .ok (.if_icmp .eq 752, 3) := by decide +kernel
theorem dL_law_194 : decode cL_law 194 = .ok (.iconst 0, 1) := by decide +kernel
theorem dL_law_195 : decode cL_law 195 = .ok (.ireturn, 1) := by decide +kernel
theorem dL_law_196 : decode cL_law 196 = .ok (.aload_n 1, 1) := by decide +kernel
theorem dL_law_197 : decode cL_law 197 = .ok (.aload_n 0, 1) := by decide +kernel
theorem dL_law_198 : decode cL_law 198 = .ok (.iload_n 3, 1) := by decide +kernel
theorem dL_law_199 : decode cL_law 199 = .ok (.iconst 1, 1) := by decide +kernel
theorem dL_law_200 : decode cL_law 200 = .ok (.iadd, 1) := by decide +kernel
theorem dL_law_201 : decode cL_law 201 = .ok (.iaload, 1) := by decide +kernel
theorem dL_law_202 : decode cL_law 202 = .ok (.aload_n 0, 1) := by decide +kernel
theorem dL_law_203 : decode cL_law 203 = .ok (.iload_n 3, 1) := by decide +kernel
theorem dL_law_204 : decode cL_law 204 = .ok (.iconst 2, 1) := by decide +kernel
theorem dL_law_205 : decode cL_law 205 = .ok (.iadd, 1) := by decide +kernel
theorem dL_law_206 : decode cL_law 206 = .ok (.iaload, 1) := by decide +kernel
theorem dL_law_207 : decode cL_law 207 = .ok (.invokevirtual 23, 3) := by decide +kernel
theorem dL_law_210 : decode cL_law 210 = .ok (.aload_n 2, 1) := by decide +kernel
theorem dL_law_211 : decode cL_law 211 = .ok (.aload_n 0, 1) := by decide +kernel
theorem dL_law_212 : decode cL_law 212 = .ok (.iload_n 3, 1) := by decide +kernel
theorem dL_law_213 : decode cL_law 213 = .ok (.iconst 1, 1) := by decide +kernel
theorem dL_law_214 : decode cL_law 214 = .ok (.iadd, 1) := by decide +kernel
theorem dL_law_215 : decode cL_law 215 = .ok (.iaload, 1) := by decide +kernel
theorem dL_law_216 : decode cL_law 216 = .ok (.aload_n 0, 1) := by decide +kernel
theorem dL_law_217 : decode cL_law 217 = .ok (.iload_n 3, 1) := by decide +kernel
theorem dL_law_218 : decode cL_law 218 = .ok (.iconst 2, 1) := by decide +kernel
theorem dL_law_219 : decode cL_law 219 = .ok (.iadd, 1) := by decide +kernel
theorem dL_law_220 : decode cL_law 220 = .ok (.iaload, 1) := by decide +kernel
theorem dL_law_221 : decode cL_law 221 = .ok (.invokevirtual 27, 3) := by decide +kernel
theorem dL_law_224 : decode cL_law 224 = .ok (.if_icmp .eq 719, 3) := by decide +kernel
theorem dL_law_227 : decode cL_law 227 = .ok (.iconst 0, 1) := by decide +kernel
theorem dL_law_228 : decode cL_law 228 = .ok (.ireturn, 1) := by decide +kernel
theorem dL_law_229 : decode cL_law 229 = .ok (.aload_n 1, 1) := by decide +kernel
theorem dL_law_230 : decode cL_law 230 = .ok (.aload_n 0, 1) := by decide +kernel
theorem dL_law_231 : decode cL_law 231 = .ok (.iload_n 3, 1) := by decide +kernel
theorem dL_law_232 : decode cL_law 232 = .ok (.iconst 1, 1) := by decide +kernel
theorem dL_law_233 : decode cL_law 233 = .ok (.iadd, 1) := by decide +kernel
theorem dL_law_234 : decode cL_law 234 = .ok (.iaload, 1) := by decide +kernel
theorem dL_law_235 : decode cL_law 235 = .ok (.aload_n 0, 1) := by decide +kernel
theorem dL_law_236 : decode cL_law 236 = .ok (.iload_n 3, 1) := by decide +kernel
theorem dL_law_237 : decode cL_law 237 = .ok (.iconst 2, 1) := by decide +kernel
theorem dL_law_238 : decode cL_law 238 = .ok (.iadd, 1) := by decide +kernel
theorem dL_law_239 : decode cL_law 239 = .ok (.iaload, 1) := by decide +kernel
theorem dL_law_240 : decode cL_law 240 = .ok (.invokevirtual 28, 3) := by decide +kernel
theorem dL_law_243 : decode cL_law 243 = .ok (.aload_n 2, 1) := by decide +kernel
theorem dL_law_244 : decode cL_law 244 = .ok (.aload_n 0, 1) := by decide +kernel
theorem dL_law_245 : decode cL_law 245 = .ok (.iload_n 3, 1) := by decide +kernel
theorem dL_law_246 : decode cL_law 246 = .ok (.iconst 1, 1) := by decide +kernel
theorem dL_law_247 : decode cL_law 247 = .ok (.iadd, 1) := by decide +kernel
theorem dL_law_248 : decode cL_law 248 = .ok (.iaload, 1) := by decide +kernel
theorem dL_law_249 : decode cL_law 249 = .ok (.aload_n 0, 1) := by decide +kernel
theorem dL_law_250 : decode cL_law 250 = .ok (.iload_n 3, 1) := by decide +kernel
theorem dL_law_251 : decode cL_law 251 = .ok (.iconst 2, 1) := by decide +kernel
theorem dL_law_252 : decode cL_law 252 = .ok (.iadd, 1) := by decide +kernel
theorem dL_law_253 : decode cL_law 253 = .ok (.iaload, 1) := by decide +kernel
theorem dL_law_254 : decode cL_law 254 = .ok (.invokevirtual 31, 3) := by decide +kernel
theorem dL_law_257 : decode cL_law 257 = .ok (.if_icmp .eq 686, 3) := by decide +kernel
theorem dL_law_260 : decode cL_law 260 = .ok (.iconst 0, 1) := by decide +kernel
theorem dL_law_261 : decode cL_law 261 = .ok (.ireturn, 1) := by decide +kernel
theorem dL_law_262 : decode cL_law 262 = .ok (.aload_n 1, 1) := by decide +kernel
theorem dL_law_263 : decode cL_law 263 = .ok (.aload_n 0, 1) := by decide +kernel
theorem dL_law_264 : decode cL_law 264 = .ok (.iload_n 3, 1) := by decide +kernel
theorem dL_law_265 : decode cL_law 265 = .ok (.iconst 1, 1) := by decide +kernel
theorem dL_law_266 : decode cL_law 266 = .ok (.iadd, 1) := by decide +kernel
theorem dL_law_267 : decode cL_law 267 = .ok (.iaload, 1) := by decide +kernel
theorem dL_law_268 : decode cL_law 268 = .ok (.aload_n 0, 1) := by decide +kernel
theorem dL_law_269 : decode cL_law 269 = .ok (.iload_n 3, 1) := by decide +kernel
theorem dL_law_270 : decode cL_law 270 = .ok (.iconst 2, 1) := by decide +kernel
theorem dL_law_271 : decode cL_law 271 = .ok (.iadd, 1) := by decide +kernel
theorem dL_law_272 : decode cL_law 272 = .ok (.iaload, 1) := by decide +kernel
theorem dL_law_273 : decode cL_law 273 = .ok (.aload_n 0, 1) := by decide +kernel
theorem dL_law_274 : decode cL_law 274 = .ok (.iload_n 3, 1) := by decide +kernel
theorem dL_law_275 : decode cL_law 275 = .ok (.iconst 3, 1) := by decide +kernel
theorem dL_law_276 : decode cL_law 276 = .ok (.iadd, 1) := by decide +kernel
theorem dL_law_277 : decode cL_law 277 = .ok (.iaload, 1) := by decide +kernel
theorem dL_law_278 : decode cL_law 278 = .ok (.ifCond .eq 7, 3) := by decide +kernel
theorem dL_law_281 : decode cL_law 281 = .ok (.iconst 1, 1) := by decide +kernel
theorem dL_law_282 : decode cL_law 282 = .ok (.goto 4, 3) := by decide +kernel
theorem dL_law_285 : decode cL_law 285 = .ok (.iconst 0, 1) := by decide +kernel
theorem dL_law_286 : decode cL_law 286 = .ok (.invokevirtual 32, 3) := by decide +kernel
theorem dL_law_289 : decode cL_law 289 = .ok (.aload_n 2, 1) := by decide +kernel
theorem dL_law_290 : decode cL_law 290 = .ok (.aload_n 0, 1) := by decide +kernel
theorem dL_law_291 : decode cL_law 291 = .ok (.iload_n 3, 1) := by decide +kernel
theorem dL_law_292 : decode cL_law 292 = .ok (.iconst 1, 1) := by decide +kernel
theorem dL_law_293 : decode cL_law 293 = .ok (.iadd, 1) := by decide +kernel
theorem dL_law_294 : decode cL_law 294 = .ok (.iaload, 1) := by decide +kernel
theorem dL_law_295 : decode cL_law 295 = .ok (.aload_n 0, 1) := by decide +kernel
theorem dL_law_296 : decode cL_law 296 = .ok (.iload_n 3, 1) := by decide +kernel
theorem dL_law_297 : decode cL_law 297 = .ok (.iconst 2, 1) := by decide +kernel
theorem dL_law_298 : decode cL_law 298 = .ok (.iadd, 1) := by decide +kernel
theorem dL_law_299 : decode cL_law 299 = .ok (.iaload, 1) := by decide +kernel
theorem dL_law_300 : decode cL_law 300 = .ok (.aload_n 0, 1) := by decide +kernel
theorem dL_law_301 : decode cL_law 301 = .ok (.iload_n 3, 1) := by decide +kernel
theorem dL_law_302 : decode cL_law 302 = .ok (.iconst 3, 1) := by decide +kernel
theorem dL_law_303 : decode cL_law 303 = .ok (.iadd, 1) := by decide +kernel
theorem dL_law_304 : decode cL_law 304 = .ok (.iaload, 1) := by decide +kernel
theorem dL_law_305 : decode cL_law 305 = .ok (.ifCond .eq 7, 3) := by decide +kernel
theorem dL_law_308 : decode cL_law 308 = .ok (.iconst 1, 1) := by decide +kernel
theorem dL_law_309 : decode cL_law 309 = .ok (.goto 4, 3) := by decide +kernel
theorem dL_law_312 : decode cL_law 312 = .ok (.iconst 0, 1) := by decide +kernel
theorem dL_law_313 : decode cL_law 313 = .ok (.invokevirtual 36, 3) := by decide +kernel
theorem dL_law_316 : decode cL_law 316 = .ok (.if_icmp .eq 627, 3) := by decide +kernel
theorem dL_law_319 : decode cL_law 319 = .ok (.iconst 0, 1) := by decide +kernel
theorem dL_law_320 : decode cL_law 320 = .ok (.ireturn, 1) := by decide +kernel
theorem dL_law_321 : decode cL_law 321 = .ok (.aload_n 1, 1) := by decide +kernel
theorem dL_law_322 : decode cL_law 322 = .ok (.aload_n 0, 1) := by decide +kernel
theorem dL_law_323 : decode cL_law 323 = .ok (.iload_n 3, 1) := by decide +kernel
theorem dL_law_324 : decode cL_law 324 = .ok (.iconst 1, 1) := by decide +kernel
theorem dL_law_325 : decode cL_law 325 = .ok (.iadd, 1) := by decide +kernel
theorem dL_law_326 : decode cL_law 326 = .ok (.iaload, 1) := by decide +kernel
theorem dL_law_327 : decode cL_law 327 = .ok (.aload_n 0, 1) := by decide +kernel
theorem dL_law_328 : decode cL_law 328 = .ok (.iload_n 3, 1) := by decide +kernel
theorem dL_law_329 : decode cL_law 329 = .ok (.iconst 2, 1) := by decide +kernel
theorem dL_law_330 : decode cL_law 330 = .ok (.iadd, 1) := by decide +kernel
theorem dL_law_331 : decode cL_law 331 = .ok (.iaload, 1) := by decide +kernel
theorem dL_law_332 : decode cL_law 332 = .ok (.invokevirtual 37, 3) := by decide +kernel
theorem dL_law_335 : decode cL_law 335 = .ok (.aload_n 2, 1) := by decide +kernel
theorem dL_law_336 : decode cL_law 336 = .ok (.aload_n 0, 1) := by decide +kernel
theorem dL_law_337 : decode cL_law 337 = .ok (.iload_n 3, 1) := by decide +kernel
theorem dL_law_338 : decode cL_law 338 = .ok (.iconst 1, 1) := by decide +kernel
theorem dL_law_339 : decode cL_law 339 = .ok (.iadd, 1) := by decide +kernel
theorem dL_law_340 : decode cL_law 340 = .ok (.iaload, 1) := by decide +kernel
theorem dL_law_341 : decode cL_law 341 = .ok (.aload_n 0, 1) := by decide +kernel
theorem dL_law_342 : decode cL_law 342 = .ok (.iload_n 3, 1) := by decide +kernel
theorem dL_law_343 : decode cL_law 343 = .ok (.iconst 2, 1) := by decide +kernel
theorem dL_law_344 : decode cL_law 344 = .ok (.iadd, 1) := by decide +kernel
theorem dL_law_345 : decode cL_law 345 = .ok (.iaload, 1) := by decide +kernel
theorem dL_law_346 : decode cL_law 346 = .ok (.invokevirtual 40, 3) := by decide +kernel
theorem dL_law_349 : decode cL_law 349 = .ok (.if_icmp .eq 594, 3) := by decide +kernel
theorem dL_law_352 : decode cL_law 352 = .ok (.iconst 0, 1) := by decide +kernel
theorem dL_law_353 : decode cL_law 353 = .ok (.ireturn, 1) := by decide +kernel
theorem dL_law_354 : decode cL_law 354 = .ok (.aload_n 1, 1) := by decide +kernel
theorem dL_law_355 : decode cL_law 355 = .ok (.aload_n 0, 1) := by decide +kernel
theorem dL_law_356 : decode cL_law 356 = .ok (.iload_n 3, 1) := by decide +kernel
theorem dL_law_357 : decode cL_law 357 = .ok (.iconst 1, 1) := by decide +kernel
theorem dL_law_358 : decode cL_law 358 = .ok (.iadd, 1) := by decide +kernel
theorem dL_law_359 : decode cL_law 359 = .ok (.iaload, 1) := by decide +kernel
theorem dL_law_360 : decode cL_law 360 = .ok (.invokevirtual 41, 3) := by decide +kernel
theorem dL_law_363 : decode cL_law 363 = .ok (.aload_n 2, 1) := by decide +kernel
theorem dL_law_364 : decode cL_law 364 = .ok (.aload_n 0, 1) := by decide +kernel
theorem dL_law_365 : decode cL_law 365 = .ok (.iload_n 3, 1) := by decide +kernel
theorem dL_law_366 : decode cL_law 366 = .ok (.iconst 1, 1) := by decide +kernel
theorem dL_law_367 : decode cL_law 367 = .ok (.iadd, 1) := by decide +kernel
theorem dL_law_368 : decode cL_law 368 = .ok (.iaload, 1) := by decide +kernel
theorem dL_law_369 : decode cL_law 369 = .ok (.invokevirtual 44, 3) := by decide +kernel
theorem dL_law_372 : decode cL_law 372 = .ok (.if_icmp .eq 571, 3) := by decide +kernel
theorem dL_law_375 : decode cL_law 375 = .ok (.iconst 0, 1) := by decide +kernel
theorem dL_law_376 : decode cL_law 376 = .ok (.ireturn, 1) := by decide +kernel
theorem dL_law_377 : decode cL_law 377 = .ok (.aload_n 1, 1) := by decide +kernel
theorem dL_law_378 : decode cL_law 378 = .ok (.aload_n 0, 1) := by decide +kernel
theorem dL_law_379 : decode cL_law 379 = .ok (.iload_n 3, 1) := by decide +kernel
theorem dL_law_380 : decode cL_law 380 = .ok (.iconst 1, 1) := by decide +kernel
theorem dL_law_381 : decode cL_law 381 = .ok (.iadd, 1) := by decide +kernel
theorem dL_law_382 : decode cL_law 382 = .ok (.iaload, 1) := by decide +kernel
theorem dL_law_383 : decode cL_law 383 = .ok (.aload_n 0, 1) := by decide +kernel
theorem dL_law_384 : decode cL_law 384 = .ok (.iload_n 3, 1) := by decide +kernel
theorem dL_law_385 : decode cL_law 385 = .ok (.iconst 2, 1) := by decide +kernel
theorem dL_law_386 : decode cL_law 386 = .ok (.iadd, 1) := by decide +kernel
theorem dL_law_387 : decode cL_law 387 = .ok (.iaload, 1) := by decide +kernel
theorem dL_law_388 : decode cL_law 388 = .ok (.invokevirtual 45, 3) := by decide +kernel
theorem dL_law_391 : decode cL_law 391 = .ok (.aload_n 2, 1) := by decide +kernel
theorem dL_law_392 : decode cL_law 392 = .ok (.aload_n 0, 1) := by decide +kernel
theorem dL_law_393 : decode cL_law 393 = .ok (.iload_n 3, 1) := by decide +kernel
theorem dL_law_394 : decode cL_law 394 = .ok (.iconst 1, 1) := by decide +kernel
theorem dL_law_395 : decode cL_law 395 = .ok (.iadd, 1) := by decide +kernel
theorem dL_law_396 : decode cL_law 396 = .ok (.iaload, 1) := by decide +kernel
theorem dL_law_397 : decode cL_law 397 = .ok (.aload_n 0, 1) := by decide +kernel
theorem dL_law_398 : decode cL_law 398 = .ok (.iload_n 3, 1) := by decide +kernel
theorem dL_law_399 : decode cL_law 399 = .ok (.iconst 2, 1) := by decide +kernel
theorem dL_law_400 : decode cL_law 400 = .ok (.iadd, 1) := by decide +kernel
theorem dL_law_401 : decode cL_law 401 = .ok (.iaload, 1) := by decide +kernel
theorem dL_law_402 : decode cL_law 402 = .ok (.invokevirtual 48, 3) := by decide +kernel
theorem dL_law_405 : decode cL_law 405 = .ok (.if_icmp .eq 538, 3) := by decide +kernel
theorem dL_law_408 : decode cL_law 408 = .ok (.iconst 0, 1) := by decide +kernel
theorem dL_law_409 : decode cL_law 409 = .ok (.ireturn, 1) := by decide +kernel
theorem dL_law_410 : decode cL_law 410 = .ok (.aload_n 1, 1) := by decide +kernel
theorem dL_law_411 : decode cL_law 411 = .ok (.invokevirtual 49, 3) := by decide +kernel
theorem dL_law_414 : decode cL_law 414 = .ok (.aload_n 2, 1) := by decide +kernel
theorem dL_law_415 : decode cL_law 415 = .ok (.invokevirtual 52, 3) := by decide +kernel
theorem dL_law_418 : decode cL_law 418 = .ok (.if_icmp .eq 525, 3) := by decide +kernel
theorem dL_law_421 : decode cL_law 421 = .ok (.iconst 0, 1) := by decide +kernel
theorem dL_law_422 : decode cL_law 422 = .ok (.ireturn, 1) := by decide +kernel
theorem dL_law_423 : decode cL_law 423 = .ok (.aload_n 1, 1) := by decide +kernel
theorem dL_law_424 : decode cL_law 424 = .ok (.aload_n 0, 1) := by decide +kernel
theorem dL_law_425 : decode cL_law 425 = .ok (.iload_n 3, 1) := by decide +kernel
theorem dL_law_426 : decode cL_law 426 = .ok (.iconst 1, 1) := by decide +kernel
theorem dL_law_427 : decode cL_law 427 = .ok (.iadd, 1) := by decide +kernel
theorem dL_law_428 : decode cL_law 428 = .ok (.iaload, 1) := by decide +kernel
theorem dL_law_429 : decode cL_law 429 = .ok (.invokevirtual 53, 3) := by decide +kernel
theorem dL_law_432 : decode cL_law 432 = .ok (.aload_n 2, 1) := by decide +kernel
theorem dL_law_433 : decode cL_law 433 = .ok (.aload_n 0, 1) := by decide +kernel
theorem dL_law_434 : decode cL_law 434 = .ok (.iload_n 3, 1) := by decide +kernel
theorem dL_law_435 : decode cL_law 435 = .ok (.iconst 1, 1) := by decide +kernel
theorem dL_law_436 : decode cL_law 436 = .ok (.iadd, 1) := by decide +kernel
theorem dL_law_437 : decode cL_law 437 = .ok (.iaload, 1) := by decide +kernel
theorem dL_law_438 : decode cL_law 438 = .ok (.invokevirtual 57, 3) := by decide +kernel
theorem dL_law_441 : decode cL_law 441 = .ok (.lcmp, 1) := by decide +kernel
theorem dL_law_442 : decode cL_law 442 = .ok (.ifCond .eq 501, 3) := by decide +kernel
theorem dL_law_445 : decode cL_law 445 = .ok (.iconst 0, 1) := by decide +kernel
theorem dL_law_446 : decode cL_law 446 = .ok (.ireturn, 1) := by decide +kernel
theorem dL_law_447 : decode cL_law 447 = .ok (.aload_n 1, 1) := by decide +kernel
theorem dL_law_448 : decode cL_law 448 = .ok (.aload_n 0, 1) := by decide +kernel
theorem dL_law_449 : decode cL_law 449 = .ok (.iload_n 3, 1) := by decide +kernel
theorem dL_law_450 : decode cL_law 450 = .ok (.iconst 1, 1) := by decide +kernel
theorem dL_law_451 : decode cL_law 451 = .ok (.iadd, 1) := by decide +kernel
theorem dL_law_452 : decode cL_law 452 = .ok (.iaload, 1) := by decide +kernel
theorem dL_law_453 : decode cL_law 453 = .ok (.invokevirtual 58, 3) := by decide +kernel
theorem dL_law_456 : decode cL_law 456 = .ok (.aload_n 2, 1) := by decide +kernel
theorem dL_law_457 : decode cL_law 457 = .ok (.aload_n 0, 1) := by decide +kernel
theorem dL_law_458 : decode cL_law 458 = .ok (.iload_n 3, 1) := by decide +kernel
theorem dL_law_459 : decode cL_law 459 = .ok (.iconst 1, 1) := by decide +kernel
theorem dL_law_460 : decode cL_law 460 = .ok (.iadd, 1) := by decide +kernel
theorem dL_law_461 : decode cL_law 461 = .ok (.iaload, 1) := by decide +kernel
theorem dL_law_462 : decode cL_law 462 = .ok (.invokevirtual 61, 3) := by decide +kernel
theorem dL_law_465 : decode cL_law 465 = .ok (.if_icmp .eq 478, 3) := by decide +kernel
theorem dL_law_468 : decode cL_law 468 = .ok (.iconst 0, 1) := by decide +kernel
theorem dL_law_469 : decode cL_law 469 = .ok (.ireturn, 1) := by decide +kernel
theorem dL_law_470 : decode cL_law 470 = .ok (.aload_n 1, 1) := by decide +kernel
theorem dL_law_471 : decode cL_law 471 = .ok (.aload_n 0, 1) := by decide +kernel
theorem dL_law_472 : decode cL_law 472 = .ok (.iload_n 3, 1) := by decide +kernel
theorem dL_law_473 : decode cL_law 473 = .ok (.iconst 1, 1) := by decide +kernel
theorem dL_law_474 : decode cL_law 474 = .ok (.iadd, 1) := by decide +kernel
theorem dL_law_475 : decode cL_law 475 = .ok (.iaload, 1) := by decide +kernel
theorem dL_law_476 : decode cL_law 476 = .ok (.invokevirtual 62, 3) := by decide +kernel
theorem dL_law_479 : decode cL_law 479 = .ok (.aload_n 2, 1) := by decide +kernel
theorem dL_law_480 : decode cL_law 480 = .ok (.aload_n 0, 1) := by decide +kernel
theorem dL_law_481 : decode cL_law 481 = .ok (.iload_n 3, 1) := by decide +kernel
theorem dL_law_482 : decode cL_law 482 = .ok (.iconst 1, 1) := by decide +kernel
theorem dL_law_483 : decode cL_law 483 = .ok (.iadd, 1) := by decide +kernel
theorem dL_law_484 : decode cL_law 484 = .ok (.iaload, 1) := by decide +kernel
theorem dL_law_485 : decode cL_law 485 = .ok (.invokevirtual 65, 3) := by decide +kernel
theorem dL_law_488 : decode cL_law 488 = .ok (.if_icmp .eq 455, 3) := by decide +kernel
theorem dL_law_491 : decode cL_law 491 = .ok (.iconst 0, 1) := by decide +kernel
theorem dL_law_492 : decode cL_law 492 = .ok (.ireturn, 1) := by decide +kernel
theorem dL_law_493 : decode cL_law 493 = .ok (.aload_n 1, 1) := by decide +kernel
theorem dL_law_494 : decode cL_law 494 = .ok (.aload_n 0, 1) := by decide +kernel
theorem dL_law_495 : decode cL_law 495 = .ok (.iload_n 3, 1) := by decide +kernel
theorem dL_law_496 : decode cL_law 496 = .ok (.iconst 1, 1) := by decide +kernel
theorem dL_law_497 : decode cL_law 497 = .ok (.iadd, 1) := by decide +kernel
theorem dL_law_498 : decode cL_law 498 = .ok (.iaload, 1) := by decide +kernel
theorem dL_law_499 : decode cL_law 499 = .ok (.aload_n 0, 1) := by decide +kernel
theorem dL_law_500 : decode cL_law 500 = .ok (.iload_n 3, 1) := by decide +kernel
theorem dL_law_501 : decode cL_law 501 = .ok (.iconst 2, 1) := by decide +kernel
theorem dL_law_502 : decode cL_law 502 = .ok (.iadd, 1) := by decide +kernel
theorem dL_law_503 : decode cL_law 503 = .ok (.iaload, 1) := by decide +kernel
theorem dL_law_504 : decode cL_law 504 = .ok (.invokevirtual 66, 3) := by decide +kernel
theorem dL_law_507 : decode cL_law 507 = .ok (.aload_n 2, 1) := by decide +kernel
theorem dL_law_508 : decode cL_law 508 = .ok (.aload_n 0, 1) := by decide +kernel
theorem dL_law_509 : decode cL_law 509 = .ok (.iload_n 3, 1) := by decide +kernel
theorem dL_law_510 : decode cL_law 510 = .ok (.iconst 1, 1) := by decide +kernel
theorem dL_law_511 : decode cL_law 511 = .ok (.iadd, 1) := by decide +kernel
theorem dL_law_512 : decode cL_law 512 = .ok (.iaload, 1) := by decide +kernel
theorem dL_law_513 : decode cL_law 513 = .ok (.aload_n 0, 1) := by decide +kernel
theorem dL_law_514 : decode cL_law 514 = .ok (.iload_n 3, 1) := by decide +kernel
theorem dL_law_515 : decode cL_law 515 = .ok (.iconst 2, 1) := by decide +kernel
theorem dL_law_516 : decode cL_law 516 = .ok (.iadd, 1) := by decide +kernel
theorem dL_law_517 : decode cL_law 517 = .ok (.iaload, 1) := by decide +kernel
theorem dL_law_518 : decode cL_law 518 = .ok (.invokevirtual 69, 3) := by decide +kernel
theorem dL_law_521 : decode cL_law 521 = .ok (.if_icmp .eq 422, 3) := by decide +kernel
theorem dL_law_524 : decode cL_law 524 = .ok (.iconst 0, 1) := by decide +kernel
theorem dL_law_525 : decode cL_law 525 = .ok (.ireturn, 1) := by decide +kernel
theorem dL_law_526 : decode cL_law 526 = .ok (.aload_n 1, 1) := by decide +kernel
theorem dL_law_527 : decode cL_law 527 = .ok (.aload_n 0, 1) := by decide +kernel
theorem dL_law_528 : decode cL_law 528 = .ok (.iload_n 3, 1) := by decide +kernel
theorem dL_law_529 : decode cL_law 529 = .ok (.iconst 1, 1) := by decide +kernel
theorem dL_law_530 : decode cL_law 530 = .ok (.iadd, 1) := by decide +kernel
theorem dL_law_531 : decode cL_law 531 = .ok (.iaload, 1) := by decide +kernel
theorem dL_law_532 : decode cL_law 532 = .ok (.aload_n 0, 1) := by decide +kernel
theorem dL_law_533 : decode cL_law 533 = .ok (.iload_n 3, 1) := by decide +kernel
theorem dL_law_534 : decode cL_law 534 = .ok (.iconst 2, 1) := by decide +kernel
theorem dL_law_535 : decode cL_law 535 = .ok (.iadd, 1) := by decide +kernel
theorem dL_law_536 : decode cL_law 536 = .ok (.iaload, 1) := by decide +kernel
theorem dL_law_537 : decode cL_law 537 = .ok (.invokevirtual 70, 3) := by decide +kernel
theorem dL_law_540 : decode cL_law 540 = .ok (.aload_n 2, 1) := by decide +kernel
theorem dL_law_541 : decode cL_law 541 = .ok (.aload_n 0, 1) := by decide +kernel
theorem dL_law_542 : decode cL_law 542 = .ok (.iload_n 3, 1) := by decide +kernel
theorem dL_law_543 : decode cL_law 543 = .ok (.iconst 1, 1) := by decide +kernel
theorem dL_law_544 : decode cL_law 544 = .ok (.iadd, 1) := by decide +kernel
theorem dL_law_545 : decode cL_law 545 = .ok (.iaload, 1) := by decide +kernel
theorem dL_law_546 : decode cL_law 546 = .ok (.aload_n 0, 1) := by decide +kernel
theorem dL_law_547 : decode cL_law 547 = .ok (.iload_n 3, 1) := by decide +kernel
theorem dL_law_548 : decode cL_law 548 = .ok (.iconst 2, 1) := by decide +kernel
theorem dL_law_549 : decode cL_law 549 = .ok (.iadd, 1) := by decide +kernel
theorem dL_law_550 : decode cL_law 550 = .ok (.iaload, 1) := by decide +kernel
theorem dL_law_551 : decode cL_law 551 = .ok (.invokevirtual 73, 3) := by decide +kernel
theorem dL_law_554 : decode cL_law 554 = .ok (.if_icmp .eq 389, 3) := by decide +kernel
theorem dL_law_557 : decode cL_law 557 = .ok (.iconst 0, 1) := by decide +kernel
theorem dL_law_558 : decode cL_law 558 = .ok (.ireturn, 1) := by decide +kernel
theorem dL_law_559 : decode cL_law 559 = .ok (.aload_n 1, 1) := by decide +kernel
theorem dL_law_560 : decode cL_law 560 = .ok (.aload_n 0, 1) := by decide +kernel
theorem dL_law_561 : decode cL_law 561 = .ok (.iload_n 3, 1) := by decide +kernel
theorem dL_law_562 : decode cL_law 562 = .ok (.iconst 1, 1) := by decide +kernel
theorem dL_law_563 : decode cL_law 563 = .ok (.iadd, 1) := by decide +kernel
theorem dL_law_564 : decode cL_law 564 = .ok (.iaload, 1) := by decide +kernel
theorem dL_law_565 : decode cL_law 565 = .ok (.aload_n 0, 1) := by decide +kernel
theorem dL_law_566 : decode cL_law 566 = .ok (.iload_n 3, 1) := by decide +kernel
theorem dL_law_567 : decode cL_law 567 = .ok (.iconst 2, 1) := by decide +kernel
theorem dL_law_568 : decode cL_law 568 = .ok (.iadd, 1) := by decide +kernel
theorem dL_law_569 : decode cL_law 569 = .ok (.iaload, 1) := by decide +kernel
theorem dL_law_570 : decode cL_law 570 = .ok (.invokevirtual 74, 3) := by decide +kernel
theorem dL_law_573 : decode cL_law 573 = .ok (.aload_n 2, 1) := by decide +kernel
theorem dL_law_574 : decode cL_law 574 = .ok (.aload_n 0, 1) := by decide +kernel
theorem dL_law_575 : decode cL_law 575 = .ok (.iload_n 3, 1) := by decide +kernel
theorem dL_law_576 : decode cL_law 576 = .ok (.iconst 1, 1) := by decide +kernel
theorem dL_law_577 : decode cL_law 577 = .ok (.iadd, 1) := by decide +kernel
theorem dL_law_578 : decode cL_law 578 = .ok (.iaload, 1) := by decide +kernel
theorem dL_law_579 : decode cL_law 579 = .ok (.aload_n 0, 1) := by decide +kernel
theorem dL_law_580 : decode cL_law 580 = .ok (.iload_n 3, 1) := by decide +kernel
theorem dL_law_581 : decode cL_law 581 = .ok (.iconst 2, 1) := by decide +kernel
theorem dL_law_582 : decode cL_law 582 = .ok (.iadd, 1) := by decide +kernel
theorem dL_law_583 : decode cL_law 583 = .ok (.iaload, 1) := by decide +kernel
theorem dL_law_584 : decode cL_law 584 = .ok (.invokevirtual 77, 3) := by decide +kernel
theorem dL_law_587 : decode cL_law 587 = .ok (.if_icmp .eq 356, 3) := by decide +kernel
theorem dL_law_590 : decode cL_law 590 = .ok (.iconst 0, 1) := by decide +kernel
theorem dL_law_591 : decode cL_law 591 = .ok (.ireturn, 1) := by decide +kernel
theorem dL_law_592 : decode cL_law 592 = .ok (.aload_n 1, 1) := by decide +kernel
theorem dL_law_593 : decode cL_law 593 = .ok (.aload_n 0, 1) := by decide +kernel
theorem dL_law_594 : decode cL_law 594 = .ok (.iload_n 3, 1) := by decide +kernel
theorem dL_law_595 : decode cL_law 595 = .ok (.iconst 1, 1) := by decide +kernel
theorem dL_law_596 : decode cL_law 596 = .ok (.iadd, 1) := by decide +kernel
theorem dL_law_597 : decode cL_law 597 = .ok (.iaload, 1) := by decide +kernel
theorem dL_law_598 : decode cL_law 598 = .ok (.aload_n 0, 1) := by decide +kernel
theorem dL_law_599 : decode cL_law 599 = .ok (.iload_n 3, 1) := by decide +kernel
theorem dL_law_600 : decode cL_law 600 = .ok (.iconst 2, 1) := by decide +kernel
theorem dL_law_601 : decode cL_law 601 = .ok (.iadd, 1) := by decide +kernel
theorem dL_law_602 : decode cL_law 602 = .ok (.iaload, 1) := by decide +kernel
theorem dL_law_603 : decode cL_law 603 = .ok (.invokevirtual 78, 3) := by decide +kernel
theorem dL_law_606 : decode cL_law 606 = .ok (.aload_n 2, 1) := by decide +kernel
theorem dL_law_607 : decode cL_law 607 = .ok (.aload_n 0, 1) := by decide +kernel
theorem dL_law_608 : decode cL_law 608 = .ok (.iload_n 3, 1) := by decide +kernel
theorem dL_law_609 : decode cL_law 609 = .ok (.iconst 1, 1) := by decide +kernel
theorem dL_law_610 : decode cL_law 610 = .ok (.iadd, 1) := by decide +kernel
theorem dL_law_611 : decode cL_law 611 = .ok (.iaload, 1) := by decide +kernel
theorem dL_law_612 : decode cL_law 612 = .ok (.aload_n 0, 1) := by decide +kernel
theorem dL_law_613 : decode cL_law 613 = .ok (.iload_n 3, 1) := by decide +kernel
theorem dL_law_614 : decode cL_law 614 = .ok (.iconst 2, 1) := by decide +kernel
theorem dL_law_615 : decode cL_law 615 = .ok (.iadd, 1) := by decide +kernel
theorem dL_law_616 : decode cL_law 616 = .ok (.iaload, 1) := by decide +kernel
theorem dL_law_617 : decode cL_law 617 = .ok (.invokevirtual 81, 3) := by decide +kernel
theorem dL_law_620 : decode cL_law 620 = .ok (.if_icmp .eq 323, 3) := by decide +kernel
theorem dL_law_623 : decode cL_law 623 = .ok (.iconst 0, 1) := by decide +kernel
theorem dL_law_624 : decode cL_law 624 = .ok (.ireturn, 1) := by decide +kernel
theorem dL_law_625 : decode cL_law 625 = .ok (.aload_n 1, 1) := by decide +kernel
theorem dL_law_626 : decode cL_law 626 = .ok (.aload_n 0, 1) := by decide +kernel
theorem dL_law_627 : decode cL_law 627 = .ok (.iload_n 3, 1) := by decide +kernel
theorem dL_law_628 : decode cL_law 628 = .ok (.iconst 1, 1) := by decide +kernel
theorem dL_law_629 : decode cL_law 629 = .ok (.iadd, 1) := by decide +kernel
theorem dL_law_630 : decode cL_law 630 = .ok (.iaload, 1) := by decide +kernel
theorem dL_law_631 : decode cL_law 631 = .ok (.invokevirtual 82, 3) := by decide +kernel
theorem dL_law_634 : decode cL_law 634 = .ok (.aload_n 2, 1) := by decide +kernel
theorem dL_law_635 : decode cL_law 635 = .ok (.aload_n 0, 1) := by decide +kernel
theorem dL_law_636 : decode cL_law 636 = .ok (.iload_n 3, 1) := by decide +kernel
theorem dL_law_637 : decode cL_law 637 = .ok (.iconst 1, 1) := by decide +kernel
theorem dL_law_638 : decode cL_law 638 = .ok (.iadd, 1) := by decide +kernel
theorem dL_law_639 : decode cL_law 639 = .ok (.iaload, 1) := by decide +kernel
theorem dL_law_640 : decode cL_law 640 = .ok (.invokevirtual 85, 3) := by decide +kernel
theorem dL_law_643 : decode cL_law 643 = .ok (.if_icmp .eq 300, 3) := by decide +kernel
theorem dL_law_646 : decode cL_law 646 = .ok (.iconst 0, 1) := by decide +kernel
theorem dL_law_647 : decode cL_law 647 = .ok (.ireturn, 1) := by decide +kernel
theorem dL_law_648 : decode cL_law 648 = .ok (.aload_n 1, 1) := by decide +kernel
theorem dL_law_649 : decode cL_law 649 = .ok (.aload_n 0, 1) := by decide +kernel
theorem dL_law_650 : decode cL_law 650 = .ok (.iload_n 3, 1) := by decide +kernel
theorem dL_law_651 : decode cL_law 651 = .ok (.iconst 1, 1) := by decide +kernel
theorem dL_law_652 : decode cL_law 652 = .ok (.iadd, 1) := by decide +kernel
theorem dL_law_653 : decode cL_law 653 = .ok (.iaload, 1) := by decide +kernel
theorem dL_law_654 : decode cL_law 654 = .ok (.invokevirtual 86, 3) := by decide +kernel
theorem dL_law_657 : decode cL_law 657 = .ok (.aload_n 2, 1) := by decide +kernel
theorem dL_law_658 : decode cL_law 658 = .ok (.aload_n 0, 1) := by decide +kernel
theorem dL_law_659 : decode cL_law 659 = .ok (.iload_n 3, 1) := by decide +kernel
theorem dL_law_660 : decode cL_law 660 = .ok (.iconst 1, 1) := by decide +kernel
theorem dL_law_661 : decode cL_law 661 = .ok (.iadd, 1) := by decide +kernel
theorem dL_law_662 : decode cL_law 662 = .ok (.iaload, 1) := by decide +kernel
theorem dL_law_663 : decode cL_law 663 = .ok (.invokevirtual 89, 3) := by decide +kernel
theorem dL_law_666 : decode cL_law 666 = .ok (.if_icmp .eq 277, 3) := by decide +kernel
theorem dL_law_669 : decode cL_law 669 = .ok (.iconst 0, 1) := by decide +kernel
theorem dL_law_670 : decode cL_law 670 = .ok (.ireturn, 1) := by decide +kernel
theorem dL_law_671 : decode cL_law 671 = .ok (.aload_n 1, 1) := by decide +kernel
theorem dL_law_672 : decode cL_law 672 = .ok (.aload_n 0, 1) := by decide +kernel
theorem dL_law_673 : decode cL_law 673 = .ok (.iload_n 3, 1) := by decide +kernel
theorem dL_law_674 : decode cL_law 674 = .ok (.iconst 1, 1) := by decide +kernel
theorem dL_law_675 : decode cL_law 675 = .ok (.iadd, 1) := by decide +kernel
theorem dL_law_676 : decode cL_law 676 = .ok (.iaload, 1) := by decide +kernel
theorem dL_law_677 : decode cL_law 677 = .ok (.aload_n 0, 1) := by decide +kernel
theorem dL_law_678 : decode cL_law 678 = .ok (.iload_n 3, 1) := by decide +kernel
theorem dL_law_679 : decode cL_law 679 = .ok (.iconst 2, 1) := by decide +kernel
theorem dL_law_680 : decode cL_law 680 = .ok (.iadd, 1) := by decide +kernel
theorem dL_law_681 : decode cL_law 681 = .ok (.iaload, 1) := by decide +kernel
theorem dL_law_682 : decode cL_law 682 = .ok (.aload_n 0, 1) := by decide +kernel
theorem dL_law_683 : decode cL_law 683 = .ok (.iload_n 3, 1) := by decide +kernel
theorem dL_law_684 : decode cL_law 684 = .ok (.iconst 3, 1) := by decide +kernel
theorem dL_law_685 : decode cL_law 685 = .ok (.iadd, 1) := by decide +kernel
theorem dL_law_686 : decode cL_law 686 = .ok (.iaload, 1) := by decide +kernel
theorem dL_law_687 : decode cL_law 687 = .ok (.invokevirtual 90, 3) := by decide +kernel
theorem dL_law_690 : decode cL_law 690 = .ok (.aload_n 2, 1) := by decide +kernel
theorem dL_law_691 : decode cL_law 691 = .ok (.aload_n 0, 1) := by decide +kernel
theorem dL_law_692 : decode cL_law 692 = .ok (.iload_n 3, 1) := by decide +kernel
theorem dL_law_693 : decode cL_law 693 = .ok (.iconst 1, 1) := by decide +kernel
theorem dL_law_694 : decode cL_law 694 = .ok (.iadd, 1) := by decide +kernel
theorem dL_law_695 : decode cL_law 695 = .ok (.iaload, 1) := by decide +kernel
theorem dL_law_696 : decode cL_law 696 = .ok (.aload_n 0, 1) := by decide +kernel
theorem dL_law_697 : decode cL_law 697 = .ok (.iload_n 3, 1) := by decide +kernel
theorem dL_law_698 : decode cL_law 698 = .ok (.iconst 2, 1) := by decide +kernel
theorem dL_law_699 : decode cL_law 699 = .ok (.iadd, 1) := by decide +kernel
theorem dL_law_700 : decode cL_law 700 = .ok (.iaload, 1) := by decide +kernel
theorem dL_law_701 : decode cL_law 701 = .ok (.aload_n 0, 1) := by decide +kernel
theorem dL_law_702 : decode cL_law 702 = .ok (.iload_n 3, 1) := by decide +kernel
theorem dL_law_703 : decode cL_law 703 = .ok (.iconst 3, 1) := by decide +kernel
theorem dL_law_704 : decode cL_law 704 = .ok (.iadd, 1) := by decide +kernel
theorem dL_law_705 : decode cL_law 705 = .ok (.iaload, 1) := by decide +kernel
theorem dL_law_706 : decode cL_law 706 = .ok (.invokevirtual 94, 3) := by decide +kernel
theorem dL_law_709 : decode cL_law 709 = .ok (.lcmp, 1) := by decide +kernel
theorem dL_law_710 : decode cL_law 710 = .ok (.ifCond .eq 233, 3) := by decide +kernel
theorem dL_law_713 : decode cL_law 713 = .ok (.iconst 0, 1) := by decide +kernel
theorem dL_law_714 : decode cL_law 714 = .ok (.ireturn, 1) := by decide +kernel
theorem dL_law_715 : decode cL_law 715 = .ok (.aload_n 1, 1) := by decide +kernel
theorem dL_law_716 : decode cL_law 716 = .ok (.aload_n 0, 1) := by decide +kernel
theorem dL_law_717 : decode cL_law 717 = .ok (.iload_n 3, 1) := by decide +kernel
theorem dL_law_718 : decode cL_law 718 = .ok (.iconst 1, 1) := by decide +kernel
theorem dL_law_719 : decode cL_law 719 = .ok (.iadd, 1) := by decide +kernel
theorem dL_law_720 : decode cL_law 720 = .ok (.iaload, 1) := by decide +kernel
theorem dL_law_721 : decode cL_law 721 = .ok (.aload_n 0, 1) := by decide +kernel
theorem dL_law_722 : decode cL_law 722 = .ok (.iload_n 3, 1) := by decide +kernel
theorem dL_law_723 : decode cL_law 723 = .ok (.iconst 2, 1) := by decide +kernel
theorem dL_law_724 : decode cL_law 724 = .ok (.iadd, 1) := by decide +kernel
theorem dL_law_725 : decode cL_law 725 = .ok (.iaload, 1) := by decide +kernel
theorem dL_law_726 : decode cL_law 726 = .ok (.invokevirtual 95, 3) := by decide +kernel
theorem dL_law_729 : decode cL_law 729 = .ok (.aload_n 2, 1) := by decide +kernel
theorem dL_law_730 : decode cL_law 730 = .ok (.aload_n 0, 1) := by decide +kernel
theorem dL_law_731 : decode cL_law 731 = .ok (.iload_n 3, 1) := by decide +kernel
theorem dL_law_732 : decode cL_law 732 = .ok (.iconst 1, 1) := by decide +kernel
theorem dL_law_733 : decode cL_law 733 = .ok (.iadd, 1) := by decide +kernel
theorem dL_law_734 : decode cL_law 734 = .ok (.iaload, 1) := by decide +kernel
theorem dL_law_735 : decode cL_law 735 = .ok (.aload_n 0, 1) := by decide +kernel
theorem dL_law_736 : decode cL_law 736 = .ok (.iload_n 3, 1) := by decide +kernel
theorem dL_law_737 : decode cL_law 737 = .ok (.iconst 2, 1) := by decide +kernel
theorem dL_law_738 : decode cL_law 738 = .ok (.iadd, 1) := by decide +kernel
theorem dL_law_739 : decode cL_law 739 = .ok (.iaload, 1) := by decide +kernel
theorem dL_law_740 : decode cL_law 740 = .ok (.invokevirtual 99, 3) := by decide +kernel
theorem dL_law_743 : decode cL_law 743 = .ok (.lcmp, 1) := by decide +kernel
theorem dL_law_744 : decode cL_law 744 = .ok (.ifCond .eq 199, 3) := by decide +kernel
theorem dL_law_747 : decode cL_law 747 = .ok (.iconst 0, 1) := by decide +kernel
theorem dL_law_748 : decode cL_law 748 = .ok (.ireturn, 1) := by decide +kernel
theorem dL_law_749 : decode cL_law 749 = .ok (.aload_n 1, 1) := by decide +kernel
theorem dL_law_750 : decode cL_law 750 = .ok (.aload_n 0, 1) := by decide +kernel
theorem dL_law_751 : decode cL_law 751 = .ok (.iload_n 3, 1) := by decide +kernel
theorem dL_law_752 : decode cL_law 752 = .ok (.iconst 1, 1) := by decide +kernel
theorem dL_law_753 : decode cL_law 753 = .ok (.iadd, 1) := by decide +kernel
theorem dL_law_754 : decode cL_law 754 = .ok (.iaload, 1) := by decide +kernel
theorem dL_law_755 : decode cL_law 755 = .ok (.aload_n 0, 1) := by decide +kernel
theorem dL_law_756 : decode cL_law 756 = .ok (.iload_n 3, 1) := by decide +kernel
theorem dL_law_757 : decode cL_law 757 = .ok (.iconst 2, 1) := by decide +kernel
theorem dL_law_758 : decode cL_law 758 = .ok (.iadd, 1) := by decide +kernel
theorem dL_law_759 : decode cL_law 759 = .ok (.iaload, 1) := by decide +kernel
theorem dL_law_760 : decode cL_law 760 = .ok (.invokevirtual 100, 3) := by decide +kernel
theorem dL_law_763 : decode cL_law 763 = .ok (.aload_n 2, 1) := by decide +kernel
theorem dL_law_764 : decode cL_law 764 = .ok (.aload_n 0, 1) := by decide +kernel
theorem dL_law_765 : decode cL_law 765 = .ok (.iload_n 3, 1) := by decide +kernel
theorem dL_law_766 : decode cL_law 766 = .ok (.iconst 1, 1) := by decide +kernel
theorem dL_law_767 : decode cL_law 767 = .ok (.iadd, 1) := by decide +kernel
theorem dL_law_768 : decode cL_law 768 = .ok (.iaload, 1) := by decide +kernel
theorem dL_law_769 : decode cL_law 769 = .ok (.aload_n 0, 1) := by decide +kernel
theorem dL_law_770 : decode cL_law 770 = .ok (.iload_n 3, 1) := by decide +kernel
theorem dL_law_771 : decode cL_law 771 = .ok (.iconst 2, 1) := by decide +kernel
theorem dL_law_772 : decode cL_law 772 = .ok (.iadd, 1) := by decide +kernel
theorem dL_law_773 : decode cL_law 773 = .ok (.iaload, 1) := by decide +kernel
theorem dL_law_774 : decode cL_law 774 = .ok (.invokevirtual 103, 3) := by decide +kernel
theorem dL_law_777 : decode cL_law 777 = .ok (.if_icmp .eq 166, 3) := by decide +kernel
theorem dL_law_780 : decode cL_law 780 = .ok (.iconst 0, 1) := by decide +kernel
theorem dL_law_781 : decode cL_law 781 = .ok (.ireturn, 1) := by decide +kernel
theorem dL_law_782 : decode cL_law 782 = .ok (.aload_n 1, 1) := by decide +kernel
theorem dL_law_783 : decode cL_law 783 = .ok (.invokevirtual 104, 3) := by decide +kernel
theorem dL_law_786 : decode cL_law 786 = .ok (.aload_n 2, 1) := by decide +kernel
theorem dL_law_787 : decode cL_law 787 = .ok (.invokevirtual 107, 3) := by decide +kernel
theorem dL_law_790 : decode cL_law 790 = .ok (.if_icmp .eq 153, 3) := by decide +kernel
theorem dL_law_793 : decode cL_law 793 = .ok (.iconst 0, 1) := by decide +kernel
theorem dL_law_794 : decode cL_law 794 = .ok (.ireturn, 1) := by decide +kernel
theorem dL_law_795 : decode cL_law 795 = .ok (.aload_n 1, 1) := by decide +kernel
theorem dL_law_796 : decode cL_law 796 = .ok (.aload_n 0, 1) := by decide +kernel
theorem dL_law_797 : decode cL_law 797 = .ok (.iload_n 3, 1) := by decide +kernel
theorem dL_law_798 : decode cL_law 798 = .ok (.iconst 1, 1) := by decide +kernel
theorem dL_law_799 : decode cL_law 799 = .ok (.iadd, 1) := by decide +kernel
theorem dL_law_800 : decode cL_law 800 = .ok (.iaload, 1) := by decide +kernel
theorem dL_law_801 : decode cL_law 801 = .ok (.aload_n 0, 1) := by decide +kernel
theorem dL_law_802 : decode cL_law 802 = .ok (.iload_n 3, 1) := by decide +kernel
theorem dL_law_803 : decode cL_law 803 = .ok (.iconst 2, 1) := by decide +kernel
theorem dL_law_804 : decode cL_law 804 = .ok (.iadd, 1) := by decide +kernel
theorem dL_law_805 : decode cL_law 805 = .ok (.iaload, 1) := by decide +kernel
theorem dL_law_806 : decode cL_law 806 = .ok (.aload_n 0, 1) := by decide +kernel
theorem dL_law_807 : decode cL_law 807 = .ok (.iload_n 3, 1) := by decide +kernel
theorem dL_law_808 : decode cL_law 808 = .ok (.iconst 3, 1) := by decide +kernel
theorem dL_law_809 : decode cL_law 809 = .ok (.iadd, 1) := by decide +kernel
theorem dL_law_810 : decode cL_law 810 = .ok (.iaload, 1) := by decide +kernel
theorem dL_law_811 : decode cL_law 811 = .ok (.invokevirtual 108, 3) := by decide +kernel
theorem dL_law_814 : decode cL_law 814 = .ok (.aload_n 2, 1) := by decide +kernel
theorem dL_law_815 : decode cL_law 815 = .ok (.aload_n 0, 1) := by decide +kernel
theorem dL_law_816 : decode cL_law 816 = .ok (.iload_n 3, 1) := by decide +kernel
theorem dL_law_817 : decode cL_law 817 = .ok (.iconst 1, 1) := by decide +kernel
theorem dL_law_818 : decode cL_law 818 = .ok (.iadd, 1) := by decide +kernel
theorem dL_law_819 : decode cL_law 819 = .ok (.iaload, 1) := by decide +kernel
theorem dL_law_820 : decode cL_law 820 = .ok (.aload_n 0, 1) := by decide +kernel
theorem dL_law_821 : decode cL_law 821 = .ok (.iload_n 3, 1) := by decide +kernel
theorem dL_law_822 : decode cL_law 822 = .ok (.iconst 2, 1) := by decide +kernel
theorem dL_law_823 : decode cL_law 823 = .ok (.iadd, 1) := by decide +kernel
theorem dL_law_824 : decode cL_law 824 = .ok (.iaload, 1) := by decide +kernel
theorem dL_law_825 : decode cL_law 825 = .ok (.aload_n 0, 1) := by decide +kernel
theorem dL_law_826 : decode cL_law 826 = .ok (.iload_n 3, 1) := by decide +kernel
theorem dL_law_827 : decode cL_law 827 = .ok (.iconst 3, 1) := by decide +kernel
theorem dL_law_828 : decode cL_law 828 = .ok (.iadd, 1) := by decide +kernel
theorem dL_law_829 : decode cL_law 829 = .ok (.iaload, 1) := by decide +kernel
theorem dL_law_830 : decode cL_law 830 = .ok (.invokevirtual 112, 3) := by decide +kernel
theorem dL_law_833 : decode cL_law 833 = .ok (.if_icmp .eq 110, 3) := by decide +kernel
theorem dL_law_836 : decode cL_law 836 = .ok (.iconst 0, 1) := by decide +kernel
theorem dL_law_837 : decode cL_law 837 = .ok (.ireturn, 1) := by decide +kernel
theorem dL_law_838 : decode cL_law 838 = .ok (.aload_n 1, 1) := by decide +kernel
theorem dL_law_839 : decode cL_law 839 = .ok (.aload_n 0, 1) := by decide +kernel
theorem dL_law_840 : decode cL_law 840 = .ok (.iload_n 3, 1) := by decide +kernel
theorem dL_law_841 : decode cL_law 841 = .ok (.iconst 1, 1) := by decide +kernel
theorem dL_law_842 : decode cL_law 842 = .ok (.iadd, 1) := by decide +kernel
theorem dL_law_843 : decode cL_law 843 = .ok (.iaload, 1) := by decide +kernel
theorem dL_law_844 : decode cL_law 844 = .ok (.invokevirtual 113, 3) := by decide +kernel
theorem dL_law_847 : decode cL_law 847 = .ok (.aload_n 2, 1) := by decide +kernel
theorem dL_law_848 : decode cL_law 848 = .ok (.aload_n 0, 1) := by decide +kernel
theorem dL_law_849 : decode cL_law 849 = .ok (.iload_n 3, 1) := by decide +kernel
theorem dL_law_850 : decode cL_law 850 = .ok (.iconst 1, 1) := by decide +kernel
theorem dL_law_851 : decode cL_law 851 = .ok (.iadd, 1) := by decide +kernel
theorem dL_law_852 : decode cL_law 852 = .ok (.iaload, 1) := by decide +kernel
theorem dL_law_853 : decode cL_law 853 = .ok (.invokevirtual 116, 3) := by decide +kernel
theorem dL_law_856 : decode cL_law 856 = .ok (.if_icmp .eq 87, 3) := by decide +kernel
theorem dL_law_859 : decode cL_law 859 = .ok (.iconst 0, 1) := by decide +kernel
theorem dL_law_860 : decode cL_law 860 = .ok (.ireturn, 1) := by decide +kernel
theorem dL_law_861 : decode cL_law 861 = .ok (.aload_n 1, 1) := by decide +kernel
theorem dL_law_862 : decode cL_law 862 = .ok (.aload_n 0, 1) := by decide +kernel
theorem dL_law_863 : decode cL_law 863 = .ok (.iload_n 3, 1) := by decide +kernel
theorem dL_law_864 : decode cL_law 864 = .ok (.iconst 1, 1) := by decide +kernel
theorem dL_law_865 : decode cL_law 865 = .ok (.iadd, 1) := by decide +kernel
theorem dL_law_866 : decode cL_law 866 = .ok (.iaload, 1) := by decide +kernel
theorem dL_law_867 : decode cL_law 867 = .ok (.aload_n 0, 1) := by decide +kernel
theorem dL_law_868 : decode cL_law 868 = .ok (.iload_n 3, 1) := by decide +kernel
theorem dL_law_869 : decode cL_law 869 = .ok (.iconst 2, 1) := by decide +kernel
theorem dL_law_870 : decode cL_law 870 = .ok (.iadd, 1) := by decide +kernel
theorem dL_law_871 : decode cL_law 871 = .ok (.iaload, 1) := by decide +kernel
theorem dL_law_872 : decode cL_law 872 = .ok (.invokevirtual 117, 3) := by decide +kernel
theorem dL_law_875 : decode cL_law 875 = .ok (.aload_n 2, 1) := by decide +kernel
theorem dL_law_876 : decode cL_law 876 = .ok (.aload_n 0, 1) := by decide +kernel
theorem dL_law_877 : decode cL_law 877 = .ok (.iload_n 3, 1) := by decide +kernel
theorem dL_law_878 : decode cL_law 878 = .ok (.iconst 1, 1) := by decide +kernel
theorem dL_law_879 : decode cL_law 879 = .ok (.iadd, 1) := by decide +kernel
theorem dL_law_880 : decode cL_law 880 = .ok (.iaload, 1) := by decide +kernel
theorem dL_law_881 : decode cL_law 881 = .ok (.aload_n 0, 1) := by decide +kernel
theorem dL_law_882 : decode cL_law 882 = .ok (.iload_n 3, 1) := by decide +kernel
theorem dL_law_883 : decode cL_law 883 = .ok (.iconst 2, 1) := by decide +kernel
theorem dL_law_884 : decode cL_law 884 = .ok (.iadd, 1) := by decide +kernel
theorem dL_law_885 : decode cL_law 885 = .ok (.iaload, 1) := by decide +kernel
theorem dL_law_886 : decode cL_law 886 = .ok (.invokevirtual 120, 3) := by decide +kernel
theorem dL_law_889 : decode cL_law 889 = .ok (.if_icmp .eq 54, 3) := by decide +kernel
theorem dL_law_892 : decode cL_law 892 = .ok (.iconst 0, 1) := by decide +kernel
theorem dL_law_893 : decode cL_law 893 = .ok (.ireturn, 1) := by decide +kernel
theorem dL_law_894 : decode cL_law 894 = .ok (.aload_n 1, 1) := by decide +kernel
theorem dL_law_895 : decode cL_law 895 = .ok (.invokevirtual 121, 3) := by decide +kernel
theorem dL_law_898 : decode cL_law 898 = .ok (.aload_n 2, 1) := by decide +kernel
theorem dL_law_899 : decode cL_law 899 = .ok (.invokevirtual 124, 3) := by decide +kernel
theorem dL_law_902 : decode cL_law 902 = .ok (.if_icmp .eq 41, 3) := by decide +kernel
theorem dL_law_905 : decode cL_law 905 = .ok (.iconst 0, 1) := by decide +kernel
theorem dL_law_906 : decode cL_law 906 = .ok (.ireturn, 1) := by decide +kernel
theorem dL_law_907 : decode cL_law 907 = .ok (.aload_n 1, 1) := by decide +kernel
theorem dL_law_908 : decode cL_law 908 = .ok (.invokevirtual 125, 3) := by decide +kernel
theorem dL_law_911 : decode cL_law 911 = .ok (.aload_n 2, 1) := by decide +kernel
theorem dL_law_912 : decode cL_law 912 = .ok (.invokevirtual 128, 3) := by decide +kernel
theorem dL_law_915 : decode cL_law 915 = .ok (.if_icmp .eq 28, 3) := by decide +kernel
theorem dL_law_918 : decode cL_law 918 = .ok (.iconst 0, 1) := by decide +kernel
theorem dL_law_919 : decode cL_law 919 = .ok (.ireturn, 1) := by decide +kernel
theorem dL_law_920 : decode cL_law 920 = .ok (.aload_n 1, 1) := by decide +kernel
theorem dL_law_921 : decode cL_law 921 = .ok (.aload_n 0, 1) := by decide +kernel
theorem dL_law_922 : decode cL_law 922 = .ok (.iload_n 3, 1) := by decide +kernel
theorem dL_law_923 : decode cL_law 923 = .ok (.iconst 1, 1) := by decide +kernel
theorem dL_law_924 : decode cL_law 924 = .ok (.iadd, 1) := by decide +kernel
theorem dL_law_925 : decode cL_law 925 = .ok (.iaload, 1) := by decide +kernel
theorem dL_law_926 : decode cL_law 926 = .ok (.invokevirtual 129, 3) := by decide +kernel
theorem dL_law_929 : decode cL_law 929 = .ok (.aload_n 2, 1) := by decide +kernel
theorem dL_law_930 : decode cL_law 930 = .ok (.aload_n 0, 1) := by decide +kernel
theorem dL_law_931 : decode cL_law 931 = .ok (.iload_n 3, 1) := by decide +kernel
theorem dL_law_932 : decode cL_law 932 = .ok (.iconst 1, 1) := by decide +kernel
theorem dL_law_933 : decode cL_law 933 = .ok (.iadd, 1) := by decide +kernel
theorem dL_law_934 : decode cL_law 934 = .ok (.iaload, 1) := by decide +kernel
theorem dL_law_935 : decode cL_law 935 = .ok (.invokevirtual 132, 3) := by decide +kernel
theorem dL_law_938 : decode cL_law 938 = .ok (.if_icmp .eq 5, 3) := by decide +kernel
theorem dL_law_941 : decode cL_law 941 = .ok (.iconst 0, 1) := by decide +kernel
theorem dL_law_942 : decode cL_law 942 = .ok (.ireturn, 1) := by decide +kernel
theorem dL_law_943 : decode cL_law 943 = .ok (.iinc 3 4, 3) := by decide +kernel
theorem dL_law_946 : decode cL_law 946 = .ok (.goto (-928), 3) := by decide +kernel
theorem dL_law_949 : decode cL_law 949 = .ok (.iconst 1, 1) := by decide +kernel
theorem dL_law_950 : decode cL_law 950 = .ok (.ireturn, 1) := by decide +kernel
end
section
/-! The frame of all that follows: a world is n cells at addresses q 0 .. q (n-1), what a cell holds is said by 'ent' out of a row of numbers. -/
abbrev MM : Type := Nat → Nat → Int32
def jw (n : Nat) (q : Nat → Nat) (ent : Nat → (Nat → Int32) → va_E) (u : MM) : va_W := (List.range n).map (fun k => (q k, ent k (u k)))
def up (u : MM) (k j : Nat) (x : Int32) : MM := fun a b => if a = k then (if b = j then x else u k b) else u a b
/-- a row of a cell is another one -/
def upR (u : MM) (k : Nat) (f : Nat → Int32) : MM := fun a b => if a = k then f b else u a b
theorem up_R (u : MM) (k j : Nat) (x : Int32) : up u k j x = upR u k (fun b => if b = j then x else u k b) := rfl
theorem jw_at {n : Nat} {q : Nat → Nat} {ent : Nat → (Nat → Int32) → va_E} {u : MM} {k : Nat} (hk : k < n) : (jw n q ent u)[k]? = some (q k, ent k (u k)) := by
  simp [jw, hk]
theorem jw_in {n : Nat} {q : Nat → Nat} {ent : Nat → (Nat → Int32) → va_E} {u : MM} {k : Nat} {x : Nat × va_E} (h : (jw n q ent u)[k]? = some x) : k < n ∧ x = (q k, ent k (u k)) := by
  by_cases hk : k < n
  · rw [jw_at hk] at h; exact ⟨hk, (Option.some.inj h).symm⟩
  · simp [jw, hk] at h
theorem jw_len (n : Nat) (q : Nat → Nat) (ent : Nat → (Nat → Int32) → va_E) (u : MM) : (jw n q ent u).length = n := by simp [jw]
theorem jw_setR {n : Nat} {q : Nat → Nat} {ent : Nat → (Nat → Int32) → va_E} {u : MM} {k : Nat} {f : Nat → Int32} {e : va_E} (he : ent k f = e) : (jw n q ent u).set k (q k, e) = jw n q ent (upR u k f) := by
  apply List.ext_getElem?
  intro i
  rw [List.getElem?_set]
  by_cases hi : i < n
  · by_cases hik : k = i
    · subst hik
      rw [if_pos rfl, jw_len, if_pos hi, jw_at hi, ← he]
      have : upR u k f k = f := by funext b; simp [upR]
      rw [this]
    · rw [if_neg hik, jw_at hi, jw_at hi]
      have : upR u k f i = u i := by funext b; simp [upR, Ne.symm hik]
      rw [this]
  · have h1 : (jw n q ent (upR u k f))[i]? = none := List.getElem?_eq_none (by rw [jw_len]; omega)
    rw [h1]
    by_cases hik : k = i
    · subst hik
      rw [if_pos rfl, jw_len, if_neg hi]
    · rw [if_neg hik]
      exact List.getElem?_eq_none (by rw [jw_len]; omega)
theorem jw_D {A : Nat → Prop} {n : Nat} {q : Nat → Nat} {ent : Nat → (Nat → Int32) → va_E} {u : MM} (u' : MM) (h : va_D A (jw n q ent u)) : va_D A (jw n q ent u') := by
  refine ⟨fun i j x y hx hy hxy => ?_, fun k x hx => ?_⟩
  · obtain ⟨hi, rfl⟩ := jw_in hx
    obtain ⟨hj, rfl⟩ := jw_in hy
    exact h.1 i j _ _ (jw_at hi) (jw_at hj) hxy
  · obtain ⟨hk, rfl⟩ := jw_in hx
    exact h.2 k (q k, ent k (u k)) (jw_at hk)
/-- the cells of a world, and all that is new -/
def AJ (n : Nat) (q : Nat → Nat) (sz : Nat) : Nat → Prop := fun a => (∃ k, k < n ∧ a = q k) ∨ sz ≤ a
theorem jw_AJ {A : Nat → Prop} {n : Nat} {q : Nat → Nat} {ent : Nat → (Nat → Int32) → va_E} {u : MM} (sz : Nat) (h : va_D A (jw n q ent u)) : va_D (AJ n q sz) (jw n q ent u) := by
  refine ⟨h.1, fun k x hx => ?_⟩
  obtain ⟨hk, rfl⟩ := jw_in hx
  exact Or.inl ⟨k, hk, rfl⟩
theorem jw_free {A : Nat → Prop} {n : Nat} {q : Nat → Nat} {ent : Nat → (Nat → Int32) → va_E} {u : MM} {H0 H : Heap} {locs : List Loc} (hD : va_D A (jw n q ent u)) (hS : va_S A H0 H locs) (hA : ∀ q, H0.size ≤ q → A q) : ∀ a, AJ n q H.size a → A a := by
  intro a h
  rcases h with ⟨k, hk, rfl⟩ | h
  · exact hD.2 k _ (jw_at hk)
  · exact hA a (Nat.le_trans hS.1 h)
/-! What holds everywhere: the tables' words, the table of kinds, the texts -/
def gw (w : Cond) : Bool := goodWord w || (match w with | .fieldLinkNest _ _ _ _ _ _ => true | .methodLinkNest _ _ _ _ => true | _ => false)
def EW (U : State) : Prop := ∀ w ∈ lw_tbl, gw w = true → w.before #[] U = true
def kab : Nat → Int32 := fun j => if j = 0 then -1 else if j = 4 then 1 else if j = 5 then 2 else if j = 6 then 3 else 0
def lenJ : List Nat := [5, 5, 6, 4, 5, 3, 4, 5]
def bytJ : List (List Int32) := [[115, 104, 117, 110, 32], [102, 105, 110, 101, 32], [102, 101, 119, 101, 114, 32], [108, 97, 119, 32], [112, 111, 107, 110, 100], [60, 61, 62], [105, 110, 101, 32], [101, 119, 101, 114, 32]]
def siJ : List (String × Nat × String × Nat) := [(RX3, 74, "shun ", 0), (RX3, 89, "fewer ", 2), (RX3, 84, "fine ", 1), (RX3, 94, "law ", 3), (RX11, 119, "shun ", 0), (RX11, 93, "poknd", 4), (RX11, 99, "<=>", 5), (RX11, 111, "ine ", 6), (RX11, 113, "ewer ", 7), (RX11, 124, "law ", 3)]
def EK (ad : Nat → Nat) (A : Nat → Prop) (U : State) : Prop := va_Z "OneFewer" "KIND_ABOVE" "[I" (.ref (ad 0)) A U U.heap ∧ va_T .int (ad 0) 7 (fun j => .int (kab j)) A U U.heap
def EX (ad : Nat → Nat) (A : Nat → Prop) (U : State) : Prop := vk_S 8 lenJ bytJ (fun i => ad (10 + i)) (fun i => ad (30 + i)) A U U.heap ∧ (∀ x ∈ siJ, vk_R x.1 x.2.1 x.2.2.1 (ad (10 + x.2.2.2)) U) ∧ va_Z "java/lang/String" "COMPACT_STRINGS" "Z" (.int 1) A U U.heap ∧ va_Zq "jdk/internal/util/Preconditions" "SIOOBE_FORMATTER" "Ljava/util/function/BiFunction;" A U U.heap
def EV (ad : Nat → Nat) (A : Nat → Prop) (U : State) : Prop := EW U ∧ EK ad A U ∧ EX ad A U
theorem gw_or {w : Cond} (h : gw w = true) : ((w.onTables && w.keeps) = true ∨ ∃ ty, w = .arrayClass ty) ∨ (∃ a i b n d h, w = .fieldLinkNest a i b n d h) ∨ ∃ a i x h, w = .methodLinkNest a i x h := by
  unfold gw at h
  rw [Bool.or_eq_true] at h
  rcases h with h | h
  · exact Or.inl (good_of_word h)
  · cases w <;> first | exact Or.inr (Or.inl ⟨_, _, _, _, _, _, rfl⟩) | exact Or.inr (Or.inr ⟨_, _, _, _, rfl⟩) | exact absurd h Bool.false_ne_true
theorem gw_warm {w : Cond} (h : gw w = true) {s U : State} (hW : s.WarmedH U.vm) {A A' : Array Value} (hb : w.before A s = true) : w.before A' U = true := by
  rcases gw_or h with h | ⟨a, i, b, n, d, z, rfl⟩ | ⟨a, i, x, z, rfl⟩
  · exact word_at hW h hb
  · exact va_Nw.use rfl (va_Nw.warmF hW (va_Nw.of rfl hb))
  · exact va_Nw.use rfl (va_Nw.warmM hW (va_Nw.of rfl hb))
theorem EW.warm {s U : State} (hW : s.WarmedH U.vm) (h : EW s) : EW U := fun w hw hg => gw_warm hg hW (h w hw hg)
theorem warm_self (s : State) : s.WarmedH s.vm := ⟨rfl, rfl, fun d k h => ⟨k, h, rfl, rfl, fun _ => Or.inl rfl, Or.inl ⟨rfl, rfl⟩⟩⟩
theorem EW.use {s : State} (h : EW s) {w : Cond} (hw : w ∈ lw_tbl) (hg : gw w = true) (args : Array Value) : w.before args s = true := gw_warm hg (warm_self s) (h w hw hg)
theorem va_O.keptA {E : String} {t : Nat} {A : Nat → Prop} {U : State} {H H1 : Heap} (h : va_O E t A U H) (hq : ∀ a : Nat, a < H.size → ¬ A a → H1[a]? = H[a]?) : va_O E t A U H1 := h.kept hq
/-- what holds everywhere holds at a call, too -/
theorem EV.call {ad : Nat → Nat} {A B : Nat → Prop} {s U : State} {H : Heap} {locs : List Loc} (h : EV ad A s) (hW : s.WarmedH U.vm) (hH : U.heap = H) (hS : va_S A s.heap H locs) (hAB : ∀ q, B q → A q) : EV ad B U := by
  obtain ⟨h1, ⟨h2, h3⟩, h4, h5, h6, h7⟩ := h
  have hq : ∀ a : Nat, a < s.heap.size → ¬ A a → U.heap[a]? = s.heap[a]? := by rw [hH]; exact hS.2.1
  have hv := hW.alike
  exact ⟨h1.warm hW, ⟨((va_Z.moved hv h2).kept hq).narrow hAB, ((va_T.moved hv h3).kept hq).narrow hAB⟩, ((vk_S.moved hv h4).kept hq).narrow hAB, fun x hx => (h5 x hx).warm hW, ((va_Z.moved hv h6).kept hq).narrow hAB, ((va_Zq.moved hv h7).kept hq).narrow hAB⟩
theorem EV.calling {ad : Nat → Nat} {A : Nat → Prop} {U : State} (h : EV ad A U) (g : JFrame) (mk : MethodId) (a : Array Value) : EV ad A (U.calling g mk a) :=
  EV.call (locs := []) h (warm_self U) rfl va_S.rf (fun _ h => h)
/-! The walk of a method over a world -/
def JX (p : Program) (l : Launch) (e : Env) (R : Room) (s : State) (m : MethodId) (args : Array Value) (below : List Frame) (meth : Method) (c : Code) (D : va_G) (A : Nat → Prop) (nL : Nat) (Q : State → Prop) (n : Nat) (q : Nat → Nat) (ent : Nat → (Nat → Int32) → va_E) (u : MM) (pc : Nat) (lv : List (Nat × Value)) (st : List Value) : Prop :=
  ∀ (H : Heap) (locs : List Loc) (ls : Array Slot), va_P D vwCl (jw n q ent u) H → va_D A (jw n q ent u) → va_S A s.heap H locs → lv_has ls nL lv → W p l e R s m args below meth c H locs 0 0 Q (F0 m pc ls st)
def CX (p : Program) (s : State) (m : MethodId) (args : Array Value) (meth : Method) (c : Code) (cc : ByteArray) (nL : Nat) (own : String) (ret : Option FieldType) (D : va_G) (cI cZ : ClassId) (ad : Nat → Nat) (A : Nat → Prop) : Prop :=
  p.tables.exec = Jvm.exec ∧ c.code = cc ∧ c.maxLocals = nL ∧ s.vm.findClass own = some m.cls ∧ meth.sig.returnType = ret ∧ meth.locks = false ∧ va_K D vwCl [(cI, .int), (cZ, .boolean)] s ∧ EV ad A s ∧ ∀ q, s.heap.size ≤ q → A q
/-- a word of the tables, by its place -/
theorem CX.w {p : Program} {s : State} {m : MethodId} {args : Array Value} {meth : Method} {c : Code} {cc : ByteArray} {nL : Nat} {own : String} {ret : Option FieldType} {D : va_G} {cI cZ : ClassId} {ad : Nat → Nat} {A : Nat → Prop} (C : CX p s m args meth c cc nL own ret D cI cZ ad A) {w : Cond} (hw : w ∈ lw_tbl) (hg : gw w = true := by rfl) : w.before args s = true := C.2.2.2.2.2.2.2.1.1.use hw hg args
end
section
section JR
variable {p : Program} {l : Launch} {e : Env} {R : Room} {s : State} {m : MethodId} {args : Array Value} {below : List Frame} {meth : Method} {c : Code} {D : va_G} {A : Nat → Prop} {nL : Nat} {Q : State → Prop} {n : Nat} {q : Nat → Nat} {ent : Nat → (Nat → Int32) → va_E} {u : MM} {pc : Nat} {lv : List (Nat × Value)} {st : List Value} {cc : ByteArray} {own : String} {ret : Option FieldType} {cI cZ : ClassId} {ad : Nat → Nat}

theorem j_iconst (C : CX p s m args meth c cc nL own ret D cI cZ ad A) {k : Int} {v : Int32} (hd : decode cc pc = .ok (.iconst k, 1)) (hv : Int32.ofInt k = v) (kk : JX p l e R s m args below meth c D A nL Q n q ent u (pc + 1) lv (.int v :: st)) : JX p l e R s m args below meth c D A nL Q n q ent u pc lv st :=
  fun H locs ls hP hD hS hl => lv_iconst C.1 C.2.1 hd hv (kk H locs ls hP hD hS hl)

theorem j_bipush (C : CX p s m args meth c cc nL own ret D cI cZ ad A) {k : Int} {v : Int32} (hd : decode cc pc = .ok (.bipush k, 2)) (hv : (Int8.ofInt k).toInt32 = v) (kk : JX p l e R s m args below meth c D A nL Q n q ent u (pc + 2) lv (.int v :: st)) : JX p l e R s m args below meth c D A nL Q n q ent u pc lv st :=
  fun H locs ls hP hD hS hl => lv_bipush C.1 C.2.1 hd hv (kk H locs ls hP hD hS hl)

theorem j_sipush (C : CX p s m args meth c cc nL own ret D cI cZ ad A) {k : Int} {v : Int32} (hd : decode cc pc = .ok (.sipush k, 3)) (hv : (Int16.ofInt k).toInt32 = v) (kk : JX p l e R s m args below meth c D A nL Q n q ent u (pc + 3) lv (.int v :: st)) : JX p l e R s m args below meth c D A nL Q n q ent u pc lv st :=
  fun H locs ls hP hD hS hl => lv_sipush C.1 C.2.1 hd hv (kk H locs ls hP hD hS hl)

theorem j_lconst (C : CX p s m args meth c cc nL own ret D cI cZ ad A) {k : Fin 2} {v : Int64} (hd : decode cc pc = .ok (.lconst k, 1)) (hv : Int64.ofNat (k : Nat) = v) (kk : JX p l e R s m args below meth c D A nL Q n q ent u (pc + 1) lv (.long v :: st)) : JX p l e R s m args below meth c D A nL Q n q ent u pc lv st :=
  fun H locs ls hP hD hS hl => lv_lconst C.1 C.2.1 hd hv (kk H locs ls hP hD hS hl)

theorem j_ldc (C : CX p s m args meth c cc nL own ret D cI cZ ad A) {i : Nat} (v : Int32) (hw : Cond.constant own i v ∈ lw_tbl) (hd : decode cc pc = .ok (.ldc i, 2)) (kk : JX p l e R s m args below meth c D A nL Q n q ent u (pc + 2) lv (.int v :: st)) : JX p l e R s m args below meth c D A nL Q n q ent u pc lv st :=
  fun H locs ls hP hD hS hl => lv_ldc C.1 C.2.1 C.2.2.2.1 (C.w hw) hd (kk H locs ls hP hD hS hl)

theorem j_ldcw (C : CX p s m args meth c cc nL own ret D cI cZ ad A) {i : Nat} (v : Int32) (hw : Cond.constant own i v ∈ lw_tbl) (hd : decode cc pc = .ok (.ldc_w i, 3)) (kk : JX p l e R s m args below meth c D A nL Q n q ent u (pc + 3) lv (.int v :: st)) : JX p l e R s m args below meth c D A nL Q n q ent u pc lv st :=
  fun H locs ls hP hD hS hl => lv_ldcw C.1 C.2.1 C.2.2.2.1 (C.w hw) hd (kk H locs ls hP hD hS hl)

theorem j_ldc2 (C : CX p s m args meth c cc nL own ret D cI cZ ad A) {i : Nat} (v : Int64) (hw : Cond.constantLong own i v ∈ lw_tbl) (hd : decode cc pc = .ok (.ldc2_w i, 3)) (kk : JX p l e R s m args below meth c D A nL Q n q ent u (pc + 3) lv (.long v :: st)) : JX p l e R s m args below meth c D A nL Q n q ent u pc lv st :=
  fun H locs ls hP hD hS hl => lv_ldc2 C.1 C.2.1 C.2.2.2.1 (C.w hw) hd (kk H locs ls hP hD hS hl)

theorem j_ldcS (C : CX p s m args meth c cc nL own ret D cI cZ ad A) {i k : Nat} {tx : String} (hw : (own, i, tx, k) ∈ siJ) (hd : decode cc pc = .ok (.ldc i, 2)) (kk : JX p l e R s m args below meth c D A nL Q n q ent u (pc + 2) lv (.ref (ad (10 + k)) :: st)) : JX p l e R s m args below meth c D A nL Q n q ent u pc lv st :=
  fun H locs ls hP hD hS hl => va_ldcS C.1 C.2.1 C.2.2.2.1 (C.2.2.2.2.2.2.2.1.2.2.2.1 _ hw) hd (kk H locs ls hP hD hS hl)

theorem j_iload_n (C : CX p s m args meth c cc nL own ret D cI cZ ad A) (k : Nat) {i : Fin 4} {x : Int32} (hd : decode cc pc = .ok (.iload_n i, 1)) (hk : lv[k]? = some ((i : Nat), .int x)) (kk : JX p l e R s m args below meth c D A nL Q n q ent u (pc + 1) lv (.int x :: st)) : JX p l e R s m args below meth c D A nL Q n q ent u pc lv st :=
  fun H locs ls hP hD hS hl => lv_iload_n C.1 C.2.1 hd rfl (lv_at hl k hk) (kk H locs ls hP hD hS hl)

theorem j_iload (C : CX p s m args meth c cc nL own ret D cI cZ ad A) (k : Nat) {i : Nat} {x : Int32} (hd : decode cc pc = .ok (.iload i, 2)) (hk : lv[k]? = some (i, .int x)) (kk : JX p l e R s m args below meth c D A nL Q n q ent u (pc + 2) lv (.int x :: st)) : JX p l e R s m args below meth c D A nL Q n q ent u pc lv st :=
  fun H locs ls hP hD hS hl => lv_iload C.1 C.2.1 hd (lv_at hl k hk) (kk H locs ls hP hD hS hl)

theorem j_lload_n (C : CX p s m args meth c cc nL own ret D cI cZ ad A) (k : Nat) {i : Fin 4} {x : Int64} (hd : decode cc pc = .ok (.lload_n i, 1)) (hk : lv[k]? = some ((i : Nat), .long x)) (kk : JX p l e R s m args below meth c D A nL Q n q ent u (pc + 1) lv (.long x :: st)) : JX p l e R s m args below meth c D A nL Q n q ent u pc lv st :=
  fun H locs ls hP hD hS hl => lv_lload_n C.1 C.2.1 hd rfl (lv_at hl k hk) (kk H locs ls hP hD hS hl)

theorem j_lload (C : CX p s m args meth c cc nL own ret D cI cZ ad A) (k : Nat) {i : Nat} {x : Int64} (hd : decode cc pc = .ok (.lload i, 2)) (hk : lv[k]? = some (i, .long x)) (kk : JX p l e R s m args below meth c D A nL Q n q ent u (pc + 2) lv (.long x :: st)) : JX p l e R s m args below meth c D A nL Q n q ent u pc lv st :=
  fun H locs ls hP hD hS hl => lv_lload C.1 C.2.1 hd (lv_at hl k hk) (kk H locs ls hP hD hS hl)

theorem j_aload_n (C : CX p s m args meth c cc nL own ret D cI cZ ad A) (k : Nat) {i : Fin 4} {x : Nat} (hd : decode cc pc = .ok (.aload_n i, 1)) (hk : lv[k]? = some ((i : Nat), .ref x)) (kk : JX p l e R s m args below meth c D A nL Q n q ent u (pc + 1) lv (.ref x :: st)) : JX p l e R s m args below meth c D A nL Q n q ent u pc lv st :=
  fun H locs ls hP hD hS hl => lv_aload_n C.1 C.2.1 hd rfl (lv_at hl k hk) (kk H locs ls hP hD hS hl)

theorem j_aload (C : CX p s m args meth c cc nL own ret D cI cZ ad A) (k : Nat) {i : Nat} {x : Nat} (hd : decode cc pc = .ok (.aload i, 2)) (hk : lv[k]? = some (i, .ref x)) (kk : JX p l e R s m args below meth c D A nL Q n q ent u (pc + 2) lv (.ref x :: st)) : JX p l e R s m args below meth c D A nL Q n q ent u pc lv st :=
  fun H locs ls hP hD hS hl => lv_aload C.1 C.2.1 hd (lv_at hl k hk) (kk H locs ls hP hD hS hl)

theorem j_istore_n (C : CX p s m args meth c cc nL own ret D cI cZ ad A) {lv' : List (Nat × Value)} {i : Fin 4} {x : Int32} (hd : decode cc pc = .ok (.istore_n i, 1)) (hn : (i : Nat) < nL) (hl2 : ((i : Nat), Value.int x) :: lv.filter (fun q => !(q.1 == (i : Nat)) && !(q.1 + 1 == (i : Nat) && q.2.category == 2)) = lv') (kk : JX p l e R s m args below meth c D A nL Q n q ent u (pc + 1) lv' st) : JX p l e R s m args below meth c D A nL Q n q ent u pc lv (.int x :: st) :=
  fun H locs ls hP hD hS hl => lv_istore_n C.1 C.2.1 hd rfl hl hn hl2 (fun ls hl => (kk H locs ls hP hD hS hl))

theorem j_istore (C : CX p s m args meth c cc nL own ret D cI cZ ad A) {lv' : List (Nat × Value)} {i : Nat} {x : Int32} (hd : decode cc pc = .ok (.istore i, 2)) (hn : (i : Nat) < nL) (hl2 : (i, Value.int x) :: lv.filter (fun q => !(q.1 == (i : Nat)) && !(q.1 + 1 == (i : Nat) && q.2.category == 2)) = lv') (kk : JX p l e R s m args below meth c D A nL Q n q ent u (pc + 2) lv' st) : JX p l e R s m args below meth c D A nL Q n q ent u pc lv (.int x :: st) :=
  fun H locs ls hP hD hS hl => lv_istore C.1 C.2.1 hd hl hn hl2 (fun ls hl => (kk H locs ls hP hD hS hl))

theorem j_lstore_n (C : CX p s m args meth c cc nL own ret D cI cZ ad A) {lv' : List (Nat × Value)} {i : Fin 4} {x : Int64} (hd : decode cc pc = .ok (.lstore_n i, 1)) (hn : (i : Nat) + 1 < nL) (hl2 : ((i : Nat), Value.long x) :: lv.filter (fun q => !(q.1 == (i : Nat)) && (!(q.1 == (i : Nat) + 1) && !(q.1 + 1 == (i : Nat) && q.2.category == 2))) = lv') (kk : JX p l e R s m args below meth c D A nL Q n q ent u (pc + 1) lv' st) : JX p l e R s m args below meth c D A nL Q n q ent u pc lv (.long x :: st) :=
  fun H locs ls hP hD hS hl => lv_lstore_n C.1 C.2.1 hd rfl hl hn hl2 (fun ls hl => (kk H locs ls hP hD hS hl))

theorem j_lstore (C : CX p s m args meth c cc nL own ret D cI cZ ad A) {lv' : List (Nat × Value)} {i : Nat} {x : Int64} (hd : decode cc pc = .ok (.lstore i, 2)) (hn : (i : Nat) + 1 < nL) (hl2 : (i, Value.long x) :: lv.filter (fun q => !(q.1 == (i : Nat)) && (!(q.1 == (i : Nat) + 1) && !(q.1 + 1 == (i : Nat) && q.2.category == 2))) = lv') (kk : JX p l e R s m args below meth c D A nL Q n q ent u (pc + 2) lv' st) : JX p l e R s m args below meth c D A nL Q n q ent u pc lv (.long x :: st) :=
  fun H locs ls hP hD hS hl => lv_lstore C.1 C.2.1 hd hl hn hl2 (fun ls hl => (kk H locs ls hP hD hS hl))

theorem j_astore_n (C : CX p s m args meth c cc nL own ret D cI cZ ad A) {lv' : List (Nat × Value)} {i : Fin 4} {x : Nat} (hd : decode cc pc = .ok (.astore_n i, 1)) (hn : (i : Nat) < nL) (hl2 : ((i : Nat), Value.ref x) :: lv.filter (fun q => !(q.1 == (i : Nat)) && !(q.1 + 1 == (i : Nat) && q.2.category == 2)) = lv') (kk : JX p l e R s m args below meth c D A nL Q n q ent u (pc + 1) lv' st) : JX p l e R s m args below meth c D A nL Q n q ent u pc lv (.ref x :: st) :=
  fun H locs ls hP hD hS hl => lv_astore_n C.1 C.2.1 hd rfl hl hn hl2 (fun ls hl => (kk H locs ls hP hD hS hl))

theorem j_astore (C : CX p s m args meth c cc nL own ret D cI cZ ad A) {lv' : List (Nat × Value)} {i : Nat} {x : Nat} (hd : decode cc pc = .ok (.astore i, 2)) (hn : (i : Nat) < nL) (hl2 : (i, Value.ref x) :: lv.filter (fun q => !(q.1 == (i : Nat)) && !(q.1 + 1 == (i : Nat) && q.2.category == 2)) = lv') (kk : JX p l e R s m args below meth c D A nL Q n q ent u (pc + 2) lv' st) : JX p l e R s m args below meth c D A nL Q n q ent u pc lv (.ref x :: st) :=
  fun H locs ls hP hD hS hl => lv_astore C.1 C.2.1 hd hl hn hl2 (fun ls hl => (kk H locs ls hP hD hS hl))

theorem j_iinc (C : CX p s m args meth c cc nL own ret D cI cZ ad A) (k : Nat) {lv' : List (Nat × Value)} {i : Nat} {d : Int} {x v : Int32} (hd : decode cc pc = .ok (.iinc i d, 3)) (hk : lv[k]? = some (i, .int x)) (hv : x + Int32.ofInt d = v) (hn : i < nL) (hl2 : (i, Value.int v) :: lv.filter (fun q => !(q.1 == (i : Nat)) && !(q.1 + 1 == (i : Nat) && q.2.category == 2)) = lv') (kk : JX p l e R s m args below meth c D A nL Q n q ent u (pc + 3) lv' st) : JX p l e R s m args below meth c D A nL Q n q ent u pc lv st :=
  fun H locs ls hP hD hS hl => lv_iinc C.1 C.2.1 hd hl hk hv hn hl2 (fun ls hl => (kk H locs ls hP hD hS hl))

theorem j_iadd (C : CX p s m args meth c cc nL own ret D cI cZ ad A) {x y : Int32} (hd : decode cc pc = .ok (.iadd, 1)) (kk : JX p l e R s m args below meth c D A nL Q n q ent u (pc + 1) lv (.int (x + y) :: st)) : JX p l e R s m args below meth c D A nL Q n q ent u pc lv (.int y :: .int x :: st) :=
  fun H locs ls hP hD hS hl => lv_iadd C.1 C.2.1 hd (kk H locs ls hP hD hS hl)

theorem j_isub (C : CX p s m args meth c cc nL own ret D cI cZ ad A) {x y : Int32} (hd : decode cc pc = .ok (.isub, 1)) (kk : JX p l e R s m args below meth c D A nL Q n q ent u (pc + 1) lv (.int (x - y) :: st)) : JX p l e R s m args below meth c D A nL Q n q ent u pc lv (.int y :: .int x :: st) :=
  fun H locs ls hP hD hS hl => lv_isub C.1 C.2.1 hd (kk H locs ls hP hD hS hl)

theorem j_imul (C : CX p s m args meth c cc nL own ret D cI cZ ad A) {x y : Int32} (hd : decode cc pc = .ok (.imul, 1)) (kk : JX p l e R s m args below meth c D A nL Q n q ent u (pc + 1) lv (.int (x * y) :: st)) : JX p l e R s m args below meth c D A nL Q n q ent u pc lv (.int y :: .int x :: st) :=
  fun H locs ls hP hD hS hl => lv_imul C.1 C.2.1 hd (kk H locs ls hP hD hS hl)

theorem j_iand (C : CX p s m args meth c cc nL own ret D cI cZ ad A) {x y : Int32} (hd : decode cc pc = .ok (.iand, 1)) (kk : JX p l e R s m args below meth c D A nL Q n q ent u (pc + 1) lv (.int (x &&& y) :: st)) : JX p l e R s m args below meth c D A nL Q n q ent u pc lv (.int y :: .int x :: st) :=
  fun H locs ls hP hD hS hl => lv_iand C.1 C.2.1 hd (kk H locs ls hP hD hS hl)

theorem j_ior (C : CX p s m args meth c cc nL own ret D cI cZ ad A) {x y : Int32} (hd : decode cc pc = .ok (.ior, 1)) (kk : JX p l e R s m args below meth c D A nL Q n q ent u (pc + 1) lv (.int (x ||| y) :: st)) : JX p l e R s m args below meth c D A nL Q n q ent u pc lv (.int y :: .int x :: st) :=
  fun H locs ls hP hD hS hl => lv_ior C.1 C.2.1 hd (kk H locs ls hP hD hS hl)

theorem j_ixor (C : CX p s m args meth c cc nL own ret D cI cZ ad A) {x y : Int32} (hd : decode cc pc = .ok (.ixor, 1)) (kk : JX p l e R s m args below meth c D A nL Q n q ent u (pc + 1) lv (.int (x ^^^ y) :: st)) : JX p l e R s m args below meth c D A nL Q n q ent u pc lv (.int y :: .int x :: st) :=
  fun H locs ls hP hD hS hl => lv_ixor C.1 C.2.1 hd (kk H locs ls hP hD hS hl)

theorem j_ishl (C : CX p s m args meth c cc nL own ret D cI cZ ad A) {x y : Int32} (hd : decode cc pc = .ok (.ishl, 1)) (kk : JX p l e R s m args below meth c D A nL Q n q ent u (pc + 1) lv (.int (x <<< (y &&& 31)) :: st)) : JX p l e R s m args below meth c D A nL Q n q ent u pc lv (.int y :: .int x :: st) :=
  fun H locs ls hP hD hS hl => lv_ishl C.1 C.2.1 hd (kk H locs ls hP hD hS hl)

theorem j_ishr (C : CX p s m args meth c cc nL own ret D cI cZ ad A) {x y : Int32} (hd : decode cc pc = .ok (.ishr, 1)) (kk : JX p l e R s m args below meth c D A nL Q n q ent u (pc + 1) lv (.int (x >>> (y &&& 31)) :: st)) : JX p l e R s m args below meth c D A nL Q n q ent u pc lv (.int y :: .int x :: st) :=
  fun H locs ls hP hD hS hl => lv_ishr C.1 C.2.1 hd (kk H locs ls hP hD hS hl)

theorem j_iushr (C : CX p s m args meth c cc nL own ret D cI cZ ad A) {x y : Int32} (hd : decode cc pc = .ok (.iushr, 1)) (kk : JX p l e R s m args below meth c D A nL Q n q ent u (pc + 1) lv (.int ((x.toUInt32 >>> (y.toUInt32 &&& Int32.toUInt32 31)).toInt32) :: st)) : JX p l e R s m args below meth c D A nL Q n q ent u pc lv (.int y :: .int x :: st) :=
  fun H locs ls hP hD hS hl => lv_iushr C.1 C.2.1 hd rfl (kk H locs ls hP hD hS hl)

theorem j_irem (C : CX p s m args meth c cc nL own ret D cI cZ ad A) {x y : Int32} (hd : decode cc pc = .ok (.irem, 1)) (hy : ¬ y = 0) (kk : JX p l e R s m args below meth c D A nL Q n q ent u (pc + 1) lv (.int (x - x / y * y) :: st)) : JX p l e R s m args below meth c D A nL Q n q ent u pc lv (.int y :: .int x :: st) :=
  fun H locs ls hP hD hS hl => lv_irem C.1 C.2.1 hd hy (kk H locs ls hP hD hS hl)

theorem j_idiv (C : CX p s m args meth c cc nL own ret D cI cZ ad A) {x y : Int32} (hd : decode cc pc = .ok (.idiv, 1)) (hy : ¬ y = 0) (kk : JX p l e R s m args below meth c D A nL Q n q ent u (pc + 1) lv (.int (x / y) :: st)) : JX p l e R s m args below meth c D A nL Q n q ent u pc lv (.int y :: .int x :: st) :=
  fun H locs ls hP hD hS hl => lv_idiv C.1 C.2.1 hd hy (kk H locs ls hP hD hS hl)

theorem j_ladd (C : CX p s m args meth c cc nL own ret D cI cZ ad A) {x y : Int64} (hd : decode cc pc = .ok (.ladd, 1)) (kk : JX p l e R s m args below meth c D A nL Q n q ent u (pc + 1) lv (.long (x + y) :: st)) : JX p l e R s m args below meth c D A nL Q n q ent u pc lv (.long y :: .long x :: st) :=
  fun H locs ls hP hD hS hl => lv_ladd C.1 C.2.1 hd (kk H locs ls hP hD hS hl)

theorem j_lsub (C : CX p s m args meth c cc nL own ret D cI cZ ad A) {x y : Int64} (hd : decode cc pc = .ok (.lsub, 1)) (kk : JX p l e R s m args below meth c D A nL Q n q ent u (pc + 1) lv (.long (x - y) :: st)) : JX p l e R s m args below meth c D A nL Q n q ent u pc lv (.long y :: .long x :: st) :=
  fun H locs ls hP hD hS hl => lv_lsub C.1 C.2.1 hd (kk H locs ls hP hD hS hl)

theorem j_lmul (C : CX p s m args meth c cc nL own ret D cI cZ ad A) {x y : Int64} (hd : decode cc pc = .ok (.lmul, 1)) (kk : JX p l e R s m args below meth c D A nL Q n q ent u (pc + 1) lv (.long (x * y) :: st)) : JX p l e R s m args below meth c D A nL Q n q ent u pc lv (.long y :: .long x :: st) :=
  fun H locs ls hP hD hS hl => lv_lmul C.1 C.2.1 hd (kk H locs ls hP hD hS hl)

theorem j_lrem (C : CX p s m args meth c cc nL own ret D cI cZ ad A) {x y : Int64} (hd : decode cc pc = .ok (.lrem, 1)) (hy : ¬ y = 0) (kk : JX p l e R s m args below meth c D A nL Q n q ent u (pc + 1) lv (.long (x - x / y * y) :: st)) : JX p l e R s m args below meth c D A nL Q n q ent u pc lv (.long y :: .long x :: st) :=
  fun H locs ls hP hD hS hl => lv_lrem C.1 C.2.1 hd hy (kk H locs ls hP hD hS hl)

theorem j_ldiv (C : CX p s m args meth c cc nL own ret D cI cZ ad A) {x y : Int64} (hd : decode cc pc = .ok (.ldiv, 1)) (hy : ¬ y = 0) (kk : JX p l e R s m args below meth c D A nL Q n q ent u (pc + 1) lv (.long (x / y) :: st)) : JX p l e R s m args below meth c D A nL Q n q ent u pc lv (.long y :: .long x :: st) :=
  fun H locs ls hP hD hS hl => lv_ldiv C.1 C.2.1 hd hy (kk H locs ls hP hD hS hl)

theorem j_lcmp (C : CX p s m args meth c cc nL own ret D cI cZ ad A) {x y : Int64} (hd : decode cc pc = .ok (.lcmp, 1)) (kk : JX p l e R s m args below meth c D A nL Q n q ent u (pc + 1) lv (.int (lg_cmp x y) :: st)) : JX p l e R s m args below meth c D A nL Q n q ent u pc lv (.long y :: .long x :: st) :=
  fun H locs ls hP hD hS hl => W.lcmp C.1 C.2.1 hd (kk H locs ls hP hD hS hl)

theorem j_ineg (C : CX p s m args meth c cc nL own ret D cI cZ ad A) {x : Int32} (hd : decode cc pc = .ok (.ineg, 1)) (kk : JX p l e R s m args below meth c D A nL Q n q ent u (pc + 1) lv (.int (-x) :: st)) : JX p l e R s m args below meth c D A nL Q n q ent u pc lv (.int x :: st) :=
  fun H locs ls hP hD hS hl => lv_ineg C.1 C.2.1 hd (kk H locs ls hP hD hS hl)

theorem j_i2l (C : CX p s m args meth c cc nL own ret D cI cZ ad A) {x : Int32} (hd : decode cc pc = .ok (.i2l, 1)) (kk : JX p l e R s m args below meth c D A nL Q n q ent u (pc + 1) lv (.long x.toInt64 :: st)) : JX p l e R s m args below meth c D A nL Q n q ent u pc lv (.int x :: st) :=
  fun H locs ls hP hD hS hl => lv_i2l C.1 C.2.1 hd rfl (kk H locs ls hP hD hS hl)

theorem j_i2c (C : CX p s m args meth c cc nL own ret D cI cZ ad A) {x : Int32} (hd : decode cc pc = .ok (.i2c, 1)) (kk : JX p l e R s m args below meth c D A nL Q n q ent u (pc + 1) lv (.int (x.toUInt32 % 65536).toInt32 :: st)) : JX p l e R s m args below meth c D A nL Q n q ent u pc lv (.int x :: st) :=
  fun H locs ls hP hD hS hl => lv_i2c C.1 C.2.1 hd rfl (kk H locs ls hP hD hS hl)

theorem j_dup (C : CX p s m args meth c cc nL own ret D cI cZ ad A) {v : Value} (hd : decode cc pc = .ok (.dup, 1)) (hv : v.category = 1) (kk : JX p l e R s m args below meth c D A nL Q n q ent u (pc + 1) lv (v :: v :: st)) : JX p l e R s m args below meth c D A nL Q n q ent u pc lv (v :: st) :=
  fun H locs ls hP hD hS hl => lv_dup C.1 C.2.1 hd hv (kk H locs ls hP hD hS hl)

theorem j_dup2 (C : CX p s m args meth c cc nL own ret D cI cZ ad A) {v w : Value} (hd : decode cc pc = .ok (.dup2, 1)) (hv : v.category = 1) (hw : w.category = 1) (kk : JX p l e R s m args below meth c D A nL Q n q ent u (pc + 1) lv (v :: w :: v :: w :: st)) : JX p l e R s m args below meth c D A nL Q n q ent u pc lv (v :: w :: st) :=
  fun H locs ls hP hD hS hl => lv_dup2_11 C.1 C.2.1 hd hv hw (kk H locs ls hP hD hS hl)

theorem j_pop (C : CX p s m args meth c cc nL own ret D cI cZ ad A) {v : Value} (hd : decode cc pc = .ok (.pop, 1)) (hv : v.category = 1) (kk : JX p l e R s m args below meth c D A nL Q n q ent u (pc + 1) lv st) : JX p l e R s m args below meth c D A nL Q n q ent u pc lv (v :: st) :=
  fun H locs ls hP hD hS hl => lv_pop C.1 C.2.1 hd hv (kk H locs ls hP hD hS hl)

theorem j_goto (C : CX p s m args meth c cc nL own ret D cI cZ ad A) {off : Int} (tgt : Nat) (hd : decode cc pc = .ok (.goto off, 3)) (ht : (pc : Int) + off = (tgt : Int)) (kk : JX p l e R s m args below meth c D A nL Q n q ent u tgt lv st) : JX p l e R s m args below meth c D A nL Q n q ent u pc lv st :=
  fun H locs ls hP hD hS hl => lv_goto C.1 C.2.1 hd ht (kk H locs ls hP hD hS hl)

theorem j_icmp_eq (C : CX p s m args meth c cc nL own ret D cI cZ ad A) {x y : Int32} {off : Int} (tgt : Nat) (hd : decode cc pc = .ok (.if_icmp .eq off, 3)) (ht : (pc : Int) + off = (tgt : Int)) (kt : x = y → JX p l e R s m args below meth c D A nL Q n q ent u tgt lv st) (kf : ¬ x = y → JX p l e R s m args below meth c D A nL Q n q ent u (pc + 3) lv st) : JX p l e R s m args below meth c D A nL Q n q ent u pc lv (.int y :: .int x :: st) :=
  fun H locs ls hP hD hS hl => lv_icmp_eq C.1 C.2.1 hd ht (fun h => kt h H locs ls hP hD hS hl) (fun h => kf h H locs ls hP hD hS hl)

theorem j_if_eq (C : CX p s m args meth c cc nL own ret D cI cZ ad A) {x : Int32} {off : Int} (tgt : Nat) (hd : decode cc pc = .ok (.ifCond .eq off, 3)) (ht : (pc : Int) + off = (tgt : Int)) (kt : x = 0 → JX p l e R s m args below meth c D A nL Q n q ent u tgt lv st) (kf : ¬ x = 0 → JX p l e R s m args below meth c D A nL Q n q ent u (pc + 3) lv st) : JX p l e R s m args below meth c D A nL Q n q ent u pc lv (.int x :: st) :=
  fun H locs ls hP hD hS hl => lv_if_eq C.1 C.2.1 hd ht (fun h => kt h H locs ls hP hD hS hl) (fun h => kf h H locs ls hP hD hS hl)

theorem j_icmp_ne (C : CX p s m args meth c cc nL own ret D cI cZ ad A) {x y : Int32} {off : Int} (tgt : Nat) (hd : decode cc pc = .ok (.if_icmp .ne off, 3)) (ht : (pc : Int) + off = (tgt : Int)) (kt : ¬ x = y → JX p l e R s m args below meth c D A nL Q n q ent u tgt lv st) (kf : x = y → JX p l e R s m args below meth c D A nL Q n q ent u (pc + 3) lv st) : JX p l e R s m args below meth c D A nL Q n q ent u pc lv (.int y :: .int x :: st) :=
  fun H locs ls hP hD hS hl => lv_icmp_ne C.1 C.2.1 hd ht (fun h => kt h H locs ls hP hD hS hl) (fun h => kf h H locs ls hP hD hS hl)

theorem j_if_ne (C : CX p s m args meth c cc nL own ret D cI cZ ad A) {x : Int32} {off : Int} (tgt : Nat) (hd : decode cc pc = .ok (.ifCond .ne off, 3)) (ht : (pc : Int) + off = (tgt : Int)) (kt : ¬ x = 0 → JX p l e R s m args below meth c D A nL Q n q ent u tgt lv st) (kf : x = 0 → JX p l e R s m args below meth c D A nL Q n q ent u (pc + 3) lv st) : JX p l e R s m args below meth c D A nL Q n q ent u pc lv (.int x :: st) :=
  fun H locs ls hP hD hS hl => lv_if_ne C.1 C.2.1 hd ht (fun h => kt h H locs ls hP hD hS hl) (fun h => kf h H locs ls hP hD hS hl)

theorem j_icmp_lt (C : CX p s m args meth c cc nL own ret D cI cZ ad A) {x y : Int32} {off : Int} (tgt : Nat) (hd : decode cc pc = .ok (.if_icmp .lt off, 3)) (ht : (pc : Int) + off = (tgt : Int)) (kt : x < y → JX p l e R s m args below meth c D A nL Q n q ent u tgt lv st) (kf : ¬ x < y → JX p l e R s m args below meth c D A nL Q n q ent u (pc + 3) lv st) : JX p l e R s m args below meth c D A nL Q n q ent u pc lv (.int y :: .int x :: st) :=
  fun H locs ls hP hD hS hl => lv_icmp_lt C.1 C.2.1 hd ht (fun h => kt h H locs ls hP hD hS hl) (fun h => kf h H locs ls hP hD hS hl)

theorem j_if_lt (C : CX p s m args meth c cc nL own ret D cI cZ ad A) {x : Int32} {off : Int} (tgt : Nat) (hd : decode cc pc = .ok (.ifCond .lt off, 3)) (ht : (pc : Int) + off = (tgt : Int)) (kt : x < 0 → JX p l e R s m args below meth c D A nL Q n q ent u tgt lv st) (kf : ¬ x < 0 → JX p l e R s m args below meth c D A nL Q n q ent u (pc + 3) lv st) : JX p l e R s m args below meth c D A nL Q n q ent u pc lv (.int x :: st) :=
  fun H locs ls hP hD hS hl => lv_if_lt C.1 C.2.1 hd ht (fun h => kt h H locs ls hP hD hS hl) (fun h => kf h H locs ls hP hD hS hl)

theorem j_icmp_ge (C : CX p s m args meth c cc nL own ret D cI cZ ad A) {x y : Int32} {off : Int} (tgt : Nat) (hd : decode cc pc = .ok (.if_icmp .ge off, 3)) (ht : (pc : Int) + off = (tgt : Int)) (kt : y ≤ x → JX p l e R s m args below meth c D A nL Q n q ent u tgt lv st) (kf : ¬ y ≤ x → JX p l e R s m args below meth c D A nL Q n q ent u (pc + 3) lv st) : JX p l e R s m args below meth c D A nL Q n q ent u pc lv (.int y :: .int x :: st) :=
  fun H locs ls hP hD hS hl => lv_icmp_ge C.1 C.2.1 hd ht (fun h => kt h H locs ls hP hD hS hl) (fun h => kf h H locs ls hP hD hS hl)

theorem j_if_ge (C : CX p s m args meth c cc nL own ret D cI cZ ad A) {x : Int32} {off : Int} (tgt : Nat) (hd : decode cc pc = .ok (.ifCond .ge off, 3)) (ht : (pc : Int) + off = (tgt : Int)) (kt : 0 ≤ x → JX p l e R s m args below meth c D A nL Q n q ent u tgt lv st) (kf : ¬ 0 ≤ x → JX p l e R s m args below meth c D A nL Q n q ent u (pc + 3) lv st) : JX p l e R s m args below meth c D A nL Q n q ent u pc lv (.int x :: st) :=
  fun H locs ls hP hD hS hl => lv_if_ge C.1 C.2.1 hd ht (fun h => kt h H locs ls hP hD hS hl) (fun h => kf h H locs ls hP hD hS hl)

theorem j_icmp_gt (C : CX p s m args meth c cc nL own ret D cI cZ ad A) {x y : Int32} {off : Int} (tgt : Nat) (hd : decode cc pc = .ok (.if_icmp .gt off, 3)) (ht : (pc : Int) + off = (tgt : Int)) (kt : y < x → JX p l e R s m args below meth c D A nL Q n q ent u tgt lv st) (kf : ¬ y < x → JX p l e R s m args below meth c D A nL Q n q ent u (pc + 3) lv st) : JX p l e R s m args below meth c D A nL Q n q ent u pc lv (.int y :: .int x :: st) :=
  fun H locs ls hP hD hS hl => lv_icmp_gt C.1 C.2.1 hd ht (fun h => kt h H locs ls hP hD hS hl) (fun h => kf h H locs ls hP hD hS hl)

theorem j_if_gt (C : CX p s m args meth c cc nL own ret D cI cZ ad A) {x : Int32} {off : Int} (tgt : Nat) (hd : decode cc pc = .ok (.ifCond .gt off, 3)) (ht : (pc : Int) + off = (tgt : Int)) (kt : 0 < x → JX p l e R s m args below meth c D A nL Q n q ent u tgt lv st) (kf : ¬ 0 < x → JX p l e R s m args below meth c D A nL Q n q ent u (pc + 3) lv st) : JX p l e R s m args below meth c D A nL Q n q ent u pc lv (.int x :: st) :=
  fun H locs ls hP hD hS hl => lv_if_gt C.1 C.2.1 hd ht (fun h => kt h H locs ls hP hD hS hl) (fun h => kf h H locs ls hP hD hS hl)

theorem j_icmp_le (C : CX p s m args meth c cc nL own ret D cI cZ ad A) {x y : Int32} {off : Int} (tgt : Nat) (hd : decode cc pc = .ok (.if_icmp .le off, 3)) (ht : (pc : Int) + off = (tgt : Int)) (kt : x ≤ y → JX p l e R s m args below meth c D A nL Q n q ent u tgt lv st) (kf : ¬ x ≤ y → JX p l e R s m args below meth c D A nL Q n q ent u (pc + 3) lv st) : JX p l e R s m args below meth c D A nL Q n q ent u pc lv (.int y :: .int x :: st) :=
  fun H locs ls hP hD hS hl => lv_icmp_le C.1 C.2.1 hd ht (fun h => kt h H locs ls hP hD hS hl) (fun h => kf h H locs ls hP hD hS hl)

theorem j_if_le (C : CX p s m args meth c cc nL own ret D cI cZ ad A) {x : Int32} {off : Int} (tgt : Nat) (hd : decode cc pc = .ok (.ifCond .le off, 3)) (ht : (pc : Int) + off = (tgt : Int)) (kt : x ≤ 0 → JX p l e R s m args below meth c D A nL Q n q ent u tgt lv st) (kf : ¬ x ≤ 0 → JX p l e R s m args below meth c D A nL Q n q ent u (pc + 3) lv st) : JX p l e R s m args below meth c D A nL Q n q ent u pc lv (.int x :: st) :=
  fun H locs ls hP hD hS hl => lv_if_le C.1 C.2.1 hd ht (fun h => kt h H locs ls hP hD hS hl) (fun h => kf h H locs ls hP hD hS hl)

theorem j_sub {lv' : List (Nat × Value)} (ks : List Nat) (h : lv_pick lv ks = lv') (kk : JX p l e R s m args below meth c D A nL Q n q ent u pc lv' st) : JX p l e R s m args below meth c D A nL Q n q ent u pc lv st :=
  fun H locs ls hP hD hS hl => kk H locs ls hP hD hS (lv_sub hl ks h)

theorem j_get (C : CX p s m args meth c cc nL own ret D cI cZ ad A) {Cn : String} {T : u_T} {N ci i : Nat} {fs : List Value} {v : Value} (k j : Nat) (hw : ∀ w ∈ u_ws Cn T N, w.before args s = true) (hlink : Cond.fieldLink own i Cn (T j).2.1 (T j).2.2.1 ∈ lw_tbl) (hg : gw (Cond.fieldLink own i Cn (T j).2.1 (T j).2.2.1) = true) (hdc : (T j).1 = Cn) (hk : k < n) (he : ent k (u k) = .inr (ci, fs)) (hc : vwCl[ci]? = some (Cn, T, N)) (hj : j < N) (hv : fs[j]? = some v) (hd : decode cc pc = .ok (.getfield i, 3)) (kk : JX p l e R s m args below meth c D A nL Q n q ent u (pc + 3) lv (v :: st)) : JX p l e R s m args below meth c D A nL Q n q ent u pc lv (.ref (q k) :: st) :=
  fun H locs ls hP hD hS hl => va_get C.1 C.2.1 hw (fun _ h => h) C.2.2.2.1 C.2.2.2.2.2.2.1 hP k ((jw_at hk).trans (by rw [he])) hc j hj (C.w hlink hg) (fun x h9 => by rw [hdc] at h9; exact h9) hv hd (kk H locs ls hP hD hS hl)

theorem j_getN (C : CX p s m args meth c cc nL own ret D cI cZ ad A) {Cn : String} {T : u_T} {N ci i : Nat} {host : String} {fs : List Value} {v : Value} (k j : Nat) (hw : ∀ w ∈ u_ws Cn T N, w.before args s = true) (hlink : Cond.fieldLinkNest own i Cn (T j).2.1 (T j).2.2.1 host ∈ lw_tbl) (hg : gw (Cond.fieldLinkNest own i Cn (T j).2.1 (T j).2.2.1 host) = true) (hdc : (T j).1 = Cn) (hk : k < n) (he : ent k (u k) = .inr (ci, fs)) (hc : vwCl[ci]? = some (Cn, T, N)) (hj : j < N) (hv : fs[j]? = some v) (hd : decode cc pc = .ok (.getfield i, 3)) (kk : JX p l e R s m args below meth c D A nL Q n q ent u (pc + 3) lv (v :: st)) : JX p l e R s m args below meth c D A nL Q n q ent u pc lv (.ref (q k) :: st) :=
  fun H locs ls hP hD hS hl => va_getN C.1 C.2.1 hw (fun _ h => h) C.2.2.2.1 C.2.2.2.2.2.2.1 hP k ((jw_at hk).trans (by rw [he])) hc j hj (C.w hlink hg) (fun x h9 => by rw [hdc] at h9; exact h9) hv hd (kk H locs ls hP hD hS hl)

theorem j_put (C : CX p s m args meth c cc nL own ret D cI cZ ad A) {Cn : String} {T : u_T} {N ci i : Nat} {fs : List Value} {x : Int32} {ty : FieldType} {ty0 : Nat → FieldType} (k j : Nat) (hw : ∀ w ∈ u_ws Cn T N, w.before args s = true) (hlink : Cond.fieldLink own i Cn (T j).2.1 (T j).2.2.1 ∈ lw_tbl) (hg : gw (Cond.fieldLink own i Cn (T j).2.1 (T j).2.2.1) = true) (hdc : (T j).1 = Cn) (hk : k < n) (he : ent k (u k) = .inr (ci, fs)) (hc : vwCl[ci]? = some (Cn, T, N)) (hj : j < N) (hty : ∀ k, k < N → parseFieldDescriptor (T k).2.2.1 = some (ty0 k)) (hnm : ∀ a, a < N → ∀ b, b < N → a ≠ b → (T a).2.1 ≠ (T b).2.1) (hfin : (T j).2.2.2 = false) (hpd : parseFieldDescriptor (T j).2.2.1 = some ty) (hnar : narrow ty (.int x) = .int x ∧ fits ty (.int x) = true) (hlen : j < fs.length) (he2 : ent k (fun b => if b = j then x else u k b) = .inr (ci, fs.set j (.int x))) (hd : decode cc pc = .ok (.putfield i, 3)) (kk : JX p l e R s m args below meth c D A nL Q n q ent (up u k j x) (pc + 3) lv st) : JX p l e R s m args below meth c D A nL Q n q ent u pc lv (.int x :: .ref (q k) :: st) :=
  fun H locs ls hP hD hS hl => va_put C.1 C.2.1 hw (fun _ h => h) ty0 hty hnm C.2.2.2.1 C.2.2.2.2.2.2.1 hP hD hS k ((jw_at hk).trans (by rw [he])) hc j hj (C.w hlink hg) (fun x h9 => by rw [hdc] at h9; exact h9) hfin hpd hnar.1 hnar.2 hlen hd (fun H1 locs1 hP1 hD1 hS1 => by rw [jw_setR he2] at hP1 hD1; exact kk H1 locs1 ls hP1 hD1 hS1 hl)

theorem j_putN (C : CX p s m args meth c cc nL own ret D cI cZ ad A) {Cn : String} {T : u_T} {N ci i : Nat} {host : String} {fs : List Value} {x : Int32} {ty : FieldType} {ty0 : Nat → FieldType} (k j : Nat) (hw : ∀ w ∈ u_ws Cn T N, w.before args s = true) (hlink : Cond.fieldLinkNest own i Cn (T j).2.1 (T j).2.2.1 host ∈ lw_tbl) (hg : gw (Cond.fieldLinkNest own i Cn (T j).2.1 (T j).2.2.1 host) = true) (hdc : (T j).1 = Cn) (hk : k < n) (he : ent k (u k) = .inr (ci, fs)) (hc : vwCl[ci]? = some (Cn, T, N)) (hj : j < N) (hty : ∀ k, k < N → parseFieldDescriptor (T k).2.2.1 = some (ty0 k)) (hnm : ∀ a, a < N → ∀ b, b < N → a ≠ b → (T a).2.1 ≠ (T b).2.1) (hfin : (T j).2.2.2 = false) (hpd : parseFieldDescriptor (T j).2.2.1 = some ty) (hnar : narrow ty (.int x) = .int x ∧ fits ty (.int x) = true) (hlen : j < fs.length) (he2 : ent k (fun b => if b = j then x else u k b) = .inr (ci, fs.set j (.int x))) (hd : decode cc pc = .ok (.putfield i, 3)) (kk : JX p l e R s m args below meth c D A nL Q n q ent (up u k j x) (pc + 3) lv st) : JX p l e R s m args below meth c D A nL Q n q ent u pc lv (.int x :: .ref (q k) :: st) :=
  fun H locs ls hP hD hS hl => va_putN C.1 C.2.1 hw (fun _ h => h) ty0 hty hnm C.2.2.2.1 C.2.2.2.2.2.2.1 hP hD hS k ((jw_at hk).trans (by rw [he])) hc j hj (C.w hlink hg) (fun x h9 => by rw [hdc] at h9; exact h9) hfin hpd hnar.1 hnar.2 hlen hd (fun H1 locs1 hP1 hD1 hS1 => by rw [jw_setR he2] at hP1 hD1; exact kk H1 locs1 ls hP1 hD1 hS1 hl)

theorem j_iaload (C : CX p s m args meth c cc nL own ret D cI cZ ad A) {N : Nat} {i : Int32} {f : Nat → Int32} (k : Nat) (hin : vp_in i N) (hk : k < n) (he : ent k (u k) = .inl (cI, N, .inl f)) (hf : f = u k) (hd : decode cc pc = .ok (.iaload, 1)) (kk : JX p l e R s m args below meth c D A nL Q n q ent u (pc + 1) lv (.int (u k i.toNatClampNeg) :: st)) : JX p l e R s m args below meth c D A nL Q n q ent u pc lv (.int i :: .ref (q k) :: st) :=
  fun H locs ls hP hD hS hl => by subst hf; exact va_iald C.1 C.2.1 C.2.2.2.2.2.2.1 hP k 0 ((jw_at hk).trans (by rw [he])) rfl hin hd (kk H locs ls hP hD hS hl)

theorem j_zaload (C : CX p s m args meth c cc nL own ret D cI cZ ad A) {N : Nat} {i : Int32} {f : Nat → Int32} (k : Nat) (hin : vp_in i N) (hk : k < n) (he : ent k (u k) = .inl (cZ, N, .inl f)) (hf : f = u k) (hd : decode cc pc = .ok (.baload, 1)) (kk : JX p l e R s m args below meth c D A nL Q n q ent u (pc + 1) lv (.int (u k i.toNatClampNeg) :: st)) : JX p l e R s m args below meth c D A nL Q n q ent u pc lv (.int i :: .ref (q k) :: st) :=
  fun H locs ls hP hD hS hl => by subst hf; exact va_zald C.1 C.2.1 C.2.2.2.2.2.2.1 hP k 1 ((jw_at hk).trans (by rw [he])) rfl hin hd (kk H locs ls hP hD hS hl)

theorem j_iastore (C : CX p s m args meth c cc nL own ret D cI cZ ad A) {N : Nat} {i x : Int32} {f : Nat → Int32} (k : Nat) (hin : vp_in i N) (hk : k < n) (he : ∀ f, ent k f = .inl (cI, N, .inl f)) (hf : f = u k) (hd : decode cc pc = .ok (.iastore, 1)) (kk : JX p l e R s m args below meth c D A nL Q n q ent (up u k i.toNatClampNeg x) (pc + 1) lv st) : JX p l e R s m args below meth c D A nL Q n q ent u pc lv (.int x :: .int i :: .ref (q k) :: st) :=
  fun H locs ls hP hD hS hl => by subst hf; exact va_iast C.1 C.2.1 C.2.2.2.2.2.2.1 hP hD hS k 0 ((jw_at hk).trans (by rw [he])) rfl hin hd (fun H1 locs1 hP1 hD1 hS1 => by rw [jw_setR (f := fun b => if b = i.toNatClampNeg then x else u k b) (by rw [he]; rfl)] at hP1 hD1; exact kk H1 locs1 ls hP1 hD1 hS1 hl)

theorem j_zastore (C : CX p s m args meth c cc nL own ret D cI cZ ad A) {N : Nat} {i x : Int32} {f : Nat → Int32} (k : Nat) (hin : vp_in i N) (hk : k < n) (he : ∀ f, ent k f = .inl (cZ, N, .inl f)) (hf : f = u k) (hd : decode cc pc = .ok (.bastore, 1)) (kk : JX p l e R s m args below meth c D A nL Q n q ent (up u k i.toNatClampNeg (vp_nar .boolean x)) (pc + 1) lv st) : JX p l e R s m args below meth c D A nL Q n q ent u pc lv (.int x :: .int i :: .ref (q k) :: st) :=
  fun H locs ls hP hD hS hl => by subst hf; exact va_zast C.1 C.2.1 C.2.2.2.2.2.2.1 hP hD hS k 1 ((jw_at hk).trans (by rw [he])) rfl hin hd (fun H1 locs1 hP1 hD1 hS1 => by rw [jw_setR (f := fun b => if b = i.toNatClampNeg then (vp_nar .boolean x) else u k b) (by rw [he]; rfl)] at hP1 hD1; exact kk H1 locs1 ls hP1 hD1 hS1 hl)

theorem j_alen (C : CX p s m args meth c cc nL own ret D cI cZ ad A) {x : vp_A} {cA : ClassId} {t0 : Nat} {ty : FieldType} {v : Int32} (k : Nat) (hk : k < n) (he : ent k (u k) = .inl (cA, x)) (ht : ([(cI, .int), (cZ, .boolean)] : List (ClassId × FieldType))[t0]? = some (cA, ty)) (hv : Int32.ofNat x.1 = v) (hd : decode cc pc = .ok (.arraylength, 1)) (kk : JX p l e R s m args below meth c D A nL Q n q ent u (pc + 1) lv (.int v :: st)) : JX p l e R s m args below meth c D A nL Q n q ent u pc lv (.ref (q k) :: st) :=
  fun H locs ls hP hD hS hl => va_alen C.1 C.2.1 C.2.2.2.2.2.2.1 hP k t0 ((jw_at hk).trans (by rw [he])) ht hv hd (kk H locs ls hP hD hS hl)

end JR
end
section
/-! Contracts: what a method is called with, over a world, and what it comes to -/
def BJ (D : va_G) (n : Nat) (q : Nat → Nat) (ent : Nat → (Nat → Int32) → va_E) : MM → State → Prop := fun u t => va_P D vwCl (jw n q ent u) t.heap
def QI (D : va_G) (n : Nat) (q : Nat → Nat) (ent : Nat → (Nat → Int32) → va_E) (K : Int32 → MM → Prop) : (Nat → Prop) → Array Value → State → Outcome → State → Prop := fun A => va_Qi K (BJ D n q ent) A
def QL (D : va_G) (n : Nat) (q : Nat → Nat) (ent : Nat → (Nat → Int32) → va_E) (K : Int64 → MM → Prop) : (Nat → Prop) → Array Value → State → Outcome → State → Prop := fun A => va_Ql K (BJ D n q ent) A
def QV (D : va_G) (n : Nat) (q : Nat → Nat) (ent : Nat → (Nat → Int32) → va_E) (K : MM → Prop) : (Nat → Prop) → Array Value → State → Outcome → State → Prop := fun A => va_Qv K (BJ D n q ent) A
def CT (l : Launch) (D : va_G) (cI cZ : ClassId) (ad : Nat → Nat) (n : Nat) (q : Nat → Nat) (ent : Nat → (Nat → Int32) → va_E) (y : MethodName) (cc : ByteArray) (maxL : Nat) (ret : Option FieldType) (rm : Room) (av : List Value) (u : MM) (Qc : (Nat → Prop) → Array Value → State → Outcome → State → Prop) : Prop :=
  ∀ sz : Nat, Met l y [.code y cc maxL ret] rm (va_Pc av (fun U => U.heap.size = sz ∧ va_P D vwCl (jw n q ent u) U.heap ∧ va_K D vwCl [(cI, .int), (cZ, .boolean)] U ∧ va_D (fun _ => True) (jw n q ent u) ∧ EV ad (AJ n q sz) U)) (Qc (AJ n q sz)) 0 0 (AJ n q sz)
def MF (y : MethodName) (cc : ByteArray) (maxL : Nat) (ret : Option FieldType) (na : Nat) : Prop := Cond.code y cc maxL ret ∈ lw_tbl ∧ gw (Cond.code y cc maxL ret) = true ∧ Cond.initialized y.cls ∈ lw_tbl ∧ (y.cls ≠ "java/lang/invoke/MethodHandle" ∧ y.cls ≠ "java/lang/invoke/VarHandle") ∧ (parseMethodDescriptor y.desc).map (fun d => d.parameters.length) = some na
def MFV (y : MethodName) (cc : ByteArray) (maxL : Nat) (ret : Option FieldType) (na : Nat) : Prop := MF y cc maxL ret na ∧ Cond.instanceMethod y ∈ lw_tbl ∧ Cond.selects y.cls y y ∈ lw_tbl
def MFS (y : MethodName) (cc : ByteArray) (maxL : Nat) (ret : Option FieldType) (na : Nat) : Prop := MF y cc maxL ret na ∧ Cond.static y ∈ lw_tbl
section JC
variable {p : Program} {l : Launch} {e : Env} {R : Room} {s : State} {m : MethodId} {args : Array Value} {below : List Frame} {meth : Method} {c : Code} {D : va_G} {A : Nat → Prop} {nL : Nat} {Q : State → Prop} {n : Nat} {q : Nat → Nat} {ent : Nat → (Nat → Int32) → va_E} {u : MM} {pc : Nat} {lv : List (Nat × Value)} {st : List Value} {cc : ByteArray} {own : String} {ret : Option FieldType} {cI cZ : ClassId} {ad : Nat → Nat}
theorem mf_na {y : MethodName} {cc : ByteArray} {maxL : Nat} {ret : Option FieldType} {na : Nat} (F : MF y cc maxL ret na) : ∀ sig, parseMethodDescriptor y.desc = some sig → na = sig.parameters.length := by
  intro sig h
  have h2 := F.2.2.2.2
  rw [h] at h2
  exact (Option.some.inj h2).symm

theorem j_iret {K : Int32 → MM → Prop} {v : Int32} (C : CX p s m args meth c cc nL own (some .int) D cI cZ ad (AJ n q s.heap.size)) (hd : decode cc pc = .ok (.ireturn, 1)) (hK : K v u) : JX p l e R s m args below meth c D (AJ n q s.heap.size) nL (MQ below (QI D n q ent K (AJ n q s.heap.size)) args s 0 0 (AJ n q s.heap.size)) n q ent u pc lv [.int v] :=
  fun H locs ls hP hD hS hl => W.iret C.1 C.2.1 C.2.2.2.2.1 (fun t ht hW => ⟨⟨v, u, rfl, hK, by show va_P D vwCl (jw n q ent u) t.heap; rw [ht]; exact hP⟩, hS.F ht⟩) hS.2.2 hd C.2.2.2.2.2.1

theorem j_lret {K : Int64 → MM → Prop} {v : Int64} (C : CX p s m args meth c cc nL own (some .long) D cI cZ ad (AJ n q s.heap.size)) (hd : decode cc pc = .ok (.lreturn, 1)) (hK : K v u) : JX p l e R s m args below meth c D (AJ n q s.heap.size) nL (MQ below (QL D n q ent K (AJ n q s.heap.size)) args s 0 0 (AJ n q s.heap.size)) n q ent u pc lv [.long v] :=
  fun H locs ls hP hD hS hl => W.lret C.1 C.2.1 C.2.2.2.2.1 (fun t ht hW => ⟨⟨v, u, rfl, hK, by show va_P D vwCl (jw n q ent u) t.heap; rw [ht]; exact hP⟩, hS.F ht⟩) hS.2.2 hd C.2.2.2.2.2.1

theorem j_zret {ty : FieldType} {K : Int32 → MM → Prop} {v : Int32} (C : CX p s m args meth c cc nL own (some ty) D cI cZ ad (AJ n q s.heap.size)) (hd : decode cc pc = .ok (.ireturn, 1)) (hn : narrow ty (.int v) = .int v) (hK : K v u) : JX p l e R s m args below meth c D (AJ n q s.heap.size) nL (MQ below (QI D n q ent K (AJ n q s.heap.size)) args s 0 0 (AJ n q s.heap.size)) n q ent u pc lv [.int v] :=
  fun H locs ls hP hD hS hl => W.zret C.1 C.2.1 C.2.2.2.2.1 hn (fun t ht hW => ⟨⟨v, u, rfl, hK, by show va_P D vwCl (jw n q ent u) t.heap; rw [ht]; exact hP⟩, hS.F ht⟩) hS.2.2 hd C.2.2.2.2.2.1
theorem j_vret {K : MM → Prop} (C : CX p s m args meth c cc nL own none D cI cZ ad (AJ n q s.heap.size)) (hd : decode cc pc = .ok (.return_, 1)) (hK : K u) : JX p l e R s m args below meth c D (AJ n q s.heap.size) nL (MQ below (QV D n q ent K (AJ n q s.heap.size)) args s 0 0 (AJ n q s.heap.size)) n q ent u pc lv [] :=
  fun H locs ls hP hD hS hl => W.vret C.1 C.2.1 C.2.2.2.2.1 (fun t ht hW => ⟨⟨u, rfl, hK, by show va_P D vwCl (jw n q ent u) t.heap; rw [ht]; exact hP⟩, hS.F ht⟩) hS.2.2 hd C.2.2.2.2.2.1
/-- a contract out of the walk of the body -/
theorem ct_of {y : MethodName} {maxL : Nat} {rm : Room} {av : List Value} {Qc : (Nat → Prop) → Array Value → State → Outcome → State → Prop} (hy : plainName y.cls = true) (hlen : (lg_sl av).length ≤ maxL)
    (body : ∀ (p : Program) (e : Env) (s : State) (m : MethodId) (args : Array Value) (below : List Frame) (meth : Method) (c : Code), CX p s m args meth c cc maxL y.cls ret D cI cZ ad (AJ n q s.heap.size) → JX p l e rm s m args below meth c D (AJ n q s.heap.size) maxL (MQ below (Qc (AJ n q s.heap.size)) args s 0 0 (AJ n q s.heap.size)) n q ent u 0 (lv_args 0 av) []) : CT l D cI cZ ad n q ent y cc maxL ret rm av u Qc := by
  intro sz
  refine Met.ofW (cc := cc) (maxL := maxL) (ret := ret) (ws' := []) hy rfl ?_
  intro p e s m args below meth c s₁ B hml hv
  obtain ⟨rfl, hsz, hP, hK, hD0, hE⟩ := hv
  subst hsz
  have hown : s.vm.findClass y.cls = some m.cls := findClass_of_methodNamed B.named
  have hl := lv_entry av (n := maxL) hlen
  rw [lg_entry_eq]
  exact body p e s m av.toArray below meth c ⟨B.exec, B.bytes, hml, hown, B.returns, B.notSynchronized, hK, hE, fun q h => Or.inr h⟩ s.heap [] _ hP (jw_AJ _ hD0) va_S.rf hl

theorem run_V (C : CX p s m args meth c cc nL own ret D cI cZ ad A) {y : MethodName} {bytes : ByteArray} {maxL na i : Nat} {ret2 : Option FieldType} {rm : Room} {As st0 : List Value} {Qc : (Nat → Prop) → Array Value → State → Outcome → State → Prop} (F : MFV y bytes maxL ret2 na) {Cn : String} {T : u_T} {N ci : Nat} {fs : List Value} (k : Nat) (hM : CT l D cI cZ ad n q ent y bytes maxL ret2 rm (.ref (q k) :: As) u Qc) (hlink : Cond.methodLink own i y ∈ lw_tbl) (hk : k < n) (he : ent k (u k) = .inr (ci, fs)) (hc : vwCl[ci]? = some (y.cls, T, N)) (hna : As.length = na) (hst : st0 = As.reverse ++ .ref (q k) :: st) (hR : rm.cells = 0 ∧ rm.slots = 0 ∧ rm.frames + 1 ≤ R.frames ∧ 8 + (maxL + 11) + rm.locals ≤ R.locals) (hw8 : (st.map fun v => v.category).sum ≤ 8) (hd : decode cc pc = .ok (.invokevirtual i, 3)) {H : Heap} {locs : List Loc} {ls : Array Slot} (hP : va_P D vwCl (jw n q ent u) H) (hD : va_D A (jw n q ent u)) (hS : va_S A s.heap H locs) (hl : lv_has ls nL lv) :
    va_Run p l e R s m args below meth c H locs 0 0 0 0 (F0 m pc ls st0) st (Qc (AJ n q H.size) (Value.ref (q k) :: As).toArray) (AJ n q H.size) := by
  subst hst
  exact va_runV (As := As) (rest := st) (C := y.cls) (own := own) (Ts := []) ⟨C.1, C.2.1, C.2.2.1, C.2.2.2.1, fun _ h => absurd h List.not_mem_nil⟩ (hM H.size) ⟨⟨hR.1, hR.2.1, hR.2.2.1, hR.2.2.2, fun w hw a2 U hW => by rw [List.mem_singleton] at hw; subst hw; exact gw_warm F.1.2.1 hW (C.w F.1.1 F.1.2.1), List.mem_singleton.mpr rfl, C.w F.1.1 F.1.2.1, C.w F.1.2.2.1, F.1.2.2.2.1, mf_na F.1, C.w hlink⟩, C.w F.2.1, C.w F.2.2⟩
    ⟨(fun a U g mk h => by obtain ⟨h1, h2, h3, h4, h5, h6⟩ := h; exact ⟨h1, h2, h3, va_K.moved (u := U) (U := U.calling g mk a) (Vm.Alike.refl U.vm) h4, h5, h6.calling g mk a⟩), va_recv (ci := ci) (q0 := k) C.2.2.2.2.2.2.1 hP hc ((jw_at hk).trans (by rw [he])), fun U hU hW => ⟨rfl, by rw [hU], by rw [hU]; exact hP, va_K.moved hW.alike C.2.2.2.2.2.2.1, hD.weaken (fun _ _ _ _ => trivial), C.2.2.2.2.2.2.2.1.call hW hU hS (jw_free hD hS C.2.2.2.2.2.2.2.2)⟩⟩ rfl hna hl.1 rfl (lv_room hw8) hd ⟨Nat.zero_le _, Nat.zero_le _⟩

theorem run_VN (C : CX p s m args meth c cc nL own ret D cI cZ ad A) {y : MethodName} {bytes : ByteArray} {maxL na i : Nat} {ret2 : Option FieldType} {rm : Room} {As st0 : List Value} {Qc : (Nat → Prop) → Array Value → State → Outcome → State → Prop} {host : String} (F : MFV y bytes maxL ret2 na) {Cn : String} {T : u_T} {N ci : Nat} {fs : List Value} (k : Nat) (hM : CT l D cI cZ ad n q ent y bytes maxL ret2 rm (.ref (q k) :: As) u Qc) (hlink : Cond.methodLinkNest own i y host ∈ lw_tbl) (hk : k < n) (he : ent k (u k) = .inr (ci, fs)) (hc : vwCl[ci]? = some (y.cls, T, N)) (hna : As.length = na) (hst : st0 = As.reverse ++ .ref (q k) :: st) (hR : rm.cells = 0 ∧ rm.slots = 0 ∧ rm.frames + 1 ≤ R.frames ∧ 8 + (maxL + 11) + rm.locals ≤ R.locals) (hw8 : (st.map fun v => v.category).sum ≤ 8) (hd : decode cc pc = .ok (.invokevirtual i, 3)) {H : Heap} {locs : List Loc} {ls : Array Slot} (hP : va_P D vwCl (jw n q ent u) H) (hD : va_D A (jw n q ent u)) (hS : va_S A s.heap H locs) (hl : lv_has ls nL lv) :
    va_Run p l e R s m args below meth c H locs 0 0 0 0 (F0 m pc ls st0) st (Qc (AJ n q H.size) (Value.ref (q k) :: As).toArray) (AJ n q H.size) := by
  subst hst
  exact va_runVN (As := As) (rest := st) (C := y.cls) (own := own) (Ts := []) ⟨C.1, C.2.1, C.2.2.1, C.2.2.2.1, fun _ h => absurd h List.not_mem_nil⟩ (hM H.size) ⟨⟨⟨hR.1, hR.2.1, hR.2.2.1, hR.2.2.2, fun w hw a2 U hW => by rw [List.mem_singleton] at hw; subst hw; exact gw_warm F.1.2.1 hW (C.w F.1.1 F.1.2.1), List.mem_singleton.mpr rfl⟩, C.w F.1.1 F.1.2.1, C.w F.1.2.2.1, F.1.2.2.2.1, mf_na F.1, C.w hlink⟩, C.w F.2.1, C.w F.2.2⟩
    ⟨(fun a U g mk h => by obtain ⟨h1, h2, h3, h4, h5, h6⟩ := h; exact ⟨h1, h2, h3, va_K.moved (u := U) (U := U.calling g mk a) (Vm.Alike.refl U.vm) h4, h5, h6.calling g mk a⟩), va_recv (ci := ci) (q0 := k) C.2.2.2.2.2.2.1 hP hc ((jw_at hk).trans (by rw [he])), fun U hU hW => ⟨rfl, by rw [hU], by rw [hU]; exact hP, va_K.moved hW.alike C.2.2.2.2.2.2.1, hD.weaken (fun _ _ _ _ => trivial), C.2.2.2.2.2.2.2.1.call hW hU hS (jw_free hD hS C.2.2.2.2.2.2.2.2)⟩⟩ rfl hna hl.1 rfl (lv_room hw8) hd ⟨Nat.zero_le _, Nat.zero_le _⟩

theorem run_S (C : CX p s m args meth c cc nL own ret D cI cZ ad A) {y : MethodName} {bytes : ByteArray} {maxL na i : Nat} {ret2 : Option FieldType} {rm : Room} {As st0 : List Value} {Qc : (Nat → Prop) → Array Value → State → Outcome → State → Prop} (F : MFS y bytes maxL ret2 na) {q2 : Nat → Nat} {ent2 : Nat → (Nat → Int32) → va_E} {u2 : MM} (hM : CT l D cI cZ ad 0 q2 ent2 y bytes maxL ret2 rm As u2 Qc) (hlink : Cond.methodLink own i y ∈ lw_tbl) (hna : As.length = na) (hst : st0 = As.reverse ++ st) (hR : rm.cells = 0 ∧ rm.slots = 0 ∧ rm.frames + 1 ≤ R.frames ∧ 8 + (maxL + 11) + rm.locals ≤ R.locals) (hw8 : (st.map fun v => v.category).sum ≤ 8) (hd : decode cc pc = .ok (.invokestatic i, 3)) {H : Heap} {locs : List Loc} {ls : Array Slot} (hS : va_S A s.heap H locs) (hl : lv_has ls nL lv) :
    va_Run p l e R s m args below meth c H locs 0 0 0 0 (F0 m pc ls st0) st (Qc (AJ 0 q2 H.size) As.toArray) (AJ 0 q2 H.size) := by
  subst hst
  exact va_runS (As := As) (rest := st) (own := own) (Ts := []) ⟨C.1, C.2.1, C.2.2.1, C.2.2.2.1, fun _ h => absurd h List.not_mem_nil⟩ (hM H.size) ⟨⟨hR.1, hR.2.1, hR.2.2.1, hR.2.2.2, fun w hw a2 U hW => by rw [List.mem_singleton] at hw; subst hw; exact gw_warm F.1.2.1 hW (C.w F.1.1 F.1.2.1), List.mem_singleton.mpr rfl, C.w F.1.1 F.1.2.1, C.w F.1.2.2.1, F.1.2.2.2.1, mf_na F.1, C.w hlink⟩, C.w F.2⟩
    ⟨(fun a U g mk h => by obtain ⟨h1, h2, h3, h4, h5, h6⟩ := h; exact ⟨h1, h2, h3, va_K.moved (u := U) (U := U.calling g mk a) (Vm.Alike.refl U.vm) h4, h5, h6.calling g mk a⟩), fun U hU hW => ⟨rfl, by rw [hU], fun k x h => by simp [jw] at h, va_K.moved hW.alike C.2.2.2.2.2.2.1, ⟨fun i j x y h => by simp [jw] at h, fun k x h => by simp [jw] at h⟩, C.2.2.2.2.2.2.2.1.call hW hU hS (fun a h => by rcases h with ⟨k, hk, _⟩ | h; exact absurd hk (Nat.not_lt_zero k); exact C.2.2.2.2.2.2.2.2 a (Nat.le_trans hS.1 h))⟩⟩ rfl hna hl.1 rfl (lv_room hw8) hd ⟨Nat.zero_le _, Nat.zero_le _⟩

theorem run_SN (C : CX p s m args meth c cc nL own ret D cI cZ ad A) {y : MethodName} {bytes : ByteArray} {maxL na i : Nat} {ret2 : Option FieldType} {rm : Room} {As st0 : List Value} {Qc : (Nat → Prop) → Array Value → State → Outcome → State → Prop} {host : String} (F : MFS y bytes maxL ret2 na) {q2 : Nat → Nat} {ent2 : Nat → (Nat → Int32) → va_E} {u2 : MM} (hM : CT l D cI cZ ad 0 q2 ent2 y bytes maxL ret2 rm As u2 Qc) (hlink : Cond.methodLinkNest own i y host ∈ lw_tbl) (hna : As.length = na) (hst : st0 = As.reverse ++ st) (hR : rm.cells = 0 ∧ rm.slots = 0 ∧ rm.frames + 1 ≤ R.frames ∧ 8 + (maxL + 11) + rm.locals ≤ R.locals) (hw8 : (st.map fun v => v.category).sum ≤ 8) (hd : decode cc pc = .ok (.invokestatic i, 3)) {H : Heap} {locs : List Loc} {ls : Array Slot} (hS : va_S A s.heap H locs) (hl : lv_has ls nL lv) :
    va_Run p l e R s m args below meth c H locs 0 0 0 0 (F0 m pc ls st0) st (Qc (AJ 0 q2 H.size) As.toArray) (AJ 0 q2 H.size) := by
  subst hst
  exact va_runSN (As := As) (rest := st) (own := own) (Ts := []) ⟨C.1, C.2.1, C.2.2.1, C.2.2.2.1, fun _ h => absurd h List.not_mem_nil⟩ (hM H.size) ⟨⟨⟨hR.1, hR.2.1, hR.2.2.1, hR.2.2.2, fun w hw a2 U hW => by rw [List.mem_singleton] at hw; subst hw; exact gw_warm F.1.2.1 hW (C.w F.1.1 F.1.2.1), List.mem_singleton.mpr rfl⟩, C.w F.1.1 F.1.2.1, C.w F.1.2.2.1, F.1.2.2.2.1, mf_na F.1, C.w hlink⟩, ⟨C.w F.2, trivial⟩⟩
    ⟨(fun a U g mk h => by obtain ⟨h1, h2, h3, h4, h5, h6⟩ := h; exact ⟨h1, h2, h3, va_K.moved (u := U) (U := U.calling g mk a) (Vm.Alike.refl U.vm) h4, h5, h6.calling g mk a⟩), fun U hU hW => ⟨rfl, by rw [hU], fun k x h => by simp [jw] at h, va_K.moved hW.alike C.2.2.2.2.2.2.1, ⟨fun i j x y h => by simp [jw] at h, fun k x h => by simp [jw] at h⟩, C.2.2.2.2.2.2.2.1.call hW hU hS (fun a h => by rcases h with ⟨k, hk, _⟩ | h; exact absurd hk (Nat.not_lt_zero k); exact C.2.2.2.2.2.2.2.2 a (Nat.le_trans hS.1 h))⟩⟩ rfl hna hl.1 rfl (lv_room hw8) hd ⟨Nat.zero_le _, Nat.zero_le _⟩

theorem j_wi (C : CX p s m args meth c cc nL own ret D cI cZ ad A) {K : Int32 → MM → Prop} {st0 : List Value} {a : Array Value} (hr : ∀ (H : Heap) (locs : List Loc) (ls : Array Slot), va_P D vwCl (jw n q ent u) H → va_D A (jw n q ent u) → va_S A s.heap H locs → lv_has ls nL lv → va_Run p l e R s m args below meth c H locs 0 0 0 0 (F0 m pc ls st0) st (QI D n q ent K (AJ n q H.size) a) (AJ n q H.size)) (kk : ∀ (r : Int32) (u2 : MM), K r u2 → JX p l e R s m args below meth c D A nL Q n q ent u2 (pc + 3) lv (.int r :: st)) : JX p l e R s m args below meth c D A nL Q n q ent u pc lv st0 :=
  fun H locs ls hP hD hS hl => va_calli (hr H locs ls hP hD hS hl) hS (fun a _ h => jw_free hD hS C.2.2.2.2.2.2.2.2 a h) (jw_free hD hS C.2.2.2.2.2.2.2.2) (fun r u2 t H1 locs1 ht hvm hK hB hz hk hS1 => kk r u2 hK H1 locs1 ls (by rw [← ht]; exact hB) (jw_D u2 hD) hS1 hl)
theorem j_ui (C : CX p s m args meth c cc nL own ret D cI cZ ad A) {K : Int32 → MM → Prop} {st0 : List Value} {a : Array Value} {q2 : Nat → Nat} {ent2 : Nat → (Nat → Int32) → va_E} (hr : ∀ (H : Heap) (locs : List Loc) (ls : Array Slot), va_S A s.heap H locs → lv_has ls nL lv → va_Run p l e R s m args below meth c H locs 0 0 0 0 (F0 m pc ls st0) st (QI D 0 q2 ent2 K (AJ 0 q2 H.size) a) (AJ 0 q2 H.size)) (kk : ∀ (r : Int32) (u2 : MM), K r u2 → JX p l e R s m args below meth c D A nL Q n q ent u (pc + 3) lv (.int r :: st)) : JX p l e R s m args below meth c D A nL Q n q ent u pc lv st0 :=
  fun H locs ls hP hD hS hl => by
    have hf : ∀ x, AJ 0 q2 H.size x → H.size ≤ x := fun x h => by
      rcases h with ⟨k, hk, _⟩ | h
      · exact absurd hk (Nat.not_lt_zero k)
      · exact h
    exact va_calli (hr H locs ls hS hl) hS (fun a h1 h => absurd (hf a h) (Nat.not_le.mpr h1)) (fun a h => C.2.2.2.2.2.2.2.2 a (Nat.le_trans hS.1 (hf a h))) (fun r u2 t H1 locs1 ht hvm hK hB hz hk hS1 => kk r u2 hK H1 locs1 ls (hP.kept (fun k x hx => hk x.1 (hP k x hx).lt (fun h => absurd (hf _ h) (Nat.not_le.mpr (hP k x hx).lt)))) hD hS1 hl)

theorem j_wl (C : CX p s m args meth c cc nL own ret D cI cZ ad A) {K : Int64 → MM → Prop} {st0 : List Value} {a : Array Value} (hr : ∀ (H : Heap) (locs : List Loc) (ls : Array Slot), va_P D vwCl (jw n q ent u) H → va_D A (jw n q ent u) → va_S A s.heap H locs → lv_has ls nL lv → va_Run p l e R s m args below meth c H locs 0 0 0 0 (F0 m pc ls st0) st (QL D n q ent K (AJ n q H.size) a) (AJ n q H.size)) (kk : ∀ (r : Int64) (u2 : MM), K r u2 → JX p l e R s m args below meth c D A nL Q n q ent u2 (pc + 3) lv (.long r :: st)) : JX p l e R s m args below meth c D A nL Q n q ent u pc lv st0 :=
  fun H locs ls hP hD hS hl => va_calll (hr H locs ls hP hD hS hl) hS (fun a _ h => jw_free hD hS C.2.2.2.2.2.2.2.2 a h) (jw_free hD hS C.2.2.2.2.2.2.2.2) (fun r u2 t H1 locs1 ht hvm hK hB hz hk hS1 => kk r u2 hK H1 locs1 ls (by rw [← ht]; exact hB) (jw_D u2 hD) hS1 hl)
theorem j_ul (C : CX p s m args meth c cc nL own ret D cI cZ ad A) {K : Int64 → MM → Prop} {st0 : List Value} {a : Array Value} {q2 : Nat → Nat} {ent2 : Nat → (Nat → Int32) → va_E} (hr : ∀ (H : Heap) (locs : List Loc) (ls : Array Slot), va_S A s.heap H locs → lv_has ls nL lv → va_Run p l e R s m args below meth c H locs 0 0 0 0 (F0 m pc ls st0) st (QL D 0 q2 ent2 K (AJ 0 q2 H.size) a) (AJ 0 q2 H.size)) (kk : ∀ (r : Int64) (u2 : MM), K r u2 → JX p l e R s m args below meth c D A nL Q n q ent u (pc + 3) lv (.long r :: st)) : JX p l e R s m args below meth c D A nL Q n q ent u pc lv st0 :=
  fun H locs ls hP hD hS hl => by
    have hf : ∀ x, AJ 0 q2 H.size x → H.size ≤ x := fun x h => by
      rcases h with ⟨k, hk, _⟩ | h
      · exact absurd hk (Nat.not_lt_zero k)
      · exact h
    exact va_calll (hr H locs ls hS hl) hS (fun a h1 h => absurd (hf a h) (Nat.not_le.mpr h1)) (fun a h => C.2.2.2.2.2.2.2.2 a (Nat.le_trans hS.1 (hf a h))) (fun r u2 t H1 locs1 ht hvm hK hB hz hk hS1 => kk r u2 hK H1 locs1 ls (hP.kept (fun k x hx => hk x.1 (hP k x hx).lt (fun h => absurd (hf _ h) (Nat.not_le.mpr (hP k x hx).lt)))) hD hS1 hl)

theorem j_wv (C : CX p s m args meth c cc nL own ret D cI cZ ad A) {K : MM → Prop} {st0 : List Value} {a : Array Value} (hr : ∀ (H : Heap) (locs : List Loc) (ls : Array Slot), va_P D vwCl (jw n q ent u) H → va_D A (jw n q ent u) → va_S A s.heap H locs → lv_has ls nL lv → va_Run p l e R s m args below meth c H locs 0 0 0 0 (F0 m pc ls st0) st (QV D n q ent K (AJ n q H.size) a) (AJ n q H.size)) (kk : ∀ (u2 : MM), K u2 → JX p l e R s m args below meth c D A nL Q n q ent u2 (pc + 3) lv st) : JX p l e R s m args below meth c D A nL Q n q ent u pc lv st0 :=
  fun H locs ls hP hD hS hl => va_callv (hr H locs ls hP hD hS hl) hS (fun a _ h => jw_free hD hS C.2.2.2.2.2.2.2.2 a h) (jw_free hD hS C.2.2.2.2.2.2.2.2) (fun u2 t H1 locs1 ht hvm hK hB hz hk hS1 => kk u2 hK H1 locs1 ls (by rw [← ht]; exact hB) (jw_D u2 hD) hS1 hl)

end JC
end
section
theorem tb_0 : ∀ w ∈ tables_1, w ∈ lw_tbl := fun _ h => List.mem_append_right _ h
theorem tb_1 : ∀ w ∈ tables_1_1, w ∈ lw_tbl := fun w h => tb_0 w (List.mem_append_left _ h)
theorem tb_2 : ∀ w ∈ tables_1_2, w ∈ lw_tbl := fun w h => tb_0 w (List.mem_append_right _ (List.mem_append_left _ h))
theorem tb_3 : ∀ w ∈ tables_1_3, w ∈ lw_tbl := fun w h => tb_0 w (List.mem_append_right _ (List.mem_append_right _ (List.mem_append_left _ h)))
theorem tb_4 : ∀ w ∈ tables_1_4, w ∈ lw_tbl := fun w h => tb_0 w (List.mem_append_right _ (List.mem_append_right _ (List.mem_append_right _ (List.mem_append_left _ h))))
theorem tb_5 : ∀ w ∈ tables_1_5, w ∈ lw_tbl := fun w h => tb_0 w (List.mem_append_right _ (List.mem_append_right _ (List.mem_append_right _ (List.mem_append_right _ (List.mem_append_left _ h)))))
theorem tb_6 : ∀ w ∈ tables_1_6, w ∈ lw_tbl := fun w h => tb_0 w (List.mem_append_right _ (List.mem_append_right _ (List.mem_append_right _ (List.mem_append_right _ (List.mem_append_right _ (h))))))
theorem pv_1 {q : MethodName × Nat} (h : q ∈ lw_privs_1) : Cond.selects q.1.cls q.1 q.1 ∈ lw_tbl := List.mem_append_left _ (List.mem_map.mpr ⟨q, List.mem_append_left _ h, rfl⟩)
theorem pv_2 {q : MethodName × Nat} (h : q ∈ lw_privs_2) : Cond.selects q.1.cls q.1 q.1 ∈ lw_tbl := List.mem_append_left _ (List.mem_map.mpr ⟨q, List.mem_append_right _ (List.mem_append_left _ h), rfl⟩)
theorem pv_3 {q : MethodName × Nat} (h : q ∈ lw_privs_3) : Cond.selects q.1.cls q.1 q.1 ∈ lw_tbl := List.mem_append_left _ (List.mem_map.mpr ⟨q, List.mem_append_right _ (List.mem_append_right _ (List.mem_append_left _ h)), rfl⟩)
theorem pv_4 {q : MethodName × Nat} (h : q ∈ lw_privs_4) : Cond.selects q.1.cls q.1 q.1 ∈ lw_tbl := List.mem_append_left _ (List.mem_map.mpr ⟨q, List.mem_append_right _ (List.mem_append_right _ (List.mem_append_right _ (List.mem_append_left _ h))), rfl⟩)
theorem pv_5 {q : MethodName × Nat} (h : q ∈ lw_privs_5) : Cond.selects q.1.cls q.1 q.1 ∈ lw_tbl := List.mem_append_left _ (List.mem_map.mpr ⟨q, List.mem_append_right _ (List.mem_append_right _ (List.mem_append_right _ (List.mem_append_right _ (List.mem_append_left _ h)))), rfl⟩)
theorem pv_6 {q : MethodName × Nat} (h : q ∈ lw_privs_6) : Cond.selects q.1.cls q.1 q.1 ∈ lw_tbl := List.mem_append_left _ (List.mem_map.mpr ⟨q, List.mem_append_right _ (List.mem_append_right _ (List.mem_append_right _ (List.mem_append_right _ (List.mem_append_right _ (List.mem_append_left _ h))))), rfl⟩)
theorem pv_7 {q : MethodName × Nat} (h : q ∈ lw_privs_7) : Cond.selects q.1.cls q.1 q.1 ∈ lw_tbl := List.mem_append_left _ (List.mem_map.mpr ⟨q, List.mem_append_right _ (List.mem_append_right _ (List.mem_append_right _ (List.mem_append_right _ (List.mem_append_right _ (List.mem_append_right _ (h)))))), rfl⟩)
theorem q_0 : (Cond.initialized RL) ∈ lw_tbl := tb_1 _ (List.mem_of_getElem? (i := 0) (by decide +kernel))
theorem q_1 : (Cond.initialized RX10) ∈ lw_tbl := tb_1 _ (List.mem_of_getElem? (i := 1) (by decide +kernel))
theorem q_2 : (Cond.initialized RX1) ∈ lw_tbl := tb_1 _ (List.mem_of_getElem? (i := 2) (by decide +kernel))
theorem q_3 : (Cond.initialized RX7) ∈ lw_tbl := tb_1 _ (List.mem_of_getElem? (i := 3) (by decide +kernel))
theorem q_4 : (Cond.initialized RX5) ∈ lw_tbl := tb_1 _ (List.mem_of_getElem? (i := 4) (by decide +kernel))
theorem q_5 : (Cond.initialized RX6) ∈ lw_tbl := tb_1 _ (List.mem_of_getElem? (i := 5) (by decide +kernel))
theorem q_6 : (Cond.initialized RX8) ∈ lw_tbl := tb_1 _ (List.mem_of_getElem? (i := 6) (by decide +kernel))
theorem q_7 : (Cond.initialized RX2) ∈ lw_tbl := tb_1 _ (List.mem_of_getElem? (i := 7) (by decide +kernel))
theorem q_8 : (Cond.initialized RX9) ∈ lw_tbl := tb_1 _ (List.mem_of_getElem? (i := 8) (by decide +kernel))
theorem q_9 : (Cond.initialized RX4) ∈ lw_tbl := tb_1 _ (List.mem_of_getElem? (i := 9) (by decide +kernel))
theorem q_10 : (Cond.initialized RJ9) ∈ lw_tbl := tb_1 _ (List.mem_of_getElem? (i := 10) (by decide +kernel))
theorem q_11 : (Cond.initialized RX3) ∈ lw_tbl := tb_1 _ (List.mem_of_getElem? (i := 11) (by decide +kernel))
theorem q_12 : (Cond.initialized RX0) ∈ lw_tbl := tb_1 _ (List.mem_of_getElem? (i := 12) (by decide +kernel))
theorem q_13 : (Cond.initialized RX11) ∈ lw_tbl := tb_1 _ (List.mem_of_getElem? (i := 13) (by decide +kernel))
theorem q_14 : (Cond.initialized RJ10) ∈ lw_tbl := tb_1 _ (List.mem_of_getElem? (i := 14) (by decide +kernel))
theorem q_15 : (Cond.initialized RJ0) ∈ lw_tbl := tb_1 _ (List.mem_of_getElem? (i := 15) (by decide +kernel))
theorem q_16 : (Cond.initialized RJ1) ∈ lw_tbl := tb_1 _ (List.mem_of_getElem? (i := 16) (by decide +kernel))
theorem q_17 : (Cond.initialized RJ3) ∈ lw_tbl := tb_1 _ (List.mem_of_getElem? (i := 17) (by decide +kernel))
theorem q_18 : (Cond.initialized RJ2) ∈ lw_tbl := tb_1 _ (List.mem_of_getElem? (i := 18) (by decide +kernel))
theorem q_19 : (Cond.initialized RJ6) ∈ lw_tbl := tb_1 _ (List.mem_of_getElem? (i := 19) (by decide +kernel))
theorem q_20 : (Cond.classLink RL 7 RX10) ∈ lw_tbl := tb_1 _ (List.mem_of_getElem? (i := 20) (by decide +kernel))
theorem q_21 : (Cond.instantiable RX10 7) ∈ lw_tbl := tb_1 _ (List.mem_of_getElem? (i := 21) (by decide +kernel))
theorem q_22 : (Cond.methodLink RL 9 yX10_init) ∈ lw_tbl := tb_1 _ (List.mem_of_getElem? (i := 22) (by decide +kernel))
theorem q_23 : (Cond.instanceMethod yX10_init) ∈ lw_tbl := tb_1 _ (List.mem_of_getElem? (i := 23) (by decide +kernel))
theorem q_24 : (Cond.code yX10_init cX10_init 1 none) ∈ lw_tbl := tb_1 _ (List.mem_of_getElem? (i := 24) (by decide +kernel))
theorem q_25 : (Cond.methodLink RX10 3 objectInit) ∈ lw_tbl := tb_1 _ (List.mem_of_getElem? (i := 25) (by decide +kernel))
theorem q_26 : (Cond.instanceMethod objectInit) ∈ lw_tbl := tb_1 _ (List.mem_of_getElem? (i := 26) (by decide +kernel))
theorem q_27 : (Cond.classLink RX10 9 RX1) ∈ lw_tbl := tb_1 _ (List.mem_of_getElem? (i := 28) (by decide +kernel))
theorem q_28 : (Cond.instantiable RX1 9) ∈ lw_tbl := tb_1 _ (List.mem_of_getElem? (i := 29) (by decide +kernel))
theorem q_29 : (Cond.methodLinkNest RX10 11 yX1_init RX10) ∈ lw_tbl := tb_1 _ (List.mem_of_getElem? (i := 30) (by decide +kernel))
theorem q_30 : (Cond.instanceMethod yX1_init) ∈ lw_tbl := tb_1 _ (List.mem_of_getElem? (i := 31) (by decide +kernel))
theorem q_31 : (Cond.code yX1_init cX1_init 1 none) ∈ lw_tbl := tb_1 _ (List.mem_of_getElem? (i := 32) (by decide +kernel))
theorem q_32 : (Cond.methodLink RX1 3 objectInit) ∈ lw_tbl := tb_1 _ (List.mem_of_getElem? (i := 33) (by decide +kernel))
theorem q_33 : (Cond.classLink RX1 9 RX7) ∈ lw_tbl := tb_1 _ (List.mem_of_getElem? (i := 34) (by decide +kernel))
theorem q_34 : (Cond.instantiable RX7 2) ∈ lw_tbl := tb_1 _ (List.mem_of_getElem? (i := 35) (by decide +kernel))
theorem q_35 : (Cond.methodLinkNest RX1 11 yX7_init RX10) ∈ lw_tbl := tb_1 _ (List.mem_of_getElem? (i := 36) (by decide +kernel))
theorem q_36 : (Cond.instanceMethod yX7_init) ∈ lw_tbl := tb_1 _ (List.mem_of_getElem? (i := 37) (by decide +kernel))
theorem q_37 : (Cond.code yX7_init cX7_init 1 none) ∈ lw_tbl := tb_1 _ (List.mem_of_getElem? (i := 38) (by decide +kernel))
theorem q_38 : (Cond.methodLink RX7 3 objectInit) ∈ lw_tbl := tb_1 _ (List.mem_of_getElem? (i := 39) (by decide +kernel))
theorem q_39 : (Cond.classLink RX7 9 RX5) ∈ lw_tbl := tb_1 _ (List.mem_of_getElem? (i := 40) (by decide +kernel))
theorem q_40 : (Cond.instantiable RX5 7) ∈ lw_tbl := tb_1 _ (List.mem_of_getElem? (i := 41) (by decide +kernel))
theorem q_41 : (Cond.methodLinkNest RX7 11 yX5_init RX10) ∈ lw_tbl := tb_1 _ (List.mem_of_getElem? (i := 42) (by decide +kernel))
theorem q_42 : (Cond.instanceMethod yX5_init) ∈ lw_tbl := tb_1 _ (List.mem_of_getElem? (i := 43) (by decide +kernel))
theorem q_43 : (Cond.code yX5_init cX5_init 1 none) ∈ lw_tbl := tb_1 _ (List.mem_of_getElem? (i := 44) (by decide +kernel))
theorem q_44 : (Cond.methodLink RX5 3 objectInit) ∈ lw_tbl := tb_1 _ (List.mem_of_getElem? (i := 45) (by decide +kernel))
theorem q_45 : (Cond.classLink RX5 9 RX6) ∈ lw_tbl := tb_1 _ (List.mem_of_getElem? (i := 46) (by decide +kernel))
theorem q_46 : (Cond.instantiable RX6 2) ∈ lw_tbl := tb_1 _ (List.mem_of_getElem? (i := 47) (by decide +kernel))
theorem q_47 : (Cond.methodLinkNest RX5 11 yX6_init RX10) ∈ lw_tbl := tb_1 _ (List.mem_of_getElem? (i := 48) (by decide +kernel))
theorem q_48 : (Cond.instanceMethod yX6_init) ∈ lw_tbl := tb_1 _ (List.mem_of_getElem? (i := 49) (by decide +kernel))
theorem q_49 : (Cond.code yX6_init cX6_init 1 none) ∈ lw_tbl := tb_1 _ (List.mem_of_getElem? (i := 50) (by decide +kernel))
theorem q_50 : (Cond.methodLink RX6 3 objectInit) ∈ lw_tbl := tb_1 _ (List.mem_of_getElem? (i := 51) (by decide +kernel))
theorem q_51 : (Cond.fieldLink RX6 9 RX6 "signs" "[I") ∈ lw_tbl := tb_1 _ (List.mem_of_getElem? (i := 52) (by decide +kernel))
theorem q_52 : (Cond.fieldLink RX6 15 RX6 "size" "I") ∈ lw_tbl := tb_1 _ (List.mem_of_getElem? (i := 53) (by decide +kernel))
theorem q_53 : (Cond.fieldLinkNest RX10 66 RX6 "size" "I" RX10) ∈ lw_tbl := tb_1 _ (List.mem_of_getElem? (i := 54) (by decide +kernel))
theorem q_54 : (Cond.fieldLinkNest RX3 51 RX6 "size" "I" RX10) ∈ lw_tbl := tb_1 _ (List.mem_of_getElem? (i := 55) (by decide +kernel))
theorem q_55 : (Cond.arrayClass .int) ∈ lw_tbl := tb_1 _ (List.mem_of_getElem? (i := 61) (by decide +kernel))
theorem q_56 : (Cond.classLink RX5 18 RX8) ∈ lw_tbl := tb_1 _ (List.mem_of_getElem? (i := 62) (by decide +kernel))
theorem q_57 : (Cond.instantiable RX8 11) ∈ lw_tbl := tb_1 _ (List.mem_of_getElem? (i := 63) (by decide +kernel))
theorem q_58 : (Cond.methodLinkNest RX5 20 yX8_init RX10) ∈ lw_tbl := tb_1 _ (List.mem_of_getElem? (i := 64) (by decide +kernel))
theorem q_59 : (Cond.instanceMethod yX8_init) ∈ lw_tbl := tb_1 _ (List.mem_of_getElem? (i := 65) (by decide +kernel))
theorem q_60 : (Cond.code yX8_init cX8_init 1 none) ∈ lw_tbl := tb_1 _ (List.mem_of_getElem? (i := 66) (by decide +kernel))
theorem q_61 : (Cond.methodLink RX8 3 objectInit) ∈ lw_tbl := tb_1 _ (List.mem_of_getElem? (i := 67) (by decide +kernel))
theorem q_62 : (Cond.fieldLink RX8 9 RX8 "fewer" "I") ∈ lw_tbl := tb_1 _ (List.mem_of_getElem? (i := 68) (by decide +kernel))
theorem q_63 : (Cond.fieldLinkNest RX3 91 RX8 "fewer" "I" RX10) ∈ lw_tbl := tb_1 _ (List.mem_of_getElem? (i := 69) (by decide +kernel))
theorem q_64 : (Cond.fieldLinkNest RX7 107 RX8 "fewer" "I" RX10) ∈ lw_tbl := tb_1 _ (List.mem_of_getElem? (i := 70) (by decide +kernel))
theorem q_65 : (Cond.fieldLinkNest RX10 175 RX8 "fewer" "I" RX10) ∈ lw_tbl := tb_1 _ (List.mem_of_getElem? (i := 71) (by decide +kernel))
theorem q_66 : (Cond.fieldLink RX8 15 RX8 "law" "I") ∈ lw_tbl := tb_1 _ (List.mem_of_getElem? (i := 72) (by decide +kernel))
theorem q_67 : (Cond.fieldLinkNest RX3 96 RX8 "law" "I" RX10) ∈ lw_tbl := tb_1 _ (List.mem_of_getElem? (i := 73) (by decide +kernel))
theorem q_68 : (Cond.fieldLinkNest RX7 119 RX8 "law" "I" RX10) ∈ lw_tbl := tb_1 _ (List.mem_of_getElem? (i := 74) (by decide +kernel))
theorem q_69 : (Cond.fieldLinkNest RX10 178 RX8 "law" "I" RX10) ∈ lw_tbl := tb_1 _ (List.mem_of_getElem? (i := 75) (by decide +kernel))
theorem q_70 : (Cond.fieldLink RX8 18 RX8 "clauses" "I") ∈ lw_tbl := tb_1 _ (List.mem_of_getElem? (i := 76) (by decide +kernel))
theorem q_71 : (Cond.fieldLink RX8 21 RX8 "steps" "I") ∈ lw_tbl := tb_1 _ (List.mem_of_getElem? (i := 77) (by decide +kernel))
theorem q_72 : (Cond.fieldLink RX8 24 RX8 "clauseKinds" "[I") ∈ lw_tbl := tb_1 _ (List.mem_of_getElem? (i := 78) (by decide +kernel))
theorem q_73 : (Cond.fieldLink RX8 28 RX8 "amounts" "[I") ∈ lw_tbl := tb_1 _ (List.mem_of_getElem? (i := 79) (by decide +kernel))
theorem q_74 : (Cond.fieldLink RX8 31 RX8 "starts" "[I") ∈ lw_tbl := tb_1 _ (List.mem_of_getElem? (i := 80) (by decide +kernel))
theorem q_75 : (Cond.fieldLink RX8 34 RX8 "ends" "[I") ∈ lw_tbl := tb_1 _ (List.mem_of_getElem? (i := 81) (by decide +kernel))
theorem q_76 : (Cond.fieldLink RX8 37 RX8 "codes" "[I") ∈ lw_tbl := tb_1 _ (List.mem_of_getElem? (i := 82) (by decide +kernel))
theorem q_77 : (Cond.fieldLink RX8 40 RX8 "leasts" "[I") ∈ lw_tbl := tb_1 _ (List.mem_of_getElem? (i := 83) (by decide +kernel))
theorem q_78 : (Cond.fieldLink RX8 43 RX8 "mosts" "[I") ∈ lw_tbl := tb_1 _ (List.mem_of_getElem? (i := 84) (by decide +kernel))
theorem q_79 : (Cond.classLink RX5 29 RX2) ∈ lw_tbl := tb_1 _ (List.mem_of_getElem? (i := 108) (by decide +kernel))
theorem q_80 : (Cond.instantiable RX2 6) ∈ lw_tbl := tb_1 _ (List.mem_of_getElem? (i := 109) (by decide +kernel))
theorem q_81 : (Cond.methodLinkNest RX5 31 yX2_init RX10) ∈ lw_tbl := tb_1 _ (List.mem_of_getElem? (i := 110) (by decide +kernel))
theorem q_82 : (Cond.instanceMethod yX2_init) ∈ lw_tbl := tb_1 _ (List.mem_of_getElem? (i := 111) (by decide +kernel))
theorem q_83 : (Cond.code yX2_init cX2_init 1 none) ∈ lw_tbl := tb_1 _ (List.mem_of_getElem? (i := 112) (by decide +kernel))
theorem q_84 : (Cond.methodLink RX2 3 objectInit) ∈ lw_tbl := tb_1 _ (List.mem_of_getElem? (i := 113) (by decide +kernel))
theorem q_85 : (Cond.fieldLink RX2 9 RX2 "size" "I") ∈ lw_tbl := tb_1 _ (List.mem_of_getElem? (i := 114) (by decide +kernel))
theorem q_86 : (Cond.fieldLinkNest RX1 57 RX2 "size" "I" RX10) ∈ lw_tbl := tb_1 _ (List.mem_of_getElem? (i := 115) (by decide +kernel))
theorem q_87 : (Cond.fieldLinkNest RX7 49 RX2 "size" "I" RX10) ∈ lw_tbl := tb_1 _ (List.mem_of_getElem? (i := 116) (by decide +kernel))
theorem q_88 : (Cond.fieldLinkNest RX10 106 RX2 "size" "I" RX10) ∈ lw_tbl := tb_1 _ (List.mem_of_getElem? (i := 117) (by decide +kernel))
theorem q_89 : (Cond.fieldLink RX2 15 RX2 "kinds" "[I") ∈ lw_tbl := tb_1 _ (List.mem_of_getElem? (i := 118) (by decide +kernel))
theorem q_90 : (Cond.fieldLinkNest RX7 28 RX2 "kinds" "[I" RX10) ∈ lw_tbl := tb_1 _ (List.mem_of_getElem? (i := 119) (by decide +kernel))
theorem q_91 : (Cond.fieldLinkNest RX10 114 RX2 "kinds" "[I" RX10) ∈ lw_tbl := tb_1 _ (List.mem_of_getElem? (i := 120) (by decide +kernel))
theorem q_92 : (Cond.fieldLink RX2 19 RX2 "values" "[I") ∈ lw_tbl := tb_1 _ (List.mem_of_getElem? (i := 121) (by decide +kernel))
theorem q_93 : (Cond.fieldLinkNest RX7 67 RX2 "values" "[I" RX10) ∈ lw_tbl := tb_1 _ (List.mem_of_getElem? (i := 122) (by decide +kernel))
theorem q_94 : (Cond.fieldLinkNest RX10 118 RX2 "values" "[I" RX10) ∈ lw_tbl := tb_1 _ (List.mem_of_getElem? (i := 123) (by decide +kernel))
theorem q_95 : (Cond.fieldLink RX2 22 RX2 "known" "[I") ∈ lw_tbl := tb_1 _ (List.mem_of_getElem? (i := 124) (by decide +kernel))
theorem q_96 : (Cond.fieldLinkNest RX7 52 RX2 "known" "[I" RX10) ∈ lw_tbl := tb_1 _ (List.mem_of_getElem? (i := 125) (by decide +kernel))
theorem q_97 : (Cond.fieldLinkNest RX10 132 RX2 "known" "[I" RX10) ∈ lw_tbl := tb_1 _ (List.mem_of_getElem? (i := 126) (by decide +kernel))
theorem q_98 : (Cond.fieldLink RX2 25 RX2 "rowSizes" "[I") ∈ lw_tbl := tb_1 _ (List.mem_of_getElem? (i := 127) (by decide +kernel))
theorem q_99 : (Cond.fieldLinkNest RX10 139 RX2 "rowSizes" "[I" RX10) ∈ lw_tbl := tb_1 _ (List.mem_of_getElem? (i := 128) (by decide +kernel))
theorem q_100 : (Cond.fieldLink RX2 28 RX2 "rows" "[I") ∈ lw_tbl := tb_1 _ (List.mem_of_getElem? (i := 129) (by decide +kernel))
theorem q_101 : (Cond.classLink RX5 36 RX9) ∈ lw_tbl := tb_1 _ (List.mem_of_getElem? (i := 143) (by decide +kernel))
theorem q_102 : (Cond.instantiable RX9 6) ∈ lw_tbl := tb_1 _ (List.mem_of_getElem? (i := 144) (by decide +kernel))
theorem q_103 : (Cond.methodLinkNest RX5 38 yX9_init RX10) ∈ lw_tbl := tb_1 _ (List.mem_of_getElem? (i := 145) (by decide +kernel))
theorem q_104 : (Cond.instanceMethod yX9_init) ∈ lw_tbl := tb_1 _ (List.mem_of_getElem? (i := 146) (by decide +kernel))
theorem q_105 : (Cond.code yX9_init cX9_init 1 none) ∈ lw_tbl := tb_1 _ (List.mem_of_getElem? (i := 147) (by decide +kernel))
theorem q_106 : (Cond.methodLink RX9 3 objectInit) ∈ lw_tbl := tb_1 _ (List.mem_of_getElem? (i := 148) (by decide +kernel))
theorem q_107 : (Cond.fieldLink RX9 9 RX9 "date" "I") ∈ lw_tbl := tb_1 _ (List.mem_of_getElem? (i := 149) (by decide +kernel))
theorem q_108 : (Cond.fieldLinkNest RX1 65 RX9 "date" "I" RX10) ∈ lw_tbl := tb_1 _ (List.mem_of_getElem? (i := 150) (by decide +kernel))
theorem q_109 : (Cond.fieldLinkNest RX7 46 RX9 "date" "I" RX10) ∈ lw_tbl := tb_1 _ (List.mem_of_getElem? (i := 151) (by decide +kernel))
theorem q_110 : (Cond.fieldLinkNest RX10 169 RX9 "date" "I" RX10) ∈ lw_tbl := tb_1 _ (List.mem_of_getElem? (i := 152) (by decide +kernel))
theorem q_111 : (Cond.fieldLink RX9 15 RX9 "fines" "I") ∈ lw_tbl := tb_1 _ (List.mem_of_getElem? (i := 153) (by decide +kernel))
theorem q_112 : (Cond.fieldLinkNest RX1 85 RX9 "fines" "I" RX10) ∈ lw_tbl := tb_1 _ (List.mem_of_getElem? (i := 154) (by decide +kernel))
theorem q_113 : (Cond.fieldLinkNest RX7 94 RX9 "fines" "I" RX10) ∈ lw_tbl := tb_1 _ (List.mem_of_getElem? (i := 155) (by decide +kernel))
theorem q_114 : (Cond.fieldLinkNest RX10 172 RX9 "fines" "I" RX10) ∈ lw_tbl := tb_1 _ (List.mem_of_getElem? (i := 156) (by decide +kernel))
theorem q_115 : (Cond.fieldLink RX9 18 RX9 "heard" "I") ∈ lw_tbl := tb_1 _ (List.mem_of_getElem? (i := 157) (by decide +kernel))
theorem q_116 : (Cond.fieldLinkNest RX7 33 RX9 "heard" "I" RX10) ∈ lw_tbl := tb_1 _ (List.mem_of_getElem? (i := 158) (by decide +kernel))
theorem q_117 : (Cond.fieldLinkNest RX1 76 RX9 "heard" "I" RX10) ∈ lw_tbl := tb_1 _ (List.mem_of_getElem? (i := 159) (by decide +kernel))
theorem q_118 : (Cond.fieldLinkNest RX10 121 RX9 "heard" "I" RX10) ∈ lw_tbl := tb_1 _ (List.mem_of_getElem? (i := 160) (by decide +kernel))
theorem q_119 : (Cond.fieldLink RX9 21 RX9 "told" "I") ∈ lw_tbl := tb_1 _ (List.mem_of_getElem? (i := 161) (by decide +kernel))
theorem q_120 : (Cond.fieldLinkNest RX10 129 RX9 "told" "I" RX10) ∈ lw_tbl := tb_1 _ (List.mem_of_getElem? (i := 162) (by decide +kernel))
theorem q_121 : (Cond.fieldLinkNest RX7 104 RX9 "told" "I" RX10) ∈ lw_tbl := tb_1 _ (List.mem_of_getElem? (i := 163) (by decide +kernel))
theorem q_122 : (Cond.fieldLink RX9 24 RX9 "numbers" "[I") ∈ lw_tbl := tb_1 _ (List.mem_of_getElem? (i := 164) (by decide +kernel))
theorem q_123 : (Cond.fieldLinkNest RX7 43 RX9 "numbers" "[I" RX10) ∈ lw_tbl := tb_1 _ (List.mem_of_getElem? (i := 165) (by decide +kernel))
theorem q_124 : (Cond.fieldLinkNest RX10 146 RX9 "numbers" "[I" RX10) ∈ lw_tbl := tb_1 _ (List.mem_of_getElem? (i := 166) (by decide +kernel))
theorem q_125 : (Cond.fieldLink RX9 28 RX9 "days" "[I") ∈ lw_tbl := tb_1 _ (List.mem_of_getElem? (i := 167) (by decide +kernel))
theorem q_126 : (Cond.fieldLinkNest RX10 149 RX9 "days" "[I" RX10) ∈ lw_tbl := tb_1 _ (List.mem_of_getElem? (i := 168) (by decide +kernel))
theorem q_127 : (Cond.fieldLinkNest RX7 116 RX9 "days" "[I" RX10) ∈ lw_tbl := tb_1 _ (List.mem_of_getElem? (i := 169) (by decide +kernel))
theorem q_128 : (Cond.classLink RX5 43 RX4) ∈ lw_tbl := tb_1 _ (List.mem_of_getElem? (i := 183) (by decide +kernel))
theorem q_129 : (Cond.instantiable RX4 3) ∈ lw_tbl := tb_1 _ (List.mem_of_getElem? (i := 184) (by decide +kernel))
theorem q_130 : (Cond.methodLinkNest RX5 45 yX4_init RX10) ∈ lw_tbl := tb_1 _ (List.mem_of_getElem? (i := 185) (by decide +kernel))
theorem q_131 : (Cond.instanceMethod yX4_init) ∈ lw_tbl := tb_1 _ (List.mem_of_getElem? (i := 186) (by decide +kernel))
theorem q_132 : (Cond.code yX4_init cX4_init 2 none) ∈ lw_tbl := tb_1 _ (List.mem_of_getElem? (i := 187) (by decide +kernel))
theorem q_133 : (Cond.methodLink RX4 1 objectInit) ∈ lw_tbl := tb_1 _ (List.mem_of_getElem? (i := 188) (by decide +kernel))
theorem q_134 : (Cond.methodLink RX4 13 Lib.Math.max.name) ∈ lw_tbl := tb_1 _ (List.mem_of_getElem? (i := 189) (by decide +kernel))
theorem q_135 : (Cond.static Lib.Math.max.name) ∈ lw_tbl := tb_1 _ (List.mem_of_getElem? (i := 190) (by decide +kernel))
theorem q_136 : (Cond.code yJ9_max_7cf53 cJ9_max_7cf53 2 (some .int)) ∈ lw_tbl := tb_1 _ (List.mem_of_getElem? (i := 191) (by decide +kernel))
theorem q_137 : (Cond.fieldLink RX4 7 RX4 "size" "I") ∈ lw_tbl := tb_1 _ (List.mem_of_getElem? (i := 192) (by decide +kernel))
theorem q_138 : (Cond.fieldLinkNest RX1 120 RX4 "size" "I" RX10) ∈ lw_tbl := tb_1 _ (List.mem_of_getElem? (i := 193) (by decide +kernel))
theorem q_139 : (Cond.fieldLinkNest RX10 248 RX4 "size" "I" RX10) ∈ lw_tbl := tb_1 _ (List.mem_of_getElem? (i := 194) (by decide +kernel))
theorem q_140 : (Cond.fieldLink RX4 19 RX4 "firsts" "[I") ∈ lw_tbl := tb_1 _ (List.mem_of_getElem? (i := 195) (by decide +kernel))
theorem q_141 : (Cond.fieldLinkNest RX1 127 RX4 "firsts" "[I" RX10) ∈ lw_tbl := tb_1 _ (List.mem_of_getElem? (i := 196) (by decide +kernel))
theorem q_142 : (Cond.fieldLinkNest RX10 274 RX4 "firsts" "[I" RX10) ∈ lw_tbl := tb_1 _ (List.mem_of_getElem? (i := 197) (by decide +kernel))
theorem q_143 : (Cond.fieldLink RX4 23 RX4 "seconds" "[I") ∈ lw_tbl := tb_1 _ (List.mem_of_getElem? (i := 198) (by decide +kernel))
theorem q_144 : (Cond.fieldLinkNest RX1 123 RX4 "seconds" "[I" RX10) ∈ lw_tbl := tb_1 _ (List.mem_of_getElem? (i := 199) (by decide +kernel))
theorem q_145 : (Cond.fieldLinkNest RX10 277 RX4 "seconds" "[I" RX10) ∈ lw_tbl := tb_1 _ (List.mem_of_getElem? (i := 200) (by decide +kernel))
theorem q_146 : (Cond.fieldLink RX5 12 RX5 "tape" "LOneFewer$Tape;") ∈ lw_tbl := tb_1 _ (List.mem_of_getElem? (i := 208) (by decide +kernel))
theorem q_147 : (Cond.fieldLinkNest RX10 56 RX5 "tape" "LOneFewer$Tape;" RX10) ∈ lw_tbl := tb_1 _ (List.mem_of_getElem? (i := 209) (by decide +kernel))
theorem q_148 : (Cond.fieldLink RX5 21 RX5 "town" "LOneFewer$Town;") ∈ lw_tbl := tb_1 _ (List.mem_of_getElem? (i := 210) (by decide +kernel))
theorem q_149 : (Cond.fieldLinkNest RX10 80 RX5 "town" "LOneFewer$Town;" RX10) ∈ lw_tbl := tb_1 _ (List.mem_of_getElem? (i := 211) (by decide +kernel))
theorem q_150 : (Cond.fieldLinkNest RX7 59 RX5 "town" "LOneFewer$Town;" RX10) ∈ lw_tbl := tb_1 _ (List.mem_of_getElem? (i := 212) (by decide +kernel))
theorem q_151 : (Cond.fieldLink RX5 25 RX5 "towns" "I") ∈ lw_tbl := tb_1 _ (List.mem_of_getElem? (i := 213) (by decide +kernel))
theorem q_152 : (Cond.fieldLinkNest RX10 70 RX5 "towns" "I" RX10) ∈ lw_tbl := tb_1 _ (List.mem_of_getElem? (i := 214) (by decide +kernel))
theorem q_153 : (Cond.fieldLink RX5 32 RX5 "people" "LOneFewer$People;") ∈ lw_tbl := tb_1 _ (List.mem_of_getElem? (i := 215) (by decide +kernel))
theorem q_154 : (Cond.fieldLinkNest RX1 51 RX5 "people" "LOneFewer$People;" RX10) ∈ lw_tbl := tb_1 _ (List.mem_of_getElem? (i := 216) (by decide +kernel))
theorem q_155 : (Cond.fieldLinkNest RX7 24 RX5 "people" "LOneFewer$People;" RX10) ∈ lw_tbl := tb_1 _ (List.mem_of_getElem? (i := 217) (by decide +kernel))
theorem q_156 : (Cond.fieldLinkNest RX10 98 RX5 "people" "LOneFewer$People;" RX10) ∈ lw_tbl := tb_1 _ (List.mem_of_getElem? (i := 218) (by decide +kernel))
theorem q_157 : (Cond.fieldLink RX5 39 RX5 "word" "LOneFewer$Word;") ∈ lw_tbl := tb_1 _ (List.mem_of_getElem? (i := 219) (by decide +kernel))
theorem q_158 : (Cond.fieldLinkNest RX1 62 RX5 "word" "LOneFewer$Word;" RX10) ∈ lw_tbl := tb_1 _ (List.mem_of_getElem? (i := 220) (by decide +kernel))
theorem q_159 : (Cond.fieldLinkNest RX10 110 RX5 "word" "LOneFewer$Word;" RX10) ∈ lw_tbl := tb_1 _ (List.mem_of_getElem? (i := 221) (by decide +kernel))
theorem q_160 : (Cond.fieldLink RX5 48 RX5 "seen" "LOneFewer$Rows;") ∈ lw_tbl := tb_1 _ (List.mem_of_getElem? (i := 222) (by decide +kernel))
theorem q_161 : (Cond.fieldLinkNest RX1 116 RX5 "seen" "LOneFewer$Rows;" RX10) ∈ lw_tbl := tb_1 _ (List.mem_of_getElem? (i := 223) (by decide +kernel))
theorem q_162 : (Cond.fieldLinkNest RX10 244 RX5 "seen" "LOneFewer$Rows;" RX10) ∈ lw_tbl := tb_1 _ (List.mem_of_getElem? (i := 224) (by decide +kernel))
theorem q_163 : (Cond.fieldLink RX5 52 RX5 "book" "LOneFewer$Rows;") ∈ lw_tbl := tb_1 _ (List.mem_of_getElem? (i := 225) (by decide +kernel))
theorem q_164 : (Cond.fieldLinkNest RX10 271 RX5 "book" "LOneFewer$Rows;" RX10) ∈ lw_tbl := tb_1 _ (List.mem_of_getElem? (i := 226) (by decide +kernel))
theorem q_165 : (Cond.fieldLink RX7 12 RX7 "state" "LOneFewer$State;") ∈ lw_tbl := tb_2 _ (List.mem_of_getElem? (i := 2) (by decide +kernel))
theorem q_166 : (Cond.fieldLinkNest RX10 23 RX7 "state" "LOneFewer$State;" RX10) ∈ lw_tbl := tb_2 _ (List.mem_of_getElem? (i := 3) (by decide +kernel))
theorem q_167 : (Cond.fieldLinkNest RX1 47 RX7 "state" "LOneFewer$State;" RX10) ∈ lw_tbl := tb_2 _ (List.mem_of_getElem? (i := 4) (by decide +kernel))
theorem q_168 : (Cond.fieldLink RX7 20 RX7 "facts" "[I") ∈ lw_tbl := tb_2 _ (List.mem_of_getElem? (i := 5) (by decide +kernel))
theorem q_169 : (Cond.classLink RX1 18 RX9) ∈ lw_tbl := tb_2 _ (List.mem_of_getElem? (i := 11) (by decide +kernel))
theorem q_170 : (Cond.methodLinkNest RX1 20 yX9_init RX10) ∈ lw_tbl := tb_2 _ (List.mem_of_getElem? (i := 12) (by decide +kernel))
theorem q_171 : (Cond.fieldLink RX1 12 RX1 "telling" "LOneFewer$Telling;") ∈ lw_tbl := tb_2 _ (List.mem_of_getElem? (i := 13) (by decide +kernel))
theorem q_172 : (Cond.fieldLinkNest RX10 18 RX1 "telling" "LOneFewer$Telling;" RX10) ∈ lw_tbl := tb_2 _ (List.mem_of_getElem? (i := 14) (by decide +kernel))
theorem q_173 : (Cond.fieldLink RX1 21 RX1 "trial" "LOneFewer$Word;") ∈ lw_tbl := tb_2 _ (List.mem_of_getElem? (i := 15) (by decide +kernel))
theorem q_174 : (Cond.fieldLinkNest RX10 196 RX1 "trial" "LOneFewer$Word;" RX10) ∈ lw_tbl := tb_2 _ (List.mem_of_getElem? (i := 16) (by decide +kernel))
theorem q_175 : (Cond.fieldLink RX1 25 RX1 "bestWho" "I") ∈ lw_tbl := tb_2 _ (List.mem_of_getElem? (i := 17) (by decide +kernel))
theorem q_176 : (Cond.fieldLinkNest RX10 219 RX1 "bestWho" "I" RX10) ∈ lw_tbl := tb_2 _ (List.mem_of_getElem? (i := 18) (by decide +kernel))
theorem q_177 : (Cond.fieldLink RX1 29 RX1 "bestHeard" "I") ∈ lw_tbl := tb_2 _ (List.mem_of_getElem? (i := 19) (by decide +kernel))
theorem q_178 : (Cond.fieldLinkNest RX10 222 RX1 "bestHeard" "I" RX10) ∈ lw_tbl := tb_2 _ (List.mem_of_getElem? (i := 20) (by decide +kernel))
theorem q_179 : (Cond.fieldLink RX1 32 RX1 "bestFines" "I") ∈ lw_tbl := tb_2 _ (List.mem_of_getElem? (i := 21) (by decide +kernel))
theorem q_180 : (Cond.fieldLinkNest RX10 225 RX1 "bestFines" "I" RX10) ∈ lw_tbl := tb_2 _ (List.mem_of_getElem? (i := 22) (by decide +kernel))
theorem q_181 : (Cond.fieldLink RX1 35 RX1 "choiceSet" "I") ∈ lw_tbl := tb_2 _ (List.mem_of_getElem? (i := 23) (by decide +kernel))
theorem q_182 : (Cond.fieldLinkNest RX10 234 RX1 "choiceSet" "I" RX10) ∈ lw_tbl := tb_2 _ (List.mem_of_getElem? (i := 24) (by decide +kernel))
theorem q_183 : (Cond.fieldLink RX1 38 RX1 "choiceHeard" "I") ∈ lw_tbl := tb_2 _ (List.mem_of_getElem? (i := 25) (by decide +kernel))
theorem q_184 : (Cond.fieldLinkNest RX10 237 RX1 "choiceHeard" "I" RX10) ∈ lw_tbl := tb_2 _ (List.mem_of_getElem? (i := 26) (by decide +kernel))
theorem q_185 : (Cond.fieldLink RX1 41 RX1 "beganWays" "I") ∈ lw_tbl := tb_2 _ (List.mem_of_getElem? (i := 27) (by decide +kernel))
theorem q_186 : (Cond.fieldLinkNest RX10 255 RX1 "beganWays" "I" RX10) ∈ lw_tbl := tb_2 _ (List.mem_of_getElem? (i := 28) (by decide +kernel))
theorem q_187 : (Cond.fieldLink RX1 44 RX1 "beganFirst" "I") ∈ lw_tbl := tb_2 _ (List.mem_of_getElem? (i := 29) (by decide +kernel))
theorem q_188 : (Cond.fieldLinkNest RX10 258 RX1 "beganFirst" "I" RX10) ∈ lw_tbl := tb_2 _ (List.mem_of_getElem? (i := 30) (by decide +kernel))
theorem q_189 : (Cond.classLink RX10 32 RX5) ∈ lw_tbl := tb_2 _ (List.mem_of_getElem? (i := 50) (by decide +kernel))
theorem q_190 : (Cond.methodLinkNest RX10 34 yX5_init RX10) ∈ lw_tbl := tb_2 _ (List.mem_of_getElem? (i := 51) (by decide +kernel))
theorem q_191 : (Cond.classLink RX10 38 RX3) ∈ lw_tbl := tb_2 _ (List.mem_of_getElem? (i := 52) (by decide +kernel))
theorem q_192 : (Cond.instantiable RX3 5) ∈ lw_tbl := tb_2 _ (List.mem_of_getElem? (i := 53) (by decide +kernel))
theorem q_193 : (Cond.methodLinkNest RX10 40 yX3_init RX10) ∈ lw_tbl := tb_2 _ (List.mem_of_getElem? (i := 54) (by decide +kernel))
theorem q_194 : (Cond.instanceMethod yX3_init) ∈ lw_tbl := tb_2 _ (List.mem_of_getElem? (i := 55) (by decide +kernel))
theorem q_195 : (Cond.code yX3_init cX3_init 1 none) ∈ lw_tbl := tb_2 _ (List.mem_of_getElem? (i := 56) (by decide +kernel))
theorem q_196 : (Cond.methodLink RX3 3 objectInit) ∈ lw_tbl := tb_2 _ (List.mem_of_getElem? (i := 57) (by decide +kernel))
theorem q_197 : (Cond.classLink RX3 9 RX6) ∈ lw_tbl := tb_2 _ (List.mem_of_getElem? (i := 58) (by decide +kernel))
theorem q_198 : (Cond.methodLinkNest RX3 11 yX6_init RX10) ∈ lw_tbl := tb_2 _ (List.mem_of_getElem? (i := 59) (by decide +kernel))
theorem q_199 : (Cond.classLink RX3 18 RX8) ∈ lw_tbl := tb_2 _ (List.mem_of_getElem? (i := 60) (by decide +kernel))
theorem q_200 : (Cond.methodLinkNest RX3 20 yX8_init RX10) ∈ lw_tbl := tb_2 _ (List.mem_of_getElem? (i := 61) (by decide +kernel))
theorem q_201 : (Cond.fieldLink RX3 12 RX3 "tape" "LOneFewer$Tape;") ∈ lw_tbl := tb_2 _ (List.mem_of_getElem? (i := 62) (by decide +kernel))
theorem q_202 : (Cond.fieldLink RX3 21 RX3 "town" "LOneFewer$Town;") ∈ lw_tbl := tb_2 _ (List.mem_of_getElem? (i := 63) (by decide +kernel))
theorem q_203 : (Cond.fieldLinkNest RX10 84 RX3 "town" "LOneFewer$Town;" RX10) ∈ lw_tbl := tb_2 _ (List.mem_of_getElem? (i := 64) (by decide +kernel))
theorem q_204 : (Cond.fieldLink RX3 25 RX3 "place" "I") ∈ lw_tbl := tb_2 _ (List.mem_of_getElem? (i := 65) (by decide +kernel))
theorem q_205 : (Cond.fieldLinkNest RX10 77 RX3 "place" "I" RX10) ∈ lw_tbl := tb_2 _ (List.mem_of_getElem? (i := 66) (by decide +kernel))
theorem q_206 : (Cond.fieldLink RX3 29 RX3 "number" "I") ∈ lw_tbl := tb_2 _ (List.mem_of_getElem? (i := 67) (by decide +kernel))
theorem q_207 : (Cond.fieldLink RX3 32 RX3 "hasCondition" "Z") ∈ lw_tbl := tb_2 _ (List.mem_of_getElem? (i := 68) (by decide +kernel))
theorem q_208 : (Cond.classLink RX10 45 RX0) ∈ lw_tbl := tb_2 _ (List.mem_of_getElem? (i := 80) (by decide +kernel))
theorem q_209 : (Cond.instantiable RX0 5) ∈ lw_tbl := tb_2 _ (List.mem_of_getElem? (i := 81) (by decide +kernel))
theorem q_210 : (Cond.methodLinkNest RX10 47 yX0_init RX10) ∈ lw_tbl := tb_2 _ (List.mem_of_getElem? (i := 82) (by decide +kernel))
theorem q_211 : (Cond.instanceMethod yX0_init) ∈ lw_tbl := tb_2 _ (List.mem_of_getElem? (i := 83) (by decide +kernel))
theorem q_212 : (Cond.code yX0_init cX0_init 1 none) ∈ lw_tbl := tb_2 _ (List.mem_of_getElem? (i := 84) (by decide +kernel))
theorem q_213 : (Cond.methodLink RX0 3 objectInit) ∈ lw_tbl := tb_2 _ (List.mem_of_getElem? (i := 85) (by decide +kernel))
theorem q_214 : (Cond.fieldLink RX0 9 RX0 "kind" "I") ∈ lw_tbl := tb_2 _ (List.mem_of_getElem? (i := 86) (by decide +kernel))
theorem q_215 : (Cond.fieldLink RX0 15 RX0 "i" "I") ∈ lw_tbl := tb_2 _ (List.mem_of_getElem? (i := 87) (by decide +kernel))
theorem q_216 : (Cond.fieldLink RX0 18 RX0 "v" "I") ∈ lw_tbl := tb_2 _ (List.mem_of_getElem? (i := 88) (by decide +kernel))
theorem q_217 : (Cond.fieldLink RX0 21 RX0 "ran" "I") ∈ lw_tbl := tb_2 _ (List.mem_of_getElem? (i := 89) (by decide +kernel))
theorem q_218 : (Cond.fieldLinkNest RX10 280 RX0 "ran" "I" RX10) ∈ lw_tbl := tb_2 _ (List.mem_of_getElem? (i := 90) (by decide +kernel))
theorem q_219 : (Cond.fieldLink RX0 24 RX0 "bodies" "[I") ∈ lw_tbl := tb_2 _ (List.mem_of_getElem? (i := 91) (by decide +kernel))
theorem q_220 : (Cond.fieldLinkNest RX10 300 RX0 "bodies" "[I" RX10) ∈ lw_tbl := tb_2 _ (List.mem_of_getElem? (i := 92) (by decide +kernel))
theorem q_221 : (Cond.fieldLink RX10 12 RX10 "asking" "LOneFewer$Asking;") ∈ lw_tbl := tb_2 _ (List.mem_of_getElem? (i := 104) (by decide +kernel))
theorem q_222 : (Cond.fieldLink RX10 22 RX10 "telling" "LOneFewer$Telling;") ∈ lw_tbl := tb_2 _ (List.mem_of_getElem? (i := 105) (by decide +kernel))
theorem q_223 : (Cond.fieldLink RX10 29 RX10 "now" "LOneFewer$State;") ∈ lw_tbl := tb_2 _ (List.mem_of_getElem? (i := 106) (by decide +kernel))
theorem q_224 : (Cond.fieldLink RX10 35 RX10 "kept" "LOneFewer$State;") ∈ lw_tbl := tb_2 _ (List.mem_of_getElem? (i := 107) (by decide +kernel))
theorem q_225 : (Cond.fieldLink RX10 41 RX10 "reader" "LOneFewer$Reader;") ∈ lw_tbl := tb_2 _ (List.mem_of_getElem? (i := 108) (by decide +kernel))
theorem q_226 : (Cond.fieldLink RX10 48 RX10 "acts" "LOneFewer$Acts;") ∈ lw_tbl := tb_2 _ (List.mem_of_getElem? (i := 109) (by decide +kernel))
theorem q_227 : (Cond.fieldLink RX10 52 RX10 "isKept" "Z") ∈ lw_tbl := tb_2 _ (List.mem_of_getElem? (i := 110) (by decide +kernel))
theorem q_228 : (Cond.methodLink RL 13 yX10_feed) ∈ lw_tbl := tb_2 _ (List.mem_of_getElem? (i := 126) (by decide +kernel))
theorem q_229 : (Cond.instanceMethod yX10_feed) ∈ lw_tbl := tb_2 _ (List.mem_of_getElem? (i := 127) (by decide +kernel))
theorem q_230 : (Cond.selects RX10 yX10_feed yX10_feed) ∈ lw_tbl := tb_2 _ (List.mem_of_getElem? (i := 128) (by decide +kernel))
theorem q_231 : (Cond.code yX10_feed cX10_feed 2 (some .int)) ∈ lw_tbl := tb_2 _ (List.mem_of_getElem? (i := 129) (by decide +kernel))
theorem q_232 : (Cond.methodLinkNest RX10 60 yX6_add RX10) ∈ lw_tbl := tb_2 _ (List.mem_of_getElem? (i := 130) (by decide +kernel))
theorem q_233 : (Cond.instanceMethod yX6_add) ∈ lw_tbl := tb_2 _ (List.mem_of_getElem? (i := 132) (by decide +kernel))
theorem q_234 : (Cond.code yX6_add cX6_add 2 (some .boolean)) ∈ lw_tbl := tb_2 _ (List.mem_of_getElem? (i := 133) (by decide +kernel))
theorem q_235 : (Cond.methodLink RL 18 yX10_town) ∈ lw_tbl := tb_2 _ (List.mem_of_getElem? (i := 134) (by decide +kernel))
theorem q_236 : (Cond.instanceMethod yX10_town) ∈ lw_tbl := tb_2 _ (List.mem_of_getElem? (i := 135) (by decide +kernel))
theorem q_237 : (Cond.selects RX10 yX10_town yX10_town) ∈ lw_tbl := tb_2 _ (List.mem_of_getElem? (i := 136) (by decide +kernel))
theorem q_238 : (Cond.code yX10_town cX10_town 2 (some .int)) ∈ lw_tbl := tb_2 _ (List.mem_of_getElem? (i := 137) (by decide +kernel))
theorem q_239 : (Cond.methodLinkNest RX10 73 yX3_read RX10) ∈ lw_tbl := tb_2 _ (List.mem_of_getElem? (i := 138) (by decide +kernel))
theorem q_240 : (Cond.instanceMethod yX3_read) ∈ lw_tbl := tb_2 _ (List.mem_of_getElem? (i := 140) (by decide +kernel))
theorem q_241 : (Cond.code yX3_read cX3_read 3 (some .boolean)) ∈ lw_tbl := tb_2 _ (List.mem_of_getElem? (i := 141) (by decide +kernel))
theorem q_242 : (Cond.methodLinkNest RX3 36 yX6_copyFrom RX10) ∈ lw_tbl := tb_2 _ (List.mem_of_getElem? (i := 142) (by decide +kernel))
theorem q_243 : (Cond.instanceMethod yX6_copyFrom) ∈ lw_tbl := tb_2 _ (List.mem_of_getElem? (i := 144) (by decide +kernel))
theorem q_244 : (Cond.code yX6_copyFrom cX6_copyFrom 2 none) ∈ lw_tbl := tb_2 _ (List.mem_of_getElem? (i := 145) (by decide +kernel))
theorem q_245 : (Cond.methodLink RX6 19 arraycopyName) ∈ lw_tbl := tb_2 _ (List.mem_of_getElem? (i := 146) (by decide +kernel))
theorem q_246 : (Cond.static arraycopyName) ∈ lw_tbl := tb_2 _ (List.mem_of_getElem? (i := 147) (by decide +kernel))
theorem q_247 : (Cond.native arraycopyName) ∈ lw_tbl := tb_2 _ (List.mem_of_getElem? (i := 148) (by decide +kernel))
theorem q_248 : (Cond.methodLinkNest RX3 40 yX8_clear RX10) ∈ lw_tbl := tb_2 _ (List.mem_of_getElem? (i := 149) (by decide +kernel))
theorem q_249 : (Cond.instanceMethod yX8_clear) ∈ lw_tbl := tb_2 _ (List.mem_of_getElem? (i := 151) (by decide +kernel))
theorem q_250 : (Cond.code yX8_clear cX8_clear 1 none) ∈ lw_tbl := tb_2 _ (List.mem_of_getElem? (i := 152) (by decide +kernel))
theorem q_251 : (Cond.methodLink RX3 43 yX3_readHead) ∈ lw_tbl := tb_2 _ (List.mem_of_getElem? (i := 153) (by decide +kernel))
theorem q_252 : (Cond.instanceMethod yX3_readHead) ∈ lw_tbl := tb_2 _ (List.mem_of_getElem? (i := 155) (by decide +kernel))
theorem q_253 : (Cond.code yX3_readHead cX3_readHead 1 (some .boolean)) ∈ lw_tbl := tb_2 _ (List.mem_of_getElem? (i := 156) (by decide +kernel))
theorem q_254 : (Cond.methodLinkNest RX3 58 yX6_at RX10) ∈ lw_tbl := tb_2 _ (List.mem_of_getElem? (i := 157) (by decide +kernel))
theorem q_255 : (Cond.instanceMethod yX6_at) ∈ lw_tbl := tb_2 _ (List.mem_of_getElem? (i := 159) (by decide +kernel))
theorem q_256 : (Cond.code yX6_at cX6_at 2 (some .int)) ∈ lw_tbl := tb_2 _ (List.mem_of_getElem? (i := 160) (by decide +kernel))
theorem q_257 : (Cond.methodLink RX3 62 yX3_readShun) ∈ lw_tbl := tb_2 _ (List.mem_of_getElem? (i := 161) (by decide +kernel))
theorem q_258 : (Cond.instanceMethod yX3_readShun) ∈ lw_tbl := tb_2 _ (List.mem_of_getElem? (i := 163) (by decide +kernel))
theorem q_259 : (Cond.code yX3_readShun cX3_readShun 1 (some .boolean)) ∈ lw_tbl := tb_2 _ (List.mem_of_getElem? (i := 164) (by decide +kernel))
theorem q_260 : (Cond.methodLink RX3 76 yX3_readWord) ∈ lw_tbl := tb_2 _ (List.mem_of_getElem? (i := 166) (by decide +kernel))
theorem q_261 : (Cond.instanceMethod yX3_readWord) ∈ lw_tbl := tb_2 _ (List.mem_of_getElem? (i := 168) (by decide +kernel))
theorem q_262 : (Cond.code yX3_readWord cX3_readWord 3 (some .boolean)) ∈ lw_tbl := tb_2 _ (List.mem_of_getElem? (i := 169) (by decide +kernel))
theorem q_263 : (Cond.methodLink RX3 112 yJ0_length_8abf5) ∈ lw_tbl := tb_2 _ (List.mem_of_getElem? (i := 170) (by decide +kernel))
theorem q_264 : (Cond.instanceMethod yJ0_length_8abf5) ∈ lw_tbl := tb_2 _ (List.mem_of_getElem? (i := 171) (by decide +kernel))
theorem q_265 : (Cond.selects RJ0 yJ0_length_8abf5 yJ0_length_8abf5) ∈ lw_tbl := tb_2 _ (List.mem_of_getElem? (i := 172) (by decide +kernel))
theorem q_266 : (Cond.code yJ0_length_8abf5 cJ0_length_8abf5 1 (some .int)) ∈ lw_tbl := tb_2 _ (List.mem_of_getElem? (i := 173) (by decide +kernel))
theorem q_267 : (Cond.methodLink RJ0 335 yJ0_coder_7d493) ∈ lw_tbl := tb_2 _ (List.mem_of_getElem? (i := 174) (by decide +kernel))
theorem q_268 : (Cond.instanceMethod yJ0_coder_7d493) ∈ lw_tbl := tb_2 _ (List.mem_of_getElem? (i := 175) (by decide +kernel))
theorem q_269 : (Cond.selects RJ0 yJ0_coder_7d493 yJ0_coder_7d493) ∈ lw_tbl := tb_2 _ (List.mem_of_getElem? (i := 176) (by decide +kernel))
theorem q_270 : (Cond.code yJ0_coder_7d493 cJ0_coder_7d493 1 (some .byte)) ∈ lw_tbl := tb_2 _ (List.mem_of_getElem? (i := 177) (by decide +kernel))
theorem q_271 : (Cond.fieldLink RJ0 38 RJ0 "COMPACT_STRINGS" "Z") ∈ lw_tbl := tb_2 _ (List.mem_of_getElem? (i := 178) (by decide +kernel))
theorem q_272 : (Cond.methodLink RX3 118 yJ0_charAt_5068e) ∈ lw_tbl := tb_2 _ (List.mem_of_getElem? (i := 180) (by decide +kernel))
theorem q_273 : (Cond.instanceMethod yJ0_charAt_5068e) ∈ lw_tbl := tb_2 _ (List.mem_of_getElem? (i := 181) (by decide +kernel))
theorem q_274 : (Cond.selects RJ0 yJ0_charAt_5068e yJ0_charAt_5068e) ∈ lw_tbl := tb_2 _ (List.mem_of_getElem? (i := 182) (by decide +kernel))
theorem q_275 : (Cond.code yJ0_charAt_5068e cJ0_charAt_5068e 2 (some .char)) ∈ lw_tbl := tb_2 _ (List.mem_of_getElem? (i := 183) (by decide +kernel))
theorem q_276 : (Cond.methodLink RJ0 492 yJ0_isLatin1_aae02) ∈ lw_tbl := tb_2 _ (List.mem_of_getElem? (i := 184) (by decide +kernel))
theorem q_277 : (Cond.instanceMethod yJ0_isLatin1_aae02) ∈ lw_tbl := tb_2 _ (List.mem_of_getElem? (i := 185) (by decide +kernel))
theorem q_278 : (Cond.selects RJ0 yJ0_isLatin1_aae02 yJ0_isLatin1_aae02) ∈ lw_tbl := tb_2 _ (List.mem_of_getElem? (i := 186) (by decide +kernel))
theorem q_279 : (Cond.code yJ0_isLatin1_aae02 cJ0_isLatin1_aae02 1 (some .boolean)) ∈ lw_tbl := tb_2 _ (List.mem_of_getElem? (i := 187) (by decide +kernel))
theorem q_280 : (Cond.methodLink RJ0 495 yJ1_charAt_3b067) ∈ lw_tbl := tb_2 _ (List.mem_of_getElem? (i := 188) (by decide +kernel))
theorem q_281 : (Cond.static yJ1_charAt_3b067) ∈ lw_tbl := tb_2 _ (List.mem_of_getElem? (i := 189) (by decide +kernel))
theorem q_282 : (Cond.code yJ1_charAt_3b067 cJ1_charAt_3b067 2 (some .char)) ∈ lw_tbl := tb_2 _ (List.mem_of_getElem? (i := 190) (by decide +kernel))
theorem q_283 : (Cond.methodLink RJ1 9 yJ0_checkIndex_df160) ∈ lw_tbl := tb_2 _ (List.mem_of_getElem? (i := 191) (by decide +kernel))
theorem q_284 : (Cond.static yJ0_checkIndex_df160) ∈ lw_tbl := tb_2 _ (List.mem_of_getElem? (i := 192) (by decide +kernel))
theorem q_285 : (Cond.code yJ0_checkIndex_df160 cJ0_checkIndex_df160 2 none) ∈ lw_tbl := tb_2 _ (List.mem_of_getElem? (i := 193) (by decide +kernel))
theorem q_286 : (Cond.fieldLink RJ0 1053 RJ3 "SIOOBE_FORMATTER" "Ljava/util/function/BiFunction;") ∈ lw_tbl := tb_2 _ (List.mem_of_getElem? (i := 194) (by decide +kernel))
theorem q_287 : (Cond.methodLink RJ0 1059 yJ3_checkIndex_8e157) ∈ lw_tbl := tb_2 _ (List.mem_of_getElem? (i := 196) (by decide +kernel))
theorem q_288 : (Cond.static yJ3_checkIndex_8e157) ∈ lw_tbl := tb_2 _ (List.mem_of_getElem? (i := 197) (by decide +kernel))
theorem q_289 : (Cond.code yJ3_checkIndex_8e157 cJ3_checkIndex_8e157 3 (some .int)) ∈ lw_tbl := tb_2 _ (List.mem_of_getElem? (i := 198) (by decide +kernel))
theorem q_290 : (Cond.methodLink RJ0 498 yJ2_charAt_3b067) ∈ lw_tbl := tb_2 _ (List.mem_of_getElem? (i := 199) (by decide +kernel))
theorem q_291 : (Cond.static yJ2_charAt_3b067) ∈ lw_tbl := tb_2 _ (List.mem_of_getElem? (i := 200) (by decide +kernel))
theorem q_292 : (Cond.code yJ2_charAt_3b067 cJ2_charAt_3b067 2 (some .char)) ∈ lw_tbl := tb_2 _ (List.mem_of_getElem? (i := 201) (by decide +kernel))
theorem q_293 : (Cond.methodLink RJ2 67 yJ2_checkIndex_2214a) ∈ lw_tbl := tb_2 _ (List.mem_of_getElem? (i := 202) (by decide +kernel))
theorem q_294 : (Cond.static yJ2_checkIndex_2214a) ∈ lw_tbl := tb_2 _ (List.mem_of_getElem? (i := 203) (by decide +kernel))
theorem q_295 : (Cond.code yJ2_checkIndex_2214a cJ2_checkIndex_2214a 2 none) ∈ lw_tbl := tb_2 _ (List.mem_of_getElem? (i := 204) (by decide +kernel))
theorem q_296 : (Cond.methodLink RJ2 48 yJ2_length_9d52b) ∈ lw_tbl := tb_2 _ (List.mem_of_getElem? (i := 205) (by decide +kernel))
theorem q_297 : (Cond.static yJ2_length_9d52b) ∈ lw_tbl := tb_2 _ (List.mem_of_getElem? (i := 206) (by decide +kernel))
theorem q_298 : (Cond.code yJ2_length_9d52b cJ2_length_9d52b 1 (some .int)) ∈ lw_tbl := tb_2 _ (List.mem_of_getElem? (i := 207) (by decide +kernel))
theorem q_299 : (Cond.methodLink RJ2 414 yJ0_checkIndex_df160) ∈ lw_tbl := tb_2 _ (List.mem_of_getElem? (i := 208) (by decide +kernel))
theorem q_300 : (Cond.methodLink RJ2 71 yJ2_getChar_3b067) ∈ lw_tbl := tb_2 _ (List.mem_of_getElem? (i := 209) (by decide +kernel))
theorem q_301 : (Cond.static yJ2_getChar_3b067) ∈ lw_tbl := tb_2 _ (List.mem_of_getElem? (i := 210) (by decide +kernel))
theorem q_302 : (Cond.code yJ2_getChar_3b067 cJ2_getChar_3b067 2 (some .char)) ∈ lw_tbl := tb_2 _ (List.mem_of_getElem? (i := 211) (by decide +kernel))
theorem q_303 : (Cond.fieldLink RJ2 44 RJ2 "$assertionsDisabled" "Z") ∈ lw_tbl := tb_2 _ (List.mem_of_getElem? (i := 212) (by decide +kernel))
theorem q_304 : (Cond.fieldLink RJ2 59 RJ2 "HI_BYTE_SHIFT" "I") ∈ lw_tbl := tb_2 _ (List.mem_of_getElem? (i := 214) (by decide +kernel))
theorem q_305 : (Cond.fieldLink RJ2 63 RJ2 "LO_BYTE_SHIFT" "I") ∈ lw_tbl := tb_2 _ (List.mem_of_getElem? (i := 216) (by decide +kernel))
theorem q_306 : (Cond.methodLink RX3 54 yX3_skip) ∈ lw_tbl := tb_2 _ (List.mem_of_getElem? (i := 218) (by decide +kernel))
theorem q_307 : (Cond.instanceMethod yX3_skip) ∈ lw_tbl := tb_2 _ (List.mem_of_getElem? (i := 220) (by decide +kernel))
theorem q_308 : (Cond.code yX3_skip cX3_skip 2 (some .boolean)) ∈ lw_tbl := tb_2 _ (List.mem_of_getElem? (i := 221) (by decide +kernel))
theorem q_309 : (Cond.methodLinkNest RX3 80 yX8_addClause RX10) ∈ lw_tbl := tb_2 _ (List.mem_of_getElem? (i := 222) (by decide +kernel))
theorem q_310 : (Cond.instanceMethod yX8_addClause) ∈ lw_tbl := tb_2 _ (List.mem_of_getElem? (i := 224) (by decide +kernel))
theorem q_311 : (Cond.code yX8_addClause cX8_addClause 3 none) ∈ lw_tbl := tb_2 _ (List.mem_of_getElem? (i := 225) (by decide +kernel))
theorem q_312 : (Cond.methodLink RX3 65 yX3_readFewer) ∈ lw_tbl := tb_2 _ (List.mem_of_getElem? (i := 226) (by decide +kernel))
theorem q_313 : (Cond.instanceMethod yX3_readFewer) ∈ lw_tbl := tb_2 _ (List.mem_of_getElem? (i := 228) (by decide +kernel))
theorem q_314 : (Cond.code yX3_readFewer cX3_readFewer 1 (some .boolean)) ∈ lw_tbl := tb_2 _ (List.mem_of_getElem? (i := 229) (by decide +kernel))
theorem q_315 : (Cond.methodLink RX3 86 yX3_readNumber) ∈ lw_tbl := tb_2 _ (List.mem_of_getElem? (i := 231) (by decide +kernel))
theorem q_316 : (Cond.instanceMethod yX3_readNumber) ∈ lw_tbl := tb_2 _ (List.mem_of_getElem? (i := 233) (by decide +kernel))
theorem q_317 : (Cond.code yX3_readNumber cX3_readNumber 3 (some .boolean)) ∈ lw_tbl := tb_2 _ (List.mem_of_getElem? (i := 234) (by decide +kernel))
theorem q_318 : (Cond.methodLink RX3 68 yX3_readFine) ∈ lw_tbl := tb_2 _ (List.mem_of_getElem? (i := 235) (by decide +kernel))
theorem q_319 : (Cond.instanceMethod yX3_readFine) ∈ lw_tbl := tb_2 _ (List.mem_of_getElem? (i := 237) (by decide +kernel))
theorem q_320 : (Cond.code yX3_readFine cX3_readFine 1 (some .boolean)) ∈ lw_tbl := tb_2 _ (List.mem_of_getElem? (i := 238) (by decide +kernel))
theorem q_321 : (Cond.methodLink RX3 71 yX3_readLaw) ∈ lw_tbl := tb_3 _ (List.mem_of_getElem? (i := 0) (by decide +kernel))
theorem q_322 : (Cond.instanceMethod yX3_readLaw) ∈ lw_tbl := tb_3 _ (List.mem_of_getElem? (i := 2) (by decide +kernel))
theorem q_323 : (Cond.code yX3_readLaw cX3_readLaw 1 (some .boolean)) ∈ lw_tbl := tb_3 _ (List.mem_of_getElem? (i := 3) (by decide +kernel))
theorem q_324 : (Cond.methodLink RX3 47 yX3_readEither) ∈ lw_tbl := tb_3 _ (List.mem_of_getElem? (i := 5) (by decide +kernel))
theorem q_325 : (Cond.instanceMethod yX3_readEither) ∈ lw_tbl := tb_3 _ (List.mem_of_getElem? (i := 7) (by decide +kernel))
theorem q_326 : (Cond.code yX3_readEither cX3_readEither 5 (some .boolean)) ∈ lw_tbl := tb_3 _ (List.mem_of_getElem? (i := 8) (by decide +kernel))
theorem q_327 : (Cond.methodLink RX3 99 yX3_readPart) ∈ lw_tbl := tb_3 _ (List.mem_of_getElem? (i := 9) (by decide +kernel))
theorem q_328 : (Cond.instanceMethod yX3_readPart) ∈ lw_tbl := tb_3 _ (List.mem_of_getElem? (i := 11) (by decide +kernel))
theorem q_329 : (Cond.code yX3_readPart cX3_readPart 3 (some .boolean)) ∈ lw_tbl := tb_3 _ (List.mem_of_getElem? (i := 12) (by decide +kernel))
theorem q_330 : (Cond.methodLink RX3 106 yX3_readTest) ∈ lw_tbl := tb_3 _ (List.mem_of_getElem? (i := 13) (by decide +kernel))
theorem q_331 : (Cond.instanceMethod yX3_readTest) ∈ lw_tbl := tb_3 _ (List.mem_of_getElem? (i := 15) (by decide +kernel))
theorem q_332 : (Cond.code yX3_readTest cX3_readTest 3 (some .boolean)) ∈ lw_tbl := tb_3 _ (List.mem_of_getElem? (i := 16) (by decide +kernel))
theorem q_333 : (Cond.methodLink RX3 109 yX3_factOf) ∈ lw_tbl := tb_3 _ (List.mem_of_getElem? (i := 17) (by decide +kernel))
theorem q_334 : (Cond.instanceMethod yX3_factOf) ∈ lw_tbl := tb_3 _ (List.mem_of_getElem? (i := 19) (by decide +kernel))
theorem q_335 : (Cond.code yX3_factOf cX3_factOf 2 (some .int)) ∈ lw_tbl := tb_3 _ (List.mem_of_getElem? (i := 20) (by decide +kernel))
theorem q_336 : (Cond.methodLinkNest RX3 102 yX8_addStep RX10) ∈ lw_tbl := tb_3 _ (List.mem_of_getElem? (i := 21) (by decide +kernel))
theorem q_337 : (Cond.instanceMethod yX8_addStep) ∈ lw_tbl := tb_3 _ (List.mem_of_getElem? (i := 23) (by decide +kernel))
theorem q_338 : (Cond.code yX8_addStep cX8_addStep 4 none) ∈ lw_tbl := tb_3 _ (List.mem_of_getElem? (i := 24) (by decide +kernel))
theorem q_339 : (Cond.methodLinkNest RX10 85 yX8_copyFrom RX10) ∈ lw_tbl := tb_3 _ (List.mem_of_getElem? (i := 25) (by decide +kernel))
theorem q_340 : (Cond.instanceMethod yX8_copyFrom) ∈ lw_tbl := tb_3 _ (List.mem_of_getElem? (i := 27) (by decide +kernel))
theorem q_341 : (Cond.code yX8_copyFrom cX8_copyFrom 2 none) ∈ lw_tbl := tb_3 _ (List.mem_of_getElem? (i := 28) (by decide +kernel))
theorem q_342 : (Cond.methodLink RX8 50 arraycopyName) ∈ lw_tbl := tb_3 _ (List.mem_of_getElem? (i := 29) (by decide +kernel))
theorem q_343 : (Cond.arrayClass .byte) ∈ lw_tbl := tb_3 _ (List.mem_of_getElem? (i := 30) (by decide +kernel))
theorem q_344 : (Cond.methodLink RL 23 yX10_person) ∈ lw_tbl := tb_3 _ (List.mem_of_getElem? (i := 31) (by decide +kernel))
theorem q_345 : (Cond.instanceMethod yX10_person) ∈ lw_tbl := tb_3 _ (List.mem_of_getElem? (i := 32) (by decide +kernel))
theorem q_346 : (Cond.selects RX10 yX10_person yX10_person) ∈ lw_tbl := tb_3 _ (List.mem_of_getElem? (i := 33) (by decide +kernel))
theorem q_347 : (Cond.code yX10_person cX10_person 3 (some .int)) ∈ lw_tbl := tb_3 _ (List.mem_of_getElem? (i := 34) (by decide +kernel))
theorem q_348 : (Cond.methodLink RX10 91 yX10_isIn) ∈ lw_tbl := tb_3 _ (List.mem_of_getElem? (i := 35) (by decide +kernel))
theorem q_349 : (Cond.static yX10_isIn) ∈ lw_tbl := tb_3 _ (List.mem_of_getElem? (i := 36) (by decide +kernel))
theorem q_350 : (Cond.code yX10_isIn cX10_isIn 2 (some .boolean)) ∈ lw_tbl := tb_3 _ (List.mem_of_getElem? (i := 37) (by decide +kernel))
theorem q_351 : (Cond.methodLink RX10 95 yX10_isNumber) ∈ lw_tbl := tb_3 _ (List.mem_of_getElem? (i := 38) (by decide +kernel))
theorem q_352 : (Cond.static yX10_isNumber) ∈ lw_tbl := tb_3 _ (List.mem_of_getElem? (i := 39) (by decide +kernel))
theorem q_353 : (Cond.code yX10_isNumber cX10_isNumber 1 (some .boolean)) ∈ lw_tbl := tb_3 _ (List.mem_of_getElem? (i := 40) (by decide +kernel))
theorem q_354 : (Cond.methodLinkNest RX10 102 yX2_add RX10) ∈ lw_tbl := tb_3 _ (List.mem_of_getElem? (i := 41) (by decide +kernel))
theorem q_355 : (Cond.instanceMethod yX2_add) ∈ lw_tbl := tb_3 _ (List.mem_of_getElem? (i := 43) (by decide +kernel))
theorem q_356 : (Cond.code yX2_add cX2_add 3 (some .boolean)) ∈ lw_tbl := tb_3 _ (List.mem_of_getElem? (i := 44) (by decide +kernel))
theorem q_357 : (Cond.methodLink RL 28 yX10_of) ∈ lw_tbl := tb_3 _ (List.mem_of_getElem? (i := 45) (by decide +kernel))
theorem q_358 : (Cond.instanceMethod yX10_of) ∈ lw_tbl := tb_3 _ (List.mem_of_getElem? (i := 46) (by decide +kernel))
theorem q_359 : (Cond.selects RX10 yX10_of yX10_of) ∈ lw_tbl := tb_3 _ (List.mem_of_getElem? (i := 47) (by decide +kernel))
theorem q_360 : (Cond.code yX10_of cX10_of 4 (some .int)) ∈ lw_tbl := tb_3 _ (List.mem_of_getElem? (i := 48) (by decide +kernel))
theorem q_361 : (Cond.methodLinkNest RX10 107 yX2_has RX10) ∈ lw_tbl := tb_3 _ (List.mem_of_getElem? (i := 49) (by decide +kernel))
theorem q_362 : (Cond.instanceMethod yX2_has) ∈ lw_tbl := tb_3 _ (List.mem_of_getElem? (i := 51) (by decide +kernel))
theorem q_363 : (Cond.code yX2_has cX2_has 2 (some .boolean)) ∈ lw_tbl := tb_3 _ (List.mem_of_getElem? (i := 52) (by decide +kernel))
theorem q_364 : (Cond.methodLinkNest RX2 31 yX10_isIn RX10) ∈ lw_tbl := tb_3 _ (List.mem_of_getElem? (i := 53) (by decide +kernel))
theorem q_365 : (Cond.methodLink RX10 126 yX10_hasBit) ∈ lw_tbl := tb_3 _ (List.mem_of_getElem? (i := 54) (by decide +kernel))
theorem q_366 : (Cond.static yX10_hasBit) ∈ lw_tbl := tb_3 _ (List.mem_of_getElem? (i := 55) (by decide +kernel))
theorem q_367 : (Cond.code yX10_hasBit cX10_hasBit 2 (some .boolean)) ∈ lw_tbl := tb_3 _ (List.mem_of_getElem? (i := 56) (by decide +kernel))
theorem q_368 : (Cond.methodLinkNest RX10 135 yX7_fineOf RX10) ∈ lw_tbl := tb_3 _ (List.mem_of_getElem? (i := 57) (by decide +kernel))
theorem q_369 : (Cond.instanceMethod yX7_fineOf) ∈ lw_tbl := tb_3 _ (List.mem_of_getElem? (i := 59) (by decide +kernel))
theorem q_370 : (Cond.code yX7_fineOf cX7_fineOf 3 (some .int)) ∈ lw_tbl := tb_3 _ (List.mem_of_getElem? (i := 60) (by decide +kernel))
theorem q_371 : (Cond.methodLink RX7 55 yX7_setFacts) ∈ lw_tbl := tb_3 _ (List.mem_of_getElem? (i := 61) (by decide +kernel))
theorem q_372 : (Cond.instanceMethod yX7_setFacts) ∈ lw_tbl := tb_3 _ (List.mem_of_getElem? (i := 63) (by decide +kernel))
theorem q_373 : (Cond.code yX7_setFacts cX7_setFacts 4 none) ∈ lw_tbl := tb_3 _ (List.mem_of_getElem? (i := 64) (by decide +kernel))
theorem q_374 : (Cond.methodLinkNest RX7 39 yX10_hasBit RX10) ∈ lw_tbl := tb_3 _ (List.mem_of_getElem? (i := 65) (by decide +kernel))
theorem q_375 : (Cond.methodLinkNest RX7 63 yX8_weigh RX10) ∈ lw_tbl := tb_3 _ (List.mem_of_getElem? (i := 66) (by decide +kernel))
theorem q_376 : (Cond.instanceMethod yX8_weigh) ∈ lw_tbl := tb_3 _ (List.mem_of_getElem? (i := 68) (by decide +kernel))
theorem q_377 : (Cond.code yX8_weigh cX8_weigh 5 (some .int)) ∈ lw_tbl := tb_3 _ (List.mem_of_getElem? (i := 69) (by decide +kernel))
theorem q_378 : (Cond.methodLink RX8 46 yX8_holds) ∈ lw_tbl := tb_3 _ (List.mem_of_getElem? (i := 70) (by decide +kernel))
theorem q_379 : (Cond.instanceMethod yX8_holds) ∈ lw_tbl := tb_3 _ (List.mem_of_getElem? (i := 72) (by decide +kernel))
theorem q_380 : (Cond.code yX8_holds cX8_holds 7 (some .boolean)) ∈ lw_tbl := tb_3 _ (List.mem_of_getElem? (i := 73) (by decide +kernel))
theorem q_381 : (Cond.methodLink RX10 142 yX10_ofTeller) ∈ lw_tbl := tb_3 _ (List.mem_of_getElem? (i := 74) (by decide +kernel))
theorem q_382 : (Cond.instanceMethod yX10_ofTeller) ∈ lw_tbl := tb_3 _ (List.mem_of_getElem? (i := 76) (by decide +kernel))
theorem q_383 : (Cond.code yX10_ofTeller cX10_ofTeller 5 (some .int)) ∈ lw_tbl := tb_3 _ (List.mem_of_getElem? (i := 77) (by decide +kernel))
theorem q_384 : (Cond.methodLinkNest RX10 152 yX7_mayOf RX10) ∈ lw_tbl := tb_3 _ (List.mem_of_getElem? (i := 78) (by decide +kernel))
theorem q_385 : (Cond.instanceMethod yX7_mayOf) ∈ lw_tbl := tb_3 _ (List.mem_of_getElem? (i := 80) (by decide +kernel))
theorem q_386 : (Cond.code yX7_mayOf cX7_mayOf 5 (some .int)) ∈ lw_tbl := tb_3 _ (List.mem_of_getElem? (i := 81) (by decide +kernel))
theorem q_387 : (Cond.methodLinkNest RX10 155 yX7_askedOf RX10) ∈ lw_tbl := tb_3 _ (List.mem_of_getElem? (i := 82) (by decide +kernel))
theorem q_388 : (Cond.instanceMethod yX7_askedOf) ∈ lw_tbl := tb_3 _ (List.mem_of_getElem? (i := 84) (by decide +kernel))
theorem q_389 : (Cond.code yX7_askedOf cX7_askedOf 5 (some .int)) ∈ lw_tbl := tb_3 _ (List.mem_of_getElem? (i := 85) (by decide +kernel))
theorem q_390 : (Cond.methodLinkNest RX10 158 yX2_pick RX10) ∈ lw_tbl := tb_3 _ (List.mem_of_getElem? (i := 86) (by decide +kernel))
theorem q_391 : (Cond.instanceMethod yX2_pick) ∈ lw_tbl := tb_3 _ (List.mem_of_getElem? (i := 88) (by decide +kernel))
theorem q_392 : (Cond.code yX2_pick cX2_pick 7 (some .int)) ∈ lw_tbl := tb_3 _ (List.mem_of_getElem? (i := 89) (by decide +kernel))
theorem q_393 : (Cond.methodLink RX2 35 yJ6_bitCount_0f7a4) ∈ lw_tbl := tb_3 _ (List.mem_of_getElem? (i := 90) (by decide +kernel))
theorem q_394 : (Cond.static yJ6_bitCount_0f7a4) ∈ lw_tbl := tb_3 _ (List.mem_of_getElem? (i := 91) (by decide +kernel))
theorem q_395 : (Cond.code yJ6_bitCount_0f7a4 cJ6_bitCount_0f7a4 1 (some .int)) ∈ lw_tbl := tb_3 _ (List.mem_of_getElem? (i := 92) (by decide +kernel))
theorem q_396 : (Cond.constant RJ6 265 (1431655765)) ∈ lw_tbl := tb_3 _ (List.mem_of_getElem? (i := 93) (by decide +kernel))
theorem q_397 : (Cond.constant RJ6 266 (858993459)) ∈ lw_tbl := tb_3 _ (List.mem_of_getElem? (i := 94) (by decide +kernel))
theorem q_398 : (Cond.constant RJ6 267 (252645135)) ∈ lw_tbl := tb_3 _ (List.mem_of_getElem? (i := 95) (by decide +kernel))
theorem q_399 : (Cond.methodLink RX2 41 Lib.Math.min.name) ∈ lw_tbl := tb_3 _ (List.mem_of_getElem? (i := 96) (by decide +kernel))
theorem q_400 : (Cond.static Lib.Math.min.name) ∈ lw_tbl := tb_3 _ (List.mem_of_getElem? (i := 97) (by decide +kernel))
theorem q_401 : (Cond.code yJ9_min_7cf53 cJ9_min_7cf53 2 (some .int)) ∈ lw_tbl := tb_3 _ (List.mem_of_getElem? (i := 98) (by decide +kernel))
theorem q_402 : (Cond.methodLink RX2 47 yX2_pickFromRow) ∈ lw_tbl := tb_3 _ (List.mem_of_getElem? (i := 99) (by decide +kernel))
theorem q_403 : (Cond.instanceMethod yX2_pickFromRow) ∈ lw_tbl := tb_3 _ (List.mem_of_getElem? (i := 101) (by decide +kernel))
theorem q_404 : (Cond.code yX2_pickFromRow cX2_pickFromRow 6 (some .int)) ∈ lw_tbl := tb_3 _ (List.mem_of_getElem? (i := 102) (by decide +kernel))
theorem q_405 : (Cond.methodLink RX2 51 yX2_pickNext) ∈ lw_tbl := tb_3 _ (List.mem_of_getElem? (i := 103) (by decide +kernel))
theorem q_406 : (Cond.instanceMethod yX2_pickNext) ∈ lw_tbl := tb_3 _ (List.mem_of_getElem? (i := 105) (by decide +kernel))
theorem q_407 : (Cond.code yX2_pickNext cX2_pickNext 5 (some .int)) ∈ lw_tbl := tb_3 _ (List.mem_of_getElem? (i := 106) (by decide +kernel))
theorem q_408 : (Cond.methodLinkNest RX2 54 yX10_hasBit RX10) ∈ lw_tbl := tb_3 _ (List.mem_of_getElem? (i := 107) (by decide +kernel))
theorem q_409 : (Cond.methodLink RX2 57 yX2_isAhead) ∈ lw_tbl := tb_3 _ (List.mem_of_getElem? (i := 108) (by decide +kernel))
theorem q_410 : (Cond.instanceMethod yX2_isAhead) ∈ lw_tbl := tb_3 _ (List.mem_of_getElem? (i := 110) (by decide +kernel))
theorem q_411 : (Cond.code yX2_isAhead cX2_isAhead 4 (some .boolean)) ∈ lw_tbl := tb_3 _ (List.mem_of_getElem? (i := 111) (by decide +kernel))
theorem q_412 : (Cond.methodLink RL 32 yX10_know) ∈ lw_tbl := tb_3 _ (List.mem_of_getElem? (i := 112) (by decide +kernel))
theorem q_413 : (Cond.instanceMethod yX10_know) ∈ lw_tbl := tb_3 _ (List.mem_of_getElem? (i := 113) (by decide +kernel))
theorem q_414 : (Cond.selects RX10 yX10_know yX10_know) ∈ lw_tbl := tb_3 _ (List.mem_of_getElem? (i := 114) (by decide +kernel))
theorem q_415 : (Cond.code yX10_know cX10_know 5 (some .int)) ∈ lw_tbl := tb_3 _ (List.mem_of_getElem? (i := 115) (by decide +kernel))
theorem q_416 : (Cond.methodLinkNest RX10 162 yX2_acquaint RX10) ∈ lw_tbl := tb_3 _ (List.mem_of_getElem? (i := 116) (by decide +kernel))
theorem q_417 : (Cond.instanceMethod yX2_acquaint) ∈ lw_tbl := tb_3 _ (List.mem_of_getElem? (i := 118) (by decide +kernel))
theorem q_418 : (Cond.code yX2_acquaint cX2_acquaint 4 none) ∈ lw_tbl := tb_3 _ (List.mem_of_getElem? (i := 119) (by decide +kernel))
theorem q_419 : (Cond.methodLink RL 37 yX10_row) ∈ lw_tbl := tb_3 _ (List.mem_of_getElem? (i := 120) (by decide +kernel))
theorem q_420 : (Cond.instanceMethod yX10_row) ∈ lw_tbl := tb_3 _ (List.mem_of_getElem? (i := 121) (by decide +kernel))
theorem q_421 : (Cond.selects RX10 yX10_row yX10_row) ∈ lw_tbl := tb_3 _ (List.mem_of_getElem? (i := 122) (by decide +kernel))
theorem q_422 : (Cond.code yX10_row cX10_row 4 (some .int)) ∈ lw_tbl := tb_3 _ (List.mem_of_getElem? (i := 123) (by decide +kernel))
theorem q_423 : (Cond.methodLinkNest RX10 166 yX2_addToRow RX10) ∈ lw_tbl := tb_3 _ (List.mem_of_getElem? (i := 124) (by decide +kernel))
theorem q_424 : (Cond.instanceMethod yX2_addToRow) ∈ lw_tbl := tb_3 _ (List.mem_of_getElem? (i := 126) (by decide +kernel))
theorem q_425 : (Cond.code yX2_addToRow cX2_addToRow 3 (some .boolean)) ∈ lw_tbl := tb_3 _ (List.mem_of_getElem? (i := 127) (by decide +kernel))
theorem q_426 : (Cond.methodLink RL 41 yX10_told) ∈ lw_tbl := tb_3 _ (List.mem_of_getElem? (i := 128) (by decide +kernel))
theorem q_427 : (Cond.instanceMethod yX10_told) ∈ lw_tbl := tb_3 _ (List.mem_of_getElem? (i := 129) (by decide +kernel))
theorem q_428 : (Cond.selects RX10 yX10_told yX10_told) ∈ lw_tbl := tb_3 _ (List.mem_of_getElem? (i := 130) (by decide +kernel))
theorem q_429 : (Cond.code yX10_told cX10_told 2 (some .int)) ∈ lw_tbl := tb_3 _ (List.mem_of_getElem? (i := 131) (by decide +kernel))
theorem q_430 : (Cond.methodLink RL 45 yX10_begin) ∈ lw_tbl := tb_3 _ (List.mem_of_getElem? (i := 132) (by decide +kernel))
theorem q_431 : (Cond.instanceMethod yX10_begin) ∈ lw_tbl := tb_3 _ (List.mem_of_getElem? (i := 133) (by decide +kernel))
theorem q_432 : (Cond.selects RX10 yX10_begin yX10_begin) ∈ lw_tbl := tb_3 _ (List.mem_of_getElem? (i := 134) (by decide +kernel))
theorem q_433 : (Cond.code yX10_begin cX10_begin 3 (some .int)) ∈ lw_tbl := tb_3 _ (List.mem_of_getElem? (i := 135) (by decide +kernel))
theorem q_434 : (Cond.methodLinkNest RX10 181 yX9_startWith RX10) ∈ lw_tbl := tb_3 _ (List.mem_of_getElem? (i := 136) (by decide +kernel))
theorem q_435 : (Cond.instanceMethod yX9_startWith) ∈ lw_tbl := tb_3 _ (List.mem_of_getElem? (i := 138) (by decide +kernel))
theorem q_436 : (Cond.code yX9_startWith cX9_startWith 4 none) ∈ lw_tbl := tb_3 _ (List.mem_of_getElem? (i := 139) (by decide +kernel))
theorem q_437 : (Cond.methodLink RL 49 yX10_day) ∈ lw_tbl := tb_3 _ (List.mem_of_getElem? (i := 140) (by decide +kernel))
theorem q_438 : (Cond.instanceMethod yX10_day) ∈ lw_tbl := tb_3 _ (List.mem_of_getElem? (i := 141) (by decide +kernel))
theorem q_439 : (Cond.selects RX10 yX10_day yX10_day) ∈ lw_tbl := tb_3 _ (List.mem_of_getElem? (i := 142) (by decide +kernel))
theorem q_440 : (Cond.code yX10_day cX10_day 1 (some .int)) ∈ lw_tbl := tb_3 _ (List.mem_of_getElem? (i := 143) (by decide +kernel))
theorem q_441 : (Cond.methodLinkNest RX10 185 yX7_goDay RX10) ∈ lw_tbl := tb_3 _ (List.mem_of_getElem? (i := 144) (by decide +kernel))
theorem q_442 : (Cond.instanceMethod yX7_goDay) ∈ lw_tbl := tb_3 _ (List.mem_of_getElem? (i := 146) (by decide +kernel))
theorem q_443 : (Cond.code yX7_goDay cX7_goDay 12 (some .int)) ∈ lw_tbl := tb_3 _ (List.mem_of_getElem? (i := 147) (by decide +kernel))
theorem q_444 : (Cond.methodLinkNest RX7 70 yX9_yetToTell RX10) ∈ lw_tbl := tb_3 _ (List.mem_of_getElem? (i := 148) (by decide +kernel))
theorem q_445 : (Cond.instanceMethod yX9_yetToTell) ∈ lw_tbl := tb_3 _ (List.mem_of_getElem? (i := 150) (by decide +kernel))
theorem q_446 : (Cond.code yX9_yetToTell cX9_yetToTell 1 (some .int)) ∈ lw_tbl := tb_3 _ (List.mem_of_getElem? (i := 151) (by decide +kernel))
theorem q_447 : (Cond.methodLinkNest RX7 74 yX2_deafOn RX10) ∈ lw_tbl := tb_3 _ (List.mem_of_getElem? (i := 152) (by decide +kernel))
theorem q_448 : (Cond.instanceMethod yX2_deafOn) ∈ lw_tbl := tb_3 _ (List.mem_of_getElem? (i := 154) (by decide +kernel))
theorem q_449 : (Cond.code yX2_deafOn cX2_deafOn 4 (some .int)) ∈ lw_tbl := tb_3 _ (List.mem_of_getElem? (i := 155) (by decide +kernel))
theorem q_450 : (Cond.methodLink RX7 78 yX7_askedOf) ∈ lw_tbl := tb_3 _ (List.mem_of_getElem? (i := 156) (by decide +kernel))
theorem q_451 : (Cond.methodLink RX7 82 yX7_mayOf) ∈ lw_tbl := tb_3 _ (List.mem_of_getElem? (i := 157) (by decide +kernel))
theorem q_452 : (Cond.methodLinkNest RX7 85 yX2_pick RX10) ∈ lw_tbl := tb_3 _ (List.mem_of_getElem? (i := 158) (by decide +kernel))
theorem q_453 : (Cond.methodLink RX7 89 yJ6_bitCount_0f7a4) ∈ lw_tbl := tb_3 _ (List.mem_of_getElem? (i := 159) (by decide +kernel))
theorem q_454 : (Cond.methodLink RX7 97 yX7_fineOf) ∈ lw_tbl := tb_3 _ (List.mem_of_getElem? (i := 160) (by decide +kernel))
theorem q_455 : (Cond.methodLink RX7 100 yX7_hand) ∈ lw_tbl := tb_3 _ (List.mem_of_getElem? (i := 161) (by decide +kernel))
theorem q_456 : (Cond.instanceMethod yX7_hand) ∈ lw_tbl := tb_3 _ (List.mem_of_getElem? (i := 163) (by decide +kernel))
theorem q_457 : (Cond.code yX7_hand cX7_hand 7 none) ∈ lw_tbl := tb_3 _ (List.mem_of_getElem? (i := 164) (by decide +kernel))
theorem q_458 : (Cond.methodLink RX7 110 Lib.Math.max.name) ∈ lw_tbl := tb_3 _ (List.mem_of_getElem? (i := 165) (by decide +kernel))
theorem q_459 : (Cond.methodLink RX7 122 Lib.Math.min.name) ∈ lw_tbl := tb_3 _ (List.mem_of_getElem? (i := 166) (by decide +kernel))
theorem q_460 : (Cond.methodLink RL 53 yX10_sum) ∈ lw_tbl := tb_3 _ (List.mem_of_getElem? (i := 167) (by decide +kernel))
theorem q_461 : (Cond.instanceMethod yX10_sum) ∈ lw_tbl := tb_3 _ (List.mem_of_getElem? (i := 168) (by decide +kernel))
theorem q_462 : (Cond.selects RX10 yX10_sum yX10_sum) ∈ lw_tbl := tb_3 _ (List.mem_of_getElem? (i := 169) (by decide +kernel))
theorem q_463 : (Cond.code yX10_sum cX10_sum 2 (some .long)) ∈ lw_tbl := tb_3 _ (List.mem_of_getElem? (i := 170) (by decide +kernel))
theorem q_464 : (Cond.constantLong RX10 189 (-9223372036854775808)) ∈ lw_tbl := tb_3 _ (List.mem_of_getElem? (i := 171) (by decide +kernel))
theorem q_465 : (Cond.methodLinkNest RX10 191 yX8_sumOf RX10) ∈ lw_tbl := tb_3 _ (List.mem_of_getElem? (i := 172) (by decide +kernel))
theorem q_466 : (Cond.instanceMethod yX8_sumOf) ∈ lw_tbl := tb_3 _ (List.mem_of_getElem? (i := 174) (by decide +kernel))
theorem q_467 : (Cond.code yX8_sumOf cX8_sumOf 5 (some .long)) ∈ lw_tbl := tb_3 _ (List.mem_of_getElem? (i := 175) (by decide +kernel))
theorem q_468 : (Cond.methodLink RL 58 yX10_enough) ∈ lw_tbl := tb_3 _ (List.mem_of_getElem? (i := 176) (by decide +kernel))
theorem q_469 : (Cond.instanceMethod yX10_enough) ∈ lw_tbl := tb_3 _ (List.mem_of_getElem? (i := 177) (by decide +kernel))
theorem q_470 : (Cond.selects RX10 yX10_enough yX10_enough) ∈ lw_tbl := tb_3 _ (List.mem_of_getElem? (i := 178) (by decide +kernel))
theorem q_471 : (Cond.code yX10_enough cX10_enough 3 (some .int)) ∈ lw_tbl := tb_3 _ (List.mem_of_getElem? (i := 179) (by decide +kernel))
theorem q_472 : (Cond.constant RX10 195 (999999999)) ∈ lw_tbl := tb_3 _ (List.mem_of_getElem? (i := 180) (by decide +kernel))
theorem q_473 : (Cond.methodLink RL 62 yX10_end) ∈ lw_tbl := tb_3 _ (List.mem_of_getElem? (i := 181) (by decide +kernel))
theorem q_474 : (Cond.instanceMethod yX10_end) ∈ lw_tbl := tb_3 _ (List.mem_of_getElem? (i := 182) (by decide +kernel))
theorem q_475 : (Cond.selects RX10 yX10_end yX10_end) ∈ lw_tbl := tb_3 _ (List.mem_of_getElem? (i := 183) (by decide +kernel))
theorem q_476 : (Cond.code yX10_end cX10_end 4 (some .int)) ∈ lw_tbl := tb_3 _ (List.mem_of_getElem? (i := 184) (by decide +kernel))
theorem q_477 : (Cond.methodLinkNest RX10 199 yX9_copyFrom RX10) ∈ lw_tbl := tb_3 _ (List.mem_of_getElem? (i := 185) (by decide +kernel))
theorem q_478 : (Cond.instanceMethod yX9_copyFrom) ∈ lw_tbl := tb_3 _ (List.mem_of_getElem? (i := 187) (by decide +kernel))
theorem q_479 : (Cond.code yX9_copyFrom cX9_copyFrom 2 none) ∈ lw_tbl := tb_3 _ (List.mem_of_getElem? (i := 188) (by decide +kernel))
theorem q_480 : (Cond.methodLink RX9 31 arraycopyName) ∈ lw_tbl := tb_3 _ (List.mem_of_getElem? (i := 189) (by decide +kernel))
theorem q_481 : (Cond.methodLinkNest RX10 202 yX7_goOn RX10) ∈ lw_tbl := tb_3 _ (List.mem_of_getElem? (i := 190) (by decide +kernel))
theorem q_482 : (Cond.instanceMethod yX7_goOn) ∈ lw_tbl := tb_3 _ (List.mem_of_getElem? (i := 192) (by decide +kernel))
theorem q_483 : (Cond.code yX7_goOn cX7_goOn 6 (some .int)) ∈ lw_tbl := tb_3 _ (List.mem_of_getElem? (i := 193) (by decide +kernel))
theorem q_484 : (Cond.methodLink RX7 125 yX7_goDay) ∈ lw_tbl := tb_3 _ (List.mem_of_getElem? (i := 194) (by decide +kernel))
theorem q_485 : (Cond.methodLink RX10 205 yJ6_bitCount_0f7a4) ∈ lw_tbl := tb_3 _ (List.mem_of_getElem? (i := 195) (by decide +kernel))
theorem q_486 : (Cond.methodLinkNest RX10 211 yX2_all RX10) ∈ lw_tbl := tb_3 _ (List.mem_of_getElem? (i := 196) (by decide +kernel))
theorem q_487 : (Cond.instanceMethod yX2_all) ∈ lw_tbl := tb_3 _ (List.mem_of_getElem? (i := 198) (by decide +kernel))
theorem q_488 : (Cond.code yX2_all cX2_all 1 (some .int)) ∈ lw_tbl := tb_3 _ (List.mem_of_getElem? (i := 199) (by decide +kernel))
theorem q_489 : (Cond.methodLink RL 66 yX10_best) ∈ lw_tbl := tb_3 _ (List.mem_of_getElem? (i := 200) (by decide +kernel))
theorem q_490 : (Cond.instanceMethod yX10_best) ∈ lw_tbl := tb_3 _ (List.mem_of_getElem? (i := 201) (by decide +kernel))
theorem q_491 : (Cond.selects RX10 yX10_best yX10_best) ∈ lw_tbl := tb_3 _ (List.mem_of_getElem? (i := 202) (by decide +kernel))
theorem q_492 : (Cond.code yX10_best cX10_best 3 (some .int)) ∈ lw_tbl := tb_3 _ (List.mem_of_getElem? (i := 203) (by decide +kernel))
theorem q_493 : (Cond.methodLinkNest RX10 215 yX1_findBest RX10) ∈ lw_tbl := tb_3 _ (List.mem_of_getElem? (i := 204) (by decide +kernel))
theorem q_494 : (Cond.instanceMethod yX1_findBest) ∈ lw_tbl := tb_3 _ (List.mem_of_getElem? (i := 206) (by decide +kernel))
theorem q_495 : (Cond.code yX1_findBest cX1_findBest 5 none) ∈ lw_tbl := tb_3 _ (List.mem_of_getElem? (i := 207) (by decide +kernel))
theorem q_496 : (Cond.methodLinkNest RX1 68 yX9_startWith RX10) ∈ lw_tbl := tb_3 _ (List.mem_of_getElem? (i := 208) (by decide +kernel))
theorem q_497 : (Cond.methodLinkNest RX1 72 yX7_goOn RX10) ∈ lw_tbl := tb_3 _ (List.mem_of_getElem? (i := 209) (by decide +kernel))
theorem q_498 : (Cond.methodLink RX1 79 yJ6_bitCount_0f7a4) ∈ lw_tbl := tb_3 _ (List.mem_of_getElem? (i := 210) (by decide +kernel))
theorem q_499 : (Cond.methodLink RL 70 yX10_choice) ∈ lw_tbl := tb_3 _ (List.mem_of_getElem? (i := 211) (by decide +kernel))
theorem q_500 : (Cond.instanceMethod yX10_choice) ∈ lw_tbl := tb_3 _ (List.mem_of_getElem? (i := 212) (by decide +kernel))
theorem q_501 : (Cond.selects RX10 yX10_choice yX10_choice) ∈ lw_tbl := tb_3 _ (List.mem_of_getElem? (i := 213) (by decide +kernel))
theorem q_502 : (Cond.code yX10_choice cX10_choice 3 (some .int)) ∈ lw_tbl := tb_3 _ (List.mem_of_getElem? (i := 214) (by decide +kernel))
theorem q_503 : (Cond.methodLinkNest RX10 228 yX9_yetToTell RX10) ∈ lw_tbl := tb_3 _ (List.mem_of_getElem? (i := 215) (by decide +kernel))
theorem q_504 : (Cond.methodLinkNest RX10 231 yX1_findChoice RX10) ∈ lw_tbl := tb_3 _ (List.mem_of_getElem? (i := 216) (by decide +kernel))
theorem q_505 : (Cond.instanceMethod yX1_findChoice) ∈ lw_tbl := tb_3 _ (List.mem_of_getElem? (i := 218) (by decide +kernel))
theorem q_506 : (Cond.code yX1_findChoice cX1_findChoice 7 none) ∈ lw_tbl := tb_3 _ (List.mem_of_getElem? (i := 219) (by decide +kernel))
theorem q_507 : (Cond.methodLinkNest RX1 94 yX7_mayOf RX10) ∈ lw_tbl := tb_3 _ (List.mem_of_getElem? (i := 220) (by decide +kernel))
theorem q_508 : (Cond.methodLinkNest RX1 98 yX7_askedOf RX10) ∈ lw_tbl := tb_3 _ (List.mem_of_getElem? (i := 221) (by decide +kernel))
theorem q_509 : (Cond.methodLink RX1 101 yX1_isChoosable) ∈ lw_tbl := tb_3 _ (List.mem_of_getElem? (i := 222) (by decide +kernel))
theorem q_510 : (Cond.instanceMethod yX1_isChoosable) ∈ lw_tbl := tb_3 _ (List.mem_of_getElem? (i := 224) (by decide +kernel))
theorem q_511 : (Cond.code yX1_isChoosable cX1_isChoosable 5 (some .boolean)) ∈ lw_tbl := tb_3 _ (List.mem_of_getElem? (i := 225) (by decide +kernel))
theorem q_512 : (Cond.methodLink RX1 88 Lib.Math.min.name) ∈ lw_tbl := tb_3 _ (List.mem_of_getElem? (i := 226) (by decide +kernel))
end
section
theorem q_513 : (Cond.methodLinkNest RX1 105 yX9_copyFrom RX10) ∈ lw_tbl := tb_3 _ (List.mem_of_getElem? (i := 227) (by decide +kernel))
theorem q_514 : (Cond.methodLink RL 74 yX10_reach) ∈ lw_tbl := tb_3 _ (List.mem_of_getElem? (i := 228) (by decide +kernel))
theorem q_515 : (Cond.instanceMethod yX10_reach) ∈ lw_tbl := tb_3 _ (List.mem_of_getElem? (i := 229) (by decide +kernel))
theorem q_516 : (Cond.selects RX10 yX10_reach yX10_reach) ∈ lw_tbl := tb_3 _ (List.mem_of_getElem? (i := 230) (by decide +kernel))
theorem q_517 : (Cond.code yX10_reach cX10_reach 3 (some .int)) ∈ lw_tbl := tb_3 _ (List.mem_of_getElem? (i := 231) (by decide +kernel))
theorem q_518 : (Cond.methodLinkNest RX10 240 yX1_findReach RX10) ∈ lw_tbl := tb_3 _ (List.mem_of_getElem? (i := 232) (by decide +kernel))
theorem q_519 : (Cond.instanceMethod yX1_findReach) ∈ lw_tbl := tb_3 _ (List.mem_of_getElem? (i := 234) (by decide +kernel))
theorem q_520 : (Cond.code yX1_findReach cX1_findReach 7 (some .int)) ∈ lw_tbl := tb_3 _ (List.mem_of_getElem? (i := 235) (by decide +kernel))
theorem q_521 : (Cond.methodLinkNest RX1 109 yX10_hasBit RX10) ∈ lw_tbl := tb_3 _ (List.mem_of_getElem? (i := 236) (by decide +kernel))
theorem q_522 : (Cond.methodLink RL 78 yX10_see) ∈ lw_tbl := tb_3 _ (List.mem_of_getElem? (i := 237) (by decide +kernel))
theorem q_523 : (Cond.instanceMethod yX10_see) ∈ lw_tbl := tb_3 _ (List.mem_of_getElem? (i := 238) (by decide +kernel))
theorem q_524 : (Cond.selects RX10 yX10_see yX10_see) ∈ lw_tbl := tb_3 _ (List.mem_of_getElem? (i := 239) (by decide +kernel))
theorem q_525 : (Cond.code yX10_see cX10_see 3 (some .int)) ∈ lw_tbl := tb_4 _ (List.mem_of_getElem? (i := 0) (by decide +kernel))
theorem q_526 : (Cond.methodLinkNest RX10 251 yX4_add RX10) ∈ lw_tbl := tb_4 _ (List.mem_of_getElem? (i := 1) (by decide +kernel))
theorem q_527 : (Cond.instanceMethod yX4_add) ∈ lw_tbl := tb_4 _ (List.mem_of_getElem? (i := 3) (by decide +kernel))
theorem q_528 : (Cond.code yX4_add cX4_add 3 (some .boolean)) ∈ lw_tbl := tb_4 _ (List.mem_of_getElem? (i := 4) (by decide +kernel))
theorem q_529 : (Cond.methodLink RL 82 yX10_began) ∈ lw_tbl := tb_4 _ (List.mem_of_getElem? (i := 5) (by decide +kernel))
theorem q_530 : (Cond.instanceMethod yX10_began) ∈ lw_tbl := tb_4 _ (List.mem_of_getElem? (i := 6) (by decide +kernel))
theorem q_531 : (Cond.selects RX10 yX10_began yX10_began) ∈ lw_tbl := tb_4 _ (List.mem_of_getElem? (i := 7) (by decide +kernel))
theorem q_532 : (Cond.code yX10_began cX10_began 2 (some .int)) ∈ lw_tbl := tb_4 _ (List.mem_of_getElem? (i := 8) (by decide +kernel))
theorem q_533 : (Cond.methodLinkNest RX10 252 yX1_findBegan RX10) ∈ lw_tbl := tb_4 _ (List.mem_of_getElem? (i := 9) (by decide +kernel))
theorem q_534 : (Cond.instanceMethod yX1_findBegan) ∈ lw_tbl := tb_4 _ (List.mem_of_getElem? (i := 11) (by decide +kernel))
theorem q_535 : (Cond.code yX1_findBegan cX1_findBegan 3 none) ∈ lw_tbl := tb_4 _ (List.mem_of_getElem? (i := 12) (by decide +kernel))
theorem q_536 : (Cond.methodLink RX1 113 yX1_isAsSeen) ∈ lw_tbl := tb_4 _ (List.mem_of_getElem? (i := 13) (by decide +kernel))
theorem q_537 : (Cond.instanceMethod yX1_isAsSeen) ∈ lw_tbl := tb_4 _ (List.mem_of_getElem? (i := 15) (by decide +kernel))
theorem q_538 : (Cond.code yX1_isAsSeen cX1_isAsSeen 6 (some .boolean)) ∈ lw_tbl := tb_4 _ (List.mem_of_getElem? (i := 16) (by decide +kernel))
theorem q_539 : (Cond.methodLinkNest RX1 130 yX7_goDay RX10) ∈ lw_tbl := tb_4 _ (List.mem_of_getElem? (i := 17) (by decide +kernel))
theorem q_540 : (Cond.methodLink RL 86 yX10_stops) ∈ lw_tbl := tb_4 _ (List.mem_of_getElem? (i := 18) (by decide +kernel))
theorem q_541 : (Cond.instanceMethod yX10_stops) ∈ lw_tbl := tb_4 _ (List.mem_of_getElem? (i := 19) (by decide +kernel))
theorem q_542 : (Cond.selects RX10 yX10_stops yX10_stops) ∈ lw_tbl := tb_4 _ (List.mem_of_getElem? (i := 20) (by decide +kernel))
theorem q_543 : (Cond.code yX10_stops cX10_stops 4 (some .int)) ∈ lw_tbl := tb_4 _ (List.mem_of_getElem? (i := 21) (by decide +kernel))
theorem q_544 : (Cond.methodLink RL 90 yX10_odds) ∈ lw_tbl := tb_4 _ (List.mem_of_getElem? (i := 22) (by decide +kernel))
theorem q_545 : (Cond.instanceMethod yX10_odds) ∈ lw_tbl := tb_4 _ (List.mem_of_getElem? (i := 23) (by decide +kernel))
theorem q_546 : (Cond.selects RX10 yX10_odds yX10_odds) ∈ lw_tbl := tb_4 _ (List.mem_of_getElem? (i := 24) (by decide +kernel))
theorem q_547 : (Cond.code yX10_odds cX10_odds 4 (some .long)) ∈ lw_tbl := tb_4 _ (List.mem_of_getElem? (i := 25) (by decide +kernel))
theorem q_548 : (Cond.methodLinkNest RX10 261 yX1_waysToHear RX10) ∈ lw_tbl := tb_4 _ (List.mem_of_getElem? (i := 26) (by decide +kernel))
theorem q_549 : (Cond.instanceMethod yX1_waysToHear) ∈ lw_tbl := tb_4 _ (List.mem_of_getElem? (i := 28) (by decide +kernel))
theorem q_550 : (Cond.code yX1_waysToHear cX1_waysToHear 5 (some .int)) ∈ lw_tbl := tb_4 _ (List.mem_of_getElem? (i := 29) (by decide +kernel))
theorem q_551 : (Cond.methodLink RX10 264 yX10_partOf) ∈ lw_tbl := tb_4 _ (List.mem_of_getElem? (i := 30) (by decide +kernel))
theorem q_552 : (Cond.static yX10_partOf) ∈ lw_tbl := tb_4 _ (List.mem_of_getElem? (i := 31) (by decide +kernel))
theorem q_553 : (Cond.code yX10_partOf cX10_partOf 12 (some .long)) ∈ lw_tbl := tb_4 _ (List.mem_of_getElem? (i := 32) (by decide +kernel))
theorem q_554 : (Cond.methodLink RL 95 yX10_mean) ∈ lw_tbl := tb_4 _ (List.mem_of_getElem? (i := 33) (by decide +kernel))
theorem q_555 : (Cond.instanceMethod yX10_mean) ∈ lw_tbl := tb_4 _ (List.mem_of_getElem? (i := 34) (by decide +kernel))
theorem q_556 : (Cond.selects RX10 yX10_mean yX10_mean) ∈ lw_tbl := tb_4 _ (List.mem_of_getElem? (i := 35) (by decide +kernel))
theorem q_557 : (Cond.code yX10_mean cX10_mean 3 (some .long)) ∈ lw_tbl := tb_4 _ (List.mem_of_getElem? (i := 36) (by decide +kernel))
theorem q_558 : (Cond.methodLinkNest RX10 268 yX1_finesOfAll RX10) ∈ lw_tbl := tb_4 _ (List.mem_of_getElem? (i := 37) (by decide +kernel))
theorem q_559 : (Cond.instanceMethod yX1_finesOfAll) ∈ lw_tbl := tb_4 _ (List.mem_of_getElem? (i := 39) (by decide +kernel))
theorem q_560 : (Cond.code yX1_finesOfAll cX1_finesOfAll 5 (some .long)) ∈ lw_tbl := tb_4 _ (List.mem_of_getElem? (i := 40) (by decide +kernel))
theorem q_561 : (Cond.methodLink RL 100 yX10_book) ∈ lw_tbl := tb_4 _ (List.mem_of_getElem? (i := 41) (by decide +kernel))
theorem q_562 : (Cond.instanceMethod yX10_book) ∈ lw_tbl := tb_4 _ (List.mem_of_getElem? (i := 42) (by decide +kernel))
theorem q_563 : (Cond.selects RX10 yX10_book yX10_book) ∈ lw_tbl := tb_4 _ (List.mem_of_getElem? (i := 43) (by decide +kernel))
theorem q_564 : (Cond.code yX10_book cX10_book 3 (some .int)) ∈ lw_tbl := tb_4 _ (List.mem_of_getElem? (i := 44) (by decide +kernel))
theorem q_565 : (Cond.methodLink RL 104 yX10_looked) ∈ lw_tbl := tb_4 _ (List.mem_of_getElem? (i := 45) (by decide +kernel))
theorem q_566 : (Cond.instanceMethod yX10_looked) ∈ lw_tbl := tb_4 _ (List.mem_of_getElem? (i := 46) (by decide +kernel))
theorem q_567 : (Cond.selects RX10 yX10_looked yX10_looked) ∈ lw_tbl := tb_4 _ (List.mem_of_getElem? (i := 47) (by decide +kernel))
theorem q_568 : (Cond.code yX10_looked cX10_looked 4 (some .int)) ∈ lw_tbl := tb_4 _ (List.mem_of_getElem? (i := 48) (by decide +kernel))
theorem q_569 : (Cond.methodLink RL 108 yX10_act) ∈ lw_tbl := tb_4 _ (List.mem_of_getElem? (i := 49) (by decide +kernel))
theorem q_570 : (Cond.instanceMethod yX10_act) ∈ lw_tbl := tb_4 _ (List.mem_of_getElem? (i := 50) (by decide +kernel))
theorem q_571 : (Cond.selects RX10 yX10_act yX10_act) ∈ lw_tbl := tb_4 _ (List.mem_of_getElem? (i := 51) (by decide +kernel))
theorem q_572 : (Cond.code yX10_act cX10_act 4 (some .int)) ∈ lw_tbl := tb_4 _ (List.mem_of_getElem? (i := 52) (by decide +kernel))
theorem q_573 : (Cond.methodLinkNest RX10 283 yX0_setOne RX10) ∈ lw_tbl := tb_4 _ (List.mem_of_getElem? (i := 53) (by decide +kernel))
theorem q_574 : (Cond.instanceMethod yX0_setOne) ∈ lw_tbl := tb_4 _ (List.mem_of_getElem? (i := 55) (by decide +kernel))
theorem q_575 : (Cond.code yX0_setOne cX0_setOne 4 none) ∈ lw_tbl := tb_4 _ (List.mem_of_getElem? (i := 56) (by decide +kernel))
theorem q_576 : (Cond.methodLinkNest RX10 286 yX0_hears RX10) ∈ lw_tbl := tb_4 _ (List.mem_of_getElem? (i := 57) (by decide +kernel))
theorem q_577 : (Cond.instanceMethod yX0_hears) ∈ lw_tbl := tb_4 _ (List.mem_of_getElem? (i := 59) (by decide +kernel))
theorem q_578 : (Cond.code yX0_hears cX0_hears 2 (some .int)) ∈ lw_tbl := tb_4 _ (List.mem_of_getElem? (i := 60) (by decide +kernel))
theorem q_579 : (Cond.methodLinkNest RX0 28 yX10_isUnder RX10) ∈ lw_tbl := tb_4 _ (List.mem_of_getElem? (i := 61) (by decide +kernel))
theorem q_580 : (Cond.static yX10_isUnder) ∈ lw_tbl := tb_4 _ (List.mem_of_getElem? (i := 62) (by decide +kernel))
theorem q_581 : (Cond.code yX10_isUnder cX10_isUnder 4 (some .boolean)) ∈ lw_tbl := tb_4 _ (List.mem_of_getElem? (i := 63) (by decide +kernel))
theorem q_582 : (Cond.fieldLink RX10 309 RX10 "KIND_ABOVE" "[I") ∈ lw_tbl := tb_4 _ (List.mem_of_getElem? (i := 64) (by decide +kernel))
theorem q_583 : (Cond.methodLink RX0 32 yX0_run) ∈ lw_tbl := tb_4 _ (List.mem_of_getElem? (i := 66) (by decide +kernel))
theorem q_584 : (Cond.instanceMethod yX0_run) ∈ lw_tbl := tb_4 _ (List.mem_of_getElem? (i := 68) (by decide +kernel))
theorem q_585 : (Cond.code yX0_run cX0_run 2 none) ∈ lw_tbl := tb_4 _ (List.mem_of_getElem? (i := 69) (by decide +kernel))
theorem q_586 : (Cond.methodLinkNest RX10 289 yX0_tells RX10) ∈ lw_tbl := tb_4 _ (List.mem_of_getElem? (i := 70) (by decide +kernel))
theorem q_587 : (Cond.instanceMethod yX0_tells) ∈ lw_tbl := tb_4 _ (List.mem_of_getElem? (i := 72) (by decide +kernel))
theorem q_588 : (Cond.code yX0_tells cX0_tells 2 (some .int)) ∈ lw_tbl := tb_4 _ (List.mem_of_getElem? (i := 73) (by decide +kernel))
theorem q_589 : (Cond.methodLink RX0 36 yX0_hears) ∈ lw_tbl := tb_4 _ (List.mem_of_getElem? (i := 74) (by decide +kernel))
theorem q_590 : (Cond.methodLinkNest RX10 292 yX0_pays RX10) ∈ lw_tbl := tb_4 _ (List.mem_of_getElem? (i := 75) (by decide +kernel))
theorem q_591 : (Cond.instanceMethod yX0_pays) ∈ lw_tbl := tb_4 _ (List.mem_of_getElem? (i := 77) (by decide +kernel))
theorem q_592 : (Cond.code yX0_pays cX0_pays 2 (some .int)) ∈ lw_tbl := tb_4 _ (List.mem_of_getElem? (i := 78) (by decide +kernel))
theorem q_593 : (Cond.methodLink RX0 40 yX0_tells) ∈ lw_tbl := tb_4 _ (List.mem_of_getElem? (i := 79) (by decide +kernel))
theorem q_594 : (Cond.methodLink RL 113 yX10_trace) ∈ lw_tbl := tb_4 _ (List.mem_of_getElem? (i := 80) (by decide +kernel))
theorem q_595 : (Cond.instanceMethod yX10_trace) ∈ lw_tbl := tb_4 _ (List.mem_of_getElem? (i := 81) (by decide +kernel))
theorem q_596 : (Cond.selects RX10 yX10_trace yX10_trace) ∈ lw_tbl := tb_4 _ (List.mem_of_getElem? (i := 82) (by decide +kernel))
theorem q_597 : (Cond.code yX10_trace cX10_trace 2 (some .int)) ∈ lw_tbl := tb_4 _ (List.mem_of_getElem? (i := 83) (by decide +kernel))
theorem q_598 : (Cond.methodLink RX10 295 Lib.Math.min.name) ∈ lw_tbl := tb_4 _ (List.mem_of_getElem? (i := 84) (by decide +kernel))
theorem q_599 : (Cond.methodLink RL 117 yX10_as) ∈ lw_tbl := tb_4 _ (List.mem_of_getElem? (i := 85) (by decide +kernel))
theorem q_600 : (Cond.instanceMethod yX10_as) ∈ lw_tbl := tb_4 _ (List.mem_of_getElem? (i := 86) (by decide +kernel))
theorem q_601 : (Cond.selects RX10 yX10_as yX10_as) ∈ lw_tbl := tb_4 _ (List.mem_of_getElem? (i := 87) (by decide +kernel))
theorem q_602 : (Cond.code yX10_as cX10_as 3 (some .int)) ∈ lw_tbl := tb_4 _ (List.mem_of_getElem? (i := 88) (by decide +kernel))
theorem q_603 : (Cond.methodLink RX10 303 yX10_isUnder) ∈ lw_tbl := tb_4 _ (List.mem_of_getElem? (i := 89) (by decide +kernel))
theorem q_604 : (Cond.methodLink RL 121 yX10_image) ∈ lw_tbl := tb_4 _ (List.mem_of_getElem? (i := 90) (by decide +kernel))
theorem q_605 : (Cond.instanceMethod yX10_image) ∈ lw_tbl := tb_4 _ (List.mem_of_getElem? (i := 91) (by decide +kernel))
theorem q_606 : (Cond.selects RX10 yX10_image yX10_image) ∈ lw_tbl := tb_4 _ (List.mem_of_getElem? (i := 92) (by decide +kernel))
theorem q_607 : (Cond.code yX10_image cX10_image 1 (some .int)) ∈ lw_tbl := tb_4 _ (List.mem_of_getElem? (i := 93) (by decide +kernel))
theorem q_608 : (Cond.methodLinkNest RX10 306 yX5_copyFrom RX10) ∈ lw_tbl := tb_4 _ (List.mem_of_getElem? (i := 94) (by decide +kernel))
theorem q_609 : (Cond.instanceMethod yX5_copyFrom) ∈ lw_tbl := tb_4 _ (List.mem_of_getElem? (i := 96) (by decide +kernel))
theorem q_610 : (Cond.code yX5_copyFrom cX5_copyFrom 2 none) ∈ lw_tbl := tb_4 _ (List.mem_of_getElem? (i := 97) (by decide +kernel))
theorem q_611 : (Cond.methodLinkNest RX5 55 yX6_copyFrom RX10) ∈ lw_tbl := tb_4 _ (List.mem_of_getElem? (i := 98) (by decide +kernel))
theorem q_612 : (Cond.methodLinkNest RX5 59 yX8_copyFrom RX10) ∈ lw_tbl := tb_4 _ (List.mem_of_getElem? (i := 99) (by decide +kernel))
theorem q_613 : (Cond.methodLinkNest RX5 62 yX2_copyFrom RX10) ∈ lw_tbl := tb_4 _ (List.mem_of_getElem? (i := 100) (by decide +kernel))
theorem q_614 : (Cond.instanceMethod yX2_copyFrom) ∈ lw_tbl := tb_4 _ (List.mem_of_getElem? (i := 102) (by decide +kernel))
theorem q_615 : (Cond.code yX2_copyFrom cX2_copyFrom 2 none) ∈ lw_tbl := tb_4 _ (List.mem_of_getElem? (i := 103) (by decide +kernel))
theorem q_616 : (Cond.methodLink RX2 61 arraycopyName) ∈ lw_tbl := tb_4 _ (List.mem_of_getElem? (i := 104) (by decide +kernel))
theorem q_617 : (Cond.methodLinkNest RX5 65 yX9_copyFrom RX10) ∈ lw_tbl := tb_4 _ (List.mem_of_getElem? (i := 105) (by decide +kernel))
theorem q_618 : (Cond.methodLinkNest RX5 68 yX4_copyFrom RX10) ∈ lw_tbl := tb_4 _ (List.mem_of_getElem? (i := 106) (by decide +kernel))
theorem q_619 : (Cond.instanceMethod yX4_copyFrom) ∈ lw_tbl := tb_4 _ (List.mem_of_getElem? (i := 108) (by decide +kernel))
theorem q_620 : (Cond.code yX4_copyFrom cX4_copyFrom 3 none) ∈ lw_tbl := tb_4 _ (List.mem_of_getElem? (i := 109) (by decide +kernel))
theorem q_621 : (Cond.methodLink RX4 26 yX4_add) ∈ lw_tbl := tb_4 _ (List.mem_of_getElem? (i := 110) (by decide +kernel))
theorem q_622 : (Cond.methodLink RL 125 yX10_undo) ∈ lw_tbl := tb_4 _ (List.mem_of_getElem? (i := 111) (by decide +kernel))
theorem q_623 : (Cond.instanceMethod yX10_undo) ∈ lw_tbl := tb_4 _ (List.mem_of_getElem? (i := 112) (by decide +kernel))
theorem q_624 : (Cond.selects RX10 yX10_undo yX10_undo) ∈ lw_tbl := tb_4 _ (List.mem_of_getElem? (i := 113) (by decide +kernel))
theorem q_625 : (Cond.code yX10_undo cX10_undo 1 (some .int)) ∈ lw_tbl := tb_4 _ (List.mem_of_getElem? (i := 114) (by decide +kernel))
theorem q_626 : (Cond.methodLink RL 129 yX10_count) ∈ lw_tbl := tb_4 _ (List.mem_of_getElem? (i := 115) (by decide +kernel))
theorem q_627 : (Cond.instanceMethod yX10_count) ∈ lw_tbl := tb_4 _ (List.mem_of_getElem? (i := 116) (by decide +kernel))
theorem q_628 : (Cond.selects RX10 yX10_count yX10_count) ∈ lw_tbl := tb_4 _ (List.mem_of_getElem? (i := 117) (by decide +kernel))
theorem q_629 : (Cond.code yX10_count cX10_count 2 (some .int)) ∈ lw_tbl := tb_4 _ (List.mem_of_getElem? (i := 118) (by decide +kernel))
theorem q_630 : (Cond.classLink RL 10 RX11) ∈ lw_tbl := tb_4 _ (List.mem_of_getElem? (i := 119) (by decide +kernel))
theorem q_631 : (Cond.instantiable RX11 27) ∈ lw_tbl := tb_4 _ (List.mem_of_getElem? (i := 120) (by decide +kernel))
theorem q_632 : (Cond.methodLink RL 12 yX11_init) ∈ lw_tbl := tb_4 _ (List.mem_of_getElem? (i := 121) (by decide +kernel))
theorem q_633 : (Cond.instanceMethod yX11_init) ∈ lw_tbl := tb_4 _ (List.mem_of_getElem? (i := 122) (by decide +kernel))
theorem q_634 : (Cond.code yX11_init cX11_init 1 none) ∈ lw_tbl := tb_4 _ (List.mem_of_getElem? (i := 123) (by decide +kernel))
theorem q_635 : (Cond.methodLink RX11 3 objectInit) ∈ lw_tbl := tb_4 _ (List.mem_of_getElem? (i := 124) (by decide +kernel))
theorem q_636 : (Cond.fieldLink RX11 9 RX11 "s" "[I") ∈ lw_tbl := tb_4 _ (List.mem_of_getElem? (i := 125) (by decide +kernel))
theorem q_637 : (Cond.fieldLink RX11 15 RX11 "image" "[I") ∈ lw_tbl := tb_4 _ (List.mem_of_getElem? (i := 126) (by decide +kernel))
theorem q_638 : (Cond.fieldLink RX11 18 RX11 "frame" "[I") ∈ lw_tbl := tb_4 _ (List.mem_of_getElem? (i := 127) (by decide +kernel))
theorem q_639 : (Cond.fieldLink RX11 272 RX11 "hasImage" "Z") ∈ lw_tbl := tb_4 _ (List.mem_of_getElem? (i := 128) (by decide +kernel))
theorem q_640 : (Cond.fieldLink RX11 78 RX11 "act" "I") ∈ lw_tbl := tb_4 _ (List.mem_of_getElem? (i := 129) (by decide +kernel))
theorem q_641 : (Cond.fieldLink RX11 51 RX11 "spot" "I") ∈ lw_tbl := tb_4 _ (List.mem_of_getElem? (i := 130) (by decide +kernel))
theorem q_642 : (Cond.fieldLink RX11 54 RX11 "end" "I") ∈ lw_tbl := tb_4 _ (List.mem_of_getElem? (i := 131) (by decide +kernel))
theorem q_643 : (Cond.fieldLink RX11 57 RX11 "isWrong" "Z") ∈ lw_tbl := tb_4 _ (List.mem_of_getElem? (i := 132) (by decide +kernel))
theorem q_644 : (Cond.fieldLink RX11 81 RX11 "open" "I") ∈ lw_tbl := tb_4 _ (List.mem_of_getElem? (i := 133) (by decide +kernel))
theorem q_645 : (Cond.fieldLink RX11 21 RX11 "by" "[I") ∈ lw_tbl := tb_4 _ (List.mem_of_getElem? (i := 134) (by decide +kernel))
theorem q_646 : (Cond.fieldLink RX11 24 RX11 "truths" "[Z") ∈ lw_tbl := tb_4 _ (List.mem_of_getElem? (i := 135) (by decide +kernel))
theorem q_647 : (Cond.fieldLink RX11 133 RX11 "isShunned" "Z") ∈ lw_tbl := tb_4 _ (List.mem_of_getElem? (i := 136) (by decide +kernel))
theorem q_648 : (Cond.fieldLink RX11 136 RX11 "fined" "I") ∈ lw_tbl := tb_4 _ (List.mem_of_getElem? (i := 137) (by decide +kernel))
theorem q_649 : (Cond.fieldLink RX11 28 RX11 "choices" "[I") ∈ lw_tbl := tb_4 _ (List.mem_of_getElem? (i := 138) (by decide +kernel))
theorem q_650 : (Cond.fieldLink RX11 31 RX11 "comes" "[I") ∈ lw_tbl := tb_4 _ (List.mem_of_getElem? (i := 139) (by decide +kernel))
theorem q_651 : (Cond.fieldLink RX11 34 RX11 "stopped" "I") ∈ lw_tbl := tb_4 _ (List.mem_of_getElem? (i := 140) (by decide +kernel))
theorem q_652 : (Cond.fieldLink RX11 38 RX11 "chooser" "I") ∈ lw_tbl := tb_4 _ (List.mem_of_getElem? (i := 141) (by decide +kernel))
theorem q_653 : (Cond.fieldLink RX11 178 RX11 "chosenSet" "I") ∈ lw_tbl := tb_4 _ (List.mem_of_getElem? (i := 142) (by decide +kernel))
theorem q_654 : (Cond.fieldLink RX11 212 RX11 "bestSet" "I") ∈ lw_tbl := tb_4 _ (List.mem_of_getElem? (i := 143) (by decide +kernel))
theorem q_655 : (Cond.fieldLink RX11 215 RX11 "mostHeard" "I") ∈ lw_tbl := tb_4 _ (List.mem_of_getElem? (i := 144) (by decide +kernel))
theorem q_656 : (Cond.fieldLink RX11 218 RX11 "reachSet" "I") ∈ lw_tbl := tb_4 _ (List.mem_of_getElem? (i := 145) (by decide +kernel))
theorem q_657 : (Cond.fieldLink RX11 41 RX11 "bodies" "[I") ∈ lw_tbl := tb_4 _ (List.mem_of_getElem? (i := 146) (by decide +kernel))
theorem q_658 : (Cond.fieldLink RX11 235 RX11 "ran" "I") ∈ lw_tbl := tb_4 _ (List.mem_of_getElem? (i := 147) (by decide +kernel))
theorem q_659 : (Cond.fieldLink RX11 244 RX11 "kind" "I") ∈ lw_tbl := tb_4 _ (List.mem_of_getElem? (i := 148) (by decide +kernel))
theorem q_660 : (Cond.fieldLink RX11 241 RX11 "number" "I") ∈ lw_tbl := tb_4 _ (List.mem_of_getElem? (i := 149) (by decide +kernel))
theorem q_661 : (Cond.fieldLink RX11 257 RX11 "tellsV" "I") ∈ lw_tbl := tb_4 _ (List.mem_of_getElem? (i := 150) (by decide +kernel))
theorem q_662 : (Cond.arrayClass .boolean) ∈ lw_tbl := tb_4 _ (List.mem_of_getElem? (i := 206) (by decide +kernel))
theorem q_663 : (Cond.methodLink RL 17 yX11_feed) ∈ lw_tbl := tb_4 _ (List.mem_of_getElem? (i := 207) (by decide +kernel))
theorem q_664 : (Cond.instanceMethod yX11_feed) ∈ lw_tbl := tb_4 _ (List.mem_of_getElem? (i := 208) (by decide +kernel))
theorem q_665 : (Cond.selects RX11 yX11_feed yX11_feed) ∈ lw_tbl := tb_4 _ (List.mem_of_getElem? (i := 209) (by decide +kernel))
theorem q_666 : (Cond.code yX11_feed cX11_feed 2 (some .int)) ∈ lw_tbl := tb_4 _ (List.mem_of_getElem? (i := 210) (by decide +kernel))
theorem q_667 : (Cond.methodLink RX11 47 yX11_in) ∈ lw_tbl := tb_4 _ (List.mem_of_getElem? (i := 211) (by decide +kernel))
theorem q_668 : (Cond.static yX11_in) ∈ lw_tbl := tb_4 _ (List.mem_of_getElem? (i := 212) (by decide +kernel))
theorem q_669 : (Cond.code yX11_in cX11_in 3 (some .boolean)) ∈ lw_tbl := tb_4 _ (List.mem_of_getElem? (i := 213) (by decide +kernel))
theorem q_670 : (Cond.methodLink RL 22 yX11_town) ∈ lw_tbl := tb_4 _ (List.mem_of_getElem? (i := 214) (by decide +kernel))
theorem q_671 : (Cond.instanceMethod yX11_town) ∈ lw_tbl := tb_4 _ (List.mem_of_getElem? (i := 215) (by decide +kernel))
theorem q_672 : (Cond.selects RX11 yX11_town yX11_town) ∈ lw_tbl := tb_4 _ (List.mem_of_getElem? (i := 216) (by decide +kernel))
theorem q_673 : (Cond.code yX11_town cX11_town 2 (some .int)) ∈ lw_tbl := tb_4 _ (List.mem_of_getElem? (i := 217) (by decide +kernel))
theorem q_674 : (Cond.methodLink RX11 126 yX11_clauseHere) ∈ lw_tbl := tb_4 _ (List.mem_of_getElem? (i := 218) (by decide +kernel))
theorem q_675 : (Cond.instanceMethod yX11_clauseHere) ∈ lw_tbl := tb_4 _ (List.mem_of_getElem? (i := 220) (by decide +kernel))
theorem q_676 : (Cond.code yX11_clauseHere cX11_clauseHere 1 none) ∈ lw_tbl := tb_4 _ (List.mem_of_getElem? (i := 221) (by decide +kernel))
theorem q_677 : (Cond.methodLink RX11 61 yX11_here) ∈ lw_tbl := tb_4 _ (List.mem_of_getElem? (i := 222) (by decide +kernel))
theorem q_678 : (Cond.instanceMethod yX11_here) ∈ lw_tbl := tb_4 _ (List.mem_of_getElem? (i := 224) (by decide +kernel))
theorem q_679 : (Cond.code yX11_here cX11_here 1 (some .int)) ∈ lw_tbl := tb_4 _ (List.mem_of_getElem? (i := 225) (by decide +kernel))
theorem q_680 : (Cond.methodLink RX11 107 yX11_spells) ∈ lw_tbl := tb_4 _ (List.mem_of_getElem? (i := 227) (by decide +kernel))
theorem q_681 : (Cond.instanceMethod yX11_spells) ∈ lw_tbl := tb_4 _ (List.mem_of_getElem? (i := 229) (by decide +kernel))
theorem q_682 : (Cond.code yX11_spells cX11_spells 3 none) ∈ lw_tbl := tb_4 _ (List.mem_of_getElem? (i := 230) (by decide +kernel))
theorem q_683 : (Cond.methodLink RX11 65 yJ0_length_8abf5) ∈ lw_tbl := tb_4 _ (List.mem_of_getElem? (i := 231) (by decide +kernel))
theorem q_684 : (Cond.methodLink RX11 70 yJ0_charAt_5068e) ∈ lw_tbl := tb_4 _ (List.mem_of_getElem? (i := 232) (by decide +kernel))
theorem q_685 : (Cond.methodLink RX11 74 yX11_must) ∈ lw_tbl := tb_4 _ (List.mem_of_getElem? (i := 233) (by decide +kernel))
theorem q_686 : (Cond.instanceMethod yX11_must) ∈ lw_tbl := tb_4 _ (List.mem_of_getElem? (i := 235) (by decide +kernel))
theorem q_687 : (Cond.code yX11_must cX11_must 2 none) ∈ lw_tbl := tb_4 _ (List.mem_of_getElem? (i := 236) (by decide +kernel))
theorem q_688 : (Cond.methodLink RX11 90 yX11_some) ∈ lw_tbl := tb_4 _ (List.mem_of_getElem? (i := 237) (by decide +kernel))
theorem q_689 : (Cond.instanceMethod yX11_some) ∈ lw_tbl := tb_4 _ (List.mem_of_getElem? (i := 239) (by decide +kernel))
theorem q_690 : (Cond.code yX11_some cX11_some 1 none) ∈ lw_tbl := tb_5 _ (List.mem_of_getElem? (i := 0) (by decide +kernel))
theorem q_691 : (Cond.methodLink RX11 104 yX11_every) ∈ lw_tbl := tb_5 _ (List.mem_of_getElem? (i := 1) (by decide +kernel))
theorem q_692 : (Cond.instanceMethod yX11_every) ∈ lw_tbl := tb_5 _ (List.mem_of_getElem? (i := 3) (by decide +kernel))
theorem q_693 : (Cond.code yX11_every cX11_every 1 none) ∈ lw_tbl := tb_5 _ (List.mem_of_getElem? (i := 4) (by decide +kernel))
theorem q_694 : (Cond.methodLink RX11 84 yX11_factor) ∈ lw_tbl := tb_5 _ (List.mem_of_getElem? (i := 5) (by decide +kernel))
theorem q_695 : (Cond.instanceMethod yX11_factor) ∈ lw_tbl := tb_5 _ (List.mem_of_getElem? (i := 7) (by decide +kernel))
theorem q_696 : (Cond.code yX11_factor cX11_factor 5 none) ∈ lw_tbl := tb_5 _ (List.mem_of_getElem? (i := 8) (by decide +kernel))
theorem q_697 : (Cond.methodLink RX11 87 yX11_emits) ∈ lw_tbl := tb_5 _ (List.mem_of_getElem? (i := 9) (by decide +kernel))
theorem q_698 : (Cond.instanceMethod yX11_emits) ∈ lw_tbl := tb_5 _ (List.mem_of_getElem? (i := 11) (by decide +kernel))
theorem q_699 : (Cond.code yX11_emits cX11_emits 2 none) ∈ lw_tbl := tb_5 _ (List.mem_of_getElem? (i := 12) (by decide +kernel))
theorem q_700 : (Cond.methodLink RX11 95 yX11_among) ∈ lw_tbl := tb_5 _ (List.mem_of_getElem? (i := 14) (by decide +kernel))
theorem q_701 : (Cond.instanceMethod yX11_among) ∈ lw_tbl := tb_5 _ (List.mem_of_getElem? (i := 16) (by decide +kernel))
theorem q_702 : (Cond.code yX11_among cX11_among 3 (some .int)) ∈ lw_tbl := tb_5 _ (List.mem_of_getElem? (i := 17) (by decide +kernel))
theorem q_703 : (Cond.methodLink RX11 101 yX11_figures) ∈ lw_tbl := tb_5 _ (List.mem_of_getElem? (i := 19) (by decide +kernel))
theorem q_704 : (Cond.instanceMethod yX11_figures) ∈ lw_tbl := tb_5 _ (List.mem_of_getElem? (i := 21) (by decide +kernel))
theorem q_705 : (Cond.code yX11_figures cX11_figures 3 (some .int)) ∈ lw_tbl := tb_5 _ (List.mem_of_getElem? (i := 22) (by decide +kernel))
theorem q_706 : (Cond.methodLink RX11 121 yX11_clauseOfF) ∈ lw_tbl := tb_5 _ (List.mem_of_getElem? (i := 23) (by decide +kernel))
theorem q_707 : (Cond.instanceMethod yX11_clauseOfF) ∈ lw_tbl := tb_5 _ (List.mem_of_getElem? (i := 25) (by decide +kernel))
theorem q_708 : (Cond.code yX11_clauseOfF cX11_clauseOfF 2 none) ∈ lw_tbl := tb_5 _ (List.mem_of_getElem? (i := 26) (by decide +kernel))
theorem q_709 : (Cond.methodLink RX11 115 yX11_tellsHere) ∈ lw_tbl := tb_5 _ (List.mem_of_getElem? (i := 29) (by decide +kernel))
theorem q_710 : (Cond.instanceMethod yX11_tellsHere) ∈ lw_tbl := tb_5 _ (List.mem_of_getElem? (i := 31) (by decide +kernel))
theorem q_711 : (Cond.code yX11_tellsHere cX11_tellsHere 4 none) ∈ lw_tbl := tb_5 _ (List.mem_of_getElem? (i := 32) (by decide +kernel))
theorem q_712 : (Cond.methodLink RL 27 yX11_person) ∈ lw_tbl := tb_5 _ (List.mem_of_getElem? (i := 34) (by decide +kernel))
theorem q_713 : (Cond.instanceMethod yX11_person) ∈ lw_tbl := tb_5 _ (List.mem_of_getElem? (i := 35) (by decide +kernel))
theorem q_714 : (Cond.selects RX11 yX11_person yX11_person) ∈ lw_tbl := tb_5 _ (List.mem_of_getElem? (i := 36) (by decide +kernel))
theorem q_715 : (Cond.code yX11_person cX11_person 4 (some .int)) ∈ lw_tbl := tb_5 _ (List.mem_of_getElem? (i := 37) (by decide +kernel))
theorem q_716 : (Cond.methodLink RL 31 yX11_of) ∈ lw_tbl := tb_5 _ (List.mem_of_getElem? (i := 38) (by decide +kernel))
theorem q_717 : (Cond.instanceMethod yX11_of) ∈ lw_tbl := tb_5 _ (List.mem_of_getElem? (i := 39) (by decide +kernel))
theorem q_718 : (Cond.selects RX11 yX11_of yX11_of) ∈ lw_tbl := tb_5 _ (List.mem_of_getElem? (i := 40) (by decide +kernel))
theorem q_719 : (Cond.code yX11_of cX11_of 4 (some .int)) ∈ lw_tbl := tb_5 _ (List.mem_of_getElem? (i := 41) (by decide +kernel))
theorem q_720 : (Cond.methodLink RX11 160 yX11_isPerson) ∈ lw_tbl := tb_5 _ (List.mem_of_getElem? (i := 42) (by decide +kernel))
theorem q_721 : (Cond.instanceMethod yX11_isPerson) ∈ lw_tbl := tb_5 _ (List.mem_of_getElem? (i := 44) (by decide +kernel))
theorem q_722 : (Cond.code yX11_isPerson cX11_isPerson 2 (some .boolean)) ∈ lw_tbl := tb_5 _ (List.mem_of_getElem? (i := 45) (by decide +kernel))
theorem q_723 : (Cond.methodLink RX11 129 yX11_hasHeard) ∈ lw_tbl := tb_5 _ (List.mem_of_getElem? (i := 46) (by decide +kernel))
theorem q_724 : (Cond.instanceMethod yX11_hasHeard) ∈ lw_tbl := tb_5 _ (List.mem_of_getElem? (i := 48) (by decide +kernel))
theorem q_725 : (Cond.code yX11_hasHeard cX11_hasHeard 2 (some .boolean)) ∈ lw_tbl := tb_5 _ (List.mem_of_getElem? (i := 49) (by decide +kernel))
theorem q_726 : (Cond.methodLink RX11 163 yX11_hasTold) ∈ lw_tbl := tb_5 _ (List.mem_of_getElem? (i := 50) (by decide +kernel))
theorem q_727 : (Cond.instanceMethod yX11_hasTold) ∈ lw_tbl := tb_5 _ (List.mem_of_getElem? (i := 52) (by decide +kernel))
theorem q_728 : (Cond.code yX11_hasTold cX11_hasTold 2 (some .boolean)) ∈ lw_tbl := tb_5 _ (List.mem_of_getElem? (i := 53) (by decide +kernel))
theorem q_729 : (Cond.methodLink RX11 151 yX11_mayOf) ∈ lw_tbl := tb_5 _ (List.mem_of_getElem? (i := 54) (by decide +kernel))
theorem q_730 : (Cond.instanceMethod yX11_mayOf) ∈ lw_tbl := tb_5 _ (List.mem_of_getElem? (i := 56) (by decide +kernel))
theorem q_731 : (Cond.code yX11_mayOf cX11_mayOf 4 (some .int)) ∈ lw_tbl := tb_5 _ (List.mem_of_getElem? (i := 57) (by decide +kernel))
theorem q_732 : (Cond.methodLink RX11 143 yX11_looks) ∈ lw_tbl := tb_5 _ (List.mem_of_getElem? (i := 58) (by decide +kernel))
theorem q_733 : (Cond.instanceMethod yX11_looks) ∈ lw_tbl := tb_5 _ (List.mem_of_getElem? (i := 60) (by decide +kernel))
theorem q_734 : (Cond.code yX11_looks cX11_looks 11 none) ∈ lw_tbl := tb_5 _ (List.mem_of_getElem? (i := 61) (by decide +kernel))
theorem q_735 : (Cond.methodLink RX11 139 yX11_tellsOf) ∈ lw_tbl := tb_5 _ (List.mem_of_getElem? (i := 62) (by decide +kernel))
theorem q_736 : (Cond.instanceMethod yX11_tellsOf) ∈ lw_tbl := tb_5 _ (List.mem_of_getElem? (i := 64) (by decide +kernel))
theorem q_737 : (Cond.code yX11_tellsOf cX11_tellsOf 3 (some .int)) ∈ lw_tbl := tb_5 _ (List.mem_of_getElem? (i := 65) (by decide +kernel))
theorem q_738 : (Cond.methodLink RX11 154 yX11_askedOf) ∈ lw_tbl := tb_5 _ (List.mem_of_getElem? (i := 66) (by decide +kernel))
theorem q_739 : (Cond.instanceMethod yX11_askedOf) ∈ lw_tbl := tb_5 _ (List.mem_of_getElem? (i := 68) (by decide +kernel))
theorem q_740 : (Cond.code yX11_askedOf cX11_askedOf 5 (some .int)) ∈ lw_tbl := tb_5 _ (List.mem_of_getElem? (i := 69) (by decide +kernel))
theorem q_741 : (Cond.methodLink RX11 166 yX11_choiceOf) ∈ lw_tbl := tb_5 _ (List.mem_of_getElem? (i := 70) (by decide +kernel))
theorem q_742 : (Cond.instanceMethod yX11_choiceOf) ∈ lw_tbl := tb_5 _ (List.mem_of_getElem? (i := 72) (by decide +kernel))
theorem q_743 : (Cond.code yX11_choiceOf cX11_choiceOf 6 (some .int)) ∈ lw_tbl := tb_5 _ (List.mem_of_getElem? (i := 73) (by decide +kernel))
theorem q_744 : (Cond.methodLink RX11 157 yX11_firstOf) ∈ lw_tbl := tb_5 _ (List.mem_of_getElem? (i := 74) (by decide +kernel))
theorem q_745 : (Cond.instanceMethod yX11_firstOf) ∈ lw_tbl := tb_5 _ (List.mem_of_getElem? (i := 76) (by decide +kernel))
theorem q_746 : (Cond.code yX11_firstOf cX11_firstOf 7 (some .int)) ∈ lw_tbl := tb_5 _ (List.mem_of_getElem? (i := 77) (by decide +kernel))
theorem q_747 : (Cond.methodLink RX11 147 yX11_count1) ∈ lw_tbl := tb_5 _ (List.mem_of_getElem? (i := 78) (by decide +kernel))
theorem q_748 : (Cond.static yX11_count1) ∈ lw_tbl := tb_5 _ (List.mem_of_getElem? (i := 79) (by decide +kernel))
theorem q_749 : (Cond.code yX11_count1 cX11_count1 3 (some .int)) ∈ lw_tbl := tb_5 _ (List.mem_of_getElem? (i := 80) (by decide +kernel))
theorem q_750 : (Cond.methodLink RX11 169 yX11_fineOf) ∈ lw_tbl := tb_5 _ (List.mem_of_getElem? (i := 81) (by decide +kernel))
theorem q_751 : (Cond.instanceMethod yX11_fineOf) ∈ lw_tbl := tb_5 _ (List.mem_of_getElem? (i := 83) (by decide +kernel))
theorem q_752 : (Cond.code yX11_fineOf cX11_fineOf 2 (some .int)) ∈ lw_tbl := tb_5 _ (List.mem_of_getElem? (i := 84) (by decide +kernel))
theorem q_753 : (Cond.methodLink RL 36 yX11_know) ∈ lw_tbl := tb_5 _ (List.mem_of_getElem? (i := 85) (by decide +kernel))
theorem q_754 : (Cond.instanceMethod yX11_know) ∈ lw_tbl := tb_5 _ (List.mem_of_getElem? (i := 86) (by decide +kernel))
theorem q_755 : (Cond.selects RX11 yX11_know yX11_know) ∈ lw_tbl := tb_5 _ (List.mem_of_getElem? (i := 87) (by decide +kernel))
theorem q_756 : (Cond.code yX11_know cX11_know 5 (some .int)) ∈ lw_tbl := tb_5 _ (List.mem_of_getElem? (i := 88) (by decide +kernel))
theorem q_757 : (Cond.methodLink RL 40 yX11_row) ∈ lw_tbl := tb_5 _ (List.mem_of_getElem? (i := 89) (by decide +kernel))
theorem q_758 : (Cond.instanceMethod yX11_row) ∈ lw_tbl := tb_5 _ (List.mem_of_getElem? (i := 90) (by decide +kernel))
theorem q_759 : (Cond.selects RX11 yX11_row yX11_row) ∈ lw_tbl := tb_5 _ (List.mem_of_getElem? (i := 91) (by decide +kernel))
theorem q_760 : (Cond.code yX11_row cX11_row 3 (some .int)) ∈ lw_tbl := tb_5 _ (List.mem_of_getElem? (i := 92) (by decide +kernel))
theorem q_761 : (Cond.methodLink RL 44 yX11_told) ∈ lw_tbl := tb_5 _ (List.mem_of_getElem? (i := 93) (by decide +kernel))
theorem q_762 : (Cond.instanceMethod yX11_told) ∈ lw_tbl := tb_5 _ (List.mem_of_getElem? (i := 94) (by decide +kernel))
theorem q_763 : (Cond.selects RX11 yX11_told yX11_told) ∈ lw_tbl := tb_5 _ (List.mem_of_getElem? (i := 95) (by decide +kernel))
theorem q_764 : (Cond.code yX11_told cX11_told 2 (some .int)) ∈ lw_tbl := tb_5 _ (List.mem_of_getElem? (i := 96) (by decide +kernel))
theorem q_765 : (Cond.methodLink RL 48 yX11_begin) ∈ lw_tbl := tb_5 _ (List.mem_of_getElem? (i := 97) (by decide +kernel))
theorem q_766 : (Cond.instanceMethod yX11_begin) ∈ lw_tbl := tb_5 _ (List.mem_of_getElem? (i := 98) (by decide +kernel))
theorem q_767 : (Cond.selects RX11 yX11_begin yX11_begin) ∈ lw_tbl := tb_5 _ (List.mem_of_getElem? (i := 99) (by decide +kernel))
theorem q_768 : (Cond.code yX11_begin cX11_begin 3 (some .int)) ∈ lw_tbl := tb_5 _ (List.mem_of_getElem? (i := 100) (by decide +kernel))
theorem q_769 : (Cond.methodLink RX11 172 yX11_begins) ∈ lw_tbl := tb_5 _ (List.mem_of_getElem? (i := 101) (by decide +kernel))
theorem q_770 : (Cond.instanceMethod yX11_begins) ∈ lw_tbl := tb_5 _ (List.mem_of_getElem? (i := 103) (by decide +kernel))
theorem q_771 : (Cond.code yX11_begins cX11_begins 3 none) ∈ lw_tbl := tb_5 _ (List.mem_of_getElem? (i := 104) (by decide +kernel))
theorem q_772 : (Cond.methodLink RL 52 yX11_day) ∈ lw_tbl := tb_5 _ (List.mem_of_getElem? (i := 105) (by decide +kernel))
theorem q_773 : (Cond.instanceMethod yX11_day) ∈ lw_tbl := tb_5 _ (List.mem_of_getElem? (i := 106) (by decide +kernel))
theorem q_774 : (Cond.selects RX11 yX11_day yX11_day) ∈ lw_tbl := tb_5 _ (List.mem_of_getElem? (i := 107) (by decide +kernel))
theorem q_775 : (Cond.code yX11_day cX11_day 1 (some .int)) ∈ lw_tbl := tb_5 _ (List.mem_of_getElem? (i := 108) (by decide +kernel))
theorem q_776 : (Cond.methodLink RX11 193 yX11_goes) ∈ lw_tbl := tb_5 _ (List.mem_of_getElem? (i := 109) (by decide +kernel))
theorem q_777 : (Cond.instanceMethod yX11_goes) ∈ lw_tbl := tb_5 _ (List.mem_of_getElem? (i := 111) (by decide +kernel))
theorem q_778 : (Cond.code yX11_goes cX11_goes 3 (some .int)) ∈ lw_tbl := tb_5 _ (List.mem_of_getElem? (i := 112) (by decide +kernel))
theorem q_779 : (Cond.methodLink RX11 184 yX11_chooses) ∈ lw_tbl := tb_5 _ (List.mem_of_getElem? (i := 113) (by decide +kernel))
theorem q_780 : (Cond.instanceMethod yX11_chooses) ∈ lw_tbl := tb_5 _ (List.mem_of_getElem? (i := 115) (by decide +kernel))
theorem q_781 : (Cond.code yX11_chooses cX11_chooses 3 none) ∈ lw_tbl := tb_5 _ (List.mem_of_getElem? (i := 116) (by decide +kernel))
theorem q_782 : (Cond.methodLink RX11 175 yX11_isToTell) ∈ lw_tbl := tb_5 _ (List.mem_of_getElem? (i := 117) (by decide +kernel))
theorem q_783 : (Cond.instanceMethod yX11_isToTell) ∈ lw_tbl := tb_5 _ (List.mem_of_getElem? (i := 119) (by decide +kernel))
theorem q_784 : (Cond.code yX11_isToTell cX11_isToTell 2 (some .boolean)) ∈ lw_tbl := tb_5 _ (List.mem_of_getElem? (i := 120) (by decide +kernel))
theorem q_785 : (Cond.methodLink RX11 187 yX11_isDeaf) ∈ lw_tbl := tb_5 _ (List.mem_of_getElem? (i := 121) (by decide +kernel))
theorem q_786 : (Cond.instanceMethod yX11_isDeaf) ∈ lw_tbl := tb_5 _ (List.mem_of_getElem? (i := 123) (by decide +kernel))
theorem q_787 : (Cond.code yX11_isDeaf cX11_isDeaf 2 (some .boolean)) ∈ lw_tbl := tb_5 _ (List.mem_of_getElem? (i := 124) (by decide +kernel))
theorem q_788 : (Cond.methodLink RX11 190 yX11_numberFor) ∈ lw_tbl := tb_5 _ (List.mem_of_getElem? (i := 125) (by decide +kernel))
theorem q_789 : (Cond.instanceMethod yX11_numberFor) ∈ lw_tbl := tb_5 _ (List.mem_of_getElem? (i := 127) (by decide +kernel))
theorem q_790 : (Cond.code yX11_numberFor cX11_numberFor 6 (some .int)) ∈ lw_tbl := tb_5 _ (List.mem_of_getElem? (i := 128) (by decide +kernel))
theorem q_791 : (Cond.methodLink RX11 181 yX11_lessOne) ∈ lw_tbl := tb_5 _ (List.mem_of_getElem? (i := 129) (by decide +kernel))
theorem q_792 : (Cond.instanceMethod yX11_lessOne) ∈ lw_tbl := tb_5 _ (List.mem_of_getElem? (i := 131) (by decide +kernel))
theorem q_793 : (Cond.code yX11_lessOne cX11_lessOne 3 (some .int)) ∈ lw_tbl := tb_5 _ (List.mem_of_getElem? (i := 132) (by decide +kernel))
theorem q_794 : (Cond.methodLink RL 57 yX11_sum) ∈ lw_tbl := tb_5 _ (List.mem_of_getElem? (i := 133) (by decide +kernel))
theorem q_795 : (Cond.instanceMethod yX11_sum) ∈ lw_tbl := tb_5 _ (List.mem_of_getElem? (i := 134) (by decide +kernel))
theorem q_796 : (Cond.selects RX11 yX11_sum yX11_sum) ∈ lw_tbl := tb_5 _ (List.mem_of_getElem? (i := 135) (by decide +kernel))
theorem q_797 : (Cond.code yX11_sum cX11_sum 2 (some .long)) ∈ lw_tbl := tb_5 _ (List.mem_of_getElem? (i := 136) (by decide +kernel))
theorem q_798 : (Cond.methodLink RX11 196 yX11_sumOf) ∈ lw_tbl := tb_5 _ (List.mem_of_getElem? (i := 137) (by decide +kernel))
theorem q_799 : (Cond.instanceMethod yX11_sumOf) ∈ lw_tbl := tb_5 _ (List.mem_of_getElem? (i := 139) (by decide +kernel))
theorem q_800 : (Cond.code yX11_sumOf cX11_sumOf 7 (some .long)) ∈ lw_tbl := tb_5 _ (List.mem_of_getElem? (i := 140) (by decide +kernel))
theorem q_801 : (Cond.constantLong RX11 200 (-9223372036854775808)) ∈ lw_tbl := tb_5 _ (List.mem_of_getElem? (i := 141) (by decide +kernel))
theorem q_802 : (Cond.methodLink RL 61 yX11_enough) ∈ lw_tbl := tb_5 _ (List.mem_of_getElem? (i := 142) (by decide +kernel))
theorem q_803 : (Cond.instanceMethod yX11_enough) ∈ lw_tbl := tb_5 _ (List.mem_of_getElem? (i := 143) (by decide +kernel))
theorem q_804 : (Cond.selects RX11 yX11_enough yX11_enough) ∈ lw_tbl := tb_5 _ (List.mem_of_getElem? (i := 144) (by decide +kernel))
theorem q_805 : (Cond.code yX11_enough cX11_enough 3 (some .int)) ∈ lw_tbl := tb_5 _ (List.mem_of_getElem? (i := 145) (by decide +kernel))
theorem q_806 : (Cond.constant RX11 202 (999999999)) ∈ lw_tbl := tb_5 _ (List.mem_of_getElem? (i := 146) (by decide +kernel))
theorem q_807 : (Cond.methodLink RL 65 yX11_end) ∈ lw_tbl := tb_5 _ (List.mem_of_getElem? (i := 147) (by decide +kernel))
theorem q_808 : (Cond.instanceMethod yX11_end) ∈ lw_tbl := tb_5 _ (List.mem_of_getElem? (i := 148) (by decide +kernel))
theorem q_809 : (Cond.selects RX11 yX11_end yX11_end) ∈ lw_tbl := tb_5 _ (List.mem_of_getElem? (i := 149) (by decide +kernel))
theorem q_810 : (Cond.code yX11_end cX11_end 5 (some .int)) ∈ lw_tbl := tb_5 _ (List.mem_of_getElem? (i := 150) (by decide +kernel))
theorem q_811 : (Cond.methodLink RX11 203 yX11_keeps) ∈ lw_tbl := tb_5 _ (List.mem_of_getElem? (i := 151) (by decide +kernel))
theorem q_812 : (Cond.instanceMethod yX11_keeps) ∈ lw_tbl := tb_5 _ (List.mem_of_getElem? (i := 153) (by decide +kernel))
theorem q_813 : (Cond.code yX11_keeps cX11_keeps 2 none) ∈ lw_tbl := tb_5 _ (List.mem_of_getElem? (i := 154) (by decide +kernel))
theorem q_814 : (Cond.methodLink RX11 206 yX11_ends) ∈ lw_tbl := tb_5 _ (List.mem_of_getElem? (i := 155) (by decide +kernel))
theorem q_815 : (Cond.instanceMethod yX11_ends) ∈ lw_tbl := tb_5 _ (List.mem_of_getElem? (i := 157) (by decide +kernel))
theorem q_816 : (Cond.code yX11_ends cX11_ends 2 (some .int)) ∈ lw_tbl := tb_5 _ (List.mem_of_getElem? (i := 158) (by decide +kernel))
theorem q_817 : (Cond.methodLink RX11 209 yX11_goesBack) ∈ lw_tbl := tb_5 _ (List.mem_of_getElem? (i := 159) (by decide +kernel))
theorem q_818 : (Cond.instanceMethod yX11_goesBack) ∈ lw_tbl := tb_5 _ (List.mem_of_getElem? (i := 161) (by decide +kernel))
theorem q_819 : (Cond.code yX11_goesBack cX11_goesBack 2 none) ∈ lw_tbl := tb_5 _ (List.mem_of_getElem? (i := 162) (by decide +kernel))
theorem q_820 : (Cond.methodLink RL 69 yX11_best) ∈ lw_tbl := tb_5 _ (List.mem_of_getElem? (i := 163) (by decide +kernel))
theorem q_821 : (Cond.instanceMethod yX11_best) ∈ lw_tbl := tb_5 _ (List.mem_of_getElem? (i := 164) (by decide +kernel))
theorem q_822 : (Cond.selects RX11 yX11_best yX11_best) ∈ lw_tbl := tb_5 _ (List.mem_of_getElem? (i := 165) (by decide +kernel))
theorem q_823 : (Cond.code yX11_best cX11_best 9 (some .int)) ∈ lw_tbl := tb_5 _ (List.mem_of_getElem? (i := 166) (by decide +kernel))
theorem q_824 : (Cond.methodLink RL 73 yX11_choice) ∈ lw_tbl := tb_5 _ (List.mem_of_getElem? (i := 167) (by decide +kernel))
theorem q_825 : (Cond.instanceMethod yX11_choice) ∈ lw_tbl := tb_5 _ (List.mem_of_getElem? (i := 168) (by decide +kernel))
theorem q_826 : (Cond.selects RX11 yX11_choice yX11_choice) ∈ lw_tbl := tb_5 _ (List.mem_of_getElem? (i := 169) (by decide +kernel))
theorem q_827 : (Cond.code yX11_choice cX11_choice 3 (some .int)) ∈ lw_tbl := tb_5 _ (List.mem_of_getElem? (i := 170) (by decide +kernel))
theorem q_828 : (Cond.methodLink RX11 221 yX11_triesSets) ∈ lw_tbl := tb_5 _ (List.mem_of_getElem? (i := 171) (by decide +kernel))
theorem q_829 : (Cond.instanceMethod yX11_triesSets) ∈ lw_tbl := tb_5 _ (List.mem_of_getElem? (i := 173) (by decide +kernel))
theorem q_830 : (Cond.code yX11_triesSets cX11_triesSets 8 none) ∈ lw_tbl := tb_5 _ (List.mem_of_getElem? (i := 174) (by decide +kernel))
theorem q_831 : (Cond.methodLink RL 77 yX11_reach) ∈ lw_tbl := tb_5 _ (List.mem_of_getElem? (i := 175) (by decide +kernel))
theorem q_832 : (Cond.instanceMethod yX11_reach) ∈ lw_tbl := tb_5 _ (List.mem_of_getElem? (i := 176) (by decide +kernel))
theorem q_833 : (Cond.selects RX11 yX11_reach yX11_reach) ∈ lw_tbl := tb_5 _ (List.mem_of_getElem? (i := 177) (by decide +kernel))
theorem q_834 : (Cond.code yX11_reach cX11_reach 3 (some .int)) ∈ lw_tbl := tb_5 _ (List.mem_of_getElem? (i := 178) (by decide +kernel))
theorem q_835 : (Cond.methodLink RL 81 yX11_see) ∈ lw_tbl := tb_5 _ (List.mem_of_getElem? (i := 179) (by decide +kernel))
theorem q_836 : (Cond.instanceMethod yX11_see) ∈ lw_tbl := tb_5 _ (List.mem_of_getElem? (i := 180) (by decide +kernel))
theorem q_837 : (Cond.selects RX11 yX11_see yX11_see) ∈ lw_tbl := tb_5 _ (List.mem_of_getElem? (i := 181) (by decide +kernel))
theorem q_838 : (Cond.code yX11_see cX11_see 3 (some .int)) ∈ lw_tbl := tb_5 _ (List.mem_of_getElem? (i := 182) (by decide +kernel))
theorem q_839 : (Cond.methodLink RL 85 yX11_began) ∈ lw_tbl := tb_5 _ (List.mem_of_getElem? (i := 183) (by decide +kernel))
theorem q_840 : (Cond.instanceMethod yX11_began) ∈ lw_tbl := tb_5 _ (List.mem_of_getElem? (i := 184) (by decide +kernel))
theorem q_841 : (Cond.selects RX11 yX11_began yX11_began) ∈ lw_tbl := tb_5 _ (List.mem_of_getElem? (i := 185) (by decide +kernel))
theorem q_842 : (Cond.code yX11_began cX11_began 6 (some .int)) ∈ lw_tbl := tb_5 _ (List.mem_of_getElem? (i := 186) (by decide +kernel))
theorem q_843 : (Cond.methodLink RX11 224 yX11_isAsSeen) ∈ lw_tbl := tb_5 _ (List.mem_of_getElem? (i := 187) (by decide +kernel))
theorem q_844 : (Cond.instanceMethod yX11_isAsSeen) ∈ lw_tbl := tb_5 _ (List.mem_of_getElem? (i := 189) (by decide +kernel))
theorem q_845 : (Cond.code yX11_isAsSeen cX11_isAsSeen 4 (some .boolean)) ∈ lw_tbl := tb_5 _ (List.mem_of_getElem? (i := 190) (by decide +kernel))
theorem q_846 : (Cond.methodLink RL 89 yX11_stops) ∈ lw_tbl := tb_5 _ (List.mem_of_getElem? (i := 191) (by decide +kernel))
theorem q_847 : (Cond.instanceMethod yX11_stops) ∈ lw_tbl := tb_5 _ (List.mem_of_getElem? (i := 192) (by decide +kernel))
theorem q_848 : (Cond.selects RX11 yX11_stops yX11_stops) ∈ lw_tbl := tb_5 _ (List.mem_of_getElem? (i := 193) (by decide +kernel))
theorem q_849 : (Cond.code yX11_stops cX11_stops 4 (some .int)) ∈ lw_tbl := tb_5 _ (List.mem_of_getElem? (i := 194) (by decide +kernel))
theorem q_850 : (Cond.methodLink RX11 228 yX11_othersHeard) ∈ lw_tbl := tb_5 _ (List.mem_of_getElem? (i := 195) (by decide +kernel))
theorem q_851 : (Cond.instanceMethod yX11_othersHeard) ∈ lw_tbl := tb_5 _ (List.mem_of_getElem? (i := 197) (by decide +kernel))
theorem q_852 : (Cond.code yX11_othersHeard cX11_othersHeard 3 (some .int)) ∈ lw_tbl := tb_5 _ (List.mem_of_getElem? (i := 198) (by decide +kernel))
theorem q_853 : (Cond.methodLink RL 94 yX11_odds) ∈ lw_tbl := tb_5 _ (List.mem_of_getElem? (i := 199) (by decide +kernel))
theorem q_854 : (Cond.instanceMethod yX11_odds) ∈ lw_tbl := tb_5 _ (List.mem_of_getElem? (i := 200) (by decide +kernel))
theorem q_855 : (Cond.selects RX11 yX11_odds yX11_odds) ∈ lw_tbl := tb_5 _ (List.mem_of_getElem? (i := 201) (by decide +kernel))
theorem q_856 : (Cond.code yX11_odds cX11_odds 7 (some .long)) ∈ lw_tbl := tb_5 _ (List.mem_of_getElem? (i := 202) (by decide +kernel))
theorem q_857 : (Cond.methodLink RX11 231 yX11_lowest) ∈ lw_tbl := tb_5 _ (List.mem_of_getElem? (i := 203) (by decide +kernel))
theorem q_858 : (Cond.static yX11_lowest) ∈ lw_tbl := tb_5 _ (List.mem_of_getElem? (i := 204) (by decide +kernel))
theorem q_859 : (Cond.code yX11_lowest cX11_lowest 11 (some .long)) ∈ lw_tbl := tb_5 _ (List.mem_of_getElem? (i := 205) (by decide +kernel))
theorem q_860 : (Cond.methodLink RL 99 yX11_mean) ∈ lw_tbl := tb_5 _ (List.mem_of_getElem? (i := 206) (by decide +kernel))
theorem q_861 : (Cond.instanceMethod yX11_mean) ∈ lw_tbl := tb_5 _ (List.mem_of_getElem? (i := 207) (by decide +kernel))
theorem q_862 : (Cond.selects RX11 yX11_mean yX11_mean) ∈ lw_tbl := tb_5 _ (List.mem_of_getElem? (i := 208) (by decide +kernel))
theorem q_863 : (Cond.code yX11_mean cX11_mean 6 (some .long)) ∈ lw_tbl := tb_5 _ (List.mem_of_getElem? (i := 209) (by decide +kernel))
theorem q_864 : (Cond.methodLink RL 103 yX11_book) ∈ lw_tbl := tb_5 _ (List.mem_of_getElem? (i := 210) (by decide +kernel))
theorem q_865 : (Cond.instanceMethod yX11_book) ∈ lw_tbl := tb_5 _ (List.mem_of_getElem? (i := 211) (by decide +kernel))
theorem q_866 : (Cond.selects RX11 yX11_book yX11_book) ∈ lw_tbl := tb_5 _ (List.mem_of_getElem? (i := 212) (by decide +kernel))
theorem q_867 : (Cond.code yX11_book cX11_book 3 (some .int)) ∈ lw_tbl := tb_5 _ (List.mem_of_getElem? (i := 213) (by decide +kernel))
theorem q_868 : (Cond.methodLink RL 107 yX11_looked) ∈ lw_tbl := tb_5 _ (List.mem_of_getElem? (i := 214) (by decide +kernel))
theorem q_869 : (Cond.instanceMethod yX11_looked) ∈ lw_tbl := tb_5 _ (List.mem_of_getElem? (i := 215) (by decide +kernel))
theorem q_870 : (Cond.selects RX11 yX11_looked yX11_looked) ∈ lw_tbl := tb_5 _ (List.mem_of_getElem? (i := 216) (by decide +kernel))
theorem q_871 : (Cond.code yX11_looked cX11_looked 3 (some .int)) ∈ lw_tbl := tb_5 _ (List.mem_of_getElem? (i := 217) (by decide +kernel))
theorem q_872 : (Cond.methodLink RL 112 yX11_act) ∈ lw_tbl := tb_5 _ (List.mem_of_getElem? (i := 218) (by decide +kernel))
theorem q_873 : (Cond.instanceMethod yX11_act) ∈ lw_tbl := tb_5 _ (List.mem_of_getElem? (i := 219) (by decide +kernel))
theorem q_874 : (Cond.selects RX11 yX11_act yX11_act) ∈ lw_tbl := tb_5 _ (List.mem_of_getElem? (i := 220) (by decide +kernel))
theorem q_875 : (Cond.code yX11_act cX11_act 4 (some .int)) ∈ lw_tbl := tb_5 _ (List.mem_of_getElem? (i := 221) (by decide +kernel))
theorem q_876 : (Cond.methodLink RX11 254 yX11_hearsActs) ∈ lw_tbl := tb_5 _ (List.mem_of_getElem? (i := 222) (by decide +kernel))
theorem q_877 : (Cond.instanceMethod yX11_hearsActs) ∈ lw_tbl := tb_5 _ (List.mem_of_getElem? (i := 224) (by decide +kernel))
theorem q_878 : (Cond.code yX11_hearsActs cX11_hearsActs 2 (some .int)) ∈ lw_tbl := tb_5 _ (List.mem_of_getElem? (i := 225) (by decide +kernel))
theorem q_879 : (Cond.methodLink RX11 247 yX11_isUnder) ∈ lw_tbl := tb_5 _ (List.mem_of_getElem? (i := 226) (by decide +kernel))
theorem q_880 : (Cond.static yX11_isUnder) ∈ lw_tbl := tb_5 _ (List.mem_of_getElem? (i := 227) (by decide +kernel))
theorem q_881 : (Cond.code yX11_isUnder cX11_isUnder 2 (some .boolean)) ∈ lw_tbl := tb_5 _ (List.mem_of_getElem? (i := 228) (by decide +kernel))
theorem q_882 : (Cond.methodLink RX11 238 yX11_ranBody) ∈ lw_tbl := tb_5 _ (List.mem_of_getElem? (i := 229) (by decide +kernel))
theorem q_883 : (Cond.instanceMethod yX11_ranBody) ∈ lw_tbl := tb_5 _ (List.mem_of_getElem? (i := 231) (by decide +kernel))
theorem q_884 : (Cond.code yX11_ranBody cX11_ranBody 2 none) ∈ lw_tbl := tb_5 _ (List.mem_of_getElem? (i := 232) (by decide +kernel))
theorem q_885 : (Cond.methodLink RX11 251 yX11_plainHears) ∈ lw_tbl := tb_5 _ (List.mem_of_getElem? (i := 233) (by decide +kernel))
theorem q_886 : (Cond.instanceMethod yX11_plainHears) ∈ lw_tbl := tb_5 _ (List.mem_of_getElem? (i := 235) (by decide +kernel))
theorem q_887 : (Cond.code yX11_plainHears cX11_plainHears 2 (some .int)) ∈ lw_tbl := tb_5 _ (List.mem_of_getElem? (i := 236) (by decide +kernel))
theorem q_888 : (Cond.methodLink RX11 263 yX11_tellsActs) ∈ lw_tbl := tb_5 _ (List.mem_of_getElem? (i := 237) (by decide +kernel))
theorem q_889 : (Cond.instanceMethod yX11_tellsActs) ∈ lw_tbl := tb_5 _ (List.mem_of_getElem? (i := 239) (by decide +kernel))
theorem q_890 : (Cond.code yX11_tellsActs cX11_tellsActs 2 (some .int)) ∈ lw_tbl := tb_6 _ (List.mem_of_getElem? (i := 0) (by decide +kernel))
theorem q_891 : (Cond.methodLink RX11 260 yX11_plainTells) ∈ lw_tbl := tb_6 _ (List.mem_of_getElem? (i := 1) (by decide +kernel))
theorem q_892 : (Cond.instanceMethod yX11_plainTells) ∈ lw_tbl := tb_6 _ (List.mem_of_getElem? (i := 3) (by decide +kernel))
theorem q_893 : (Cond.code yX11_plainTells cX11_plainTells 2 (some .int)) ∈ lw_tbl := tb_6 _ (List.mem_of_getElem? (i := 4) (by decide +kernel))
theorem q_894 : (Cond.methodLink RX11 269 yX11_paysActs) ∈ lw_tbl := tb_6 _ (List.mem_of_getElem? (i := 5) (by decide +kernel))
theorem q_895 : (Cond.instanceMethod yX11_paysActs) ∈ lw_tbl := tb_6 _ (List.mem_of_getElem? (i := 7) (by decide +kernel))
theorem q_896 : (Cond.code yX11_paysActs cX11_paysActs 3 (some .int)) ∈ lw_tbl := tb_6 _ (List.mem_of_getElem? (i := 8) (by decide +kernel))
theorem q_897 : (Cond.methodLink RX11 266 yX11_plainPays) ∈ lw_tbl := tb_6 _ (List.mem_of_getElem? (i := 9) (by decide +kernel))
theorem q_898 : (Cond.instanceMethod yX11_plainPays) ∈ lw_tbl := tb_6 _ (List.mem_of_getElem? (i := 11) (by decide +kernel))
theorem q_899 : (Cond.code yX11_plainPays cX11_plainPays 2 (some .int)) ∈ lw_tbl := tb_6 _ (List.mem_of_getElem? (i := 12) (by decide +kernel))
theorem q_900 : (Cond.methodLink RL 116 yX11_trace) ∈ lw_tbl := tb_6 _ (List.mem_of_getElem? (i := 13) (by decide +kernel))
theorem q_901 : (Cond.instanceMethod yX11_trace) ∈ lw_tbl := tb_6 _ (List.mem_of_getElem? (i := 14) (by decide +kernel))
theorem q_902 : (Cond.selects RX11 yX11_trace yX11_trace) ∈ lw_tbl := tb_6 _ (List.mem_of_getElem? (i := 15) (by decide +kernel))
theorem q_903 : (Cond.code yX11_trace cX11_trace 2 (some .int)) ∈ lw_tbl := tb_6 _ (List.mem_of_getElem? (i := 16) (by decide +kernel))
theorem q_904 : (Cond.methodLink RL 120 yX11_as) ∈ lw_tbl := tb_6 _ (List.mem_of_getElem? (i := 17) (by decide +kernel))
theorem q_905 : (Cond.instanceMethod yX11_as) ∈ lw_tbl := tb_6 _ (List.mem_of_getElem? (i := 18) (by decide +kernel))
theorem q_906 : (Cond.selects RX11 yX11_as yX11_as) ∈ lw_tbl := tb_6 _ (List.mem_of_getElem? (i := 19) (by decide +kernel))
theorem q_907 : (Cond.code yX11_as cX11_as 3 (some .int)) ∈ lw_tbl := tb_6 _ (List.mem_of_getElem? (i := 20) (by decide +kernel))
theorem q_908 : (Cond.methodLink RL 124 yX11_image) ∈ lw_tbl := tb_6 _ (List.mem_of_getElem? (i := 21) (by decide +kernel))
theorem q_909 : (Cond.instanceMethod yX11_image) ∈ lw_tbl := tb_6 _ (List.mem_of_getElem? (i := 22) (by decide +kernel))
theorem q_910 : (Cond.selects RX11 yX11_image yX11_image) ∈ lw_tbl := tb_6 _ (List.mem_of_getElem? (i := 23) (by decide +kernel))
theorem q_911 : (Cond.code yX11_image cX11_image 2 (some .int)) ∈ lw_tbl := tb_6 _ (List.mem_of_getElem? (i := 24) (by decide +kernel))
theorem q_912 : (Cond.methodLink RL 128 yX11_undo) ∈ lw_tbl := tb_6 _ (List.mem_of_getElem? (i := 25) (by decide +kernel))
theorem q_913 : (Cond.instanceMethod yX11_undo) ∈ lw_tbl := tb_6 _ (List.mem_of_getElem? (i := 26) (by decide +kernel))
theorem q_914 : (Cond.selects RX11 yX11_undo yX11_undo) ∈ lw_tbl := tb_6 _ (List.mem_of_getElem? (i := 27) (by decide +kernel))
theorem q_915 : (Cond.code yX11_undo cX11_undo 2 (some .int)) ∈ lw_tbl := tb_6 _ (List.mem_of_getElem? (i := 28) (by decide +kernel))
theorem q_916 : (Cond.methodLink RL 132 yX11_count) ∈ lw_tbl := tb_6 _ (List.mem_of_getElem? (i := 29) (by decide +kernel))
theorem q_917 : (Cond.instanceMethod yX11_count) ∈ lw_tbl := tb_6 _ (List.mem_of_getElem? (i := 30) (by decide +kernel))
theorem q_918 : (Cond.selects RX11 yX11_count yX11_count) ∈ lw_tbl := tb_6 _ (List.mem_of_getElem? (i := 31) (by decide +kernel))
theorem q_919 : (Cond.code yX11_count cX11_count 2 (some .int)) ∈ lw_tbl := tb_6 _ (List.mem_of_getElem? (i := 32) (by decide +kernel))
theorem q_920 : (Cond.fieldLink RJ0 9 RJ0 "value" "[B") ∈ lw_tbl := tb_6 _ (List.mem_of_getElem? (i := 33) (by decide +kernel))
theorem q_921 : (Cond.fieldLink RJ0 15 RJ0 "coder" "B") ∈ lw_tbl := tb_6 _ (List.mem_of_getElem? (i := 34) (by decide +kernel))
theorem q_922 : (Cond.selects RX6 yX6_add yX6_add) ∈ lw_tbl := pv_1 (q := (yX6_add, 2)) (List.mem_of_getElem? (i := 0) (by decide +kernel))
theorem q_923 : (Cond.selects RX3 yX3_read yX3_read) ∈ lw_tbl := pv_1 (q := (yX3_read, 5)) (List.mem_of_getElem? (i := 1) (by decide +kernel))
theorem q_924 : (Cond.selects RX6 yX6_copyFrom yX6_copyFrom) ∈ lw_tbl := pv_1 (q := (yX6_copyFrom, 2)) (List.mem_of_getElem? (i := 2) (by decide +kernel))
theorem q_925 : (Cond.selects RX8 yX8_clear yX8_clear) ∈ lw_tbl := pv_1 (q := (yX8_clear, 11)) (List.mem_of_getElem? (i := 3) (by decide +kernel))
theorem q_926 : (Cond.selects RX3 yX3_readHead yX3_readHead) ∈ lw_tbl := pv_1 (q := (yX3_readHead, 5)) (List.mem_of_getElem? (i := 4) (by decide +kernel))
theorem q_927 : (Cond.selects RX6 yX6_at yX6_at) ∈ lw_tbl := pv_1 (q := (yX6_at, 2)) (List.mem_of_getElem? (i := 5) (by decide +kernel))
theorem q_928 : (Cond.selects RX3 yX3_readShun yX3_readShun) ∈ lw_tbl := pv_1 (q := (yX3_readShun, 5)) (List.mem_of_getElem? (i := 6) (by decide +kernel))
theorem q_929 : (Cond.selects RX3 yX3_readWord yX3_readWord) ∈ lw_tbl := pv_1 (q := (yX3_readWord, 5)) (List.mem_of_getElem? (i := 7) (by decide +kernel))
theorem q_930 : (Cond.selects RX3 yX3_skip yX3_skip) ∈ lw_tbl := pv_1 (q := (yX3_skip, 5)) (List.mem_of_getElem? (i := 8) (by decide +kernel))
theorem q_931 : (Cond.selects RX8 yX8_addClause yX8_addClause) ∈ lw_tbl := pv_1 (q := (yX8_addClause, 11)) (List.mem_of_getElem? (i := 9) (by decide +kernel))
theorem q_932 : (Cond.selects RX3 yX3_readFewer yX3_readFewer) ∈ lw_tbl := pv_1 (q := (yX3_readFewer, 5)) (List.mem_of_getElem? (i := 10) (by decide +kernel))
theorem q_933 : (Cond.selects RX3 yX3_readNumber yX3_readNumber) ∈ lw_tbl := pv_1 (q := (yX3_readNumber, 5)) (List.mem_of_getElem? (i := 11) (by decide +kernel))
theorem q_934 : (Cond.selects RX3 yX3_readFine yX3_readFine) ∈ lw_tbl := pv_1 (q := (yX3_readFine, 5)) (List.mem_of_getElem? (i := 12) (by decide +kernel))
theorem q_935 : (Cond.selects RX3 yX3_readLaw yX3_readLaw) ∈ lw_tbl := pv_1 (q := (yX3_readLaw, 5)) (List.mem_of_getElem? (i := 13) (by decide +kernel))
theorem q_936 : (Cond.selects RX3 yX3_readEither yX3_readEither) ∈ lw_tbl := pv_1 (q := (yX3_readEither, 5)) (List.mem_of_getElem? (i := 14) (by decide +kernel))
theorem q_937 : (Cond.selects RX3 yX3_readPart yX3_readPart) ∈ lw_tbl := pv_1 (q := (yX3_readPart, 5)) (List.mem_of_getElem? (i := 15) (by decide +kernel))
theorem q_938 : (Cond.selects RX3 yX3_readTest yX3_readTest) ∈ lw_tbl := pv_2 (q := (yX3_readTest, 5)) (List.mem_of_getElem? (i := 0) (by decide +kernel))
theorem q_939 : (Cond.selects RX3 yX3_factOf yX3_factOf) ∈ lw_tbl := pv_2 (q := (yX3_factOf, 5)) (List.mem_of_getElem? (i := 1) (by decide +kernel))
theorem q_940 : (Cond.selects RX8 yX8_addStep yX8_addStep) ∈ lw_tbl := pv_2 (q := (yX8_addStep, 11)) (List.mem_of_getElem? (i := 2) (by decide +kernel))
theorem q_941 : (Cond.selects RX8 yX8_copyFrom yX8_copyFrom) ∈ lw_tbl := pv_2 (q := (yX8_copyFrom, 11)) (List.mem_of_getElem? (i := 3) (by decide +kernel))
theorem q_942 : (Cond.selects RX2 yX2_add yX2_add) ∈ lw_tbl := pv_2 (q := (yX2_add, 6)) (List.mem_of_getElem? (i := 4) (by decide +kernel))
theorem q_943 : (Cond.selects RX2 yX2_has yX2_has) ∈ lw_tbl := pv_2 (q := (yX2_has, 6)) (List.mem_of_getElem? (i := 5) (by decide +kernel))
theorem q_944 : (Cond.selects RX7 yX7_fineOf yX7_fineOf) ∈ lw_tbl := pv_2 (q := (yX7_fineOf, 2)) (List.mem_of_getElem? (i := 6) (by decide +kernel))
theorem q_945 : (Cond.selects RX7 yX7_setFacts yX7_setFacts) ∈ lw_tbl := pv_2 (q := (yX7_setFacts, 2)) (List.mem_of_getElem? (i := 7) (by decide +kernel))
theorem q_946 : (Cond.selects RX8 yX8_weigh yX8_weigh) ∈ lw_tbl := pv_2 (q := (yX8_weigh, 11)) (List.mem_of_getElem? (i := 8) (by decide +kernel))
theorem q_947 : (Cond.selects RX8 yX8_holds yX8_holds) ∈ lw_tbl := pv_2 (q := (yX8_holds, 11)) (List.mem_of_getElem? (i := 9) (by decide +kernel))
theorem q_948 : (Cond.selects RX10 yX10_ofTeller yX10_ofTeller) ∈ lw_tbl := pv_2 (q := (yX10_ofTeller, 7)) (List.mem_of_getElem? (i := 10) (by decide +kernel))
theorem q_949 : (Cond.selects RX7 yX7_mayOf yX7_mayOf) ∈ lw_tbl := pv_2 (q := (yX7_mayOf, 2)) (List.mem_of_getElem? (i := 11) (by decide +kernel))
theorem q_950 : (Cond.selects RX7 yX7_askedOf yX7_askedOf) ∈ lw_tbl := pv_2 (q := (yX7_askedOf, 2)) (List.mem_of_getElem? (i := 12) (by decide +kernel))
theorem q_951 : (Cond.selects RX2 yX2_pick yX2_pick) ∈ lw_tbl := pv_2 (q := (yX2_pick, 6)) (List.mem_of_getElem? (i := 13) (by decide +kernel))
theorem q_952 : (Cond.selects RX2 yX2_pickFromRow yX2_pickFromRow) ∈ lw_tbl := pv_2 (q := (yX2_pickFromRow, 6)) (List.mem_of_getElem? (i := 14) (by decide +kernel))
theorem q_953 : (Cond.selects RX2 yX2_pickNext yX2_pickNext) ∈ lw_tbl := pv_2 (q := (yX2_pickNext, 6)) (List.mem_of_getElem? (i := 15) (by decide +kernel))
theorem q_954 : (Cond.selects RX2 yX2_isAhead yX2_isAhead) ∈ lw_tbl := pv_3 (q := (yX2_isAhead, 6)) (List.mem_of_getElem? (i := 0) (by decide +kernel))
theorem q_955 : (Cond.selects RX2 yX2_acquaint yX2_acquaint) ∈ lw_tbl := pv_3 (q := (yX2_acquaint, 6)) (List.mem_of_getElem? (i := 1) (by decide +kernel))
theorem q_956 : (Cond.selects RX2 yX2_addToRow yX2_addToRow) ∈ lw_tbl := pv_3 (q := (yX2_addToRow, 6)) (List.mem_of_getElem? (i := 2) (by decide +kernel))
theorem q_957 : (Cond.selects RX9 yX9_startWith yX9_startWith) ∈ lw_tbl := pv_3 (q := (yX9_startWith, 6)) (List.mem_of_getElem? (i := 3) (by decide +kernel))
theorem q_958 : (Cond.selects RX7 yX7_goDay yX7_goDay) ∈ lw_tbl := pv_3 (q := (yX7_goDay, 2)) (List.mem_of_getElem? (i := 4) (by decide +kernel))
theorem q_959 : (Cond.selects RX9 yX9_yetToTell yX9_yetToTell) ∈ lw_tbl := pv_3 (q := (yX9_yetToTell, 6)) (List.mem_of_getElem? (i := 5) (by decide +kernel))
theorem q_960 : (Cond.selects RX2 yX2_deafOn yX2_deafOn) ∈ lw_tbl := pv_3 (q := (yX2_deafOn, 6)) (List.mem_of_getElem? (i := 6) (by decide +kernel))
theorem q_961 : (Cond.selects RX7 yX7_hand yX7_hand) ∈ lw_tbl := pv_3 (q := (yX7_hand, 2)) (List.mem_of_getElem? (i := 7) (by decide +kernel))
theorem q_962 : (Cond.selects RX8 yX8_sumOf yX8_sumOf) ∈ lw_tbl := pv_3 (q := (yX8_sumOf, 11)) (List.mem_of_getElem? (i := 8) (by decide +kernel))
theorem q_963 : (Cond.selects RX9 yX9_copyFrom yX9_copyFrom) ∈ lw_tbl := pv_3 (q := (yX9_copyFrom, 6)) (List.mem_of_getElem? (i := 9) (by decide +kernel))
theorem q_964 : (Cond.selects RX7 yX7_goOn yX7_goOn) ∈ lw_tbl := pv_3 (q := (yX7_goOn, 2)) (List.mem_of_getElem? (i := 10) (by decide +kernel))
theorem q_965 : (Cond.selects RX2 yX2_all yX2_all) ∈ lw_tbl := pv_3 (q := (yX2_all, 6)) (List.mem_of_getElem? (i := 11) (by decide +kernel))
theorem q_966 : (Cond.selects RX1 yX1_findBest yX1_findBest) ∈ lw_tbl := pv_3 (q := (yX1_findBest, 9)) (List.mem_of_getElem? (i := 12) (by decide +kernel))
theorem q_967 : (Cond.selects RX1 yX1_findChoice yX1_findChoice) ∈ lw_tbl := pv_3 (q := (yX1_findChoice, 9)) (List.mem_of_getElem? (i := 13) (by decide +kernel))
theorem q_968 : (Cond.selects RX1 yX1_isChoosable yX1_isChoosable) ∈ lw_tbl := pv_3 (q := (yX1_isChoosable, 9)) (List.mem_of_getElem? (i := 14) (by decide +kernel))
theorem q_969 : (Cond.selects RX1 yX1_findReach yX1_findReach) ∈ lw_tbl := pv_3 (q := (yX1_findReach, 9)) (List.mem_of_getElem? (i := 15) (by decide +kernel))
theorem q_970 : (Cond.selects RX4 yX4_add yX4_add) ∈ lw_tbl := pv_4 (q := (yX4_add, 3)) (List.mem_of_getElem? (i := 0) (by decide +kernel))
theorem q_971 : (Cond.selects RX1 yX1_findBegan yX1_findBegan) ∈ lw_tbl := pv_4 (q := (yX1_findBegan, 9)) (List.mem_of_getElem? (i := 1) (by decide +kernel))
theorem q_972 : (Cond.selects RX1 yX1_isAsSeen yX1_isAsSeen) ∈ lw_tbl := pv_4 (q := (yX1_isAsSeen, 9)) (List.mem_of_getElem? (i := 2) (by decide +kernel))
theorem q_973 : (Cond.selects RX1 yX1_waysToHear yX1_waysToHear) ∈ lw_tbl := pv_4 (q := (yX1_waysToHear, 9)) (List.mem_of_getElem? (i := 3) (by decide +kernel))
theorem q_974 : (Cond.selects RX1 yX1_finesOfAll yX1_finesOfAll) ∈ lw_tbl := pv_4 (q := (yX1_finesOfAll, 9)) (List.mem_of_getElem? (i := 4) (by decide +kernel))
theorem q_975 : (Cond.selects RX0 yX0_setOne yX0_setOne) ∈ lw_tbl := pv_4 (q := (yX0_setOne, 5)) (List.mem_of_getElem? (i := 5) (by decide +kernel))
theorem q_976 : (Cond.selects RX0 yX0_hears yX0_hears) ∈ lw_tbl := pv_4 (q := (yX0_hears, 5)) (List.mem_of_getElem? (i := 6) (by decide +kernel))
theorem q_977 : (Cond.selects RX0 yX0_run yX0_run) ∈ lw_tbl := pv_4 (q := (yX0_run, 5)) (List.mem_of_getElem? (i := 7) (by decide +kernel))
theorem q_978 : (Cond.selects RX0 yX0_tells yX0_tells) ∈ lw_tbl := pv_4 (q := (yX0_tells, 5)) (List.mem_of_getElem? (i := 8) (by decide +kernel))
theorem q_979 : (Cond.selects RX0 yX0_pays yX0_pays) ∈ lw_tbl := pv_4 (q := (yX0_pays, 5)) (List.mem_of_getElem? (i := 9) (by decide +kernel))
theorem q_980 : (Cond.selects RX5 yX5_copyFrom yX5_copyFrom) ∈ lw_tbl := pv_4 (q := (yX5_copyFrom, 7)) (List.mem_of_getElem? (i := 10) (by decide +kernel))
theorem q_981 : (Cond.selects RX2 yX2_copyFrom yX2_copyFrom) ∈ lw_tbl := pv_4 (q := (yX2_copyFrom, 6)) (List.mem_of_getElem? (i := 11) (by decide +kernel))
theorem q_982 : (Cond.selects RX4 yX4_copyFrom yX4_copyFrom) ∈ lw_tbl := pv_4 (q := (yX4_copyFrom, 3)) (List.mem_of_getElem? (i := 12) (by decide +kernel))
theorem q_983 : (Cond.selects RX11 yX11_clauseHere yX11_clauseHere) ∈ lw_tbl := pv_4 (q := (yX11_clauseHere, 27)) (List.mem_of_getElem? (i := 13) (by decide +kernel))
theorem q_984 : (Cond.selects RX11 yX11_here yX11_here) ∈ lw_tbl := pv_4 (q := (yX11_here, 27)) (List.mem_of_getElem? (i := 14) (by decide +kernel))
theorem q_985 : (Cond.selects RX11 yX11_spells yX11_spells) ∈ lw_tbl := pv_4 (q := (yX11_spells, 27)) (List.mem_of_getElem? (i := 15) (by decide +kernel))
theorem q_986 : (Cond.selects RX11 yX11_must yX11_must) ∈ lw_tbl := pv_5 (q := (yX11_must, 27)) (List.mem_of_getElem? (i := 0) (by decide +kernel))
theorem q_987 : (Cond.selects RX11 yX11_some yX11_some) ∈ lw_tbl := pv_5 (q := (yX11_some, 27)) (List.mem_of_getElem? (i := 1) (by decide +kernel))
theorem q_988 : (Cond.selects RX11 yX11_every yX11_every) ∈ lw_tbl := pv_5 (q := (yX11_every, 27)) (List.mem_of_getElem? (i := 2) (by decide +kernel))
theorem q_989 : (Cond.selects RX11 yX11_factor yX11_factor) ∈ lw_tbl := pv_5 (q := (yX11_factor, 27)) (List.mem_of_getElem? (i := 3) (by decide +kernel))
theorem q_990 : (Cond.selects RX11 yX11_emits yX11_emits) ∈ lw_tbl := pv_5 (q := (yX11_emits, 27)) (List.mem_of_getElem? (i := 4) (by decide +kernel))
theorem q_991 : (Cond.selects RX11 yX11_among yX11_among) ∈ lw_tbl := pv_5 (q := (yX11_among, 27)) (List.mem_of_getElem? (i := 5) (by decide +kernel))
theorem q_992 : (Cond.selects RX11 yX11_figures yX11_figures) ∈ lw_tbl := pv_5 (q := (yX11_figures, 27)) (List.mem_of_getElem? (i := 6) (by decide +kernel))
theorem q_993 : (Cond.selects RX11 yX11_clauseOfF yX11_clauseOfF) ∈ lw_tbl := pv_5 (q := (yX11_clauseOfF, 27)) (List.mem_of_getElem? (i := 7) (by decide +kernel))
theorem q_994 : (Cond.selects RX11 yX11_tellsHere yX11_tellsHere) ∈ lw_tbl := pv_5 (q := (yX11_tellsHere, 27)) (List.mem_of_getElem? (i := 8) (by decide +kernel))
theorem q_995 : (Cond.selects RX11 yX11_isPerson yX11_isPerson) ∈ lw_tbl := pv_5 (q := (yX11_isPerson, 27)) (List.mem_of_getElem? (i := 9) (by decide +kernel))
theorem q_996 : (Cond.selects RX11 yX11_hasHeard yX11_hasHeard) ∈ lw_tbl := pv_5 (q := (yX11_hasHeard, 27)) (List.mem_of_getElem? (i := 10) (by decide +kernel))
theorem q_997 : (Cond.selects RX11 yX11_hasTold yX11_hasTold) ∈ lw_tbl := pv_5 (q := (yX11_hasTold, 27)) (List.mem_of_getElem? (i := 11) (by decide +kernel))
theorem q_998 : (Cond.selects RX11 yX11_mayOf yX11_mayOf) ∈ lw_tbl := pv_5 (q := (yX11_mayOf, 27)) (List.mem_of_getElem? (i := 12) (by decide +kernel))
theorem q_999 : (Cond.selects RX11 yX11_looks yX11_looks) ∈ lw_tbl := pv_5 (q := (yX11_looks, 27)) (List.mem_of_getElem? (i := 13) (by decide +kernel))
theorem q_1000 : (Cond.selects RX11 yX11_tellsOf yX11_tellsOf) ∈ lw_tbl := pv_5 (q := (yX11_tellsOf, 27)) (List.mem_of_getElem? (i := 14) (by decide +kernel))
theorem q_1001 : (Cond.selects RX11 yX11_askedOf yX11_askedOf) ∈ lw_tbl := pv_5 (q := (yX11_askedOf, 27)) (List.mem_of_getElem? (i := 15) (by decide +kernel))
theorem q_1002 : (Cond.selects RX11 yX11_choiceOf yX11_choiceOf) ∈ lw_tbl := pv_6 (q := (yX11_choiceOf, 27)) (List.mem_of_getElem? (i := 0) (by decide +kernel))
theorem q_1003 : (Cond.selects RX11 yX11_firstOf yX11_firstOf) ∈ lw_tbl := pv_6 (q := (yX11_firstOf, 27)) (List.mem_of_getElem? (i := 1) (by decide +kernel))
theorem q_1004 : (Cond.selects RX11 yX11_fineOf yX11_fineOf) ∈ lw_tbl := pv_6 (q := (yX11_fineOf, 27)) (List.mem_of_getElem? (i := 2) (by decide +kernel))
theorem q_1005 : (Cond.selects RX11 yX11_begins yX11_begins) ∈ lw_tbl := pv_6 (q := (yX11_begins, 27)) (List.mem_of_getElem? (i := 3) (by decide +kernel))
theorem q_1006 : (Cond.selects RX11 yX11_goes yX11_goes) ∈ lw_tbl := pv_6 (q := (yX11_goes, 27)) (List.mem_of_getElem? (i := 4) (by decide +kernel))
theorem q_1007 : (Cond.selects RX11 yX11_chooses yX11_chooses) ∈ lw_tbl := pv_6 (q := (yX11_chooses, 27)) (List.mem_of_getElem? (i := 5) (by decide +kernel))
theorem q_1008 : (Cond.selects RX11 yX11_isToTell yX11_isToTell) ∈ lw_tbl := pv_6 (q := (yX11_isToTell, 27)) (List.mem_of_getElem? (i := 6) (by decide +kernel))
theorem q_1009 : (Cond.selects RX11 yX11_isDeaf yX11_isDeaf) ∈ lw_tbl := pv_6 (q := (yX11_isDeaf, 27)) (List.mem_of_getElem? (i := 7) (by decide +kernel))
theorem q_1010 : (Cond.selects RX11 yX11_numberFor yX11_numberFor) ∈ lw_tbl := pv_6 (q := (yX11_numberFor, 27)) (List.mem_of_getElem? (i := 8) (by decide +kernel))
theorem q_1011 : (Cond.selects RX11 yX11_lessOne yX11_lessOne) ∈ lw_tbl := pv_6 (q := (yX11_lessOne, 27)) (List.mem_of_getElem? (i := 9) (by decide +kernel))
theorem q_1012 : (Cond.selects RX11 yX11_sumOf yX11_sumOf) ∈ lw_tbl := pv_6 (q := (yX11_sumOf, 27)) (List.mem_of_getElem? (i := 10) (by decide +kernel))
theorem q_1013 : (Cond.selects RX11 yX11_keeps yX11_keeps) ∈ lw_tbl := pv_6 (q := (yX11_keeps, 27)) (List.mem_of_getElem? (i := 11) (by decide +kernel))
theorem q_1014 : (Cond.selects RX11 yX11_ends yX11_ends) ∈ lw_tbl := pv_6 (q := (yX11_ends, 27)) (List.mem_of_getElem? (i := 12) (by decide +kernel))
theorem q_1015 : (Cond.selects RX11 yX11_goesBack yX11_goesBack) ∈ lw_tbl := pv_6 (q := (yX11_goesBack, 27)) (List.mem_of_getElem? (i := 13) (by decide +kernel))
theorem q_1016 : (Cond.selects RX11 yX11_triesSets yX11_triesSets) ∈ lw_tbl := pv_6 (q := (yX11_triesSets, 27)) (List.mem_of_getElem? (i := 14) (by decide +kernel))
theorem q_1017 : (Cond.selects RX11 yX11_isAsSeen yX11_isAsSeen) ∈ lw_tbl := pv_6 (q := (yX11_isAsSeen, 27)) (List.mem_of_getElem? (i := 15) (by decide +kernel))
theorem q_1018 : (Cond.selects RX11 yX11_othersHeard yX11_othersHeard) ∈ lw_tbl := pv_7 (q := (yX11_othersHeard, 27)) (List.mem_of_getElem? (i := 0) (by decide +kernel))
theorem q_1019 : (Cond.selects RX11 yX11_hearsActs yX11_hearsActs) ∈ lw_tbl := pv_7 (q := (yX11_hearsActs, 27)) (List.mem_of_getElem? (i := 1) (by decide +kernel))
theorem q_1020 : (Cond.selects RX11 yX11_ranBody yX11_ranBody) ∈ lw_tbl := pv_7 (q := (yX11_ranBody, 27)) (List.mem_of_getElem? (i := 2) (by decide +kernel))
theorem q_1021 : (Cond.selects RX11 yX11_plainHears yX11_plainHears) ∈ lw_tbl := pv_7 (q := (yX11_plainHears, 27)) (List.mem_of_getElem? (i := 3) (by decide +kernel))
theorem q_1022 : (Cond.selects RX11 yX11_tellsActs yX11_tellsActs) ∈ lw_tbl := pv_7 (q := (yX11_tellsActs, 27)) (List.mem_of_getElem? (i := 4) (by decide +kernel))
theorem q_1023 : (Cond.selects RX11 yX11_plainTells yX11_plainTells) ∈ lw_tbl := pv_7 (q := (yX11_plainTells, 27)) (List.mem_of_getElem? (i := 5) (by decide +kernel))
theorem q_1024 : (Cond.selects RX11 yX11_paysActs yX11_paysActs) ∈ lw_tbl := pv_7 (q := (yX11_paysActs, 27)) (List.mem_of_getElem? (i := 6) (by decide +kernel))
theorem q_1025 : (Cond.selects RX11 yX11_plainPays yX11_plainPays) ∈ lw_tbl := pv_7 (q := (yX11_plainPays, 27)) (List.mem_of_getElem? (i := 7) (by decide +kernel))
end
section
theorem ly_r {big : List Cond} (ws : List Cond) (ps : List Nat) (hp : ws = ps.filterMap (fun i => big[i]?)) : ∀ w ∈ ws, w ∈ big := by
  intro w hw
  rw [hp] at hw
  obtain ⟨i, -, hi⟩ := List.mem_filterMap.mp hw
  exact List.mem_of_getElem? hi
theorem ly0_X0 : ∀ w ∈ u_ws RX0 TX0 5, w ∈ tables_1 := ly_r _ [333, 335, 337, 339, 341] (by decide +kernel)
theorem ly1_X0 : (u_ws RX0 TX0 5).all gw = true := by decide +kernel
theorem ly_X0 {s : State} {args : Array Value} (h : EW s) : ∀ w ∈ u_ws RX0 TX0 5, w.before args s = true := fun w hw => h.use (tb_0 w (ly0_X0 w hw)) (List.all_eq_true.mp ly1_X0 w hw) args
theorem ly0_X1 : ∀ w ∈ u_ws RX1 TX1 9, w ∈ tables_1 := ly_r _ [271, 273, 275, 277, 279, 281, 283, 285, 287] (by decide +kernel)
theorem ly1_X1 : (u_ws RX1 TX1 9).all gw = true := by decide +kernel
theorem ly_X1 {s : State} {args : Array Value} (h : EW s) : ∀ w ∈ u_ws RX1 TX1 9, w.before args s = true := fun w hw => h.use (tb_0 w (ly0_X1 w hw)) (List.all_eq_true.mp ly1_X1 w hw) args
theorem ly0_X2 : ∀ w ∈ u_ws RX2 TX2 6, w ∈ tables_1 := ly_r _ [130, 132, 134, 136, 138, 140] (by decide +kernel)
theorem ly1_X2 : (u_ws RX2 TX2 6).all gw = true := by decide +kernel
theorem ly_X2 {s : State} {args : Array Value} (h : EW s) : ∀ w ∈ u_ws RX2 TX2 6, w.before args s = true := fun w hw => h.use (tb_0 w (ly0_X2 w hw)) (List.all_eq_true.mp ly1_X2 w hw) args
theorem ly0_X3 : ∀ w ∈ u_ws RX3 TX3 5, w ∈ tables_1 := ly_r _ [309, 311, 313, 315, 317] (by decide +kernel)
theorem ly1_X3 : (u_ws RX3 TX3 5).all gw = true := by decide +kernel
theorem ly_X3 {s : State} {args : Array Value} (h : EW s) : ∀ w ∈ u_ws RX3 TX3 5, w.before args s = true := fun w hw => h.use (tb_0 w (ly0_X3 w hw)) (List.all_eq_true.mp ly1_X3 w hw) args
theorem ly0_X4 : ∀ w ∈ u_ws RX4 TX4 3, w ∈ tables_1 := ly_r _ [201, 203, 205] (by decide +kernel)
theorem ly1_X4 : (u_ws RX4 TX4 3).all gw = true := by decide +kernel
theorem ly_X4 {s : State} {args : Array Value} (h : EW s) : ∀ w ∈ u_ws RX4 TX4 3, w.before args s = true := fun w hw => h.use (tb_0 w (ly0_X4 w hw)) (List.all_eq_true.mp ly1_X4 w hw) args
theorem ly0_X5 : ∀ w ∈ u_ws RX5 TX5 7, w ∈ tables_1 := ly_r _ [227, 229, 231, 233, 235, 237, 239] (by decide +kernel)
theorem ly1_X5 : (u_ws RX5 TX5 7).all gw = true := by decide +kernel
theorem ly_X5 {s : State} {args : Array Value} (h : EW s) : ∀ w ∈ u_ws RX5 TX5 7, w.before args s = true := fun w hw => h.use (tb_0 w (ly0_X5 w hw)) (List.all_eq_true.mp ly1_X5 w hw) args
theorem ly0_X6 : ∀ w ∈ u_ws RX6 TX6 2, w ∈ tables_1 := ly_r _ [56, 58] (by decide +kernel)
theorem ly1_X6 : (u_ws RX6 TX6 2).all gw = true := by decide +kernel
theorem ly_X6 {s : State} {args : Array Value} (h : EW s) : ∀ w ∈ u_ws RX6 TX6 2, w.before args s = true := fun w hw => h.use (tb_0 w (ly0_X6 w hw)) (List.all_eq_true.mp ly1_X6 w hw) args
theorem ly0_X7 : ∀ w ∈ u_ws RX7 TX7 2, w ∈ tables_1 := ly_r _ [246, 248] (by decide +kernel)
theorem ly1_X7 : (u_ws RX7 TX7 2).all gw = true := by decide +kernel
theorem ly_X7 {s : State} {args : Array Value} (h : EW s) : ∀ w ∈ u_ws RX7 TX7 2, w.before args s = true := fun w hw => h.use (tb_0 w (ly0_X7 w hw)) (List.all_eq_true.mp ly1_X7 w hw) args
theorem ly0_X8 : ∀ w ∈ u_ws RX8 TX8 11, w ∈ tables_1 := ly_r _ [85, 87, 89, 91, 93, 95, 97, 99, 101, 103, 105] (by decide +kernel)
theorem ly1_X8 : (u_ws RX8 TX8 11).all gw = true := by decide +kernel
theorem ly_X8 {s : State} {args : Array Value} (h : EW s) : ∀ w ∈ u_ws RX8 TX8 11, w.before args s = true := fun w hw => h.use (tb_0 w (ly0_X8 w hw)) (List.all_eq_true.mp ly1_X8 w hw) args
theorem ly0_X9 : ∀ w ∈ u_ws RX9 TX9 6, w ∈ tables_1 := ly_r _ [170, 172, 174, 176, 178, 180] (by decide +kernel)
theorem ly1_X9 : (u_ws RX9 TX9 6).all gw = true := by decide +kernel
theorem ly_X9 {s : State} {args : Array Value} (h : EW s) : ∀ w ∈ u_ws RX9 TX9 6, w.before args s = true := fun w hw => h.use (tb_0 w (ly0_X9 w hw)) (List.all_eq_true.mp ly1_X9 w hw) args
theorem ly0_X10 : ∀ w ∈ u_ws RX10 TX10 7, w ∈ tables_1 := ly_r _ [351, 353, 355, 357, 359, 361, 363] (by decide +kernel)
theorem ly1_X10 : (u_ws RX10 TX10 7).all gw = true := by decide +kernel
theorem ly_X10 {s : State} {args : Array Value} (h : EW s) : ∀ w ∈ u_ws RX10 TX10 7, w.before args s = true := fun w hw => h.use (tb_0 w (ly0_X10 w hw)) (List.all_eq_true.mp ly1_X10 w hw) args
theorem ly0_X11 : ∀ w ∈ u_ws RX11 TX11 27, w ∈ tables_1 := ly_r _ [871, 873, 875, 877, 879, 881, 883, 885, 887, 889, 891, 893, 895, 897, 899, 901, 903, 905, 907, 909, 911, 913, 915, 917, 919, 921, 923] (by decide +kernel)
theorem ly1_X11 : (u_ws RX11 TX11 27).all gw = true := by decide +kernel
theorem ly_X11 {s : State} {args : Array Value} (h : EW s) : ∀ w ∈ u_ws RX11 TX11 27, w.before args s = true := fun w hw => h.use (tb_0 w (ly0_X11 w hw)) (List.all_eq_true.mp ly1_X11 w hw) args
theorem mf_X0_setOne : MFV yX0_setOne cX0_setOne 4 none 3 := ⟨⟨q_575, rfl, q_12, ⟨by decide +kernel, by decide +kernel⟩, by decide +kernel⟩, q_574, q_975⟩
theorem mf_X0_run : MFV yX0_run cX0_run 2 none 1 := ⟨⟨q_585, rfl, q_12, ⟨by decide +kernel, by decide +kernel⟩, by decide +kernel⟩, q_584, q_977⟩
theorem mf_X0_hears : MFV yX0_hears cX0_hears 2 (some .int) 1 := ⟨⟨q_578, rfl, q_12, ⟨by decide +kernel, by decide +kernel⟩, by decide +kernel⟩, q_577, q_976⟩
theorem mf_X0_tells : MFV yX0_tells cX0_tells 2 (some .int) 1 := ⟨⟨q_588, rfl, q_12, ⟨by decide +kernel, by decide +kernel⟩, by decide +kernel⟩, q_587, q_978⟩
theorem mf_X0_pays : MFV yX0_pays cX0_pays 2 (some .int) 1 := ⟨⟨q_592, rfl, q_12, ⟨by decide +kernel, by decide +kernel⟩, by decide +kernel⟩, q_591, q_979⟩
theorem mf_X1_findBest : MFV yX1_findBest cX1_findBest 5 none 1 := ⟨⟨q_495, rfl, q_2, ⟨by decide +kernel, by decide +kernel⟩, by decide +kernel⟩, q_494, q_966⟩
theorem mf_X1_isChoosable : MFV yX1_isChoosable cX1_isChoosable 5 (some .boolean) 3 := ⟨⟨q_511, rfl, q_2, ⟨by decide +kernel, by decide +kernel⟩, by decide +kernel⟩, q_510, q_968⟩
theorem mf_X1_findChoice : MFV yX1_findChoice cX1_findChoice 7 none 1 := ⟨⟨q_506, rfl, q_2, ⟨by decide +kernel, by decide +kernel⟩, by decide +kernel⟩, q_505, q_967⟩
theorem mf_X1_findReach : MFV yX1_findReach cX1_findReach 7 (some .int) 2 := ⟨⟨q_520, rfl, q_2, ⟨by decide +kernel, by decide +kernel⟩, by decide +kernel⟩, q_519, q_969⟩
theorem mf_X1_findBegan : MFV yX1_findBegan cX1_findBegan 3 none 0 := ⟨⟨q_535, rfl, q_2, ⟨by decide +kernel, by decide +kernel⟩, by decide +kernel⟩, q_534, q_971⟩
theorem mf_X1_isAsSeen : MFV yX1_isAsSeen cX1_isAsSeen 6 (some .boolean) 2 := ⟨⟨q_538, rfl, q_2, ⟨by decide +kernel, by decide +kernel⟩, by decide +kernel⟩, q_537, q_972⟩
theorem mf_X1_waysToHear : MFV yX1_waysToHear cX1_waysToHear 5 (some .int) 2 := ⟨⟨q_550, rfl, q_2, ⟨by decide +kernel, by decide +kernel⟩, by decide +kernel⟩, q_549, q_973⟩
theorem mf_X1_finesOfAll : MFV yX1_finesOfAll cX1_finesOfAll 5 (some .long) 1 := ⟨⟨q_560, rfl, q_2, ⟨by decide +kernel, by decide +kernel⟩, by decide +kernel⟩, q_559, q_974⟩
theorem mf_X2_has : MFV yX2_has cX2_has 2 (some .boolean) 1 := ⟨⟨q_363, rfl, q_7, ⟨by decide +kernel, by decide +kernel⟩, by decide +kernel⟩, q_362, q_943⟩
theorem mf_X2_all : MFV yX2_all cX2_all 1 (some .int) 0 := ⟨⟨q_488, rfl, q_7, ⟨by decide +kernel, by decide +kernel⟩, by decide +kernel⟩, q_487, q_965⟩
theorem mf_X2_add : MFV yX2_add cX2_add 3 (some .boolean) 2 := ⟨⟨q_356, rfl, q_7, ⟨by decide +kernel, by decide +kernel⟩, by decide +kernel⟩, q_355, q_942⟩
theorem mf_X2_acquaint : MFV yX2_acquaint cX2_acquaint 4 none 3 := ⟨⟨q_418, rfl, q_7, ⟨by decide +kernel, by decide +kernel⟩, by decide +kernel⟩, q_417, q_955⟩
theorem mf_X2_addToRow : MFV yX2_addToRow cX2_addToRow 3 (some .boolean) 2 := ⟨⟨q_425, rfl, q_7, ⟨by decide +kernel, by decide +kernel⟩, by decide +kernel⟩, q_424, q_956⟩
theorem mf_X2_deafOn : MFV yX2_deafOn cX2_deafOn 4 (some .int) 1 := ⟨⟨q_449, rfl, q_7, ⟨by decide +kernel, by decide +kernel⟩, by decide +kernel⟩, q_448, q_960⟩
theorem mf_X2_pick : MFV yX2_pick cX2_pick 7 (some .int) 3 := ⟨⟨q_392, rfl, q_7, ⟨by decide +kernel, by decide +kernel⟩, by decide +kernel⟩, q_391, q_951⟩
theorem mf_X2_pickFromRow : MFV yX2_pickFromRow cX2_pickFromRow 6 (some .int) 3 := ⟨⟨q_404, rfl, q_7, ⟨by decide +kernel, by decide +kernel⟩, by decide +kernel⟩, q_403, q_952⟩
theorem mf_X2_pickNext : MFV yX2_pickNext cX2_pickNext 5 (some .int) 2 := ⟨⟨q_407, rfl, q_7, ⟨by decide +kernel, by decide +kernel⟩, by decide +kernel⟩, q_406, q_953⟩
theorem mf_X2_isAhead : MFV yX2_isAhead cX2_isAhead 4 (some .boolean) 3 := ⟨⟨q_411, rfl, q_7, ⟨by decide +kernel, by decide +kernel⟩, by decide +kernel⟩, q_410, q_954⟩
theorem mf_X2_copyFrom : MFV yX2_copyFrom cX2_copyFrom 2 none 1 := ⟨⟨q_615, rfl, q_7, ⟨by decide +kernel, by decide +kernel⟩, by decide +kernel⟩, q_614, q_981⟩
theorem mf_X3_read : MFV yX3_read cX3_read 3 (some .boolean) 1 := ⟨⟨q_241, rfl, q_11, ⟨by decide +kernel, by decide +kernel⟩, by decide +kernel⟩, q_240, q_923⟩
theorem mf_X3_readHead : MFV yX3_readHead cX3_readHead 1 (some .boolean) 0 := ⟨⟨q_253, rfl, q_11, ⟨by decide +kernel, by decide +kernel⟩, by decide +kernel⟩, q_252, q_926⟩
theorem mf_X3_readShun : MFV yX3_readShun cX3_readShun 1 (some .boolean) 0 := ⟨⟨q_259, rfl, q_11, ⟨by decide +kernel, by decide +kernel⟩, by decide +kernel⟩, q_258, q_928⟩
theorem mf_X3_readFine : MFV yX3_readFine cX3_readFine 1 (some .boolean) 0 := ⟨⟨q_320, rfl, q_11, ⟨by decide +kernel, by decide +kernel⟩, by decide +kernel⟩, q_319, q_934⟩
theorem mf_X3_readFewer : MFV yX3_readFewer cX3_readFewer 1 (some .boolean) 0 := ⟨⟨q_314, rfl, q_11, ⟨by decide +kernel, by decide +kernel⟩, by decide +kernel⟩, q_313, q_932⟩
theorem mf_X3_readLaw : MFV yX3_readLaw cX3_readLaw 1 (some .boolean) 0 := ⟨⟨q_323, rfl, q_11, ⟨by decide +kernel, by decide +kernel⟩, by decide +kernel⟩, q_322, q_935⟩
theorem mf_X3_readEither : MFV yX3_readEither cX3_readEither 5 (some .boolean) 1 := ⟨⟨q_326, rfl, q_11, ⟨by decide +kernel, by decide +kernel⟩, by decide +kernel⟩, q_325, q_936⟩
theorem mf_X3_readPart : MFV yX3_readPart cX3_readPart 3 (some .boolean) 1 := ⟨⟨q_329, rfl, q_11, ⟨by decide +kernel, by decide +kernel⟩, by decide +kernel⟩, q_328, q_937⟩
theorem mf_X3_readTest : MFV yX3_readTest cX3_readTest 3 (some .boolean) 0 := ⟨⟨q_332, rfl, q_11, ⟨by decide +kernel, by decide +kernel⟩, by decide +kernel⟩, q_331, q_938⟩
theorem mf_X3_factOf : MFV yX3_factOf cX3_factOf 2 (some .int) 1 := ⟨⟨q_335, rfl, q_11, ⟨by decide +kernel, by decide +kernel⟩, by decide +kernel⟩, q_334, q_939⟩
theorem mf_X3_readNumber : MFV yX3_readNumber cX3_readNumber 3 (some .boolean) 0 := ⟨⟨q_317, rfl, q_11, ⟨by decide +kernel, by decide +kernel⟩, by decide +kernel⟩, q_316, q_933⟩
theorem mf_X3_readWord : MFV yX3_readWord cX3_readWord 3 (some .boolean) 1 := ⟨⟨q_262, rfl, q_11, ⟨by decide +kernel, by decide +kernel⟩, by decide +kernel⟩, q_261, q_929⟩
theorem mf_X3_skip : MFV yX3_skip cX3_skip 2 (some .boolean) 1 := ⟨⟨q_308, rfl, q_11, ⟨by decide +kernel, by decide +kernel⟩, by decide +kernel⟩, q_307, q_930⟩
theorem mf_X4_add : MFV yX4_add cX4_add 3 (some .boolean) 2 := ⟨⟨q_528, rfl, q_9, ⟨by decide +kernel, by decide +kernel⟩, by decide +kernel⟩, q_527, q_970⟩
theorem mf_X4_copyFrom : MFV yX4_copyFrom cX4_copyFrom 3 none 1 := ⟨⟨q_620, rfl, q_9, ⟨by decide +kernel, by decide +kernel⟩, by decide +kernel⟩, q_619, q_982⟩
theorem mf_X5_copyFrom : MFV yX5_copyFrom cX5_copyFrom 2 none 1 := ⟨⟨q_610, rfl, q_4, ⟨by decide +kernel, by decide +kernel⟩, by decide +kernel⟩, q_609, q_980⟩
theorem mf_X6_add : MFV yX6_add cX6_add 2 (some .boolean) 1 := ⟨⟨q_234, rfl, q_5, ⟨by decide +kernel, by decide +kernel⟩, by decide +kernel⟩, q_233, q_922⟩
theorem mf_X6_at : MFV yX6_at cX6_at 2 (some .int) 1 := ⟨⟨q_256, rfl, q_5, ⟨by decide +kernel, by decide +kernel⟩, by decide +kernel⟩, q_255, q_927⟩
theorem mf_X6_copyFrom : MFV yX6_copyFrom cX6_copyFrom 2 none 1 := ⟨⟨q_244, rfl, q_5, ⟨by decide +kernel, by decide +kernel⟩, by decide +kernel⟩, q_243, q_924⟩
theorem mf_X7_setFacts : MFV yX7_setFacts cX7_setFacts 4 none 3 := ⟨⟨q_373, rfl, q_3, ⟨by decide +kernel, by decide +kernel⟩, by decide +kernel⟩, q_372, q_945⟩
theorem mf_X7_mayOf : MFV yX7_mayOf cX7_mayOf 5 (some .int) 2 := ⟨⟨q_386, rfl, q_3, ⟨by decide +kernel, by decide +kernel⟩, by decide +kernel⟩, q_385, q_949⟩
theorem mf_X7_fineOf : MFV yX7_fineOf cX7_fineOf 3 (some .int) 2 := ⟨⟨q_370, rfl, q_3, ⟨by decide +kernel, by decide +kernel⟩, by decide +kernel⟩, q_369, q_944⟩
theorem mf_X7_askedOf : MFV yX7_askedOf cX7_askedOf 5 (some .int) 2 := ⟨⟨q_389, rfl, q_3, ⟨by decide +kernel, by decide +kernel⟩, by decide +kernel⟩, q_388, q_950⟩
theorem mf_X7_goDay : MFV yX7_goDay cX7_goDay 12 (some .int) 4 := ⟨⟨q_443, rfl, q_3, ⟨by decide +kernel, by decide +kernel⟩, by decide +kernel⟩, q_442, q_958⟩
theorem mf_X7_hand : MFV yX7_hand cX7_hand 7 none 4 := ⟨⟨q_457, rfl, q_3, ⟨by decide +kernel, by decide +kernel⟩, by decide +kernel⟩, q_456, q_961⟩
theorem mf_X7_goOn : MFV yX7_goOn cX7_goOn 6 (some .int) 4 := ⟨⟨q_483, rfl, q_3, ⟨by decide +kernel, by decide +kernel⟩, by decide +kernel⟩, q_482, q_964⟩
theorem mf_X8_clear : MFV yX8_clear cX8_clear 1 none 0 := ⟨⟨q_250, rfl, q_6, ⟨by decide +kernel, by decide +kernel⟩, by decide +kernel⟩, q_249, q_925⟩
theorem mf_X8_addClause : MFV yX8_addClause cX8_addClause 3 none 2 := ⟨⟨q_311, rfl, q_6, ⟨by decide +kernel, by decide +kernel⟩, by decide +kernel⟩, q_310, q_931⟩
theorem mf_X8_addStep : MFV yX8_addStep cX8_addStep 4 none 3 := ⟨⟨q_338, rfl, q_6, ⟨by decide +kernel, by decide +kernel⟩, by decide +kernel⟩, q_337, q_940⟩
theorem mf_X8_weigh : MFV yX8_weigh cX8_weigh 5 (some .int) 2 := ⟨⟨q_377, rfl, q_6, ⟨by decide +kernel, by decide +kernel⟩, by decide +kernel⟩, q_376, q_946⟩
theorem mf_X8_holds : MFV yX8_holds cX8_holds 7 (some .boolean) 2 := ⟨⟨q_380, rfl, q_6, ⟨by decide +kernel, by decide +kernel⟩, by decide +kernel⟩, q_379, q_947⟩
theorem mf_X8_sumOf : MFV yX8_sumOf cX8_sumOf 5 (some .long) 1 := ⟨⟨q_467, rfl, q_6, ⟨by decide +kernel, by decide +kernel⟩, by decide +kernel⟩, q_466, q_962⟩
theorem mf_X8_copyFrom : MFV yX8_copyFrom cX8_copyFrom 2 none 1 := ⟨⟨q_341, rfl, q_6, ⟨by decide +kernel, by decide +kernel⟩, by decide +kernel⟩, q_340, q_941⟩
theorem mf_X9_startWith : MFV yX9_startWith cX9_startWith 4 none 3 := ⟨⟨q_436, rfl, q_8, ⟨by decide +kernel, by decide +kernel⟩, by decide +kernel⟩, q_435, q_957⟩
theorem mf_X9_yetToTell : MFV yX9_yetToTell cX9_yetToTell 1 (some .int) 0 := ⟨⟨q_446, rfl, q_8, ⟨by decide +kernel, by decide +kernel⟩, by decide +kernel⟩, q_445, q_959⟩
theorem mf_X9_copyFrom : MFV yX9_copyFrom cX9_copyFrom 2 none 1 := ⟨⟨q_479, rfl, q_8, ⟨by decide +kernel, by decide +kernel⟩, by decide +kernel⟩, q_478, q_963⟩
theorem mf_X10_feed : MFV yX10_feed cX10_feed 2 (some .int) 1 := ⟨⟨q_231, rfl, q_1, ⟨by decide +kernel, by decide +kernel⟩, by decide +kernel⟩, q_229, q_230⟩
theorem mf_X10_town : MFV yX10_town cX10_town 2 (some .int) 0 := ⟨⟨q_238, rfl, q_1, ⟨by decide +kernel, by decide +kernel⟩, by decide +kernel⟩, q_236, q_237⟩
theorem mf_X10_person : MFV yX10_person cX10_person 3 (some .int) 2 := ⟨⟨q_347, rfl, q_1, ⟨by decide +kernel, by decide +kernel⟩, by decide +kernel⟩, q_345, q_346⟩
theorem mf_X10_of : MFV yX10_of cX10_of 4 (some .int) 2 := ⟨⟨q_360, rfl, q_1, ⟨by decide +kernel, by decide +kernel⟩, by decide +kernel⟩, q_358, q_359⟩
theorem mf_X10_ofTeller : MFV yX10_ofTeller cX10_ofTeller 5 (some .int) 3 := ⟨⟨q_383, rfl, q_1, ⟨by decide +kernel, by decide +kernel⟩, by decide +kernel⟩, q_382, q_948⟩
theorem mf_X10_know : MFV yX10_know cX10_know 5 (some .int) 3 := ⟨⟨q_415, rfl, q_1, ⟨by decide +kernel, by decide +kernel⟩, by decide +kernel⟩, q_413, q_414⟩
theorem mf_X10_row : MFV yX10_row cX10_row 4 (some .int) 2 := ⟨⟨q_422, rfl, q_1, ⟨by decide +kernel, by decide +kernel⟩, by decide +kernel⟩, q_420, q_421⟩
theorem mf_X10_told : MFV yX10_told cX10_told 2 (some .int) 1 := ⟨⟨q_429, rfl, q_1, ⟨by decide +kernel, by decide +kernel⟩, by decide +kernel⟩, q_427, q_428⟩
theorem mf_X10_begin : MFV yX10_begin cX10_begin 3 (some .int) 2 := ⟨⟨q_433, rfl, q_1, ⟨by decide +kernel, by decide +kernel⟩, by decide +kernel⟩, q_431, q_432⟩
theorem mf_X10_day : MFV yX10_day cX10_day 1 (some .int) 0 := ⟨⟨q_440, rfl, q_1, ⟨by decide +kernel, by decide +kernel⟩, by decide +kernel⟩, q_438, q_439⟩
theorem mf_X10_sum : MFV yX10_sum cX10_sum 2 (some .long) 1 := ⟨⟨q_463, rfl, q_1, ⟨by decide +kernel, by decide +kernel⟩, by decide +kernel⟩, q_461, q_462⟩
theorem mf_X10_enough : MFV yX10_enough cX10_enough 3 (some .int) 1 := ⟨⟨q_471, rfl, q_1, ⟨by decide +kernel, by decide +kernel⟩, by decide +kernel⟩, q_469, q_470⟩
theorem mf_X10_end : MFV yX10_end cX10_end 4 (some .int) 1 := ⟨⟨q_476, rfl, q_1, ⟨by decide +kernel, by decide +kernel⟩, by decide +kernel⟩, q_474, q_475⟩
theorem mf_X10_best : MFV yX10_best cX10_best 3 (some .int) 2 := ⟨⟨q_492, rfl, q_1, ⟨by decide +kernel, by decide +kernel⟩, by decide +kernel⟩, q_490, q_491⟩
theorem mf_X10_choice : MFV yX10_choice cX10_choice 3 (some .int) 2 := ⟨⟨q_502, rfl, q_1, ⟨by decide +kernel, by decide +kernel⟩, by decide +kernel⟩, q_500, q_501⟩
theorem mf_X10_reach : MFV yX10_reach cX10_reach 3 (some .int) 2 := ⟨⟨q_517, rfl, q_1, ⟨by decide +kernel, by decide +kernel⟩, by decide +kernel⟩, q_515, q_516⟩
theorem mf_X10_see : MFV yX10_see cX10_see 3 (some .int) 2 := ⟨⟨q_525, rfl, q_1, ⟨by decide +kernel, by decide +kernel⟩, by decide +kernel⟩, q_523, q_524⟩
theorem mf_X10_began : MFV yX10_began cX10_began 2 (some .int) 1 := ⟨⟨q_532, rfl, q_1, ⟨by decide +kernel, by decide +kernel⟩, by decide +kernel⟩, q_530, q_531⟩
theorem mf_X10_stops : MFV yX10_stops cX10_stops 4 (some .int) 1 := ⟨⟨q_543, rfl, q_1, ⟨by decide +kernel, by decide +kernel⟩, by decide +kernel⟩, q_541, q_542⟩
theorem mf_X10_odds : MFV yX10_odds cX10_odds 4 (some .long) 3 := ⟨⟨q_547, rfl, q_1, ⟨by decide +kernel, by decide +kernel⟩, by decide +kernel⟩, q_545, q_546⟩
theorem mf_X10_mean : MFV yX10_mean cX10_mean 3 (some .long) 2 := ⟨⟨q_557, rfl, q_1, ⟨by decide +kernel, by decide +kernel⟩, by decide +kernel⟩, q_555, q_556⟩
theorem mf_X10_book : MFV yX10_book cX10_book 3 (some .int) 2 := ⟨⟨q_564, rfl, q_1, ⟨by decide +kernel, by decide +kernel⟩, by decide +kernel⟩, q_562, q_563⟩
theorem mf_X10_looked : MFV yX10_looked cX10_looked 4 (some .int) 0 := ⟨⟨q_568, rfl, q_1, ⟨by decide +kernel, by decide +kernel⟩, by decide +kernel⟩, q_566, q_567⟩
theorem mf_X10_act : MFV yX10_act cX10_act 4 (some .int) 3 := ⟨⟨q_572, rfl, q_1, ⟨by decide +kernel, by decide +kernel⟩, by decide +kernel⟩, q_570, q_571⟩
theorem mf_X10_trace : MFV yX10_trace cX10_trace 2 (some .int) 1 := ⟨⟨q_597, rfl, q_1, ⟨by decide +kernel, by decide +kernel⟩, by decide +kernel⟩, q_595, q_596⟩
theorem mf_X10_as : MFV yX10_as cX10_as 3 (some .int) 2 := ⟨⟨q_602, rfl, q_1, ⟨by decide +kernel, by decide +kernel⟩, by decide +kernel⟩, q_600, q_601⟩
theorem mf_X10_image : MFV yX10_image cX10_image 1 (some .int) 0 := ⟨⟨q_607, rfl, q_1, ⟨by decide +kernel, by decide +kernel⟩, by decide +kernel⟩, q_605, q_606⟩
theorem mf_X10_undo : MFV yX10_undo cX10_undo 1 (some .int) 0 := ⟨⟨q_625, rfl, q_1, ⟨by decide +kernel, by decide +kernel⟩, by decide +kernel⟩, q_623, q_624⟩
theorem mf_X10_count : MFV yX10_count cX10_count 2 (some .int) 1 := ⟨⟨q_629, rfl, q_1, ⟨by decide +kernel, by decide +kernel⟩, by decide +kernel⟩, q_627, q_628⟩
theorem mf_X10_isIn : MFS yX10_isIn cX10_isIn 2 (some .boolean) 2 := ⟨⟨q_350, rfl, q_1, ⟨by decide +kernel, by decide +kernel⟩, by decide +kernel⟩, q_349⟩
theorem mf_X10_isNumber : MFS yX10_isNumber cX10_isNumber 1 (some .boolean) 1 := ⟨⟨q_353, rfl, q_1, ⟨by decide +kernel, by decide +kernel⟩, by decide +kernel⟩, q_352⟩
theorem mf_X10_hasBit : MFS yX10_hasBit cX10_hasBit 2 (some .boolean) 2 := ⟨⟨q_367, rfl, q_1, ⟨by decide +kernel, by decide +kernel⟩, by decide +kernel⟩, q_366⟩
theorem mf_X10_isUnder : MFS yX10_isUnder cX10_isUnder 4 (some .boolean) 2 := ⟨⟨q_581, rfl, q_1, ⟨by decide +kernel, by decide +kernel⟩, by decide +kernel⟩, q_580⟩
theorem mf_X10_partOf : MFS yX10_partOf cX10_partOf 12 (some .long) 3 := ⟨⟨q_553, rfl, q_1, ⟨by decide +kernel, by decide +kernel⟩, by decide +kernel⟩, q_552⟩
theorem mf_X11_in : MFS yX11_in cX11_in 3 (some .boolean) 3 := ⟨⟨q_669, rfl, q_13, ⟨by decide +kernel, by decide +kernel⟩, by decide +kernel⟩, q_668⟩
theorem mf_X11_isPerson : MFV yX11_isPerson cX11_isPerson 2 (some .boolean) 1 := ⟨⟨q_722, rfl, q_13, ⟨by decide +kernel, by decide +kernel⟩, by decide +kernel⟩, q_721, q_995⟩
theorem mf_X11_keeps : MFV yX11_keeps cX11_keeps 2 none 0 := ⟨⟨q_813, rfl, q_13, ⟨by decide +kernel, by decide +kernel⟩, by decide +kernel⟩, q_812, q_1013⟩
theorem mf_X11_goesBack : MFV yX11_goesBack cX11_goesBack 2 none 0 := ⟨⟨q_819, rfl, q_13, ⟨by decide +kernel, by decide +kernel⟩, by decide +kernel⟩, q_818, q_1015⟩
theorem mf_X11_count1 : MFS yX11_count1 cX11_count1 3 (some .int) 1 := ⟨⟨q_749, rfl, q_13, ⟨by decide +kernel, by decide +kernel⟩, by decide +kernel⟩, q_748⟩
theorem mf_X11_feed : MFV yX11_feed cX11_feed 2 (some .int) 1 := ⟨⟨q_666, rfl, q_13, ⟨by decide +kernel, by decide +kernel⟩, by decide +kernel⟩, q_664, q_665⟩
theorem mf_X11_here : MFV yX11_here cX11_here 1 (some .int) 0 := ⟨⟨q_679, rfl, q_13, ⟨by decide +kernel, by decide +kernel⟩, by decide +kernel⟩, q_678, q_984⟩
theorem mf_X11_must : MFV yX11_must cX11_must 2 none 1 := ⟨⟨q_687, rfl, q_13, ⟨by decide +kernel, by decide +kernel⟩, by decide +kernel⟩, q_686, q_986⟩
theorem mf_X11_spells : MFV yX11_spells cX11_spells 3 none 1 := ⟨⟨q_682, rfl, q_13, ⟨by decide +kernel, by decide +kernel⟩, by decide +kernel⟩, q_681, q_985⟩
theorem mf_X11_figures : MFV yX11_figures cX11_figures 3 (some .int) 0 := ⟨⟨q_705, rfl, q_13, ⟨by decide +kernel, by decide +kernel⟩, by decide +kernel⟩, q_704, q_992⟩
theorem mf_X11_among : MFV yX11_among cX11_among 3 (some .int) 1 := ⟨⟨q_702, rfl, q_13, ⟨by decide +kernel, by decide +kernel⟩, by decide +kernel⟩, q_701, q_991⟩
theorem mf_X11_emits : MFV yX11_emits cX11_emits 2 none 1 := ⟨⟨q_699, rfl, q_13, ⟨by decide +kernel, by decide +kernel⟩, by decide +kernel⟩, q_698, q_990⟩
theorem mf_X11_factor : MFV yX11_factor cX11_factor 5 none 0 := ⟨⟨q_696, rfl, q_13, ⟨by decide +kernel, by decide +kernel⟩, by decide +kernel⟩, q_695, q_989⟩
theorem mf_X11_every : MFV yX11_every cX11_every 1 none 0 := ⟨⟨q_693, rfl, q_13, ⟨by decide +kernel, by decide +kernel⟩, by decide +kernel⟩, q_692, q_988⟩
theorem mf_X11_some : MFV yX11_some cX11_some 1 none 0 := ⟨⟨q_690, rfl, q_13, ⟨by decide +kernel, by decide +kernel⟩, by decide +kernel⟩, q_689, q_987⟩
theorem mf_X11_tellsHere : MFV yX11_tellsHere cX11_tellsHere 4 none 2 := ⟨⟨q_711, rfl, q_13, ⟨by decide +kernel, by decide +kernel⟩, by decide +kernel⟩, q_710, q_994⟩
theorem mf_X11_clauseOfF : MFV yX11_clauseOfF cX11_clauseOfF 2 none 0 := ⟨⟨q_708, rfl, q_13, ⟨by decide +kernel, by decide +kernel⟩, by decide +kernel⟩, q_707, q_993⟩
theorem mf_X11_clauseHere : MFV yX11_clauseHere cX11_clauseHere 1 none 0 := ⟨⟨q_676, rfl, q_13, ⟨by decide +kernel, by decide +kernel⟩, by decide +kernel⟩, q_675, q_983⟩
theorem mf_X11_town : MFV yX11_town cX11_town 2 (some .int) 0 := ⟨⟨q_673, rfl, q_13, ⟨by decide +kernel, by decide +kernel⟩, by decide +kernel⟩, q_671, q_672⟩
theorem mf_X11_tellsOf : MFV yX11_tellsOf cX11_tellsOf 3 (some .int) 2 := ⟨⟨q_737, rfl, q_13, ⟨by decide +kernel, by decide +kernel⟩, by decide +kernel⟩, q_736, q_1000⟩
theorem mf_X11_looks : MFV yX11_looks cX11_looks 11 none 2 := ⟨⟨q_734, rfl, q_13, ⟨by decide +kernel, by decide +kernel⟩, by decide +kernel⟩, q_733, q_999⟩
theorem mf_X11_fineOf : MFV yX11_fineOf cX11_fineOf 2 (some .int) 1 := ⟨⟨q_752, rfl, q_13, ⟨by decide +kernel, by decide +kernel⟩, by decide +kernel⟩, q_751, q_1004⟩
theorem mf_X11_person : MFV yX11_person cX11_person 4 (some .int) 2 := ⟨⟨q_715, rfl, q_13, ⟨by decide +kernel, by decide +kernel⟩, by decide +kernel⟩, q_713, q_714⟩
theorem mf_X11_hasHeard : MFV yX11_hasHeard cX11_hasHeard 2 (some .boolean) 1 := ⟨⟨q_725, rfl, q_13, ⟨by decide +kernel, by decide +kernel⟩, by decide +kernel⟩, q_724, q_996⟩
theorem mf_X11_hasTold : MFV yX11_hasTold cX11_hasTold 2 (some .boolean) 1 := ⟨⟨q_728, rfl, q_13, ⟨by decide +kernel, by decide +kernel⟩, by decide +kernel⟩, q_727, q_997⟩
theorem mf_X11_mayOf : MFV yX11_mayOf cX11_mayOf 4 (some .int) 1 := ⟨⟨q_731, rfl, q_13, ⟨by decide +kernel, by decide +kernel⟩, by decide +kernel⟩, q_730, q_998⟩
theorem mf_X11_askedOf : MFV yX11_askedOf cX11_askedOf 5 (some .int) 1 := ⟨⟨q_740, rfl, q_13, ⟨by decide +kernel, by decide +kernel⟩, by decide +kernel⟩, q_739, q_1001⟩
theorem mf_X11_firstOf : MFV yX11_firstOf cX11_firstOf 7 (some .int) 2 := ⟨⟨q_746, rfl, q_13, ⟨by decide +kernel, by decide +kernel⟩, by decide +kernel⟩, q_745, q_1003⟩
theorem mf_X11_choiceOf : MFV yX11_choiceOf cX11_choiceOf 6 (some .int) 1 := ⟨⟨q_743, rfl, q_13, ⟨by decide +kernel, by decide +kernel⟩, by decide +kernel⟩, q_742, q_1002⟩
theorem mf_X11_of : MFV yX11_of cX11_of 4 (some .int) 2 := ⟨⟨q_719, rfl, q_13, ⟨by decide +kernel, by decide +kernel⟩, by decide +kernel⟩, q_717, q_718⟩
theorem mf_X11_know : MFV yX11_know cX11_know 5 (some .int) 3 := ⟨⟨q_756, rfl, q_13, ⟨by decide +kernel, by decide +kernel⟩, by decide +kernel⟩, q_754, q_755⟩
theorem mf_X11_row : MFV yX11_row cX11_row 3 (some .int) 2 := ⟨⟨q_760, rfl, q_13, ⟨by decide +kernel, by decide +kernel⟩, by decide +kernel⟩, q_758, q_759⟩
theorem mf_X11_told : MFV yX11_told cX11_told 2 (some .int) 1 := ⟨⟨q_764, rfl, q_13, ⟨by decide +kernel, by decide +kernel⟩, by decide +kernel⟩, q_762, q_763⟩
theorem mf_X11_begins : MFV yX11_begins cX11_begins 3 none 2 := ⟨⟨q_771, rfl, q_13, ⟨by decide +kernel, by decide +kernel⟩, by decide +kernel⟩, q_770, q_1005⟩
theorem mf_X11_begin : MFV yX11_begin cX11_begin 3 (some .int) 2 := ⟨⟨q_768, rfl, q_13, ⟨by decide +kernel, by decide +kernel⟩, by decide +kernel⟩, q_766, q_767⟩
theorem mf_X11_isToTell : MFV yX11_isToTell cX11_isToTell 2 (some .boolean) 1 := ⟨⟨q_784, rfl, q_13, ⟨by decide +kernel, by decide +kernel⟩, by decide +kernel⟩, q_783, q_1008⟩
theorem mf_X11_isDeaf : MFV yX11_isDeaf cX11_isDeaf 2 (some .boolean) 1 := ⟨⟨q_787, rfl, q_13, ⟨by decide +kernel, by decide +kernel⟩, by decide +kernel⟩, q_786, q_1009⟩
theorem mf_X11_chooses : MFV yX11_chooses cX11_chooses 3 none 0 := ⟨⟨q_781, rfl, q_13, ⟨by decide +kernel, by decide +kernel⟩, by decide +kernel⟩, q_780, q_1007⟩
theorem mf_X11_lessOne : MFV yX11_lessOne cX11_lessOne 3 (some .int) 1 := ⟨⟨q_793, rfl, q_13, ⟨by decide +kernel, by decide +kernel⟩, by decide +kernel⟩, q_792, q_1011⟩
theorem mf_X11_numberFor : MFV yX11_numberFor cX11_numberFor 6 (some .int) 1 := ⟨⟨q_790, rfl, q_13, ⟨by decide +kernel, by decide +kernel⟩, by decide +kernel⟩, q_789, q_1010⟩
theorem mf_X11_goes : MFV yX11_goes cX11_goes 3 (some .int) 0 := ⟨⟨q_778, rfl, q_13, ⟨by decide +kernel, by decide +kernel⟩, by decide +kernel⟩, q_777, q_1006⟩
theorem mf_X11_day : MFV yX11_day cX11_day 1 (some .int) 0 := ⟨⟨q_775, rfl, q_13, ⟨by decide +kernel, by decide +kernel⟩, by decide +kernel⟩, q_773, q_774⟩
theorem mf_X11_sumOf : MFV yX11_sumOf cX11_sumOf 7 (some .long) 1 := ⟨⟨q_800, rfl, q_13, ⟨by decide +kernel, by decide +kernel⟩, by decide +kernel⟩, q_799, q_1012⟩
theorem mf_X11_sum : MFV yX11_sum cX11_sum 2 (some .long) 1 := ⟨⟨q_797, rfl, q_13, ⟨by decide +kernel, by decide +kernel⟩, by decide +kernel⟩, q_795, q_796⟩
theorem mf_X11_enough : MFV yX11_enough cX11_enough 3 (some .int) 1 := ⟨⟨q_805, rfl, q_13, ⟨by decide +kernel, by decide +kernel⟩, by decide +kernel⟩, q_803, q_804⟩
theorem mf_X11_ends : MFV yX11_ends cX11_ends 2 (some .int) 0 := ⟨⟨q_816, rfl, q_13, ⟨by decide +kernel, by decide +kernel⟩, by decide +kernel⟩, q_815, q_1014⟩
theorem mf_X11_end : MFV yX11_end cX11_end 5 (some .int) 1 := ⟨⟨q_810, rfl, q_13, ⟨by decide +kernel, by decide +kernel⟩, by decide +kernel⟩, q_808, q_809⟩
theorem mf_X11_best : MFV yX11_best cX11_best 9 (some .int) 2 := ⟨⟨q_823, rfl, q_13, ⟨by decide +kernel, by decide +kernel⟩, by decide +kernel⟩, q_821, q_822⟩
theorem mf_X11_triesSets : MFV yX11_triesSets cX11_triesSets 8 none 2 := ⟨⟨q_830, rfl, q_13, ⟨by decide +kernel, by decide +kernel⟩, by decide +kernel⟩, q_829, q_1016⟩
theorem mf_X11_choice : MFV yX11_choice cX11_choice 3 (some .int) 2 := ⟨⟨q_827, rfl, q_13, ⟨by decide +kernel, by decide +kernel⟩, by decide +kernel⟩, q_825, q_826⟩
theorem mf_X11_reach : MFV yX11_reach cX11_reach 3 (some .int) 2 := ⟨⟨q_834, rfl, q_13, ⟨by decide +kernel, by decide +kernel⟩, by decide +kernel⟩, q_832, q_833⟩
theorem mf_X11_see : MFV yX11_see cX11_see 3 (some .int) 2 := ⟨⟨q_838, rfl, q_13, ⟨by decide +kernel, by decide +kernel⟩, by decide +kernel⟩, q_836, q_837⟩
theorem mf_X11_isAsSeen : MFV yX11_isAsSeen cX11_isAsSeen 4 (some .boolean) 0 := ⟨⟨q_845, rfl, q_13, ⟨by decide +kernel, by decide +kernel⟩, by decide +kernel⟩, q_844, q_1017⟩
theorem mf_X11_began : MFV yX11_began cX11_began 6 (some .int) 1 := ⟨⟨q_842, rfl, q_13, ⟨by decide +kernel, by decide +kernel⟩, by decide +kernel⟩, q_840, q_841⟩
theorem mf_X11_othersHeard : MFV yX11_othersHeard cX11_othersHeard 3 (some .int) 1 := ⟨⟨q_852, rfl, q_13, ⟨by decide +kernel, by decide +kernel⟩, by decide +kernel⟩, q_851, q_1018⟩
theorem mf_X11_stops : MFV yX11_stops cX11_stops 4 (some .int) 1 := ⟨⟨q_849, rfl, q_13, ⟨by decide +kernel, by decide +kernel⟩, by decide +kernel⟩, q_847, q_848⟩
theorem mf_X11_lowest : MFS yX11_lowest cX11_lowest 11 (some .long) 3 := ⟨⟨q_859, rfl, q_13, ⟨by decide +kernel, by decide +kernel⟩, by decide +kernel⟩, q_858⟩
theorem mf_X11_odds : MFV yX11_odds cX11_odds 7 (some .long) 3 := ⟨⟨q_856, rfl, q_13, ⟨by decide +kernel, by decide +kernel⟩, by decide +kernel⟩, q_854, q_855⟩
theorem mf_X11_mean : MFV yX11_mean cX11_mean 6 (some .long) 2 := ⟨⟨q_863, rfl, q_13, ⟨by decide +kernel, by decide +kernel⟩, by decide +kernel⟩, q_861, q_862⟩
theorem mf_X11_book : MFV yX11_book cX11_book 3 (some .int) 2 := ⟨⟨q_867, rfl, q_13, ⟨by decide +kernel, by decide +kernel⟩, by decide +kernel⟩, q_865, q_866⟩
theorem mf_X11_looked : MFV yX11_looked cX11_looked 3 (some .int) 0 := ⟨⟨q_871, rfl, q_13, ⟨by decide +kernel, by decide +kernel⟩, by decide +kernel⟩, q_869, q_870⟩
theorem mf_X11_ranBody : MFV yX11_ranBody cX11_ranBody 2 none 1 := ⟨⟨q_884, rfl, q_13, ⟨by decide +kernel, by decide +kernel⟩, by decide +kernel⟩, q_883, q_1020⟩
theorem mf_X11_isUnder : MFS yX11_isUnder cX11_isUnder 2 (some .boolean) 2 := ⟨⟨q_881, rfl, q_13, ⟨by decide +kernel, by decide +kernel⟩, by decide +kernel⟩, q_880⟩
theorem mf_X11_plainHears : MFV yX11_plainHears cX11_plainHears 2 (some .int) 1 := ⟨⟨q_887, rfl, q_13, ⟨by decide +kernel, by decide +kernel⟩, by decide +kernel⟩, q_886, q_1021⟩
theorem mf_X11_hearsActs : MFV yX11_hearsActs cX11_hearsActs 2 (some .int) 1 := ⟨⟨q_878, rfl, q_13, ⟨by decide +kernel, by decide +kernel⟩, by decide +kernel⟩, q_877, q_1019⟩
theorem mf_X11_plainTells : MFV yX11_plainTells cX11_plainTells 2 (some .int) 1 := ⟨⟨q_893, rfl, q_13, ⟨by decide +kernel, by decide +kernel⟩, by decide +kernel⟩, q_892, q_1023⟩
theorem mf_X11_tellsActs : MFV yX11_tellsActs cX11_tellsActs 2 (some .int) 1 := ⟨⟨q_890, rfl, q_13, ⟨by decide +kernel, by decide +kernel⟩, by decide +kernel⟩, q_889, q_1022⟩
theorem mf_X11_plainPays : MFV yX11_plainPays cX11_plainPays 2 (some .int) 1 := ⟨⟨q_899, rfl, q_13, ⟨by decide +kernel, by decide +kernel⟩, by decide +kernel⟩, q_898, q_1025⟩
theorem mf_X11_paysActs : MFV yX11_paysActs cX11_paysActs 3 (some .int) 1 := ⟨⟨q_896, rfl, q_13, ⟨by decide +kernel, by decide +kernel⟩, by decide +kernel⟩, q_895, q_1024⟩
theorem mf_X11_act : MFV yX11_act cX11_act 4 (some .int) 3 := ⟨⟨q_875, rfl, q_13, ⟨by decide +kernel, by decide +kernel⟩, by decide +kernel⟩, q_873, q_874⟩
theorem mf_X11_trace : MFV yX11_trace cX11_trace 2 (some .int) 1 := ⟨⟨q_903, rfl, q_13, ⟨by decide +kernel, by decide +kernel⟩, by decide +kernel⟩, q_901, q_902⟩
theorem mf_X11_as : MFV yX11_as cX11_as 3 (some .int) 2 := ⟨⟨q_907, rfl, q_13, ⟨by decide +kernel, by decide +kernel⟩, by decide +kernel⟩, q_905, q_906⟩
theorem mf_X11_image : MFV yX11_image cX11_image 2 (some .int) 0 := ⟨⟨q_911, rfl, q_13, ⟨by decide +kernel, by decide +kernel⟩, by decide +kernel⟩, q_909, q_910⟩
theorem mf_X11_undo : MFV yX11_undo cX11_undo 2 (some .int) 0 := ⟨⟨q_915, rfl, q_13, ⟨by decide +kernel, by decide +kernel⟩, by decide +kernel⟩, q_913, q_914⟩
theorem mf_X11_count : MFV yX11_count cX11_count 2 (some .int) 1 := ⟨⟨q_919, rfl, q_13, ⟨by decide +kernel, by decide +kernel⟩, by decide +kernel⟩, q_917, q_918⟩
theorem mf_J6_bitCount_0f7a4 : MFS yJ6_bitCount_0f7a4 cJ6_bitCount_0f7a4 1 (some .int) 1 := ⟨⟨q_395, rfl, q_19, ⟨by decide +kernel, by decide +kernel⟩, by decide +kernel⟩, q_394⟩
theorem mf_J9_max_7cf53 : MFS yJ9_max_7cf53 cJ9_max_7cf53 2 (some .int) 2 := ⟨⟨q_136, rfl, q_10, ⟨by decide +kernel, by decide +kernel⟩, by decide +kernel⟩, q_135⟩
theorem mf_J9_min_7cf53 : MFS yJ9_min_7cf53 cJ9_min_7cf53 2 (some .int) 2 := ⟨⟨q_401, rfl, q_10, ⟨by decide +kernel, by decide +kernel⟩, by decide +kernel⟩, q_400⟩
theorem mf_J0_length_8abf5 : MFV yJ0_length_8abf5 cJ0_length_8abf5 1 (some .int) 0 := ⟨⟨q_266, rfl, q_15, ⟨by decide +kernel, by decide +kernel⟩, by decide +kernel⟩, q_264, q_265⟩
theorem mf_J0_charAt_5068e : MFV yJ0_charAt_5068e cJ0_charAt_5068e 2 (some .char) 1 := ⟨⟨q_275, rfl, q_15, ⟨by decide +kernel, by decide +kernel⟩, by decide +kernel⟩, q_273, q_274⟩
theorem mf_J0_coder_7d493 : MFV yJ0_coder_7d493 cJ0_coder_7d493 1 (some .byte) 0 := ⟨⟨q_270, rfl, q_15, ⟨by decide +kernel, by decide +kernel⟩, by decide +kernel⟩, q_268, q_269⟩
theorem mf_J0_isLatin1_aae02 : MFV yJ0_isLatin1_aae02 cJ0_isLatin1_aae02 1 (some .boolean) 0 := ⟨⟨q_279, rfl, q_15, ⟨by decide +kernel, by decide +kernel⟩, by decide +kernel⟩, q_277, q_278⟩
theorem mf_J0_checkIndex_df160 : MFS yJ0_checkIndex_df160 cJ0_checkIndex_df160 2 none 2 := ⟨⟨q_285, rfl, q_15, ⟨by decide +kernel, by decide +kernel⟩, by decide +kernel⟩, q_284⟩
theorem mf_J1_charAt_3b067 : MFS yJ1_charAt_3b067 cJ1_charAt_3b067 2 (some .char) 2 := ⟨⟨q_282, rfl, q_16, ⟨by decide +kernel, by decide +kernel⟩, by decide +kernel⟩, q_281⟩
theorem mf_J2_getChar_3b067 : MFS yJ2_getChar_3b067 cJ2_getChar_3b067 2 (some .char) 2 := ⟨⟨q_302, rfl, q_18, ⟨by decide +kernel, by decide +kernel⟩, by decide +kernel⟩, q_301⟩
theorem mf_J2_length_9d52b : MFS yJ2_length_9d52b cJ2_length_9d52b 1 (some .int) 1 := ⟨⟨q_298, rfl, q_18, ⟨by decide +kernel, by decide +kernel⟩, by decide +kernel⟩, q_297⟩
theorem mf_J2_charAt_3b067 : MFS yJ2_charAt_3b067 cJ2_charAt_3b067 2 (some .char) 2 := ⟨⟨q_292, rfl, q_18, ⟨by decide +kernel, by decide +kernel⟩, by decide +kernel⟩, q_291⟩
theorem mf_J2_checkIndex_2214a : MFS yJ2_checkIndex_2214a cJ2_checkIndex_2214a 2 none 2 := ⟨⟨q_295, rfl, q_18, ⟨by decide +kernel, by decide +kernel⟩, by decide +kernel⟩, q_294⟩
theorem mf_J3_checkIndex_8e157 : MFS yJ3_checkIndex_8e157 cJ3_checkIndex_8e157 3 (some .int) 3 := ⟨⟨q_289, rfl, q_17, ⟨by decide +kernel, by decide +kernel⟩, by decide +kernel⟩, q_288⟩
end
section
/-! More rules: names, switches, Math, copies, the table of kinds -/
abbrev rr (f k : Nat) : Room := { frames := f, cells := 0, slots := 0, locals := k }
def u00 : MM := fun _ _ => 0
/-- what may stand where a boolean is wanted -/
def bz (v : Int32) : Prop := narrow FieldType.boolean (.int v) = .int v ∧ fits FieldType.boolean (.int v) = true
theorem bz0 : bz 0 := ⟨rfl, rfl⟩
theorem bz1 : bz 1 := ⟨rfl, rfl⟩
theorem sw_ne {x v : Int32} (h : ¬ x = v) : x.toInt ≠ v.toInt := fun e => h (Int32.toInt_inj.mp e)
section JM
variable {p : Program} {l : Launch} {e : Env} {R : Room} {s : State} {m : MethodId} {args : Array Value} {below : List Frame} {meth : Method} {c : Code} {D : va_G} {A : Nat → Prop} {nL : Nat} {Q : State → Prop} {n : Nat} {q : Nat → Nat} {ent : Nat → (Nat → Int32) → va_E} {u : MM} {pc : Nat} {lv : List (Nat × Value)} {st : List Value} {cc : ByteArray} {own : String} {ret : Option FieldType} {cI cZ : ClassId} {ad : Nat → Nat}
theorem j_nmi {x : Int32} (kk : ∀ y : Int32, y = x → JX p l e R s m args below meth c D A nL Q n q ent u pc lv (.int y :: st)) : JX p l e R s m args below meth c D A nL Q n q ent u pc lv (.int x :: st) := kk x rfl
theorem j_nml {x : Int64} (kk : ∀ y : Int64, y = x → JX p l e R s m args below meth c D A nL Q n q ent u pc lv (.long y :: st)) : JX p l e R s m args below meth c D A nL Q n q ent u pc lv (.long x :: st) := kk x rfl
theorem j_nmu {u1 : MM} (kk : ∀ u2 : MM, u2 = u1 → JX p l e R s m args below meth c D A nL Q n q ent u2 pc lv st) : JX p l e R s m args below meth c D A nL Q n q ent u1 pc lv st := kk u1 rfl
theorem j_tabIn (C : CX p s m args meth c cc nL own ret D cI cZ ad A) {x v : Int32} (cx : x = v) {dflt lo hi off : Int} {offs : Array Int} {len : Nat} (tgt : Nat) (hd : decode cc pc = .ok (.tableswitch dflt lo hi offs, len)) (h1 : ¬ v.toInt < lo) (h2 : ¬ hi < v.toInt) (ho : offs[(v.toInt - lo).toNat]? = some off) (ht : (pc : Int) + off = (tgt : Int)) (kk : JX p l e R s m args below meth c D A nL Q n q ent u tgt lv st) : JX p l e R s m args below meth c D A nL Q n q ent u pc lv (.int x :: st) :=
  fun H locs ls hP hD hS hl => by subst cx; exact lv_tableIn C.1 C.2.1 hd h1 h2 ho ht (kk H locs ls hP hD hS hl)
theorem j_tabOut (C : CX p s m args meth c cc nL own ret D cI cZ ad A) {x : Int32} {dflt lo hi : Int} {offs : Array Int} {len : Nat} (tgt : Nat) (hd : decode cc pc = .ok (.tableswitch dflt lo hi offs, len)) (h : x.toInt < lo ∨ hi < x.toInt) (ht : (pc : Int) + dflt = (tgt : Int)) (kk : JX p l e R s m args below meth c D A nL Q n q ent u tgt lv st) : JX p l e R s m args below meth c D A nL Q n q ent u pc lv (.int x :: st) :=
  fun H locs ls hP hD hS hl => lv_tableOut C.1 C.2.1 hd h ht (kk H locs ls hP hD hS hl)
theorem j_look (C : CX p s m args meth c cc nL own ret D cI cZ ad A) {x : Int32} {dflt off : Int} {ps : Array (Int × Int)} {len : Nat} (tgt : Nat) (hd : decode cc pc = .ok (.lookupswitch dflt ps, len)) (hp : (ps.toList.zip (ps.toList.drop 1)).all (fun (a, next) => a.1 < next.1) = true) (ho : Op.lookupswitch.offset ps.toList dflt x.toInt = off) (ht : (pc : Int) + off = (tgt : Int)) (kk : JX p l e R s m args below meth c D A nL Q n q ent u tgt lv st) : JX p l e R s m args below meth c D A nL Q n q ent u pc lv (.int x :: st) :=
  fun H locs ls hP hD hS hl => lv_lookup C.1 C.2.1 hd hp ho ht (kk H locs ls hP hD hS hl)
theorem j_mmax (C : CX p s m args meth c cc nL own ret D cI cZ ad A) {x y : Int32} {i : Nat} (w1 : Cond.methodLink own i Lib.Math.max.name ∈ lw_tbl) (w2 : Cond.static Lib.Math.max.name ∈ lw_tbl) (w3 : Cond.initialized "java/lang/Math" ∈ lw_tbl) (w4 : Cond.code Lib.Math.max.name Lib.Math.max.code 2 (some .int) ∈ lw_tbl) (hf : 1 ≤ R.frames) (hlo : (st.map fun v => v.category).sum + 13 ≤ R.locals) (hd : decode cc pc = .ok (.invokestatic i, 3)) (kk : JX p l e R s m args below meth c D A nL Q n q ent u (pc + 3) lv (.int (if x < y then y else x) :: st)) : JX p l e R s m args below meth c D A nL Q n q ent u pc lv (.int y :: .int x :: st) :=
  fun H locs ls hP hD hS hl => va_mmax C.1 C.2.1 (by rw [C.2.2.1]; exact hl.1.symm) C.2.2.2.1 (C.w w1) (C.w w2) (C.w w3) (C.w w4) hf hlo (Nat.zero_le _) (Nat.zero_le _) hd (kk H locs ls hP hD hS hl)
theorem j_mmin (C : CX p s m args meth c cc nL own ret D cI cZ ad A) {x y : Int32} {i : Nat} (w1 : Cond.methodLink own i Lib.Math.min.name ∈ lw_tbl) (w2 : Cond.static Lib.Math.min.name ∈ lw_tbl) (w3 : Cond.initialized "java/lang/Math" ∈ lw_tbl) (w4 : Cond.code Lib.Math.min.name Lib.Math.min.code 2 (some .int) ∈ lw_tbl) (hf : 1 ≤ R.frames) (hlo : (st.map fun v => v.category).sum + 13 ≤ R.locals) (hd : decode cc pc = .ok (.invokestatic i, 3)) (kk : JX p l e R s m args below meth c D A nL Q n q ent u (pc + 3) lv (.int (if y < x then y else x) :: st)) : JX p l e R s m args below meth c D A nL Q n q ent u pc lv (.int y :: .int x :: st) :=
  fun H locs ls hP hD hS hl => va_mmin C.1 C.2.1 (by rw [C.2.2.1]; exact hl.1.symm) C.2.2.2.1 (C.w w1) (C.w w2) (C.w w3) (C.w w4) hf hlo (Nat.zero_le _) (Nat.zero_le _) hd (kk H locs ls hP hD hS hl)
theorem j_copy (C : CX p s m args meth c cc nL own ret D cI cZ ad A) {nn : Int32} (NN k0 k1 : Nat) {i N0 N1 : Nat} {f0 f1 : Nat → Int32} (w1 : Cond.methodLink own i arraycopyName ∈ lw_tbl) (w2 : Cond.native arraycopyName ∈ lw_tbl) (w3 : Cond.static arraycopyName ∈ lw_tbl) (w4 : Cond.initialized "java/lang/System" ∈ lw_tbl) (hk0 : k0 < n) (hk1 : k1 < n) (he0 : ent k0 (u k0) = .inl (cI, N0, .inl f0)) (hf0 : f0 = u k0) (he1 : ∀ f, ent k1 f = .inl (cI, N1, .inl f)) (hf1 : f1 = u k1) (h3 : ¬ nn < 0) (hN : nn.toNatClampNeg = NN) (h4 : NN ≤ N0) (h5 : NN ≤ N1) (hf : 1 ≤ R.frames) (hlo : (st.map fun v => v.category).sum + (nativeFrameWords "java/lang/System" "arraycopy" 5 + 11) ≤ R.locals) (hd : decode cc pc = .ok (.invokestatic i, 3)) (kk : ∀ u2 : MM, u2 = upR u k1 (va_cpy (u k0) (u k1) 0 0 NN) → JX p l e R s m args below meth c D A nL Q n q ent u2 (pc + 3) lv st) : JX p l e R s m args below meth c D A nL Q n q ent u pc lv (.int nn :: .int 0 :: .ref (q k1) :: .int 0 :: .ref (q k0) :: st) :=
  fun H locs ls hP hD hS hl => by
    subst hf0; subst hf1; subst hN
    refine va_copyi C.1 C.2.1 (by rw [C.2.2.1]; exact hl.1.symm) C.2.2.2.1 (C.w w1) (C.w w2) (C.w w3) (C.w w4) C.2.2.2.2.2.2.1 hP hD hS k0 k1 0 0 (ty := .int) ((jw_at hk0).trans (by rw [he0])) ((jw_at hk1).trans (by rw [he1])) rfl rfl rfl (by decide) (by decide) h3 (by rw [show (0 : Int32).toNatClampNeg = 0 from rfl]; omega) (by rw [show (0 : Int32).toNatClampNeg = 0 from rfl]; omega) (fun _ _ => rfl) hf hlo hd (fun H1 locs1 hP1 hD1 hS1 => ?_)
    rw [jw_setR (f := va_cpy (u k0) (u k1) 0 0 nn.toNatClampNeg) (by rw [he1]; rfl)] at hP1 hD1
    exact kk _ rfl H1 locs1 ls hP1 hD1 hS1 hl
theorem j_getK (C : CX p s m args meth c cc nL own ret D cI cZ ad A) {i : Nat} (w1 : Cond.fieldLink own i RX10 "KIND_ABOVE" "[I" ∈ lw_tbl) (hd : decode cc pc = .ok (.getstatic i, 3)) (kk : JX p l e R s m args below meth c D A nL Q n q ent u (pc + 3) lv (.ref (ad 0) :: st)) : JX p l e R s m args below meth c D A nL Q n q ent u pc lv st :=
  fun H locs ls hP hD hS hl => va_gets C.1 C.2.1 C.2.2.2.2.2.2.2.1.2.1.1 hS C.2.2.2.1 (C.w w1) (fun _ h => h) hd (kk H locs ls hP hD hS hl)
theorem j_tiK (C : CX p s m args meth c cc nL own ret D cI cZ ad A) {i : Int32} (hin : vp_in i 7) (hd : decode cc pc = .ok (.iaload, 1)) (kk : JX p l e R s m args below meth c D A nL Q n q ent u (pc + 1) lv (.int (kab i.toNatClampNeg) :: st)) : JX p l e R s m args below meth c D A nL Q n q ent u pc lv (.int i :: .ref (ad 0) :: st) :=
  fun H locs ls hP hD hS hl => va_ti C.1 C.2.1 C.2.2.2.2.2.2.2.1.2.1.2 hS hin rfl hd (kk H locs ls hP hD hS hl)
end JM
end
