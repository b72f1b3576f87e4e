section
-- ===== PART A: goes FIRST, ahead of the names: the tables' words, and 'selects' of the private methods out of them =====
/-- a private method of a class that the tables say can be made, by its rows of tables_1 -/
def lw_okq (q : MethodName × Nat) : Prop := (q.1.cls ≠ "java/lang/invoke/MethodHandle" ∧ q.1.cls ≠ "java/lang/invoke/VarHandle") ∧ Cond.instantiable q.1.cls q.2 ∈ tables_1 ∧ Cond.privateMethod q.1 ∈ tables_1 ∧ Cond.instanceMethod q.1 ∈ tables_1
theorem lw_p0 : lw_okq (⟨"TownBand$Players", "join", "(II)I"⟩, 6) := ⟨⟨by decide +kernel, by decide +kernel⟩, List.mem_of_getElem? (i := 28) (by decide +kernel), List.mem_of_getElem? (i := 349) (by decide +kernel), List.mem_of_getElem? (i := 350) (by decide +kernel)⟩
theorem lw_p1 : lw_okq (⟨"TownBand$Players", "has", "(I)Z"⟩, 6) := ⟨⟨by decide +kernel, by decide +kernel⟩, List.mem_of_getElem? (i := 28) (by decide +kernel), List.mem_of_getElem? (i := 357) (by decide +kernel), List.mem_of_getElem? (i := 358) (by decide +kernel)⟩
theorem lw_p2 : lw_okq (⟨"TownBand$Players", "learn", "(III)V"⟩, 6) := ⟨⟨by decide +kernel, by decide +kernel⟩, List.mem_of_getElem? (i := 28) (by decide +kernel), List.mem_of_getElem? (i := 364) (by decide +kernel), List.mem_of_getElem? (i := 365) (by decide +kernel)⟩
theorem lw_p3 : lw_okq (⟨"TownBand$Players", "costOf", "(II)I"⟩, 6) := ⟨⟨by decide +kernel, by decide +kernel⟩, List.mem_of_getElem? (i := 28) (by decide +kernel), List.mem_of_getElem? (i := 372) (by decide +kernel), List.mem_of_getElem? (i := 373) (by decide +kernel)⟩
theorem lw_p4 : lw_okq (⟨"TownBand$Players", "mark", "(IZ)V"⟩, 6) := ⟨⟨by decide +kernel, by decide +kernel⟩, List.mem_of_getElem? (i := 28) (by decide +kernel), List.mem_of_getElem? (i := 380) (by decide +kernel), List.mem_of_getElem? (i := 381) (by decide +kernel)⟩
theorem lw_p5 : lw_okq (⟨"TownBand$Tape", "hasRoom", "()Z"⟩, 10) := ⟨⟨by decide +kernel, by decide +kernel⟩, List.mem_of_getElem? (i := 130) (by decide +kernel), List.mem_of_getElem? (i := 388) (by decide +kernel), List.mem_of_getElem? (i := 389) (by decide +kernel)⟩
theorem lw_p6 : lw_okq (⟨"TownBand$Tape", "append", "(I)V"⟩, 10) := ⟨⟨by decide +kernel, by decide +kernel⟩, List.mem_of_getElem? (i := 130) (by decide +kernel), List.mem_of_getElem? (i := 392) (by decide +kernel), List.mem_of_getElem? (i := 393) (by decide +kernel)⟩
theorem lw_p7 : lw_okq (⟨"TownBand$Library", "readText", "(LTownBand$Tape;)Z"⟩, 3) := ⟨⟨by decide +kernel, by decide +kernel⟩, List.mem_of_getElem? (i := 63) (by decide +kernel), List.mem_of_getElem? (i := 404) (by decide +kernel), List.mem_of_getElem? (i := 405) (by decide +kernel)⟩
theorem lw_p8 : lw_okq (⟨"TownBand$Tape", "begin", "(I)V"⟩, 10) := ⟨⟨by decide +kernel, by decide +kernel⟩, List.mem_of_getElem? (i := 130) (by decide +kernel), List.mem_of_getElem? (i := 408) (by decide +kernel), List.mem_of_getElem? (i := 409) (by decide +kernel)⟩
theorem lw_p9 : lw_okq (⟨"TownBand$Tape", "advance", "()V"⟩, 10) := ⟨⟨by decide +kernel, by decide +kernel⟩, List.mem_of_getElem? (i := 130) (by decide +kernel), List.mem_of_getElem? (i := 412) (by decide +kernel), List.mem_of_getElem? (i := 413) (by decide +kernel)⟩
theorem lw_p10 : lw_okq (⟨"TownBand$Tape", "reads", "(Ljava/lang/String;)Z"⟩, 10) := ⟨⟨by decide +kernel, by decide +kernel⟩, List.mem_of_getElem? (i := 130) (by decide +kernel), List.mem_of_getElem? (i := 417) (by decide +kernel), List.mem_of_getElem? (i := 418) (by decide +kernel)⟩
theorem lw_p11 : lw_okq (⟨"TownBand$Library", "readPiece", "(LTownBand$Tape;)V"⟩, 3) := ⟨⟨by decide +kernel, by decide +kernel⟩, List.mem_of_getElem? (i := 63) (by decide +kernel), List.mem_of_getElem? (i := 469) (by decide +kernel), List.mem_of_getElem? (i := 470) (by decide +kernel)⟩
theorem lw_p12 : lw_okq (⟨"TownBand$Tape", "fail", "(I)V"⟩, 10) := ⟨⟨by decide +kernel, by decide +kernel⟩, List.mem_of_getElem? (i := 130) (by decide +kernel), List.mem_of_getElem? (i := 473) (by decide +kernel), List.mem_of_getElem? (i := 474) (by decide +kernel)⟩
theorem lw_p13 : lw_okq (⟨"TownBand$Piece", "clear", "()V"⟩, 9) := ⟨⟨by decide +kernel, by decide +kernel⟩, List.mem_of_getElem? (i := 70) (by decide +kernel), List.mem_of_getElem? (i := 477) (by decide +kernel), List.mem_of_getElem? (i := 478) (by decide +kernel)⟩
theorem lw_p14 : lw_okq (⟨"TownBand$Library", "readName", "(LTownBand$Tape;)I"⟩, 3) := ⟨⟨by decide +kernel, by decide +kernel⟩, List.mem_of_getElem? (i := 63) (by decide +kernel), List.mem_of_getElem? (i := 483) (by decide +kernel), List.mem_of_getElem? (i := 484) (by decide +kernel)⟩
theorem lw_p15 : lw_okq (⟨"TownBand$Library", "hasName", "(I)Z"⟩, 3) := ⟨⟨by decide +kernel, by decide +kernel⟩, List.mem_of_getElem? (i := 63) (by decide +kernel), List.mem_of_getElem? (i := 493) (by decide +kernel), List.mem_of_getElem? (i := 494) (by decide +kernel)⟩
def lw_privs_1 : List (MethodName × Nat) := [(⟨"TownBand$Players", "join", "(II)I"⟩, 6), (⟨"TownBand$Players", "has", "(I)Z"⟩, 6), (⟨"TownBand$Players", "learn", "(III)V"⟩, 6), (⟨"TownBand$Players", "costOf", "(II)I"⟩, 6), (⟨"TownBand$Players", "mark", "(IZ)V"⟩, 6), (⟨"TownBand$Tape", "hasRoom", "()Z"⟩, 10), (⟨"TownBand$Tape", "append", "(I)V"⟩, 10), (⟨"TownBand$Library", "readText", "(LTownBand$Tape;)Z"⟩, 3), (⟨"TownBand$Tape", "begin", "(I)V"⟩, 10), (⟨"TownBand$Tape", "advance", "()V"⟩, 10), (⟨"TownBand$Tape", "reads", "(Ljava/lang/String;)Z"⟩, 10), (⟨"TownBand$Library", "readPiece", "(LTownBand$Tape;)V"⟩, 3), (⟨"TownBand$Tape", "fail", "(I)V"⟩, 10), (⟨"TownBand$Piece", "clear", "()V"⟩, 9), (⟨"TownBand$Library", "readName", "(LTownBand$Tape;)I"⟩, 3), (⟨"TownBand$Library", "hasName", "(I)Z"⟩, 3)]
theorem lw_r1 : ∀ q ∈ lw_privs_1, lw_okq q := List.forall_mem_cons.mpr ⟨lw_p0, List.forall_mem_cons.mpr ⟨lw_p1, List.forall_mem_cons.mpr ⟨lw_p2, List.forall_mem_cons.mpr ⟨lw_p3, List.forall_mem_cons.mpr ⟨lw_p4, List.forall_mem_cons.mpr ⟨lw_p5, List.forall_mem_cons.mpr ⟨lw_p6, List.forall_mem_cons.mpr ⟨lw_p7, List.forall_mem_cons.mpr ⟨lw_p8, List.forall_mem_cons.mpr ⟨lw_p9, List.forall_mem_cons.mpr ⟨lw_p10, List.forall_mem_cons.mpr ⟨lw_p11, List.forall_mem_cons.mpr ⟨lw_p12, List.forall_mem_cons.mpr ⟨lw_p13, List.forall_mem_cons.mpr ⟨lw_p14, List.forall_mem_cons.mpr ⟨lw_p15, fun _ h => absurd h List.not_mem_nil⟩⟩⟩⟩⟩⟩⟩⟩⟩⟩⟩⟩⟩⟩⟩⟩
theorem lw_p16 : lw_okq (⟨"TownBand$Tape", "take", "(I)V"⟩, 10) := ⟨⟨by decide +kernel, by decide +kernel⟩, List.mem_of_getElem? (i := 130) (by decide +kernel), List.mem_of_getElem? (i := 497) (by decide +kernel), List.mem_of_getElem? (i := 498) (by decide +kernel)⟩
theorem lw_p17 : lw_okq (⟨"TownBand$Piece", "addPart", "(Z)V"⟩, 9) := ⟨⟨by decide +kernel, by decide +kernel⟩, List.mem_of_getElem? (i := 70) (by decide +kernel), List.mem_of_getElem? (i := 509) (by decide +kernel), List.mem_of_getElem? (i := 510) (by decide +kernel)⟩
theorem lw_p18 : lw_okq (⟨"TownBand$Piece", "hasInstrument", "(II)Z"⟩, 9) := ⟨⟨by decide +kernel, by decide +kernel⟩, List.mem_of_getElem? (i := 70) (by decide +kernel), List.mem_of_getElem? (i := 516) (by decide +kernel), List.mem_of_getElem? (i := 517) (by decide +kernel)⟩
theorem lw_p19 : lw_okq (⟨"TownBand$Piece", "instrument", "(II)I"⟩, 9) := ⟨⟨by decide +kernel, by decide +kernel⟩, List.mem_of_getElem? (i := 70) (by decide +kernel), List.mem_of_getElem? (i := 520) (by decide +kernel), List.mem_of_getElem? (i := 521) (by decide +kernel)⟩
theorem lw_p20 : lw_okq (⟨"TownBand$Piece", "addInstrument", "(II)V"⟩, 9) := ⟨⟨by decide +kernel, by decide +kernel⟩, List.mem_of_getElem? (i := 70) (by decide +kernel), List.mem_of_getElem? (i := 524) (by decide +kernel), List.mem_of_getElem? (i := 525) (by decide +kernel)⟩
theorem lw_p21 : lw_okq (⟨"TownBand$Tape", "finish", "()Z"⟩, 10) := ⟨⟨by decide +kernel, by decide +kernel⟩, List.mem_of_getElem? (i := 130) (by decide +kernel), List.mem_of_getElem? (i := 528) (by decide +kernel), List.mem_of_getElem? (i := 529) (by decide +kernel)⟩
theorem lw_p22 : lw_okq (⟨"TownBand$Rule", "beginDraft", "()V"⟩, 7) := ⟨⟨by decide +kernel, by decide +kernel⟩, List.mem_of_getElem? (i := 175) (by decide +kernel), List.mem_of_getElem? (i := 537) (by decide +kernel), List.mem_of_getElem? (i := 538) (by decide +kernel)⟩
theorem lw_p23 : lw_okq (⟨"TownBand$Rule", "readEither", "(LTownBand$Tape;I)V"⟩, 7) := ⟨⟨by decide +kernel, by decide +kernel⟩, List.mem_of_getElem? (i := 175) (by decide +kernel), List.mem_of_getElem? (i := 542) (by decide +kernel), List.mem_of_getElem? (i := 543) (by decide +kernel)⟩
theorem lw_p24 : lw_okq (⟨"TownBand$Rule", "readBoth", "(LTownBand$Tape;I)V"⟩, 7) := ⟨⟨by decide +kernel, by decide +kernel⟩, List.mem_of_getElem? (i := 175) (by decide +kernel), List.mem_of_getElem? (i := 546) (by decide +kernel), List.mem_of_getElem? (i := 547) (by decide +kernel)⟩
theorem lw_p25 : lw_okq (⟨"TownBand$Rule", "readOne", "(LTownBand$Tape;I)V"⟩, 7) := ⟨⟨by decide +kernel, by decide +kernel⟩, List.mem_of_getElem? (i := 175) (by decide +kernel), List.mem_of_getElem? (i := 550) (by decide +kernel), List.mem_of_getElem? (i := 551) (by decide +kernel)⟩
theorem lw_p26 : lw_okq (⟨"TownBand$Rule", "readComparison", "(LTownBand$Tape;)V"⟩, 7) := ⟨⟨by decide +kernel, by decide +kernel⟩, List.mem_of_getElem? (i := 175) (by decide +kernel), List.mem_of_getElem? (i := 554) (by decide +kernel), List.mem_of_getElem? (i := 555) (by decide +kernel)⟩
theorem lw_p27 : lw_okq (⟨"TownBand$Rule", "readSum", "(LTownBand$Tape;)V"⟩, 7) := ⟨⟨by decide +kernel, by decide +kernel⟩, List.mem_of_getElem? (i := 175) (by decide +kernel), List.mem_of_getElem? (i := 558) (by decide +kernel), List.mem_of_getElem? (i := 559) (by decide +kernel)⟩
theorem lw_p28 : lw_okq (⟨"TownBand$Rule", "readValue", "(LTownBand$Tape;)V"⟩, 7) := ⟨⟨by decide +kernel, by decide +kernel⟩, List.mem_of_getElem? (i := 175) (by decide +kernel), List.mem_of_getElem? (i := 562) (by decide +kernel), List.mem_of_getElem? (i := 563) (by decide +kernel)⟩
theorem lw_p29 : lw_okq (⟨"TownBand$Rule", "write", "(I)V"⟩, 7) := ⟨⟨by decide +kernel, by decide +kernel⟩, List.mem_of_getElem? (i := 175) (by decide +kernel), List.mem_of_getElem? (i := 566) (by decide +kernel), List.mem_of_getElem? (i := 567) (by decide +kernel)⟩
theorem lw_p30 : lw_okq (⟨"TownBand$Rule", "adoptDraft", "()V"⟩, 7) := ⟨⟨by decide +kernel, by decide +kernel⟩, List.mem_of_getElem? (i := 175) (by decide +kernel), List.mem_of_getElem? (i := 581) (by decide +kernel), List.mem_of_getElem? (i := 582) (by decide +kernel)⟩
theorem lw_p31 : lw_okq (⟨"TownBand$Library", "find", "(I)LTownBand$Piece;"⟩, 3) := ⟨⟨by decide +kernel, by decide +kernel⟩, List.mem_of_getElem? (i := 63) (by decide +kernel), List.mem_of_getElem? (i := 593) (by decide +kernel), List.mem_of_getElem? (i := 594) (by decide +kernel)⟩
def lw_privs_2 : List (MethodName × Nat) := [(⟨"TownBand$Tape", "take", "(I)V"⟩, 10), (⟨"TownBand$Piece", "addPart", "(Z)V"⟩, 9), (⟨"TownBand$Piece", "hasInstrument", "(II)Z"⟩, 9), (⟨"TownBand$Piece", "instrument", "(II)I"⟩, 9), (⟨"TownBand$Piece", "addInstrument", "(II)V"⟩, 9), (⟨"TownBand$Tape", "finish", "()Z"⟩, 10), (⟨"TownBand$Rule", "beginDraft", "()V"⟩, 7), (⟨"TownBand$Rule", "readEither", "(LTownBand$Tape;I)V"⟩, 7), (⟨"TownBand$Rule", "readBoth", "(LTownBand$Tape;I)V"⟩, 7), (⟨"TownBand$Rule", "readOne", "(LTownBand$Tape;I)V"⟩, 7), (⟨"TownBand$Rule", "readComparison", "(LTownBand$Tape;)V"⟩, 7), (⟨"TownBand$Rule", "readSum", "(LTownBand$Tape;)V"⟩, 7), (⟨"TownBand$Rule", "readValue", "(LTownBand$Tape;)V"⟩, 7), (⟨"TownBand$Rule", "write", "(I)V"⟩, 7), (⟨"TownBand$Rule", "adoptDraft", "()V"⟩, 7), (⟨"TownBand$Library", "find", "(I)LTownBand$Piece;"⟩, 3)]
theorem lw_r2 : ∀ q ∈ lw_privs_2, lw_okq q := List.forall_mem_cons.mpr ⟨lw_p16, List.forall_mem_cons.mpr ⟨lw_p17, List.forall_mem_cons.mpr ⟨lw_p18, List.forall_mem_cons.mpr ⟨lw_p19, List.forall_mem_cons.mpr ⟨lw_p20, List.forall_mem_cons.mpr ⟨lw_p21, List.forall_mem_cons.mpr ⟨lw_p22, List.forall_mem_cons.mpr ⟨lw_p23, List.forall_mem_cons.mpr ⟨lw_p24, List.forall_mem_cons.mpr ⟨lw_p25, List.forall_mem_cons.mpr ⟨lw_p26, List.forall_mem_cons.mpr ⟨lw_p27, List.forall_mem_cons.mpr ⟨lw_p28, List.forall_mem_cons.mpr ⟨lw_p29, List.forall_mem_cons.mpr ⟨lw_p30, List.forall_mem_cons.mpr ⟨lw_p31, fun _ h => absurd h List.not_mem_nil⟩⟩⟩⟩⟩⟩⟩⟩⟩⟩⟩⟩⟩⟩⟩⟩
theorem lw_p32 : lw_okq (⟨"TownBand$Piece", "detail", "(I)I"⟩, 9) := ⟨⟨by decide +kernel, by decide +kernel⟩, List.mem_of_getElem? (i := 70) (by decide +kernel), List.mem_of_getElem? (i := 597) (by decide +kernel), List.mem_of_getElem? (i := 598) (by decide +kernel)⟩
theorem lw_p33 : lw_okq (⟨"TownBand$Piece", "partDetail", "(I)I"⟩, 9) := ⟨⟨by decide +kernel, by decide +kernel⟩, List.mem_of_getElem? (i := 70) (by decide +kernel), List.mem_of_getElem? (i := 601) (by decide +kernel), List.mem_of_getElem? (i := 602) (by decide +kernel)⟩
theorem lw_p34 : lw_okq (⟨"TownBand$Piece", "hasPart", "(I)Z"⟩, 9) := ⟨⟨by decide +kernel, by decide +kernel⟩, List.mem_of_getElem? (i := 70) (by decide +kernel), List.mem_of_getElem? (i := 605) (by decide +kernel), List.mem_of_getElem? (i := 606) (by decide +kernel)⟩
theorem lw_p35 : lw_okq (⟨"TownBand$Cover", "coversMust", "(LTownBand$Piece;LTownBand$Players;)Z"⟩, 4) := ⟨⟨by decide +kernel, by decide +kernel⟩, List.mem_of_getElem? (i := 229) (by decide +kernel), List.mem_of_getElem? (i := 613) (by decide +kernel), List.mem_of_getElem? (i := 614) (by decide +kernel)⟩
theorem lw_p36 : lw_okq (⟨"TownBand$Cover", "findAble", "(LTownBand$Piece;LTownBand$Players;)V"⟩, 4) := ⟨⟨by decide +kernel, by decide +kernel⟩, List.mem_of_getElem? (i := 229) (by decide +kernel), List.mem_of_getElem? (i := 617) (by decide +kernel), List.mem_of_getElem? (i := 618) (by decide +kernel)⟩
theorem lw_p37 : lw_okq (⟨"TownBand$Piece", "isMust", "(I)Z"⟩, 9) := ⟨⟨by decide +kernel, by decide +kernel⟩, List.mem_of_getElem? (i := 70) (by decide +kernel), List.mem_of_getElem? (i := 621) (by decide +kernel), List.mem_of_getElem? (i := 622) (by decide +kernel)⟩
theorem lw_p38 : lw_okq (⟨"TownBand$Players", "presentFor", "(LTownBand$Piece;I)I"⟩, 6) := ⟨⟨by decide +kernel, by decide +kernel⟩, List.mem_of_getElem? (i := 28) (by decide +kernel), List.mem_of_getElem? (i := 625) (by decide +kernel), List.mem_of_getElem? (i := 626) (by decide +kernel)⟩
theorem lw_p39 : lw_okq (⟨"TownBand$Players", "isPresent", "(I)Z"⟩, 6) := ⟨⟨by decide +kernel, by decide +kernel⟩, List.mem_of_getElem? (i := 28) (by decide +kernel), List.mem_of_getElem? (i := 629) (by decide +kernel), List.mem_of_getElem? (i := 630) (by decide +kernel)⟩
theorem lw_p40 : lw_okq (⟨"TownBand$Players", "partCost", "(ILTownBand$Piece;I)I"⟩, 6) := ⟨⟨by decide +kernel, by decide +kernel⟩, List.mem_of_getElem? (i := 28) (by decide +kernel), List.mem_of_getElem? (i := 633) (by decide +kernel), List.mem_of_getElem? (i := 634) (by decide +kernel)⟩
theorem lw_p41 : lw_okq (⟨"TownBand$Cover", "findPlayer", "(II)Z"⟩, 4) := ⟨⟨by decide +kernel, by decide +kernel⟩, List.mem_of_getElem? (i := 229) (by decide +kernel), List.mem_of_getElem? (i := 640) (by decide +kernel), List.mem_of_getElem? (i := 641) (by decide +kernel)⟩
theorem lw_p42 : lw_okq (⟨"TownBand$Cover", "leastLack", "(LTownBand$Piece;LTownBand$Players;)I"⟩, 4) := ⟨⟨by decide +kernel, by decide +kernel⟩, List.mem_of_getElem? (i := 229) (by decide +kernel), List.mem_of_getElem? (i := 648) (by decide +kernel), List.mem_of_getElem? (i := 649) (by decide +kernel)⟩
theorem lw_p43 : lw_okq (⟨"TownBand$Seater", "seatAnew", "(LTownBand$Piece;LTownBand$Players;)V"⟩, 7) := ⟨⟨by decide +kernel, by decide +kernel⟩, List.mem_of_getElem? (i := 248) (by decide +kernel), List.mem_of_getElem? (i := 662) (by decide +kernel), List.mem_of_getElem? (i := 663) (by decide +kernel)⟩
theorem lw_p44 : lw_okq (⟨"TownBand$Seater", "weigh", "(IIJ)V"⟩, 7) := ⟨⟨by decide +kernel, by decide +kernel⟩, List.mem_of_getElem? (i := 248) (by decide +kernel), List.mem_of_getElem? (i := 672) (by decide +kernel), List.mem_of_getElem? (i := 673) (by decide +kernel)⟩
theorem lw_p45 : lw_okq (⟨"TownBand$Seater", "weighEmpty", "(LTownBand$Piece;LTownBand$Players;IJ)V"⟩, 7) := ⟨⟨by decide +kernel, by decide +kernel⟩, List.mem_of_getElem? (i := 248) (by decide +kernel), List.mem_of_getElem? (i := 677) (by decide +kernel), List.mem_of_getElem? (i := 678) (by decide +kernel)⟩
theorem lw_p46 : lw_okq (⟨"TownBand$Seater", "match", "(II)V"⟩, 7) := ⟨⟨by decide +kernel, by decide +kernel⟩, List.mem_of_getElem? (i := 248) (by decide +kernel), List.mem_of_getElem? (i := 683) (by decide +kernel), List.mem_of_getElem? (i := 684) (by decide +kernel)⟩
theorem lw_p47 : lw_okq (⟨"TownBand$Seater", "placeRow", "(I)V"⟩, 7) := ⟨⟨by decide +kernel, by decide +kernel⟩, List.mem_of_getElem? (i := 248) (by decide +kernel), List.mem_of_getElem? (i := 691) (by decide +kernel), List.mem_of_getElem? (i := 692) (by decide +kernel)⟩
def lw_privs_3 : List (MethodName × Nat) := [(⟨"TownBand$Piece", "detail", "(I)I"⟩, 9), (⟨"TownBand$Piece", "partDetail", "(I)I"⟩, 9), (⟨"TownBand$Piece", "hasPart", "(I)Z"⟩, 9), (⟨"TownBand$Cover", "coversMust", "(LTownBand$Piece;LTownBand$Players;)Z"⟩, 4), (⟨"TownBand$Cover", "findAble", "(LTownBand$Piece;LTownBand$Players;)V"⟩, 4), (⟨"TownBand$Piece", "isMust", "(I)Z"⟩, 9), (⟨"TownBand$Players", "presentFor", "(LTownBand$Piece;I)I"⟩, 6), (⟨"TownBand$Players", "isPresent", "(I)Z"⟩, 6), (⟨"TownBand$Players", "partCost", "(ILTownBand$Piece;I)I"⟩, 6), (⟨"TownBand$Cover", "findPlayer", "(II)Z"⟩, 4), (⟨"TownBand$Cover", "leastLack", "(LTownBand$Piece;LTownBand$Players;)I"⟩, 4), (⟨"TownBand$Seater", "seatAnew", "(LTownBand$Piece;LTownBand$Players;)V"⟩, 7), (⟨"TownBand$Seater", "weigh", "(IIJ)V"⟩, 7), (⟨"TownBand$Seater", "weighEmpty", "(LTownBand$Piece;LTownBand$Players;IJ)V"⟩, 7), (⟨"TownBand$Seater", "match", "(II)V"⟩, 7), (⟨"TownBand$Seater", "placeRow", "(I)V"⟩, 7)]
theorem lw_r3 : ∀ q ∈ lw_privs_3, lw_okq q := List.forall_mem_cons.mpr ⟨lw_p32, List.forall_mem_cons.mpr ⟨lw_p33, List.forall_mem_cons.mpr ⟨lw_p34, List.forall_mem_cons.mpr ⟨lw_p35, List.forall_mem_cons.mpr ⟨lw_p36, List.forall_mem_cons.mpr ⟨lw_p37, List.forall_mem_cons.mpr ⟨lw_p38, List.forall_mem_cons.mpr ⟨lw_p39, List.forall_mem_cons.mpr ⟨lw_p40, List.forall_mem_cons.mpr ⟨lw_p41, List.forall_mem_cons.mpr ⟨lw_p42, List.forall_mem_cons.mpr ⟨lw_p43, List.forall_mem_cons.mpr ⟨lw_p44, List.forall_mem_cons.mpr ⟨lw_p45, List.forall_mem_cons.mpr ⟨lw_p46, List.forall_mem_cons.mpr ⟨lw_p47, fun _ h => absurd h List.not_mem_nil⟩⟩⟩⟩⟩⟩⟩⟩⟩⟩⟩⟩⟩⟩⟩⟩
theorem lw_p48 : lw_okq (⟨"TownBand$Seater", "nearestColumn", "(II)I"⟩, 7) := ⟨⟨by decide +kernel, by decide +kernel⟩, List.mem_of_getElem? (i := 248) (by decide +kernel), List.mem_of_getElem? (i := 696) (by decide +kernel), List.mem_of_getElem? (i := 697) (by decide +kernel)⟩
theorem lw_p49 : lw_okq (⟨"TownBand$Seater", "shiftPrices", "(IJ)V"⟩, 7) := ⟨⟨by decide +kernel, by decide +kernel⟩, List.mem_of_getElem? (i := 248) (by decide +kernel), List.mem_of_getElem? (i := 700) (by decide +kernel), List.mem_of_getElem? (i := 701) (by decide +kernel)⟩
theorem lw_p50 : lw_okq (⟨"TownBand$Seater", "takeChairs", "(LTownBand$Piece;I)I"⟩, 7) := ⟨⟨by decide +kernel, by decide +kernel⟩, List.mem_of_getElem? (i := 248) (by decide +kernel), List.mem_of_getElem? (i := 704) (by decide +kernel), List.mem_of_getElem? (i := 705) (by decide +kernel)⟩
theorem lw_p51 : lw_okq (⟨"TownBand$Piece", "seated", "()I"⟩, 9) := ⟨⟨by decide +kernel, by decide +kernel⟩, List.mem_of_getElem? (i := 70) (by decide +kernel), List.mem_of_getElem? (i := 709) (by decide +kernel), List.mem_of_getElem? (i := 710) (by decide +kernel)⟩
theorem lw_p52 : lw_okq (⟨"TownBand$Seater", "seatWithFewestChanges", "(LTownBand$Piece;LTownBand$Players;)I"⟩, 7) := ⟨⟨by decide +kernel, by decide +kernel⟩, List.mem_of_getElem? (i := 248) (by decide +kernel), List.mem_of_getElem? (i := 717) (by decide +kernel), List.mem_of_getElem? (i := 718) (by decide +kernel)⟩
theorem lw_p53 : lw_okq (⟨"TownBand$Piece", "seatsElsewhere", "(II)Z"⟩, 9) := ⟨⟨by decide +kernel, by decide +kernel⟩, List.mem_of_getElem? (i := 70) (by decide +kernel), List.mem_of_getElem? (i := 731) (by decide +kernel), List.mem_of_getElem? (i := 732) (by decide +kernel)⟩
theorem lw_p54 : lw_okq (⟨"TownBand$Players", "seatingCost", "(LTownBand$Piece;)I"⟩, 6) := ⟨⟨by decide +kernel, by decide +kernel⟩, List.mem_of_getElem? (i := 28) (by decide +kernel), List.mem_of_getElem? (i := 739) (by decide +kernel), List.mem_of_getElem? (i := 740) (by decide +kernel)⟩
theorem lw_p55 : lw_okq (⟨"TownBand$Players", "seatedButAway", "(LTownBand$Piece;)I"⟩, 6) := ⟨⟨by decide +kernel, by decide +kernel⟩, List.mem_of_getElem? (i := 28) (by decide +kernel), List.mem_of_getElem? (i := 747) (by decide +kernel), List.mem_of_getElem? (i := 748) (by decide +kernel)⟩
theorem lw_p56 : lw_okq (⟨"TownBand$Planner", "forgetChoices", "()V"⟩, 9) := ⟨⟨by decide +kernel, by decide +kernel⟩, List.mem_of_getElem? (i := 277) (by decide +kernel), List.mem_of_getElem? (i := 755) (by decide +kernel), List.mem_of_getElem? (i := 756) (by decide +kernel)⟩
theorem lw_p57 : lw_okq (⟨"TownBand$Planner", "offer", "(ILTownBand$Piece;)V"⟩, 9) := ⟨⟨by decide +kernel, by decide +kernel⟩, List.mem_of_getElem? (i := 277) (by decide +kernel), List.mem_of_getElem? (i := 759) (by decide +kernel), List.mem_of_getElem? (i := 760) (by decide +kernel)⟩
theorem lw_p58 : lw_okq (⟨"TownBand$Planner", "arrange", "(II)I"⟩, 9) := ⟨⟨by decide +kernel, by decide +kernel⟩, List.mem_of_getElem? (i := 277) (by decide +kernel), List.mem_of_getElem? (i := 763) (by decide +kernel), List.mem_of_getElem? (i := 764) (by decide +kernel)⟩
theorem lw_p59 : lw_okq (⟨"TownBand$Planner", "minutesOf", "(I)I"⟩, 9) := ⟨⟨by decide +kernel, by decide +kernel⟩, List.mem_of_getElem? (i := 277) (by decide +kernel), List.mem_of_getElem? (i := 767) (by decide +kernel), List.mem_of_getElem? (i := 768) (by decide +kernel)⟩
theorem lw_p60 : lw_okq (⟨"TownBand$Planner", "fillSet", "(IZI)J"⟩, 9) := ⟨⟨by decide +kernel, by decide +kernel⟩, List.mem_of_getElem? (i := 277) (by decide +kernel), List.mem_of_getElem? (i := 771) (by decide +kernel), List.mem_of_getElem? (i := 772) (by decide +kernel)⟩
theorem lw_p61 : lw_okq (⟨"TownBand$Planner", "bestEndingWith", "(III)J"⟩, 9) := ⟨⟨by decide +kernel, by decide +kernel⟩, List.mem_of_getElem? (i := 277) (by decide +kernel), List.mem_of_getElem? (i := 776) (by decide +kernel), List.mem_of_getElem? (i := 777) (by decide +kernel)⟩
theorem lw_p62 : lw_okq (⟨"TownBand$Planner", "keyGap", "(II)I"⟩, 9) := ⟨⟨by decide +kernel, by decide +kernel⟩, List.mem_of_getElem? (i := 277) (by decide +kernel), List.mem_of_getElem? (i := 783) (by decide +kernel), List.mem_of_getElem? (i := 784) (by decide +kernel)⟩
theorem lw_p63 : lw_okq (⟨"TownBand$Planner", "keepRow", "(IJ)V"⟩, 9) := ⟨⟨by decide +kernel, by decide +kernel⟩, List.mem_of_getElem? (i := 277) (by decide +kernel), List.mem_of_getElem? (i := 797) (by decide +kernel), List.mem_of_getElem? (i := 798) (by decide +kernel)⟩
def lw_privs_4 : List (MethodName × Nat) := [(⟨"TownBand$Seater", "nearestColumn", "(II)I"⟩, 7), (⟨"TownBand$Seater", "shiftPrices", "(IJ)V"⟩, 7), (⟨"TownBand$Seater", "takeChairs", "(LTownBand$Piece;I)I"⟩, 7), (⟨"TownBand$Piece", "seated", "()I"⟩, 9), (⟨"TownBand$Seater", "seatWithFewestChanges", "(LTownBand$Piece;LTownBand$Players;)I"⟩, 7), (⟨"TownBand$Piece", "seatsElsewhere", "(II)Z"⟩, 9), (⟨"TownBand$Players", "seatingCost", "(LTownBand$Piece;)I"⟩, 6), (⟨"TownBand$Players", "seatedButAway", "(LTownBand$Piece;)I"⟩, 6), (⟨"TownBand$Planner", "forgetChoices", "()V"⟩, 9), (⟨"TownBand$Planner", "offer", "(ILTownBand$Piece;)V"⟩, 9), (⟨"TownBand$Planner", "arrange", "(II)I"⟩, 9), (⟨"TownBand$Planner", "minutesOf", "(I)I"⟩, 9), (⟨"TownBand$Planner", "fillSet", "(IZI)J"⟩, 9), (⟨"TownBand$Planner", "bestEndingWith", "(III)J"⟩, 9), (⟨"TownBand$Planner", "keyGap", "(II)I"⟩, 9), (⟨"TownBand$Planner", "keepRow", "(IJ)V"⟩, 9)]
theorem lw_r4 : ∀ q ∈ lw_privs_4, lw_okq q := List.forall_mem_cons.mpr ⟨lw_p48, List.forall_mem_cons.mpr ⟨lw_p49, List.forall_mem_cons.mpr ⟨lw_p50, List.forall_mem_cons.mpr ⟨lw_p51, List.forall_mem_cons.mpr ⟨lw_p52, List.forall_mem_cons.mpr ⟨lw_p53, List.forall_mem_cons.mpr ⟨lw_p54, List.forall_mem_cons.mpr ⟨lw_p55, List.forall_mem_cons.mpr ⟨lw_p56, List.forall_mem_cons.mpr ⟨lw_p57, List.forall_mem_cons.mpr ⟨lw_p58, List.forall_mem_cons.mpr ⟨lw_p59, List.forall_mem_cons.mpr ⟨lw_p60, List.forall_mem_cons.mpr ⟨lw_p61, List.forall_mem_cons.mpr ⟨lw_p62, List.forall_mem_cons.mpr ⟨lw_p63, fun _ h => absurd h List.not_mem_nil⟩⟩⟩⟩⟩⟩⟩⟩⟩⟩⟩⟩⟩⟩⟩⟩
theorem lw_p64 : lw_okq (⟨"TownBand", "isPlace", "(I)Z"⟩, 8) := ⟨⟨by decide +kernel, by decide +kernel⟩, List.mem_of_getElem? (i := 20) (by decide +kernel), List.mem_of_getElem? (i := 817) (by decide +kernel), List.mem_of_getElem? (i := 818) (by decide +kernel)⟩
theorem lw_p65 : lw_okq (⟨"TownBand$Loans", "note", "(III)I"⟩, 6) := ⟨⟨by decide +kernel, by decide +kernel⟩, List.mem_of_getElem? (i := 203) (by decide +kernel), List.mem_of_getElem? (i := 821) (by decide +kernel), List.mem_of_getElem? (i := 822) (by decide +kernel)⟩
theorem lw_p66 : lw_okq (⟨"TownBand$Loans", "placeOf", "(III)I"⟩, 6) := ⟨⟨by decide +kernel, by decide +kernel⟩, List.mem_of_getElem? (i := 203) (by decide +kernel), List.mem_of_getElem? (i := 829) (by decide +kernel), List.mem_of_getElem? (i := 830) (by decide +kernel)⟩
theorem lw_p67 : lw_okq (⟨"TownBand$Loans", "settle", "(II)V"⟩, 6) := ⟨⟨by decide +kernel, by decide +kernel⟩, List.mem_of_getElem? (i := 203) (by decide +kernel), List.mem_of_getElem? (i := 833) (by decide +kernel), List.mem_of_getElem? (i := 834) (by decide +kernel)⟩
theorem lw_p68 : lw_okq (⟨"TownBand$Loans", "copiesAt", "(III)I"⟩, 6) := ⟨⟨by decide +kernel, by decide +kernel⟩, List.mem_of_getElem? (i := 203) (by decide +kernel), List.mem_of_getElem? (i := 842) (by decide +kernel), List.mem_of_getElem? (i := 843) (by decide +kernel)⟩
theorem lw_p69 : lw_okq (⟨"TownBand$Players", "compete", "(I)I"⟩, 6) := ⟨⟨by decide +kernel, by decide +kernel⟩, List.mem_of_getElem? (i := 28) (by decide +kernel), List.mem_of_getElem? (i := 850) (by decide +kernel), List.mem_of_getElem? (i := 851) (by decide +kernel)⟩
theorem lw_p70 : lw_okq (⟨"TownBand$Rule", "setPlayer", "(III)V"⟩, 7) := ⟨⟨by decide +kernel, by decide +kernel⟩, List.mem_of_getElem? (i := 175) (by decide +kernel), List.mem_of_getElem? (i := 858) (by decide +kernel), List.mem_of_getElem? (i := 859) (by decide +kernel)⟩
theorem lw_p71 : lw_okq (⟨"TownBand$Rule", "setDay", "(II)V"⟩, 7) := ⟨⟨by decide +kernel, by decide +kernel⟩, List.mem_of_getElem? (i := 175) (by decide +kernel), List.mem_of_getElem? (i := 862) (by decide +kernel), List.mem_of_getElem? (i := 863) (by decide +kernel)⟩
theorem lw_p72 : lw_okq (⟨"TownBand$Rule", "allows", "()Z"⟩, 7) := ⟨⟨by decide +kernel, by decide +kernel⟩, List.mem_of_getElem? (i := 175) (by decide +kernel), List.mem_of_getElem? (i := 866) (by decide +kernel), List.mem_of_getElem? (i := 867) (by decide +kernel)⟩
theorem lw_p73 : lw_okq (⟨"TownBand$Rule", "work", "(I)V"⟩, 7) := ⟨⟨by decide +kernel, by decide +kernel⟩, List.mem_of_getElem? (i := 175) (by decide +kernel), List.mem_of_getElem? (i := 870) (by decide +kernel), List.mem_of_getElem? (i := 871) (by decide +kernel)⟩
theorem lw_p74 : lw_okq (⟨"TownBand$Rule", "push", "(I)V"⟩, 7) := ⟨⟨by decide +kernel, by decide +kernel⟩, List.mem_of_getElem? (i := 175) (by decide +kernel), List.mem_of_getElem? (i := 874) (by decide +kernel), List.mem_of_getElem? (i := 875) (by decide +kernel)⟩
theorem lw_p75 : lw_okq (⟨"TownBand$Rule", "pop", "()I"⟩, 7) := ⟨⟨by decide +kernel, by decide +kernel⟩, List.mem_of_getElem? (i := 175) (by decide +kernel), List.mem_of_getElem? (i := 878) (by decide +kernel), List.mem_of_getElem? (i := 879) (by decide +kernel)⟩
theorem lw_p76 : lw_okq (⟨"TownBand", "playablePieces", "()I"⟩, 8) := ⟨⟨by decide +kernel, by decide +kernel⟩, List.mem_of_getElem? (i := 20) (by decide +kernel), List.mem_of_getElem? (i := 890) (by decide +kernel), List.mem_of_getElem? (i := 891) (by decide +kernel)⟩
theorem lw_p77 : lw_okq (⟨"TownBandModel", "isPlayer", "(I)Z"⟩, 48) := ⟨⟨by decide +kernel, by decide +kernel⟩, List.mem_of_getElem? (i := 894) (by decide +kernel), List.mem_of_getElem? (i := 1055) (by decide +kernel), List.mem_of_getElem? (i := 1056) (by decide +kernel)⟩
theorem lw_p78 : lw_okq (⟨"TownBandModel", "isInstrument", "(I)Z"⟩, 48) := ⟨⟨by decide +kernel, by decide +kernel⟩, List.mem_of_getElem? (i := 894) (by decide +kernel), List.mem_of_getElem? (i := 1059) (by decide +kernel), List.mem_of_getElem? (i := 1060) (by decide +kernel)⟩
theorem lw_p79 : lw_okq (⟨"TownBandModel", "isPiece", "(I)Z"⟩, 48) := ⟨⟨by decide +kernel, by decide +kernel⟩, List.mem_of_getElem? (i := 894) (by decide +kernel), List.mem_of_getElem? (i := 1075) (by decide +kernel), List.mem_of_getElem? (i := 1076) (by decide +kernel)⟩
def lw_privs_5 : List (MethodName × Nat) := [(⟨"TownBand", "isPlace", "(I)Z"⟩, 8), (⟨"TownBand$Loans", "note", "(III)I"⟩, 6), (⟨"TownBand$Loans", "placeOf", "(III)I"⟩, 6), (⟨"TownBand$Loans", "settle", "(II)V"⟩, 6), (⟨"TownBand$Loans", "copiesAt", "(III)I"⟩, 6), (⟨"TownBand$Players", "compete", "(I)I"⟩, 6), (⟨"TownBand$Rule", "setPlayer", "(III)V"⟩, 7), (⟨"TownBand$Rule", "setDay", "(II)V"⟩, 7), (⟨"TownBand$Rule", "allows", "()Z"⟩, 7), (⟨"TownBand$Rule", "work", "(I)V"⟩, 7), (⟨"TownBand$Rule", "push", "(I)V"⟩, 7), (⟨"TownBand$Rule", "pop", "()I"⟩, 7), (⟨"TownBand", "playablePieces", "()I"⟩, 8), (⟨"TownBandModel", "isPlayer", "(I)Z"⟩, 48), (⟨"TownBandModel", "isInstrument", "(I)Z"⟩, 48), (⟨"TownBandModel", "isPiece", "(I)Z"⟩, 48)]
theorem lw_r5 : ∀ q ∈ lw_privs_5, lw_okq q := List.forall_mem_cons.mpr ⟨lw_p64, List.forall_mem_cons.mpr ⟨lw_p65, List.forall_mem_cons.mpr ⟨lw_p66, List.forall_mem_cons.mpr ⟨lw_p67, List.forall_mem_cons.mpr ⟨lw_p68, List.forall_mem_cons.mpr ⟨lw_p69, List.forall_mem_cons.mpr ⟨lw_p70, List.forall_mem_cons.mpr ⟨lw_p71, List.forall_mem_cons.mpr ⟨lw_p72, List.forall_mem_cons.mpr ⟨lw_p73, List.forall_mem_cons.mpr ⟨lw_p74, List.forall_mem_cons.mpr ⟨lw_p75, List.forall_mem_cons.mpr ⟨lw_p76, List.forall_mem_cons.mpr ⟨lw_p77, List.forall_mem_cons.mpr ⟨lw_p78, List.forall_mem_cons.mpr ⟨lw_p79, fun _ h => absurd h List.not_mem_nil⟩⟩⟩⟩⟩⟩⟩⟩⟩⟩⟩⟩⟩⟩⟩⟩
theorem lw_p80 : lw_okq (⟨"TownBandModel", "lacking", "(I)I"⟩, 48) := ⟨⟨by decide +kernel, by decide +kernel⟩, List.mem_of_getElem? (i := 894) (by decide +kernel), List.mem_of_getElem? (i := 1083) (by decide +kernel), List.mem_of_getElem? (i := 1084) (by decide +kernel)⟩
theorem lw_p81 : lw_okq (⟨"TownBandModel", "costOf", "(III)I"⟩, 48) := ⟨⟨by decide +kernel, by decide +kernel⟩, List.mem_of_getElem? (i := 894) (by decide +kernel), List.mem_of_getElem? (i := 1087) (by decide +kernel), List.mem_of_getElem? (i := 1088) (by decide +kernel)⟩
theorem lw_p82 : lw_okq (⟨"TownBandModel", "ones", "(I)I"⟩, 48) := ⟨⟨by decide +kernel, by decide +kernel⟩, List.mem_of_getElem? (i := 894) (by decide +kernel), List.mem_of_getElem? (i := 1091) (by decide +kernel), List.mem_of_getElem? (i := 1092) (by decide +kernel)⟩
theorem lw_p83 : lw_okq (⟨"TownBandModel", "seats", "(IZ)I"⟩, 48) := ⟨⟨by decide +kernel, by decide +kernel⟩, List.mem_of_getElem? (i := 894) (by decide +kernel), List.mem_of_getElem? (i := 1103) (by decide +kernel), List.mem_of_getElem? (i := 1104) (by decide +kernel)⟩
theorem lw_p84 : lw_okq (⟨"TownBandModel", "finds", "(IZ)V"⟩, 48) := ⟨⟨by decide +kernel, by decide +kernel⟩, List.mem_of_getElem? (i := 894) (by decide +kernel), List.mem_of_getElem? (i := 1107) (by decide +kernel), List.mem_of_getElem? (i := 1108) (by decide +kernel)⟩
theorem lw_p85 : lw_okq (⟨"TownBandModel", "mayBe", "(III)Z"⟩, 48) := ⟨⟨by decide +kernel, by decide +kernel⟩, List.mem_of_getElem? (i := 894) (by decide +kernel), List.mem_of_getElem? (i := 1112) (by decide +kernel), List.mem_of_getElem? (i := 1113) (by decide +kernel)⟩
theorem lw_p86 : lw_okq (⟨"TownBandModel", "isMust", "(II)Z"⟩, 48) := ⟨⟨by decide +kernel, by decide +kernel⟩, List.mem_of_getElem? (i := 894) (by decide +kernel), List.mem_of_getElem? (i := 1116) (by decide +kernel), List.mem_of_getElem? (i := 1117) (by decide +kernel)⟩
theorem lw_p87 : lw_okq (⟨"TownBandModel", "counts", "(IIIZ)I"⟩, 48) := ⟨⟨by decide +kernel, by decide +kernel⟩, List.mem_of_getElem? (i := 894) (by decide +kernel), List.mem_of_getElem? (i := 1120) (by decide +kernel), List.mem_of_getElem? (i := 1121) (by decide +kernel)⟩
theorem lw_p88 : lw_okq (⟨"TownBandModel", "fits", "(IIIIZ)Z"⟩, 48) := ⟨⟨by decide +kernel, by decide +kernel⟩, List.mem_of_getElem? (i := 894) (by decide +kernel), List.mem_of_getElem? (i := 1124) (by decide +kernel), List.mem_of_getElem? (i := 1125) (by decide +kernel)⟩
theorem lw_p89 : lw_okq (⟨"TownBandModel", "isPart", "(II)Z"⟩, 48) := ⟨⟨by decide +kernel, by decide +kernel⟩, List.mem_of_getElem? (i := 894) (by decide +kernel), List.mem_of_getElem? (i := 1136) (by decide +kernel), List.mem_of_getElem? (i := 1137) (by decide +kernel)⟩
theorem lw_p90 : lw_okq (⟨"TownBandModel", "sumOf", "(I)I"⟩, 48) := ⟨⟨by decide +kernel, by decide +kernel⟩, List.mem_of_getElem? (i := 894) (by decide +kernel), List.mem_of_getElem? (i := 1152) (by decide +kernel), List.mem_of_getElem? (i := 1153) (by decide +kernel)⟩
theorem lw_p91 : lw_okq (⟨"TownBandModel", "goes", "(IIII)Z"⟩, 48) := ⟨⟨by decide +kernel, by decide +kernel⟩, List.mem_of_getElem? (i := 894) (by decide +kernel), List.mem_of_getElem? (i := 1156) (by decide +kernel), List.mem_of_getElem? (i := 1157) (by decide +kernel)⟩
theorem lw_p92 : lw_okq (⟨"TownBandModel", "strainOf", "(II)I"⟩, 48) := ⟨⟨by decide +kernel, by decide +kernel⟩, List.mem_of_getElem? (i := 894) (by decide +kernel), List.mem_of_getElem? (i := 1160) (by decide +kernel), List.mem_of_getElem? (i := 1161) (by decide +kernel)⟩
theorem lw_p93 : lw_okq (⟨"TownBandModel", "isDay", "(I)Z"⟩, 48) := ⟨⟨by decide +kernel, by decide +kernel⟩, List.mem_of_getElem? (i := 894) (by decide +kernel), List.mem_of_getElem? (i := 1176) (by decide +kernel), List.mem_of_getElem? (i := 1177) (by decide +kernel)⟩
theorem lw_p94 : lw_okq (⟨"TownBandModel", "isThere", "(I)Z"⟩, 48) := ⟨⟨by decide +kernel, by decide +kernel⟩, List.mem_of_getElem? (i := 894) (by decide +kernel), List.mem_of_getElem? (i := 1180) (by decide +kernel), List.mem_of_getElem? (i := 1181) (by decide +kernel)⟩
theorem lw_p95 : lw_okq (⟨"TownBandModel", "whereIs", "(III)I"⟩, 48) := ⟨⟨by decide +kernel, by decide +kernel⟩, List.mem_of_getElem? (i := 894) (by decide +kernel), List.mem_of_getElem? (i := 1188) (by decide +kernel), List.mem_of_getElem? (i := 1189) (by decide +kernel)⟩
def lw_privs_6 : List (MethodName × Nat) := [(⟨"TownBandModel", "lacking", "(I)I"⟩, 48), (⟨"TownBandModel", "costOf", "(III)I"⟩, 48), (⟨"TownBandModel", "ones", "(I)I"⟩, 48), (⟨"TownBandModel", "seats", "(IZ)I"⟩, 48), (⟨"TownBandModel", "finds", "(IZ)V"⟩, 48), (⟨"TownBandModel", "mayBe", "(III)Z"⟩, 48), (⟨"TownBandModel", "isMust", "(II)Z"⟩, 48), (⟨"TownBandModel", "counts", "(IIIZ)I"⟩, 48), (⟨"TownBandModel", "fits", "(IIIIZ)Z"⟩, 48), (⟨"TownBandModel", "isPart", "(II)Z"⟩, 48), (⟨"TownBandModel", "sumOf", "(I)I"⟩, 48), (⟨"TownBandModel", "goes", "(IIII)Z"⟩, 48), (⟨"TownBandModel", "strainOf", "(II)I"⟩, 48), (⟨"TownBandModel", "isDay", "(I)Z"⟩, 48), (⟨"TownBandModel", "isThere", "(I)Z"⟩, 48), (⟨"TownBandModel", "whereIs", "(III)I"⟩, 48)]
theorem lw_r6 : ∀ q ∈ lw_privs_6, lw_okq q := List.forall_mem_cons.mpr ⟨lw_p80, List.forall_mem_cons.mpr ⟨lw_p81, List.forall_mem_cons.mpr ⟨lw_p82, List.forall_mem_cons.mpr ⟨lw_p83, List.forall_mem_cons.mpr ⟨lw_p84, List.forall_mem_cons.mpr ⟨lw_p85, List.forall_mem_cons.mpr ⟨lw_p86, List.forall_mem_cons.mpr ⟨lw_p87, List.forall_mem_cons.mpr ⟨lw_p88, List.forall_mem_cons.mpr ⟨lw_p89, List.forall_mem_cons.mpr ⟨lw_p90, List.forall_mem_cons.mpr ⟨lw_p91, List.forall_mem_cons.mpr ⟨lw_p92, List.forall_mem_cons.mpr ⟨lw_p93, List.forall_mem_cons.mpr ⟨lw_p94, List.forall_mem_cons.mpr ⟨lw_p95, fun _ h => absurd h List.not_mem_nil⟩⟩⟩⟩⟩⟩⟩⟩⟩⟩⟩⟩⟩⟩⟩⟩
theorem lw_p96 : lw_okq (⟨"TownBandModel", "copiesAt", "(III)I"⟩, 48) := ⟨⟨by decide +kernel, by decide +kernel⟩, List.mem_of_getElem? (i := 894) (by decide +kernel), List.mem_of_getElem? (i := 1196) (by decide +kernel), List.mem_of_getElem? (i := 1197) (by decide +kernel)⟩
theorem lw_p97 : lw_okq (⟨"TownBandModel", "lay", "(I)V"⟩, 48) := ⟨⟨by decide +kernel, by decide +kernel⟩, List.mem_of_getElem? (i := 894) (by decide +kernel), List.mem_of_getElem? (i := 1212) (by decide +kernel), List.mem_of_getElem? (i := 1213) (by decide +kernel)⟩
theorem lw_p98 : lw_okq (⟨"TownBandModel", "readText", "()Z"⟩, 48) := ⟨⟨by decide +kernel, by decide +kernel⟩, List.mem_of_getElem? (i := 894) (by decide +kernel), List.mem_of_getElem? (i := 1228) (by decide +kernel), List.mem_of_getElem? (i := 1229) (by decide +kernel)⟩
theorem lw_p99 : lw_okq (⟨"TownBandModel", "next", "(Z)V"⟩, 48) := ⟨⟨by decide +kernel, by decide +kernel⟩, List.mem_of_getElem? (i := 894) (by decide +kernel), List.mem_of_getElem? (i := 1232) (by decide +kernel), List.mem_of_getElem? (i := 1233) (by decide +kernel)⟩
theorem lw_p100 : lw_okq (⟨"TownBandModel", "raw", "()I"⟩, 48) := ⟨⟨by decide +kernel, by decide +kernel⟩, List.mem_of_getElem? (i := 894) (by decide +kernel), List.mem_of_getElem? (i := 1236) (by decide +kernel), List.mem_of_getElem? (i := 1237) (by decide +kernel)⟩
theorem lw_p101 : lw_okq (⟨"TownBandModel", "isSmall", "(I)Z"⟩, 48) := ⟨⟨by decide +kernel, by decide +kernel⟩, List.mem_of_getElem? (i := 894) (by decide +kernel), List.mem_of_getElem? (i := 1240) (by decide +kernel), List.mem_of_getElem? (i := 1241) (by decide +kernel)⟩
theorem lw_p102 : lw_okq (⟨"TownBandModel", "isWordOf", "(Z)Z"⟩, 48) := ⟨⟨by decide +kernel, by decide +kernel⟩, List.mem_of_getElem? (i := 894) (by decide +kernel), List.mem_of_getElem? (i := 1244) (by decide +kernel), List.mem_of_getElem? (i := 1245) (by decide +kernel)⟩
theorem lw_p103 : lw_okq (⟨"TownBandModel", "word", "(IIIII)J"⟩, 48) := ⟨⟨by decide +kernel, by decide +kernel⟩, List.mem_of_getElem? (i := 894) (by decide +kernel), List.mem_of_getElem? (i := 1248) (by decide +kernel), List.mem_of_getElem? (i := 1249) (by decide +kernel)⟩
theorem lw_p104 : lw_okq (⟨"TownBandModel", "isDigit", "(I)Z"⟩, 48) := ⟨⟨by decide +kernel, by decide +kernel⟩, List.mem_of_getElem? (i := 894) (by decide +kernel), List.mem_of_getElem? (i := 1252) (by decide +kernel), List.mem_of_getElem? (i := 1253) (by decide +kernel)⟩
theorem lw_p105 : lw_okq (⟨"TownBandModel", "isSignOf", "(IZ)Z"⟩, 48) := ⟨⟨by decide +kernel, by decide +kernel⟩, List.mem_of_getElem? (i := 894) (by decide +kernel), List.mem_of_getElem? (i := 1256) (by decide +kernel), List.mem_of_getElem? (i := 1257) (by decide +kernel)⟩
theorem lw_p106 : lw_okq (⟨"TownBandModel", "isWord", "(IIIII)Z"⟩, 48) := ⟨⟨by decide +kernel, by decide +kernel⟩, List.mem_of_getElem? (i := 894) (by decide +kernel), List.mem_of_getElem? (i := 1260) (by decide +kernel), List.mem_of_getElem? (i := 1261) (by decide +kernel)⟩
theorem lw_p107 : lw_okq (⟨"TownBandModel", "readPiece", "()Z"⟩, 48) := ⟨⟨by decide +kernel, by decide +kernel⟩, List.mem_of_getElem? (i := 894) (by decide +kernel), List.mem_of_getElem? (i := 1264) (by decide +kernel), List.mem_of_getElem? (i := 1265) (by decide +kernel)⟩
theorem lw_p108 : lw_okq (⟨"TownBandModel", "fails", "(I)Z"⟩, 48) := ⟨⟨by decide +kernel, by decide +kernel⟩, List.mem_of_getElem? (i := 894) (by decide +kernel), List.mem_of_getElem? (i := 1268) (by decide +kernel), List.mem_of_getElem? (i := 1269) (by decide +kernel)⟩
theorem lw_p109 : lw_okq (⟨"TownBandModel", "isSign", "(I)Z"⟩, 48) := ⟨⟨by decide +kernel, by decide +kernel⟩, List.mem_of_getElem? (i := 894) (by decide +kernel), List.mem_of_getElem? (i := 1272) (by decide +kernel), List.mem_of_getElem? (i := 1273) (by decide +kernel)⟩
theorem lw_p110 : lw_okq (⟨"TownBandModel", "takes", "(II)Z"⟩, 48) := ⟨⟨by decide +kernel, by decide +kernel⟩, List.mem_of_getElem? (i := 894) (by decide +kernel), List.mem_of_getElem? (i := 1276) (by decide +kernel), List.mem_of_getElem? (i := 1277) (by decide +kernel)⟩
theorem lw_p111 : lw_okq (⟨"TownBandModel", "readPart", "(I)Z"⟩, 48) := ⟨⟨by decide +kernel, by decide +kernel⟩, List.mem_of_getElem? (i := 894) (by decide +kernel), List.mem_of_getElem? (i := 1280) (by decide +kernel), List.mem_of_getElem? (i := 1281) (by decide +kernel)⟩
def lw_privs_7 : List (MethodName × Nat) := [(⟨"TownBandModel", "copiesAt", "(III)I"⟩, 48), (⟨"TownBandModel", "lay", "(I)V"⟩, 48), (⟨"TownBandModel", "readText", "()Z"⟩, 48), (⟨"TownBandModel", "next", "(Z)V"⟩, 48), (⟨"TownBandModel", "raw", "()I"⟩, 48), (⟨"TownBandModel", "isSmall", "(I)Z"⟩, 48), (⟨"TownBandModel", "isWordOf", "(Z)Z"⟩, 48), (⟨"TownBandModel", "word", "(IIIII)J"⟩, 48), (⟨"TownBandModel", "isDigit", "(I)Z"⟩, 48), (⟨"TownBandModel", "isSignOf", "(IZ)Z"⟩, 48), (⟨"TownBandModel", "isWord", "(IIIII)Z"⟩, 48), (⟨"TownBandModel", "readPiece", "()Z"⟩, 48), (⟨"TownBandModel", "fails", "(I)Z"⟩, 48), (⟨"TownBandModel", "isSign", "(I)Z"⟩, 48), (⟨"TownBandModel", "takes", "(II)Z"⟩, 48), (⟨"TownBandModel", "readPart", "(I)Z"⟩, 48)]
theorem lw_r7 : ∀ q ∈ lw_privs_7, lw_okq q := List.forall_mem_cons.mpr ⟨lw_p96, List.forall_mem_cons.mpr ⟨lw_p97, List.forall_mem_cons.mpr ⟨lw_p98, List.forall_mem_cons.mpr ⟨lw_p99, List.forall_mem_cons.mpr ⟨lw_p100, List.forall_mem_cons.mpr ⟨lw_p101, List.forall_mem_cons.mpr ⟨lw_p102, List.forall_mem_cons.mpr ⟨lw_p103, List.forall_mem_cons.mpr ⟨lw_p104, List.forall_mem_cons.mpr ⟨lw_p105, List.forall_mem_cons.mpr ⟨lw_p106, List.forall_mem_cons.mpr ⟨lw_p107, List.forall_mem_cons.mpr ⟨lw_p108, List.forall_mem_cons.mpr ⟨lw_p109, List.forall_mem_cons.mpr ⟨lw_p110, List.forall_mem_cons.mpr ⟨lw_p111, fun _ h => absurd h List.not_mem_nil⟩⟩⟩⟩⟩⟩⟩⟩⟩⟩⟩⟩⟩⟩⟩⟩
theorem lw_p112 : lw_okq (⟨"TownBandModel", "readRule", "()Z"⟩, 48) := ⟨⟨by decide +kernel, by decide +kernel⟩, List.mem_of_getElem? (i := 894) (by decide +kernel), List.mem_of_getElem? (i := 1288) (by decide +kernel), List.mem_of_getElem? (i := 1289) (by decide +kernel)⟩
theorem lw_p113 : lw_okq (⟨"TownBandModel", "open", "()I"⟩, 48) := ⟨⟨by decide +kernel, by decide +kernel⟩, List.mem_of_getElem? (i := 894) (by decide +kernel), List.mem_of_getElem? (i := 1292) (by decide +kernel), List.mem_of_getElem? (i := 1293) (by decide +kernel)⟩
theorem lw_p114 : lw_okq (⟨"TownBandModel", "step", "()V"⟩, 48) := ⟨⟨by decide +kernel, by decide +kernel⟩, List.mem_of_getElem? (i := 894) (by decide +kernel), List.mem_of_getElem? (i := 1296) (by decide +kernel), List.mem_of_getElem? (i := 1297) (by decide +kernel)⟩
theorem lw_p115 : lw_okq (⟨"TownBandModel", "readSums", "()Z"⟩, 48) := ⟨⟨by decide +kernel, by decide +kernel⟩, List.mem_of_getElem? (i := 894) (by decide +kernel), List.mem_of_getElem? (i := 1300) (by decide +kernel), List.mem_of_getElem? (i := 1301) (by decide +kernel)⟩
theorem lw_p116 : lw_okq (⟨"TownBandModel", "value", "()Z"⟩, 48) := ⟨⟨by decide +kernel, by decide +kernel⟩, List.mem_of_getElem? (i := 894) (by decide +kernel), List.mem_of_getElem? (i := 1304) (by decide +kernel), List.mem_of_getElem? (i := 1305) (by decide +kernel)⟩
theorem lw_p117 : lw_okq (⟨"TownBandModel", "does", "(II)V"⟩, 48) := ⟨⟨by decide +kernel, by decide +kernel⟩, List.mem_of_getElem? (i := 894) (by decide +kernel), List.mem_of_getElem? (i := 1308) (by decide +kernel), List.mem_of_getElem? (i := 1309) (by decide +kernel)⟩
theorem lw_p118 : lw_okq (⟨"TownBandModel", "settles", "(I)V"⟩, 48) := ⟨⟨by decide +kernel, by decide +kernel⟩, List.mem_of_getElem? (i := 894) (by decide +kernel), List.mem_of_getElem? (i := 1312) (by decide +kernel), List.mem_of_getElem? (i := 1313) (by decide +kernel)⟩
theorem lw_p119 : lw_okq (⟨"TownBandModel", "rank", "(I)I"⟩, 48) := ⟨⟨by decide +kernel, by decide +kernel⟩, List.mem_of_getElem? (i := 894) (by decide +kernel), List.mem_of_getElem? (i := 1316) (by decide +kernel), List.mem_of_getElem? (i := 1317) (by decide +kernel)⟩
theorem lw_p120 : lw_okq (⟨"TownBandModel", "done", "(III)I"⟩, 48) := ⟨⟨by decide +kernel, by decide +kernel⟩, List.mem_of_getElem? (i := 894) (by decide +kernel), List.mem_of_getElem? (i := 1324) (by decide +kernel), List.mem_of_getElem? (i := 1325) (by decide +kernel)⟩
def lw_privs_8 : List (MethodName × Nat) := [(⟨"TownBandModel", "readRule", "()Z"⟩, 48), (⟨"TownBandModel", "open", "()I"⟩, 48), (⟨"TownBandModel", "step", "()V"⟩, 48), (⟨"TownBandModel", "readSums", "()Z"⟩, 48), (⟨"TownBandModel", "value", "()Z"⟩, 48), (⟨"TownBandModel", "does", "(II)V"⟩, 48), (⟨"TownBandModel", "settles", "(I)V"⟩, 48), (⟨"TownBandModel", "rank", "(I)I"⟩, 48), (⟨"TownBandModel", "done", "(III)I"⟩, 48)]
theorem lw_r8 : ∀ q ∈ lw_privs_8, lw_okq q := List.forall_mem_cons.mpr ⟨lw_p112, List.forall_mem_cons.mpr ⟨lw_p113, List.forall_mem_cons.mpr ⟨lw_p114, List.forall_mem_cons.mpr ⟨lw_p115, List.forall_mem_cons.mpr ⟨lw_p116, List.forall_mem_cons.mpr ⟨lw_p117, List.forall_mem_cons.mpr ⟨lw_p118, List.forall_mem_cons.mpr ⟨lw_p119, List.forall_mem_cons.mpr ⟨lw_p120, fun _ h => absurd h List.not_mem_nil⟩⟩⟩⟩⟩⟩⟩⟩⟩
def lw_privs : List (MethodName × Nat) := lw_privs_1 ++ (lw_privs_2 ++ (lw_privs_3 ++ (lw_privs_4 ++ (lw_privs_5 ++ (lw_privs_6 ++ (lw_privs_7 ++ (lw_privs_8)))))))
def lw_tbl : List Cond := k2_sels lw_privs ++ tables_1
theorem lw_privs_ok : ∀ q ∈ lw_privs, lw_okq q := by
  show ∀ q ∈ lw_privs_1 ++ (lw_privs_2 ++ (lw_privs_3 ++ (lw_privs_4 ++ (lw_privs_5 ++ (lw_privs_6 ++ (lw_privs_7 ++ (lw_privs_8))))))), lw_okq q
  exact List.forall_mem_append.mpr ⟨lw_r1, List.forall_mem_append.mpr ⟨lw_r2, List.forall_mem_append.mpr ⟨lw_r3, List.forall_mem_append.mpr ⟨lw_r4, List.forall_mem_append.mpr ⟨lw_r5, List.forall_mem_append.mpr ⟨lw_r6, List.forall_mem_append.mpr ⟨lw_r7, lw_r8⟩⟩⟩⟩⟩⟩⟩
end
section
def R_Cover : String := "TownBand$Cover"
def F_Cover : u_T := fun k => match k with
  | 0 => ("TownBand$Cover", "able", "[I", true)
  | 1 => ("TownBand$Cover", "partOf", "[I", true)
  | 2 => ("TownBand$Cover", "ableForSet", "[I", true)
  | _ => ("TownBand$Cover", "asked", "I", false)
def t_Cover : Nat → FieldType := fun k => match k with
  | 0 => .array .int
  | 1 => .array .int
  | 2 => .array .int
  | _ => .int
theorem n_Cover : ∀ a, a < 4 → ∀ b, b < 4 → a ≠ b → (F_Cover a).2.1 ≠ (F_Cover b).2.1 := by decide +kernel
theorem t_Cover_ok : ∀ k, k < 4 → parseFieldDescriptor (F_Cover k).2.2.1 = some (t_Cover k) := by decide +kernel
def R_Library : String := "TownBand$Library"
def F_Library : u_T := fun k => match k with
  | 0 => ("TownBand$Library", "slots", "[LTownBand$Piece;", true)
  | 1 => ("TownBand$Library", "size", "I", false)
  | _ => ("TownBand$Library", "told", "I", false)
def t_Library : Nat → FieldType := fun k => match k with
  | 0 => .array (.object "TownBand$Piece")
  | 1 => .int
  | _ => .int
theorem n_Library : ∀ a, a < 3 → ∀ b, b < 3 → a ≠ b → (F_Library a).2.1 ≠ (F_Library b).2.1 := by decide +kernel
theorem t_Library_ok : ∀ k, k < 3 → parseFieldDescriptor (F_Library k).2.2.1 = some (t_Library k) := by decide +kernel
def R_Loans : String := "TownBand$Loans"
def F_Loans : u_T := fun k => match k with
  | 0 => ("TownBand$Loans", "copyOf", "[I", true)
  | 1 => ("TownBand$Loans", "dayOf", "[I", true)
  | 2 => ("TownBand$Loans", "thereOf", "[I", true)
  | 3 => ("TownBand$Loans", "latestDay", "[I", true)
  | 4 => ("TownBand$Loans", "latestPlace", "[I", true)
  | _ => ("TownBand$Loans", "size", "I", false)
def t_Loans : Nat → FieldType := fun k => match k with
  | 0 => .array .int
  | 1 => .array .int
  | 2 => .array .int
  | 3 => .array .int
  | 4 => .array .int
  | _ => .int
theorem n_Loans : ∀ a, a < 6 → ∀ b, b < 6 → a ≠ b → (F_Loans a).2.1 ≠ (F_Loans b).2.1 := by decide +kernel
theorem t_Loans_ok : ∀ k, k < 6 → parseFieldDescriptor (F_Loans k).2.2.1 = some (t_Loans k) := by decide +kernel
def R_Piece : String := "TownBand$Piece"
def F_Piece : u_T := fun k => match k with
  | 0 => ("TownBand$Piece", "choices", "[I", true)
  | 1 => ("TownBand$Piece", "instruments", "[I", true)
  | 2 => ("TownBand$Piece", "chairs", "[I", true)
  | 3 => ("TownBand$Piece", "name", "I", false)
  | 4 => ("TownBand$Piece", "minutes", "I", false)
  | 5 => ("TownBand$Piece", "lips", "I", false)
  | 6 => ("TownBand$Piece", "key", "I", false)
  | 7 => ("TownBand$Piece", "parts", "I", false)
  | _ => ("TownBand$Piece", "mustSet", "I", false)
def t_Piece : Nat → FieldType := fun k => match k with
  | 0 => .array .int
  | 1 => .array .int
  | 2 => .array .int
  | 3 => .int
  | 4 => .int
  | 5 => .int
  | 6 => .int
  | 7 => .int
  | _ => .int
theorem n_Piece : ∀ a, a < 9 → ∀ b, b < 9 → a ≠ b → (F_Piece a).2.1 ≠ (F_Piece b).2.1 := by decide +kernel
theorem t_Piece_ok : ∀ k, k < 9 → parseFieldDescriptor (F_Piece k).2.2.1 = some (t_Piece k) := by decide +kernel
def R_Planner : String := "TownBand$Planner"
def F_Planner : u_T := fun k => match k with
  | 0 => ("TownBand$Planner", "row", "[I", true)
  | 1 => ("TownBand$Planner", "planned", "I", false)
  | 2 => ("TownBand$Planner", "rowStrain", "I", false)
  | 3 => ("TownBand$Planner", "number", "[I", true)
  | 4 => ("TownBand$Planner", "minutes", "[I", true)
  | 5 => ("TownBand$Planner", "lips", "[I", true)
  | 6 => ("TownBand$Planner", "key", "[I", true)
  | 7 => ("TownBand$Planner", "choices", "I", false)
  | _ => ("TownBand$Planner", "best", "[J", false)
def t_Planner : Nat → FieldType := fun k => match k with
  | 0 => .array .int
  | 1 => .int
  | 2 => .int
  | 3 => .array .int
  | 4 => .array .int
  | 5 => .array .int
  | 6 => .array .int
  | 7 => .int
  | _ => .array .long
theorem n_Planner : ∀ a, a < 9 → ∀ b, b < 9 → a ≠ b → (F_Planner a).2.1 ≠ (F_Planner b).2.1 := by decide +kernel
theorem t_Planner_ok : ∀ k, k < 9 → parseFieldDescriptor (F_Planner k).2.2.1 = some (t_Planner k) := by decide +kernel
def R_Players : String := "TownBand$Players"
def F_Players : u_T := fun k => match k with
  | 0 => ("TownBand$Players", "ages", "[I", true)
  | 1 => ("TownBand$Players", "joinedDays", "[I", true)
  | 2 => ("TownBand$Players", "contests", "[I", true)
  | 3 => ("TownBand$Players", "costs", "[I", true)
  | 4 => ("TownBand$Players", "size", "I", false)
  | _ => ("TownBand$Players", "present", "I", false)
def t_Players : Nat → FieldType := fun k => match k with
  | 0 => .array .int
  | 1 => .array .int
  | 2 => .array .int
  | 3 => .array .int
  | 4 => .int
  | _ => .int
theorem n_Players : ∀ a, a < 6 → ∀ b, b < 6 → a ≠ b → (F_Players a).2.1 ≠ (F_Players b).2.1 := by decide +kernel
theorem t_Players_ok : ∀ k, k < 6 → parseFieldDescriptor (F_Players k).2.2.1 = some (t_Players k) := by decide +kernel
def R_Rule : String := "TownBand$Rule"
def F_Rule : u_T := fun k => match k with
  | 0 => ("TownBand$Rule", "facts", "[I", true)
  | 1 => ("TownBand$Rule", "stack", "[I", true)
  | 2 => ("TownBand$Rule", "steps", "[I", false)
  | 3 => ("TownBand$Rule", "draft", "[I", false)
  | 4 => ("TownBand$Rule", "size", "I", false)
  | 5 => ("TownBand$Rule", "drafted", "I", false)
  | _ => ("TownBand$Rule", "top", "I", false)
def t_Rule : Nat → FieldType := fun k => match k with
  | 0 => .array .int
  | 1 => .array .int
  | 2 => .array .int
  | 3 => .array .int
  | 4 => .int
  | 5 => .int
  | _ => .int
theorem n_Rule : ∀ a, a < 7 → ∀ b, b < 7 → a ≠ b → (F_Rule a).2.1 ≠ (F_Rule b).2.1 := by decide +kernel
theorem t_Rule_ok : ∀ k, k < 7 → parseFieldDescriptor (F_Rule k).2.2.1 = some (t_Rule k) := by decide +kernel
def R_Seater : String := "TownBand$Seater"
def F_Seater : u_T := fun k => match k with
  | 0 => ("TownBand$Seater", "weights", "[J", true)
  | 1 => ("TownBand$Seater", "rowPrice", "[J", true)
  | 2 => ("TownBand$Seater", "columnPrice", "[J", true)
  | 3 => ("TownBand$Seater", "slack", "[J", true)
  | 4 => ("TownBand$Seater", "rowOf", "[I", true)
  | 5 => ("TownBand$Seater", "cameFrom", "[I", true)
  | _ => ("TownBand$Seater", "columns", "I", false)
def t_Seater : Nat → FieldType := fun k => match k with
  | 0 => .array .long
  | 1 => .array .long
  | 2 => .array .long
  | 3 => .array .long
  | 4 => .array .int
  | 5 => .array .int
  | _ => .int
theorem n_Seater : ∀ a, a < 7 → ∀ b, b < 7 → a ≠ b → (F_Seater a).2.1 ≠ (F_Seater b).2.1 := by decide +kernel
theorem t_Seater_ok : ∀ k, k < 7 → parseFieldDescriptor (F_Seater k).2.2.1 = some (t_Seater k) := by decide +kernel
def R_Tape : String := "TownBand$Tape"
def F_Tape : u_T := fun k => match k with
  | 0 => ("TownBand$Tape", "bytes", "[I", true)
  | 1 => ("TownBand$Tape", "length", "I", false)
  | 2 => ("TownBand$Tape", "longestNumber", "I", false)
  | 3 => ("TownBand$Tape", "next", "I", false)
  | 4 => ("TownBand$Tape", "kind", "I", false)
  | 5 => ("TownBand$Tape", "place", "I", false)
  | 6 => ("TownBand$Tape", "value", "I", false)
  | 7 => ("TownBand$Tape", "tokens", "I", false)
  | 8 => ("TownBand$Tape", "faultKind", "I", false)
  | _ => ("TownBand$Tape", "faultPlace", "I", false)
def t_Tape : Nat → FieldType := fun k => match k with
  | 0 => .array .int
  | 1 => .int
  | 2 => .int
  | 3 => .int
  | 4 => .int
  | 5 => .int
  | 6 => .int
  | 7 => .int
  | 8 => .int
  | _ => .int
theorem n_Tape : ∀ a, a < 10 → ∀ b, b < 10 → a ≠ b → (F_Tape a).2.1 ≠ (F_Tape b).2.1 := by decide +kernel
theorem t_Tape_ok : ∀ k, k < 10 → parseFieldDescriptor (F_Tape k).2.2.1 = some (t_Tape k) := by decide +kernel
def R_Band : String := "TownBand"
def F_Band : u_T := fun k => match k with
  | 0 => ("TownBand", "players", "LTownBand$Players;", true)
  | 1 => ("TownBand", "library", "LTownBand$Library;", true)
  | 2 => ("TownBand", "tape", "LTownBand$Tape;", true)
  | 3 => ("TownBand", "contestRule", "LTownBand$Rule;", true)
  | 4 => ("TownBand", "loans", "LTownBand$Loans;", true)
  | 5 => ("TownBand", "cover", "LTownBand$Cover;", true)
  | 6 => ("TownBand", "seater", "LTownBand$Seater;", true)
  | _ => ("TownBand", "planner", "LTownBand$Planner;", true)
def t_Band : Nat → FieldType := fun k => match k with
  | 0 => .object "TownBand$Players"
  | 1 => .object "TownBand$Library"
  | 2 => .object "TownBand$Tape"
  | 3 => .object "TownBand$Rule"
  | 4 => .object "TownBand$Loans"
  | 5 => .object "TownBand$Cover"
  | 6 => .object "TownBand$Seater"
  | _ => .object "TownBand$Planner"
theorem n_Band : ∀ a, a < 8 → ∀ b, b < 8 → a ≠ b → (F_Band a).2.1 ≠ (F_Band b).2.1 := by decide +kernel
theorem t_Band_ok : ∀ k, k < 8 → parseFieldDescriptor (F_Band k).2.2.1 = some (t_Band k) := by decide +kernel
def R_Model : String := "TownBandModel"
def F_Model : u_T := fun k => match k with
  | 0 => ("TownBandModel", "told", "I", false)
  | 1 => ("TownBandModel", "players", "I", false)
  | 2 => ("TownBandModel", "age", "[I", true)
  | 3 => ("TownBandModel", "joined", "[I", true)
  | 4 => ("TownBandModel", "past", "[I", true)
  | 5 => ("TownBandModel", "isHere", "[Z", true)
  | 6 => ("TownBandModel", "costs", "[I", true)
  | 7 => ("TownBandModel", "pieces", "I", false)
  | 8 => ("TownBandModel", "name", "[J", true)
  | 9 => ("TownBandModel", "minutes", "[I", true)
  | 10 => ("TownBandModel", "lips", "[I", true)
  | 11 => ("TownBandModel", "key", "[I", true)
  | 12 => ("TownBandModel", "parts", "[I", true)
  | 13 => ("TownBandModel", "must", "[I", true)
  | 14 => ("TownBandModel", "many", "[I", true)
  | 15 => ("TownBandModel", "which", "[I", true)
  | 16 => ("TownBandModel", "chairs", "[I", true)
  | 17 => ("TownBandModel", "best", "[I", true)
  | 18 => ("TownBandModel", "planLong", "I", false)
  | 19 => ("TownBandModel", "planStrain", "I", false)
  | 20 => ("TownBandModel", "plan", "[I", true)
  | 21 => ("TownBandModel", "left", "[I", true)
  | 22 => ("TownBandModel", "can", "[Z", true)
  | 23 => ("TownBandModel", "isGood", "[Z", true)
  | 24 => ("TownBandModel", "words", "I", false)
  | 25 => ("TownBandModel", "wordCopy", "[I", true)
  | 26 => ("TownBandModel", "wordDay", "[I", true)
  | 27 => ("TownBandModel", "wordThere", "[I", true)
  | 28 => ("TownBandModel", "tape", "[I", true)
  | 29 => ("TownBandModel", "taped", "I", false)
  | 30 => ("TownBandModel", "reads", "I", false)
  | 31 => ("TownBandModel", "from", "I", false)
  | 32 => ("TownBandModel", "token", "I", false)
  | 33 => ("TownBandModel", "number", "I", false)
  | 34 => ("TownBandModel", "letters", "J", false)
  | 35 => ("TownBandModel", "faultKind", "I", false)
  | 36 => ("TownBandModel", "faultPlace", "I", false)
  | 37 => ("TownBandModel", "newPieces", "I", false)
  | 38 => ("TownBandModel", "acts", "I", false)
  | 39 => ("TownBandModel", "act", "[I", true)
  | 40 => ("TownBandModel", "worth", "[I", true)
  | 41 => ("TownBandModel", "newActs", "I", false)
  | 42 => ("TownBandModel", "newAct", "[I", true)
  | 43 => ("TownBandModel", "newWorth", "[I", true)
  | 44 => ("TownBandModel", "waiting", "I", false)
  | 45 => ("TownBandModel", "waits", "[I", true)
  | 46 => ("TownBandModel", "pile", "[I", true)
  | _ => ("TownBandModel", "tokens", "I", false)
def t_Model : Nat → FieldType := fun k => match k with
  | 0 => .int
  | 1 => .int
  | 2 => .array .int
  | 3 => .array .int
  | 4 => .array .int
  | 5 => .array .boolean
  | 6 => .array .int
  | 7 => .int
  | 8 => .array .long
  | 9 => .array .int
  | 10 => .array .int
  | 11 => .array .int
  | 12 => .array .int
  | 13 => .array .int
  | 14 => .array .int
  | 15 => .array .int
  | 16 => .array .int
  | 17 => .array .int
  | 18 => .int
  | 19 => .int
  | 20 => .array .int
  | 21 => .array .int
  | 22 => .array .boolean
  | 23 => .array .boolean
  | 24 => .int
  | 25 => .array .int
  | 26 => .array .int
  | 27 => .array .int
  | 28 => .array .int
  | 29 => .int
  | 30 => .int
  | 31 => .int
  | 32 => .int
  | 33 => .int
  | 34 => .long
  | 35 => .int
  | 36 => .int
  | 37 => .int
  | 38 => .int
  | 39 => .array .int
  | 40 => .array .int
  | 41 => .int
  | 42 => .array .int
  | 43 => .array .int
  | 44 => .int
  | 45 => .array .int
  | 46 => .array .int
  | _ => .int
theorem n_Model : ∀ a, a < 48 → ∀ b, b < 48 → a ≠ b → (F_Model a).2.1 ≠ (F_Model b).2.1 := by decide +kernel
theorem t_Model_ok : ∀ k, k < 48 → parseFieldDescriptor (F_Model k).2.2.1 = some (t_Model k) := by decide +kernel
def R_Integer : String := "java/lang/Integer"
def R_Math : String := "java/lang/Math"
def R_String : String := "java/lang/String"
def R_Latin : String := "java/lang/StringLatin1"
def R_Utf : String := "java/lang/StringUTF16"
def R_Arrays : String := "java/util/Arrays"
def R_Pre : String := "jdk/internal/util/Preconditions"
def R_Law : String := "TownBandLaw"
abbrev b_Cover_init : ByteArray := prog_2_method_1_code
def y_Cover_init : MethodName := ⟨R_Cover, "<init>", "()V"⟩
abbrev b_Cover_coversMust : ByteArray := prog_2_method_2_code
def y_Cover_coversMust : MethodName := ⟨R_Cover, "coversMust", "(LTownBand$Piece;LTownBand$Players;)Z"⟩
abbrev b_Cover_findAble : ByteArray := prog_2_method_3_code
def y_Cover_findAble : MethodName := ⟨R_Cover, "findAble", "(LTownBand$Piece;LTownBand$Players;)V"⟩
abbrev b_Cover_findPlayer : ByteArray := prog_2_method_4_code
def y_Cover_findPlayer : MethodName := ⟨R_Cover, "findPlayer", "(II)Z"⟩
abbrev b_Cover_leastLack : ByteArray := prog_2_method_5_code
def y_Cover_leastLack : MethodName := ⟨R_Cover, "leastLack", "(LTownBand$Piece;LTownBand$Players;)I"⟩
abbrev b_Library_init : ByteArray := prog_3_method_1_code
def y_Library_init : MethodName := ⟨R_Library, "<init>", "()V"⟩
abbrev b_Library_find : ByteArray := prog_3_method_2_code
def y_Library_find : MethodName := ⟨R_Library, "find", "(I)LTownBand$Piece;"⟩
abbrev b_Library_readText : ByteArray := prog_3_method_3_code
def y_Library_readText : MethodName := ⟨R_Library, "readText", "(LTownBand$Tape;)Z"⟩
abbrev b_Library_readPiece : ByteArray := prog_3_method_4_code
def y_Library_readPiece : MethodName := ⟨R_Library, "readPiece", "(LTownBand$Tape;)V"⟩
abbrev b_Library_readName : ByteArray := prog_3_method_5_code
def y_Library_readName : MethodName := ⟨R_Library, "readName", "(LTownBand$Tape;)I"⟩
abbrev b_Library_isWord : ByteArray := prog_3_method_6_code
def y_Library_isWord : MethodName := ⟨R_Library, "isWord", "(LTownBand$Tape;)Z"⟩
abbrev b_Library_hasName : ByteArray := prog_3_method_7_code
def y_Library_hasName : MethodName := ⟨R_Library, "hasName", "(I)Z"⟩
abbrev b_Library_readNumber : ByteArray := prog_3_method_8_code
def y_Library_readNumber : MethodName := ⟨R_Library, "readNumber", "(LTownBand$Tape;II)I"⟩
abbrev b_Library_readPart : ByteArray := prog_3_method_9_code
def y_Library_readPart : MethodName := ⟨R_Library, "readPart", "(LTownBand$Tape;LTownBand$Piece;)V"⟩
abbrev b_Library_readInstrument : ByteArray := prog_3_method_10_code
def y_Library_readInstrument : MethodName := ⟨R_Library, "readInstrument", "(LTownBand$Tape;LTownBand$Piece;I)V"⟩
abbrev b_Loans_init : ByteArray := prog_4_method_1_code
def y_Loans_init : MethodName := ⟨R_Loans, "<init>", "()V"⟩
abbrev b_Loans_note : ByteArray := prog_4_method_2_code
def y_Loans_note : MethodName := ⟨R_Loans, "note", "(III)I"⟩
abbrev b_Loans_placeOf : ByteArray := prog_4_method_3_code
def y_Loans_placeOf : MethodName := ⟨R_Loans, "placeOf", "(III)I"⟩
abbrev b_Loans_copiesAt : ByteArray := prog_4_method_4_code
def y_Loans_copiesAt : MethodName := ⟨R_Loans, "copiesAt", "(III)I"⟩
abbrev b_Loans_settle : ByteArray := prog_4_method_5_code
def y_Loans_settle : MethodName := ⟨R_Loans, "settle", "(II)V"⟩
abbrev b_Piece_init : ByteArray := prog_5_method_1_code
def y_Piece_init : MethodName := ⟨R_Piece, "<init>", "()V"⟩
abbrev b_Piece_clear : ByteArray := prog_5_method_2_code
def y_Piece_clear : MethodName := ⟨R_Piece, "clear", "()V"⟩
abbrev b_Piece_hasPart : ByteArray := prog_5_method_3_code
def y_Piece_hasPart : MethodName := ⟨R_Piece, "hasPart", "(I)Z"⟩
abbrev b_Piece_isMust : ByteArray := prog_5_method_4_code
def y_Piece_isMust : MethodName := ⟨R_Piece, "isMust", "(I)Z"⟩
abbrev b_Piece_addPart : ByteArray := prog_5_method_5_code
def y_Piece_addPart : MethodName := ⟨R_Piece, "addPart", "(Z)V"⟩
abbrev b_Piece_instrument : ByteArray := prog_5_method_6_code
def y_Piece_instrument : MethodName := ⟨R_Piece, "instrument", "(II)I"⟩
abbrev b_Piece_hasInstrument : ByteArray := prog_5_method_7_code
def y_Piece_hasInstrument : MethodName := ⟨R_Piece, "hasInstrument", "(II)Z"⟩
abbrev b_Piece_addInstrument : ByteArray := prog_5_method_8_code
def y_Piece_addInstrument : MethodName := ⟨R_Piece, "addInstrument", "(II)V"⟩
abbrev b_Piece_detail : ByteArray := prog_5_method_9_code
def y_Piece_detail : MethodName := ⟨R_Piece, "detail", "(I)I"⟩
abbrev b_Piece_partDetail : ByteArray := prog_5_method_10_code
def y_Piece_partDetail : MethodName := ⟨R_Piece, "partDetail", "(I)I"⟩
abbrev b_Piece_seated : ByteArray := prog_5_method_11_code
def y_Piece_seated : MethodName := ⟨R_Piece, "seated", "()I"⟩
abbrev b_Piece_seatsElsewhere : ByteArray := prog_5_method_12_code
def y_Piece_seatsElsewhere : MethodName := ⟨R_Piece, "seatsElsewhere", "(II)Z"⟩
abbrev b_Planner_init : ByteArray := prog_6_method_1_code
def y_Planner_init : MethodName := ⟨R_Planner, "<init>", "()V"⟩
abbrev b_Planner_forgetChoices : ByteArray := prog_6_method_2_code
def y_Planner_forgetChoices : MethodName := ⟨R_Planner, "forgetChoices", "()V"⟩
abbrev b_Planner_offer : ByteArray := prog_6_method_3_code
def y_Planner_offer : MethodName := ⟨R_Planner, "offer", "(ILTownBand$Piece;)V"⟩
abbrev b_Planner_arrange : ByteArray := prog_6_method_4_code
def y_Planner_arrange : MethodName := ⟨R_Planner, "arrange", "(II)I"⟩
abbrev b_Planner_minutesOf : ByteArray := prog_6_method_5_code
def y_Planner_minutesOf : MethodName := ⟨R_Planner, "minutesOf", "(I)I"⟩
abbrev b_Planner_fillSet : ByteArray := prog_6_method_6_code
def y_Planner_fillSet : MethodName := ⟨R_Planner, "fillSet", "(IZI)J"⟩
abbrev b_Planner_bestEndingWith : ByteArray := prog_6_method_7_code
def y_Planner_bestEndingWith : MethodName := ⟨R_Planner, "bestEndingWith", "(III)J"⟩
abbrev b_Planner_keyGap : ByteArray := prog_6_method_8_code
def y_Planner_keyGap : MethodName := ⟨R_Planner, "keyGap", "(II)I"⟩
abbrev b_Planner_keepRow : ByteArray := prog_6_method_9_code
def y_Planner_keepRow : MethodName := ⟨R_Planner, "keepRow", "(IJ)V"⟩
abbrev b_Players_init : ByteArray := prog_7_method_1_code
def y_Players_init : MethodName := ⟨R_Players, "<init>", "()V"⟩
abbrev b_Players_has : ByteArray := prog_7_method_2_code
def y_Players_has : MethodName := ⟨R_Players, "has", "(I)Z"⟩
abbrev b_Players_join : ByteArray := prog_7_method_3_code
def y_Players_join : MethodName := ⟨R_Players, "join", "(II)I"⟩
abbrev b_Players_learn : ByteArray := prog_7_method_4_code
def y_Players_learn : MethodName := ⟨R_Players, "learn", "(III)V"⟩
abbrev b_Players_costOf : ByteArray := prog_7_method_5_code
def y_Players_costOf : MethodName := ⟨R_Players, "costOf", "(II)I"⟩
abbrev b_Players_mark : ByteArray := prog_7_method_6_code
def y_Players_mark : MethodName := ⟨R_Players, "mark", "(IZ)V"⟩
abbrev b_Players_isPresent : ByteArray := prog_7_method_7_code
def y_Players_isPresent : MethodName := ⟨R_Players, "isPresent", "(I)Z"⟩
abbrev b_Players_compete : ByteArray := prog_7_method_8_code
def y_Players_compete : MethodName := ⟨R_Players, "compete", "(I)I"⟩
abbrev b_Players_partCost : ByteArray := prog_7_method_9_code
def y_Players_partCost : MethodName := ⟨R_Players, "partCost", "(ILTownBand$Piece;I)I"⟩
abbrev b_Players_presentFor : ByteArray := prog_7_method_10_code
def y_Players_presentFor : MethodName := ⟨R_Players, "presentFor", "(LTownBand$Piece;I)I"⟩
abbrev b_Players_seatingCost : ByteArray := prog_7_method_11_code
def y_Players_seatingCost : MethodName := ⟨R_Players, "seatingCost", "(LTownBand$Piece;)I"⟩
abbrev b_Players_seatedButAway : ByteArray := prog_7_method_12_code
def y_Players_seatedButAway : MethodName := ⟨R_Players, "seatedButAway", "(LTownBand$Piece;)I"⟩
abbrev b_Rule_init : ByteArray := prog_8_method_1_code
def y_Rule_init : MethodName := ⟨R_Rule, "<init>", "()V"⟩
abbrev b_Rule_beginDraft : ByteArray := prog_8_method_2_code
def y_Rule_beginDraft : MethodName := ⟨R_Rule, "beginDraft", "()V"⟩
abbrev b_Rule_adoptDraft : ByteArray := prog_8_method_3_code
def y_Rule_adoptDraft : MethodName := ⟨R_Rule, "adoptDraft", "()V"⟩
abbrev b_Rule_readEither : ByteArray := prog_8_method_4_code
def y_Rule_readEither : MethodName := ⟨R_Rule, "readEither", "(LTownBand$Tape;I)V"⟩
abbrev b_Rule_readBoth : ByteArray := prog_8_method_5_code
def y_Rule_readBoth : MethodName := ⟨R_Rule, "readBoth", "(LTownBand$Tape;I)V"⟩
abbrev b_Rule_readOne : ByteArray := prog_8_method_6_code
def y_Rule_readOne : MethodName := ⟨R_Rule, "readOne", "(LTownBand$Tape;I)V"⟩
abbrev b_Rule_readComparison : ByteArray := prog_8_method_7_code
def y_Rule_readComparison : MethodName := ⟨R_Rule, "readComparison", "(LTownBand$Tape;)V"⟩
abbrev b_Rule_readSum : ByteArray := prog_8_method_8_code
def y_Rule_readSum : MethodName := ⟨R_Rule, "readSum", "(LTownBand$Tape;)V"⟩
abbrev b_Rule_readValue : ByteArray := prog_8_method_9_code
def y_Rule_readValue : MethodName := ⟨R_Rule, "readValue", "(LTownBand$Tape;)V"⟩
abbrev b_Rule_write : ByteArray := prog_8_method_10_code
def y_Rule_write : MethodName := ⟨R_Rule, "write", "(I)V"⟩
abbrev b_Rule_setPlayer : ByteArray := prog_8_method_11_code
def y_Rule_setPlayer : MethodName := ⟨R_Rule, "setPlayer", "(III)V"⟩
abbrev b_Rule_setDay : ByteArray := prog_8_method_12_code
def y_Rule_setDay : MethodName := ⟨R_Rule, "setDay", "(II)V"⟩
abbrev b_Rule_allows : ByteArray := prog_8_method_13_code
def y_Rule_allows : MethodName := ⟨R_Rule, "allows", "()Z"⟩
abbrev b_Rule_work : ByteArray := prog_8_method_14_code
def y_Rule_work : MethodName := ⟨R_Rule, "work", "(I)V"⟩
abbrev b_Rule_join : ByteArray := prog_8_method_15_code
def y_Rule_join : MethodName := ⟨R_Rule, "join", "(III)I"⟩
abbrev b_Rule_push : ByteArray := prog_8_method_16_code
def y_Rule_push : MethodName := ⟨R_Rule, "push", "(I)V"⟩
abbrev b_Rule_pop : ByteArray := prog_8_method_17_code
def y_Rule_pop : MethodName := ⟨R_Rule, "pop", "()I"⟩
abbrev b_Seater_init : ByteArray := prog_9_method_1_code
def y_Seater_init : MethodName := ⟨R_Seater, "<init>", "()V"⟩
abbrev b_Seater_seatAnew : ByteArray := prog_9_method_2_code
def y_Seater_seatAnew : MethodName := ⟨R_Seater, "seatAnew", "(LTownBand$Piece;LTownBand$Players;)V"⟩
abbrev b_Seater_seatWithFewestChanges : ByteArray := prog_9_method_3_code
def y_Seater_seatWithFewestChanges : MethodName := ⟨R_Seater, "seatWithFewestChanges", "(LTownBand$Piece;LTownBand$Players;)I"⟩
abbrev b_Seater_weigh : ByteArray := prog_9_method_4_code
def y_Seater_weigh : MethodName := ⟨R_Seater, "weigh", "(IIJ)V"⟩
abbrev b_Seater_weighEmpty : ByteArray := prog_9_method_5_code
def y_Seater_weighEmpty : MethodName := ⟨R_Seater, "weighEmpty", "(LTownBand$Piece;LTownBand$Players;IJ)V"⟩
abbrev b_Seater_match : ByteArray := prog_9_method_6_code
def y_Seater_match : MethodName := ⟨R_Seater, "match", "(II)V"⟩
abbrev b_Seater_placeRow : ByteArray := prog_9_method_7_code
def y_Seater_placeRow : MethodName := ⟨R_Seater, "placeRow", "(I)V"⟩
abbrev b_Seater_nearestColumn : ByteArray := prog_9_method_8_code
def y_Seater_nearestColumn : MethodName := ⟨R_Seater, "nearestColumn", "(II)I"⟩
abbrev b_Seater_shiftPrices : ByteArray := prog_9_method_9_code
def y_Seater_shiftPrices : MethodName := ⟨R_Seater, "shiftPrices", "(IJ)V"⟩
abbrev b_Seater_takeChairs : ByteArray := prog_9_method_10_code
def y_Seater_takeChairs : MethodName := ⟨R_Seater, "takeChairs", "(LTownBand$Piece;I)I"⟩
abbrev b_Tape_init : ByteArray := prog_10_method_1_code
def y_Tape_init : MethodName := ⟨R_Tape, "<init>", "()V"⟩
abbrev b_Tape_hasRoom : ByteArray := prog_10_method_2_code
def y_Tape_hasRoom : MethodName := ⟨R_Tape, "hasRoom", "()Z"⟩
abbrev b_Tape_append : ByteArray := prog_10_method_3_code
def y_Tape_append : MethodName := ⟨R_Tape, "append", "(I)V"⟩
abbrev b_Tape_begin : ByteArray := prog_10_method_4_code
def y_Tape_begin : MethodName := ⟨R_Tape, "begin", "(I)V"⟩
abbrev b_Tape_finish : ByteArray := prog_10_method_5_code
def y_Tape_finish : MethodName := ⟨R_Tape, "finish", "()Z"⟩
abbrev b_Tape_fail : ByteArray := prog_10_method_6_code
def y_Tape_fail : MethodName := ⟨R_Tape, "fail", "(I)V"⟩
abbrev b_Tape_advance : ByteArray := prog_10_method_7_code
def y_Tape_advance : MethodName := ⟨R_Tape, "advance", "()V"⟩
abbrev b_Tape_take : ByteArray := prog_10_method_8_code
def y_Tape_take : MethodName := ⟨R_Tape, "take", "(I)V"⟩
abbrev b_Tape_reads : ByteArray := prog_10_method_9_code
def y_Tape_reads : MethodName := ⟨R_Tape, "reads", "(Ljava/lang/String;)Z"⟩
abbrev b_Band_init : ByteArray := prog_1_method_1_code
def y_Band_init : MethodName := ⟨R_Band, "<init>", "()V"⟩
abbrev b_Band_player : ByteArray := prog_1_method_2_code
def y_Band_player : MethodName := ⟨R_Band, "player", "(II)I"⟩
abbrev b_Band_plays : ByteArray := prog_1_method_3_code
def y_Band_plays : MethodName := ⟨R_Band, "plays", "(III)Z"⟩
abbrev b_Band_cost : ByteArray := prog_1_method_4_code
def y_Band_cost : MethodName := ⟨R_Band, "cost", "(II)I"⟩
abbrev b_Band_here : ByteArray := prog_1_method_5_code
def y_Band_here : MethodName := ⟨R_Band, "here", "(IZ)Z"⟩
abbrev b_Band_feed : ByteArray := prog_1_method_6_code
def y_Band_feed : MethodName := ⟨R_Band, "feed", "(IIIII)I"⟩
abbrev b_Band_end : ByteArray := prog_1_method_7_code
def y_Band_end : MethodName := ⟨R_Band, "end", "(I)I"⟩
abbrev b_Band_load : ByteArray := prog_1_method_8_code
def y_Band_load : MethodName := ⟨R_Band, "load", "()I"⟩
abbrev b_Band_rule : ByteArray := prog_1_method_9_code
def y_Band_rule : MethodName := ⟨R_Band, "rule", "()I"⟩
abbrev b_Band_fault : ByteArray := prog_1_method_10_code
def y_Band_fault : MethodName := ⟨R_Band, "fault", "(I)I"⟩
abbrev b_Band_piece : ByteArray := prog_1_method_11_code
def y_Band_piece : MethodName := ⟨R_Band, "piece", "(II)I"⟩
abbrev b_Band_playable : ByteArray := prog_1_method_12_code
def y_Band_playable : MethodName := ⟨R_Band, "playable", "(I)I"⟩
abbrev b_Band_lacks : ByteArray := prog_1_method_13_code
def y_Band_lacks : MethodName := ⟨R_Band, "lacks", "(I)I"⟩
abbrev b_Band_seat : ByteArray := prog_1_method_14_code
def y_Band_seat : MethodName := ⟨R_Band, "seat", "(I)I"⟩
abbrev b_Band_again : ByteArray := prog_1_method_15_code
def y_Band_again : MethodName := ⟨R_Band, "again", "(I)I"⟩
abbrev b_Band_chair : ByteArray := prog_1_method_16_code
def y_Band_chair : MethodName := ⟨R_Band, "chair", "(II)I"⟩
abbrev b_Band_sit : ByteArray := prog_1_method_17_code
def y_Band_sit : MethodName := ⟨R_Band, "sit", "(III)Z"⟩
abbrev b_Band_seating : ByteArray := prog_1_method_18_code
def y_Band_seating : MethodName := ⟨R_Band, "seating", "(II)I"⟩
abbrev b_Band_programme : ByteArray := prog_1_method_19_code
def y_Band_programme : MethodName := ⟨R_Band, "programme", "(II)I"⟩
abbrev b_Band_plan : ByteArray := prog_1_method_20_code
def y_Band_plan : MethodName := ⟨R_Band, "plan", "(I)I"⟩
abbrev b_Band_strain : ByteArray := prog_1_method_21_code
def y_Band_strain : MethodName := ⟨R_Band, "strain", "()I"⟩
abbrev b_Band_tell : ByteArray := prog_1_method_22_code
def y_Band_tell : MethodName := ⟨R_Band, "tell", "(III)I"⟩
abbrev b_Band_where : ByteArray := prog_1_method_23_code
def y_Band_where : MethodName := ⟨R_Band, "where", "(III)I"⟩
abbrev b_Band_copies : ByteArray := prog_1_method_24_code
def y_Band_copies : MethodName := ⟨R_Band, "copies", "(III)I"⟩
abbrev b_Band_contest : ByteArray := prog_1_method_25_code
def y_Band_contest : MethodName := ⟨R_Band, "contest", "(I)I"⟩
abbrev b_Band_may : ByteArray := prog_1_method_26_code
def y_Band_may : MethodName := ⟨R_Band, "may", "(II)I"⟩
abbrev b_Band_count : ByteArray := prog_1_method_27_code
def y_Band_count : MethodName := ⟨R_Band, "count", "(I)I"⟩
abbrev b_Band_playablePieces : ByteArray := prog_1_method_28_code
def y_Band_playablePieces : MethodName := ⟨R_Band, "playablePieces", "()I"⟩
abbrev b_Band_isPlace : ByteArray := prog_1_method_29_code
def y_Band_isPlace : MethodName := ⟨R_Band, "isPlace", "(I)Z"⟩
abbrev b_Band_isWithin : ByteArray := prog_1_method_30_code
def y_Band_isWithin : MethodName := ⟨R_Band, "isWithin", "(III)Z"⟩
abbrev b_Band_isDay : ByteArray := prog_1_method_31_code
def y_Band_isDay : MethodName := ⟨R_Band, "isDay", "(I)Z"⟩
abbrev b_Band_isInstrument : ByteArray := prog_1_method_32_code
def y_Band_isInstrument : MethodName := ⟨R_Band, "isInstrument", "(I)Z"⟩
abbrev b_Band_isCopy : ByteArray := prog_1_method_33_code
def y_Band_isCopy : MethodName := ⟨R_Band, "isCopy", "(I)Z"⟩
abbrev b_Model_init : ByteArray := prog_12_method_1_code
def y_Model_init : MethodName := ⟨R_Model, "<init>", "()V"⟩
abbrev b_Model_isPlayer : ByteArray := prog_12_method_3_code
def y_Model_isPlayer : MethodName := ⟨R_Model, "isPlayer", "(I)Z"⟩
abbrev b_Model_player : ByteArray := prog_12_method_4_code
def y_Model_player : MethodName := ⟨R_Model, "player", "(II)I"⟩
abbrev b_Model_isInstrument : ByteArray := prog_12_method_5_code
def y_Model_isInstrument : MethodName := ⟨R_Model, "isInstrument", "(I)Z"⟩
abbrev b_Model_plays : ByteArray := prog_12_method_6_code
def y_Model_plays : MethodName := ⟨R_Model, "plays", "(III)Z"⟩
abbrev b_Model_cost : ByteArray := prog_12_method_7_code
def y_Model_cost : MethodName := ⟨R_Model, "cost", "(II)I"⟩
abbrev b_Model_here : ByteArray := prog_12_method_8_code
def y_Model_here : MethodName := ⟨R_Model, "here", "(IZ)Z"⟩
abbrev b_Model_isPiece : ByteArray := prog_12_method_9_code
def y_Model_isPiece : MethodName := ⟨R_Model, "isPiece", "(I)Z"⟩
abbrev b_Model_costOf : ByteArray := prog_12_method_10_code
def y_Model_costOf : MethodName := ⟨R_Model, "costOf", "(III)I"⟩
abbrev b_Model_isMust : ByteArray := prog_12_method_11_code
def y_Model_isMust : MethodName := ⟨R_Model, "isMust", "(II)Z"⟩
abbrev b_Model_piece : ByteArray := prog_12_method_12_code
def y_Model_piece : MethodName := ⟨R_Model, "piece", "(II)I"⟩
abbrev b_Model_ones : ByteArray := prog_12_method_13_code
def y_Model_ones : MethodName := ⟨R_Model, "ones", "(I)I"⟩
abbrev b_Model_lacking : ByteArray := prog_12_method_14_code
def y_Model_lacking : MethodName := ⟨R_Model, "lacking", "(I)I"⟩
abbrev b_Model_playable : ByteArray := prog_12_method_15_code
def y_Model_playable : MethodName := ⟨R_Model, "playable", "(I)I"⟩
abbrev b_Model_lacks : ByteArray := prog_12_method_16_code
def y_Model_lacks : MethodName := ⟨R_Model, "lacks", "(I)I"⟩
abbrev b_Model_counts : ByteArray := prog_12_method_17_code
def y_Model_counts : MethodName := ⟨R_Model, "counts", "(IIIZ)I"⟩
abbrev b_Model_mayBe : ByteArray := prog_12_method_18_code
def y_Model_mayBe : MethodName := ⟨R_Model, "mayBe", "(III)Z"⟩
abbrev b_Model_finds : ByteArray := prog_12_method_19_code
def y_Model_finds : MethodName := ⟨R_Model, "finds", "(IZ)V"⟩
abbrev b_Model_seats : ByteArray := prog_12_method_20_code
def y_Model_seats : MethodName := ⟨R_Model, "seats", "(IZ)I"⟩
abbrev b_Model_fits : ByteArray := prog_12_method_21_code
def y_Model_fits : MethodName := ⟨R_Model, "fits", "(IIIIZ)Z"⟩
abbrev b_Model_seat : ByteArray := prog_12_method_22_code
def y_Model_seat : MethodName := ⟨R_Model, "seat", "(I)I"⟩
abbrev b_Model_again : ByteArray := prog_12_method_23_code
def y_Model_again : MethodName := ⟨R_Model, "again", "(I)I"⟩
abbrev b_Model_isPart : ByteArray := prog_12_method_24_code
def y_Model_isPart : MethodName := ⟨R_Model, "isPart", "(II)Z"⟩
abbrev b_Model_chair : ByteArray := prog_12_method_25_code
def y_Model_chair : MethodName := ⟨R_Model, "chair", "(II)I"⟩
abbrev b_Model_sit : ByteArray := prog_12_method_26_code
def y_Model_sit : MethodName := ⟨R_Model, "sit", "(III)Z"⟩
abbrev b_Model_seating : ByteArray := prog_12_method_27_code
def y_Model_seating : MethodName := ⟨R_Model, "seating", "(II)I"⟩
abbrev b_Model_sumOf : ByteArray := prog_12_method_28_code
def y_Model_sumOf : MethodName := ⟨R_Model, "sumOf", "(I)I"⟩
abbrev b_Model_strainOf : ByteArray := prog_12_method_29_code
def y_Model_strainOf : MethodName := ⟨R_Model, "strainOf", "(II)I"⟩
abbrev b_Model_goes : ByteArray := prog_12_method_30_code
def y_Model_goes : MethodName := ⟨R_Model, "goes", "(IIII)Z"⟩
abbrev b_Model_programme : ByteArray := prog_12_method_31_code
def y_Model_programme : MethodName := ⟨R_Model, "programme", "(II)I"⟩
abbrev b_Model_plan : ByteArray := prog_12_method_32_code
def y_Model_plan : MethodName := ⟨R_Model, "plan", "(I)I"⟩
abbrev b_Model_strain : ByteArray := prog_12_method_33_code
def y_Model_strain : MethodName := ⟨R_Model, "strain", "()I"⟩
abbrev b_Model_isDay : ByteArray := prog_12_method_34_code
def y_Model_isDay : MethodName := ⟨R_Model, "isDay", "(I)Z"⟩
abbrev b_Model_isThere : ByteArray := prog_12_method_35_code
def y_Model_isThere : MethodName := ⟨R_Model, "isThere", "(I)Z"⟩
abbrev b_Model_tell : ByteArray := prog_12_method_36_code
def y_Model_tell : MethodName := ⟨R_Model, "tell", "(III)I"⟩
abbrev b_Model_whereIs : ByteArray := prog_12_method_37_code
def y_Model_whereIs : MethodName := ⟨R_Model, "whereIs", "(III)I"⟩
abbrev b_Model_where : ByteArray := prog_12_method_38_code
def y_Model_where : MethodName := ⟨R_Model, "where", "(III)I"⟩
abbrev b_Model_copiesAt : ByteArray := prog_12_method_39_code
def y_Model_copiesAt : MethodName := ⟨R_Model, "copiesAt", "(III)I"⟩
abbrev b_Model_copies : ByteArray := prog_12_method_40_code
def y_Model_copies : MethodName := ⟨R_Model, "copies", "(III)I"⟩
abbrev b_Model_contest : ByteArray := prog_12_method_41_code
def y_Model_contest : MethodName := ⟨R_Model, "contest", "(I)I"⟩
abbrev b_Model_count : ByteArray := prog_12_method_42_code
def y_Model_count : MethodName := ⟨R_Model, "count", "(I)I"⟩
abbrev b_Model_lay : ByteArray := prog_12_method_43_code
def y_Model_lay : MethodName := ⟨R_Model, "lay", "(I)V"⟩
abbrev b_Model_feed : ByteArray := prog_12_method_44_code
def y_Model_feed : MethodName := ⟨R_Model, "feed", "(IIIII)I"⟩
abbrev b_Model_end : ByteArray := prog_12_method_45_code
def y_Model_end : MethodName := ⟨R_Model, "end", "(I)I"⟩
abbrev b_Model_fault : ByteArray := prog_12_method_46_code
def y_Model_fault : MethodName := ⟨R_Model, "fault", "(I)I"⟩
abbrev b_Model_raw : ByteArray := prog_12_method_47_code
def y_Model_raw : MethodName := ⟨R_Model, "raw", "()I"⟩
abbrev b_Model_isSmall : ByteArray := prog_12_method_48_code
def y_Model_isSmall : MethodName := ⟨R_Model, "isSmall", "(I)Z"⟩
abbrev b_Model_isDigit : ByteArray := prog_12_method_49_code
def y_Model_isDigit : MethodName := ⟨R_Model, "isDigit", "(I)Z"⟩
abbrev b_Model_word : ByteArray := prog_12_method_50_code
def y_Model_word : MethodName := ⟨R_Model, "word", "(IIIII)J"⟩
abbrev b_Model_isWordOf : ByteArray := prog_12_method_51_code
def y_Model_isWordOf : MethodName := ⟨R_Model, "isWordOf", "(Z)Z"⟩
abbrev b_Model_isSignOf : ByteArray := prog_12_method_52_code
def y_Model_isSignOf : MethodName := ⟨R_Model, "isSignOf", "(IZ)Z"⟩
abbrev b_Model_next : ByteArray := prog_12_method_53_code
def y_Model_next : MethodName := ⟨R_Model, "next", "(Z)V"⟩
abbrev b_Model_fails : ByteArray := prog_12_method_54_code
def y_Model_fails : MethodName := ⟨R_Model, "fails", "(I)Z"⟩
abbrev b_Model_isWord : ByteArray := prog_12_method_55_code
def y_Model_isWord : MethodName := ⟨R_Model, "isWord", "(IIIII)Z"⟩
abbrev b_Model_isSign : ByteArray := prog_12_method_56_code
def y_Model_isSign : MethodName := ⟨R_Model, "isSign", "(I)Z"⟩
abbrev b_Model_takes : ByteArray := prog_12_method_57_code
def y_Model_takes : MethodName := ⟨R_Model, "takes", "(II)Z"⟩
abbrev b_Model_readPiece : ByteArray := prog_12_method_58_code
def y_Model_readPiece : MethodName := ⟨R_Model, "readPiece", "()Z"⟩
abbrev b_Model_readPart : ByteArray := prog_12_method_59_code
def y_Model_readPart : MethodName := ⟨R_Model, "readPart", "(I)Z"⟩
abbrev b_Model_readText : ByteArray := prog_12_method_60_code
def y_Model_readText : MethodName := ⟨R_Model, "readText", "()Z"⟩
abbrev b_Model_load : ByteArray := prog_12_method_61_code
def y_Model_load : MethodName := ⟨R_Model, "load", "()I"⟩
abbrev b_Model_does : ByteArray := prog_12_method_62_code
def y_Model_does : MethodName := ⟨R_Model, "does", "(II)V"⟩
abbrev b_Model_rank : ByteArray := prog_12_method_63_code
def y_Model_rank : MethodName := ⟨R_Model, "rank", "(I)I"⟩
abbrev b_Model_settles : ByteArray := prog_12_method_64_code
def y_Model_settles : MethodName := ⟨R_Model, "settles", "(I)V"⟩
abbrev b_Model_open : ByteArray := prog_12_method_65_code
def y_Model_open : MethodName := ⟨R_Model, "open", "()I"⟩
abbrev b_Model_value : ByteArray := prog_12_method_66_code
def y_Model_value : MethodName := ⟨R_Model, "value", "()Z"⟩
abbrev b_Model_step : ByteArray := prog_12_method_67_code
def y_Model_step : MethodName := ⟨R_Model, "step", "()V"⟩
abbrev b_Model_readSums : ByteArray := prog_12_method_68_code
def y_Model_readSums : MethodName := ⟨R_Model, "readSums", "()Z"⟩
abbrev b_Model_readRule : ByteArray := prog_12_method_69_code
def y_Model_readRule : MethodName := ⟨R_Model, "readRule", "()Z"⟩
abbrev b_Model_rule : ByteArray := prog_12_method_70_code
def y_Model_rule : MethodName := ⟨R_Model, "rule", "()I"⟩
abbrev b_Model_done : ByteArray := prog_12_method_71_code
def y_Model_done : MethodName := ⟨R_Model, "done", "(III)I"⟩
abbrev b_Model_may : ByteArray := prog_12_method_72_code
def y_Model_may : MethodName := ⟨R_Model, "may", "(II)I"⟩
abbrev b_Integer_bitCount : ByteArray := prog_13_method_49_code
def y_Integer_bitCount : MethodName := ⟨R_Integer, "bitCount", "(I)I"⟩
abbrev b_Math_abs : ByteArray := prog_14_method_59_code
def y_Math_abs : MethodName := ⟨R_Math, "abs", "(I)I"⟩
abbrev b_Math_max : ByteArray := prog_14_method_65_code
def y_Math_max : MethodName := ⟨R_Math, "max", "(II)I"⟩
abbrev b_Math_min : ByteArray := prog_14_method_69_code
def y_Math_min : MethodName := ⟨R_Math, "min", "(II)I"⟩
abbrev b_Math_minL : ByteArray := prog_14_method_70_code
def y_Math_minL : MethodName := ⟨R_Math, "min", "(JJ)J"⟩
abbrev b_String_length : ByteArray := prog_15_method_54_code
def y_String_length : MethodName := ⟨R_String, "length", "()I"⟩
abbrev b_String_charAt : ByteArray := prog_15_method_56_code
def y_String_charAt : MethodName := ⟨R_String, "charAt", "(I)C"⟩
abbrev b_String_coder : ByteArray := prog_15_method_152_code
def y_String_coder : MethodName := ⟨R_String, "coder", "()B"⟩
abbrev b_String_isLatin1 : ByteArray := prog_15_method_154_code
def y_String_isLatin1 : MethodName := ⟨R_String, "isLatin1", "()Z"⟩
abbrev b_String_checkIndex : ByteArray := prog_15_method_155_code
def y_String_checkIndex : MethodName := ⟨R_String, "checkIndex", "(II)V"⟩
abbrev b_Latin_charAt : ByteArray := prog_16_method_2_code
def y_Latin_charAt : MethodName := ⟨R_Latin, "charAt", "([BI)C"⟩
abbrev b_Utf_getChar : ByteArray := prog_17_method_5_code
def y_Utf_getChar : MethodName := ⟨R_Utf, "getChar", "([BI)C"⟩
abbrev b_Utf_length : ByteArray := prog_17_method_6_code
def y_Utf_length : MethodName := ⟨R_Utf, "length", "([B)I"⟩
abbrev b_Utf_charAt : ByteArray := prog_17_method_83_code
def y_Utf_charAt : MethodName := ⟨R_Utf, "charAt", "([BI)C"⟩
abbrev b_Utf_checkIndex : ByteArray := prog_17_method_91_code
def y_Utf_checkIndex : MethodName := ⟨R_Utf, "checkIndex", "(I[B)V"⟩
abbrev b_Arrays_fillL : ByteArray := prog_18_method_101_code
def y_Arrays_fillL : MethodName := ⟨R_Arrays, "fill", "([JJ)V"⟩
abbrev b_Arrays_fillI : ByteArray := prog_18_method_103_code
def y_Arrays_fillI : MethodName := ⟨R_Arrays, "fill", "([II)V"⟩
abbrev b_Pre_checkIndex : ByteArray := prog_19_method_11_code
def y_Pre_checkIndex : MethodName := ⟨R_Pre, "checkIndex", "(IILjava/util/function/BiFunction;)I"⟩
abbrev b_Law_law : ByteArray := code
def y_Law_law : MethodName := ⟨R_Law, "law", "([I)Z"⟩
end
section
theorem d_Cover_init_0 : decode b_Cover_init 0 = .ok (.aload_n 0, 1) := by decide +kernel
theorem d_Cover_init_1 : decode b_Cover_init 1 = .ok (.invokespecial 3, 3) := by decide +kernel
theorem d_Cover_init_4 : decode b_Cover_init 4 = .ok (.aload_n 0, 1) := by decide +kernel
theorem d_Cover_init_5 : decode b_Cover_init 5 = .ok (.bipush 10, 2) := by decide +kernel
theorem d_Cover_init_7 : decode b_Cover_init 7 = .ok (.newarray .int, 2) := by decide +kernel
theorem d_Cover_init_9 : decode b_Cover_init 9 = .ok (.putfield 9, 3) := by decide +kernel
theorem d_Cover_init_12 : decode b_Cover_init 12 = .ok (.aload_n 0, 1) := by decide +kernel
theorem d_Cover_init_13 : decode b_Cover_init 13 = .ok (.bipush 14, 2) := by decide +kernel
theorem d_Cover_init_15 : decode b_Cover_init 15 = .ok (.newarray .int, 2) := by decide +kernel
theorem d_Cover_init_17 : decode b_Cover_init 17 = .ok (.putfield 15, 3) := by decide +kernel
theorem d_Cover_init_20 : decode b_Cover_init 20 = .ok (.aload_n 0, 1) := by decide +kernel
theorem d_Cover_init_21 : decode b_Cover_init 21 = .ok (.sipush 1024, 3) := by decide +kernel
theorem d_Cover_init_24 : decode b_Cover_init 24 = .ok (.newarray .int, 2) := by decide +kernel
theorem d_Cover_init_26 : decode b_Cover_init 26 = .ok (.putfield 18, 3) := by decide +kernel
theorem d_Cover_init_29 : decode b_Cover_init 29 = .ok (.return_, 1) := by decide +kernel
theorem d_Cover_coversMust_0 : decode b_Cover_coversMust 0 = .ok (.aload_n 0, 1) := by decide +kernel
theorem d_Cover_coversMust_1 : decode b_Cover_coversMust 1 = .ok (.aload_n 1, 1) := by decide +kernel
theorem d_Cover_coversMust_2 : decode b_Cover_coversMust 2 = .ok (.aload_n 2, 1) := by decide +kernel
theorem d_Cover_coversMust_3 : decode b_Cover_coversMust 3 = .ok (.invokevirtual 21, 3) := by decide +kernel
theorem d_Cover_coversMust_6 : decode b_Cover_coversMust 6 = .ok (.aload_n 0, 1) := by decide +kernel
theorem d_Cover_coversMust_7 : decode b_Cover_coversMust 7 = .ok (.getfield 15, 3) := by decide +kernel
theorem d_Cover_coversMust_10 : decode b_Cover_coversMust 10 = .ok (.iconst (-1), 1) := by decide +kernel
theorem d_Cover_coversMust_11 : decode b_Cover_coversMust 11 = .ok (.invokestatic 25, 3) := by decide +kernel
theorem d_Cover_coversMust_14 : decode b_Cover_coversMust 14 = .ok (.iconst 0, 1) := by decide +kernel
theorem d_Cover_coversMust_15 : decode b_Cover_coversMust 15 = .ok (.istore_n 3, 1) := by decide +kernel
theorem d_Cover_coversMust_16 : decode b_Cover_coversMust 16 = .ok (.iload_n 3, 1) := by decide +kernel
theorem d_Cover_coversMust_17 : decode b_Cover_coversMust 17 = .ok (.aload_n 1, 1) := by decide +kernel
theorem d_Cover_coversMust_18 : decode b_Cover_coversMust 18 = .ok (.getfield 31, 3) := by decide +kernel
theorem d_Cover_coversMust_21 : decode b_Cover_coversMust 21 = .ok (.if_icmp .ge 33, 3) := by decide +kernel
theorem d_Cover_coversMust_24 : decode b_Cover_coversMust 24 = .ok (.aload_n 0, 1) := by decide +kernel
theorem d_Cover_coversMust_25 : decode b_Cover_coversMust 25 = .ok (.iconst 0, 1) := by decide +kernel
theorem d_Cover_coversMust_26 : decode b_Cover_coversMust 26 = .ok (.putfield 37, 3) := by decide +kernel
theorem d_Cover_coversMust_29 : decode b_Cover_coversMust 29 = .ok (.aload_n 1, 1) := by decide +kernel
theorem d_Cover_coversMust_30 : decode b_Cover_coversMust 30 = .ok (.iload_n 3, 1) := by decide +kernel
theorem d_Cover_coversMust_31 : decode b_Cover_coversMust 31 = .ok (.invokevirtual 40, 3) := by decide +kernel
theorem d_Cover_coversMust_34 : decode b_Cover_coversMust 34 = .ok (.ifCond .eq 14, 3) := by decide +kernel
theorem d_Cover_coversMust_37 : decode b_Cover_coversMust 37 = .ok (.aload_n 0, 1) := by decide +kernel
theorem d_Cover_coversMust_38 : decode b_Cover_coversMust 38 = .ok (.iload_n 3, 1) := by decide +kernel
theorem d_Cover_coversMust_39 : decode b_Cover_coversMust 39 = .ok (.iconst 0, 1) := by decide +kernel
theorem d_Cover_coversMust_40 : decode b_Cover_coversMust 40 = .ok (.invokevirtual 44, 3) := by decide +kernel
theorem d_Cover_coversMust_43 : decode b_Cover_coversMust 43 = .ok (.ifCond .ne 5, 3) := by decide +kernel
theorem d_Cover_coversMust_46 : decode b_Cover_coversMust 46 = .ok (.iconst 0, 1) := by decide +kernel
theorem d_Cover_coversMust_47 : decode b_Cover_coversMust 47 = .ok (.ireturn, 1) := by decide +kernel
theorem d_Cover_coversMust_48 : decode b_Cover_coversMust 48 = .ok (.iinc 3 1, 3) := by decide +kernel
theorem d_Cover_coversMust_51 : decode b_Cover_coversMust 51 = .ok (.goto (-35), 3) := by decide +kernel
theorem d_Cover_coversMust_54 : decode b_Cover_coversMust 54 = .ok (.iconst 1, 1) := by decide +kernel
theorem d_Cover_coversMust_55 : decode b_Cover_coversMust 55 = .ok (.ireturn, 1) := by decide +kernel
theorem d_Cover_findAble_0 : decode b_Cover_findAble 0 = .ok (.iconst 0, 1) := by decide +kernel
theorem d_Cover_findAble_1 : decode b_Cover_findAble 1 = .ok (.istore_n 3, 1) := by decide +kernel
theorem d_Cover_findAble_2 : decode b_Cover_findAble 2 = .ok (.iload_n 3, 1) := by decide +kernel
theorem d_Cover_findAble_3 : decode b_Cover_findAble 3 = .ok (.aload_n 1, 1) := by decide +kernel
theorem d_Cover_findAble_4 : decode b_Cover_findAble 4 = .ok (.getfield 31, 3) := by decide +kernel
theorem d_Cover_findAble_7 : decode b_Cover_findAble 7 = .ok (.if_icmp .ge 33, 3) := by decide +kernel
theorem d_Cover_findAble_10 : decode b_Cover_findAble 10 = .ok (.aload_n 0, 1) := by decide +kernel
theorem d_Cover_findAble_11 : decode b_Cover_findAble 11 = .ok (.getfield 9, 3) := by decide +kernel
theorem d_Cover_findAble_14 : decode b_Cover_findAble 14 = .ok (.iload_n 3, 1) := by decide +kernel
theorem d_Cover_findAble_15 : decode b_Cover_findAble 15 = .ok (.aload_n 1, 1) := by decide +kernel
theorem d_Cover_findAble_16 : decode b_Cover_findAble 16 = .ok (.iload_n 3, 1) := by decide +kernel
theorem d_Cover_findAble_17 : decode b_Cover_findAble 17 = .ok (.invokevirtual 40, 3) := by decide +kernel
theorem d_Cover_findAble_20 : decode b_Cover_findAble 20 = .ok (.ifCond .eq 12, 3) := by decide +kernel
theorem d_Cover_findAble_23 : decode b_Cover_findAble 23 = .ok (.aload_n 2, 1) := by decide +kernel
theorem d_Cover_findAble_24 : decode b_Cover_findAble 24 = .ok (.aload_n 1, 1) := by decide +kernel
theorem d_Cover_findAble_25 : decode b_Cover_findAble 25 = .ok (.iload_n 3, 1) := by decide +kernel
theorem d_Cover_findAble_26 : decode b_Cover_findAble 26 = .ok (.invokevirtual 48, 3) := by decide +kernel
theorem d_Cover_findAble_29 : decode b_Cover_findAble 29 = .ok (.goto 4, 3) := by decide +kernel
theorem d_Cover_findAble_32 : decode b_Cover_findAble 32 = .ok (.iconst 0, 1) := by decide +kernel
theorem d_Cover_findAble_33 : decode b_Cover_findAble 33 = .ok (.iastore, 1) := by decide +kernel
theorem d_Cover_findAble_34 : decode b_Cover_findAble 34 = .ok (.iinc 3 1, 3) := by decide +kernel
theorem d_Cover_findAble_37 : decode b_Cover_findAble 37 = .ok (.goto (-35), 3) := by decide +kernel
theorem d_Cover_findAble_40 : decode b_Cover_findAble 40 = .ok (.return_, 1) := by decide +kernel
theorem d_Cover_findPlayer_0 : decode b_Cover_findPlayer 0 = .ok (.iload_n 2, 1) := by decide +kernel
theorem d_Cover_findPlayer_1 : decode b_Cover_findPlayer 1 = .ok (.bipush 10, 2) := by decide +kernel
theorem d_Cover_findPlayer_3 : decode b_Cover_findPlayer 3 = .ok (.if_icmp .le 5, 3) := by decide +kernel
theorem d_Cover_findPlayer_6 : decode b_Cover_findPlayer 6 = .ok (.iconst 0, 1) := by decide +kernel
theorem d_Cover_findPlayer_7 : decode b_Cover_findPlayer 7 = .ok (.ireturn, 1) := by decide +kernel
theorem d_Cover_findPlayer_8 : decode b_Cover_findPlayer 8 = .ok (.iconst 0, 1) := by decide +kernel
theorem d_Cover_findPlayer_9 : decode b_Cover_findPlayer 9 = .ok (.istore_n 3, 1) := by decide +kernel
theorem d_Cover_findPlayer_10 : decode b_Cover_findPlayer 10 = .ok (.iload_n 3, 1) := by decide +kernel
theorem d_Cover_findPlayer_11 : decode b_Cover_findPlayer 11 = .ok (.bipush 14, 2) := by decide +kernel
theorem d_Cover_findPlayer_13 : decode b_Cover_findPlayer 13 = .ok (.if_icmp .ge 85, 3) := by decide +kernel
theorem d_Cover_findPlayer_16 : decode b_Cover_findPlayer 16 = .ok (.iconst 1, 1) := by decide +kernel
theorem d_Cover_findPlayer_17 : decode b_Cover_findPlayer 17 = .ok (.iload_n 3, 1) := by decide +kernel
theorem d_Cover_findPlayer_18 : decode b_Cover_findPlayer 18 = .ok (.ishl, 1) := by decide +kernel
theorem d_Cover_findPlayer_19 : decode b_Cover_findPlayer 19 = .ok (.istore 4, 2) := by decide +kernel
theorem d_Cover_findPlayer_21 : decode b_Cover_findPlayer 21 = .ok (.aload_n 0, 1) := by decide +kernel
theorem d_Cover_findPlayer_22 : decode b_Cover_findPlayer 22 = .ok (.getfield 9, 3) := by decide +kernel
theorem d_Cover_findPlayer_25 : decode b_Cover_findPlayer 25 = .ok (.iload_n 1, 1) := by decide +kernel
theorem d_Cover_findPlayer_26 : decode b_Cover_findPlayer 26 = .ok (.iaload, 1) := by decide +kernel
theorem d_Cover_findPlayer_27 : decode b_Cover_findPlayer 27 = .ok (.iload 4, 2) := by decide +kernel
theorem d_Cover_findPlayer_29 : decode b_Cover_findPlayer 29 = .ok (.iand, 1) := by decide +kernel
theorem d_Cover_findPlayer_30 : decode b_Cover_findPlayer 30 = .ok (.ifCond .eq 62, 3) := by decide +kernel
theorem d_Cover_findPlayer_33 : decode b_Cover_findPlayer 33 = .ok (.aload_n 0, 1) := by decide +kernel
theorem d_Cover_findPlayer_34 : decode b_Cover_findPlayer 34 = .ok (.getfield 37, 3) := by decide +kernel
theorem d_Cover_findPlayer_37 : decode b_Cover_findPlayer 37 = .ok (.iload 4, 2) := by decide +kernel
theorem d_Cover_findPlayer_39 : decode b_Cover_findPlayer 39 = .ok (.iand, 1) := by decide +kernel
theorem d_Cover_findPlayer_40 : decode b_Cover_findPlayer 40 = .ok (.ifCond .eq 6, 3) := by decide +kernel
theorem d_Cover_findPlayer_43 : decode b_Cover_findPlayer 43 = .ok (.goto 49, 3) := by decide +kernel
theorem d_Cover_findPlayer_46 : decode b_Cover_findPlayer 46 = .ok (.aload_n 0, 1) := by decide +kernel
theorem d_Cover_findPlayer_47 : decode b_Cover_findPlayer 47 = .ok (.dup, 1) := by decide +kernel
theorem d_Cover_findPlayer_48 : decode b_Cover_findPlayer 48 = .ok (.getfield 37, 3) := by decide +kernel
theorem d_Cover_findPlayer_51 : decode b_Cover_findPlayer 51 = .ok (.iload 4, 2) := by decide +kernel
theorem d_Cover_findPlayer_53 : decode b_Cover_findPlayer 53 = .ok (.ior, 1) := by decide +kernel
theorem d_Cover_findPlayer_54 : decode b_Cover_findPlayer 54 = .ok (.putfield 37, 3) := by decide +kernel
theorem d_Cover_findPlayer_57 : decode b_Cover_findPlayer 57 = .ok (.aload_n 0, 1) := by decide +kernel
theorem d_Cover_findPlayer_58 : decode b_Cover_findPlayer 58 = .ok (.getfield 15, 3) := by decide +kernel
theorem d_Cover_findPlayer_61 : decode b_Cover_findPlayer 61 = .ok (.iload_n 3, 1) := by decide +kernel
theorem d_Cover_findPlayer_62 : decode b_Cover_findPlayer 62 = .ok (.iaload, 1) := by decide +kernel
theorem d_Cover_findPlayer_63 : decode b_Cover_findPlayer 63 = .ok (.iconst (-1), 1) := by decide +kernel
theorem d_Cover_findPlayer_64 : decode b_Cover_findPlayer 64 = .ok (.if_icmp .eq 19, 3) := by decide +kernel
theorem d_Cover_findPlayer_67 : decode b_Cover_findPlayer 67 = .ok (.aload_n 0, 1) := by decide +kernel
theorem d_Cover_findPlayer_68 : decode b_Cover_findPlayer 68 = .ok (.aload_n 0, 1) := by decide +kernel
theorem d_Cover_findPlayer_69 : decode b_Cover_findPlayer 69 = .ok (.getfield 15, 3) := by decide +kernel
theorem d_Cover_findPlayer_72 : decode b_Cover_findPlayer 72 = .ok (.iload_n 3, 1) := by decide +kernel
theorem d_Cover_findPlayer_73 : decode b_Cover_findPlayer 73 = .ok (.iaload, 1) := by decide +kernel
theorem d_Cover_findPlayer_74 : decode b_Cover_findPlayer 74 = .ok (.iload_n 2, 1) := by decide +kernel
theorem d_Cover_findPlayer_75 : decode b_Cover_findPlayer 75 = .ok (.iconst 1, 1) := by decide +kernel
theorem d_Cover_findPlayer_76 : decode b_Cover_findPlayer 76 = .ok (.iadd, 1) := by decide +kernel
theorem d_Cover_findPlayer_77 : decode b_Cover_findPlayer 77 = .ok (.invokevirtual 44, 3) := by decide +kernel
theorem d_Cover_findPlayer_80 : decode b_Cover_findPlayer 80 = .ok (.ifCond .eq 12, 3) := by decide +kernel
theorem d_Cover_findPlayer_83 : decode b_Cover_findPlayer 83 = .ok (.aload_n 0, 1) := by decide +kernel
theorem d_Cover_findPlayer_84 : decode b_Cover_findPlayer 84 = .ok (.getfield 15, 3) := by decide +kernel
theorem d_Cover_findPlayer_87 : decode b_Cover_findPlayer 87 = .ok (.iload_n 3, 1) := by decide +kernel
theorem d_Cover_findPlayer_88 : decode b_Cover_findPlayer 88 = .ok (.iload_n 1, 1) := by decide +kernel
theorem d_Cover_findPlayer_89 : decode b_Cover_findPlayer 89 = .ok (.iastore, 1) := by decide +kernel
theorem d_Cover_findPlayer_90 : decode b_Cover_findPlayer 90 = .ok (.iconst 1, 1) := by decide +kernel
theorem d_Cover_findPlayer_91 : decode b_Cover_findPlayer 91 = .ok (.ireturn, 1) := by decide +kernel
theorem d_Cover_findPlayer_92 : decode b_Cover_findPlayer 92 = .ok (.iinc 3 1, 3) := by decide +kernel
theorem d_Cover_findPlayer_95 : decode b_Cover_findPlayer 95 = .ok (.goto (-85), 3) := by decide +kernel
theorem d_Cover_findPlayer_98 : decode b_Cover_findPlayer 98 = .ok (.iconst 0, 1) := by decide +kernel
theorem d_Cover_findPlayer_99 : decode b_Cover_findPlayer 99 = .ok (.ireturn, 1) := by decide +kernel
theorem d_Cover_leastLack_0 : decode b_Cover_leastLack 0 = .ok (.aload_n 0, 1) := by decide +kernel
theorem d_Cover_leastLack_1 : decode b_Cover_leastLack 1 = .ok (.aload_n 1, 1) := by decide +kernel
theorem d_Cover_leastLack_2 : decode b_Cover_leastLack 2 = .ok (.aload_n 2, 1) := by decide +kernel
theorem d_Cover_leastLack_3 : decode b_Cover_leastLack 3 = .ok (.invokevirtual 21, 3) := by decide +kernel
theorem d_Cover_leastLack_6 : decode b_Cover_leastLack 6 = .ok (.iconst 0, 1) := by decide +kernel
theorem d_Cover_leastLack_7 : decode b_Cover_leastLack 7 = .ok (.istore_n 3, 1) := by decide +kernel
theorem d_Cover_leastLack_8 : decode b_Cover_leastLack 8 = .ok (.bipush 11, 2) := by decide +kernel
theorem d_Cover_leastLack_10 : decode b_Cover_leastLack 10 = .ok (.istore 4, 2) := by decide +kernel
theorem d_Cover_leastLack_12 : decode b_Cover_leastLack 12 = .ok (.iconst 0, 1) := by decide +kernel
theorem d_Cover_leastLack_13 : decode b_Cover_leastLack 13 = .ok (.istore 5, 2) := by decide +kernel
theorem d_Cover_leastLack_15 : decode b_Cover_leastLack 15 = .ok (.iload 5, 2) := by decide +kernel
theorem d_Cover_leastLack_17 : decode b_Cover_leastLack 17 = .ok (.aload_n 1, 1) := by decide +kernel
theorem d_Cover_leastLack_18 : decode b_Cover_leastLack 18 = .ok (.getfield 31, 3) := by decide +kernel
theorem d_Cover_leastLack_21 : decode b_Cover_leastLack 21 = .ok (.if_icmp .ge 108, 3) := by decide +kernel
theorem d_Cover_leastLack_24 : decode b_Cover_leastLack 24 = .ok (.iconst 1, 1) := by decide +kernel
theorem d_Cover_leastLack_25 : decode b_Cover_leastLack 25 = .ok (.iload 5, 2) := by decide +kernel
theorem d_Cover_leastLack_27 : decode b_Cover_leastLack 27 = .ok (.ishl, 1) := by decide +kernel
theorem d_Cover_leastLack_28 : decode b_Cover_leastLack 28 = .ok (.istore 6, 2) := by decide +kernel
theorem d_Cover_leastLack_30 : decode b_Cover_leastLack 30 = .ok (.iconst 0, 1) := by decide +kernel
theorem d_Cover_leastLack_31 : decode b_Cover_leastLack 31 = .ok (.istore 7, 2) := by decide +kernel
theorem d_Cover_leastLack_33 : decode b_Cover_leastLack 33 = .ok (.iload 7, 2) := by decide +kernel
theorem d_Cover_leastLack_35 : decode b_Cover_leastLack 35 = .ok (.iload 6, 2) := by decide +kernel
theorem d_Cover_leastLack_37 : decode b_Cover_leastLack 37 = .ok (.if_icmp .ge 86, 3) := by decide +kernel
theorem d_Cover_leastLack_40 : decode b_Cover_leastLack 40 = .ok (.iload 6, 2) := by decide +kernel
theorem d_Cover_leastLack_42 : decode b_Cover_leastLack 42 = .ok (.iload 7, 2) := by decide +kernel
theorem d_Cover_leastLack_44 : decode b_Cover_leastLack 44 = .ok (.ior, 1) := by decide +kernel
theorem d_Cover_leastLack_45 : decode b_Cover_leastLack 45 = .ok (.istore 8, 2) := by decide +kernel
theorem d_Cover_leastLack_47 : decode b_Cover_leastLack 47 = .ok (.aload_n 0, 1) := by decide +kernel
theorem d_Cover_leastLack_48 : decode b_Cover_leastLack 48 = .ok (.getfield 18, 3) := by decide +kernel
theorem d_Cover_leastLack_51 : decode b_Cover_leastLack 51 = .ok (.iload 8, 2) := by decide +kernel
theorem d_Cover_leastLack_53 : decode b_Cover_leastLack 53 = .ok (.aload_n 0, 1) := by decide +kernel
theorem d_Cover_leastLack_54 : decode b_Cover_leastLack 54 = .ok (.getfield 18, 3) := by decide +kernel
theorem d_Cover_leastLack_57 : decode b_Cover_leastLack 57 = .ok (.iload 7, 2) := by decide +kernel
theorem d_Cover_leastLack_59 : decode b_Cover_leastLack 59 = .ok (.iaload, 1) := by decide +kernel
theorem d_Cover_leastLack_60 : decode b_Cover_leastLack 60 = .ok (.aload_n 0, 1) := by decide +kernel
theorem d_Cover_leastLack_61 : decode b_Cover_leastLack 61 = .ok (.getfield 9, 3) := by decide +kernel
theorem d_Cover_leastLack_64 : decode b_Cover_leastLack 64 = .ok (.iload 5, 2) := by decide +kernel
theorem d_Cover_leastLack_66 : decode b_Cover_leastLack 66 = .ok (.iaload, 1) := by decide +kernel
theorem d_Cover_leastLack_67 : decode b_Cover_leastLack 67 = .ok (.ior, 1) := by decide +kernel
theorem d_Cover_leastLack_68 : decode b_Cover_leastLack 68 = .ok (.iastore, 1) := by decide +kernel
theorem d_Cover_leastLack_69 : decode b_Cover_leastLack 69 = .ok (.iload 8, 2) := by decide +kernel
theorem d_Cover_leastLack_71 : decode b_Cover_leastLack 71 = .ok (.invokestatic 54, 3) := by decide +kernel
theorem d_Cover_leastLack_74 : decode b_Cover_leastLack 74 = .ok (.istore 9, 2) := by decide +kernel
theorem d_Cover_leastLack_76 : decode b_Cover_leastLack 76 = .ok (.iload 8, 2) := by decide +kernel
theorem d_Cover_leastLack_78 : decode b_Cover_leastLack 78 = .ok (.aload_n 1, 1) := by decide +kernel
theorem d_Cover_leastLack_79 : decode b_Cover_leastLack 79 = .ok (.getfield 60, 3) := by decide +kernel
theorem d_Cover_leastLack_82 : decode b_Cover_leastLack 82 = .ok (.iconst (-1), 1) := by decide +kernel
theorem d_Cover_leastLack_83 : decode b_Cover_leastLack 83 = .ok (.ixor, 1) := by decide +kernel
theorem d_Cover_leastLack_84 : decode b_Cover_leastLack 84 = .ok (.iand, 1) := by decide +kernel
theorem d_Cover_leastLack_85 : decode b_Cover_leastLack 85 = .ok (.ifCond .ne 32, 3) := by decide +kernel
theorem d_Cover_leastLack_88 : decode b_Cover_leastLack 88 = .ok (.iload 9, 2) := by decide +kernel
theorem d_Cover_leastLack_90 : decode b_Cover_leastLack 90 = .ok (.iload 4, 2) := by decide +kernel
theorem d_Cover_leastLack_92 : decode b_Cover_leastLack 92 = .ok (.if_icmp .ge 25, 3) := by decide +kernel
theorem d_Cover_leastLack_95 : decode b_Cover_leastLack 95 = .ok (.iload 9, 2) := by decide +kernel
theorem d_Cover_leastLack_97 : decode b_Cover_leastLack 97 = .ok (.aload_n 0, 1) := by decide +kernel
theorem d_Cover_leastLack_98 : decode b_Cover_leastLack 98 = .ok (.getfield 18, 3) := by decide +kernel
theorem d_Cover_leastLack_101 : decode b_Cover_leastLack 101 = .ok (.iload 8, 2) := by decide +kernel
theorem d_Cover_leastLack_103 : decode b_Cover_leastLack 103 = .ok (.iaload, 1) := by decide +kernel
theorem d_Cover_leastLack_104 : decode b_Cover_leastLack 104 = .ok (.invokestatic 54, 3) := by decide +kernel
theorem d_Cover_leastLack_107 : decode b_Cover_leastLack 107 = .ok (.if_icmp .le 10, 3) := by decide +kernel
theorem d_Cover_leastLack_110 : decode b_Cover_leastLack 110 = .ok (.iload 8, 2) := by decide +kernel
theorem d_Cover_leastLack_112 : decode b_Cover_leastLack 112 = .ok (.istore_n 3, 1) := by decide +kernel
theorem d_Cover_leastLack_113 : decode b_Cover_leastLack 113 = .ok (.iload 9, 2) := by decide +kernel
theorem d_Cover_leastLack_115 : decode b_Cover_leastLack 115 = .ok (.istore 4, 2) := by decide +kernel
theorem d_Cover_leastLack_117 : decode b_Cover_leastLack 117 = .ok (.iinc 7 1, 3) := by decide +kernel
theorem d_Cover_leastLack_120 : decode b_Cover_leastLack 120 = .ok (.goto (-87), 3) := by decide +kernel
theorem d_Cover_leastLack_123 : decode b_Cover_leastLack 123 = .ok (.iinc 5 1, 3) := by decide +kernel
theorem d_Cover_leastLack_126 : decode b_Cover_leastLack 126 = .ok (.goto (-111), 3) := by decide +kernel
theorem d_Cover_leastLack_129 : decode b_Cover_leastLack 129 = .ok (.iload_n 3, 1) := by decide +kernel
theorem d_Cover_leastLack_130 : decode b_Cover_leastLack 130 = .ok (.ireturn, 1) := by decide +kernel
theorem d_Library_init_0 : decode b_Library_init 0 = .ok (.aload_n 0, 1) := by decide +kernel
theorem d_Library_init_1 : decode b_Library_init 1 = .ok (.invokespecial 3, 3) := by decide +kernel
theorem d_Library_init_4 : decode b_Library_init 4 = .ok (.aload_n 0, 1) := by decide +kernel
theorem d_Library_init_5 : decode b_Library_init 5 = .ok (.bipush 10, 2) := by decide +kernel
theorem d_Library_init_7 : decode b_Library_init 7 = .ok (.anewarray 9, 3) := by decide +kernel
theorem d_Library_init_10 : decode b_Library_init 10 = .ok (.putfield 11, 3) := by decide +kernel
theorem d_Library_init_13 : decode b_Library_init 13 = .ok (.iconst 0, 1) := by decide +kernel
theorem d_Library_init_14 : decode b_Library_init 14 = .ok (.istore_n 1, 1) := by decide +kernel
theorem d_Library_init_15 : decode b_Library_init 15 = .ok (.iload_n 1, 1) := by decide +kernel
theorem d_Library_init_16 : decode b_Library_init 16 = .ok (.bipush 10, 2) := by decide +kernel
theorem d_Library_init_18 : decode b_Library_init 18 = .ok (.if_icmp .ge 22, 3) := by decide +kernel
theorem d_Library_init_21 : decode b_Library_init 21 = .ok (.aload_n 0, 1) := by decide +kernel
theorem d_Library_init_22 : decode b_Library_init 22 = .ok (.getfield 11, 3) := by decide +kernel
theorem d_Library_init_25 : decode b_Library_init 25 = .ok (.iload_n 1, 1) := by decide +kernel
theorem d_Library_init_26 : decode b_Library_init 26 = .ok (.new 9, 3) := by decide +kernel
theorem d_Library_init_29 : decode b_Library_init 29 = .ok (.dup, 1) := by decide +kernel
theorem d_Library_init_30 : decode b_Library_init 30 = .ok (.invokespecial 17, 3) := by decide +kernel
theorem d_Library_init_33 : decode b_Library_init 33 = .ok (.aastore, 1) := by decide +kernel
theorem d_Library_init_34 : decode b_Library_init 34 = .ok (.iinc 1 1, 3) := by decide +kernel
theorem d_Library_init_37 : decode b_Library_init 37 = .ok (.goto (-22), 3) := by decide +kernel
theorem d_Library_init_40 : decode b_Library_init 40 = .ok (.return_, 1) := by decide +kernel
theorem d_Library_find_0 : decode b_Library_find 0 = .ok (.iload_n 1, 1) := by decide +kernel
theorem d_Library_find_1 : decode b_Library_find 1 = .ok (.ifCond .lt 20, 3) := by decide +kernel
theorem d_Library_find_4 : decode b_Library_find 4 = .ok (.iload_n 1, 1) := by decide +kernel
theorem d_Library_find_5 : decode b_Library_find 5 = .ok (.aload_n 0, 1) := by decide +kernel
theorem d_Library_find_6 : decode b_Library_find 6 = .ok (.getfield 18, 3) := by decide +kernel
theorem d_Library_find_9 : decode b_Library_find 9 = .ok (.if_icmp .ge 12, 3) := by decide +kernel
theorem d_Library_find_12 : decode b_Library_find 12 = .ok (.aload_n 0, 1) := by decide +kernel
theorem d_Library_find_13 : decode b_Library_find 13 = .ok (.getfield 11, 3) := by decide +kernel
theorem d_Library_find_16 : decode b_Library_find 16 = .ok (.iload_n 1, 1) := by decide +kernel
theorem d_Library_find_17 : decode b_Library_find 17 = .ok (.aaload, 1) := by decide +kernel
theorem d_Library_find_18 : decode b_Library_find 18 = .ok (.goto 4, 3) := by decide +kernel
theorem d_Library_find_21 : decode b_Library_find 21 = .ok (.aconst_null, 1) := by decide +kernel
theorem d_Library_find_22 : decode b_Library_find 22 = .ok (.areturn, 1) := by decide +kernel
theorem d_Library_readText_0 : decode b_Library_readText 0 = .ok (.aload_n 0, 1) := by decide +kernel
theorem d_Library_readText_1 : decode b_Library_readText 1 = .ok (.iconst 0, 1) := by decide +kernel
theorem d_Library_readText_2 : decode b_Library_readText 2 = .ok (.putfield 22, 3) := by decide +kernel
theorem d_Library_readText_5 : decode b_Library_readText 5 = .ok (.aload_n 1, 1) := by decide +kernel
theorem d_Library_readText_6 : decode b_Library_readText 6 = .ok (.iconst 2, 1) := by decide +kernel
theorem d_Library_readText_7 : decode b_Library_readText 7 = .ok (.invokevirtual 25, 3) := by decide +kernel
theorem d_Library_readText_10 : decode b_Library_readText 10 = .ok (.iconst 0, 1) := by decide +kernel
theorem d_Library_readText_11 : decode b_Library_readText 11 = .ok (.istore_n 2, 1) := by decide +kernel
theorem d_Library_readText_12 : decode b_Library_readText 12 = .ok (.iload_n 2, 1) := by decide +kernel
theorem d_Library_readText_13 : decode b_Library_readText 13 = .ok (.sipush 800, 3) := by decide +kernel
theorem d_Library_readText_16 : decode b_Library_readText 16 = .ok (.if_icmp .ge 23, 3) := by decide +kernel
theorem d_Library_readText_19 : decode b_Library_readText 19 = .ok (.aload_n 1, 1) := by decide +kernel
theorem d_Library_readText_20 : decode b_Library_readText 20 = .ok (.ldc 31, 2) := by decide +kernel
theorem d_Library_readText_22 : decode b_Library_readText 22 = .ok (.invokevirtual 33, 3) := by decide +kernel
theorem d_Library_readText_25 : decode b_Library_readText 25 = .ok (.ifCond .eq 14, 3) := by decide +kernel
theorem d_Library_readText_28 : decode b_Library_readText 28 = .ok (.aload_n 0, 1) := by decide +kernel
theorem d_Library_readText_29 : decode b_Library_readText 29 = .ok (.aload_n 1, 1) := by decide +kernel
theorem d_Library_readText_30 : decode b_Library_readText 30 = .ok (.invokevirtual 37, 3) := by decide +kernel
theorem d_Library_readText_33 : decode b_Library_readText 33 = .ok (.iinc 2 1, 3) := by decide +kernel
theorem d_Library_readText_36 : decode b_Library_readText 36 = .ok (.goto (-24), 3) := by decide +kernel
theorem d_Library_readText_39 : decode b_Library_readText 39 = .ok (.aload_n 1, 1) := by decide +kernel
theorem d_Library_readText_40 : decode b_Library_readText 40 = .ok (.invokevirtual 41, 3) := by decide +kernel
theorem d_Library_readText_43 : decode b_Library_readText 43 = .ok (.ifCond .ne 5, 3) := by decide +kernel
theorem d_Library_readText_46 : decode b_Library_readText 46 = .ok (.iconst 0, 1) := by decide +kernel
theorem d_Library_readText_47 : decode b_Library_readText 47 = .ok (.ireturn, 1) := by decide +kernel
theorem d_Library_readText_48 : decode b_Library_readText 48 = .ok (.aload_n 0, 1) := by decide +kernel
theorem d_Library_readText_49 : decode b_Library_readText 49 = .ok (.dup, 1) := by decide +kernel
theorem d_Library_readText_50 : decode b_Library_readText 50 = .ok (.getfield 18, 3) := by decide +kernel
theorem d_Library_readText_53 : decode b_Library_readText 53 = .ok (.aload_n 0, 1) := by decide +kernel
theorem d_Library_readText_54 : decode b_Library_readText 54 = .ok (.getfield 22, 3) := by decide +kernel
theorem d_Library_readText_57 : decode b_Library_readText 57 = .ok (.iadd, 1) := by decide +kernel
theorem d_Library_readText_58 : decode b_Library_readText 58 = .ok (.putfield 18, 3) := by decide +kernel
theorem d_Library_readText_61 : decode b_Library_readText 61 = .ok (.iconst 1, 1) := by decide +kernel
theorem d_Library_readText_62 : decode b_Library_readText 62 = .ok (.ireturn, 1) := by decide +kernel
theorem d_Library_readPiece_0 : decode b_Library_readPiece 0 = .ok (.aload_n 0, 1) := by decide +kernel
theorem d_Library_readPiece_1 : decode b_Library_readPiece 1 = .ok (.getfield 18, 3) := by decide +kernel
theorem d_Library_readPiece_4 : decode b_Library_readPiece 4 = .ok (.aload_n 0, 1) := by decide +kernel
theorem d_Library_readPiece_5 : decode b_Library_readPiece 5 = .ok (.getfield 22, 3) := by decide +kernel
theorem d_Library_readPiece_8 : decode b_Library_readPiece 8 = .ok (.iadd, 1) := by decide +kernel
theorem d_Library_readPiece_9 : decode b_Library_readPiece 9 = .ok (.bipush 10, 2) := by decide +kernel
theorem d_Library_readPiece_11 : decode b_Library_readPiece 11 = .ok (.if_icmp .lt 9, 3) := by decide +kernel
theorem d_Library_readPiece_14 : decode b_Library_readPiece 14 = .ok (.aload_n 1, 1) := by decide +kernel
theorem d_Library_readPiece_15 : decode b_Library_readPiece 15 = .ok (.iconst 4, 1) := by decide +kernel
theorem d_Library_readPiece_16 : decode b_Library_readPiece 16 = .ok (.invokevirtual 45, 3) := by decide +kernel
theorem d_Library_readPiece_19 : decode b_Library_readPiece 19 = .ok (.return_, 1) := by decide +kernel
theorem d_Library_readPiece_20 : decode b_Library_readPiece 20 = .ok (.aload_n 0, 1) := by decide +kernel
theorem d_Library_readPiece_21 : decode b_Library_readPiece 21 = .ok (.getfield 11, 3) := by decide +kernel
theorem d_Library_readPiece_24 : decode b_Library_readPiece 24 = .ok (.aload_n 0, 1) := by decide +kernel
theorem d_Library_readPiece_25 : decode b_Library_readPiece 25 = .ok (.getfield 18, 3) := by decide +kernel
theorem d_Library_readPiece_28 : decode b_Library_readPiece 28 = .ok (.aload_n 0, 1) := by decide +kernel
theorem d_Library_readPiece_29 : decode b_Library_readPiece 29 = .ok (.getfield 22, 3) := by decide +kernel
theorem d_Library_readPiece_32 : decode b_Library_readPiece 32 = .ok (.iadd, 1) := by decide +kernel
theorem d_Library_readPiece_33 : decode b_Library_readPiece 33 = .ok (.aaload, 1) := by decide +kernel
theorem d_Library_readPiece_34 : decode b_Library_readPiece 34 = .ok (.astore_n 2, 1) := by decide +kernel
theorem d_Library_readPiece_35 : decode b_Library_readPiece 35 = .ok (.aload_n 2, 1) := by decide +kernel
theorem d_Library_readPiece_36 : decode b_Library_readPiece 36 = .ok (.invokevirtual 48, 3) := by decide +kernel
theorem d_Library_readPiece_39 : decode b_Library_readPiece 39 = .ok (.aload_n 1, 1) := by decide +kernel
theorem d_Library_readPiece_40 : decode b_Library_readPiece 40 = .ok (.invokevirtual 51, 3) := by decide +kernel
theorem d_Library_readPiece_43 : decode b_Library_readPiece 43 = .ok (.aload_n 2, 1) := by decide +kernel
theorem d_Library_readPiece_44 : decode b_Library_readPiece 44 = .ok (.aload_n 0, 1) := by decide +kernel
theorem d_Library_readPiece_45 : decode b_Library_readPiece 45 = .ok (.aload_n 1, 1) := by decide +kernel
theorem d_Library_readPiece_46 : decode b_Library_readPiece 46 = .ok (.invokevirtual 54, 3) := by decide +kernel
theorem d_Library_readPiece_49 : decode b_Library_readPiece 49 = .ok (.putfield 58, 3) := by decide +kernel
theorem d_Library_readPiece_52 : decode b_Library_readPiece 52 = .ok (.aload_n 1, 1) := by decide +kernel
theorem d_Library_readPiece_53 : decode b_Library_readPiece 53 = .ok (.bipush 58, 2) := by decide +kernel
theorem d_Library_readPiece_55 : decode b_Library_readPiece 55 = .ok (.invokevirtual 61, 3) := by decide +kernel
theorem d_Library_readPiece_58 : decode b_Library_readPiece 58 = .ok (.aload_n 2, 1) := by decide +kernel
theorem d_Library_readPiece_59 : decode b_Library_readPiece 59 = .ok (.aload_n 1, 1) := by decide +kernel
theorem d_Library_readPiece_60 : decode b_Library_readPiece 60 = .ok (.iconst 1, 1) := by decide +kernel
theorem d_Library_readPiece_61 : decode b_Library_readPiece 61 = .ok (.bipush 60, 2) := by decide +kernel
theorem d_Library_readPiece_63 : decode b_Library_readPiece 63 = .ok (.invokestatic 64, 3) := by decide +kernel
theorem d_Library_readPiece_66 : decode b_Library_readPiece 66 = .ok (.putfield 68, 3) := by decide +kernel
theorem d_Library_readPiece_69 : decode b_Library_readPiece 69 = .ok (.aload_n 2, 1) := by decide +kernel
theorem d_Library_readPiece_70 : decode b_Library_readPiece 70 = .ok (.aload_n 1, 1) := by decide +kernel
theorem d_Library_readPiece_71 : decode b_Library_readPiece 71 = .ok (.iconst 0, 1) := by decide +kernel
theorem d_Library_readPiece_72 : decode b_Library_readPiece 72 = .ok (.bipush 9, 2) := by decide +kernel
theorem d_Library_readPiece_74 : decode b_Library_readPiece 74 = .ok (.invokestatic 64, 3) := by decide +kernel
theorem d_Library_readPiece_77 : decode b_Library_readPiece 77 = .ok (.putfield 71, 3) := by decide +kernel
theorem d_Library_readPiece_80 : decode b_Library_readPiece 80 = .ok (.aload_n 2, 1) := by decide +kernel
theorem d_Library_readPiece_81 : decode b_Library_readPiece 81 = .ok (.aload_n 1, 1) := by decide +kernel
theorem d_Library_readPiece_82 : decode b_Library_readPiece 82 = .ok (.iconst 0, 1) := by decide +kernel
theorem d_Library_readPiece_83 : decode b_Library_readPiece 83 = .ok (.bipush 11, 2) := by decide +kernel
theorem d_Library_readPiece_85 : decode b_Library_readPiece 85 = .ok (.invokestatic 64, 3) := by decide +kernel
theorem d_Library_readPiece_88 : decode b_Library_readPiece 88 = .ok (.putfield 74, 3) := by decide +kernel
theorem d_Library_readPiece_91 : decode b_Library_readPiece 91 = .ok (.iconst 0, 1) := by decide +kernel
theorem d_Library_readPiece_92 : decode b_Library_readPiece 92 = .ok (.istore_n 3, 1) := by decide +kernel
theorem d_Library_readPiece_93 : decode b_Library_readPiece 93 = .ok (.iload_n 3, 1) := by decide +kernel
theorem d_Library_readPiece_94 : decode b_Library_readPiece 94 = .ok (.sipush 800, 3) := by decide +kernel
theorem d_Library_readPiece_97 : decode b_Library_readPiece 97 = .ok (.if_icmp .ge 23, 3) := by decide +kernel
theorem d_Library_readPiece_100 : decode b_Library_readPiece 100 = .ok (.aload_n 1, 1) := by decide +kernel
theorem d_Library_readPiece_101 : decode b_Library_readPiece 101 = .ok (.getfield 77, 3) := by decide +kernel
theorem d_Library_readPiece_104 : decode b_Library_readPiece 104 = .ok (.bipush 44, 2) := by decide +kernel
theorem d_Library_readPiece_106 : decode b_Library_readPiece 106 = .ok (.if_icmp .ne 14, 3) := by decide +kernel
theorem d_Library_readPiece_109 : decode b_Library_readPiece 109 = .ok (.aload_n 1, 1) := by decide +kernel
theorem d_Library_readPiece_110 : decode b_Library_readPiece 110 = .ok (.aload_n 2, 1) := by decide +kernel
theorem d_Library_readPiece_111 : decode b_Library_readPiece 111 = .ok (.invokestatic 80, 3) := by decide +kernel
theorem d_Library_readPiece_114 : decode b_Library_readPiece 114 = .ok (.iinc 3 1, 3) := by decide +kernel
theorem d_Library_readPiece_117 : decode b_Library_readPiece 117 = .ok (.goto (-24), 3) := by decide +kernel
theorem d_Library_readPiece_120 : decode b_Library_readPiece 120 = .ok (.aload_n 1, 1) := by decide +kernel
theorem d_Library_readPiece_121 : decode b_Library_readPiece 121 = .ok (.bipush 59, 2) := by decide +kernel
theorem d_Library_readPiece_123 : decode b_Library_readPiece 123 = .ok (.invokevirtual 61, 3) := by decide +kernel
theorem d_Library_readPiece_126 : decode b_Library_readPiece 126 = .ok (.aload_n 0, 1) := by decide +kernel
theorem d_Library_readPiece_127 : decode b_Library_readPiece 127 = .ok (.dup, 1) := by decide +kernel
theorem d_Library_readPiece_128 : decode b_Library_readPiece 128 = .ok (.getfield 22, 3) := by decide +kernel
theorem d_Library_readPiece_131 : decode b_Library_readPiece 131 = .ok (.iconst 1, 1) := by decide +kernel
theorem d_Library_readPiece_132 : decode b_Library_readPiece 132 = .ok (.iadd, 1) := by decide +kernel
theorem d_Library_readPiece_133 : decode b_Library_readPiece 133 = .ok (.putfield 22, 3) := by decide +kernel
theorem d_Library_readPiece_136 : decode b_Library_readPiece 136 = .ok (.return_, 1) := by decide +kernel
theorem d_Library_readName_0 : decode b_Library_readName 0 = .ok (.aload_n 1, 1) := by decide +kernel
theorem d_Library_readName_1 : decode b_Library_readName 1 = .ok (.getfield 84, 3) := by decide +kernel
theorem d_Library_readName_4 : decode b_Library_readName 4 = .ok (.istore_n 2, 1) := by decide +kernel
theorem d_Library_readName_5 : decode b_Library_readName 5 = .ok (.aload_n 1, 1) := by decide +kernel
theorem d_Library_readName_6 : decode b_Library_readName 6 = .ok (.getfield 77, 3) := by decide +kernel
theorem d_Library_readName_9 : decode b_Library_readName 9 = .ok (.bipush (-3), 2) := by decide +kernel
theorem d_Library_readName_11 : decode b_Library_readName 11 = .ok (.if_icmp .ne 10, 3) := by decide +kernel
theorem d_Library_readName_14 : decode b_Library_readName 14 = .ok (.aload_n 1, 1) := by decide +kernel
theorem d_Library_readName_15 : decode b_Library_readName 15 = .ok (.invokestatic 87, 3) := by decide +kernel
theorem d_Library_readName_18 : decode b_Library_readName 18 = .ok (.ifCond .eq 11, 3) := by decide +kernel
theorem d_Library_readName_21 : decode b_Library_readName 21 = .ok (.aload_n 1, 1) := by decide +kernel
theorem d_Library_readName_22 : decode b_Library_readName 22 = .ok (.iconst 1, 1) := by decide +kernel
theorem d_Library_readName_23 : decode b_Library_readName 23 = .ok (.invokevirtual 45, 3) := by decide +kernel
theorem d_Library_readName_26 : decode b_Library_readName 26 = .ok (.goto 16, 3) := by decide +kernel
theorem d_Library_readName_29 : decode b_Library_readName 29 = .ok (.aload_n 0, 1) := by decide +kernel
theorem d_Library_readName_30 : decode b_Library_readName 30 = .ok (.iload_n 2, 1) := by decide +kernel
theorem d_Library_readName_31 : decode b_Library_readName 31 = .ok (.invokevirtual 91, 3) := by decide +kernel
theorem d_Library_readName_34 : decode b_Library_readName 34 = .ok (.ifCond .eq 8, 3) := by decide +kernel
theorem d_Library_readName_37 : decode b_Library_readName 37 = .ok (.aload_n 1, 1) := by decide +kernel
theorem d_Library_readName_38 : decode b_Library_readName 38 = .ok (.iconst 2, 1) := by decide +kernel
theorem d_Library_readName_39 : decode b_Library_readName 39 = .ok (.invokevirtual 45, 3) := by decide +kernel
theorem d_Library_readName_42 : decode b_Library_readName 42 = .ok (.aload_n 1, 1) := by decide +kernel
theorem d_Library_readName_43 : decode b_Library_readName 43 = .ok (.invokevirtual 51, 3) := by decide +kernel
theorem d_Library_readName_46 : decode b_Library_readName 46 = .ok (.iload_n 2, 1) := by decide +kernel
theorem d_Library_readName_47 : decode b_Library_readName 47 = .ok (.ireturn, 1) := by decide +kernel
theorem d_Library_isWord_0 : decode b_Library_isWord 0 = .ok (.aload_n 0, 1) := by decide +kernel
theorem d_Library_isWord_1 : decode b_Library_isWord 1 = .ok (.ldc 31, 2) := by decide +kernel
theorem d_Library_isWord_3 : decode b_Library_isWord 3 = .ok (.invokevirtual 33, 3) := by decide +kernel
theorem d_Library_isWord_6 : decode b_Library_isWord 6 = .ok (.ifCond .ne 30, 3) := by decide +kernel
theorem d_Library_isWord_9 : decode b_Library_isWord 9 = .ok (.aload_n 0, 1) := by decide +kernel
theorem d_Library_isWord_10 : decode b_Library_isWord 10 = .ok (.ldc 95, 2) := by decide +kernel
theorem d_Library_isWord_12 : decode b_Library_isWord 12 = .ok (.invokevirtual 33, 3) := by decide +kernel
theorem d_Library_isWord_15 : decode b_Library_isWord 15 = .ok (.ifCond .ne 21, 3) := by decide +kernel
theorem d_Library_isWord_18 : decode b_Library_isWord 18 = .ok (.aload_n 0, 1) := by decide +kernel
theorem d_Library_isWord_19 : decode b_Library_isWord 19 = .ok (.ldc 97, 2) := by decide +kernel
theorem d_Library_isWord_21 : decode b_Library_isWord 21 = .ok (.invokevirtual 33, 3) := by decide +kernel
theorem d_Library_isWord_24 : decode b_Library_isWord 24 = .ok (.ifCond .ne 12, 3) := by decide +kernel
theorem d_Library_isWord_27 : decode b_Library_isWord 27 = .ok (.aload_n 0, 1) := by decide +kernel
theorem d_Library_isWord_28 : decode b_Library_isWord 28 = .ok (.ldc 99, 2) := by decide +kernel
theorem d_Library_isWord_30 : decode b_Library_isWord 30 = .ok (.invokevirtual 33, 3) := by decide +kernel
theorem d_Library_isWord_33 : decode b_Library_isWord 33 = .ok (.ifCond .eq 7, 3) := by decide +kernel
theorem d_Library_isWord_36 : decode b_Library_isWord 36 = .ok (.iconst 1, 1) := by decide +kernel
theorem d_Library_isWord_37 : decode b_Library_isWord 37 = .ok (.goto 4, 3) := by decide +kernel
theorem d_Library_isWord_40 : decode b_Library_isWord 40 = .ok (.iconst 0, 1) := by decide +kernel
theorem d_Library_isWord_41 : decode b_Library_isWord 41 = .ok (.ireturn, 1) := by decide +kernel
theorem d_Library_hasName_0 : decode b_Library_hasName 0 = .ok (.iconst 0, 1) := by decide +kernel
theorem d_Library_hasName_1 : decode b_Library_hasName 1 = .ok (.istore_n 2, 1) := by decide +kernel
theorem d_Library_hasName_2 : decode b_Library_hasName 2 = .ok (.iload_n 2, 1) := by decide +kernel
theorem d_Library_hasName_3 : decode b_Library_hasName 3 = .ok (.aload_n 0, 1) := by decide +kernel
theorem d_Library_hasName_4 : decode b_Library_hasName 4 = .ok (.getfield 18, 3) := by decide +kernel
theorem d_Library_hasName_7 : decode b_Library_hasName 7 = .ok (.aload_n 0, 1) := by decide +kernel
theorem d_Library_hasName_8 : decode b_Library_hasName 8 = .ok (.getfield 22, 3) := by decide +kernel
theorem d_Library_hasName_11 : decode b_Library_hasName 11 = .ok (.iadd, 1) := by decide +kernel
theorem d_Library_hasName_12 : decode b_Library_hasName 12 = .ok (.if_icmp .ge 30, 3) := by decide +kernel
theorem d_Library_hasName_15 : decode b_Library_hasName 15 = .ok (.iload_n 2, 1) := by decide +kernel
theorem d_Library_hasName_16 : decode b_Library_hasName 16 = .ok (.bipush 10, 2) := by decide +kernel
theorem d_Library_hasName_18 : decode b_Library_hasName 18 = .ok (.if_icmp .ge 24, 3) := by decide +kernel
theorem d_Library_hasName_21 : decode b_Library_hasName 21 = .ok (.aload_n 0, 1) := by decide +kernel
theorem d_Library_hasName_22 : decode b_Library_hasName 22 = .ok (.getfield 11, 3) := by decide +kernel
theorem d_Library_hasName_25 : decode b_Library_hasName 25 = .ok (.iload_n 2, 1) := by decide +kernel
theorem d_Library_hasName_26 : decode b_Library_hasName 26 = .ok (.aaload, 1) := by decide +kernel
theorem d_Library_hasName_27 : decode b_Library_hasName 27 = .ok (.getfield 58, 3) := by decide +kernel
theorem d_Library_hasName_30 : decode b_Library_hasName 30 = .ok (.iload_n 1, 1) := by decide +kernel
theorem d_Library_hasName_31 : decode b_Library_hasName 31 = .ok (.if_icmp .ne 5, 3) := by decide +kernel
theorem d_Library_hasName_34 : decode b_Library_hasName 34 = .ok (.iconst 1, 1) := by decide +kernel
theorem d_Library_hasName_35 : decode b_Library_hasName 35 = .ok (.ireturn, 1) := by decide +kernel
theorem d_Library_hasName_36 : decode b_Library_hasName 36 = .ok (.iinc 2 1, 3) := by decide +kernel
theorem d_Library_hasName_39 : decode b_Library_hasName 39 = .ok (.goto (-37), 3) := by decide +kernel
theorem d_Library_hasName_42 : decode b_Library_hasName 42 = .ok (.iconst 0, 1) := by decide +kernel
theorem d_Library_hasName_43 : decode b_Library_hasName 43 = .ok (.ireturn, 1) := by decide +kernel
theorem d_Library_readNumber_0 : decode b_Library_readNumber 0 = .ok (.aload_n 0, 1) := by decide +kernel
theorem d_Library_readNumber_1 : decode b_Library_readNumber 1 = .ok (.getfield 84, 3) := by decide +kernel
theorem d_Library_readNumber_4 : decode b_Library_readNumber 4 = .ok (.istore_n 3, 1) := by decide +kernel
theorem d_Library_readNumber_5 : decode b_Library_readNumber 5 = .ok (.aload_n 0, 1) := by decide +kernel
theorem d_Library_readNumber_6 : decode b_Library_readNumber 6 = .ok (.getfield 77, 3) := by decide +kernel
theorem d_Library_readNumber_9 : decode b_Library_readNumber 9 = .ok (.bipush (-2), 2) := by decide +kernel
theorem d_Library_readNumber_11 : decode b_Library_readNumber 11 = .ok (.if_icmp .eq 11, 3) := by decide +kernel
theorem d_Library_readNumber_14 : decode b_Library_readNumber 14 = .ok (.aload_n 0, 1) := by decide +kernel
theorem d_Library_readNumber_15 : decode b_Library_readNumber 15 = .ok (.iconst 1, 1) := by decide +kernel
theorem d_Library_readNumber_16 : decode b_Library_readNumber 16 = .ok (.invokevirtual 45, 3) := by decide +kernel
theorem d_Library_readNumber_19 : decode b_Library_readNumber 19 = .ok (.goto 17, 3) := by decide +kernel
theorem d_Library_readNumber_22 : decode b_Library_readNumber 22 = .ok (.iload_n 3, 1) := by decide +kernel
theorem d_Library_readNumber_23 : decode b_Library_readNumber 23 = .ok (.iload_n 1, 1) := by decide +kernel
theorem d_Library_readNumber_24 : decode b_Library_readNumber 24 = .ok (.iload_n 2, 1) := by decide +kernel
theorem d_Library_readNumber_25 : decode b_Library_readNumber 25 = .ok (.invokestatic 101, 3) := by decide +kernel
theorem d_Library_readNumber_28 : decode b_Library_readNumber 28 = .ok (.ifCond .ne 8, 3) := by decide +kernel
theorem d_Library_readNumber_31 : decode b_Library_readNumber 31 = .ok (.aload_n 0, 1) := by decide +kernel
theorem d_Library_readNumber_32 : decode b_Library_readNumber 32 = .ok (.iconst 3, 1) := by decide +kernel
theorem d_Library_readNumber_33 : decode b_Library_readNumber 33 = .ok (.invokevirtual 45, 3) := by decide +kernel
theorem d_Library_readNumber_36 : decode b_Library_readNumber 36 = .ok (.aload_n 0, 1) := by decide +kernel
theorem d_Library_readNumber_37 : decode b_Library_readNumber 37 = .ok (.invokevirtual 51, 3) := by decide +kernel
theorem d_Library_readNumber_40 : decode b_Library_readNumber 40 = .ok (.iload_n 3, 1) := by decide +kernel
theorem d_Library_readNumber_41 : decode b_Library_readNumber 41 = .ok (.ireturn, 1) := by decide +kernel
theorem d_Library_readPart_0 : decode b_Library_readPart 0 = .ok (.aload_n 1, 1) := by decide +kernel
theorem d_Library_readPart_1 : decode b_Library_readPart 1 = .ok (.getfield 105, 3) := by decide +kernel
theorem d_Library_readPart_4 : decode b_Library_readPart 4 = .ok (.bipush 10, 2) := by decide +kernel
theorem d_Library_readPart_6 : decode b_Library_readPart 6 = .ok (.if_icmp .lt 9, 3) := by decide +kernel
theorem d_Library_readPart_9 : decode b_Library_readPart 9 = .ok (.aload_n 0, 1) := by decide +kernel
theorem d_Library_readPart_10 : decode b_Library_readPart 10 = .ok (.iconst 4, 1) := by decide +kernel
theorem d_Library_readPart_11 : decode b_Library_readPart 11 = .ok (.invokevirtual 45, 3) := by decide +kernel
theorem d_Library_readPart_14 : decode b_Library_readPart 14 = .ok (.return_, 1) := by decide +kernel
theorem d_Library_readPart_15 : decode b_Library_readPart 15 = .ok (.aload_n 0, 1) := by decide +kernel
theorem d_Library_readPart_16 : decode b_Library_readPart 16 = .ok (.invokevirtual 51, 3) := by decide +kernel
theorem d_Library_readPart_19 : decode b_Library_readPart 19 = .ok (.aload_n 0, 1) := by decide +kernel
theorem d_Library_readPart_20 : decode b_Library_readPart 20 = .ok (.ldc 95, 2) := by decide +kernel
theorem d_Library_readPart_22 : decode b_Library_readPart 22 = .ok (.invokevirtual 33, 3) := by decide +kernel
theorem d_Library_readPart_25 : decode b_Library_readPart 25 = .ok (.istore_n 2, 1) := by decide +kernel
theorem d_Library_readPart_26 : decode b_Library_readPart 26 = .ok (.iload_n 2, 1) := by decide +kernel
theorem d_Library_readPart_27 : decode b_Library_readPart 27 = .ok (.ifCond .ne 17, 3) := by decide +kernel
theorem d_Library_readPart_30 : decode b_Library_readPart 30 = .ok (.aload_n 0, 1) := by decide +kernel
theorem d_Library_readPart_31 : decode b_Library_readPart 31 = .ok (.ldc 97, 2) := by decide +kernel
theorem d_Library_readPart_33 : decode b_Library_readPart 33 = .ok (.invokevirtual 33, 3) := by decide +kernel
theorem d_Library_readPart_36 : decode b_Library_readPart 36 = .ok (.ifCond .ne 8, 3) := by decide +kernel
theorem d_Library_readPart_39 : decode b_Library_readPart 39 = .ok (.aload_n 0, 1) := by decide +kernel
theorem d_Library_readPart_40 : decode b_Library_readPart 40 = .ok (.iconst 1, 1) := by decide +kernel
theorem d_Library_readPart_41 : decode b_Library_readPart 41 = .ok (.invokevirtual 45, 3) := by decide +kernel
theorem d_Library_readPart_44 : decode b_Library_readPart 44 = .ok (.aload_n 0, 1) := by decide +kernel
theorem d_Library_readPart_45 : decode b_Library_readPart 45 = .ok (.invokevirtual 51, 3) := by decide +kernel
theorem d_Library_readPart_48 : decode b_Library_readPart 48 = .ok (.aload_n 1, 1) := by decide +kernel
theorem d_Library_readPart_49 : decode b_Library_readPart 49 = .ok (.iload_n 2, 1) := by decide +kernel
theorem d_Library_readPart_50 : decode b_Library_readPart 50 = .ok (.invokevirtual 108, 3) := by decide +kernel
theorem d_Library_readPart_53 : decode b_Library_readPart 53 = .ok (.aload_n 0, 1) := by decide +kernel
theorem d_Library_readPart_54 : decode b_Library_readPart 54 = .ok (.aload_n 1, 1) := by decide +kernel
theorem d_Library_readPart_55 : decode b_Library_readPart 55 = .ok (.aload_n 1, 1) := by decide +kernel
theorem d_Library_readPart_56 : decode b_Library_readPart 56 = .ok (.getfield 105, 3) := by decide +kernel
theorem d_Library_readPart_59 : decode b_Library_readPart 59 = .ok (.iconst 1, 1) := by decide +kernel
theorem d_Library_readPart_60 : decode b_Library_readPart 60 = .ok (.isub, 1) := by decide +kernel
theorem d_Library_readPart_61 : decode b_Library_readPart 61 = .ok (.invokestatic 112, 3) := by decide +kernel
theorem d_Library_readPart_64 : decode b_Library_readPart 64 = .ok (.iconst 1, 1) := by decide +kernel
theorem d_Library_readPart_65 : decode b_Library_readPart 65 = .ok (.istore_n 3, 1) := by decide +kernel
theorem d_Library_readPart_66 : decode b_Library_readPart 66 = .ok (.iload_n 3, 1) := by decide +kernel
theorem d_Library_readPart_67 : decode b_Library_readPart 67 = .ok (.iconst 4, 1) := by decide +kernel
theorem d_Library_readPart_68 : decode b_Library_readPart 68 = .ok (.if_icmp .gt 43, 3) := by decide +kernel
theorem d_Library_readPart_71 : decode b_Library_readPart 71 = .ok (.aload_n 0, 1) := by decide +kernel
theorem d_Library_readPart_72 : decode b_Library_readPart 72 = .ok (.ldc 99, 2) := by decide +kernel
theorem d_Library_readPart_74 : decode b_Library_readPart 74 = .ok (.invokevirtual 33, 3) := by decide +kernel
theorem d_Library_readPart_77 : decode b_Library_readPart 77 = .ok (.ifCond .eq 34, 3) := by decide +kernel
theorem d_Library_readPart_80 : decode b_Library_readPart 80 = .ok (.iload_n 3, 1) := by decide +kernel
theorem d_Library_readPart_81 : decode b_Library_readPart 81 = .ok (.iconst 4, 1) := by decide +kernel
theorem d_Library_readPart_82 : decode b_Library_readPart 82 = .ok (.if_icmp .ne 8, 3) := by decide +kernel
theorem d_Library_readPart_85 : decode b_Library_readPart 85 = .ok (.aload_n 0, 1) := by decide +kernel
theorem d_Library_readPart_86 : decode b_Library_readPart 86 = .ok (.iconst 4, 1) := by decide +kernel
theorem d_Library_readPart_87 : decode b_Library_readPart 87 = .ok (.invokevirtual 45, 3) := by decide +kernel
theorem d_Library_readPart_90 : decode b_Library_readPart 90 = .ok (.aload_n 0, 1) := by decide +kernel
theorem d_Library_readPart_91 : decode b_Library_readPart 91 = .ok (.invokevirtual 51, 3) := by decide +kernel
theorem d_Library_readPart_94 : decode b_Library_readPart 94 = .ok (.aload_n 0, 1) := by decide +kernel
theorem d_Library_readPart_95 : decode b_Library_readPart 95 = .ok (.aload_n 1, 1) := by decide +kernel
theorem d_Library_readPart_96 : decode b_Library_readPart 96 = .ok (.aload_n 1, 1) := by decide +kernel
theorem d_Library_readPart_97 : decode b_Library_readPart 97 = .ok (.getfield 105, 3) := by decide +kernel
theorem d_Library_readPart_100 : decode b_Library_readPart 100 = .ok (.iconst 1, 1) := by decide +kernel
theorem d_Library_readPart_101 : decode b_Library_readPart 101 = .ok (.isub, 1) := by decide +kernel
theorem d_Library_readPart_102 : decode b_Library_readPart 102 = .ok (.invokestatic 112, 3) := by decide +kernel
theorem d_Library_readPart_105 : decode b_Library_readPart 105 = .ok (.iinc 3 1, 3) := by decide +kernel
theorem d_Library_readPart_108 : decode b_Library_readPart 108 = .ok (.goto (-42), 3) := by decide +kernel
theorem d_Library_readPart_111 : decode b_Library_readPart 111 = .ok (.return_, 1) := by decide +kernel
theorem d_Library_readInstrument_0 : decode b_Library_readInstrument 0 = .ok (.aload_n 0, 1) := by decide +kernel
theorem d_Library_readInstrument_1 : decode b_Library_readInstrument 1 = .ok (.getfield 77, 3) := by decide +kernel
theorem d_Library_readInstrument_4 : decode b_Library_readInstrument 4 = .ok (.bipush (-2), 2) := by decide +kernel
theorem d_Library_readInstrument_6 : decode b_Library_readInstrument 6 = .ok (.if_icmp .ne 20, 3) := by decide +kernel
theorem d_Library_readInstrument_9 : decode b_Library_readInstrument 9 = .ok (.aload_n 1, 1) := by decide +kernel
theorem d_Library_readInstrument_10 : decode b_Library_readInstrument 10 = .ok (.iload_n 2, 1) := by decide +kernel
theorem d_Library_readInstrument_11 : decode b_Library_readInstrument 11 = .ok (.aload_n 0, 1) := by decide +kernel
theorem d_Library_readInstrument_12 : decode b_Library_readInstrument 12 = .ok (.getfield 84, 3) := by decide +kernel
theorem d_Library_readInstrument_15 : decode b_Library_readInstrument 15 = .ok (.invokevirtual 116, 3) := by decide +kernel
theorem d_Library_readInstrument_18 : decode b_Library_readInstrument 18 = .ok (.ifCond .eq 8, 3) := by decide +kernel
theorem d_Library_readInstrument_21 : decode b_Library_readInstrument 21 = .ok (.aload_n 0, 1) := by decide +kernel
theorem d_Library_readInstrument_22 : decode b_Library_readInstrument 22 = .ok (.iconst 3, 1) := by decide +kernel
theorem d_Library_readInstrument_23 : decode b_Library_readInstrument 23 = .ok (.invokevirtual 45, 3) := by decide +kernel
theorem d_Library_readInstrument_26 : decode b_Library_readInstrument 26 = .ok (.aload_n 1, 1) := by decide +kernel
theorem d_Library_readInstrument_27 : decode b_Library_readInstrument 27 = .ok (.iload_n 2, 1) := by decide +kernel
theorem d_Library_readInstrument_28 : decode b_Library_readInstrument 28 = .ok (.aload_n 0, 1) := by decide +kernel
theorem d_Library_readInstrument_29 : decode b_Library_readInstrument 29 = .ok (.iconst 0, 1) := by decide +kernel
theorem d_Library_readInstrument_30 : decode b_Library_readInstrument 30 = .ok (.bipush 9, 2) := by decide +kernel
theorem d_Library_readInstrument_32 : decode b_Library_readInstrument 32 = .ok (.invokestatic 64, 3) := by decide +kernel
theorem d_Library_readInstrument_35 : decode b_Library_readInstrument 35 = .ok (.invokevirtual 120, 3) := by decide +kernel
theorem d_Library_readInstrument_38 : decode b_Library_readInstrument 38 = .ok (.return_, 1) := by decide +kernel
theorem d_Loans_init_0 : decode b_Loans_init 0 = .ok (.aload_n 0, 1) := by decide +kernel
theorem d_Loans_init_1 : decode b_Loans_init 1 = .ok (.invokespecial 3, 3) := by decide +kernel
theorem d_Loans_init_4 : decode b_Loans_init 4 = .ok (.aload_n 0, 1) := by decide +kernel
theorem d_Loans_init_5 : decode b_Loans_init 5 = .ok (.sipush 200, 3) := by decide +kernel
theorem d_Loans_init_8 : decode b_Loans_init 8 = .ok (.newarray .int, 2) := by decide +kernel
theorem d_Loans_init_10 : decode b_Loans_init 10 = .ok (.putfield 9, 3) := by decide +kernel
theorem d_Loans_init_13 : decode b_Loans_init 13 = .ok (.aload_n 0, 1) := by decide +kernel
theorem d_Loans_init_14 : decode b_Loans_init 14 = .ok (.sipush 200, 3) := by decide +kernel
theorem d_Loans_init_17 : decode b_Loans_init 17 = .ok (.newarray .int, 2) := by decide +kernel
theorem d_Loans_init_19 : decode b_Loans_init 19 = .ok (.putfield 15, 3) := by decide +kernel
theorem d_Loans_init_22 : decode b_Loans_init 22 = .ok (.aload_n 0, 1) := by decide +kernel
theorem d_Loans_init_23 : decode b_Loans_init 23 = .ok (.sipush 200, 3) := by decide +kernel
theorem d_Loans_init_26 : decode b_Loans_init 26 = .ok (.newarray .int, 2) := by decide +kernel
theorem d_Loans_init_28 : decode b_Loans_init 28 = .ok (.putfield 18, 3) := by decide +kernel
theorem d_Loans_init_31 : decode b_Loans_init 31 = .ok (.aload_n 0, 1) := by decide +kernel
theorem d_Loans_init_32 : decode b_Loans_init 32 = .ok (.bipush 30, 2) := by decide +kernel
theorem d_Loans_init_34 : decode b_Loans_init 34 = .ok (.newarray .int, 2) := by decide +kernel
theorem d_Loans_init_36 : decode b_Loans_init 36 = .ok (.putfield 21, 3) := by decide +kernel
theorem d_Loans_init_39 : decode b_Loans_init 39 = .ok (.aload_n 0, 1) := by decide +kernel
theorem d_Loans_init_40 : decode b_Loans_init 40 = .ok (.bipush 30, 2) := by decide +kernel
theorem d_Loans_init_42 : decode b_Loans_init 42 = .ok (.newarray .int, 2) := by decide +kernel
theorem d_Loans_init_44 : decode b_Loans_init 44 = .ok (.putfield 24, 3) := by decide +kernel
theorem d_Loans_init_47 : decode b_Loans_init 47 = .ok (.return_, 1) := by decide +kernel
theorem d_Loans_note_0 : decode b_Loans_note 0 = .ok (.aload_n 0, 1) := by decide +kernel
theorem d_Loans_note_1 : decode b_Loans_note 1 = .ok (.getfield 27, 3) := by decide +kernel
theorem d_Loans_note_4 : decode b_Loans_note 4 = .ok (.sipush 200, 3) := by decide +kernel
theorem d_Loans_note_7 : decode b_Loans_note 7 = .ok (.if_icmp .lt 5, 3) := by decide +kernel
theorem d_Loans_note_10 : decode b_Loans_note 10 = .ok (.iconst (-1), 1) := by decide +kernel
theorem d_Loans_note_11 : decode b_Loans_note 11 = .ok (.ireturn, 1) := by decide +kernel
theorem d_Loans_note_12 : decode b_Loans_note 12 = .ok (.aload_n 0, 1) := by decide +kernel
theorem d_Loans_note_13 : decode b_Loans_note 13 = .ok (.getfield 9, 3) := by decide +kernel
theorem d_Loans_note_16 : decode b_Loans_note 16 = .ok (.aload_n 0, 1) := by decide +kernel
theorem d_Loans_note_17 : decode b_Loans_note 17 = .ok (.getfield 27, 3) := by decide +kernel
theorem d_Loans_note_20 : decode b_Loans_note 20 = .ok (.iload_n 1, 1) := by decide +kernel
theorem d_Loans_note_21 : decode b_Loans_note 21 = .ok (.iastore, 1) := by decide +kernel
theorem d_Loans_note_22 : decode b_Loans_note 22 = .ok (.aload_n 0, 1) := by decide +kernel
theorem d_Loans_note_23 : decode b_Loans_note 23 = .ok (.getfield 15, 3) := by decide +kernel
theorem d_Loans_note_26 : decode b_Loans_note 26 = .ok (.aload_n 0, 1) := by decide +kernel
theorem d_Loans_note_27 : decode b_Loans_note 27 = .ok (.getfield 27, 3) := by decide +kernel
theorem d_Loans_note_30 : decode b_Loans_note 30 = .ok (.iload_n 2, 1) := by decide +kernel
theorem d_Loans_note_31 : decode b_Loans_note 31 = .ok (.iastore, 1) := by decide +kernel
theorem d_Loans_note_32 : decode b_Loans_note 32 = .ok (.aload_n 0, 1) := by decide +kernel
theorem d_Loans_note_33 : decode b_Loans_note 33 = .ok (.getfield 18, 3) := by decide +kernel
theorem d_Loans_note_36 : decode b_Loans_note 36 = .ok (.aload_n 0, 1) := by decide +kernel
theorem d_Loans_note_37 : decode b_Loans_note 37 = .ok (.getfield 27, 3) := by decide +kernel
theorem d_Loans_note_40 : decode b_Loans_note 40 = .ok (.iload_n 3, 1) := by decide +kernel
theorem d_Loans_note_41 : decode b_Loans_note 41 = .ok (.iastore, 1) := by decide +kernel
theorem d_Loans_note_42 : decode b_Loans_note 42 = .ok (.aload_n 0, 1) := by decide +kernel
theorem d_Loans_note_43 : decode b_Loans_note 43 = .ok (.dup, 1) := by decide +kernel
theorem d_Loans_note_44 : decode b_Loans_note 44 = .ok (.getfield 27, 3) := by decide +kernel
theorem d_Loans_note_47 : decode b_Loans_note 47 = .ok (.iconst 1, 1) := by decide +kernel
theorem d_Loans_note_48 : decode b_Loans_note 48 = .ok (.iadd, 1) := by decide +kernel
theorem d_Loans_note_49 : decode b_Loans_note 49 = .ok (.putfield 27, 3) := by decide +kernel
theorem d_Loans_note_52 : decode b_Loans_note 52 = .ok (.aload_n 0, 1) := by decide +kernel
theorem d_Loans_note_53 : decode b_Loans_note 53 = .ok (.getfield 27, 3) := by decide +kernel
theorem d_Loans_note_56 : decode b_Loans_note 56 = .ok (.iconst 1, 1) := by decide +kernel
theorem d_Loans_note_57 : decode b_Loans_note 57 = .ok (.isub, 1) := by decide +kernel
theorem d_Loans_note_58 : decode b_Loans_note 58 = .ok (.ireturn, 1) := by decide +kernel
theorem d_Loans_placeOf_0 : decode b_Loans_placeOf 0 = .ok (.aload_n 0, 1) := by decide +kernel
theorem d_Loans_placeOf_1 : decode b_Loans_placeOf 1 = .ok (.iload_n 2, 1) := by decide +kernel
theorem d_Loans_placeOf_2 : decode b_Loans_placeOf 2 = .ok (.iload_n 3, 1) := by decide +kernel
theorem d_Loans_placeOf_3 : decode b_Loans_placeOf 3 = .ok (.invokevirtual 31, 3) := by decide +kernel
theorem d_Loans_placeOf_6 : decode b_Loans_placeOf 6 = .ok (.aload_n 0, 1) := by decide +kernel
theorem d_Loans_placeOf_7 : decode b_Loans_placeOf 7 = .ok (.getfield 24, 3) := by decide +kernel
theorem d_Loans_placeOf_10 : decode b_Loans_placeOf 10 = .ok (.iload_n 1, 1) := by decide +kernel
theorem d_Loans_placeOf_11 : decode b_Loans_placeOf 11 = .ok (.iaload, 1) := by decide +kernel
theorem d_Loans_placeOf_12 : decode b_Loans_placeOf 12 = .ok (.ireturn, 1) := by decide +kernel
theorem d_Loans_copiesAt_0 : decode b_Loans_copiesAt 0 = .ok (.aload_n 0, 1) := by decide +kernel
theorem d_Loans_copiesAt_1 : decode b_Loans_copiesAt 1 = .ok (.iload_n 2, 1) := by decide +kernel
theorem d_Loans_copiesAt_2 : decode b_Loans_copiesAt 2 = .ok (.iload_n 3, 1) := by decide +kernel
theorem d_Loans_copiesAt_3 : decode b_Loans_copiesAt 3 = .ok (.invokevirtual 31, 3) := by decide +kernel
theorem d_Loans_copiesAt_6 : decode b_Loans_copiesAt 6 = .ok (.iconst 0, 1) := by decide +kernel
theorem d_Loans_copiesAt_7 : decode b_Loans_copiesAt 7 = .ok (.istore 4, 2) := by decide +kernel
theorem d_Loans_copiesAt_9 : decode b_Loans_copiesAt 9 = .ok (.iconst 0, 1) := by decide +kernel
theorem d_Loans_copiesAt_10 : decode b_Loans_copiesAt 10 = .ok (.istore 5, 2) := by decide +kernel
theorem d_Loans_copiesAt_12 : decode b_Loans_copiesAt 12 = .ok (.iload 5, 2) := by decide +kernel
theorem d_Loans_copiesAt_14 : decode b_Loans_copiesAt 14 = .ok (.bipush 30, 2) := by decide +kernel
theorem d_Loans_copiesAt_16 : decode b_Loans_copiesAt 16 = .ok (.if_icmp .ge 23, 3) := by decide +kernel
theorem d_Loans_copiesAt_19 : decode b_Loans_copiesAt 19 = .ok (.aload_n 0, 1) := by decide +kernel
theorem d_Loans_copiesAt_20 : decode b_Loans_copiesAt 20 = .ok (.getfield 24, 3) := by decide +kernel
theorem d_Loans_copiesAt_23 : decode b_Loans_copiesAt 23 = .ok (.iload 5, 2) := by decide +kernel
theorem d_Loans_copiesAt_25 : decode b_Loans_copiesAt 25 = .ok (.iaload, 1) := by decide +kernel
theorem d_Loans_copiesAt_26 : decode b_Loans_copiesAt 26 = .ok (.iload_n 1, 1) := by decide +kernel
theorem d_Loans_copiesAt_27 : decode b_Loans_copiesAt 27 = .ok (.if_icmp .ne 6, 3) := by decide +kernel
theorem d_Loans_copiesAt_30 : decode b_Loans_copiesAt 30 = .ok (.iinc 4 1, 3) := by decide +kernel
theorem d_Loans_copiesAt_33 : decode b_Loans_copiesAt 33 = .ok (.iinc 5 1, 3) := by decide +kernel
theorem d_Loans_copiesAt_36 : decode b_Loans_copiesAt 36 = .ok (.goto (-24), 3) := by decide +kernel
theorem d_Loans_copiesAt_39 : decode b_Loans_copiesAt 39 = .ok (.iload 4, 2) := by decide +kernel
theorem d_Loans_copiesAt_41 : decode b_Loans_copiesAt 41 = .ok (.ireturn, 1) := by decide +kernel
theorem d_Loans_settle_0 : decode b_Loans_settle 0 = .ok (.aload_n 0, 1) := by decide +kernel
theorem d_Loans_settle_1 : decode b_Loans_settle 1 = .ok (.getfield 21, 3) := by decide +kernel
theorem d_Loans_settle_4 : decode b_Loans_settle 4 = .ok (.iconst (-1), 1) := by decide +kernel
theorem d_Loans_settle_5 : decode b_Loans_settle 5 = .ok (.invokestatic 35, 3) := by decide +kernel
theorem d_Loans_settle_8 : decode b_Loans_settle 8 = .ok (.aload_n 0, 1) := by decide +kernel
theorem d_Loans_settle_9 : decode b_Loans_settle 9 = .ok (.getfield 24, 3) := by decide +kernel
theorem d_Loans_settle_12 : decode b_Loans_settle 12 = .ok (.iconst (-1), 1) := by decide +kernel
theorem d_Loans_settle_13 : decode b_Loans_settle 13 = .ok (.invokestatic 35, 3) := by decide +kernel
theorem d_Loans_settle_16 : decode b_Loans_settle 16 = .ok (.iconst 0, 1) := by decide +kernel
theorem d_Loans_settle_17 : decode b_Loans_settle 17 = .ok (.istore_n 3, 1) := by decide +kernel
theorem d_Loans_settle_18 : decode b_Loans_settle 18 = .ok (.iload_n 3, 1) := by decide +kernel
theorem d_Loans_settle_19 : decode b_Loans_settle 19 = .ok (.iload_n 2, 1) := by decide +kernel
theorem d_Loans_settle_20 : decode b_Loans_settle 20 = .ok (.if_icmp .ge 77, 3) := by decide +kernel
theorem d_Loans_settle_23 : decode b_Loans_settle 23 = .ok (.iload_n 3, 1) := by decide +kernel
theorem d_Loans_settle_24 : decode b_Loans_settle 24 = .ok (.aload_n 0, 1) := by decide +kernel
theorem d_Loans_settle_25 : decode b_Loans_settle 25 = .ok (.getfield 27, 3) := by decide +kernel
theorem d_Loans_settle_28 : decode b_Loans_settle 28 = .ok (.if_icmp .ge 69, 3) := by decide +kernel
theorem d_Loans_settle_31 : decode b_Loans_settle 31 = .ok (.aload_n 0, 1) := by decide +kernel
theorem d_Loans_settle_32 : decode b_Loans_settle 32 = .ok (.getfield 9, 3) := by decide +kernel
theorem d_Loans_settle_35 : decode b_Loans_settle 35 = .ok (.iload_n 3, 1) := by decide +kernel
theorem d_Loans_settle_36 : decode b_Loans_settle 36 = .ok (.iaload, 1) := by decide +kernel
theorem d_Loans_settle_37 : decode b_Loans_settle 37 = .ok (.istore 4, 2) := by decide +kernel
theorem d_Loans_settle_39 : decode b_Loans_settle 39 = .ok (.aload_n 0, 1) := by decide +kernel
theorem d_Loans_settle_40 : decode b_Loans_settle 40 = .ok (.getfield 15, 3) := by decide +kernel
theorem d_Loans_settle_43 : decode b_Loans_settle 43 = .ok (.iload_n 3, 1) := by decide +kernel
theorem d_Loans_settle_44 : decode b_Loans_settle 44 = .ok (.iaload, 1) := by decide +kernel
theorem d_Loans_settle_45 : decode b_Loans_settle 45 = .ok (.iload_n 1, 1) := by decide +kernel
theorem d_Loans_settle_46 : decode b_Loans_settle 46 = .ok (.if_icmp .gt 45, 3) := by decide +kernel
theorem d_Loans_settle_49 : decode b_Loans_settle 49 = .ok (.aload_n 0, 1) := by decide +kernel
theorem d_Loans_settle_50 : decode b_Loans_settle 50 = .ok (.getfield 15, 3) := by decide +kernel
theorem d_Loans_settle_53 : decode b_Loans_settle 53 = .ok (.iload_n 3, 1) := by decide +kernel
theorem d_Loans_settle_54 : decode b_Loans_settle 54 = .ok (.iaload, 1) := by decide +kernel
theorem d_Loans_settle_55 : decode b_Loans_settle 55 = .ok (.aload_n 0, 1) := by decide +kernel
theorem d_Loans_settle_56 : decode b_Loans_settle 56 = .ok (.getfield 21, 3) := by decide +kernel
theorem d_Loans_settle_59 : decode b_Loans_settle 59 = .ok (.iload 4, 2) := by decide +kernel
theorem d_Loans_settle_61 : decode b_Loans_settle 61 = .ok (.iaload, 1) := by decide +kernel
theorem d_Loans_settle_62 : decode b_Loans_settle 62 = .ok (.if_icmp .lt 29, 3) := by decide +kernel
theorem d_Loans_settle_65 : decode b_Loans_settle 65 = .ok (.aload_n 0, 1) := by decide +kernel
theorem d_Loans_settle_66 : decode b_Loans_settle 66 = .ok (.getfield 21, 3) := by decide +kernel
theorem d_Loans_settle_69 : decode b_Loans_settle 69 = .ok (.iload 4, 2) := by decide +kernel
theorem d_Loans_settle_71 : decode b_Loans_settle 71 = .ok (.aload_n 0, 1) := by decide +kernel
theorem d_Loans_settle_72 : decode b_Loans_settle 72 = .ok (.getfield 15, 3) := by decide +kernel
theorem d_Loans_settle_75 : decode b_Loans_settle 75 = .ok (.iload_n 3, 1) := by decide +kernel
theorem d_Loans_settle_76 : decode b_Loans_settle 76 = .ok (.iaload, 1) := by decide +kernel
theorem d_Loans_settle_77 : decode b_Loans_settle 77 = .ok (.iastore, 1) := by decide +kernel
theorem d_Loans_settle_78 : decode b_Loans_settle 78 = .ok (.aload_n 0, 1) := by decide +kernel
theorem d_Loans_settle_79 : decode b_Loans_settle 79 = .ok (.getfield 24, 3) := by decide +kernel
theorem d_Loans_settle_82 : decode b_Loans_settle 82 = .ok (.iload 4, 2) := by decide +kernel
theorem d_Loans_settle_84 : decode b_Loans_settle 84 = .ok (.aload_n 0, 1) := by decide +kernel
theorem d_Loans_settle_85 : decode b_Loans_settle 85 = .ok (.getfield 18, 3) := by decide +kernel
theorem d_Loans_settle_88 : decode b_Loans_settle 88 = .ok (.iload_n 3, 1) := by decide +kernel
theorem d_Loans_settle_89 : decode b_Loans_settle 89 = .ok (.iaload, 1) := by decide +kernel
theorem d_Loans_settle_90 : decode b_Loans_settle 90 = .ok (.iastore, 1) := by decide +kernel
theorem d_Loans_settle_91 : decode b_Loans_settle 91 = .ok (.iinc 3 1, 3) := by decide +kernel
theorem d_Loans_settle_94 : decode b_Loans_settle 94 = .ok (.goto (-76), 3) := by decide +kernel
theorem d_Loans_settle_97 : decode b_Loans_settle 97 = .ok (.return_, 1) := by decide +kernel
theorem d_Piece_init_0 : decode b_Piece_init 0 = .ok (.aload_n 0, 1) := by decide +kernel
theorem d_Piece_init_1 : decode b_Piece_init 1 = .ok (.invokespecial 3, 3) := by decide +kernel
theorem d_Piece_init_4 : decode b_Piece_init 4 = .ok (.aload_n 0, 1) := by decide +kernel
theorem d_Piece_init_5 : decode b_Piece_init 5 = .ok (.bipush 10, 2) := by decide +kernel
theorem d_Piece_init_7 : decode b_Piece_init 7 = .ok (.newarray .int, 2) := by decide +kernel
theorem d_Piece_init_9 : decode b_Piece_init 9 = .ok (.putfield 9, 3) := by decide +kernel
theorem d_Piece_init_12 : decode b_Piece_init 12 = .ok (.aload_n 0, 1) := by decide +kernel
theorem d_Piece_init_13 : decode b_Piece_init 13 = .ok (.bipush 40, 2) := by decide +kernel
theorem d_Piece_init_15 : decode b_Piece_init 15 = .ok (.newarray .int, 2) := by decide +kernel
theorem d_Piece_init_17 : decode b_Piece_init 17 = .ok (.putfield 15, 3) := by decide +kernel
theorem d_Piece_init_20 : decode b_Piece_init 20 = .ok (.aload_n 0, 1) := by decide +kernel
theorem d_Piece_init_21 : decode b_Piece_init 21 = .ok (.bipush 10, 2) := by decide +kernel
theorem d_Piece_init_23 : decode b_Piece_init 23 = .ok (.newarray .int, 2) := by decide +kernel
theorem d_Piece_init_25 : decode b_Piece_init 25 = .ok (.putfield 18, 3) := by decide +kernel
theorem d_Piece_init_28 : decode b_Piece_init 28 = .ok (.return_, 1) := by decide +kernel
theorem d_Piece_clear_0 : decode b_Piece_clear 0 = .ok (.aload_n 0, 1) := by decide +kernel
theorem d_Piece_clear_1 : decode b_Piece_clear 1 = .ok (.iconst 0, 1) := by decide +kernel
theorem d_Piece_clear_2 : decode b_Piece_clear 2 = .ok (.putfield 21, 3) := by decide +kernel
theorem d_Piece_clear_5 : decode b_Piece_clear 5 = .ok (.aload_n 0, 1) := by decide +kernel
theorem d_Piece_clear_6 : decode b_Piece_clear 6 = .ok (.iconst 0, 1) := by decide +kernel
theorem d_Piece_clear_7 : decode b_Piece_clear 7 = .ok (.putfield 25, 3) := by decide +kernel
theorem d_Piece_clear_10 : decode b_Piece_clear 10 = .ok (.aload_n 0, 1) := by decide +kernel
theorem d_Piece_clear_11 : decode b_Piece_clear 11 = .ok (.getfield 9, 3) := by decide +kernel
theorem d_Piece_clear_14 : decode b_Piece_clear 14 = .ok (.iconst 0, 1) := by decide +kernel
theorem d_Piece_clear_15 : decode b_Piece_clear 15 = .ok (.invokestatic 28, 3) := by decide +kernel
theorem d_Piece_clear_18 : decode b_Piece_clear 18 = .ok (.aload_n 0, 1) := by decide +kernel
theorem d_Piece_clear_19 : decode b_Piece_clear 19 = .ok (.getfield 18, 3) := by decide +kernel
theorem d_Piece_clear_22 : decode b_Piece_clear 22 = .ok (.iconst (-1), 1) := by decide +kernel
theorem d_Piece_clear_23 : decode b_Piece_clear 23 = .ok (.invokestatic 28, 3) := by decide +kernel
theorem d_Piece_clear_26 : decode b_Piece_clear 26 = .ok (.return_, 1) := by decide +kernel
theorem d_Piece_hasPart_0 : decode b_Piece_hasPart 0 = .ok (.iload_n 1, 1) := by decide +kernel
theorem d_Piece_hasPart_1 : decode b_Piece_hasPart 1 = .ok (.ifCond .lt 15, 3) := by decide +kernel
theorem d_Piece_hasPart_4 : decode b_Piece_hasPart 4 = .ok (.iload_n 1, 1) := by decide +kernel
theorem d_Piece_hasPart_5 : decode b_Piece_hasPart 5 = .ok (.aload_n 0, 1) := by decide +kernel
theorem d_Piece_hasPart_6 : decode b_Piece_hasPart 6 = .ok (.getfield 21, 3) := by decide +kernel
theorem d_Piece_hasPart_9 : decode b_Piece_hasPart 9 = .ok (.if_icmp .ge 7, 3) := by decide +kernel
theorem d_Piece_hasPart_12 : decode b_Piece_hasPart 12 = .ok (.iconst 1, 1) := by decide +kernel
end
section
/-! the abstract memory: values by cell and place, lengths, how many cells, how many slots -/
abbrev Mm : Type := (Nat → Nat → Int) × (Nat → Nat) × Nat × Nat
/-- a value with its tag: 0 int, 1 long, 2 + c an object of class c, 13 int row, 14 long row, 15 boolean row, 16 row of pieces, 17 the script, 18, 19 constant rows of longs, 20 a text, 22 a text's bytes, 21 (of a cell alone) a boolean -/
abbrev AV : Type := Nat × Int
def mg (M : Mm) (c k : Nat) : Int := M.1 c k
def ml (M : Mm) (c : Nat) : Nat := M.2.1 c
def mN (M : Mm) : Nat := M.2.2.1
def mZ (M : Mm) : Nat := M.2.2.2
def mp (M : Mm) (c k : Nat) (v : Int) : Mm := (fun c' k' => if c' = c ∧ k' = k then v else M.1 c' k', M.2)
def mw (M : Mm) (len : Nat) : Mm := (fun c' k' => if c' = M.2.2.1 then 0 else M.1 c' k', fun c' => if c' = M.2.2.1 then len else M.2.1 c', M.2.2.1 + 1, M.2.2.2 + len)
def cI (r : Int) : Nat := (r - 1).toNat
def ok32 (x : Int) : Prop := -2147483648 ≤ x ∧ x < 2147483648
def ok64 (x : Int) : Prop := -9223372036854775808 ≤ x ∧ x < 9223372036854775808
def w32 (x : Int) : Int := (x + 2147483648) % 4294967296 - 2147483648
def w64 (x : Int) : Int := (x + 9223372036854775808) % 18446744073709551616 - 9223372036854775808
theorem w32_ok (x : Int) : ok32 (w32 x) := by unfold ok32 w32; omega
theorem w64_ok (x : Int) : ok64 (w64 x) := by unfold ok64 w64; omega
theorem w32_id {x : Int} (h : ok32 x) : w32 x = x := by unfold ok32 at h; unfold w32; omega
theorem w64_id {x : Int} (h : ok64 x) : w64 x = x := by unfold ok64 at h; unfold w64; omega
theorem i32_t (x : Int) : (Int32.ofInt x).toInt = w32 x := by
  rw [Int32.toInt_ofInt, Int.bmod_def]; unfold w32
  simp only [Int32.size]; split <;> omega
theorem i64_t (x : Int) : (Int64.ofInt x).toInt = w64 x := by
  rw [Int64.toInt_ofInt, Int.bmod_def]; unfold w64
  simp only [Int64.size]; split <;> omega
theorem i32_w (x : Int) : Int32.ofInt (w32 x) = Int32.ofInt x := by
  apply Int32.toInt_inj.mp; rw [i32_t, i32_t, w32_id (w32_ok x)]
theorem i64_w (x : Int) : Int64.ofInt (w64 x) = Int64.ofInt x := by
  apply Int64.toInt_inj.mp; rw [i64_t, i64_t, w64_id (w64_ok x)]
theorem i32_c {x : Int} (h : ok32 x) : (Int32.ofInt x).toInt = x := by rw [i32_t, w32_id h]
theorem i64_c {x : Int} (h : ok64 x) : (Int64.ofInt x).toInt = x := by rw [i64_t, w64_id h]
theorem i32_of (x : Int32) : Int32.ofInt x.toInt = x := Int32.ofInt_toInt x
theorem i64_of (x : Int64) : Int64.ofInt x.toInt = x := Int64.ofInt_toInt x
theorem i32_ok (x : Int32) : ok32 x.toInt := by
  have h1 := x.le_toInt; have h2 := x.toInt_lt; unfold ok32; omega
theorem i64_ok (x : Int64) : ok64 x.toInt := by
  have h1 := x.le_toInt; have h2 := x.toInt_lt; unfold ok64; omega
theorem i32_eq {a b : Int} (ha : ok32 a) (hb : ok32 b) : Int32.ofInt a = Int32.ofInt b ↔ a = b := by
  constructor
  · intro h; rw [← i32_c ha, ← i32_c hb, h]
  · intro h; rw [h]
theorem i32_lt {a b : Int} (ha : ok32 a) (hb : ok32 b) : Int32.ofInt a < Int32.ofInt b ↔ a < b := by
  rw [Int32.lt_iff_toInt_lt, i32_c ha, i32_c hb]
theorem i32_le {a b : Int} (ha : ok32 a) (hb : ok32 b) : Int32.ofInt a ≤ Int32.ofInt b ↔ a ≤ b := by
  rw [Int32.le_iff_toInt_le, i32_c ha, i32_c hb]
theorem i64_eq {a b : Int} (ha : ok64 a) (hb : ok64 b) : Int64.ofInt a = Int64.ofInt b ↔ a = b := by
  constructor
  · intro h; rw [← i64_c ha, ← i64_c hb, h]
  · intro h; rw [h]
theorem i64_lt {a b : Int} (ha : ok64 a) (hb : ok64 b) : Int64.ofInt a < Int64.ofInt b ↔ a < b := by
  rw [Int64.lt_iff_toInt_lt, i64_c ha, i64_c hb]
theorem i64_le {a b : Int} (ha : ok64 a) (hb : ok64 b) : Int64.ofInt a ≤ Int64.ofInt b ↔ a ≤ b := by
  rw [Int64.le_iff_toInt_le, i64_c ha, i64_c hb]
theorem ok32_0 : ok32 0 := by unfold ok32; omega
theorem i32_0 : Int32.ofInt 0 = 0 := rfl
/-- the place of a cell in a row: in range, and which -/
theorem i32_in {a : Int} {n : Nat} (ha : ok32 a) (h0 : 0 ≤ a) (hn : a < n) : vp_in (Int32.ofInt a) n := by
  rw [vp_in_iff, i32_c ha]; exact ⟨h0, hn⟩
theorem i32_cl {a : Int} (ha : ok32 a) : (Int32.ofInt a).toNatClampNeg = a.toNat := by
  show (Int32.ofInt a).toInt.toNat = a.toNat
  rw [i32_c ha]
/-! bits, shifts, quotients: as the machine has them -/
def bAnd (a b : Int) : Int := (Int32.ofInt a &&& Int32.ofInt b).toInt
def bOr (a b : Int) : Int := (Int32.ofInt a ||| Int32.ofInt b).toInt
def bXor (a b : Int) : Int := (Int32.ofInt a ^^^ Int32.ofInt b).toInt
def bShl (a b : Int) : Int := (Int32.ofInt a <<< (Int32.ofInt b &&& 31)).toInt
def bShr (a b : Int) : Int := (Int32.ofInt a >>> (Int32.ofInt b &&& 31)).toInt
def bUshr (a b : Int) : Int := ((Int32.ofInt a).toUInt32 >>> ((Int32.ofInt b).toUInt32 &&& Int32.toUInt32 31)).toInt32.toInt
def lOr (a b : Int) : Int := (Int64.ofInt a ||| Int64.ofInt b).toInt
def lShl (a b : Int) : Int := (Int64.ofInt a <<< ((Int32.ofInt b).toInt64 &&& 63)).toInt
def iDiv (a b : Int) : Int := (Int32.ofInt a / Int32.ofInt b).toInt
def iRem (a b : Int) : Int := (Int32.ofInt a - Int32.ofInt a / Int32.ofInt b * Int32.ofInt b).toInt
def lDiv (a b : Int) : Int := (Int64.ofInt a / Int64.ofInt b).toInt
def lRem (a b : Int) : Int := (Int64.ofInt a - Int64.ofInt a / Int64.ofInt b * Int64.ofInt b).toInt
/-! the classes, their slots' tags -/
abbrev cls : List vw_C := [(R_Cover, F_Cover, 4), (R_Library, F_Library, 3), (R_Loans, F_Loans, 6), (R_Piece, F_Piece, 9), (R_Planner, F_Planner, 9), (R_Players, F_Players, 6), (R_Rule, F_Rule, 7), (R_Seater, F_Seater, 7), (R_Tape, F_Tape, 10), (R_Band, F_Band, 8), (R_Model, F_Model, 48)]
def fl (t : Nat) : List Nat := match t with
  | 2 => [13, 13, 13, 0]
  | 3 => [16, 0, 0]
  | 4 => [13, 13, 13, 13, 13, 0]
  | 5 => [13, 13, 13, 0, 0, 0, 0, 0, 0]
  | 6 => [13, 0, 0, 13, 13, 13, 13, 0, 14]
  | 7 => [13, 13, 13, 13, 0, 0]
  | 8 => [13, 13, 13, 13, 0, 0, 0]
  | 9 => [14, 14, 14, 14, 13, 13, 0]
  | 10 => [13, 0, 0, 0, 0, 0, 0, 0, 0, 0]
  | 11 => [7, 3, 10, 8, 4, 2, 9, 6]
  | 12 => [0, 0, 13, 13, 13, 15, 13, 0, 14, 13, 13, 13, 13, 13, 13, 13, 13, 13, 0, 0, 13, 13, 15, 15, 0, 13, 13, 13, 13, 0, 0, 0, 0, 0, 1, 0, 0, 0, 0, 13, 13, 0, 13, 13, 0, 13, 13, 0]
  | _ => []
/-- how many slots an object of a tag has -/
def nf (t : Nat) : Nat := (fl t).length
/-- the tag of place k of a cell of kind t -/
def ft (t k : Nat) : Nat := if t = 13 then 0 else if t = 14 then 1 else if t = 15 then 21 else if t = 16 then 5 else (fl t).getD k 0
/-- the claim's constants: class numbers and slots; array classes of int, long, boolean, pieces; special addresses; the script -/
abbrev GG : Type := va_G × (ClassId × ClassId × ClassId × ClassId) × (Nat → Nat)
/-- the script: its length, its ints -/
abbrev XX : Type := Nat × (Nat → Int)
def cv (G : GG) (ad : Nat → Nat) (q : AV) : Value :=
  if q.1 = 0 then .int (Int32.ofInt q.2) else if q.1 = 1 then .long (Int64.ofInt q.2) else if q.1 ≤ 16 then va_rf (if q.2 = 0 then none else some (ad (cI q.2))) else if q.1 = 20 then .ref (G.2.2 (100 + q.2.toNat)) else if q.1 = 22 then .ref (G.2.2 (200 + q.2.toNat)) else if q.1 = 23 then va_rf (if G.2.2 23 = 0 then none else some (G.2.2 24)) else .ref (G.2.2 q.1)
def okV (kd : Nat → Nat) (n : Nat) (q : AV) : Prop := (q.1 = 0 → ok32 q.2) ∧ (q.1 = 1 → ok64 q.2) ∧ (2 ≤ q.1 → q.1 ≤ 16 → q.2 = 0 ∨ ∃ c : Nat, q.2 = (c : Int) + 1 ∧ c < n ∧ kd c = q.1) ∧ (q.1 = 21 → q.2 = 0 ∨ q.2 = 1) ∧ (q.1 = 20 ∨ q.1 = 22 → 0 ≤ q.2 ∧ q.2 < 9)
def WT (kd : Nat → Nat) (M : Mm) : Prop := ∀ c, c < mN M → 2 ≤ kd c ∧ kd c ≤ 16 ∧ ml M c < 2147483648 ∧ ∀ k, okV kd (mN M) (ft (kd c) k, mg M c k)
def cE (G : GG) (ad kd : Nat → Nat) (M : Mm) (c : Nat) : va_E :=
  if kd c ≤ 12 then .inr (kd c - 2, (List.range (nf (kd c))).map fun k => cv G ad (ft (kd c) k, mg M c k)) else if kd c = 13 then .inl (G.2.1.1, ml M c, .inl fun k => Int32.ofInt (mg M c k)) else if kd c = 14 then .inl (G.2.1.2.1, ml M c, .inr (.inl fun k => Int64.ofInt (mg M c k))) else if kd c = 15 then .inl (G.2.1.2.2.1, ml M c, .inl fun k => Int32.ofInt (mg M c k)) else .inl (G.2.1.2.2.2, ml M c, .inr (.inr (.inr (.inr fun k => if mg M c k = 0 then none else some (ad (cI (mg M c k)))))))
def wl (G : GG) (ad kd : Nat → Nat) (M : Mm) : va_W := (List.range (mN M)).map fun c => (ad c, cE G ad kd M c)
abbrev tyG (G : GG) : List (ClassId × FieldType) := [(G.2.1.1, .int), (G.2.1.2.1, .long), (G.2.1.2.2.1, .boolean), (G.2.1.2.2.2, .object "TownBand$Piece")]
def tblG : List Cond := lw_tbl.filter goodWord
def isNest : Cond → Bool
  | .fieldLinkNest .. => true
  | .methodLinkNest .. => true
  | _ => false
def tblN : List Cond := tables_1.filter isNest
theorem tG {i : Nat} {w : Cond} (h : tables_1[i]? = some w) (hg : goodWord w = true) : w ∈ tblG := List.mem_filter.mpr ⟨List.mem_append_right _ (List.mem_of_getElem? h), hg⟩
theorem tS {i : Nat} {q : MethodName × Nat} (h : lw_privs[i]? = some q) : Cond.selects q.1.cls q.1 q.1 ∈ tblG := List.mem_filter.mpr ⟨List.mem_append_left _ (List.mem_map.mpr ⟨q, List.mem_of_getElem? h, rfl⟩), rfl⟩
theorem tN {i : Nat} {w : Cond} (h : tables_1[i]? = some w) (hg : isNest w = true) : w ∈ tblN := List.mem_filter.mpr ⟨List.mem_of_getElem? h, hg⟩
theorem tblG_good (w : Cond) (h : w ∈ tblG) : goodWord w = true := (List.mem_filter.mp h).2
/-! constant rows of longs, texts -/
def dg1 : List Int := [38443359375, 2562890625, 170859375, 11390625, 759375, 50625, 3375, 225, 15, 1]
def dg2 : List Int := [1000000000, 100000000, 10000000, 1000000, 100000, 10000, 1000, 100, 10, 1]
/-- the texts: piece, must, may, or, age, days, past, out, day -/
def txL : List Nat := [5, 4, 3, 2, 3, 4, 4, 3, 3]
def txB : List (List Int32) := [[112, 105, 101, 99, 101], [109, 117, 115, 116], [109, 97, 121], [111, 114], [97, 103, 101], [100, 97, 121, 115], [112, 97, 115, 116], [111, 117, 116], [100, 97, 121]]
def txK : List (String × Nat × String) := [("TownBand$Library", 31, "piece"), ("TownBand$Library", 95, "must"), ("TownBand$Library", 97, "may"), ("TownBand$Library", 99, "or"), ("TownBand$Rule", 72, "age"), ("TownBand$Rule", 78, "days"), ("TownBand$Rule", 80, "past"), ("TownBand$Rule", 82, "out"), ("TownBand$Rule", 84, "day")]
/-- what stands outside the world: the script, constants, texts, links among nest mates -/
def Sp (X : XX) (G : GG) (A : Nat → Prop) (U : State) (H : Heap) : Prop :=
  (va_X (G.2.2 17) X.1 (fun j => Int32.ofInt (X.2 j)) U H ∧ G.2.2 17 < H.size ∧ ¬ A (G.2.2 17)) ∧
  (va_Z "TownBand$Seater" "DIGIT" "[J" (.ref (G.2.2 18)) A U H ∧ va_T .long (G.2.2 18) 10 (fun j => .long (Int64.ofInt (dg1.getD j 0))) A U H) ∧
  (va_Z "TownBand$Planner" "DIGIT" "[J" (.ref (G.2.2 19)) A U H ∧ va_T .long (G.2.2 19) 10 (fun j => .long (Int64.ofInt (dg2.getD j 0))) A U H) ∧
  (∀ w ∈ tblN, va_Nw w U) ∧
  (vk_S 9 txL txB (fun i => G.2.2 (100 + i)) (fun i => G.2.2 (200 + i)) A U H ∧ ∀ (i : Nat) (q : String × Nat × String), txK[i]? = some q → vk_R q.1 q.2.1 q.2.2 (G.2.2 (100 + i)) U) ∧
  (va_Z "java/lang/String" "COMPACT_STRINGS" "Z" (.int 1) A U H ∧ va_Z "jdk/internal/util/Preconditions" "SIOOBE_FORMATTER" "Ljava/util/function/BiFunction;" (va_rf (if G.2.2 23 = 0 then none else some (G.2.2 24))) A U H) ∧
  va_AO "TownBand$Piece" U
abbrev MI : Type := MethodName × ByteArray × Nat × Option FieldType × String
/-- what stands throughout a method -/
def Cx (X : XX) (mi : MI) (G : GG) (d : Nat) (R : Room) (p : Program) (s : State) (m : MethodId) (args : Array Value) (meth : Method) (c : Code) (A : Nat → Prop) : Prop :=
  p.tables.exec = Jvm.exec ∧ c.code = mi.2.1 ∧ c.maxLocals = mi.2.2.1 ∧ s.vm.findClass mi.2.2.2.2 = some m.cls ∧ (∀ w ∈ tblG, w.before args s = true) ∧ meth.name = mi.1.name ∧ (∀ q, s.heap.size ≤ q → A q) ∧ Sp X G A s s.heap ∧ va_K G.1 cls (tyG G) s ∧ d ≤ R.frames ∧ 64 * d ≤ R.locals
def Sx (G : GG) (ad kd : Nat → Nat) (M : Mm) (A : Nat → Prop) (s : State) (H : Heap) (locs : List Loc) : Prop := WT kd M ∧ va_P G.1 cls (wl G ad kd M) H ∧ va_D A (wl G ad kd M) ∧ va_S A s.heap H locs
/-- the return's instruction, by what is returned -/
def rD (mi : MI) (pc : Nat) (r : Option AV) : Prop := match r with
  | none => decode mi.2.1 pc = .ok (.return_, 1)
  | some q => if q.1 = 0 then decode mi.2.1 pc = .ok (.ireturn, 1) else if q.1 = 1 then decode mi.2.1 pc = .ok (.lreturn, 1) else decode mi.2.1 pc = .ok (.areturn, 1)
/-- what is returned fits the method's kind -/
def rO (mi : MI) (kd : Nat → Nat) (n : Nat) (r : Option AV) : Prop := match r with
  | none => mi.2.2.2.1 = none
  | some q => okV kd n q ∧ ((q.1 = 0 ∧ (mi.2.2.2.1 = some .int ∨ (mi.2.2.2.1 = some .boolean ∧ (q.2 = 0 ∨ q.2 = 1)) ∨ (mi.2.2.2.1 = some .byte ∧ q.2 = 0) ∨ (mi.2.2.2.1 = some .char ∧ 0 ≤ q.2 ∧ q.2 < 128))) ∨ (q.1 = 1 ∧ mi.2.2.2.1 = some .long) ∨ (2 ≤ q.1 ∧ q.1 ≤ 16 ∧ ∃ C, mi.2.2.2.1 = some (.object C)))
/-- a boolean method answers 0 or 1 -/
def rB (mi : MI) (r : Option AV) : Prop := ∀ q, r = some q → mi.2.2.2.1 = some .boolean → q.2 = 0 ∨ q.2 = 1
def lvs (G : GG) (ad : Nat → Nat) (L : List (Nat × AV)) : List (Nat × Value) := L.map fun q => (q.1, cv G ad q.2)
/-- from here (place, locals, stack, memory) the method comes to its end, answers r, and the memory is M' -/
def Ev (X : XX) (mi : MI) (d pc : Nat) (L : List (Nat × AV)) (st : List AV) (M : Mm) (r : Option AV) (M' : Mm) : Prop :=
  (mN M ≤ mN M' ∧ mZ M ≤ mZ M') ∧ rB mi r ∧
  ∀ (G : GG) (R : Room) (p : Program) (l : Launch) (e : Env) (s : State) (m : MethodId) (args : Array Value) (below : List Frame) (meth : Method) (c : Code) (Q : State → Prop) (A : Nat → Prop) (kd ad : Nat → Nat) (H : Heap) (locs : List Loc) (cells slots : Nat) (ls : Array Slot),
    Cx X mi G d R p s m args meth c A → Sx G ad kd M A s H locs → (∀ q ∈ st, okV kd (mN M) q) → (∀ q ∈ L, okV kd (mN M) q.2) → lv_has ls mi.2.2.1 (lvs G ad L) →
    cells + (mN M' - mN M) ≤ R.cells → slots + (mZ M' - mZ M) ≤ R.slots →
    (∀ (kd' ad' : Nat → Nat) (H' : Heap) (locs' : List Loc) (cells' slots' pc' : Nat) (ls' : Array Slot), (∀ c, c < mN M → kd' c = kd c ∧ ad' c = ad c) → Sx G ad' kd' M' A s H' locs' → rO mi kd' (mN M') r → rD mi pc' r → cells' ≤ cells + (mN M' - mN M) → slots' ≤ slots + (mZ M' - mZ M) →
      W p l e R s m args below meth c H' locs' cells' slots' Q (F0 m pc' ls' (r.toList.map (cv G ad')))) →
    W p l e R s m args below meth c H locs cells slots Q (F0 m pc ls (st.map (cv G ad)))
/-- the room of a call -/
abbrev rmF (d : Nat) (M M' : Mm) : Room := { frames := d, cells := mN M' - mN M, slots := mZ M' - mZ M, locals := 64 * d }
abbrev wsM (mi : MI) : List Cond := .code mi.1 mi.2.1 mi.2.2.1 mi.2.2.2.1 :: tblG
def preR (X : XX) (G : GG) (ad kd : Nat → Nat) (sz : Nat) (M : Mm) (U : State) : Prop := U.heap.size = sz ∧ va_P G.1 cls (wl G ad kd M) U.heap ∧ va_K G.1 cls (tyG G) U ∧ va_D (fun _ => True) (wl G ad kd M) ∧ Sp X G (va_A (wl G ad kd M) sz) U U.heap
def posR (mi : MI) (G : GG) (ad kd : Nat → Nat) (sz : Nat) (M : Mm) (r : Option AV) (M' : Mm) : Array Value → State → Outcome → State → Prop := fun _ st o t =>
  (∃ kd' ad' : Nat → Nat, o = .returned (r.map (cv G ad')) ∧ (∀ c, c < mN M → kd' c = kd c ∧ ad' c = ad c) ∧ WT kd' M' ∧ rO mi kd' (mN M') r ∧ va_P G.1 cls (wl G ad' kd' M') t.heap ∧ va_K G.1 cls (tyG G) t ∧ va_D (va_A (wl G ad kd M) sz) (wl G ad' kd' M')) ∧ va_F (va_A (wl G ad kd M) sz) st t
/-- the method's contract at these arguments and this memory -/
def Rn (X : XX) (d : Nat) (mi : MI) (as : List AV) (M : Mm) (r : Option AV) (M' : Mm) : Prop :=
  (mN M ≤ mN M' ∧ mZ M ≤ mZ M') ∧ rB mi r ∧
  ∀ (l : Launch) (G : GG) (ad kd : Nat → Nat) (sz : Nat), WT kd M → (∀ q ∈ as, okV kd (mN M) q) →
    Met l mi.1 (wsM mi) (rmF d M M') (va_Pc (as.map (cv G ad)) (preR X G ad kd sz M)) (posR mi G ad kd sz M r M') (mN M' - mN M) (mZ M' - mZ M) (va_A (wl G ad kd M) sz)
end
section
/-! the step of an instruction that leaves the memory -/
theorem ev_step {X : XX} {mi : MI} {d pc pc' : Nat} {L L' : List (Nat × AV)} {st st' : List AV} {M : Mm} {r : Option AV} {M' : Mm} (h : Ev X mi d pc' L' st' M r M')
    (step : ∀ (G : GG) (R : Room) (p : Program) (l : Launch) (e : Env) (s : State) (m : MethodId) (args : Array Value) (below : List Frame) (meth : Method) (c : Code) (Q : State → Prop) (A : Nat → Prop) (kd ad : Nat → Nat) (H : Heap) (locs : List Loc) (cells slots : Nat) (ls : Array Slot),
      Cx X mi G d R p s m args meth c A → Sx G ad kd M A s H locs → (∀ q ∈ st, okV kd (mN M) q) → (∀ q ∈ L, okV kd (mN M) q.2) → lv_has ls mi.2.2.1 (lvs G ad L) →
      (∀ q ∈ st', okV kd (mN M) q) ∧ (∀ q ∈ L', okV kd (mN M) q.2) ∧ ((∀ ls' : Array Slot, lv_has ls' mi.2.2.1 (lvs G ad L') → W p l e R s m args below meth c H locs cells slots Q (F0 m pc' ls' (st'.map (cv G ad)))) → W p l e R s m args below meth c H locs cells slots Q (F0 m pc ls (st.map (cv G ad))))) :
    Ev X mi d pc L st M r M' := by
  refine ⟨h.1, h.2.1, ?_⟩
  intro G R p l e s m args below meth c Q A kd ad H locs cells slots ls hC hX hst hL hl hc hs he
  obtain ⟨a1, a2, a3⟩ := step G R p l e s m args below meth c Q A kd ad H locs cells slots ls hC hX hst hL hl
  exact a3 fun ls' hl' => h.2.2 G R p l e s m args below meth c Q A kd ad H locs cells slots ls' hC hX a1 a2 hl' hc hs he
theorem okI {kd : Nat → Nat} {n : Nat} {v : Int} (h : ok32 v) : okV kd n (0, v) := ⟨fun _ => h, fun h => by simp at h, fun h => by simp at h, fun h => by simp at h, fun h => by simp at h⟩
theorem okJ {kd : Nat → Nat} {n : Nat} {v : Int} (h : ok64 v) : okV kd n (1, v) := ⟨fun h => by simp at h, fun _ => h, fun h => by simp at h, fun h => by simp at h, fun h => by simp at h⟩
theorem cv_i (G : GG) (ad : Nat → Nat) (v : Int) : cv G ad (0, v) = .int (Int32.ofInt v) := rfl
theorem cv_l (G : GG) (ad : Nat → Nat) (v : Int) : cv G ad (1, v) = .long (Int64.ofInt v) := rfl
theorem cv_n (G : GG) (ad : Nat → Nat) {t : Nat} (h2 : 2 ≤ t) (h16 : t ≤ 16) : cv G ad (t, 0) = .null := by
  unfold cv; rw [if_neg (by omega), if_neg (by omega), if_pos h16]; rfl
theorem cv_r (G : GG) (ad : Nat → Nat) {t : Nat} {v : Int} (h2 : 2 ≤ t) (h16 : t ≤ 16) (hv : v ≠ 0) : cv G ad (t, v) = .ref (ad (cI v)) := by
  unfold cv; rw [if_neg (by omega), if_neg (by omega), if_pos h16]; simp only [hv, if_false]; rfl
theorem cv_or (G : GG) (ad : Nat → Nat) {t : Nat} {v : Int} (h2 : 2 ≤ t) : cv G ad (t, v) = .null ∨ ∃ a, cv G ad (t, v) = .ref a := by
  unfold cv; rw [if_neg (by omega), if_neg (by omega)]
  split
  · exact va_rf_or _
  · split
    · exact Or.inr ⟨_, rfl⟩
    · split
      · exact Or.inr ⟨_, rfl⟩
      · split
        · exact va_rf_or _
        · exact Or.inr ⟨_, rfl⟩
theorem cv_cat (G : GG) (ad : Nat → Nat) (q : AV) : (cv G ad q).category = if q.1 = 1 then 2 else 1 := by
  by_cases h1 : q.1 = 1
  · obtain ⟨t, v⟩ := q; simp only at h1; subst h1; rfl
  · rw [if_neg h1]
    by_cases h0 : q.1 = 0
    · obtain ⟨t, v⟩ := q; simp only at h0; subst h0; rfl
    · rcases cv_or G ad (t := q.1) (v := q.2) (by omega) with h | ⟨a, h⟩ <;> (have e : q = (q.1, q.2) := rfl) <;> rw [e, h] <;> rfl
theorem ok_hd {kd : Nat → Nat} {n : Nat} {a : AV} {st : List AV} (h : ∀ q ∈ a :: st, okV kd n q) : okV kd n a := h a List.mem_cons_self
theorem ok_tl {kd : Nat → Nat} {n : Nat} {a : AV} {st : List AV} (h : ∀ q ∈ a :: st, okV kd n q) : ∀ q ∈ st, okV kd n q := fun q hq => h q (List.mem_cons_of_mem _ hq)
theorem ok_cs {kd : Nat → Nat} {n : Nat} {a : AV} {st : List AV} (ha : okV kd n a) (h : ∀ q ∈ st, okV kd n q) : ∀ q ∈ a :: st, okV kd n q := fun q hq => (List.mem_cons.mp hq).elim (fun e => e ▸ ha) (h q)
section EV
variable {X : XX} {mi : MI} {d pc : Nat} {L : List (Nat × AV)} {st : List AV} {M : Mm} {r : Option AV} {M' : Mm}
theorem ev_iconst {v : Int} (hd : decode mi.2.1 pc = .ok (.iconst v, 1)) (hv : (decide (-2147483648 ≤ v) && decide (v < 2147483648)) = true) (h : Ev X mi d (pc + 1) L ((0, v) :: st) M r M') : Ev X mi d pc L st M r M' := by
  have hv : ok32 v := by simp only [Bool.and_eq_true, decide_eq_true_eq] at hv; exact hv
  refine ev_step h ?_
  intro G R p l e s m args below meth c Q A kd ad H locs cells slots ls hC hX hst hL hl
  exact ⟨ok_cs (okI hv) hst, hL, fun k => lv_iconst hC.1 hC.2.1 hd rfl (k ls hl)⟩
theorem ev_bipush {v : Int} (hd : decode mi.2.1 pc = .ok (.bipush v, 2)) (hv : (decide (-128 ≤ v) && decide (v < 128)) = true) (h : Ev X mi d (pc + 2) L ((0, v) :: st) M r M') : Ev X mi d pc L st M r M' := by
  have hv : -128 ≤ v ∧ v < 128 := by simp only [Bool.and_eq_true, decide_eq_true_eq] at hv; exact hv
  refine ev_step h ?_
  intro G R p l e s m args below meth c Q A kd ad H locs cells slots ls hC hX hst hL hl
  refine ⟨ok_cs (okI (by unfold ok32; omega)) hst, hL, fun k => lv_bipush hC.1 hC.2.1 hd ?_ (k ls hl)⟩
  apply Int32.toInt_inj.mp
  rw [i32_c (by unfold ok32; omega), Int8.toInt_toInt32, Int8.toInt_ofInt, Int.bmod_def]
  simp only [Int8.size]; split <;> omega
theorem ev_sipush {v : Int} (hd : decode mi.2.1 pc = .ok (.sipush v, 3)) (hv : (decide (-32768 ≤ v) && decide (v < 32768)) = true) (h : Ev X mi d (pc + 3) L ((0, v) :: st) M r M') : Ev X mi d pc L st M r M' := by
  have hv : -32768 ≤ v ∧ v < 32768 := by simp only [Bool.and_eq_true, decide_eq_true_eq] at hv; exact hv
  refine ev_step h ?_
  intro G R p l e s m args below meth c Q A kd ad H locs cells slots ls hC hX hst hL hl
  refine ⟨ok_cs (okI (by unfold ok32; omega)) hst, hL, fun k => lv_sipush hC.1 hC.2.1 hd ?_ (k ls hl)⟩
  apply Int32.toInt_inj.mp
  rw [i32_c (by unfold ok32; omega), Int16.toInt_toInt32, Int16.toInt_ofInt, Int.bmod_def]
  simp only [Int16.size]; split <;> omega
theorem ev_ldc {i : Nat} {v : Int} (hd : decode mi.2.1 pc = .ok (.ldc i, 2)) (hw : Cond.constant mi.2.2.2.2 i (Int32.ofInt v) ∈ tblG) (hv : (decide (-2147483648 ≤ v) && decide (v < 2147483648)) = true) (h : Ev X mi d (pc + 2) L ((0, v) :: st) M r M') : Ev X mi d pc L st M r M' := by
  have hv : ok32 v := by simp only [Bool.and_eq_true, decide_eq_true_eq] at hv; exact hv
  refine ev_step h ?_
  intro G R p l e s m args below meth c Q A kd ad H locs cells slots ls hC hX hst hL hl
  exact ⟨ok_cs (okI hv) hst, hL, fun k => lv_ldc hC.1 hC.2.1 hC.2.2.2.1 (hC.2.2.2.2.1 _ hw) hd (k ls hl)⟩
theorem ev_ldcw {i : Nat} {v : Int} (hd : decode mi.2.1 pc = .ok (.ldc_w i, 3)) (hw : Cond.constant mi.2.2.2.2 i (Int32.ofInt v) ∈ tblG) (hv : (decide (-2147483648 ≤ v) && decide (v < 2147483648)) = true) (h : Ev X mi d (pc + 3) L ((0, v) :: st) M r M') : Ev X mi d pc L st M r M' := by
  have hv : ok32 v := by simp only [Bool.and_eq_true, decide_eq_true_eq] at hv; exact hv
  refine ev_step h ?_
  intro G R p l e s m args below meth c Q A kd ad H locs cells slots ls hC hX hst hL hl
  exact ⟨ok_cs (okI hv) hst, hL, fun k => lv_ldcw hC.1 hC.2.1 hC.2.2.2.1 (hC.2.2.2.2.1 _ hw) hd (k ls hl)⟩
theorem ev_ldc2 {i : Nat} {v : Int} (hd : decode mi.2.1 pc = .ok (.ldc2_w i, 3)) (hw : Cond.constantLong mi.2.2.2.2 i (Int64.ofInt v) ∈ tblG) (hv : (decide (-9223372036854775808 ≤ v) && decide (v < 9223372036854775808)) = true) (h : Ev X mi d (pc + 3) L ((1, v) :: st) M r M') : Ev X mi d pc L st M r M' := by
  have hv : ok64 v := by simp only [Bool.and_eq_true, decide_eq_true_eq] at hv; exact hv
  refine ev_step h ?_
  intro G R p l e s m args below meth c Q A kd ad H locs cells slots ls hC hX hst hL hl
  exact ⟨ok_cs (okJ hv) hst, hL, fun k => lv_ldc2 hC.1 hC.2.1 hC.2.2.2.1 (hC.2.2.2.2.1 _ hw) hd (k ls hl)⟩
theorem lv_of {G : GG} {ad : Nat → Nat} {ls : Array Slot} {n k i : Nat} {q : AV} (hl : lv_has ls n (lvs G ad L)) (hk : L[k]? = some (i, q)) : ls[i]? = some (.val (cv G ad q)) :=
  lv_at hl k (by unfold lvs; rw [List.getElem?_map, hk]; rfl)
theorem okL_at {kd : Nat → Nat} {n k i : Nat} {q : AV} (hL : ∀ q ∈ L, okV kd n q.2) (hk : L[k]? = some (i, q)) : okV kd n q := hL (i, q) (List.mem_of_getElem? hk)
theorem ev_iload_n {j : Fin 4} {v : Int} (k : Nat) {i : Nat} (hd : decode mi.2.1 pc = .ok (.iload_n j, 1)) (hi : (j : Nat) = i) (hk : L[k]? = some (i, (0, v))) (h : Ev X mi d (pc + 1) L ((0, v) :: st) M r M') : Ev X mi d pc L st M r M' := by
  refine ev_step h ?_
  intro G R p l e s m args below meth c Q A kd ad H locs cells slots ls hC hX hst hL hl
  exact ⟨ok_cs (okL_at hL hk) hst, hL, fun k => lv_iload_n hC.1 hC.2.1 hd hi (lv_of hl hk) (k ls hl)⟩
theorem ev_iload {v : Int} (k : Nat) {i : Nat} (hd : decode mi.2.1 pc = .ok (.iload i, 2)) (hk : L[k]? = some (i, (0, v))) (h : Ev X mi d (pc + 2) L ((0, v) :: st) M r M') : Ev X mi d pc L st M r M' := by
  refine ev_step h ?_
  intro G R p l e s m args below meth c Q A kd ad H locs cells slots ls hC hX hst hL hl
  exact ⟨ok_cs (okL_at hL hk) hst, hL, fun k => lv_iload hC.1 hC.2.1 hd (lv_of hl hk) (k ls hl)⟩
theorem ev_lload_n {j : Fin 4} {v : Int} (k : Nat) {i : Nat} (hd : decode mi.2.1 pc = .ok (.lload_n j, 1)) (hi : (j : Nat) = i) (hk : L[k]? = some (i, (1, v))) (h : Ev X mi d (pc + 1) L ((1, v) :: st) M r M') : Ev X mi d pc L st M r M' := by
  refine ev_step h ?_
  intro G R p l e s m args below meth c Q A kd ad H locs cells slots ls hC hX hst hL hl
  exact ⟨ok_cs (okL_at hL hk) hst, hL, fun k => lv_lload_n hC.1 hC.2.1 hd hi (lv_of hl hk) (k ls hl)⟩
theorem ev_lload {v : Int} (k : Nat) {i : Nat} (hd : decode mi.2.1 pc = .ok (.lload i, 2)) (hk : L[k]? = some (i, (1, v))) (h : Ev X mi d (pc + 2) L ((1, v) :: st) M r M') : Ev X mi d pc L st M r M' := by
  refine ev_step h ?_
  intro G R p l e s m args below meth c Q A kd ad H locs cells slots ls hC hX hst hL hl
  exact ⟨ok_cs (okL_at hL hk) hst, hL, fun k => lv_lload hC.1 hC.2.1 hd (lv_of hl hk) (k ls hl)⟩
theorem ev_aload_n {j : Fin 4} {t : Nat} {v : Int} (k : Nat) {i : Nat} (hd : decode mi.2.1 pc = .ok (.aload_n j, 1)) (hi : (j : Nat) = i) (ht : 2 ≤ t) (hk : L[k]? = some (i, (t, v))) (h : Ev X mi d (pc + 1) L ((t, v) :: st) M r M') : Ev X mi d pc L st M r M' := by
  refine ev_step h ?_
  intro G R p l e s m args below meth c Q A kd ad H locs cells slots ls hC hX hst hL hl
  refine ⟨ok_cs (okL_at hL hk) hst, hL, fun k => ?_⟩
  have hk2 := k ls hl
  have h1 := lv_of hl hk
  rw [List.map_cons] at hk2
  rcases cv_or G ad (t := t) (v := v) ht with e | ⟨a, e⟩ <;> rw [e] at h1 hk2
  · exact lv_aload_nN hC.1 hC.2.1 hd hi h1 hk2
  · exact lv_aload_n hC.1 hC.2.1 hd hi h1 hk2
theorem ev_aload {t : Nat} {v : Int} (k : Nat) {i : Nat} (hd : decode mi.2.1 pc = .ok (.aload i, 2)) (ht : 2 ≤ t) (hk : L[k]? = some (i, (t, v))) (h : Ev X mi d (pc + 2) L ((t, v) :: st) M r M') : Ev X mi d pc L st M r M' := by
  refine ev_step h ?_
  intro G R p l e s m args below meth c Q A kd ad H locs cells slots ls hC hX hst hL hl
  refine ⟨ok_cs (okL_at hL hk) hst, hL, fun k => ?_⟩
  have hk2 := k ls hl
  have h1 := lv_of hl hk
  rw [List.map_cons] at hk2
  rcases cv_or G ad (t := t) (v := v) ht with e | ⟨a, e⟩ <;> rw [e] at h1 hk2
  · exact lv_aloadN hC.1 hC.2.1 hd h1 hk2
  · exact lv_aload hC.1 hC.2.1 hd h1 hk2
/-- the locals behind a store -/
def lset (L : List (Nat × AV)) (i : Nat) (q : AV) : List (Nat × AV) := (i, q) :: L.filter (fun x => !(x.1 == i) && !(x.1 + 1 == i && x.2.1 == 1))
def lsetL (L : List (Nat × AV)) (i : Nat) (q : AV) : List (Nat × AV) := (i, q) :: L.filter (fun x => !(x.1 == i) && (!(x.1 == i + 1) && !(x.1 + 1 == i && x.2.1 == 1)))
theorem cat_eq (G : GG) (ad : Nat → Nat) (q : AV) : ((cv G ad q).category == 2) = (q.1 == 1) := by
  rw [cv_cat]; by_cases h : q.1 = 1 <;> simp [h]
theorem lset_lvs (G : GG) (ad : Nat → Nat) (i : Nat) (q : AV) : (i, cv G ad q) :: (lvs G ad L).filter (fun x => !(x.1 == i) && !(x.1 + 1 == i && x.2.category == 2)) = lvs G ad (lset L i q) := by
  unfold lvs lset; rw [List.map_cons, List.filter_map]
  congr 2
  apply List.filter_congr; intro x hx
  simp only [Function.comp, cat_eq]
theorem lsetL_lvs (G : GG) (ad : Nat → Nat) (i : Nat) (q : AV) : (i, cv G ad q) :: (lvs G ad L).filter (fun x => !(x.1 == i) && (!(x.1 == i + 1) && !(x.1 + 1 == i && x.2.category == 2))) = lvs G ad (lsetL L i q) := by
  unfold lvs lsetL; rw [List.map_cons, List.filter_map]
  congr 2
  apply List.filter_congr; intro x hx
  simp only [Function.comp, cat_eq]
theorem ok_lset {kd : Nat → Nat} {n i : Nat} {q : AV} (hq : okV kd n q) (hL : ∀ q ∈ L, okV kd n q.2) : ∀ x ∈ lset L i q, okV kd n x.2 := fun x hx => by
  unfold lset at hx
  rcases List.mem_cons.mp hx with e | e
  · rw [e]; exact hq
  · exact hL x (List.mem_filter.mp e).1
theorem ok_lsetL {kd : Nat → Nat} {n i : Nat} {q : AV} (hq : okV kd n q) (hL : ∀ q ∈ L, okV kd n q.2) : ∀ x ∈ lsetL L i q, okV kd n x.2 := fun x hx => by
  unfold lsetL at hx
  rcases List.mem_cons.mp hx with e | e
  · rw [e]; exact hq
  · exact hL x (List.mem_filter.mp e).1
theorem ev_istore_n {j : Fin 4} {v : Int} {i : Nat} {L' : List (Nat × AV)} (hd : decode mi.2.1 pc = .ok (.istore_n j, 1)) (hi : (j : Nat) = i) (hn : i < mi.2.2.1) (hL' : lset L i (0, v) = L') (h : Ev X mi d (pc + 1) L' st M r M') : Ev X mi d pc L ((0, v) :: st) M r M' := by
  subst hL'
  refine ev_step h ?_
  intro G R p l e s m args below meth c Q A kd ad H locs cells slots ls hC hX hst hL hl
  exact ⟨ok_tl hst, ok_lset (ok_hd hst) hL, fun k => lv_istore_n hC.1 hC.2.1 hd hi hl hn (lset_lvs G ad i (0, v)) k⟩
theorem ev_istore {v : Int} {i : Nat} {L' : List (Nat × AV)} (hd : decode mi.2.1 pc = .ok (.istore i, 2)) (hn : i < mi.2.2.1) (hL' : lset L i (0, v) = L') (h : Ev X mi d (pc + 2) L' st M r M') : Ev X mi d pc L ((0, v) :: st) M r M' := by
  subst hL'
  refine ev_step h ?_
  intro G R p l e s m args below meth c Q A kd ad H locs cells slots ls hC hX hst hL hl
  exact ⟨ok_tl hst, ok_lset (ok_hd hst) hL, fun k => lv_istore hC.1 hC.2.1 hd hl hn (lset_lvs G ad i (0, v)) k⟩
theorem ev_lstore {v : Int} {i : Nat} {L' : List (Nat × AV)} (hd : decode mi.2.1 pc = .ok (.lstore i, 2)) (hn : i + 1 < mi.2.2.1) (hL' : lsetL L i (1, v) = L') (h : Ev X mi d (pc + 2) L' st M r M') : Ev X mi d pc L ((1, v) :: st) M r M' := by
  subst hL'
  refine ev_step h ?_
  intro G R p l e s m args below meth c Q A kd ad H locs cells slots ls hC hX hst hL hl
  exact ⟨ok_tl hst, ok_lsetL (ok_hd hst) hL, fun k => lv_lstore hC.1 hC.2.1 hd hl hn (lsetL_lvs G ad i (1, v)) k⟩
theorem ev_astore_n {j : Fin 4} {t : Nat} {v : Int} {i : Nat} {L' : List (Nat × AV)} (hd : decode mi.2.1 pc = .ok (.astore_n j, 1)) (hi : (j : Nat) = i) (ht : 2 ≤ t) (hn : i < mi.2.2.1) (hL' : lset L i (t, v) = L') (h : Ev X mi d (pc + 1) L' st M r M') : Ev X mi d pc L ((t, v) :: st) M r M' := by
  subst hL'
  refine ev_step h ?_
  intro G R p l e s m args below meth c Q A kd ad H locs cells slots ls hC hX hst hL hl
  refine ⟨ok_tl hst, ok_lset (ok_hd hst) hL, fun k => ?_⟩
  have h1 := lset_lvs (L := L) G ad i (t, v)
  rw [List.map_cons]
  rcases cv_or G ad (t := t) (v := v) ht with e | ⟨a, e⟩ <;> rw [e] at h1 ⊢
  · exact lv_astore_nN hC.1 hC.2.1 hd hi hl hn h1 k
  · exact lv_astore_n hC.1 hC.2.1 hd hi hl hn h1 k
theorem ev_astore {t : Nat} {v : Int} {i : Nat} {L' : List (Nat × AV)} (hd : decode mi.2.1 pc = .ok (.astore i, 2)) (ht : 2 ≤ t) (hn : i < mi.2.2.1) (hL' : lset L i (t, v) = L') (h : Ev X mi d (pc + 2) L' st M r M') : Ev X mi d pc L ((t, v) :: st) M r M' := by
  subst hL'
  refine ev_step h ?_
  intro G R p l e s m args below meth c Q A kd ad H locs cells slots ls hC hX hst hL hl
  refine ⟨ok_tl hst, ok_lset (ok_hd hst) hL, fun k => ?_⟩
  have h1 := lset_lvs (L := L) G ad i (t, v)
  rw [List.map_cons]
  rcases cv_or G ad (t := t) (v := v) ht with e | ⟨a, e⟩ <;> rw [e] at h1 ⊢
  · exact lv_astoreN hC.1 hC.2.1 hd hl hn h1 k
  · exact lv_astore hC.1 hC.2.1 hd hl hn h1 k
theorem ev_iinc {v n : Int} (k : Nat) {i : Nat} {L' : List (Nat × AV)} (hd : decode mi.2.1 pc = .ok (.iinc i n, 3)) (hk : L[k]? = some (i, (0, v))) (hn : i < mi.2.2.1) (hL' : lset L i (0, w32 (v + n)) = L') (h : Ev X mi d (pc + 3) L' st M r M') : Ev X mi d pc L st M r M' := by
  subst hL'
  refine ev_step h ?_
  intro G R p l e s m args below meth c Q A kd ad H locs cells slots ls hC hX hst hL hl
  refine ⟨hst, ok_lset (okI (w32_ok _)) hL, fun kk => ?_⟩
  refine lv_iinc (k := k) (x := Int32.ofInt v) (v := Int32.ofInt (w32 (v + n))) hC.1 hC.2.1 hd hl (by unfold lvs; rw [List.getElem?_map, hk]; rfl) ?_ hn (lset_lvs G ad i (0, w32 (v + n))) kk
  rw [i32_w, Int32.ofInt_add]
/-- fewer locals -/
theorem ev_less {L' : List (Nat × AV)} (ks : List Nat) (hs : ks.filterMap (fun k => L[k]?) = L') (h : Ev X mi d pc L' st M r M') : Ev X mi d pc L st M r M' := by
  refine ev_step h ?_
  intro G R p l e s m args below meth c Q A kd ad H locs cells slots ls hC hX hst hL hl
  refine ⟨hst, fun q hq => ?_, fun k => k ls ?_⟩
  · rw [← hs] at hq
    obtain ⟨i, -, hi⟩ := List.mem_filterMap.mp hq
    exact hL q (List.mem_of_getElem? hi)
  · refine lv_sub hl ks ?_
    unfold lv_pick lvs
    rw [← hs, List.map_filterMap]
    congr 1; funext k; rw [List.getElem?_map]
end EV
end
section
section EV2
variable {X : XX} {mi : MI} {d pc : Nat} {L : List (Nat × AV)} {st : List AV} {M : Mm} {r : Option AV} {M' : Mm}
theorem ev_iadd {a b : Int} (hd : decode mi.2.1 pc = .ok (.iadd, 1)) (h : Ev X mi d (pc + 1) L ((0, w32 (a + b)) :: st) M r M') : Ev X mi d pc L ((0, b) :: (0, a) :: st) M r M' := by
  refine ev_step h ?_
  intro G R p l e s m args below meth c Q A kd ad H locs cells slots ls hC hX hst hL hl
  refine ⟨ok_cs (okI (w32_ok _)) (ok_tl (ok_tl hst)), hL, fun k => ?_⟩
  have hk := k ls hl
  rw [List.map_cons, cv_i, i32_w, Int32.ofInt_add] at hk
  exact lv_iadd hC.1 hC.2.1 hd hk
theorem ev_isub {a b : Int} (hd : decode mi.2.1 pc = .ok (.isub, 1)) (h : Ev X mi d (pc + 1) L ((0, w32 (a - b)) :: st) M r M') : Ev X mi d pc L ((0, b) :: (0, a) :: st) M r M' := by
  refine ev_step h ?_
  intro G R p l e s m args below meth c Q A kd ad H locs cells slots ls hC hX hst hL hl
  refine ⟨ok_cs (okI (w32_ok _)) (ok_tl (ok_tl hst)), hL, fun k => ?_⟩
  have hk := k ls hl
  rw [List.map_cons, cv_i, i32_w, Int32.ofInt_sub] at hk
  exact lv_isub hC.1 hC.2.1 hd hk
theorem ev_imul {a b : Int} (hd : decode mi.2.1 pc = .ok (.imul, 1)) (h : Ev X mi d (pc + 1) L ((0, w32 (a * b)) :: st) M r M') : Ev X mi d pc L ((0, b) :: (0, a) :: st) M r M' := by
  refine ev_step h ?_
  intro G R p l e s m args below meth c Q A kd ad H locs cells slots ls hC hX hst hL hl
  refine ⟨ok_cs (okI (w32_ok _)) (ok_tl (ok_tl hst)), hL, fun k => ?_⟩
  have hk := k ls hl
  rw [List.map_cons, cv_i, i32_w, Int32.ofInt_mul] at hk
  exact lv_imul hC.1 hC.2.1 hd hk
theorem ev_iand {a b : Int} (hd : decode mi.2.1 pc = .ok (.iand, 1)) (h : Ev X mi d (pc + 1) L ((0, bAnd a b) :: st) M r M') : Ev X mi d pc L ((0, b) :: (0, a) :: st) M r M' := by
  refine ev_step h ?_
  intro G R p l e s m args below meth c Q A kd ad H locs cells slots ls hC hX hst hL hl
  refine ⟨ok_cs (okI (i32_ok _)) (ok_tl (ok_tl hst)), hL, fun k => ?_⟩
  have hk := k ls hl
  rw [List.map_cons, cv_i, bAnd, i32_of] at hk
  exact lv_iand hC.1 hC.2.1 hd hk
theorem ev_ior {a b : Int} (hd : decode mi.2.1 pc = .ok (.ior, 1)) (h : Ev X mi d (pc + 1) L ((0, bOr a b) :: st) M r M') : Ev X mi d pc L ((0, b) :: (0, a) :: st) M r M' := by
  refine ev_step h ?_
  intro G R p l e s m args below meth c Q A kd ad H locs cells slots ls hC hX hst hL hl
  refine ⟨ok_cs (okI (i32_ok _)) (ok_tl (ok_tl hst)), hL, fun k => ?_⟩
  have hk := k ls hl
  rw [List.map_cons, cv_i, bOr, i32_of] at hk
  exact lv_ior hC.1 hC.2.1 hd hk
theorem ev_ixor {a b : Int} (hd : decode mi.2.1 pc = .ok (.ixor, 1)) (h : Ev X mi d (pc + 1) L ((0, bXor a b) :: st) M r M') : Ev X mi d pc L ((0, b) :: (0, a) :: st) M r M' := by
  refine ev_step h ?_
  intro G R p l e s m args below meth c Q A kd ad H locs cells slots ls hC hX hst hL hl
  refine ⟨ok_cs (okI (i32_ok _)) (ok_tl (ok_tl hst)), hL, fun k => ?_⟩
  have hk := k ls hl
  rw [List.map_cons, cv_i, bXor, i32_of] at hk
  exact lv_ixor hC.1 hC.2.1 hd hk
theorem ev_ishl {a b : Int} (hd : decode mi.2.1 pc = .ok (.ishl, 1)) (h : Ev X mi d (pc + 1) L ((0, bShl a b) :: st) M r M') : Ev X mi d pc L ((0, b) :: (0, a) :: st) M r M' := by
  refine ev_step h ?_
  intro G R p l e s m args below meth c Q A kd ad H locs cells slots ls hC hX hst hL hl
  refine ⟨ok_cs (okI (i32_ok _)) (ok_tl (ok_tl hst)), hL, fun k => ?_⟩
  have hk := k ls hl
  rw [List.map_cons, cv_i, bShl, i32_of] at hk
  exact lv_ishl hC.1 hC.2.1 hd hk
theorem ev_ishr {a b : Int} (hd : decode mi.2.1 pc = .ok (.ishr, 1)) (h : Ev X mi d (pc + 1) L ((0, bShr a b) :: st) M r M') : Ev X mi d pc L ((0, b) :: (0, a) :: st) M r M' := by
  refine ev_step h ?_
  intro G R p l e s m args below meth c Q A kd ad H locs cells slots ls hC hX hst hL hl
  refine ⟨ok_cs (okI (i32_ok _)) (ok_tl (ok_tl hst)), hL, fun k => ?_⟩
  have hk := k ls hl
  rw [List.map_cons, cv_i, bShr, i32_of] at hk
  exact lv_ishr hC.1 hC.2.1 hd hk
theorem ev_iushr {a b : Int} (hd : decode mi.2.1 pc = .ok (.iushr, 1)) (h : Ev X mi d (pc + 1) L ((0, bUshr a b) :: st) M r M') : Ev X mi d pc L ((0, b) :: (0, a) :: st) M r M' := by
  refine ev_step h ?_
  intro G R p l e s m args below meth c Q A kd ad H locs cells slots ls hC hX hst hL hl
  refine ⟨ok_cs (okI (i32_ok _)) (ok_tl (ok_tl hst)), hL, fun k => ?_⟩
  have hk := k ls hl
  rw [List.map_cons, cv_i, bUshr, i32_of] at hk
  exact lv_iushr hC.1 hC.2.1 hd rfl hk
theorem i32_ne0 {b : Int} (hb : ok32 b) (h : b ≠ 0) : ¬ Int32.ofInt b = 0 := fun e => h ((i32_eq hb ok32_0).mp e)
theorem i64_ne0 {b : Int} (hb : ok64 b) (h : b ≠ 0) : ¬ Int64.ofInt b = 0 := fun e => h ((i64_eq hb (by unfold ok64; omega)).mp e)
theorem ev_idiv {a b : Int} (hd : decode mi.2.1 pc = .ok (.idiv, 1)) (hb0 : b ≠ 0) (h : Ev X mi d (pc + 1) L ((0, iDiv a b) :: st) M r M') : Ev X mi d pc L ((0, b) :: (0, a) :: st) M r M' := by
  refine ev_step h ?_
  intro G R p l e s m args below meth c Q A kd ad H locs cells slots ls hC hX hst hL hl
  refine ⟨ok_cs (okI (i32_ok _)) (ok_tl (ok_tl hst)), hL, fun k => ?_⟩
  have hk := k ls hl
  rw [List.map_cons, cv_i, iDiv, i32_of] at hk
  exact lv_idiv hC.1 hC.2.1 hd (i32_ne0 ((ok_hd hst).1 rfl) hb0) hk
theorem ev_irem {a b : Int} (hd : decode mi.2.1 pc = .ok (.irem, 1)) (hb0 : b ≠ 0) (h : Ev X mi d (pc + 1) L ((0, iRem a b) :: st) M r M') : Ev X mi d pc L ((0, b) :: (0, a) :: st) M r M' := by
  refine ev_step h ?_
  intro G R p l e s m args below meth c Q A kd ad H locs cells slots ls hC hX hst hL hl
  refine ⟨ok_cs (okI (i32_ok _)) (ok_tl (ok_tl hst)), hL, fun k => ?_⟩
  have hk := k ls hl
  rw [List.map_cons, cv_i, iRem, i32_of] at hk
  exact lv_irem hC.1 hC.2.1 hd (i32_ne0 ((ok_hd hst).1 rfl) hb0) hk
theorem ev_ladd {a b : Int} (hd : decode mi.2.1 pc = .ok (.ladd, 1)) (h : Ev X mi d (pc + 1) L ((1, w64 (a + b)) :: st) M r M') : Ev X mi d pc L ((1, b) :: (1, a) :: st) M r M' := by
  refine ev_step h ?_
  intro G R p l e s m args below meth c Q A kd ad H locs cells slots ls hC hX hst hL hl
  refine ⟨ok_cs (okJ (w64_ok _)) (ok_tl (ok_tl hst)), hL, fun k => ?_⟩
  have hk := k ls hl
  rw [List.map_cons, cv_l, i64_w, Int64.ofInt_add] at hk
  exact lv_ladd hC.1 hC.2.1 hd hk
theorem ev_lsub {a b : Int} (hd : decode mi.2.1 pc = .ok (.lsub, 1)) (h : Ev X mi d (pc + 1) L ((1, w64 (a - b)) :: st) M r M') : Ev X mi d pc L ((1, b) :: (1, a) :: st) M r M' := by
  refine ev_step h ?_
  intro G R p l e s m args below meth c Q A kd ad H locs cells slots ls hC hX hst hL hl
  refine ⟨ok_cs (okJ (w64_ok _)) (ok_tl (ok_tl hst)), hL, fun k => ?_⟩
  have hk := k ls hl
  rw [List.map_cons, cv_l, i64_w, Int64.ofInt_sub] at hk
  exact lv_lsub hC.1 hC.2.1 hd hk
theorem ev_lmul {a b : Int} (hd : decode mi.2.1 pc = .ok (.lmul, 1)) (h : Ev X mi d (pc + 1) L ((1, w64 (a * b)) :: st) M r M') : Ev X mi d pc L ((1, b) :: (1, a) :: st) M r M' := by
  refine ev_step h ?_
  intro G R p l e s m args below meth c Q A kd ad H locs cells slots ls hC hX hst hL hl
  refine ⟨ok_cs (okJ (w64_ok _)) (ok_tl (ok_tl hst)), hL, fun k => ?_⟩
  have hk := k ls hl
  rw [List.map_cons, cv_l, i64_w, Int64.ofInt_mul] at hk
  exact lv_lmul hC.1 hC.2.1 hd hk
theorem ev_lor {a b : Int} (hd : decode mi.2.1 pc = .ok (.lor, 1)) (h : Ev X mi d (pc + 1) L ((1, lOr a b) :: st) M r M') : Ev X mi d pc L ((1, b) :: (1, a) :: st) M r M' := by
  refine ev_step h ?_
  intro G R p l e s m args below meth c Q A kd ad H locs cells slots ls hC hX hst hL hl
  refine ⟨ok_cs (okJ (i64_ok _)) (ok_tl (ok_tl hst)), hL, fun k => ?_⟩
  have hk := k ls hl
  rw [List.map_cons, cv_l, lOr, i64_of] at hk
  exact lv_lor hC.1 hC.2.1 hd hk
theorem ev_ldiv {a b : Int} (hd : decode mi.2.1 pc = .ok (.ldiv, 1)) (hb0 : b ≠ 0) (h : Ev X mi d (pc + 1) L ((1, lDiv a b) :: st) M r M') : Ev X mi d pc L ((1, b) :: (1, a) :: st) M r M' := by
  refine ev_step h ?_
  intro G R p l e s m args below meth c Q A kd ad H locs cells slots ls hC hX hst hL hl
  refine ⟨ok_cs (okJ (i64_ok _)) (ok_tl (ok_tl hst)), hL, fun k => ?_⟩
  have hk := k ls hl
  rw [List.map_cons, cv_l, lDiv, i64_of] at hk
  exact lv_ldiv hC.1 hC.2.1 hd (i64_ne0 ((ok_hd hst).2.1 rfl) hb0) hk
theorem ev_lrem {a b : Int} (hd : decode mi.2.1 pc = .ok (.lrem, 1)) (hb0 : b ≠ 0) (h : Ev X mi d (pc + 1) L ((1, lRem a b) :: st) M r M') : Ev X mi d pc L ((1, b) :: (1, a) :: st) M r M' := by
  refine ev_step h ?_
  intro G R p l e s m args below meth c Q A kd ad H locs cells slots ls hC hX hst hL hl
  refine ⟨ok_cs (okJ (i64_ok _)) (ok_tl (ok_tl hst)), hL, fun k => ?_⟩
  have hk := k ls hl
  rw [List.map_cons, cv_l, lRem, i64_of] at hk
  exact lv_lrem hC.1 hC.2.1 hd (i64_ne0 ((ok_hd hst).2.1 rfl) hb0) hk
theorem ev_lshl {a b : Int} (hd : decode mi.2.1 pc = .ok (.lshl, 1)) (h : Ev X mi d (pc + 1) L ((1, lShl a b) :: st) M r M') : Ev X mi d pc L ((0, b) :: (1, a) :: st) M r M' := by
  refine ev_step h ?_
  intro G R p l e s m args below meth c Q A kd ad H locs cells slots ls hC hX hst hL hl
  refine ⟨ok_cs (okJ (i64_ok _)) (ok_tl (ok_tl hst)), hL, fun k => ?_⟩
  have hk := k ls hl
  rw [List.map_cons, cv_l, lShl, i64_of] at hk
  exact lv_lshl hC.1 hC.2.1 hd rfl hk
theorem ev_ineg {a : Int} (hd : decode mi.2.1 pc = .ok (.ineg, 1)) (h : Ev X mi d (pc + 1) L ((0, w32 (-a)) :: st) M r M') : Ev X mi d pc L ((0, a) :: st) M r M' := by
  refine ev_step h ?_
  intro G R p l e s m args below meth c Q A kd ad H locs cells slots ls hC hX hst hL hl
  refine ⟨ok_cs (okI (w32_ok _)) (ok_tl hst), hL, fun k => ?_⟩
  have hk := k ls hl
  rw [List.map_cons, cv_i, i32_w, Int32.ofInt_neg] at hk
  exact lv_ineg hC.1 hC.2.1 hd hk
theorem ev_i2l {a : Int} (hd : decode mi.2.1 pc = .ok (.i2l, 1)) (h : Ev X mi d (pc + 1) L ((1, a) :: st) M r M') : Ev X mi d pc L ((0, a) :: st) M r M' := by
  refine ev_step h ?_
  intro G R p l e s m args below meth c Q A kd ad H locs cells slots ls hC hX hst hL hl
  have ha := (ok_hd hst).1 rfl
  have ha6 : ok64 a := by unfold ok32 at ha; unfold ok64; simp only at ha; omega
  refine ⟨ok_cs (okJ ha6) (ok_tl hst), hL, fun k => lv_i2l hC.1 hC.2.1 hd ?_ (k ls hl)⟩
  apply Int64.toInt_inj.mp
  rw [Int32.toInt_toInt64, i64_c ha6, i32_c ha]
theorem ev_l2i {a : Int} (hd : decode mi.2.1 pc = .ok (.l2i, 1)) (h : Ev X mi d (pc + 1) L ((0, w32 a) :: st) M r M') : Ev X mi d pc L ((1, a) :: st) M r M' := by
  refine ev_step h ?_
  intro G R p l e s m args below meth c Q A kd ad H locs cells slots ls hC hX hst hL hl
  have ha := (ok_hd hst).2.1 rfl
  refine ⟨ok_cs (okI (w32_ok _)) (ok_tl hst), hL, fun k => lv_l2i hC.1 hC.2.1 hd ?_ (k ls hl)⟩
  rw [i32_w]
  apply Int32.toInt_inj.mp
  rw [Int64.toInt_toInt32, i64_c ha, i32_t, Int.bmod_def]; unfold w32; split <;> omega
theorem ev_i2c {a : Int} (h0 : 0 ≤ a) (h1 : a < 65536) (hd : decode mi.2.1 pc = .ok (.i2c, 1)) (h : Ev X mi d (pc + 1) L ((0, a) :: st) M r M') : Ev X mi d pc L ((0, a) :: st) M r M' := by
  refine ev_step h ?_
  intro G R p l e s m args below meth c Q A kd ad H locs cells slots ls hC hX hst hL hl
  have ha := (ok_hd hst).1 rfl
  refine ⟨hst, hL, fun k => ?_⟩
  have hk := k ls hl
  rw [List.map_cons, cv_i] at hk
  refine lv_i2c hC.1 hC.2.1 hd ?_ hk
  obtain ⟨n, rfl⟩ := Int.eq_ofNat_of_zero_le h0
  have e : Int32.ofInt (n : Int) = nI n := by
    apply Int32.toInt_inj.mp; rw [i32_c ha, nI_toInt (by omega)]
  rw [e, pk_char, pk_tn (by omega), Nat.mod_eq_of_lt (by omega)]
theorem ev_icmp_eq {a b : Int} {off : Int} {tgt : Nat} (hd : decode mi.2.1 pc = .ok (.if_icmp .eq off, 3)) (ht : (pc : Int) + off = (tgt : Int)) (hm : (mN M ≤ mN M' ∧ mZ M ≤ mZ M') ∧ rB mi r) (kt : a = b → Ev X mi d tgt L st M r M') (kf : ¬ (a = b) → Ev X mi d (pc + 3) L st M r M') : Ev X mi d pc L ((0, b) :: (0, a) :: st) M r M' := by
  refine ⟨hm.1, hm.2, ?_⟩
  intro G R p l e s m args below meth c Q A kd ad H locs cells slots ls hC hX hst hL hl hc hs he
  have hb := (ok_hd hst).1 rfl
  have ha := (ok_hd (ok_tl hst)).1 rfl
  refine lv_icmp_eq (tgt := tgt) hC.1 hC.2.1 hd ht (fun q => ?_) (fun q => ?_)
  · exact (kt ((i32_eq ha hb).mp q)).2.2 G R p l e s m args below meth c Q A kd ad H locs cells slots ls hC hX (ok_tl (ok_tl hst)) hL hl hc hs he
  · exact (kf (fun z => q ((i32_eq ha hb).mpr z))).2.2 G R p l e s m args below meth c Q A kd ad H locs cells slots ls hC hX (ok_tl (ok_tl hst)) hL hl hc hs he
theorem ev_icmp_ne {a b : Int} {off : Int} {tgt : Nat} (hd : decode mi.2.1 pc = .ok (.if_icmp .ne off, 3)) (ht : (pc : Int) + off = (tgt : Int)) (hm : (mN M ≤ mN M' ∧ mZ M ≤ mZ M') ∧ rB mi r) (kt : a ≠ b → Ev X mi d tgt L st M r M') (kf : ¬ (a ≠ b) → Ev X mi d (pc + 3) L st M r M') : Ev X mi d pc L ((0, b) :: (0, a) :: st) M r M' := by
  refine ⟨hm.1, hm.2, ?_⟩
  intro G R p l e s m args below meth c Q A kd ad H locs cells slots ls hC hX hst hL hl hc hs he
  have hb := (ok_hd hst).1 rfl
  have ha := (ok_hd (ok_tl hst)).1 rfl
  refine lv_icmp_ne (tgt := tgt) hC.1 hC.2.1 hd ht (fun q => ?_) (fun q => ?_)
  · exact (kt ((not_congr (i32_eq ha hb)).mp q)).2.2 G R p l e s m args below meth c Q A kd ad H locs cells slots ls hC hX (ok_tl (ok_tl hst)) hL hl hc hs he
  · exact (kf (fun z => ((not_congr (i32_eq ha hb)).mpr z) q)).2.2 G R p l e s m args below meth c Q A kd ad H locs cells slots ls hC hX (ok_tl (ok_tl hst)) hL hl hc hs he
theorem ev_icmp_lt {a b : Int} {off : Int} {tgt : Nat} (hd : decode mi.2.1 pc = .ok (.if_icmp .lt off, 3)) (ht : (pc : Int) + off = (tgt : Int)) (hm : (mN M ≤ mN M' ∧ mZ M ≤ mZ M') ∧ rB mi r) (kt : a < b → Ev X mi d tgt L st M r M') (kf : ¬ (a < b) → Ev X mi d (pc + 3) L st M r M') : Ev X mi d pc L ((0, b) :: (0, a) :: st) M r M' := by
  refine ⟨hm.1, hm.2, ?_⟩
  intro G R p l e s m args below meth c Q A kd ad H locs cells slots ls hC hX hst hL hl hc hs he
  have hb := (ok_hd hst).1 rfl
  have ha := (ok_hd (ok_tl hst)).1 rfl
  refine lv_icmp_lt (tgt := tgt) hC.1 hC.2.1 hd ht (fun q => ?_) (fun q => ?_)
  · exact (kt ((i32_lt ha hb).mp q)).2.2 G R p l e s m args below meth c Q A kd ad H locs cells slots ls hC hX (ok_tl (ok_tl hst)) hL hl hc hs he
  · exact (kf (fun z => q ((i32_lt ha hb).mpr z))).2.2 G R p l e s m args below meth c Q A kd ad H locs cells slots ls hC hX (ok_tl (ok_tl hst)) hL hl hc hs he
theorem ev_icmp_ge {a b : Int} {off : Int} {tgt : Nat} (hd : decode mi.2.1 pc = .ok (.if_icmp .ge off, 3)) (ht : (pc : Int) + off = (tgt : Int)) (hm : (mN M ≤ mN M' ∧ mZ M ≤ mZ M') ∧ rB mi r) (kt : b ≤ a → Ev X mi d tgt L st M r M') (kf : ¬ (b ≤ a) → Ev X mi d (pc + 3) L st M r M') : Ev X mi d pc L ((0, b) :: (0, a) :: st) M r M' := by
  refine ⟨hm.1, hm.2, ?_⟩
  intro G R p l e s m args below meth c Q A kd ad H locs cells slots ls hC hX hst hL hl hc hs he
  have hb := (ok_hd hst).1 rfl
  have ha := (ok_hd (ok_tl hst)).1 rfl
  refine lv_icmp_ge (tgt := tgt) hC.1 hC.2.1 hd ht (fun q => ?_) (fun q => ?_)
  · exact (kt ((i32_le hb ha).mp q)).2.2 G R p l e s m args below meth c Q A kd ad H locs cells slots ls hC hX (ok_tl (ok_tl hst)) hL hl hc hs he
  · exact (kf (fun z => q ((i32_le hb ha).mpr z))).2.2 G R p l e s m args below meth c Q A kd ad H locs cells slots ls hC hX (ok_tl (ok_tl hst)) hL hl hc hs he
theorem ev_icmp_gt {a b : Int} {off : Int} {tgt : Nat} (hd : decode mi.2.1 pc = .ok (.if_icmp .gt off, 3)) (ht : (pc : Int) + off = (tgt : Int)) (hm : (mN M ≤ mN M' ∧ mZ M ≤ mZ M') ∧ rB mi r) (kt : b < a → Ev X mi d tgt L st M r M') (kf : ¬ (b < a) → Ev X mi d (pc + 3) L st M r M') : Ev X mi d pc L ((0, b) :: (0, a) :: st) M r M' := by
  refine ⟨hm.1, hm.2, ?_⟩
  intro G R p l e s m args below meth c Q A kd ad H locs cells slots ls hC hX hst hL hl hc hs he
  have hb := (ok_hd hst).1 rfl
  have ha := (ok_hd (ok_tl hst)).1 rfl
  refine lv_icmp_gt (tgt := tgt) hC.1 hC.2.1 hd ht (fun q => ?_) (fun q => ?_)
  · exact (kt ((i32_lt hb ha).mp q)).2.2 G R p l e s m args below meth c Q A kd ad H locs cells slots ls hC hX (ok_tl (ok_tl hst)) hL hl hc hs he
  · exact (kf (fun z => q ((i32_lt hb ha).mpr z))).2.2 G R p l e s m args below meth c Q A kd ad H locs cells slots ls hC hX (ok_tl (ok_tl hst)) hL hl hc hs he
theorem ev_icmp_le {a b : Int} {off : Int} {tgt : Nat} (hd : decode mi.2.1 pc = .ok (.if_icmp .le off, 3)) (ht : (pc : Int) + off = (tgt : Int)) (hm : (mN M ≤ mN M' ∧ mZ M ≤ mZ M') ∧ rB mi r) (kt : a ≤ b → Ev X mi d tgt L st M r M') (kf : ¬ (a ≤ b) → Ev X mi d (pc + 3) L st M r M') : Ev X mi d pc L ((0, b) :: (0, a) :: st) M r M' := by
  refine ⟨hm.1, hm.2, ?_⟩
  intro G R p l e s m args below meth c Q A kd ad H locs cells slots ls hC hX hst hL hl hc hs he
  have hb := (ok_hd hst).1 rfl
  have ha := (ok_hd (ok_tl hst)).1 rfl
  refine lv_icmp_le (tgt := tgt) hC.1 hC.2.1 hd ht (fun q => ?_) (fun q => ?_)
  · exact (kt ((i32_le ha hb).mp q)).2.2 G R p l e s m args below meth c Q A kd ad H locs cells slots ls hC hX (ok_tl (ok_tl hst)) hL hl hc hs he
  · exact (kf (fun z => q ((i32_le ha hb).mpr z))).2.2 G R p l e s m args below meth c Q A kd ad H locs cells slots ls hC hX (ok_tl (ok_tl hst)) hL hl hc hs he
theorem ev_if_eq {a : Int} {off : Int} {tgt : Nat} (hd : decode mi.2.1 pc = .ok (.ifCond .eq off, 3)) (ht : (pc : Int) + off = (tgt : Int)) (hm : (mN M ≤ mN M' ∧ mZ M ≤ mZ M') ∧ rB mi r) (kt : a = 0 → Ev X mi d tgt L st M r M') (kf : ¬ (a = 0) → Ev X mi d (pc + 3) L st M r M') : Ev X mi d pc L ((0, a) :: st) M r M' := by
  refine ⟨hm.1, hm.2, ?_⟩
  intro G R p l e s m args below meth c Q A kd ad H locs cells slots ls hC hX hst hL hl hc hs he
  have ha := (ok_hd hst).1 rfl
  refine lv_if_eq (tgt := tgt) hC.1 hC.2.1 hd ht (fun q => ?_) (fun q => ?_)
  · exact (kt ((i32_eq ha ok32_0).mp q)).2.2 G R p l e s m args below meth c Q A kd ad H locs cells slots ls hC hX (ok_tl hst) hL hl hc hs he
  · exact (kf (fun z => q ((i32_eq ha ok32_0).mpr z))).2.2 G R p l e s m args below meth c Q A kd ad H locs cells slots ls hC hX (ok_tl hst) hL hl hc hs he
theorem ev_if_ne {a : Int} {off : Int} {tgt : Nat} (hd : decode mi.2.1 pc = .ok (.ifCond .ne off, 3)) (ht : (pc : Int) + off = (tgt : Int)) (hm : (mN M ≤ mN M' ∧ mZ M ≤ mZ M') ∧ rB mi r) (kt : a ≠ 0 → Ev X mi d tgt L st M r M') (kf : ¬ (a ≠ 0) → Ev X mi d (pc + 3) L st M r M') : Ev X mi d pc L ((0, a) :: st) M r M' := by
  refine ⟨hm.1, hm.2, ?_⟩
  intro G R p l e s m args below meth c Q A kd ad H locs cells slots ls hC hX hst hL hl hc hs he
  have ha := (ok_hd hst).1 rfl
  refine lv_if_ne (tgt := tgt) hC.1 hC.2.1 hd ht (fun q => ?_) (fun q => ?_)
  · exact (kt ((not_congr (i32_eq ha ok32_0)).mp q)).2.2 G R p l e s m args below meth c Q A kd ad H locs cells slots ls hC hX (ok_tl hst) hL hl hc hs he
  · exact (kf (fun z => ((not_congr (i32_eq ha ok32_0)).mpr z) q)).2.2 G R p l e s m args below meth c Q A kd ad H locs cells slots ls hC hX (ok_tl hst) hL hl hc hs he
theorem ev_if_lt {a : Int} {off : Int} {tgt : Nat} (hd : decode mi.2.1 pc = .ok (.ifCond .lt off, 3)) (ht : (pc : Int) + off = (tgt : Int)) (hm : (mN M ≤ mN M' ∧ mZ M ≤ mZ M') ∧ rB mi r) (kt : a < 0 → Ev X mi d tgt L st M r M') (kf : ¬ (a < 0) → Ev X mi d (pc + 3) L st M r M') : Ev X mi d pc L ((0, a) :: st) M r M' := by
  refine ⟨hm.1, hm.2, ?_⟩
  intro G R p l e s m args below meth c Q A kd ad H locs cells slots ls hC hX hst hL hl hc hs he
  have ha := (ok_hd hst).1 rfl
  refine lv_if_lt (tgt := tgt) hC.1 hC.2.1 hd ht (fun q => ?_) (fun q => ?_)
  · exact (kt ((i32_lt ha ok32_0).mp q)).2.2 G R p l e s m args below meth c Q A kd ad H locs cells slots ls hC hX (ok_tl hst) hL hl hc hs he
  · exact (kf (fun z => q ((i32_lt ha ok32_0).mpr z))).2.2 G R p l e s m args below meth c Q A kd ad H locs cells slots ls hC hX (ok_tl hst) hL hl hc hs he
theorem ev_if_ge {a : Int} {off : Int} {tgt : Nat} (hd : decode mi.2.1 pc = .ok (.ifCond .ge off, 3)) (ht : (pc : Int) + off = (tgt : Int)) (hm : (mN M ≤ mN M' ∧ mZ M ≤ mZ M') ∧ rB mi r) (kt : 0 ≤ a → Ev X mi d tgt L st M r M') (kf : ¬ (0 ≤ a) → Ev X mi d (pc + 3) L st M r M') : Ev X mi d pc L ((0, a) :: st) M r M' := by
  refine ⟨hm.1, hm.2, ?_⟩
  intro G R p l e s m args below meth c Q A kd ad H locs cells slots ls hC hX hst hL hl hc hs he
  have ha := (ok_hd hst).1 rfl
  refine lv_if_ge (tgt := tgt) hC.1 hC.2.1 hd ht (fun q => ?_) (fun q => ?_)
  · exact (kt ((i32_le ok32_0 ha).mp q)).2.2 G R p l e s m args below meth c Q A kd ad H locs cells slots ls hC hX (ok_tl hst) hL hl hc hs he
  · exact (kf (fun z => q ((i32_le ok32_0 ha).mpr z))).2.2 G R p l e s m args below meth c Q A kd ad H locs cells slots ls hC hX (ok_tl hst) hL hl hc hs he
theorem ev_if_gt {a : Int} {off : Int} {tgt : Nat} (hd : decode mi.2.1 pc = .ok (.ifCond .gt off, 3)) (ht : (pc : Int) + off = (tgt : Int)) (hm : (mN M ≤ mN M' ∧ mZ M ≤ mZ M') ∧ rB mi r) (kt : 0 < a → Ev X mi d tgt L st M r M') (kf : ¬ (0 < a) → Ev X mi d (pc + 3) L st M r M') : Ev X mi d pc L ((0, a) :: st) M r M' := by
  refine ⟨hm.1, hm.2, ?_⟩
  intro G R p l e s m args below meth c Q A kd ad H locs cells slots ls hC hX hst hL hl hc hs he
  have ha := (ok_hd hst).1 rfl
  refine lv_if_gt (tgt := tgt) hC.1 hC.2.1 hd ht (fun q => ?_) (fun q => ?_)
  · exact (kt ((i32_lt ok32_0 ha).mp q)).2.2 G R p l e s m args below meth c Q A kd ad H locs cells slots ls hC hX (ok_tl hst) hL hl hc hs he
  · exact (kf (fun z => q ((i32_lt ok32_0 ha).mpr z))).2.2 G R p l e s m args below meth c Q A kd ad H locs cells slots ls hC hX (ok_tl hst) hL hl hc hs he
theorem ev_if_le {a : Int} {off : Int} {tgt : Nat} (hd : decode mi.2.1 pc = .ok (.ifCond .le off, 3)) (ht : (pc : Int) + off = (tgt : Int)) (hm : (mN M ≤ mN M' ∧ mZ M ≤ mZ M') ∧ rB mi r) (kt : a ≤ 0 → Ev X mi d tgt L st M r M') (kf : ¬ (a ≤ 0) → Ev X mi d (pc + 3) L st M r M') : Ev X mi d pc L ((0, a) :: st) M r M' := by
  refine ⟨hm.1, hm.2, ?_⟩
  intro G R p l e s m args below meth c Q A kd ad H locs cells slots ls hC hX hst hL hl hc hs he
  have ha := (ok_hd hst).1 rfl
  refine lv_if_le (tgt := tgt) hC.1 hC.2.1 hd ht (fun q => ?_) (fun q => ?_)
  · exact (kt ((i32_le ha ok32_0).mp q)).2.2 G R p l e s m args below meth c Q A kd ad H locs cells slots ls hC hX (ok_tl hst) hL hl hc hs he
  · exact (kf (fun z => q ((i32_le ha ok32_0).mpr z))).2.2 G R p l e s m args below meth c Q A kd ad H locs cells slots ls hC hX (ok_tl hst) hL hl hc hs he
theorem ev_icmp_eq_t {a b : Int} {off : Int} {tgt : Nat} (hd : decode mi.2.1 pc = .ok (.if_icmp .eq off, 3)) (ht : (pc : Int) + off = (tgt : Int)) (hc : a = b) (h : Ev X mi d tgt L st M r M') : Ev X mi d pc L ((0, b) :: (0, a) :: st) M r M' := ev_icmp_eq hd ht ⟨h.1, h.2.1⟩ (fun _ => h) (fun q => absurd hc q)
theorem ev_icmp_eq_f {a b : Int} {off : Int} (hd : decode mi.2.1 pc = .ok (.if_icmp .eq off, 3)) (ht : 0 ≤ (pc : Int) + off) (hc : ¬ (a = b)) (h : Ev X mi d (pc + 3) L st M r M') : Ev X mi d pc L ((0, b) :: (0, a) :: st) M r M' := ev_icmp_eq (tgt := ((pc : Int) + off).toNat) hd (Int.toNat_of_nonneg ht).symm ⟨h.1, h.2.1⟩ (fun q => absurd q hc) (fun _ => h)
theorem ev_icmp_ne_t {a b : Int} {off : Int} {tgt : Nat} (hd : decode mi.2.1 pc = .ok (.if_icmp .ne off, 3)) (ht : (pc : Int) + off = (tgt : Int)) (hc : a ≠ b) (h : Ev X mi d tgt L st M r M') : Ev X mi d pc L ((0, b) :: (0, a) :: st) M r M' := ev_icmp_ne hd ht ⟨h.1, h.2.1⟩ (fun _ => h) (fun q => absurd hc q)
theorem ev_icmp_ne_f {a b : Int} {off : Int} (hd : decode mi.2.1 pc = .ok (.if_icmp .ne off, 3)) (ht : 0 ≤ (pc : Int) + off) (hc : ¬ (a ≠ b)) (h : Ev X mi d (pc + 3) L st M r M') : Ev X mi d pc L ((0, b) :: (0, a) :: st) M r M' := ev_icmp_ne (tgt := ((pc : Int) + off).toNat) hd (Int.toNat_of_nonneg ht).symm ⟨h.1, h.2.1⟩ (fun q => absurd q hc) (fun _ => h)
theorem ev_icmp_lt_t {a b : Int} {off : Int} {tgt : Nat} (hd : decode mi.2.1 pc = .ok (.if_icmp .lt off, 3)) (ht : (pc : Int) + off = (tgt : Int)) (hc : a < b) (h : Ev X mi d tgt L st M r M') : Ev X mi d pc L ((0, b) :: (0, a) :: st) M r M' := ev_icmp_lt hd ht ⟨h.1, h.2.1⟩ (fun _ => h) (fun q => absurd hc q)
theorem ev_icmp_lt_f {a b : Int} {off : Int} (hd : decode mi.2.1 pc = .ok (.if_icmp .lt off, 3)) (ht : 0 ≤ (pc : Int) + off) (hc : ¬ (a < b)) (h : Ev X mi d (pc + 3) L st M r M') : Ev X mi d pc L ((0, b) :: (0, a) :: st) M r M' := ev_icmp_lt (tgt := ((pc : Int) + off).toNat) hd (Int.toNat_of_nonneg ht).symm ⟨h.1, h.2.1⟩ (fun q => absurd q hc) (fun _ => h)
theorem ev_icmp_ge_t {a b : Int} {off : Int} {tgt : Nat} (hd : decode mi.2.1 pc = .ok (.if_icmp .ge off, 3)) (ht : (pc : Int) + off = (tgt : Int)) (hc : b ≤ a) (h : Ev X mi d tgt L st M r M') : Ev X mi d pc L ((0, b) :: (0, a) :: st) M r M' := ev_icmp_ge hd ht ⟨h.1, h.2.1⟩ (fun _ => h) (fun q => absurd hc q)
theorem ev_icmp_ge_f {a b : Int} {off : Int} (hd : decode mi.2.1 pc = .ok (.if_icmp .ge off, 3)) (ht : 0 ≤ (pc : Int) + off) (hc : ¬ (b ≤ a)) (h : Ev X mi d (pc + 3) L st M r M') : Ev X mi d pc L ((0, b) :: (0, a) :: st) M r M' := ev_icmp_ge (tgt := ((pc : Int) + off).toNat) hd (Int.toNat_of_nonneg ht).symm ⟨h.1, h.2.1⟩ (fun q => absurd q hc) (fun _ => h)
theorem ev_icmp_gt_t {a b : Int} {off : Int} {tgt : Nat} (hd : decode mi.2.1 pc = .ok (.if_icmp .gt off, 3)) (ht : (pc : Int) + off = (tgt : Int)) (hc : b < a) (h : Ev X mi d tgt L st M r M') : Ev X mi d pc L ((0, b) :: (0, a) :: st) M r M' := ev_icmp_gt hd ht ⟨h.1, h.2.1⟩ (fun _ => h) (fun q => absurd hc q)
theorem ev_icmp_gt_f {a b : Int} {off : Int} (hd : decode mi.2.1 pc = .ok (.if_icmp .gt off, 3)) (ht : 0 ≤ (pc : Int) + off) (hc : ¬ (b < a)) (h : Ev X mi d (pc + 3) L st M r M') : Ev X mi d pc L ((0, b) :: (0, a) :: st) M r M' := ev_icmp_gt (tgt := ((pc : Int) + off).toNat) hd (Int.toNat_of_nonneg ht).symm ⟨h.1, h.2.1⟩ (fun q => absurd q hc) (fun _ => h)
theorem ev_icmp_le_t {a b : Int} {off : Int} {tgt : Nat} (hd : decode mi.2.1 pc = .ok (.if_icmp .le off, 3)) (ht : (pc : Int) + off = (tgt : Int)) (hc : a ≤ b) (h : Ev X mi d tgt L st M r M') : Ev X mi d pc L ((0, b) :: (0, a) :: st) M r M' := ev_icmp_le hd ht ⟨h.1, h.2.1⟩ (fun _ => h) (fun q => absurd hc q)
theorem ev_icmp_le_f {a b : Int} {off : Int} (hd : decode mi.2.1 pc = .ok (.if_icmp .le off, 3)) (ht : 0 ≤ (pc : Int) + off) (hc : ¬ (a ≤ b)) (h : Ev X mi d (pc + 3) L st M r M') : Ev X mi d pc L ((0, b) :: (0, a) :: st) M r M' := ev_icmp_le (tgt := ((pc : Int) + off).toNat) hd (Int.toNat_of_nonneg ht).symm ⟨h.1, h.2.1⟩ (fun q => absurd q hc) (fun _ => h)
theorem ev_if_eq_t {a : Int} {off : Int} {tgt : Nat} (hd : decode mi.2.1 pc = .ok (.ifCond .eq off, 3)) (ht : (pc : Int) + off = (tgt : Int)) (hc : a = 0) (h : Ev X mi d tgt L st M r M') : Ev X mi d pc L ((0, a) :: st) M r M' := ev_if_eq hd ht ⟨h.1, h.2.1⟩ (fun _ => h) (fun q => absurd hc q)
theorem ev_if_eq_f {a : Int} {off : Int} (hd : decode mi.2.1 pc = .ok (.ifCond .eq off, 3)) (ht : 0 ≤ (pc : Int) + off) (hc : ¬ (a = 0)) (h : Ev X mi d (pc + 3) L st M r M') : Ev X mi d pc L ((0, a) :: st) M r M' := ev_if_eq (tgt := ((pc : Int) + off).toNat) hd (Int.toNat_of_nonneg ht).symm ⟨h.1, h.2.1⟩ (fun q => absurd q hc) (fun _ => h)
theorem ev_if_ne_t {a : Int} {off : Int} {tgt : Nat} (hd : decode mi.2.1 pc = .ok (.ifCond .ne off, 3)) (ht : (pc : Int) + off = (tgt : Int)) (hc : a ≠ 0) (h : Ev X mi d tgt L st M r M') : Ev X mi d pc L ((0, a) :: st) M r M' := ev_if_ne hd ht ⟨h.1, h.2.1⟩ (fun _ => h) (fun q => absurd hc q)
theorem ev_if_ne_f {a : Int} {off : Int} (hd : decode mi.2.1 pc = .ok (.ifCond .ne off, 3)) (ht : 0 ≤ (pc : Int) + off) (hc : ¬ (a ≠ 0)) (h : Ev X mi d (pc + 3) L st M r M') : Ev X mi d pc L ((0, a) :: st) M r M' := ev_if_ne (tgt := ((pc : Int) + off).toNat) hd (Int.toNat_of_nonneg ht).symm ⟨h.1, h.2.1⟩ (fun q => absurd q hc) (fun _ => h)
theorem ev_if_lt_t {a : Int} {off : Int} {tgt : Nat} (hd : decode mi.2.1 pc = .ok (.ifCond .lt off, 3)) (ht : (pc : Int) + off = (tgt : Int)) (hc : a < 0) (h : Ev X mi d tgt L st M r M') : Ev X mi d pc L ((0, a) :: st) M r M' := ev_if_lt hd ht ⟨h.1, h.2.1⟩ (fun _ => h) (fun q => absurd hc q)
theorem ev_if_lt_f {a : Int} {off : Int} (hd : decode mi.2.1 pc = .ok (.ifCond .lt off, 3)) (ht : 0 ≤ (pc : Int) + off) (hc : ¬ (a < 0)) (h : Ev X mi d (pc + 3) L st M r M') : Ev X mi d pc L ((0, a) :: st) M r M' := ev_if_lt (tgt := ((pc : Int) + off).toNat) hd (Int.toNat_of_nonneg ht).symm ⟨h.1, h.2.1⟩ (fun q => absurd q hc) (fun _ => h)
theorem ev_if_ge_t {a : Int} {off : Int} {tgt : Nat} (hd : decode mi.2.1 pc = .ok (.ifCond .ge off, 3)) (ht : (pc : Int) + off = (tgt : Int)) (hc : 0 ≤ a) (h : Ev X mi d tgt L st M r M') : Ev X mi d pc L ((0, a) :: st) M r M' := ev_if_ge hd ht ⟨h.1, h.2.1⟩ (fun _ => h) (fun q => absurd hc q)
theorem ev_if_ge_f {a : Int} {off : Int} (hd : decode mi.2.1 pc = .ok (.ifCond .ge off, 3)) (ht : 0 ≤ (pc : Int) + off) (hc : ¬ (0 ≤ a)) (h : Ev X mi d (pc + 3) L st M r M') : Ev X mi d pc L ((0, a) :: st) M r M' := ev_if_ge (tgt := ((pc : Int) + off).toNat) hd (Int.toNat_of_nonneg ht).symm ⟨h.1, h.2.1⟩ (fun q => absurd q hc) (fun _ => h)
theorem ev_if_gt_t {a : Int} {off : Int} {tgt : Nat} (hd : decode mi.2.1 pc = .ok (.ifCond .gt off, 3)) (ht : (pc : Int) + off = (tgt : Int)) (hc : 0 < a) (h : Ev X mi d tgt L st M r M') : Ev X mi d pc L ((0, a) :: st) M r M' := ev_if_gt hd ht ⟨h.1, h.2.1⟩ (fun _ => h) (fun q => absurd hc q)
theorem ev_if_gt_f {a : Int} {off : Int} (hd : decode mi.2.1 pc = .ok (.ifCond .gt off, 3)) (ht : 0 ≤ (pc : Int) + off) (hc : ¬ (0 < a)) (h : Ev X mi d (pc + 3) L st M r M') : Ev X mi d pc L ((0, a) :: st) M r M' := ev_if_gt (tgt := ((pc : Int) + off).toNat) hd (Int.toNat_of_nonneg ht).symm ⟨h.1, h.2.1⟩ (fun q => absurd q hc) (fun _ => h)
theorem ev_if_le_t {a : Int} {off : Int} {tgt : Nat} (hd : decode mi.2.1 pc = .ok (.ifCond .le off, 3)) (ht : (pc : Int) + off = (tgt : Int)) (hc : a ≤ 0) (h : Ev X mi d tgt L st M r M') : Ev X mi d pc L ((0, a) :: st) M r M' := ev_if_le hd ht ⟨h.1, h.2.1⟩ (fun _ => h) (fun q => absurd hc q)
theorem ev_if_le_f {a : Int} {off : Int} (hd : decode mi.2.1 pc = .ok (.ifCond .le off, 3)) (ht : 0 ≤ (pc : Int) + off) (hc : ¬ (a ≤ 0)) (h : Ev X mi d (pc + 3) L st M r M') : Ev X mi d pc L ((0, a) :: st) M r M' := ev_if_le (tgt := ((pc : Int) + off).toNat) hd (Int.toNat_of_nonneg ht).symm ⟨h.1, h.2.1⟩ (fun q => absurd q hc) (fun _ => h)
def lC (a b : Int) : Int := if a < b then -1 else if a = b then 0 else 1
theorem lC_ok (a b : Int) : ok32 (lC a b) := by unfold lC ok32; split <;> (try split) <;> omega
theorem ev_lcmp {a b : Int} (hd : decode mi.2.1 pc = .ok (.lcmp, 1)) (h : Ev X mi d (pc + 1) L ((0, lC a b) :: st) M r M') : Ev X mi d pc L ((1, b) :: (1, a) :: st) M r M' := by
  refine ev_step h ?_
  intro G R p l e s m args below meth c Q A kd ad H locs cells slots ls hC hX hst hL hl
  have hb := (ok_hd hst).2.1 rfl
  have ha := (ok_hd (ok_tl hst)).2.1 rfl
  refine ⟨ok_cs (okI (lC_ok _ _)) (ok_tl (ok_tl hst)), hL, fun k => ?_⟩
  have hk := k ls hl
  rw [List.map_cons, cv_i] at hk
  have e : lg_cmp (Int64.ofInt a) (Int64.ofInt b) = Int32.ofInt (lC a b) := by
    have h1 := i64_lt ha hb
    have h2 := i64_lt hb ha
    have h3 := i64_eq ha hb
    unfold lg_cmp lC
    by_cases q1 : a < b
    · have q2 := h1.mpr q1
      have q3 : ¬ Int64.ofInt b < Int64.ofInt a := fun z => by have := h2.mp z; omega
      have q4 : ¬ Int64.ofInt a = Int64.ofInt b := fun z => by have := h3.mp z; omega
      simp [q1, q2, q3, q4] <;> rfl
    · have q2 : ¬ Int64.ofInt a < Int64.ofInt b := fun z => q1 (h1.mp z)
      by_cases q5 : a = b
      · have q6 := h3.mpr q5
        have q3 : ¬ Int64.ofInt b < Int64.ofInt a := fun z => by have := h2.mp z; omega
        simp [q1, q2, q3, q5, q6] <;> rfl
      · have q4 : ¬ Int64.ofInt a = Int64.ofInt b := fun z => q5 (h3.mp z)
        have q3 : Int64.ofInt b < Int64.ofInt a := h2.mpr (by omega)
        simp [q1, q2, q3, q4, q5] <;> rfl
  refine W.lcmp hC.1 hC.2.1 hd ?_
  rw [e]; exact hk
theorem lC_eq (a b : Int) : lC a b = 0 ↔ a = b := by unfold lC; split <;> (try split) <;> omega
theorem lC_ne (a b : Int) : lC a b ≠ 0 ↔ a ≠ b := by unfold lC; split <;> (try split) <;> omega
theorem lC_lt (a b : Int) : lC a b < 0 ↔ a < b := by unfold lC; split <;> (try split) <;> omega
theorem lC_ge (a b : Int) : 0 ≤ lC a b ↔ b ≤ a := by unfold lC; split <;> (try split) <;> omega
theorem lC_gt (a b : Int) : 0 < lC a b ↔ b < a := by unfold lC; split <;> (try split) <;> omega
theorem lC_le (a b : Int) : lC a b ≤ 0 ↔ a ≤ b := by unfold lC; split <;> (try split) <;> omega
theorem ev_goto {off : Int} {tgt : Nat} (hd : decode mi.2.1 pc = .ok (.goto off, 3)) (ht : (pc : Int) + off = (tgt : Int)) (h : Ev X mi d tgt L st M r M') : Ev X mi d pc L st M r M' := by
  refine ev_step h ?_
  intro G R p l e s m args below meth c Q A kd ad H locs cells slots ls hC hX hst hL hl
  exact ⟨hst, hL, fun k => lv_goto hC.1 hC.2.1 hd ht (k ls hl)⟩
theorem cat1 {G : GG} {ad : Nat → Nat} {q : AV} (h : q.1 ≠ 1) : (cv G ad q).category = 1 := by rw [cv_cat, if_neg h]
theorem ev_dup {q : AV} (hd : decode mi.2.1 pc = .ok (.dup, 1)) (hq : q.1 ≠ 1) (h : Ev X mi d (pc + 1) L (q :: q :: st) M r M') : Ev X mi d pc L (q :: st) M r M' := by
  refine ev_step h ?_
  intro G R p l e s m args below meth c Q A kd ad H locs cells slots ls hC hX hst hL hl
  exact ⟨ok_cs (ok_hd hst) hst, hL, fun k => lv_dup hC.1 hC.2.1 hd (cat1 hq) (k ls hl)⟩
theorem ev_pop {q : AV} (hd : decode mi.2.1 pc = .ok (.pop, 1)) (hq : q.1 ≠ 1) (h : Ev X mi d (pc + 1) L st M r M') : Ev X mi d pc L (q :: st) M r M' := by
  refine ev_step h ?_
  intro G R p l e s m args below meth c Q A kd ad H locs cells slots ls hC hX hst hL hl
  exact ⟨ok_tl hst, hL, fun k => lv_pop hC.1 hC.2.1 hd (cat1 hq) (k ls hl)⟩
theorem ev_dup2 {q q2 : AV} (hd : decode mi.2.1 pc = .ok (.dup2, 1)) (hq : q.1 ≠ 1) (hq2 : q2.1 ≠ 1) (h : Ev X mi d (pc + 1) L (q :: q2 :: q :: q2 :: st) M r M') : Ev X mi d pc L (q :: q2 :: st) M r M' := by
  refine ev_step h ?_
  intro G R p l e s m args below meth c Q A kd ad H locs cells slots ls hC hX hst hL hl
  exact ⟨ok_cs (ok_hd hst) (ok_cs (ok_hd (ok_tl hst)) hst), hL, fun k => lv_dup2_11 hC.1 hC.2.1 hd (cat1 hq) (cat1 hq2) (k ls hl)⟩
theorem ev_lconst {n : Fin 2} {v : Int} (hd : decode mi.2.1 pc = .ok (.lconst n, 1)) (hn : Int64.ofNat (n : Nat) = Int64.ofInt v) (hv : (decide (-9223372036854775808 ≤ v) && decide (v < 9223372036854775808)) = true) (h : Ev X mi d (pc + 1) L ((1, v) :: st) M r M') : Ev X mi d pc L st M r M' := by
  have hv : ok64 v := by simp only [Bool.and_eq_true, decide_eq_true_eq] at hv; exact hv
  refine ev_step h ?_
  intro G R p l e s m args below meth c Q A kd ad H locs cells slots ls hC hX hst hL hl
  exact ⟨ok_cs (okJ hv) hst, hL, fun k => lv_lconst hC.1 hC.2.1 hd hn (k ls hl)⟩
theorem ev_null {t : Nat} (h2 : 2 ≤ t) (h16 : t ≤ 16) (hd : decode mi.2.1 pc = .ok (.aconst_null, 1)) (h : Ev X mi d (pc + 1) L ((t, 0) :: st) M r M') : Ev X mi d pc L st M r M' := by
  refine ev_step h ?_
  intro G R p l e s m args below meth c Q A kd ad H locs cells slots ls hC hX hst hL hl
  refine ⟨ok_cs ⟨fun e => by simp only at e; omega, fun e => by simp only at e; omega, fun _ _ => Or.inl rfl, fun e => by simp only at e; omega, fun e => by simp only at e; omega⟩ hst, hL, fun k => ?_⟩
  have hk := k ls hl
  rw [List.map_cons, cv_n G ad h2 h16] at hk
  exact lv_null hC.1 hC.2.1 hd hk
theorem ev_ifnull_t {t : Nat} {v : Int} {off : Int} {tgt : Nat} (h2 : 2 ≤ t) (h16 : t ≤ 16) (hd : decode mi.2.1 pc = .ok (.ifnull off, 3)) (ht : (pc : Int) + off = (tgt : Int)) (hv : v = 0) (h : Ev X mi d tgt L st M r M') : Ev X mi d pc L ((t, v) :: st) M r M' := by
  subst hv
  refine ev_step h ?_
  intro G R p l e s m args below meth c Q A kd ad H locs cells slots ls hC hX hst hL hl
  refine ⟨ok_tl hst, hL, fun k => ?_⟩
  rw [List.map_cons, cv_n G ad h2 h16]
  exact lv_ifnullN hC.1 hC.2.1 hd ht (k ls hl)
theorem ev_ifnull_f {t : Nat} {v : Int} {off : Int} (h2 : 2 ≤ t) (h16 : t ≤ 16) (hd : decode mi.2.1 pc = .ok (.ifnull off, 3)) (hv : ¬ (v = 0)) (h : Ev X mi d (pc + 3) L st M r M') : Ev X mi d pc L ((t, v) :: st) M r M' := by
  refine ev_step h ?_
  intro G R p l e s m args below meth c Q A kd ad H locs cells slots ls hC hX hst hL hl
  refine ⟨ok_tl hst, hL, fun k => ?_⟩
  rw [List.map_cons, cv_r G ad h2 h16 hv]
  exact lv_ifnull hC.1 hC.2.1 hd (k ls hl)
theorem ev_ifnonnull_t {t : Nat} {v : Int} {off : Int} {tgt : Nat} (h2 : 2 ≤ t) (h16 : t ≤ 16) (hd : decode mi.2.1 pc = .ok (.ifnonnull off, 3)) (ht : (pc : Int) + off = (tgt : Int)) (hv : v ≠ 0) (h : Ev X mi d tgt L st M r M') : Ev X mi d pc L ((t, v) :: st) M r M' := by
  refine ev_step h ?_
  intro G R p l e s m args below meth c Q A kd ad H locs cells slots ls hC hX hst hL hl
  refine ⟨ok_tl hst, hL, fun k => ?_⟩
  rw [List.map_cons, cv_r G ad h2 h16 hv]
  exact lv_ifnonnull hC.1 hC.2.1 hd ht (k ls hl)
theorem ev_ifnonnull_f {t : Nat} {v : Int} {off : Int} (h2 : 2 ≤ t) (h16 : t ≤ 16) (hd : decode mi.2.1 pc = .ok (.ifnonnull off, 3)) (hv : ¬ (v ≠ 0)) (h : Ev X mi d (pc + 3) L st M r M') : Ev X mi d pc L ((t, v) :: st) M r M' := by
  have hv : v = 0 := by omega
  subst hv
  refine ev_step h ?_
  intro G R p l e s m args below meth c Q A kd ad H locs cells slots ls hC hX hst hL hl
  refine ⟨ok_tl hst, hL, fun k => ?_⟩
  rw [List.map_cons, cv_n G ad h2 h16]
  exact lv_ifnonnullN hC.1 hC.2.1 hd (k ls hl)
theorem ev_tabIn {v : Int} (i : Nat) {dflt lo hi : Int} {offs : Array Int} {len : Nat} {off : Int} {tgt : Nat} (hd : decode mi.2.1 pc = .ok (.tableswitch dflt lo hi offs, len)) (hv : v = lo + (i : Int)) (h2 : ¬ hi < lo + (i : Int)) (ho : offs[i]? = some off) (ht : (pc : Int) + off = (tgt : Int)) (h : Ev X mi d tgt L st M r M') : Ev X mi d pc L ((0, v) :: st) M r M' := by
  refine ev_step h ?_
  intro G R p l e s m args below meth c Q A kd ad H locs cells slots ls hC hX hst hL hl
  have ha := (ok_hd hst).1 rfl
  refine ⟨ok_tl hst, hL, fun k => lv_tableIn hC.1 hC.2.1 hd ?_ ?_ ?_ ht (k ls hl)⟩
  · rw [i32_c ha]; omega
  · rw [i32_c ha]; omega
  · rw [i32_c ha, show (v - lo).toNat = i by omega]; exact ho
theorem ev_tabOut {v : Int} {dflt lo hi : Int} {offs : Array Int} {len : Nat} {tgt : Nat} (hd : decode mi.2.1 pc = .ok (.tableswitch dflt lo hi offs, len)) (hv : v < lo ∨ hi < v) (ht : (pc : Int) + dflt = (tgt : Int)) (h : Ev X mi d tgt L st M r M') : Ev X mi d pc L ((0, v) :: st) M r M' := by
  refine ev_step h ?_
  intro G R p l e s m args below meth c Q A kd ad H locs cells slots ls hC hX hst hL hl
  have ha := (ok_hd hst).1 rfl
  refine ⟨ok_tl hst, hL, fun k => lv_tableOut hC.1 hC.2.1 hd ?_ ht (k ls hl)⟩
  rw [i32_c ha]; exact hv
theorem ev_look {v : Int} {dflt : Int} {ps : Array (Int × Int)} {len : Nat} {off : Int} {tgt : Nat} (hd : decode mi.2.1 pc = .ok (.lookupswitch dflt ps, len)) (hp : (ps.toList.zip (ps.toList.drop 1)).all (fun (a, next) => a.1 < next.1) = true) (ho : Op.lookupswitch.offset ps.toList dflt v = off) (ht : (pc : Int) + off = (tgt : Int)) (h : Ev X mi d tgt L st M r M') : Ev X mi d pc L ((0, v) :: st) M r M' := by
  refine ev_step h ?_
  intro G R p l e s m args below meth c Q A kd ad H locs cells slots ls hC hX hst hL hl
  have ha := (ok_hd hst).1 rfl
  refine ⟨ok_tl hst, hL, fun k => lv_lookup hC.1 hC.2.1 hd hp ?_ ht (k ls hl)⟩
  rw [i32_c ha]; exact ho
theorem ev_ret {v : Int} (hd : decode mi.2.1 pc = .ok (.ireturn, 1)) (hi : mi.2.2.2.1 = some .int) : Ev X mi d pc L [(0, v)] M (some (0, v)) M := by
  refine ⟨⟨Nat.le_refl _, Nat.le_refl _⟩, fun q _ h => (by rw [hi] at h; cases h), ?_⟩
  intro G R p l e s m args below meth c Q A kd ad H locs cells slots ls hC hX hst hL hl hc hs he
  exact he kd ad H locs cells slots pc ls (fun _ _ => ⟨rfl, rfl⟩) hX ⟨ok_hd hst, Or.inl ⟨rfl, Or.inl hi⟩⟩ hd (by omega) (by omega)
theorem ev_retZ {v : Int} (hd : decode mi.2.1 pc = .ok (.ireturn, 1)) (hi : mi.2.2.2.1 = some .boolean) (hv : v = 0 ∨ v = 1) : Ev X mi d pc L [(0, v)] M (some (0, v)) M := by
  refine ⟨⟨Nat.le_refl _, Nat.le_refl _⟩, fun q e _ => (by cases e; exact hv), ?_⟩
  intro G R p l e s m args below meth c Q A kd ad H locs cells slots ls hC hX hst hL hl hc hs he
  exact he kd ad H locs cells slots pc ls (fun _ _ => ⟨rfl, rfl⟩) hX ⟨ok_hd hst, Or.inl ⟨rfl, Or.inr (Or.inl ⟨hi, hv⟩)⟩⟩ hd (by omega) (by omega)
theorem ev_retB (hd : decode mi.2.1 pc = .ok (.ireturn, 1)) (hi : mi.2.2.2.1 = some .byte) : Ev X mi d pc L [(0, 0)] M (some (0, 0)) M := by
  refine ⟨⟨Nat.le_refl _, Nat.le_refl _⟩, fun q _ h => (by rw [hi] at h; cases h), ?_⟩
  intro G R p l e s m args below meth c Q A kd ad H locs cells slots ls hC hX hst hL hl hc hs he
  exact he kd ad H locs cells slots pc ls (fun _ _ => ⟨rfl, rfl⟩) hX ⟨ok_hd hst, Or.inl ⟨rfl, Or.inr (Or.inr (Or.inl ⟨hi, rfl⟩))⟩⟩ hd (by omega) (by omega)
theorem ev_retC {v : Int} (hd : decode mi.2.1 pc = .ok (.ireturn, 1)) (hi : mi.2.2.2.1 = some .char) (hv : 0 ≤ v ∧ v < 128) : Ev X mi d pc L [(0, v)] M (some (0, v)) M := by
  refine ⟨⟨Nat.le_refl _, Nat.le_refl _⟩, fun q _ h => (by rw [hi] at h; cases h), ?_⟩
  intro G R p l e s m args below meth c Q A kd ad H locs cells slots ls hC hX hst hL hl hc hs he
  exact he kd ad H locs cells slots pc ls (fun _ _ => ⟨rfl, rfl⟩) hX ⟨ok_hd hst, Or.inl ⟨rfl, Or.inr (Or.inr (Or.inr ⟨hi, hv.1, hv.2⟩))⟩⟩ hd (by omega) (by omega)
theorem ev_retL {v : Int} (hd : decode mi.2.1 pc = .ok (.lreturn, 1)) (hi : mi.2.2.2.1 = some .long) : Ev X mi d pc L [(1, v)] M (some (1, v)) M := by
  refine ⟨⟨Nat.le_refl _, Nat.le_refl _⟩, fun q _ h => (by rw [hi] at h; cases h), ?_⟩
  intro G R p l e s m args below meth c Q A kd ad H locs cells slots ls hC hX hst hL hl hc hs he
  exact he kd ad H locs cells slots pc ls (fun _ _ => ⟨rfl, rfl⟩) hX ⟨ok_hd hst, Or.inr (Or.inl ⟨rfl, hi⟩)⟩ hd (by omega) (by omega)
theorem ev_retV (hd : decode mi.2.1 pc = .ok (.return_, 1)) (hi : mi.2.2.2.1 = none) : Ev X mi d pc L [] M none M := by
  refine ⟨⟨Nat.le_refl _, Nat.le_refl _⟩, fun q e _ => (by cases e), ?_⟩
  intro G R p l e s m args below meth c Q A kd ad H locs cells slots ls hC hX hst hL hl hc hs he
  exact he kd ad H locs cells slots pc ls (fun _ _ => ⟨rfl, rfl⟩) hX hi hd (by omega) (by omega)
theorem ev_retA {t : Nat} {v : Int} {C : String} (h2 : 2 ≤ t) (h16 : t ≤ 16) (hd : decode mi.2.1 pc = .ok (.areturn, 1)) (hi : mi.2.2.2.1 = some (.object C)) : Ev X mi d pc L [(t, v)] M (some (t, v)) M := by
  refine ⟨⟨Nat.le_refl _, Nat.le_refl _⟩, fun q _ h => (by rw [hi] at h; cases h), ?_⟩
  intro G R p l e s m args below meth c Q A kd ad H locs cells slots ls hC hX hst hL hl hc hs he
  have hrd : rD mi pc (some (t, v)) := by unfold rD; simp only; rw [if_neg (by omega), if_neg (by omega)]; exact hd
  exact he kd ad H locs cells slots pc ls (fun _ _ => ⟨rfl, rfl⟩) hX ⟨ok_hd hst, Or.inr (Or.inr ⟨h2, h16, C, hi⟩)⟩ hrd (by omega) (by omega)
end EV2
end
section
/-! the world's list -/
theorem wl_len (G : GG) (ad kd : Nat → Nat) (M : Mm) : (wl G ad kd M).length = mN M := by unfold wl; rw [List.length_map, List.length_range]
theorem wl_at {G : GG} {ad kd : Nat → Nat} {M : Mm} {c : Nat} (h : c < mN M) : (wl G ad kd M)[c]? = some (ad c, cE G ad kd M c) := by
  unfold wl; rw [List.getElem?_map, List.getElem?_range h]; rfl
theorem cI_s (c : Nat) : cI ((c : Int) + 1) = c := by unfold cI; omega
/-- a reference that isn't null: its cell -/
theorem ref_at {kd : Nat → Nat} {n t : Nat} {v : Int} (h : okV kd n (t, v)) (h2 : 2 ≤ t) (h16 : t ≤ 16) (hv : v ≠ 0) : cI v < n ∧ kd (cI v) = t := by
  rcases h.2.2.1 h2 h16 with e | ⟨c, e, hc, hk⟩
  · exact absurd e hv
  · simp only at e; rw [e, cI_s]; exact ⟨hc, hk⟩
theorem mg_mp_s (M : Mm) (c k : Nat) (v : Int) : mg (mp M c k v) c k = v := by unfold mg mp; simp
theorem mg_mp_n {M : Mm} {c k c' k' : Nat} {v : Int} (h : ¬ (c' = c ∧ k' = k)) : mg (mp M c k v) c' k' = mg M c' k' := by unfold mg mp; simp only [h, if_false]
theorem mg_mp (M : Mm) (c k : Nat) (v : Int) (c' k' : Nat) : mg (mp M c k v) c' k' = if c' = c ∧ k' = k then v else mg M c' k' := rfl
theorem ml_mp (M : Mm) (c k : Nat) (v : Int) (c' : Nat) : ml (mp M c k v) c' = ml M c' := rfl
theorem mN_mp (M : Mm) (c k : Nat) (v : Int) : mN (mp M c k v) = mN M := rfl
theorem mZ_mp (M : Mm) (c k : Nat) (v : Int) : mZ (mp M c k v) = mZ M := rfl
theorem cE_ne {G : GG} {ad kd : Nat → Nat} {M : Mm} {c k j : Nat} {x : Int} (h : j ≠ c) : cE G ad kd (mp M c k x) j = cE G ad kd M j := by
  have e : ∀ k', mg (mp M c k x) j k' = mg M j k' := fun k' => mg_mp_n (fun z => h z.1)
  unfold cE; simp only [e, ml_mp]
theorem wl_set {G : GG} {ad kd : Nat → Nat} {M : Mm} {c k : Nat} {x : Int} (hc : c < mN M) {e : va_E} (he : cE G ad kd (mp M c k x) c = e) : (wl G ad kd M).set c (ad c, e) = wl G ad kd (mp M c k x) := by
  apply List.ext_getElem?; intro j
  by_cases hj : j = c
  · subst hj
    rw [List.getElem?_set_self (by rw [wl_len]; exact hc), wl_at (M := mp M j k x) hc, he]
  · rw [List.getElem?_set_ne (Ne.symm hj)]
    by_cases hl : j < mN M
    · rw [wl_at hl, wl_at (M := mp M c k x) hl, cE_ne hj]
    · rw [List.getElem?_eq_none (by rw [wl_len]; omega), List.getElem?_eq_none (by rw [wl_len, mN_mp]; omega)]
theorem WT_mp {kd : Nat → Nat} {M : Mm} {c k : Nat} {x : Int} (h : WT kd M) (hx : okV kd (mN M) (ft (kd c) k, x)) : WT kd (mp M c k x) := by
  intro j hj
  obtain ⟨h1, h2, h3, h4⟩ := h j hj
  refine ⟨h1, h2, h3, fun k' => ?_⟩
  rw [mg_mp, mN_mp]
  by_cases e : j = c ∧ k' = k
  · rw [if_pos e, e.1, e.2]; exact hx
  · rw [if_neg e]; exact h4 k'
theorem cE_obj {G : GG} {ad kd : Nat → Nat} {M : Mm} {c t : Nat} (h : kd c = t) (h12 : t ≤ 12) : cE G ad kd M c = .inr (t - 2, (List.range (nf t)).map fun k => cv G ad (ft t k, mg M c k)) := by
  unfold cE; rw [h, if_pos h12]
theorem fs_set {G : GG} {ad : Nat → Nat} {M : Mm} {c t k : Nat} {x : Int} : ((List.range (nf t)).map fun k => cv G ad (ft t k, mg M c k)).set k (cv G ad (ft t k, x)) = (List.range (nf t)).map fun k' => cv G ad (ft t k', mg (mp M c k x) c k') := by
  apply List.ext_getElem?; intro j
  by_cases hl : j < nf t
  · by_cases hj : j = k
    · subst hj
      rw [List.getElem?_set_self (by rw [List.length_map, List.length_range]; exact hl), List.getElem?_map, List.getElem?_range hl, Option.map_some, mg_mp_s]
    · rw [List.getElem?_set_ne (Ne.symm hj), List.getElem?_map, List.getElem?_map, List.getElem?_range hl, Option.map_some, Option.map_some, mg_mp_n (fun z => hj z.2)]
  · rw [List.getElem?_eq_none (by rw [List.length_set, List.length_map, List.length_range]; omega), List.getElem?_eq_none (by rw [List.length_map, List.length_range]; omega)]
section EV3
variable {X : XX} {mi : MI} {d pc : Nat} {L : List (Nat × AV)} {st : List AV} {M : Mm} {r : Option AV} {M' : Mm}
theorem ev_get {t k idx tk N : Nat} {v : Int} {C : String} {T : u_T} (h2 : 2 ≤ t) (h12 : t ≤ 12) (hc : cls[t - 2]? = some (C, T, N)) (hin : ∀ w ∈ u_ws C T N, w ∈ tblG) (hk : k < N) (hN : nf t = N) (htk : ft t k = tk) (hw : Cond.fieldLink mi.2.2.2.2 idx (T k).1 (T k).2.1 (T k).2.2.1 ∈ tblG) (hd : decode mi.2.1 pc = .ok (.getfield idx, 3)) (hv : v ≠ 0) (h : Ev X mi d (pc + 3) L ((tk, mg M (cI v) k) :: st) M r M') : Ev X mi d pc L ((t, v) :: st) M r M' := by
  refine ev_step h ?_
  intro G R p l e s m args below meth c Q A kd ad H locs cells slots ls hC hX hst hL hl
  obtain ⟨hcn, hkd⟩ := ref_at (ok_hd hst) h2 (by omega) hv
  refine ⟨ok_cs (by rw [← htk, ← hkd]; exact (hX.1 _ hcn).2.2.2 k) (ok_tl hst), hL, fun kk => ?_⟩
  rw [List.map_cons, cv_r G ad h2 (by omega) hv]
  refine va_get (D := G.1) (cl := cls) (ci := t - 2) (v := cv G ad (tk, mg M (cI v) k)) (C := C) (T := T) (N := N) hC.1 hC.2.1 hC.2.2.2.2.1 hin hC.2.2.2.1 hC.2.2.2.2.2.2.2.2.1 hX.2.1 (cI v) (fs := (List.range (nf t)).map fun k => cv G ad (ft t k, mg M (cI v) k)) (by rw [wl_at hcn, cE_obj hkd h12]) hc k hk (hC.2.2.2.2.1 _ hw) (fun _ h9 => h9) ?_ hd (kk ls hl)
  rw [List.getElem?_map, List.getElem?_range (by omega), Option.map_some, htk]
theorem ev_getN {t k idx tk N : Nat} {v : Int} {C host : String} {T : u_T} (h2 : 2 ≤ t) (h12 : t ≤ 12) (hc : cls[t - 2]? = some (C, T, N)) (hin : ∀ w ∈ u_ws C T N, w ∈ tblG) (hk : k < N) (hN : nf t = N) (htk : ft t k = tk) (hw : Cond.fieldLinkNest mi.2.2.2.2 idx (T k).1 (T k).2.1 (T k).2.2.1 host ∈ tblN) (hd : decode mi.2.1 pc = .ok (.getfield idx, 3)) (hv : v ≠ 0) (h : Ev X mi d (pc + 3) L ((tk, mg M (cI v) k) :: st) M r M') : Ev X mi d pc L ((t, v) :: st) M r M' := by
  refine ev_step h ?_
  intro G R p l e s m args below meth c Q A kd ad H locs cells slots ls hC hX hst hL hl
  obtain ⟨hcn, hkd⟩ := ref_at (ok_hd hst) h2 (by omega) hv
  refine ⟨ok_cs (by rw [← htk, ← hkd]; exact (hX.1 _ hcn).2.2.2 k) (ok_tl hst), hL, fun kk => ?_⟩
  rw [List.map_cons, cv_r G ad h2 (by omega) hv]
  refine va_getN (D := G.1) (cl := cls) (ci := t - 2) (v := cv G ad (tk, mg M (cI v) k)) (C := C) (T := T) (N := N) hC.1 hC.2.1 hC.2.2.2.2.1 hin hC.2.2.2.1 hC.2.2.2.2.2.2.2.2.1 hX.2.1 (cI v) (fs := (List.range (nf t)).map fun k => cv G ad (ft t k, mg M (cI v) k)) (by rw [wl_at hcn, cE_obj hkd h12]) hc k hk (va_Nw.use rfl (hC.2.2.2.2.2.2.2.1.2.2.2.1 _ hw)) (fun _ h9 => h9) ?_ hd (kk ls hl)
  rw [List.getElem?_map, List.getElem?_range (by omega), Option.map_some, htk]
/-- the step of an instruction that writes one place -/
theorem ev_write {pc' c0 k0 : Nat} {x : Int} {st' : List AV} (h : Ev X mi d pc' L st' (mp M c0 k0 x) r M')
    (step : ∀ (G : GG) (R : Room) (p : Program) (l : Launch) (e : Env) (s : State) (m : MethodId) (args : Array Value) (below : List Frame) (meth : Method) (c : Code) (Q : State → Prop) (A : Nat → Prop) (kd ad : Nat → Nat) (H : Heap) (locs : List Loc) (cells slots : Nat) (ls : Array Slot),
      Cx X mi G d R p s m args meth c A → Sx G ad kd M A s H locs → (∀ q ∈ st, okV kd (mN M) q) → lv_has ls mi.2.2.1 (lvs G ad L) →
      okV kd (mN M) (ft (kd c0) k0, x) ∧ (∀ q ∈ st', okV kd (mN M) q) ∧ ((∀ (H1 : Heap) (locs1 : List Loc), va_P G.1 cls (wl G ad kd (mp M c0 k0 x)) H1 → va_D A (wl G ad kd (mp M c0 k0 x)) → va_S A s.heap H1 locs1 → W p l e R s m args below meth c H1 locs1 cells slots Q (F0 m pc' ls (st'.map (cv G ad)))) → W p l e R s m args below meth c H locs cells slots Q (F0 m pc ls (st.map (cv G ad))))) :
    Ev X mi d pc L st M r M' := by
  refine ⟨h.1, h.2.1, ?_⟩
  intro G R p l e s m args below meth c Q A kd ad H locs cells slots ls hC hX hst hL hl hc hs he
  obtain ⟨a0, a1, a3⟩ := step G R p l e s m args below meth c Q A kd ad H locs cells slots ls hC hX hst hl
  exact a3 fun H1 locs1 b1 b2 b3 => h.2.2 G R p l e s m args below meth c Q A kd ad H1 locs1 cells slots ls hC ⟨WT_mp hX.1 a0, b1, b2, b3⟩ a1 hL hl hc hs he
/-- a field's type takes values of a tag -/
def tyOk (ty : FieldType) (t : Nat) : Bool := match ty with
  | .int => t == 0
  | .long => t == 1
  | .object _ => decide (2 ≤ t)
  | .array _ => decide (2 ≤ t)
  | _ => false
theorem tyOk_fit {ty : FieldType} {t : Nat} {x : Int} (h : tyOk ty t = true) (G : GG) (ad : Nat → Nat) : narrow ty (cv G ad (t, x)) = cv G ad (t, x) ∧ fits ty (cv G ad (t, x)) = true := by
  unfold tyOk at h
  split at h
  · have e : t = 0 := by simpa using h
    subst e; exact ⟨rfl, rfl⟩
  · have e : t = 1 := by simpa using h
    subst e; exact ⟨rfl, rfl⟩
  · have e : 2 ≤ t := by simpa using h
    rcases cv_or G ad (t := t) (v := x) e with q | ⟨a, q⟩ <;> rw [q] <;> exact ⟨rfl, rfl⟩
  · have e : 2 ≤ t := by simpa using h
    rcases cv_or G ad (t := t) (v := x) e with q | ⟨a, q⟩ <;> rw [q] <;> exact ⟨rfl, rfl⟩
  · exact absurd h (by decide)
theorem ev_put {t k idx tk N : Nat} {v x : Int} {C : String} {T : u_T} {ty0 : Nat → FieldType} (h2 : 2 ≤ t) (h12 : t ≤ 12) (hc : cls[t - 2]? = some (C, T, N)) (hin : ∀ w ∈ u_ws C T N, w ∈ tblG) (hty : ∀ k, k < N → parseFieldDescriptor (T k).2.2.1 = some (ty0 k)) (hnm : ∀ a, a < N → ∀ b, b < N → a ≠ b → (T a).2.1 ≠ (T b).2.1) (hk : k < N) (hN : nf t = N) (htk : ft t k = tk) (hto : tyOk (ty0 k) tk = true) (hfin : (T k).2.2.2 = false) (hw : Cond.fieldLink mi.2.2.2.2 idx (T k).1 (T k).2.1 (T k).2.2.1 ∈ tblG) (hd : decode mi.2.1 pc = .ok (.putfield idx, 3)) (hv : v ≠ 0) (h : Ev X mi d (pc + 3) L st (mp M (cI v) k x) r M') : Ev X mi d pc L ((tk, x) :: (t, v) :: st) M r M' := by
  refine ev_write h ?_
  intro G R p l e s m args below meth c Q A kd ad H locs cells slots ls hC hX hst hl
  obtain ⟨hcn, hkd⟩ := ref_at (ok_hd (ok_tl hst)) h2 (by omega) hv
  refine ⟨by rw [hkd, htk]; exact ok_hd hst, ok_tl (ok_tl hst), fun kk => ?_⟩
  rw [List.map_cons, List.map_cons, cv_r G ad h2 (by omega) hv]
  refine va_put (D := G.1) (cl := cls) (ci := t - 2) (C := C) (T := T) (N := N) (ty := ty0 k) (v := cv G ad (tk, x)) hC.1 hC.2.1 hC.2.2.2.2.1 hin ty0 hty hnm hC.2.2.2.1 hC.2.2.2.2.2.2.2.2.1 hX.2.1 hX.2.2.1 hX.2.2.2 (cI v) (fs := (List.range (nf t)).map fun k => cv G ad (ft t k, mg M (cI v) k)) (by rw [wl_at hcn, cE_obj hkd h12]) hc k hk (hC.2.2.2.2.1 _ hw) (fun _ h9 => h9) hfin (hty k hk) (tyOk_fit hto G ad).1 (tyOk_fit hto G ad).2 (by rw [List.length_map, List.length_range]; omega) hd ?_
  rw [← htk, fs_set, ← cE_obj (M := mp M (cI v) k x) hkd h12, wl_set hcn rfl]
  exact kk
theorem ev_putN {t k idx tk N : Nat} {v x : Int} {C host : String} {T : u_T} {ty0 : Nat → FieldType} (h2 : 2 ≤ t) (h12 : t ≤ 12) (hc : cls[t - 2]? = some (C, T, N)) (hin : ∀ w ∈ u_ws C T N, w ∈ tblG) (hty : ∀ k, k < N → parseFieldDescriptor (T k).2.2.1 = some (ty0 k)) (hnm : ∀ a, a < N → ∀ b, b < N → a ≠ b → (T a).2.1 ≠ (T b).2.1) (hk : k < N) (hN : nf t = N) (htk : ft t k = tk) (hto : tyOk (ty0 k) tk = true) (hfin : (T k).2.2.2 = false) (hw : Cond.fieldLinkNest mi.2.2.2.2 idx (T k).1 (T k).2.1 (T k).2.2.1 host ∈ tblN) (hd : decode mi.2.1 pc = .ok (.putfield idx, 3)) (hv : v ≠ 0) (h : Ev X mi d (pc + 3) L st (mp M (cI v) k x) r M') : Ev X mi d pc L ((tk, x) :: (t, v) :: st) M r M' := by
  refine ev_write h ?_
  intro G R p l e s m args below meth c Q A kd ad H locs cells slots ls hC hX hst hl
  obtain ⟨hcn, hkd⟩ := ref_at (ok_hd (ok_tl hst)) h2 (by omega) hv
  refine ⟨by rw [hkd, htk]; exact ok_hd hst, ok_tl (ok_tl hst), fun kk => ?_⟩
  rw [List.map_cons, List.map_cons, cv_r G ad h2 (by omega) hv]
  refine va_putN (D := G.1) (cl := cls) (ci := t - 2) (C := C) (T := T) (N := N) (ty := ty0 k) (v := cv G ad (tk, x)) hC.1 hC.2.1 hC.2.2.2.2.1 hin ty0 hty hnm hC.2.2.2.1 hC.2.2.2.2.2.2.2.2.1 hX.2.1 hX.2.2.1 hX.2.2.2 (cI v) (fs := (List.range (nf t)).map fun k => cv G ad (ft t k, mg M (cI v) k)) (by rw [wl_at hcn, cE_obj hkd h12]) hc k hk (va_Nw.use rfl (hC.2.2.2.2.2.2.2.1.2.2.2.1 _ hw)) (fun _ h9 => h9) hfin (hty k hk) (tyOk_fit hto G ad).1 (tyOk_fit hto G ad).2 (by rw [List.length_map, List.length_range]; omega) hd ?_
  rw [← htk, fs_set, ← cE_obj (M := mp M (cI v) k x) hkd h12, wl_set hcn rfl]
  exact kk
theorem ev_putF {t k idx tk N : Nat} {v x : Int} {C : String} {T : u_T} {ty0 : Nat → FieldType} (h2 : 2 ≤ t) (h12 : t ≤ 12) (hc : cls[t - 2]? = some (C, T, N)) (hin : ∀ w ∈ u_ws C T N, w ∈ tblG) (hty : ∀ k, k < N → parseFieldDescriptor (T k).2.2.1 = some (ty0 k)) (hnm : ∀ a, a < N → ∀ b, b < N → a ≠ b → (T a).2.1 ≠ (T b).2.1) (hk : k < N) (hN : nf t = N) (htk : ft t k = tk) (hto : tyOk (ty0 k) tk = true) (hfin : (T k).2.2.2 = true) (hi : mi.1.name = "<init>") (hde : (T k).1 = mi.2.2.2.2) (hw : Cond.fieldLink mi.2.2.2.2 idx (T k).1 (T k).2.1 (T k).2.2.1 ∈ tblG) (hd : decode mi.2.1 pc = .ok (.putfield idx, 3)) (hv : v ≠ 0) (h : Ev X mi d (pc + 3) L st (mp M (cI v) k x) r M') : Ev X mi d pc L ((tk, x) :: (t, v) :: st) M r M' := by
  refine ev_write h ?_
  intro G R p l e s m args below meth c Q A kd ad H locs cells slots ls hC hX hst hl
  obtain ⟨hcn, hkd⟩ := ref_at (ok_hd (ok_tl hst)) h2 (by omega) hv
  refine ⟨by rw [hkd, htk]; exact ok_hd hst, ok_tl (ok_tl hst), fun kk => ?_⟩
  rw [List.map_cons, List.map_cons, cv_r G ad h2 (by omega) hv]
  refine va_putF (D := G.1) (cl := cls) (ci := t - 2) (C := C) (T := T) (N := N) (ty := ty0 k) (v := cv G ad (tk, x)) hC.1 hC.2.1 hC.2.2.2.2.1 hin ty0 hty hnm hC.2.2.2.1 hC.2.2.2.2.2.2.2.2.1 hX.2.1 hX.2.2.1 hX.2.2.2 (cI v) (fs := (List.range (nf t)).map fun k => cv G ad (ft t k, mg M (cI v) k)) (by rw [wl_at hcn, cE_obj hkd h12]) hc k hk (hC.2.2.2.2.1 _ hw) (fun _ h9 => h9) hfin (hC.2.2.2.2.2.1.trans hi) hde (hty k hk) (tyOk_fit hto G ad).1 (tyOk_fit hto G ad).2 (by rw [List.length_map, List.length_range]; omega) hd ?_
  rw [← htk, fs_set, ← cE_obj (M := mp M (cI v) k x) hkd h12, wl_set hcn rfl]
  exact kk
end EV3
end
section
theorem cE_I {G : GG} {ad kd : Nat → Nat} {M : Mm} {c : Nat} (h : kd c = 13) : cE G ad kd M c = .inl (G.2.1.1, ml M c, .inl fun k => Int32.ofInt (mg M c k)) := by
  unfold cE; rw [h]; rfl
theorem cE_J {G : GG} {ad kd : Nat → Nat} {M : Mm} {c : Nat} (h : kd c = 14) : cE G ad kd M c = .inl (G.2.1.2.1, ml M c, .inr (.inl fun k => Int64.ofInt (mg M c k))) := by
  unfold cE; rw [h]; rfl
theorem cE_Z {G : GG} {ad kd : Nat → Nat} {M : Mm} {c : Nat} (h : kd c = 15) : cE G ad kd M c = .inl (G.2.1.2.2.1, ml M c, .inl fun k => Int32.ofInt (mg M c k)) := by
  unfold cE; rw [h]; rfl
theorem cE_O {G : GG} {ad kd : Nat → Nat} {M : Mm} {c : Nat} (h : kd c = 16) : cE G ad kd M c = .inl (G.2.1.2.2.2, ml M c, .inr (.inr (.inr (.inr fun k => if mg M c k = 0 then none else some (ad (cI (mg M c k))))))) := by
  unfold cE; rw [h]; rfl
theorem okT {kd : Nat → Nat} {n t : Nat} {v : Int} (h : okV kd n (21, v)) : v = 0 ∨ v = 1 := h.2.2.2.1 rfl
section EV4
variable {X : XX} {mi : MI} {d pc : Nat} {L : List (Nat × AV)} {st : List AV} {M : Mm} {r : Option AV} {M' : Mm}
theorem ev_iald {i v : Int} (hd : decode mi.2.1 pc = .ok (.iaload, 1)) (hv : v ≠ 0) (hi : 0 ≤ i ∧ i < (ml M (cI v) : Int)) (h : Ev X mi d (pc + 1) L ((0, mg M (cI v) i.toNat) :: st) M r M') : Ev X mi d pc L ((0, i) :: (13, v) :: st) M r M' := by
  refine ev_step h ?_
  intro G R p l e s m args below meth c Q A kd ad H locs cells slots ls hC hX hst hL hl
  have hi3 := (ok_hd hst).1 rfl
  obtain ⟨hcn, hkd⟩ := ref_at (ok_hd (ok_tl hst)) (by omega) (by omega) hv
  have ho := (hX.1 _ hcn).2.2.2 i.toNat
  rw [hkd] at ho
  refine ⟨ok_cs ho (ok_tl (ok_tl hst)), hL, fun kk => ?_⟩
  have hk := kk ls hl
  rw [List.map_cons, List.map_cons, cv_r G ad (by omega) (by omega) hv]
  refine va_iald (D := G.1) (cl := cls) (f := fun k => Int32.ofInt (mg M (cI v) k)) hC.1 hC.2.1 hC.2.2.2.2.2.2.2.2.1 hX.2.1 (cI v) 0 (by rw [wl_at hcn, cE_I hkd]) rfl (i32_in hi3 hi.1 hi.2) hd ?_
  rw [i32_cl hi3]; exact hk
theorem ev_lald {i v : Int} (hd : decode mi.2.1 pc = .ok (.laload, 1)) (hv : v ≠ 0) (hi : 0 ≤ i ∧ i < (ml M (cI v) : Int)) (h : Ev X mi d (pc + 1) L ((1, mg M (cI v) i.toNat) :: st) M r M') : Ev X mi d pc L ((0, i) :: (14, v) :: st) M r M' := by
  refine ev_step h ?_
  intro G R p l e s m args below meth c Q A kd ad H locs cells slots ls hC hX hst hL hl
  have hi3 := (ok_hd hst).1 rfl
  obtain ⟨hcn, hkd⟩ := ref_at (ok_hd (ok_tl hst)) (by omega) (by omega) hv
  have ho := (hX.1 _ hcn).2.2.2 i.toNat
  rw [hkd] at ho
  refine ⟨ok_cs ho (ok_tl (ok_tl hst)), hL, fun kk => ?_⟩
  have hk := kk ls hl
  rw [List.map_cons, List.map_cons, cv_r G ad (by omega) (by omega) hv]
  refine va_lald (D := G.1) (cl := cls) (f := fun k => Int64.ofInt (mg M (cI v) k)) hC.1 hC.2.1 hC.2.2.2.2.2.2.2.2.1 hX.2.1 (cI v) 1 (by rw [wl_at hcn, cE_J hkd]) rfl (i32_in hi3 hi.1 hi.2) hd ?_
  rw [i32_cl hi3]; exact hk
theorem okZ {kd : Nat → Nat} {n : Nat} {v : Int} (h : okV kd n (21, v)) : okV kd n (0, v) := okI (by rcases okT (t := 0) h with e | e <;> rw [e] <;> unfold ok32 <;> omega)
theorem ev_zald {i v : Int} (hd : decode mi.2.1 pc = .ok (.baload, 1)) (hv : v ≠ 0) (hi : 0 ≤ i ∧ i < (ml M (cI v) : Int)) (h : Ev X mi d (pc + 1) L ((0, mg M (cI v) i.toNat) :: st) M r M') : Ev X mi d pc L ((0, i) :: (15, v) :: st) M r M' := by
  refine ev_step h ?_
  intro G R p l e s m args below meth c Q A kd ad H locs cells slots ls hC hX hst hL hl
  have hi3 := (ok_hd hst).1 rfl
  obtain ⟨hcn, hkd⟩ := ref_at (ok_hd (ok_tl hst)) (by omega) (by omega) hv
  have ho := (hX.1 _ hcn).2.2.2 i.toNat
  rw [hkd] at ho
  refine ⟨ok_cs (okZ ho) (ok_tl (ok_tl hst)), hL, fun kk => ?_⟩
  have hk := kk ls hl
  rw [List.map_cons, List.map_cons, cv_r G ad (by omega) (by omega) hv]
  refine va_zald (D := G.1) (cl := cls) (f := fun k => Int32.ofInt (mg M (cI v) k)) hC.1 hC.2.1 hC.2.2.2.2.2.2.2.2.1 hX.2.1 (cI v) 2 (by rw [wl_at hcn, cE_Z hkd]) rfl (i32_in hi3 hi.1 hi.2) hd ?_
  rw [i32_cl hi3]; exact hk
theorem ev_aald {i v : Int} (hd : decode mi.2.1 pc = .ok (.aaload, 1)) (hv : v ≠ 0) (hi : 0 ≤ i ∧ i < (ml M (cI v) : Int)) (h : Ev X mi d (pc + 1) L ((5, mg M (cI v) i.toNat) :: st) M r M') : Ev X mi d pc L ((0, i) :: (16, v) :: st) M r M' := by
  refine ev_step h ?_
  intro G R p l e s m args below meth c Q A kd ad H locs cells slots ls hC hX hst hL hl
  have hi3 := (ok_hd hst).1 rfl
  obtain ⟨hcn, hkd⟩ := ref_at (ok_hd (ok_tl hst)) (by omega) (by omega) hv
  have ho := (hX.1 _ hcn).2.2.2 i.toNat
  rw [hkd] at ho
  refine ⟨ok_cs ho (ok_tl (ok_tl hst)), hL, fun kk => ?_⟩
  have hk := kk ls hl
  rw [List.map_cons, List.map_cons, cv_r G ad (by omega) (by omega) hv]
  refine va_aldq (D := G.1) (cl := cls) (C := "TownBand$Piece") (f := fun k => if mg M (cI v) k = 0 then none else some (ad (cI (mg M (cI v) k)))) hC.1 hC.2.1 hC.2.2.2.2.2.2.2.2.1 hX.2.1 (cI v) 3 (by rw [wl_at hcn, cE_O hkd]) rfl (i32_in hi3 hi.1 hi.2) hd ?_
  rw [i32_cl hi3]; exact hk
theorem f_upd {α β : Type} (g : α → β) (u : (Nat → β) → Nat → β → Nat → β) (hu : ∀ f k x j, u f k x j = if j = k then x else f j) (f : Nat → α) (k : Nat) (x : α) : u (fun j => g (f j)) k (g x) = fun j => g (if j = k then x else f j) := by
  funext j; rw [hu]; by_cases h : j = k <;> simp [h]
theorem ev_iast {i v x : Int} (hd : decode mi.2.1 pc = .ok (.iastore, 1)) (hv : v ≠ 0) (hi : 0 ≤ i ∧ i < (ml M (cI v) : Int)) (h : Ev X mi d (pc + 1) L st (mp M (cI v) i.toNat x) r M') : Ev X mi d pc L ((0, x) :: (0, i) :: (13, v) :: st) M r M' := by
  refine ev_write h ?_
  intro G R p l e s m args below meth c Q A kd ad H locs cells slots ls hC hX hst hl
  have hi3 := (ok_hd (ok_tl hst)).1 rfl
  obtain ⟨hcn, hkd⟩ := ref_at (ok_hd (ok_tl (ok_tl hst))) (by omega) (by omega) hv
  refine ⟨by rw [hkd]; exact ok_hd hst, ok_tl (ok_tl (ok_tl hst)), fun kk => ?_⟩
  rw [List.map_cons, List.map_cons, List.map_cons, cv_r G ad (by omega) (by omega) hv]
  refine va_iast (D := G.1) (cl := cls) (f := fun k => Int32.ofInt (mg M (cI v) k)) hC.1 hC.2.1 hC.2.2.2.2.2.2.2.2.1 hX.2.1 hX.2.2.1 hX.2.2.2 (cI v) 0 (by rw [wl_at hcn, cE_I hkd]) rfl (i32_in hi3 hi.1 hi.2) hd ?_
  have e : cE G ad kd (mp M (cI v) i.toNat x) (cI v) = .inl (G.2.1.1, ml M (cI v), .inl (upd (fun k => Int32.ofInt (mg M (cI v) k)) (Int32.ofInt i).toNatClampNeg (Int32.ofInt x))) := by
    rw [cE_I hkd, i32_cl hi3, ml_mp]
    have := f_upd Int32.ofInt upd (fun _ _ _ _ => rfl) (fun k => mg M (cI v) k) i.toNat x
    rw [this]; congr 3; congr 1; funext k; rw [mg_mp]; simp
  rw [wl_set hcn e]; exact kk
theorem ev_last {i v x : Int} (hd : decode mi.2.1 pc = .ok (.lastore, 1)) (hv : v ≠ 0) (hi : 0 ≤ i ∧ i < (ml M (cI v) : Int)) (h : Ev X mi d (pc + 1) L st (mp M (cI v) i.toNat x) r M') : Ev X mi d pc L ((1, x) :: (0, i) :: (14, v) :: st) M r M' := by
  refine ev_write h ?_
  intro G R p l e s m args below meth c Q A kd ad H locs cells slots ls hC hX hst hl
  have hi3 := (ok_hd (ok_tl hst)).1 rfl
  obtain ⟨hcn, hkd⟩ := ref_at (ok_hd (ok_tl (ok_tl hst))) (by omega) (by omega) hv
  refine ⟨by rw [hkd]; exact ok_hd hst, ok_tl (ok_tl (ok_tl hst)), fun kk => ?_⟩
  rw [List.map_cons, List.map_cons, List.map_cons, cv_r G ad (by omega) (by omega) hv]
  refine va_last (D := G.1) (cl := cls) (f := fun k => Int64.ofInt (mg M (cI v) k)) hC.1 hC.2.1 hC.2.2.2.2.2.2.2.2.1 hX.2.1 hX.2.2.1 hX.2.2.2 (cI v) 1 (by rw [wl_at hcn, cE_J hkd]) rfl (i32_in hi3 hi.1 hi.2) hd ?_
  have e : cE G ad kd (mp M (cI v) i.toNat x) (cI v) = .inl (G.2.1.2.1, ml M (cI v), .inr (.inl (vp_updL (fun k => Int64.ofInt (mg M (cI v) k)) (Int32.ofInt i).toNatClampNeg (Int64.ofInt x)))) := by
    rw [cE_J hkd, i32_cl hi3, ml_mp]
    have := f_upd Int64.ofInt vp_updL (fun _ _ _ _ => rfl) (fun k => mg M (cI v) k) i.toNat x
    rw [this]; congr 3; congr 2; funext k; rw [mg_mp]; simp
  rw [wl_set hcn e]; exact kk
theorem ev_zast {i v x : Int} (hd : decode mi.2.1 pc = .ok (.bastore, 1)) (hv : v ≠ 0) (hi : 0 ≤ i ∧ i < (ml M (cI v) : Int)) (hx : x = 0 ∨ x = 1) (h : Ev X mi d (pc + 1) L st (mp M (cI v) i.toNat x) r M') : Ev X mi d pc L ((0, x) :: (0, i) :: (15, v) :: st) M r M' := by
  refine ev_write h ?_
  intro G R p l e s m args below meth c Q A kd ad H locs cells slots ls hC hX hst hl
  have hi3 := (ok_hd (ok_tl hst)).1 rfl
  obtain ⟨hcn, hkd⟩ := ref_at (ok_hd (ok_tl (ok_tl hst))) (by omega) (by omega) hv
  refine ⟨by rw [hkd]; exact ⟨fun e => by simp [ft] at e, fun e => by simp [ft] at e, fun _ e => by simp [ft] at e, fun _ => hx, fun e => by simp [ft] at e⟩, ok_tl (ok_tl (ok_tl hst)), fun kk => ?_⟩
  rw [List.map_cons, List.map_cons, List.map_cons, cv_r G ad (by omega) (by omega) hv]
  refine va_zast (D := G.1) (cl := cls) (f := fun k => Int32.ofInt (mg M (cI v) k)) hC.1 hC.2.1 hC.2.2.2.2.2.2.2.2.1 hX.2.1 hX.2.2.1 hX.2.2.2 (cI v) 2 (by rw [wl_at hcn, cE_Z hkd]) rfl (i32_in hi3 hi.1 hi.2) hd ?_
  have hnar : vp_nar .boolean (Int32.ofInt x) = Int32.ofInt x := by rcases hx with e | e <;> rw [e] <;> rfl
  have e : cE G ad kd (mp M (cI v) i.toNat x) (cI v) = .inl (G.2.1.2.2.1, ml M (cI v), .inl (upd (fun k => Int32.ofInt (mg M (cI v) k)) (Int32.ofInt i).toNatClampNeg (vp_nar .boolean (Int32.ofInt x)))) := by
    rw [cE_Z hkd, i32_cl hi3, ml_mp, hnar]
    have := f_upd Int32.ofInt upd (fun _ _ _ _ => rfl) (fun k => mg M (cI v) k) i.toNat x
    rw [this]; congr 3; congr 1; funext k; rw [mg_mp]; simp
  rw [wl_set hcn e]; exact kk
theorem ev_aast {i v x : Int} (hd : decode mi.2.1 pc = .ok (.aastore, 1)) (hv : v ≠ 0) (hi : 0 ≤ i ∧ i < (ml M (cI v) : Int)) (hx : x ≠ 0) (h : Ev X mi d (pc + 1) L st (mp M (cI v) i.toNat x) r M') : Ev X mi d pc L ((5, x) :: (0, i) :: (16, v) :: st) M r M' := by
  refine ev_write h ?_
  intro G R p l e s m args below meth c Q A kd ad H locs cells slots ls hC hX hst hl
  have hi3 := (ok_hd (ok_tl hst)).1 rfl
  obtain ⟨hcn, hkd⟩ := ref_at (ok_hd (ok_tl (ok_tl hst))) (by omega) (by omega) hv
  obtain ⟨hcx, hkx⟩ := ref_at (ok_hd hst) (by omega) (by omega) hx
  refine ⟨by rw [hkd]; exact ok_hd hst, ok_tl (ok_tl (ok_tl hst)), fun kk => ?_⟩
  rw [List.map_cons, List.map_cons, List.map_cons, cv_r G ad (by omega) (by omega) hv, cv_r G ad (by omega) (by omega) hx]
  refine va_astq (D := G.1) (cl := cls) (r := (R_Piece, F_Piece, 9)) (f := fun k => if mg M (cI v) k = 0 then none else some (ad (cI (mg M (cI v) k)))) hC.1 hC.2.1 hC.2.2.2.2.2.2.2.2.1 hX.2.1 hX.2.2.1 hX.2.2.2 (cI v) 3 (cI x) 3 (by rw [wl_at hcn, cE_O hkd]) rfl (by rw [wl_at hcx, cE_obj hkx (by omega)]) rfl (i32_in hi3 hi.1 hi.2) hd ?_
  have e : cE G ad kd (mp M (cI v) i.toNat x) (cI v) = .inl (G.2.1.2.2.2, ml M (cI v), .inr (.inr (.inr (.inr (va_up (fun k => if mg M (cI v) k = 0 then none else some (ad (cI (mg M (cI v) k)))) (Int32.ofInt i).toNatClampNeg (some (ad (cI x)))))))) := by
    rw [cE_O hkd, i32_cl hi3, ml_mp]
    congr 3; congr 4; funext k
    rw [mg_mp]; unfold va_up
    by_cases hk : k = i.toNat <;> simp [hk, hx]
  rw [wl_set hcn e]; exact kk
theorem i32_nat (n : Nat) : Int32.ofInt (n : Int) = Int32.ofNat n := rfl
theorem ev_alen {t : Nat} {v : Int} (h13 : 13 ≤ t) (h16 : t ≤ 16) (hd : decode mi.2.1 pc = .ok (.arraylength, 1)) (hv : v ≠ 0) (h : Ev X mi d (pc + 1) L ((0, (ml M (cI v) : Int)) :: st) M r M') : Ev X mi d pc L ((t, v) :: st) M r M' := by
  refine ev_step h ?_
  intro G R p l e s m args below meth c Q A kd ad H locs cells slots ls hC hX hst hL hl
  obtain ⟨hcn, hkd⟩ := ref_at (ok_hd hst) (by omega) (by omega) hv
  have hlen := (hX.1 _ hcn).2.2.1
  refine ⟨ok_cs (okI (by unfold ok32; omega)) (ok_tl hst), hL, fun kk => ?_⟩
  have hk := kk ls hl
  rw [List.map_cons, cv_r G ad (by omega) (by omega) hv]
  have hw := wl_at (G := G) (ad := ad) (kd := kd) hcn
  have ht : t = 13 ∨ t = 14 ∨ t = 15 ∨ t = 16 := by omega
  rcases ht with e | e | e | e <;> subst e
  · rw [cE_I hkd] at hw
    exact va_alen (D := G.1) (cl := cls) hC.1 hC.2.1 hC.2.2.2.2.2.2.2.2.1 hX.2.1 (cI v) 0 hw rfl rfl hd hk
  · rw [cE_J hkd] at hw
    exact va_alen (D := G.1) (cl := cls) hC.1 hC.2.1 hC.2.2.2.2.2.2.2.2.1 hX.2.1 (cI v) 1 hw rfl rfl hd hk
  · rw [cE_Z hkd] at hw
    exact va_alen (D := G.1) (cl := cls) hC.1 hC.2.1 hC.2.2.2.2.2.2.2.2.1 hX.2.1 (cI v) 2 hw rfl rfl hd hk
  · rw [cE_O hkd] at hw
    exact va_alen (D := G.1) (cl := cls) hC.1 hC.2.1 hC.2.2.2.2.2.2.2.2.1 hX.2.1 (cI v) 3 hw rfl rfl hd hk
/-! constants: statics, rows of longs, texts, the script -/
theorem ev_dig1 {idx : Nat} (hd : decode mi.2.1 pc = .ok (.getstatic idx, 3)) (hw : Cond.fieldLink mi.2.2.2.2 idx "TownBand$Seater" "DIGIT" "[J" ∈ tblG) (h : Ev X mi d (pc + 3) L ((18, 1) :: st) M r M') : Ev X mi d pc L st M r M' := by
  refine ev_step h ?_
  intro G R p l e s m args below meth c Q A kd ad H locs cells slots ls hC hX hst hL hl
  refine ⟨ok_cs ⟨fun e => by simp at e, fun e => by simp at e, fun _ e => by simp at e, fun e => by simp at e, fun e => by simp at e⟩ hst, hL, fun kk => ?_⟩
  exact va_gets hC.1 hC.2.1 hC.2.2.2.2.2.2.2.1.2.1.1 hX.2.2.2 hC.2.2.2.1 (hC.2.2.2.2.1 _ hw) (fun _ h => h) hd (kk ls hl)
theorem ev_dig2 {idx : Nat} (hd : decode mi.2.1 pc = .ok (.getstatic idx, 3)) (hw : Cond.fieldLink mi.2.2.2.2 idx "TownBand$Planner" "DIGIT" "[J" ∈ tblG) (h : Ev X mi d (pc + 3) L ((19, 1) :: st) M r M') : Ev X mi d pc L st M r M' := by
  refine ev_step h ?_
  intro G R p l e s m args below meth c Q A kd ad H locs cells slots ls hC hX hst hL hl
  refine ⟨ok_cs ⟨fun e => by simp at e, fun e => by simp at e, fun _ e => by simp at e, fun e => by simp at e, fun e => by simp at e⟩ hst, hL, fun kk => ?_⟩
  exact va_gets hC.1 hC.2.1 hC.2.2.2.2.2.2.2.1.2.2.1.1 hX.2.2.2 hC.2.2.2.1 (hC.2.2.2.2.1 _ hw) (fun _ h => h) hd (kk ls hl)
theorem dg1_ok (j : Nat) : ok64 (dg1.getD j 0) := by
  by_cases h : j < 10
  · have e : ∀ j, j < 10 → (-9223372036854775808 ≤ dg1.getD j 0 ∧ dg1.getD j 0 < 9223372036854775808) := by decide +kernel
    exact e j h
  · rw [List.getD_eq_getElem?_getD, List.getElem?_eq_none (by simp only [dg1, List.length_cons, List.length_nil]; omega)]
    show ok64 0
    unfold ok64; omega
theorem dg2_ok (j : Nat) : ok64 (dg2.getD j 0) := by
  by_cases h : j < 10
  · have e : ∀ j, j < 10 → (-9223372036854775808 ≤ dg2.getD j 0 ∧ dg2.getD j 0 < 9223372036854775808) := by decide +kernel
    exact e j h
  · rw [List.getD_eq_getElem?_getD, List.getElem?_eq_none (by simp only [dg2, List.length_cons, List.length_nil]; omega)]
    show ok64 0
    unfold ok64; omega
theorem ev_tl1 {i v : Int} (hd : decode mi.2.1 pc = .ok (.laload, 1)) (hi : 0 ≤ i ∧ i < 10) (h : Ev X mi d (pc + 1) L ((1, dg1.getD i.toNat 0) :: st) M r M') : Ev X mi d pc L ((0, i) :: (18, v) :: st) M r M' := by
  refine ev_step h ?_
  intro G R p l e s m args below meth c Q A kd ad H locs cells slots ls hC hX hst hL hl
  have hi3 := (ok_hd hst).1 rfl
  refine ⟨ok_cs (okJ (dg1_ok _)) (ok_tl (ok_tl hst)), hL, fun kk => ?_⟩
  refine va_tl hC.1 hC.2.1 hC.2.2.2.2.2.2.2.1.2.1.2 hX.2.2.2 (i32_in hi3 hi.1 hi.2) ?_ hd (kk ls hl)
  show Value.long _ = Value.long _
  rw [i32_cl hi3]
theorem ev_tl2 {i v : Int} (hd : decode mi.2.1 pc = .ok (.laload, 1)) (hi : 0 ≤ i ∧ i < 10) (h : Ev X mi d (pc + 1) L ((1, dg2.getD i.toNat 0) :: st) M r M') : Ev X mi d pc L ((0, i) :: (19, v) :: st) M r M' := by
  refine ev_step h ?_
  intro G R p l e s m args below meth c Q A kd ad H locs cells slots ls hC hX hst hL hl
  have hi3 := (ok_hd hst).1 rfl
  refine ⟨ok_cs (okJ (dg2_ok _)) (ok_tl (ok_tl hst)), hL, fun kk => ?_⟩
  refine va_tl hC.1 hC.2.1 hC.2.2.2.2.2.2.2.1.2.2.1.2 hX.2.2.2 (i32_in hi3 hi.1 hi.2) ?_ hd (kk ls hl)
  show Value.long _ = Value.long _
  rw [i32_cl hi3]
theorem ev_sld {i v : Int} (hX2 : ∀ j, ok32 (X.2 j)) (hd : decode mi.2.1 pc = .ok (.iaload, 1)) (hi : 0 ≤ i ∧ i < (X.1 : Int)) (h : Ev X mi d (pc + 1) L ((0, X.2 i.toNat) :: st) M r M') : Ev X mi d pc L ((0, i) :: (17, v) :: st) M r M' := by
  refine ev_step h ?_
  intro G R p l e s m args below meth c Q A kd ad H locs cells slots ls hC hX hst hL hl
  have hi3 := (ok_hd hst).1 rfl
  refine ⟨ok_cs (okI (hX2 _)) (ok_tl (ok_tl hst)), hL, fun kk => ?_⟩
  have hk := kk ls hl
  obtain ⟨hx1, hx2, hx3⟩ := hC.2.2.2.2.2.2.2.1.1
  refine va_sld hC.1 hC.2.1 hx1 hx2 hx3 hX.2.2.2 (i32_in hi3 hi.1 hi.2) hd ?_
  rw [i32_cl hi3]; exact hk
theorem ev_slen {v : Int} (hX1 : X.1 < 2147483648) (hd : decode mi.2.1 pc = .ok (.arraylength, 1)) (h : Ev X mi d (pc + 1) L ((0, (X.1 : Int)) :: st) M r M') : Ev X mi d pc L ((17, v) :: st) M r M' := by
  refine ev_step h ?_
  intro G R p l e s m args below meth c Q A kd ad H locs cells slots ls hC hX hst hL hl
  refine ⟨ok_cs (okI (by unfold ok32; omega)) (ok_tl hst), hL, fun kk => ?_⟩
  have hk := kk ls hl
  obtain ⟨hx1, hx2, hx3⟩ := hC.2.2.2.2.2.2.2.1.1
  exact va_slen hC.1 hC.2.1 hx1 hx2 hx3 hX.2.2.2 hd hk
end EV4
end
section
/-! a world in which more cells stand: values and cells of the old ones -/
theorem cv_ag {G : GG} {ad ad' kd : Nat → Nat} {n : Nat} {q : AV} (h : okV kd n q) (ha : ∀ c, c < n → ad' c = ad c) : cv G ad' q = cv G ad q := by
  obtain ⟨t, v⟩ := q
  unfold cv
  by_cases h0 : t = 0
  · simp [h0]
  by_cases h1 : t = 1
  · simp [h1]
  by_cases h16 : t ≤ 16
  · simp only [h0, h1, h16, if_false, if_true]
    by_cases hv : v = 0
    · simp [hv]
    · have := (ref_at h (by omega) h16 hv).1
      simp only [hv, if_false]; rw [ha _ this]
  · simp [h0, h1, h16]
theorem map_ag {G : GG} {ad ad' kd : Nat → Nat} {n : Nat} {st : List AV} (h : ∀ q ∈ st, okV kd n q) (ha : ∀ c, c < n → ad' c = ad c) : st.map (cv G ad') = st.map (cv G ad) := List.map_congr_left fun q hq => cv_ag (h q hq) ha
theorem lvs_ag {G : GG} {ad ad' kd : Nat → Nat} {n : Nat} {L : List (Nat × AV)} (h : ∀ q ∈ L, okV kd n q.2) (ha : ∀ c, c < n → ad' c = ad c) : lvs G ad' L = lvs G ad L := by
  unfold lvs; exact List.map_congr_left fun q hq => by rw [cv_ag (h q hq) ha]
theorem okV_ag {kd kd' : Nat → Nat} {n n' : Nat} {q : AV} (h : okV kd n q) (hk : ∀ c, c < n → kd' c = kd c) (hn : n ≤ n') : okV kd' n' q := by
  refine ⟨h.1, h.2.1, fun a b => ?_, h.2.2.2⟩
  rcases h.2.2.1 a b with e | ⟨c, e, hc, hkc⟩
  · exact Or.inl e
  · exact Or.inr ⟨c, e, Nat.lt_of_lt_of_le hc hn, by rw [hk c hc]; exact hkc⟩
theorem cE_ag {G : GG} {ad ad' kd kd' : Nat → Nat} {M M1 : Mm} {c : Nat} (hw : WT kd M) (hc : c < mN M) (ha : ∀ c, c < mN M → kd' c = kd c ∧ ad' c = ad c) (hv : ∀ k, mg M1 c k = mg M c k) (hl : ml M1 c = ml M c) : cE G ad' kd' M1 c = cE G ad kd M c := by
  obtain ⟨h1, h2, h3, h4⟩ := hw c hc
  have ha2 : ∀ c, c < mN M → ad' c = ad c := fun c h => (ha c h).2
  have hkc := (ha c hc).1
  by_cases h12 : kd c ≤ 12
  · rw [cE_obj (kd := kd') hkc h12, cE_obj (kd := kd) rfl h12]
    congr 2
    exact List.map_congr_left fun k _ => by rw [hv]; exact cv_ag (h4 k) ha2
  · have h5 : kd c = 13 ∨ kd c = 14 ∨ kd c = 15 ∨ kd c = 16 := by omega
    rcases h5 with e | e | e | e
    · rw [cE_I (hkc.trans e), cE_I e, hl]; simp only [hv]
    · rw [cE_J (hkc.trans e), cE_J e, hl]; simp only [hv]
    · rw [cE_Z (hkc.trans e), cE_Z e, hl]; simp only [hv]
    · rw [cE_O (hkc.trans e), cE_O e, hl]; simp only [hv]
      congr 3; congr 4; funext k
      by_cases hz : mg M c k = 0
      · simp [hz]
      · have h6 := h4 k
        rw [e] at h6
        have := (ref_at h6 (show 2 ≤ 5 by decide) (show 5 ≤ 16 by decide) hz).1
        simp only [hz, if_false]; rw [ha2 _ this]
theorem mg_mw (M : Mm) (n c k : Nat) : mg (mw M n) c k = if c = mN M then 0 else mg M c k := rfl
theorem ml_mw (M : Mm) (n c : Nat) : ml (mw M n) c = if c = mN M then n else ml M c := rfl
theorem mN_mw (M : Mm) (n : Nat) : mN (mw M n) = mN M + 1 := rfl
theorem mZ_mw (M : Mm) (n : Nat) : mZ (mw M n) = mZ M + n := rfl
theorem wl_mw {G : GG} {ad kd : Nat → Nat} {M : Mm} {n t q : Nat} (hw : WT kd M) : wl G (va_up ad (mN M) q) (va_up kd (mN M) t) (mw M n) = wl G ad kd M ++ [(q, cE G (va_up ad (mN M) q) (va_up kd (mN M) t) (mw M n) (mN M))] := by
  unfold wl
  rw [mN_mw, List.range_succ, List.map_append, List.map_singleton]
  congr 1
  · apply List.map_congr_left; intro c hc
    have hc : c < mN M := List.mem_range.mp hc
    have hne : c ≠ mN M := by omega
    rw [cE_ag (M1 := mw M n) (ad' := va_up ad (mN M) q) (kd' := va_up kd (mN M) t) hw hc (fun c h => by unfold va_up; rw [if_neg (by omega), if_neg (by omega)]; exact ⟨rfl, rfl⟩) (fun k => by rw [mg_mw, if_neg hne]) (by rw [ml_mw, if_neg hne])]
    unfold va_up; rw [if_neg hne]
  · unfold va_up; simp
theorem ok_0 {kd : Nat → Nat} {n t : Nat} (h : t ≤ 16 ∨ t = 21) : okV kd n (t, 0) := ⟨fun _ => ok32_0, fun _ => by unfold ok64; constructor <;> simp, fun _ _ => Or.inl rfl, fun _ => Or.inl rfl, fun e => by simp only at e; omega⟩
theorem ft_le (t k : Nat) : ft t k ≤ 16 ∨ ft t k = 21 := by
  unfold ft
  split
  · omega
  · split
    · omega
    · split
      · omega
      · split
        · omega
        · left
          have h : ∀ t k, (fl t).getD k 0 ≤ 16 := by
            intro t k
            rw [List.getD_eq_getElem?_getD]
            cases e : (fl t)[k]? with
            | none => simp
            | some x =>
              have hx : x ∈ fl t := List.mem_of_getElem? e
              have ha : ∀ x ∈ fl t, x ≤ 16 := by
                unfold fl; split <;> decide
              simpa using ha x hx
          exact h t k
theorem WT_mw {kd : Nat → Nat} {M : Mm} {n t : Nat} (hw : WT kd M) (h2 : 2 ≤ t) (h16 : t ≤ 16) (hn : n < 2147483648) : WT (va_up kd (mN M) t) (mw M n) := by
  intro c hc
  rw [mN_mw] at hc
  by_cases e : c = mN M
  · subst e
    have ek : va_up kd (mN M) t (mN M) = t := by unfold va_up; simp
    rw [ek, ml_mw, if_pos rfl]
    exact ⟨h2, h16, hn, fun k => by rw [mg_mw, if_pos rfl]; exact ok_0 (ft_le t k)⟩
  · have hc' : c < mN M := by omega
    obtain ⟨h1, h3, h4, h5⟩ := hw c hc'
    have ek : va_up kd (mN M) t c = kd c := by unfold va_up; rw [if_neg e]
    rw [ek, ml_mw, if_neg e]
    exact ⟨h1, h3, h4, fun k => by rw [mg_mw, if_neg e]; exact okV_ag (h5 k) (fun c hc => by unfold va_up; rw [if_neg (by omega)]) (by rw [mN_mw]; omega)⟩
section EV5
variable {X : XX} {mi : MI} {d pc : Nat} {L : List (Nat × AV)} {st : List AV} {M : Mm} {r : Option AV} {M' : Mm}
/-- the step of an instruction that makes a cell of a tag -/
theorem ev_make {pc' t n : Nat} {st0 : List AV} (h2 : 2 ≤ t) (h16 : t ≤ 16) (hn : n < 2147483648) (hsub : ∀ q ∈ st0, q ∈ st) (h : Ev X mi d pc' L ((t, (mN M : Int) + 1) :: st0) (mw M n) r M')
    (step : ∀ (G : GG) (R : Room) (p : Program) (l : Launch) (e : Env) (s : State) (m : MethodId) (args : Array Value) (below : List Frame) (meth : Method) (c : Code) (Q : State → Prop) (A : Nat → Prop) (kd ad : Nat → Nat) (H : Heap) (locs : List Loc) (cells slots : Nat) (ls : Array Slot),
      Cx X mi G d R p s m args meth c A → Sx G ad kd M A s H locs → (∀ q ∈ st, okV kd (mN M) q) → cells + 1 ≤ R.cells → slots + n ≤ R.slots →
      (∀ (q : Nat) (H1 : Heap), va_P G.1 cls (wl G ad kd M ++ [(q, cE G (va_up ad (mN M) q) (va_up kd (mN M) t) (mw M n) (mN M))]) H1 → va_D A (wl G ad kd M ++ [(q, cE G (va_up ad (mN M) q) (va_up kd (mN M) t) (mw M n) (mN M))]) → va_S A s.heap H1 locs → W p l e R s m args below meth c H1 locs (cells + 1) (slots + n) Q (F0 m pc' ls (.ref q :: st0.map (cv G ad)))) → W p l e R s m args below meth c H locs cells slots Q (F0 m pc ls (st.map (cv G ad)))) :
    Ev X mi d pc L st M r M' := by
  have hm := h.1
  rw [mN_mw, mZ_mw] at hm
  refine ⟨⟨by omega, by omega⟩, h.2.1, ?_⟩
  intro G R p l e s m args below meth c Q A kd ad H locs cells slots ls hC hX hst hL hl hc hs he
  refine step G R p l e s m args below meth c Q A kd ad H locs cells slots ls hC hX hst (by omega) (by omega) fun q H1 b1 b2 b3 => ?_
  rw [← wl_mw hX.1] at b1 b2
  have ha : ∀ c, c < mN M → va_up ad (mN M) q c = ad c := fun c h => by unfold va_up; rw [if_neg (by omega)]
  have hk : ∀ c, c < mN M → va_up kd (mN M) t c = kd c := fun c h => by unfold va_up; rw [if_neg (by omega)]
  have h0 : ∀ q ∈ st0, okV kd (mN M) q := fun q hq => hst q (hsub q hq)
  have hkk := h.2.2 G R p l e s m args below meth c Q A (va_up kd (mN M) t) (va_up ad (mN M) q) H1 locs (cells + 1) (slots + n) ls hC ⟨WT_mw hX.1 h2 h16 hn, b1, b2, b3⟩
    (ok_cs ⟨fun e => by simp only at e; omega, fun e => by simp only at e; omega, fun _ _ => Or.inr ⟨mN M, rfl, by rw [mN_mw]; omega, by unfold va_up; simp⟩, fun e => by simp only at e; omega, fun e => by simp only at e; omega⟩ (fun q hq => okV_ag (h0 q hq) hk (by rw [mN_mw]; omega)))
    (fun q hq => okV_ag (hL q hq) hk (by rw [mN_mw]; omega)) (by rw [lvs_ag hL ha]; exact hl) (by rw [mN_mw]; omega) (by rw [mZ_mw]; omega)
    (fun kd' ad' H' locs' cells' slots' pc'' ls' g1 g2 g3 g4 g5 g6 => he kd' ad' H' locs' cells' slots' pc'' ls' (fun c hc => by have := g1 c (by rw [mN_mw]; omega); rw [this.1, this.2, hk c hc, ha c hc]; exact ⟨rfl, rfl⟩) g2 g3 g4 (by rw [mN_mw] at g5; omega) (by rw [mZ_mw] at g6; omega))
  rw [List.map_cons, map_ag h0 ha] at hkk
  have er : cv G (va_up ad (mN M) q) (t, (mN M : Int) + 1) = .ref q := by
    rw [cv_r G _ h2 h16 (by omega), cI_s]; unfold va_up; simp
  rw [er] at hkk; exact hkk
theorem ev_new {t idx N : Nat} {C : String} {T : u_T} {ty0 : Nat → FieldType} (h2 : 2 ≤ t) (h12 : t ≤ 12) (hc : cls[t - 2]? = some (C, T, N)) (hin : ∀ w ∈ u_ws C T N, w ∈ tblG) (hty : ∀ k, k < N → parseFieldDescriptor (T k).2.2.1 = some (ty0 k)) (hN : nf t = N) (hto : ∀ k, k < N → tyOk (ty0 k) (ft t k) = true) (hN2 : N < 2147483648) (hw : Cond.classLink mi.2.2.2.2 idx C ∈ tblG) (hi : Cond.instantiable C N ∈ tblG) (hini : Cond.initialized C ∈ tblG) (hd : decode mi.2.1 pc = .ok (.new idx, 3)) (h : Ev X mi d (pc + 3) L ((t, (mN M : Int) + 1) :: st) (mw M N) r M') : Ev X mi d pc L st M r M' := by
  refine ev_make h2 (by omega) hN2 (fun q hq => hq) h ?_
  intro G R p l e s m args below meth c Q A kd ad H locs cells slots ls hC hX hst hc1 hs1 kk
  refine va_new (D := G.1) (cl := cls) (ci := t - 2) (fs := (List.range (nf t)).map fun k => cv G ad (ft t k, 0)) hC.1 hC.2.1 hC.2.2.2.2.1 hin ty0 hty hC.2.2.2.1 (hC.2.2.2.2.1 _ hw) (hC.2.2.2.2.1 _ hi) (hC.2.2.2.2.1 _ hini) hC.2.2.2.2.2.2.2.2.1 hX.2.1 hX.2.2.1 hX.2.2.2 hC.2.2.2.2.2.2.1 hc ?_ hc1 hs1 hd ?_
  · intro j hj
    unfold vp_V
    rw [List.getD_eq_getElem?_getD, List.getElem?_map, List.getElem?_range (by omega)]
    show _ = cv G ad (ft t j, 0)
    have ho := hto j hj
    unfold tyOk at ho
    split at ho
    · rename_i e1; rw [e1]; have e2 : ft t j = 0 := by simpa using ho
      rw [e2]; rfl
    · rename_i e1; rw [e1]; have e2 : ft t j = 1 := by simpa using ho
      rw [e2]; rfl
    · rename_i e1; rw [e1]; have e2 : 2 ≤ ft t j := by simpa using ho
      have e3 := ft_le t j
      have e4 : ft t j ≠ 21 := by
        unfold ft; rw [if_neg (by omega), if_neg (by omega), if_neg (by omega), if_neg (by omega)]
        intro e; have := ft_le t j; unfold ft at this; rw [if_neg (by omega), if_neg (by omega), if_neg (by omega), if_neg (by omega), e] at this
        have h7 : ∀ t k, (fl t).getD k 0 ≤ 16 := by
          intro t k
          rw [List.getD_eq_getElem?_getD]
          cases e : (fl t)[k]? with
          | none => simp
          | some x =>
            have hx : x ∈ fl t := List.mem_of_getElem? e
            have ha : ∀ x ∈ fl t, x ≤ 16 := by
              unfold fl; split <;> decide
            simpa using ha x hx
        have := h7 t j; omega
      rw [cv_n G ad e2 (by omega)]; rfl
    · rename_i e1; rw [e1]; have e2 : 2 ≤ ft t j := by simpa using ho
      have e3 := ft_le t j
      have e4 : ft t j ≠ 21 := by
        unfold ft; rw [if_neg (by omega), if_neg (by omega), if_neg (by omega), if_neg (by omega)]
        have h7 : ∀ t k, (fl t).getD k 0 ≤ 16 := by
          intro t k
          rw [List.getD_eq_getElem?_getD]
          cases e : (fl t)[k]? with
          | none => simp
          | some x =>
            have hx : x ∈ fl t := List.mem_of_getElem? e
            have ha : ∀ x ∈ fl t, x ≤ 16 := by
              unfold fl; split <;> decide
            simpa using ha x hx
        have := h7 t j; omega
      rw [cv_n G ad e2 (by omega)]; rfl
    · exact absurd ho (by decide)
  · intro q H1 b1 b2 b3
    have e : cE G (va_up ad (mN M) q) (va_up kd (mN M) t) (mw M N) (mN M) = .inr (t - 2, (List.range (nf t)).map fun k => cv G ad (ft t k, 0)) := by
      rw [cE_obj (t := t) (by unfold va_up; simp) h12]
      congr 2
      apply List.map_congr_left; intro k _
      rw [mg_mw, if_pos rfl]
      exact cv_ag (kd := kd) (n := mN M) (ok_0 (ft_le t k)) (fun c h => by unfold va_up; rw [if_neg (by omega)])
    rw [← e] at b1 b2
    exact kk q H1 b1 b2 b3
theorem va_sole {D : va_G} {cl : List vw_C} {tys : List (ClassId × FieldType)} {U : State} {cA cB : ClassId} {ty : FieldType} (h : va_K D cl (tys ++ [(cA, ty)]) U) {k : Nat} (hk : tys[k]? = some (cB, ty)) : cA = cB := by
  have h1 : va_RA U cA ty := (h.2 tys.length (cA, ty) (by rw [List.getElem?_append_right (Nat.le_refl _), Nat.sub_self]; rfl)).2
  have h2 : va_RA U cB ty := (h.2 k (cB, ty) (by rw [List.getElem?_append_left (List.getElem?_eq_some_iff.mp hk).1]; exact hk)).2
  cases ty with
  | object C =>
    obtain ⟨_, _, _, _, _, e1⟩ := h1
    obtain ⟨_, _, _, _, _, e2⟩ := h2
    rw [e1] at e2; exact Option.some.inj e2
  | _ => exact Option.some.inj ((show U.vm.findClass _ = some cA from h1).symm.trans (show U.vm.findClass _ = some cB from h2))
theorem ev_newI {v : Int} (hw : Cond.arrayClass .int ∈ tblG) (hd : decode mi.2.1 pc = .ok (.newarray .int, 2)) (hv : 0 ≤ v ∧ v < 1000000) (h : Ev X mi d (pc + 2) L ((13, (mN M : Int) + 1) :: st) (mw M v.toNat) r M') : Ev X mi d pc L ((0, v) :: st) M r M' := by
  refine ev_make (by omega) (by omega) (by omega) (fun q hq => List.mem_cons_of_mem _ hq) h ?_
  intro G R p l e s m args below meth c Q A kd ad H locs cells slots ls hC hX hst hc1 hs1 kk
  have hv3 := (ok_hd hst).1 rfl
  refine va_newa (D := G.1) (cl := cls) (a0 := (v.toNat, .inl fun _ => 0)) hC.1 hC.2.1 (atype := .int) (hC.2.2.2.2.1 _ hw) rfl hC.2.2.2.2.2.2.2.2.1 hX.2.1 hX.2.2.1 hX.2.2.2 hC.2.2.2.2.2.2.1 (fun _ => rfl) (fun z => by rw [← i32_0, i32_lt hv3 ok32_0] at z; simp only at z; omega) (i32_cl hv3) (by show v.toNat * 4 ≤ _; omega) hc1 hs1 hd ?_
  intro q cA H1 b0 b1 b2 b3
  have ec : cA = G.2.1.1 := va_sole b0 (k := 0) rfl
  have e : cE G (va_up ad (mN M) q) (va_up kd (mN M) 13) (mw M v.toNat) (mN M) = .inl (cA, v.toNat, .inl fun _ => 0) := by
    rw [cE_I (by unfold va_up; simp), ml_mw, if_pos rfl, ec]; simp only [mg_mw, if_true]; rfl
  rw [← e] at b1 b2
  exact kk q H1 b1 b2 b3
theorem ev_newJ {v : Int} (hw : Cond.arrayClass .long ∈ tblG) (hd : decode mi.2.1 pc = .ok (.newarray .long, 2)) (hv : 0 ≤ v ∧ v < 1000000) (h : Ev X mi d (pc + 2) L ((14, (mN M : Int) + 1) :: st) (mw M v.toNat) r M') : Ev X mi d pc L ((0, v) :: st) M r M' := by
  refine ev_make (by omega) (by omega) (by omega) (fun q hq => List.mem_cons_of_mem _ hq) h ?_
  intro G R p l e s m args below meth c Q A kd ad H locs cells slots ls hC hX hst hc1 hs1 kk
  have hv3 := (ok_hd hst).1 rfl
  refine va_newa (D := G.1) (cl := cls) (a0 := (v.toNat, .inr (.inl fun _ => 0))) hC.1 hC.2.1 (atype := .long) (hC.2.2.2.2.1 _ hw) rfl hC.2.2.2.2.2.2.2.2.1 hX.2.1 hX.2.2.1 hX.2.2.2 hC.2.2.2.2.2.2.1 (fun _ => rfl) (fun z => by rw [← i32_0, i32_lt hv3 ok32_0] at z; simp only at z; omega) (i32_cl hv3) (by show v.toNat * 8 ≤ _; omega) hc1 hs1 hd ?_
  intro q cA H1 b0 b1 b2 b3
  have ec : cA = G.2.1.2.1 := va_sole b0 (k := 1) rfl
  have e : cE G (va_up ad (mN M) q) (va_up kd (mN M) 14) (mw M v.toNat) (mN M) = .inl (cA, v.toNat, .inr (.inl fun _ => 0)) := by
    rw [cE_J (by unfold va_up; simp), ml_mw, if_pos rfl, ec]; simp only [mg_mw, if_true]; rfl
  rw [← e] at b1 b2
  exact kk q H1 b1 b2 b3
theorem ev_newZ {v : Int} (hw : Cond.arrayClass .boolean ∈ tblG) (hd : decode mi.2.1 pc = .ok (.newarray .boolean, 2)) (hv : 0 ≤ v ∧ v < 1000000) (h : Ev X mi d (pc + 2) L ((15, (mN M : Int) + 1) :: st) (mw M v.toNat) r M') : Ev X mi d pc L ((0, v) :: st) M r M' := by
  refine ev_make (by omega) (by omega) (by omega) (fun q hq => List.mem_cons_of_mem _ hq) h ?_
  intro G R p l e s m args below meth c Q A kd ad H locs cells slots ls hC hX hst hc1 hs1 kk
  have hv3 := (ok_hd hst).1 rfl
  refine va_newa (D := G.1) (cl := cls) (a0 := (v.toNat, .inl fun _ => 0)) hC.1 hC.2.1 (atype := .boolean) (hC.2.2.2.2.1 _ hw) rfl hC.2.2.2.2.2.2.2.2.1 hX.2.1 hX.2.2.1 hX.2.2.2 hC.2.2.2.2.2.2.1 (fun _ => rfl) (fun z => by rw [← i32_0, i32_lt hv3 ok32_0] at z; simp only at z; omega) (i32_cl hv3) (by show v.toNat * 1 ≤ _; omega) hc1 hs1 hd ?_
  intro q cA H1 b0 b1 b2 b3
  have ec : cA = G.2.1.2.2.1 := va_sole b0 (k := 2) rfl
  have e : cE G (va_up ad (mN M) q) (va_up kd (mN M) 15) (mw M v.toNat) (mN M) = .inl (cA, v.toNat, .inl fun _ => 0) := by
    rw [cE_Z (by unfold va_up; simp), ml_mw, if_pos rfl, ec]; simp only [mg_mw, if_true]; rfl
  rw [← e] at b1 b2
  exact kk q H1 b1 b2 b3
theorem ev_newO {v : Int} {idx : Nat} (hw : Cond.classLink mi.2.2.2.2 idx "TownBand$Piece" ∈ tblG) (hd : decode mi.2.1 pc = .ok (.anewarray idx, 3)) (hv : 0 ≤ v ∧ v < 1000000) (h : Ev X mi d (pc + 3) L ((16, (mN M : Int) + 1) :: st) (mw M v.toNat) r M') : Ev X mi d pc L ((0, v) :: st) M r M' := by
  refine ev_make (by omega) (by omega) (by omega) (fun q hq => List.mem_cons_of_mem _ hq) h ?_
  intro G R p l e s m args below meth c Q A kd ad H locs cells slots ls hC hX hst hc1 hs1 kk
  have hv3 := (ok_hd hst).1 rfl
  refine va_newq (D := G.1) (cl := cls) (N' := v.toNat) hC.1 hC.2.1 hC.2.2.2.1 (hC.2.2.2.2.1 _ hw) hC.2.2.2.2.2.2.2.1.2.2.2.2.2.2 hC.2.2.2.2.2.2.2.2.1 hX.2.1 hX.2.2.1 hX.2.2.2 hC.2.2.2.2.2.2.1 (fun z => by rw [← i32_0, i32_lt hv3 ok32_0] at z; simp only at z; omega) (i32_cl hv3) (by omega) hc1 hs1 hd ?_
  intro q cA H1 b0 b1 b2 b3
  have ec : cA = G.2.1.2.2.2 := va_sole b0 (k := 3) rfl
  have e : cE G (va_up ad (mN M) q) (va_up kd (mN M) 16) (mw M v.toNat) (mN M) = .inl (cA, v.toNat, .inr (.inr (.inr (.inr (fun _ => none))))) := by
    rw [cE_O (by unfold va_up; simp), ml_mw, if_pos rfl, ec]; simp only [mg_mw, if_true]
  rw [← e] at b1 b2
  exact kk q H1 b1 b2 b3
end EV5
end
section
/-! what stands outside, at other states -/
theorem Sp_mv {X : XX} {G : GG} {A : Nat → Prop} {u U : State} {H : Heap} (hvm : u.vm.Alike U.vm) (hN : ∀ w ∈ tblN, va_Nw w u → va_Nw w U) (hR : ∀ (own tx : String) (k a : Nat), vk_R own k tx a u → vk_R own k tx a U) (h : Sp X G A u H) : Sp X G A U H :=
  ⟨⟨va_X.moved hvm h.1.1, h.1.2⟩, ⟨va_Z.moved hvm h.2.1.1, va_T.moved hvm h.2.1.2⟩, ⟨va_Z.moved hvm h.2.2.1.1, va_T.moved hvm h.2.2.1.2⟩, fun w hw => hN w hw (h.2.2.2.1 w hw), ⟨vk_S.moved hvm h.2.2.2.2.1.1, fun i q hq => hR _ _ _ _ (h.2.2.2.2.1.2 i q hq)⟩, ⟨va_Z.moved hvm h.2.2.2.2.2.1.1, va_Z.moved hvm h.2.2.2.2.2.1.2⟩, va_AO.moved hvm h.2.2.2.2.2.2⟩
theorem nest_on {w : Cond} (h : w ∈ tblN) : w.onTables = true := by
  have h := (List.mem_filter.mp h).2
  cases w <;> first | rfl | exact absurd h Bool.false_ne_true
theorem Sp_warm {X : XX} {G : GG} {A : Nat → Prop} {s U : State} {H : Heap} (hW : s.WarmedH U.vm) (h : Sp X G A s H) : Sp X G A U H := by
  refine Sp_mv hW.alike (fun w hw hz => ?_) (fun own tx k a => vk_R.warm hW) h
  have hn := (List.mem_filter.mp hw).2
  cases w <;> first | exact va_Nw.warmF hW hz | exact va_Nw.warmM hW hz | exact absurd hn Bool.false_ne_true
theorem Sp_kept {X : XX} {G : GG} {A : Nat → Prop} {U : State} {H H1 : Heap} (h : Sp X G A U H) (hs : H.size ≤ H1.size) (hq : ∀ a : Nat, a < H.size → ¬ A a → H1[a]? = H[a]?) : Sp X G A U H1 :=
  ⟨⟨h.1.1.kept (hq _ h.1.2.1 h.1.2.2), Nat.lt_of_lt_of_le h.1.2.1 hs, h.1.2.2⟩, ⟨h.2.1.1.kept hq, h.2.1.2.kept hq⟩, ⟨h.2.2.1.1.kept hq, h.2.2.1.2.kept hq⟩, h.2.2.2.1, ⟨h.2.2.2.2.1.1.kept hq, h.2.2.2.2.1.2⟩, ⟨h.2.2.2.2.2.1.1.kept hq, h.2.2.2.2.2.1.2.kept hq⟩, h.2.2.2.2.2.2⟩
theorem Sp_narrow {X : XX} {G : GG} {A B : Nat → Prop} {U : State} {H : Heap} (h : Sp X G A U H) (hAB : ∀ q, B q → A q) : Sp X G B U H :=
  ⟨⟨h.1.1, h.1.2.1, fun z => h.1.2.2 (hAB _ z)⟩, ⟨h.2.1.1.narrow hAB, h.2.1.2.narrow hAB⟩, ⟨h.2.2.1.1.narrow hAB, h.2.2.1.2.narrow hAB⟩, h.2.2.2.1, ⟨h.2.2.2.2.1.1.narrow hAB, h.2.2.2.2.1.2⟩, ⟨h.2.2.2.2.2.1.1.narrow hAB, h.2.2.2.2.2.1.2.narrow hAB⟩, h.2.2.2.2.2.2⟩
theorem preR_blind {X : XX} {G : GG} {ad kd : Nat → Nat} {sz : Nat} {M : Mm} (as : List Value) : FrameBlind (va_Pc as (preR X G ad kd sz M)) := by
  intro a U g mk q
  obtain ⟨q0, q1, qP, qK, qD, qS⟩ := q
  exact ⟨q0, q1, qP, va_K.moved (u := U) (U := U.calling g mk a) (Vm.Alike.refl U.vm) qK, qD, Sp_mv (u := U) (U := U.calling g mk a) (Vm.Alike.refl U.vm) (fun w hw hz => va_Nw.same (u := U) (U := U.calling g mk a) (nest_on hw) rfl hz) (fun own tx k b hz => vk_R.same (u := U) (U := U.calling g mk a) rfl hz) qS⟩
/-! the arguments as locals -/
def aL : Nat → List AV → List (Nat × AV)
  | _, [] => []
  | i, v :: vs => (i, v) :: aL (if v.1 = 1 then i + 2 else i + 1) vs
def aW (as : List AV) : Nat := (as.map fun q => if q.1 = 1 then 2 else 1).sum
theorem aL_lvs (G : GG) (ad : Nat → Nat) : ∀ (as : List AV) (i : Nat), lvs G ad (aL i as) = lv_args i (as.map (cv G ad))
  | [], i => rfl
  | v :: vs, i => by
    unfold aL lvs
    rw [List.map_cons, List.map_cons]
    show _ = (i, cv G ad v) :: lv_args (if (cv G ad v).category = 2 then i + 2 else i + 1) (vs.map (cv G ad))
    have e : (if (cv G ad v).category = 2 then i + 2 else i + 1) = if v.1 = 1 then i + 2 else i + 1 := by
      rw [cv_cat]; by_cases h : v.1 = 1 <;> simp [h]
    rw [e, ← aL_lvs G ad vs]; rfl
theorem aW_len (G : GG) (ad : Nat → Nat) : ∀ (as : List AV), (lg_sl (as.map (cv G ad))).length = aW as
  | [] => rfl
  | v :: vs => by
    have ih := aW_len G ad vs
    unfold lg_sl at ih ⊢
    unfold aW at ih ⊢
    rw [List.map_cons, List.flatMap_cons, List.length_append, ih, List.map_cons, List.sum_cons, cv_cat]
    by_cases h : v.1 = 1 <;> simp [h]
theorem aL_ok {kd : Nat → Nat} {n : Nat} : ∀ (as : List AV) (i : Nat), (∀ q ∈ as, okV kd n q) → ∀ q ∈ aL i as, okV kd n q.2
  | [], i, _, q, hq => by cases hq
  | v :: vs, i, h, q, hq => by
    unfold aL at hq
    rcases List.mem_cons.mp hq with e | e
    · rw [e]; exact h v List.mem_cons_self
    · exact aL_ok vs _ (fun q hq => h q (List.mem_cons_of_mem _ hq)) q e
theorem aW_cat (G : GG) (ad : Nat → Nat) (st : List AV) : ((st.map (cv G ad)).map fun v => v.category).sum = aW st := by
  unfold aW; rw [List.map_map]; congr 1; apply List.map_congr_left; intro q _; exact cv_cat G ad q
/-- a method's contract out of a walk of its body -/
theorem Rn_of {X : XX} {mi : MI} {d : Nat} {as : List AV} {M : Mm} {r : Option AV} {M' : Mm} (hy : plainName mi.1.cls = true) (hown : mi.2.2.2.2 = mi.1.cls) (hmax : aW as ≤ mi.2.2.1) (he : Ev X mi d 0 (aL 0 as) [] M r M') : Rn X d mi as M r M' := by
  refine ⟨he.1, he.2.1, fun l G ad kd sz hW has => ?_⟩
  refine Met.ofW (cc := mi.2.1) (maxL := mi.2.2.1) (ret := mi.2.2.2.1) hy rfl ?_
  intro p e s m args below meth c s₁ B hml hv
  obtain ⟨rfl, hsz, hP, hK, hD0, hSp⟩ := hv
  have hts := atoms_spec (ws := wsM mi) B.pre
  have hf : s.vm.findClass mi.2.2.2.2 = some m.cls := by rw [hown]; exact findClass_of_methodNamed B.named
  have hr := B.returns
  have hlocks := B.notSynchronized
  have hin : meth.name = mi.1.name := (name_of_methodNamed B.named B.method).1
  subst hsz
  rw [lg_entry_eq]
  have hl := lv_entry (as.map (cv G ad)) (n := mi.2.2.1) (by rw [aW_len]; exact hmax)
  rw [← aL_lvs] at hl
  have hC : Cx X mi G d (headSpec (wsM mi) (rmF d M M')).room p s m (as.map (cv G ad)).toArray meth c (va_A (wl G ad kd M) s.heap.size) :=
    ⟨B.exec, B.bytes, hml, hf, fun w hw => hts w (List.mem_cons_of_mem _ hw), hin, fun q h => Or.inr h, hSp, hK, Nat.le_refl d, Nat.le_refl (64 * d)⟩
  refine he.2.2 G _ p l e s m _ below meth c _ (va_A (wl G ad kd M) s.heap.size) kd ad s.heap [] 0 0 _ hC ⟨hW, hP, hD0.self, va_S.rf⟩ (fun q hq => by cases hq) (aL_ok as 0 has) hl (Nat.le_of_eq (Nat.zero_add _)) (Nat.le_of_eq (Nat.zero_add _)) ?_
  intro kd' ad' H' locs' cells' slots' pc' ls' g1 g2 g3 g4 g5 g6
  refine W.widen (k := mN M' - mN M) (n := mZ M' - mZ M) (by omega) (by omega) ?_
  have hq : ∀ t : State, t.heap = H' → s.WarmedH t.vm → posR mi G ad kd s.heap.size M r M' (as.map (cv G ad)).toArray s (.returned (r.map (cv G ad'))) t := fun t ht hWt =>
    ⟨⟨kd', ad', rfl, g1, g2.1, g3, by rw [ht]; exact g2.2.1, va_K.moved hWt.alike hK, g2.2.2.1⟩, g2.2.2.2.F ht⟩
  have hfr := g2.2.2.2.2.2
  cases r with
  | none => exact W.vret B.exec B.bytes (hr.trans g3) hq hfr g4
  | some q =>
    obtain ⟨t, v⟩ := q
    obtain ⟨o1, o2⟩ := g3
    rcases o2 with ⟨e0, o3⟩ | ⟨e1, o3⟩ | ⟨e2, e16, C, o3⟩
    · simp only at e0; subst e0
      rcases o3 with o4 | ⟨o4, o5⟩ | ⟨o4, o5⟩ | ⟨o4, o5, o6⟩
      · exact W.zret (ty := .int) B.exec B.bytes (hr.trans o4) rfl hq hfr g4
      · refine W.zret (ty := .boolean) (v := Int32.ofInt v) B.exec B.bytes (hr.trans o4) ?_ hq hfr g4
        rcases o5 with o6 | o6 <;> simp only at o6 <;> rw [o6] <;> rfl
      · refine W.zret (ty := .byte) (v := Int32.ofInt v) B.exec B.bytes (hr.trans o4) ?_ hq hfr g4
        simp only at o5; rw [o5]; rfl
      · refine W.zret (ty := .char) (v := Int32.ofInt v) B.exec B.bytes (hr.trans o4) ?_ hq hfr g4
        simp only at o5 o6
        obtain ⟨n, rfl⟩ := Int.eq_ofNat_of_zero_le o5
        exact (pk_charN (q := n) (by omega)).1
    · simp only at e1; subst e1
      exact W.lret B.exec B.bytes (hr.trans o3) hq hfr g4
    · simp only at e2 e16
      have g5 : decode mi.2.1 pc' = .ok (.areturn, 1) := by
        unfold rD at g4; simp only at g4; rw [if_neg (by omega), if_neg (by omega)] at g4; exact g4
      exact W.aret (rt := .object C) B.exec B.bytes (hr.trans o3) (Or.inl ⟨C, rfl⟩) (cv_or G ad' e2) hq hfr g5
section EV6
variable {X : XX} {mi : MI} {d pc : Nat} {L : List (Nat × AV)} {st : List AV} {M : Mm} {r : Option AV} {M' : Mm}
theorem call_core {mi' : MI} {d' : Nat} {as rest : List AV} {r1 : Option AV} {M1 : Mm} (hR : Rn X d' mi' as M r1 M1) (hsub : ∀ q ∈ rest, q ∈ st) (hsa : ∀ q ∈ as, q ∈ st) (h : Ev X mi d (pc + 3) L (r1.toList ++ rest) M1 r M')
    (run : ∀ (G : GG) (R : Room) (p : Program) (l : Launch) (e : Env) (s : State) (m : MethodId) (args : Array Value) (below : List Frame) (meth : Method) (c : Code) (A : Nat → Prop) (kd ad : Nat → Nat) (H : Heap) (locs : List Loc) (cells slots : Nat) (ls : Array Slot),
      Cx X mi G d R p s m args meth c A → Sx G ad kd M A s H locs → (∀ q ∈ st, okV kd (mN M) q) → lv_has ls mi.2.2.1 (lvs G ad L) → (cells + (mN M1 - mN M) ≤ R.cells ∧ slots + (mZ M1 - mZ M) ≤ R.slots) →
      Met l mi'.1 (wsM mi') (rmF d' M M1) (va_Pc (as.map (cv G ad)) (preR X G ad kd H.size M)) (posR mi' G ad kd H.size M r1 M1) (mN M1 - mN M) (mZ M1 - mZ M) (va_A (wl G ad kd M) H.size) →
      (∀ U : State, U.heap = H → s.WarmedH U.vm → va_Pc (as.map (cv G ad)) (preR X G ad kd H.size M) (as.map (cv G ad)).toArray U) →
      va_Run p l e R s m args below meth c H locs cells slots (mN M1 - mN M) (mZ M1 - mZ M) (F0 m pc ls (st.map (cv G ad))) (rest.map (cv G ad)) (posR mi' G ad kd H.size M r1 M1 (as.map (cv G ad)).toArray) (va_A (wl G ad kd M) H.size)) :
    Ev X mi d pc L st M r M' := by
  obtain ⟨⟨hm1, hm2⟩, hb, hM⟩ := hR
  refine ⟨⟨Nat.le_trans hm1 h.1.1, Nat.le_trans hm2 h.1.2⟩, h.2.1, ?_⟩
  have hn1 := h.1.1
  have hn2 := h.1.2
  intro G R p l e s m args below meth c Q A kd ad H locs cells slots ls hC hX hst hL hl hc hs he
  have hFc : ∀ q, va_A (wl G ad kd M) H.size q → A q := by
    intro q hq
    rcases hq with ⟨k, e, hk⟩ | hq
    · exact hX.2.2.1.2 k _ hk
    · exact hC.2.2.2.2.2.2.1 q (Nat.le_trans hX.2.2.2.1 hq)
  have hSp : Sp X G (va_A (wl G ad kd M) H.size) s H := Sp_narrow (Sp_kept hC.2.2.2.2.2.2.2.1 hX.2.2.2.1 hX.2.2.2.2.1) hFc
  have has : ∀ q ∈ as, okV kd (mN M) q := fun q hq => hst q (hsa q hq)
  have hre : ∀ q ∈ rest, okV kd (mN M) q := fun q hq => hst q (hsub q hq)
  have hrun := run G R p l e s m args below meth c A kd ad H locs cells slots ls hC hX hst hl ⟨by omega, by omega⟩ (hM l G ad kd H.size hX.1 has)
    (fun U hU hWu => ⟨rfl, by rw [hU], by rw [hU]; exact hX.2.1, va_K.moved hWu.alike hC.2.2.2.2.2.2.2.2.1, hX.2.2.1.weaken (fun _ _ _ _ => trivial), by rw [hU]; exact Sp_warm hWu hSp⟩)
  intro T hT XT
  obtain ⟨v, st₀, t, T', L2, h0, X', hL2, e1, e2, ⟨⟨kd', ad', hv, hag, hWT, hrO, hP', hK', hD'⟩, hF⟩, hgo⟩ := hrun T hT XT
  cases hv
  have hz := hF.1
  have hk := hF.2
  rw [h0] at hz hk
  have ha2 : ∀ c, c < mN M → ad' c = ad c := fun c h => (hag c h).2
  have hk2 : ∀ c, c < mN M → kd' c = kd c := fun c h => (hag c h).1
  have hS' : va_S A s.heap T'.heap (locs ++ L2) :=
    ⟨Nat.le_trans hX.2.2.2.1 (by rw [e1]; exact hz), fun q h1 h2 => by rw [e1, hk q (Nat.lt_of_lt_of_le h1 hX.2.2.2.1) (fun z => h2 (hFc q z))]; exact hX.2.2.2.2.1 q h1 h2, fun q hq => by
      rcases List.mem_append.mp hq with h | h
      · exact hX.2.2.2.2.2 q h
      · exact hFc _ (hL2 q h)⟩
  have hW := h.2.2 G R p l e s m args below meth c Q A kd' ad' T'.heap (locs ++ L2) (cells + (mN M1 - mN M)) (slots + (mZ M1 - mZ M)) ls hC ⟨hWT, by rw [e1]; exact hP', hD'.weaken (fun _ _ _ hz => hFc _ hz), hS'⟩
    (fun q hq => by
      rcases List.mem_append.mp hq with h9 | h9
      · cases r1 with
        | none => cases h9
        | some q1 =>
          rcases List.mem_singleton.mp h9 with rfl
          exact hrO.1
      · exact okV_ag (hre q h9) hk2 hm1)
    (fun q hq => okV_ag (hL q hq) hk2 hm1) (by rw [lvs_ag hL ha2]; exact hl) (by omega) (by omega)
    (fun kd'' ad'' H' locs' cells' slots' pc'' ls' g1 g2 g3 g4 g5 g6 => he kd'' ad'' H' locs' cells' slots' pc'' ls' (fun c hc => by have := g1 c (by omega); rw [this.1, this.2, hk2 c hc, ha2 c hc]; exact ⟨rfl, rfl⟩) g2 g3 g4 (by omega) (by omega))
  obtain ⟨t2, a1, b1⟩ := hW T' rfl X'
  refine ⟨t2, hgo t2 ?_, b1⟩
  have es : (r1.toList ++ rest).map (cv G ad') = (r1.map (cv G ad')).toList ++ rest.map (cv G ad) := by
    rw [List.map_append, map_ag hre ha2]; congr 1; cases r1 <;> rfl
  rw [es] at a1
  exact a1
/-- what a call of a method needs -/
def CalOk (mi : MI) (n : Nat) : Prop := Cond.code mi.1 mi.2.1 mi.2.2.1 mi.2.2.2.1 ∈ tblG ∧ Cond.initialized mi.1.cls ∈ tblG ∧ (mi.1.cls ≠ "java/lang/invoke/MethodHandle" ∧ mi.1.cls ≠ "java/lang/invoke/VarHandle") ∧ (parseMethodDescriptor mi.1.desc).map (fun d => d.parameters.length) = some n ∧ mi.2.2.1 ≤ 45
theorem ws_good {mi' : MI} (h : Cond.code mi'.1 mi'.2.1 mi'.2.2.1 mi'.2.2.2.1 ∈ tblG) : ∀ w ∈ wsM mi', w ∈ tblG ∧ ((w.onTables && w.keeps) = true ∨ ∃ ty, w = .arrayClass ty) := by
  intro w hw
  rcases List.mem_cons.mp hw with e | e
  · rw [e]; exact ⟨h, good_of_word (tblG_good _ h)⟩
  · exact ⟨e, good_of_word (tblG_good _ e)⟩
theorem par_len {desc : String} {n : Nat} (h : (parseMethodDescriptor desc).map (fun d => d.parameters.length) = some n) : ∀ sig, parseMethodDescriptor desc = some sig → n = sig.parameters.length := by
  intro sig hs; rw [hs] at h; exact (Option.some.inj h).symm
theorem mkB {mi' : MI} {n d' idx : Nat} {M1 : Mm} {G : GG} {R : Room} {p : Program} {s : State} {m : MethodId} {args : Array Value} {meth : Method} {c : Code} {A : Nat → Prop} (hC : Cx X mi G d R p s m args meth c A) (ho : CalOk mi' n) (hd : d' + 1 ≤ d) (hl : Cond.methodLink mi.2.2.2.2 idx mi'.1 ∈ tblG) : CallB R s args mi.2.2.2.2 idx mi'.1 mi'.2.1 mi'.2.2.1 mi'.2.2.2.1 (wsM mi') (rmF d' M M1) (mN M1 - mN M) (mZ M1 - mZ M) n :=
  ⟨rfl, rfl, Nat.le_trans hd hC.2.2.2.2.2.2.2.2.2.1, by have := hC.2.2.2.2.2.2.2.2.2.2; have := ho.2.2.2.2; show 8 + (mi'.2.2.1 + 11) + 64 * d' ≤ R.locals; omega, pay_in hC.2.2.2.2.1 (ws_good ho.1), List.mem_cons_self, hC.2.2.2.2.1 _ ho.1, hC.2.2.2.2.1 _ ho.2.1, ho.2.2.1, par_len ho.2.2.2.1, hC.2.2.2.2.1 _ hl⟩
theorem mkN {mi' : MI} {n d' idx : Nat} {host : String} {M1 : Mm} {G : GG} {R : Room} {p : Program} {s : State} {m : MethodId} {args : Array Value} {meth : Method} {c : Code} {A : Nat → Prop} (hC : Cx X mi G d R p s m args meth c A) (ho : CalOk mi' n) (hd : d' + 1 ≤ d) (hl : Cond.methodLinkNest mi.2.2.2.2 idx mi'.1 host ∈ tblN) : va_CN R s args mi.2.2.2.2 idx mi'.1 host mi'.2.1 mi'.2.2.1 mi'.2.2.2.1 (wsM mi') (rmF d' M M1) (mN M1 - mN M) (mZ M1 - mZ M) n :=
  ⟨⟨rfl, rfl, Nat.le_trans hd hC.2.2.2.2.2.2.2.2.2.1, by have := hC.2.2.2.2.2.2.2.2.2.2; have := ho.2.2.2.2; show 8 + (mi'.2.2.1 + 11) + 64 * d' ≤ R.locals; omega, pay_in hC.2.2.2.2.1 (ws_good ho.1), List.mem_cons_self⟩, hC.2.2.2.2.1 _ ho.1, hC.2.2.2.2.1 _ ho.2.1, ho.2.2.1, par_len ho.2.2.2.1, va_Nw.use rfl (hC.2.2.2.2.2.2.2.1.2.2.2.1 _ hl)⟩
theorem mfix {G : GG} {R : Room} {p : Program} {s : State} {m : MethodId} {args : Array Value} {meth : Method} {c : Code} {A : Nat → Prop} (hC : Cx X mi G d R p s m args meth c A) : CallFix p m c mi.2.1 mi.2.2.1 s args tblG mi.2.2.2.2 := ⟨hC.1, hC.2.1, hC.2.2.1, hC.2.2.2.1, hC.2.2.2.2.1⟩
theorem recv_at {G : GG} {R : Room} {p : Program} {s : State} {m : MethodId} {args : Array Value} {meth : Method} {c : Code} {A : Nat → Prop} {kd ad : Nat → Nat} {H : Heap} {locs : List Loc} {t : Nat} {v : Int} {q : vw_C} (hC : Cx X mi G d R p s m args meth c A) (hX : Sx G ad kd M A s H locs) (ho : okV kd (mN M) (t, v)) (h2 : 2 ≤ t) (h12 : t ≤ 12) (hv : v ≠ 0) (hc : cls[t - 2]? = some q) : ∃ cell : Cell, H[ad (cI v)]? = some cell ∧ cell.vm.isStatics = false ∧ s.vm.findClass q.1 = some cell.cls := by
  obtain ⟨hcn, hkd⟩ := ref_at ho h2 (by omega) hv
  exact va_recv hC.2.2.2.2.2.2.2.2.1 hX.2.1 hc (by rw [wl_at hcn, cE_obj hkd h12])
theorem ev_callV {mi' : MI} {d' t n idx N : Nat} {v : Int} {as rest : List AV} {r1 : Option AV} {M1 : Mm} {C : String} {T : u_T} (hst : st = as.reverse ++ (t, v) :: rest) (h2 : 2 ≤ t) (h12 : t ≤ 12) (hc : cls[t - 2]? = some (C, T, N)) (hv : v ≠ 0) (hn : as.length = n) (hr8 : aW rest ≤ 8) (ho : CalOk mi' n) (hi : Cond.instanceMethod mi'.1 ∈ tblG ∧ Cond.selects C mi'.1 mi'.1 ∈ tblG) (hdd : d' + 1 ≤ d) (hw : Cond.methodLink mi.2.2.2.2 idx mi'.1 ∈ tblG) (hd : decode mi.2.1 pc = .ok (.invokevirtual idx, 3)) (hR : Rn X d' mi' ((t, v) :: as) M r1 M1) (h : Ev X mi d (pc + 3) L (r1.toList ++ rest) M1 r M') : Ev X mi d pc L st M r M' := by
  subst hst
  refine call_core hR (fun q hq => List.mem_append_right _ (List.mem_cons_of_mem _ hq)) (fun q hq => by
    rcases List.mem_cons.mp hq with e | e
    · rw [e]; exact List.mem_append_right _ List.mem_cons_self
    · exact List.mem_append_left _ (List.mem_reverse.mpr e)) h ?_
  intro G R p l e s m args below meth c A kd ad H locs cells slots ls hC hX hst hl hcs hM hp
  have hvo := hst (t, v) (List.mem_append_right _ List.mem_cons_self)
  have er := cv_r G ad h2 (show t ≤ 16 by omega) hv
  have em : ((t, v) :: as).map (cv G ad) = .ref (ad (cI v)) :: as.map (cv G ad) := by rw [List.map_cons, er]
  rw [em] at hM hp ⊢
  exact va_runV (C := C) (b := ad (cI v)) (As := as.map (cv G ad)) (mfix hC) hM ⟨mkB hC ho hdd hw, hC.2.2.2.2.1 _ hi.1, hC.2.2.2.2.1 _ hi.2⟩ ⟨preR_blind _, recv_at hC hX hvo h2 h12 hv hc, hp⟩ rfl (by rw [List.length_map]; exact hn) hl.1 (by show List.map (cv G ad) _ = _; rw [List.map_append, List.map_reverse, List.map_cons, er]) (lv_room (by rw [aW_cat]; exact hr8)) hd hcs
theorem ev_callVN {mi' : MI} {d' t n idx N : Nat} {v : Int} {as rest : List AV} {r1 : Option AV} {M1 : Mm} {C host : String} {T : u_T} (hst : st = as.reverse ++ (t, v) :: rest) (h2 : 2 ≤ t) (h12 : t ≤ 12) (hc : cls[t - 2]? = some (C, T, N)) (hv : v ≠ 0) (hn : as.length = n) (hr8 : aW rest ≤ 8) (ho : CalOk mi' n) (hi : Cond.instanceMethod mi'.1 ∈ tblG ∧ Cond.selects C mi'.1 mi'.1 ∈ tblG) (hdd : d' + 1 ≤ d) (hw : Cond.methodLinkNest mi.2.2.2.2 idx mi'.1 host ∈ tblN) (hd : decode mi.2.1 pc = .ok (.invokevirtual idx, 3)) (hR : Rn X d' mi' ((t, v) :: as) M r1 M1) (h : Ev X mi d (pc + 3) L (r1.toList ++ rest) M1 r M') : Ev X mi d pc L st M r M' := by
  subst hst
  refine call_core hR (fun q hq => List.mem_append_right _ (List.mem_cons_of_mem _ hq)) (fun q hq => by
    rcases List.mem_cons.mp hq with e | e
    · rw [e]; exact List.mem_append_right _ List.mem_cons_self
    · exact List.mem_append_left _ (List.mem_reverse.mpr e)) h ?_
  intro G R p l e s m args below meth c A kd ad H locs cells slots ls hC hX hst hl hcs hM hp
  have hvo := hst (t, v) (List.mem_append_right _ List.mem_cons_self)
  have er := cv_r G ad h2 (show t ≤ 16 by omega) hv
  have em : ((t, v) :: as).map (cv G ad) = .ref (ad (cI v)) :: as.map (cv G ad) := by rw [List.map_cons, er]
  rw [em] at hM hp ⊢
  exact va_runVN (C := C) (b := ad (cI v)) (As := as.map (cv G ad)) (mfix hC) hM ⟨mkN hC ho hdd hw, hC.2.2.2.2.1 _ hi.1, hC.2.2.2.2.1 _ hi.2⟩ ⟨preR_blind _, recv_at hC hX hvo h2 h12 hv hc, hp⟩ rfl (by rw [List.length_map]; exact hn) hl.1 (by show List.map (cv G ad) _ = _; rw [List.map_append, List.map_reverse, List.map_cons, er]) (lv_room (by rw [aW_cat]; exact hr8)) hd hcs
theorem ev_callS {mi' : MI} {d' n idx : Nat} {as rest : List AV} {r1 : Option AV} {M1 : Mm} (hst : st = as.reverse ++ rest) (hn : as.length = n) (hr8 : aW rest ≤ 8) (ho : CalOk mi' n) (hi : Cond.static mi'.1 ∈ tblG) (hdd : d' + 1 ≤ d) (hw : Cond.methodLink mi.2.2.2.2 idx mi'.1 ∈ tblG) (hd : decode mi.2.1 pc = .ok (.invokestatic idx, 3)) (hR : Rn X d' mi' as M r1 M1) (h : Ev X mi d (pc + 3) L (r1.toList ++ rest) M1 r M') : Ev X mi d pc L st M r M' := by
  subst hst
  refine call_core hR (fun q hq => List.mem_append_right _ hq) (fun q hq => List.mem_append_left _ (List.mem_reverse.mpr hq)) h ?_
  intro G R p l e s m args below meth c A kd ad H locs cells slots ls hC hX hst hl hcs hM hp
  exact va_runS (As := as.map (cv G ad)) (mfix hC) hM ⟨mkB hC ho hdd hw, hC.2.2.2.2.1 _ hi⟩ ⟨preR_blind _, hp⟩ rfl (by rw [List.length_map]; exact hn) hl.1 (by show List.map (cv G ad) _ = _; rw [List.map_append, List.map_reverse]) (lv_room (by rw [aW_cat]; exact hr8)) hd hcs
theorem ev_callSN {mi' : MI} {d' n idx : Nat} {host : String} {as rest : List AV} {r1 : Option AV} {M1 : Mm} (hst : st = as.reverse ++ rest) (hn : as.length = n) (hr8 : aW rest ≤ 8) (ho : CalOk mi' n) (hi : Cond.static mi'.1 ∈ tblG) (hdd : d' + 1 ≤ d) (hw : Cond.methodLinkNest mi.2.2.2.2 idx mi'.1 host ∈ tblN) (hd : decode mi.2.1 pc = .ok (.invokestatic idx, 3)) (hR : Rn X d' mi' as M r1 M1) (h : Ev X mi d (pc + 3) L (r1.toList ++ rest) M1 r M') : Ev X mi d pc L st M r M' := by
  subst hst
  refine call_core hR (fun q hq => List.mem_append_right _ hq) (fun q hq => List.mem_append_left _ (List.mem_reverse.mpr hq)) h ?_
  intro G R p l e s m args below meth c A kd ad H locs cells slots ls hC hX hst hl hcs hM hp
  exact va_runSN (As := as.map (cv G ad)) (mfix hC) hM ⟨mkN hC ho hdd hw, hC.2.2.2.2.1 _ hi, trivial⟩ ⟨preR_blind _, hp⟩ rfl (by rw [List.length_map]; exact hn) hl.1 (by show List.map (cv G ad) _ = _; rw [List.map_append, List.map_reverse]) (lv_room (by rw [aW_cat]; exact hr8)) hd hcs
theorem ev_callI {mi' : MI} {d' t n idx : Nat} {v : Int} {as rest : List AV} {M1 : Mm} (hst : st = as.reverse ++ (t, v) :: rest) (h2 : 2 ≤ t) (h12 : t ≤ 12) (hv : v ≠ 0) (hn : as.length = n) (hr8 : aW rest ≤ 8) (ho : CalOk mi' n) (hi : Cond.instanceMethod mi'.1 ∈ tblG) (hy : mi'.1.name = "<init>") (hre : mi'.2.2.2.1 = none) (hdd : d' + 1 ≤ d) (hw : Cond.methodLink mi.2.2.2.2 idx mi'.1 ∈ tblG) (hd : decode mi.2.1 pc = .ok (.invokespecial idx, 3)) (hR : Rn X d' mi' ((t, v) :: as) M none M1) (h : Ev X mi d (pc + 3) L rest M1 r M') : Ev X mi d pc L st M r M' := by
  subst hst
  refine call_core hR (fun q hq => List.mem_append_right _ (List.mem_cons_of_mem _ hq)) (fun q hq => by
    rcases List.mem_cons.mp hq with e | e
    · rw [e]; exact List.mem_append_right _ List.mem_cons_self
    · exact List.mem_append_left _ (List.mem_reverse.mpr e)) h ?_
  intro G R p l e s m args below meth c A kd ad H locs cells slots ls hC hX hst hl hcs hM hp
  have er := cv_r G ad h2 (show t ≤ 16 by omega) hv
  have em : ((t, v) :: as).map (cv G ad) = .ref (ad (cI v)) :: as.map (cv G ad) := by rw [List.map_cons, er]
  rw [em] at hM hp ⊢
  have hB := mkB (M := M) (M1 := M1) hC ho hdd hw
  rw [hre] at hB
  exact va_runI (b := ad (cI v)) (As := as.map (cv G ad)) (mfix hC) hM ⟨hB, hy, hC.2.2.2.2.1 _ hi⟩ ⟨preR_blind _, hp⟩ rfl (by rw [List.length_map]; exact hn) hl.1 (by show List.map (cv G ad) _ = _; rw [List.map_append, List.map_reverse, List.map_cons, er]) (lv_room (by rw [aW_cat]; exact hr8)) hd hcs
theorem ev_callIN {mi' : MI} {d' t n idx : Nat} {v : Int} {host : String} {as rest : List AV} {M1 : Mm} (hst : st = as.reverse ++ (t, v) :: rest) (h2 : 2 ≤ t) (h12 : t ≤ 12) (hv : v ≠ 0) (hn : as.length = n) (hr8 : aW rest ≤ 8) (ho : CalOk mi' n) (hi : Cond.instanceMethod mi'.1 ∈ tblG) (hy : mi'.1.name = "<init>") (hre : mi'.2.2.2.1 = none) (hdd : d' + 1 ≤ d) (hw : Cond.methodLinkNest mi.2.2.2.2 idx mi'.1 host ∈ tblN) (hd : decode mi.2.1 pc = .ok (.invokespecial idx, 3)) (hR : Rn X d' mi' ((t, v) :: as) M none M1) (h : Ev X mi d (pc + 3) L rest M1 r M') : Ev X mi d pc L st M r M' := by
  subst hst
  refine call_core hR (fun q hq => List.mem_append_right _ (List.mem_cons_of_mem _ hq)) (fun q hq => by
    rcases List.mem_cons.mp hq with e | e
    · rw [e]; exact List.mem_append_right _ List.mem_cons_self
    · exact List.mem_append_left _ (List.mem_reverse.mpr e)) h ?_
  intro G R p l e s m args below meth c A kd ad H locs cells slots ls hC hX hst hl hcs hM hp
  have er := cv_r G ad h2 (show t ≤ 16 by omega) hv
  have em : ((t, v) :: as).map (cv G ad) = .ref (ad (cI v)) :: as.map (cv G ad) := by rw [List.map_cons, er]
  rw [em] at hM hp ⊢
  have hB := mkN (M := M) (M1 := M1) hC ho hdd hw
  rw [hre] at hB
  exact va_runIN (b := ad (cI v)) (As := as.map (cv G ad)) (mfix hC) hM ⟨hB, hy, hC.2.2.2.2.1 _ hi⟩ ⟨preR_blind _, hp⟩ rfl (by rw [List.length_map]; exact hn) hl.1 (by show List.map (cv G ad) _ = _; rw [List.map_append, List.map_reverse, List.map_cons, er]) (lv_room (by rw [aW_cat]; exact hr8)) hd hcs
theorem ev_objInit {t idx : Nat} {v : Int} (h2 : 2 ≤ t) (h12 : t ≤ 12) (hv : v ≠ 0) (hr8 : aW st ≤ 8) (hd1 : 1 ≤ d) (hw : Cond.methodLink mi.2.2.2.2 idx Lib.objectInit ∈ tblG) (hi : Cond.instanceMethod Lib.objectInit ∈ tblG) (ho : Cond.code Lib.objectInit ⟨#[0xb1]⟩ 1 none ∈ tblG) (hd : decode mi.2.1 pc = .ok (.invokespecial idx, 3)) (h : Ev X mi d (pc + 3) L st M r M') : Ev X mi d pc L ((t, v) :: st) M r M' := by
  refine ev_step h ?_
  intro G R p l e s m args below meth c Q A kd ad H locs cells slots ls hC hX hst hL hl
  refine ⟨ok_tl hst, hL, fun kk => ?_⟩
  rw [List.map_cons, cv_r G ad h2 (by omega) hv]
  have hf := hC.2.2.2.2.2.2.2.2.2.1
  have hlo := hC.2.2.2.2.2.2.2.2.2.2
  refine W.objInit (g := F0 m pc ls (.ref (ad (cI v)) :: st.map (cv G ad))) (a := ad (cI v)) (rest := st.map (cv G ad)) hC.1 hC.2.1 hC.2.2.2.1 (hC.2.2.2.2.1 _ hw) (hC.2.2.2.2.1 _ hi) (hC.2.2.2.2.1 _ ho) rfl (hl.1.trans hC.2.2.1.symm) rfl hd (by omega) ?_ (kk ls hl)
  rw [aW_cat]
  show 2 * 0 + aW st + 12 ≤ R.locals
  omega
end EV6
end
section
/-! texts -/
def txb (i j : Nat) : Int := ((txB.getD i []).getD j 0).toInt
theorem txb_ok : ∀ i, i < 9 → ∀ j, j < 5 → 0 ≤ txb i j ∧ txb i j < 128 := by decide +kernel
theorem txb_0 (i j : Nat) : ok32 (txb i j) := i32_ok _
theorem txL_9 : ∀ i, i < 9 → txL.getD i 0 ≤ 5 := by decide +kernel
section EV7
variable {X : XX} {mi : MI} {d pc : Nat} {L : List (Nat × AV)} {st : List AV} {M : Mm} {r : Option AV} {M' : Mm}
theorem ok_20 {kd : Nat → Nat} {n : Nat} {i : Nat} (h : i < 9) : okV kd n (20, (i : Int)) := ⟨fun e => by simp at e, fun e => by simp at e, fun _ e => by simp at e, fun e => by simp at e, fun _ => ⟨by simp only; omega, by simp only; omega⟩⟩
theorem ok_22 {kd : Nat → Nat} {n : Nat} {i : Nat} (h : i < 9) : okV kd n (22, (i : Int)) := ⟨fun e => by simp at e, fun e => by simp at e, fun _ e => by simp at e, fun e => by simp at e, fun _ => ⟨by simp only; omega, by simp only; omega⟩⟩
theorem ev_text {idx i : Nat} {tx : String} (hk : txK[i]? = some (mi.2.2.2.2, idx, tx)) (hd : decode mi.2.1 pc = .ok (.ldc idx, 2)) (h : Ev X mi d (pc + 2) L ((20, (i : Int)) :: st) M r M') : Ev X mi d pc L st M r M' := by
  refine ev_step h ?_
  intro G R p l e s m args below meth c Q A kd ad H locs cells slots ls hC hX hst hL hl
  have h9 : i < 9 := (List.getElem?_eq_some_iff.mp hk).1
  refine ⟨ok_cs (ok_20 h9) hst, hL, fun kk => ?_⟩
  exact va_ldcS hC.1 hC.2.1 hC.2.2.2.1 (hC.2.2.2.2.2.2.2.1.2.2.2.2.1.2 i _ hk) hd (kk ls hl)
theorem ev_textV {idx i : Nat} (h9 : i < 9) (hw : Cond.fieldLink mi.2.2.2.2 idx "java/lang/String" "value" "[B" ∈ tblG) (hd : decode mi.2.1 pc = .ok (.getfield idx, 3)) (h : Ev X mi d (pc + 3) L ((22, (i : Int)) :: st) M r M') : Ev X mi d pc L ((20, (i : Int)) :: st) M r M' := by
  refine ev_step h ?_
  intro G R p l e s m args below meth c Q A kd ad H locs cells slots ls hC hX hst hL hl
  refine ⟨ok_cs (ok_22 h9) (ok_tl hst), hL, fun kk => ?_⟩
  exact vk_getf hC.1 hC.2.1 (hC.2.2.2.2.2.2.2.1.2.2.2.2.1.1.1 i h9).2.2.1 hX.2.2.2 hC.2.2.2.1 (hC.2.2.2.2.1 _ hw) (fun _ h => h) hd (kk ls hl)
theorem ev_textC {idx i : Nat} (h9 : i < 9) (hw : Cond.fieldLink mi.2.2.2.2 idx "java/lang/String" "coder" "B" ∈ tblG) (hd : decode mi.2.1 pc = .ok (.getfield idx, 3)) (h : Ev X mi d (pc + 3) L ((0, 0) :: st) M r M') : Ev X mi d pc L ((20, (i : Int)) :: st) M r M' := by
  refine ev_step h ?_
  intro G R p l e s m args below meth c Q A kd ad H locs cells slots ls hC hX hst hL hl
  refine ⟨ok_cs (okI ok32_0) (ok_tl hst), hL, fun kk => ?_⟩
  exact vk_getf hC.1 hC.2.1 (hC.2.2.2.2.2.2.2.1.2.2.2.2.1.1.1 i h9).2.1 hX.2.2.2 hC.2.2.2.1 (hC.2.2.2.2.1 _ hw) (fun _ h => h) hd (kk ls hl)
theorem ev_textL {i : Nat} (h9 : i < 9) (hd : decode mi.2.1 pc = .ok (.arraylength, 1)) (h : Ev X mi d (pc + 1) L ((0, (txL.getD i 0 : Int)) :: st) M r M') : Ev X mi d pc L ((22, (i : Int)) :: st) M r M' := by
  refine ev_step h ?_
  intro G R p l e s m args below meth c Q A kd ad H locs cells slots ls hC hX hst hL hl
  have h5 := txL_9 i h9
  refine ⟨ok_cs (okI (by unfold ok32; omega)) (ok_tl hst), hL, fun kk => ?_⟩
  exact va_tlen hC.1 hC.2.1 (hC.2.2.2.2.2.2.2.1.2.2.2.2.1.1.1 i h9).2.2.2 hX.2.2.2 rfl hd (kk ls hl)
theorem ev_textB {i : Nat} {j : Int} (h9 : i < 9) (hj : 0 ≤ j ∧ j < (txL.getD i 0 : Int)) (hd : decode mi.2.1 pc = .ok (.baload, 1)) (h : Ev X mi d (pc + 1) L ((0, txb i j.toNat) :: st) M r M') : Ev X mi d pc L ((0, j) :: (22, (i : Int)) :: st) M r M' := by
  refine ev_step h ?_
  intro G R p l e s m args below meth c Q A kd ad H locs cells slots ls hC hX hst hL hl
  have hi3 := (ok_hd hst).1 rfl
  refine ⟨ok_cs (okI (txb_0 _ _)) (ok_tl (ok_tl hst)), hL, fun kk => ?_⟩
  refine va_tb hC.1 hC.2.1 (hC.2.2.2.2.2.2.2.1.2.2.2.2.1.1.1 i h9).2.2.2 hX.2.2.2 (i32_in hi3 hj.1 hj.2) ?_ hd (kk ls hl)
  show Value.int _ = Value.int _
  rw [i32_cl hi3, txb, i32_of]
theorem ev_comp {idx : Nat} (hw : Cond.fieldLink mi.2.2.2.2 idx "java/lang/String" "COMPACT_STRINGS" "Z" ∈ tblG) (hd : decode mi.2.1 pc = .ok (.getstatic idx, 3)) (h : Ev X mi d (pc + 3) L ((0, 1) :: st) M r M') : Ev X mi d pc L st M r M' := by
  refine ev_step h ?_
  intro G R p l e s m args below meth c Q A kd ad H locs cells slots ls hC hX hst hL hl
  refine ⟨ok_cs (okI (by unfold ok32; omega)) hst, hL, fun kk => ?_⟩
  exact va_gets hC.1 hC.2.1 hC.2.2.2.2.2.2.2.1.2.2.2.2.2.1.1 hX.2.2.2 hC.2.2.2.1 (hC.2.2.2.2.1 _ hw) (fun _ h => h) hd (kk ls hl)
/-- a static that only is passed on: a reference or null, the tag 23 -/
theorem ev_form {idx : Nat} (hw : Cond.fieldLink mi.2.2.2.2 idx "jdk/internal/util/Preconditions" "SIOOBE_FORMATTER" "Ljava/util/function/BiFunction;" ∈ tblG) (hd : decode mi.2.1 pc = .ok (.getstatic idx, 3)) (h : Ev X mi d (pc + 3) L ((23, 1) :: st) M r M') : Ev X mi d pc L st M r M' := by
  refine ev_step h ?_
  intro G R p l e s m args below meth c Q A kd ad H locs cells slots ls hC hX hst hL hl
  refine ⟨ok_cs ⟨fun e => by simp at e, fun e => by simp at e, fun _ e => by simp at e, fun e => by simp at e, fun e => by simp at e⟩ hst, hL, fun kk => ?_⟩
  exact va_gets hC.1 hC.2.1 hC.2.2.2.2.2.2.2.1.2.2.2.2.2.1.2 hX.2.2.2 hC.2.2.2.1 (hC.2.2.2.2.1 _ hw) (fun _ h => h) hd (kk ls hl)
theorem ev_callT {mi' : MI} {d' n idx : Nat} {i : Nat} {as rest : List AV} {r1 : Option AV} {M1 : Mm} (hst : st = as.reverse ++ (20, (i : Int)) :: rest) (h9 : i < 9) (hn : as.length = n) (hr8 : aW rest ≤ 8) (ho : CalOk mi' n) (hi : Cond.instanceMethod mi'.1 ∈ tblG ∧ Cond.selects "java/lang/String" mi'.1 mi'.1 ∈ tblG) (hdd : d' + 1 ≤ d) (hw : Cond.methodLink mi.2.2.2.2 idx mi'.1 ∈ tblG) (hd : decode mi.2.1 pc = .ok (.invokevirtual idx, 3)) (hR : Rn X d' mi' ((20, (i : Int)) :: as) M r1 M1) (h : Ev X mi d (pc + 3) L (r1.toList ++ rest) M1 r M') : Ev X mi d pc L st M r M' := by
  subst hst
  refine call_core hR (fun q hq => List.mem_append_right _ (List.mem_cons_of_mem _ hq)) (fun q hq => by
    rcases List.mem_cons.mp hq with e | e
    · rw [e]; exact List.mem_append_right _ List.mem_cons_self
    · exact List.mem_append_left _ (List.mem_reverse.mpr e)) h ?_
  intro G R p l e s m args below meth c A kd ad H locs cells slots ls hC hX hst hl hcs hM hp
  have er : cv G ad (20, (i : Int)) = .ref (G.2.2 (100 + i)) := rfl
  have em : ((20, (i : Int)) :: as).map (cv G ad) = .ref (G.2.2 (100 + i)) :: as.map (cv G ad) := by rw [List.map_cons, er]
  rw [em] at hM hp ⊢
  exact va_runV (C := "java/lang/String") (b := G.2.2 (100 + i)) (As := as.map (cv G ad)) (mfix hC) hM ⟨mkB hC ho hdd hw, hC.2.2.2.2.1 _ hi.1, hC.2.2.2.2.1 _ hi.2⟩ ⟨preR_blind _, vk_recv (adK := fun i => G.2.2 (100 + i)) (i := i) hC.2.2.2.2.2.2.2.1.2.2.2.2.1.1 h9 hX.2.2.2, hp⟩ rfl (by rw [List.length_map]; exact hn) hl.1 (by show List.map (cv G ad) _ = _; rw [List.map_append, List.map_reverse, List.map_cons, er]) (lv_room (by rw [aW_cat]; exact hr8)) hd hcs
end EV7
end
