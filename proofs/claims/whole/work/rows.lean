section
-- ===== PART A: goes FIRST, ahead of the names: the tables' words, and 'selects' of the private methods out of them =====
/-- a private method of a class that the tables say can be made, by its rows of tables_1 -/
def lw_okq (q : MethodName × Nat) : Prop := (q.1.cls ≠ "java/lang/invoke/MethodHandle" ∧ q.1.cls ≠ "java/lang/invoke/VarHandle") ∧ Cond.instantiable q.1.cls q.2 ∈ tables_1 ∧ Cond.privateMethod q.1 ∈ tables_1 ∧ Cond.instanceMethod q.1 ∈ tables_1
theorem lw_p0 : lw_okq (⟨"TownBand$Players", "join", "(II)I"⟩, 6) := ⟨⟨by decide +kernel, by decide +kernel⟩, List.mem_of_getElem? (i := 28) (by decide +kernel), List.mem_of_getElem? (i := 349) (by decide +kernel), List.mem_of_getElem? (i := 350) (by decide +kernel)⟩
theorem lw_p1 : lw_okq (⟨"TownBand$Players", "has", "(I)Z"⟩, 6) := ⟨⟨by decide +kernel, by decide +kernel⟩, List.mem_of_getElem? (i := 28) (by decide +kernel), List.mem_of_getElem? (i := 357) (by decide +kernel), List.mem_of_getElem? (i := 358) (by decide +kernel)⟩
theorem lw_p2 : lw_okq (⟨"TownBand$Players", "learn", "(III)V"⟩, 6) := ⟨⟨by decide +kernel, by decide +kernel⟩, List.mem_of_getElem? (i := 28) (by decide +kernel), List.mem_of_getElem? (i := 364) (by decide +kernel), List.mem_of_getElem? (i := 365) (by decide +kernel)⟩
theorem lw_p3 : lw_okq (⟨"TownBand$Players", "costOf", "(II)I"⟩, 6) := ⟨⟨by decide +kernel, by decide +kernel⟩, List.mem_of_getElem? (i := 28) (by decide +kernel), List.mem_of_getElem? (i := 372) (by decide +kernel), List.mem_of_getElem? (i := 373) (by decide +kernel)⟩
theorem lw_p4 : lw_okq (⟨"TownBand$Players", "mark", "(IZ)V"⟩, 6) := ⟨⟨by decide +kernel, by decide +kernel⟩, List.mem_of_getElem? (i := 28) (by decide +kernel), List.mem_of_getElem? (i := 380) (by decide +kernel), List.mem_of_getElem? (i := 381) (by decide +kernel)⟩
theorem lw_p5 : lw_okq (⟨"TownBand$Tape", "hasRoom", "()Z"⟩, 10) := ⟨⟨by decide +kernel, by decide +kernel⟩, List.mem_of_getElem? (i := 130) (by decide +kernel), List.mem_of_getElem? (i := 388) (by decide +kernel), List.mem_of_getElem? (i := 389) (by decide +kernel)⟩
theorem lw_p6 : lw_okq (⟨"TownBand$Tape", "append", "(I)V"⟩, 10) := ⟨⟨by decide +kernel, by decide +kernel⟩, List.mem_of_getElem? (i := 130) (by decide +kernel), List.mem_of_getElem? (i := 392) (by decide +kernel), List.mem_of_getElem? (i := 393) (by decide +kernel)⟩
theorem lw_p7 : lw_okq (⟨"TownBand$Library", "readText", "(LTownBand$Tape;)Z"⟩, 3) := ⟨⟨by decide +kernel, by decide +kernel⟩, List.mem_of_getElem? (i := 63) (by decide +kernel), List.mem_of_getElem? (i := 404) (by decide +kernel), List.mem_of_getElem? (i := 405) (by decide +kernel)⟩
theorem lw_p8 : lw_okq (⟨"TownBand$Tape", "begin", "(I)V"⟩, 10) := ⟨⟨by decide +kernel, by decide +kernel⟩, List.mem_of_getElem? (i := 130) (by decide +kernel), List.mem_of_getElem? (i := 408) (by decide +kernel), List.mem_of_getElem? (i := 409) (by decide +kernel)⟩
theorem lw_p9 : lw_okq (⟨"TownBand$Tape", "advance", "()V"⟩, 10) := ⟨⟨by decide +kernel, by decide +kernel⟩, List.mem_of_getElem? (i := 130) (by decide +kernel), List.mem_of_getElem? (i := 412) (by decide +kernel), List.mem_of_getElem? (i := 413) (by decide +kernel)⟩
theorem lw_p10 : lw_okq (⟨"TownBand$Tape", "reads", "(Ljava/lang/String;)Z"⟩, 10) := ⟨⟨by decide +kernel, by decide +kernel⟩, List.mem_of_getElem? (i := 130) (by decide +kernel), List.mem_of_getElem? (i := 417) (by decide +kernel), List.mem_of_getElem? (i := 418) (by decide +kernel)⟩
theorem lw_p11 : lw_okq (⟨"TownBand$Library", "readPiece", "(LTownBand$Tape;)V"⟩, 3) := ⟨⟨by decide +kernel, by decide +kernel⟩, List.mem_of_getElem? (i := 63) (by decide +kernel), List.mem_of_getElem? (i := 469) (by decide +kernel), List.mem_of_getElem? (i := 470) (by decide +kernel)⟩
theorem lw_p12 : lw_okq (⟨"TownBand$Tape", "fail", "(I)V"⟩, 10) := ⟨⟨by decide +kernel, by decide +kernel⟩, List.mem_of_getElem? (i := 130) (by decide +kernel), List.mem_of_getElem? (i := 473) (by decide +kernel), List.mem_of_getElem? (i := 474) (by decide +kernel)⟩
theorem lw_p13 : lw_okq (⟨"TownBand$Piece", "clear", "()V"⟩, 9) := ⟨⟨by decide +kernel, by decide +kernel⟩, List.mem_of_getElem? (i := 70) (by decide +kernel), List.mem_of_getElem? (i := 477) (by decide +kernel), List.mem_of_getElem? (i := 478) (by decide +kernel)⟩
theorem lw_p14 : lw_okq (⟨"TownBand$Library", "readName", "(LTownBand$Tape;)I"⟩, 3) := ⟨⟨by decide +kernel, by decide +kernel⟩, List.mem_of_getElem? (i := 63) (by decide +kernel), List.mem_of_getElem? (i := 483) (by decide +kernel), List.mem_of_getElem? (i := 484) (by decide +kernel)⟩
theorem lw_p15 : lw_okq (⟨"TownBand$Library", "hasName", "(I)Z"⟩, 3) := ⟨⟨by decide +kernel, by decide +kernel⟩, List.mem_of_getElem? (i := 63) (by decide +kernel), List.mem_of_getElem? (i := 493) (by decide +kernel), List.mem_of_getElem? (i := 494) (by decide +kernel)⟩
def lw_privs_1 : List (MethodName × Nat) := [(⟨"TownBand$Players", "join", "(II)I"⟩, 6), (⟨"TownBand$Players", "has", "(I)Z"⟩, 6), (⟨"TownBand$Players", "learn", "(III)V"⟩, 6), (⟨"TownBand$Players", "costOf", "(II)I"⟩, 6), (⟨"TownBand$Players", "mark", "(IZ)V"⟩, 6), (⟨"TownBand$Tape", "hasRoom", "()Z"⟩, 10), (⟨"TownBand$Tape", "append", "(I)V"⟩, 10), (⟨"TownBand$Library", "readText", "(LTownBand$Tape;)Z"⟩, 3), (⟨"TownBand$Tape", "begin", "(I)V"⟩, 10), (⟨"TownBand$Tape", "advance", "()V"⟩, 10), (⟨"TownBand$Tape", "reads", "(Ljava/lang/String;)Z"⟩, 10), (⟨"TownBand$Library", "readPiece", "(LTownBand$Tape;)V"⟩, 3), (⟨"TownBand$Tape", "fail", "(I)V"⟩, 10), (⟨"TownBand$Piece", "clear", "()V"⟩, 9), (⟨"TownBand$Library", "readName", "(LTownBand$Tape;)I"⟩, 3), (⟨"TownBand$Library", "hasName", "(I)Z"⟩, 3)]
theorem lw_r1 : ∀ q ∈ lw_privs_1, lw_okq q := List.forall_mem_cons.mpr ⟨lw_p0, List.forall_mem_cons.mpr ⟨lw_p1, List.forall_mem_cons.mpr ⟨lw_p2, List.forall_mem_cons.mpr ⟨lw_p3, List.forall_mem_cons.mpr ⟨lw_p4, List.forall_mem_cons.mpr ⟨lw_p5, List.forall_mem_cons.mpr ⟨lw_p6, List.forall_mem_cons.mpr ⟨lw_p7, List.forall_mem_cons.mpr ⟨lw_p8, List.forall_mem_cons.mpr ⟨lw_p9, List.forall_mem_cons.mpr ⟨lw_p10, List.forall_mem_cons.mpr ⟨lw_p11, List.forall_mem_cons.mpr ⟨lw_p12, List.forall_mem_cons.mpr ⟨lw_p13, List.forall_mem_cons.mpr ⟨lw_p14, List.forall_mem_cons.mpr ⟨lw_p15, fun _ h => absurd h List.not_mem_nil⟩⟩⟩⟩⟩⟩⟩⟩⟩⟩⟩⟩⟩⟩⟩⟩
theorem lw_p16 : lw_okq (⟨"TownBand$Tape", "take", "(I)V"⟩, 10) := ⟨⟨by decide +kernel, by decide +kernel⟩, List.mem_of_getElem? (i := 130) (by decide +kernel), List.mem_of_getElem? (i := 497) (by decide +kernel), List.mem_of_getElem? (i := 498) (by decide +kernel)⟩
theorem lw_p17 : lw_okq (⟨"TownBand$Piece", "addPart", "(Z)V"⟩, 9) := ⟨⟨by decide +kernel, by decide +kernel⟩, List.mem_of_getElem? (i := 70) (by decide +kernel), List.mem_of_getElem? (i := 509) (by decide +kernel), List.mem_of_getElem? (i := 510) (by decide +kernel)⟩
theorem lw_p18 : lw_okq (⟨"TownBand$Piece", "hasInstrument", "(II)Z"⟩, 9) := ⟨⟨by decide +kernel, by decide +kernel⟩, List.mem_of_getElem? (i := 70) (by decide +kernel), List.mem_of_getElem? (i := 516) (by decide +kernel), List.mem_of_getElem? (i := 517) (by decide +kernel)⟩
theorem lw_p19 : lw_okq (⟨"TownBand$Piece", "instrument", "(II)I"⟩, 9) := ⟨⟨by decide +kernel, by decide +kernel⟩, List.mem_of_getElem? (i := 70) (by decide +kernel), List.mem_of_getElem? (i := 520) (by decide +kernel), List.mem_of_getElem? (i := 521) (by decide +kernel)⟩
theorem lw_p20 : lw_okq (⟨"TownBand$Piece", "addInstrument", "(II)V"⟩, 9) := ⟨⟨by decide +kernel, by decide +kernel⟩, List.mem_of_getElem? (i := 70) (by decide +kernel), List.mem_of_getElem? (i := 524) (by decide +kernel), List.mem_of_getElem? (i := 525) (by decide +kernel)⟩
theorem lw_p21 : lw_okq (⟨"TownBand$Tape", "finish", "()Z"⟩, 10) := ⟨⟨by decide +kernel, by decide +kernel⟩, List.mem_of_getElem? (i := 130) (by decide +kernel), List.mem_of_getElem? (i := 528) (by decide +kernel), List.mem_of_getElem? (i := 529) (by decide +kernel)⟩
theorem lw_p22 : lw_okq (⟨"TownBand$Rule", "beginDraft", "()V"⟩, 7) := ⟨⟨by decide +kernel, by decide +kernel⟩, List.mem_of_getElem? (i := 175) (by decide +kernel), List.mem_of_getElem? (i := 537) (by decide +kernel), List.mem_of_getElem? (i := 538) (by decide +kernel)⟩
theorem lw_p23 : lw_okq (⟨"TownBand$Rule", "readEither", "(LTownBand$Tape;I)V"⟩, 7) := ⟨⟨by decide +kernel, by decide +kernel⟩, List.mem_of_getElem? (i := 175) (by decide +kernel), List.mem_of_getElem? (i := 542) (by decide +kernel), List.mem_of_getElem? (i := 543) (by decide +kernel)⟩
theorem lw_p24 : lw_okq (⟨"TownBand$Rule", "readBoth", "(LTownBand$Tape;I)V"⟩, 7) := ⟨⟨by decide +kernel, by decide +kernel⟩, List.mem_of_getElem? (i := 175) (by decide +kernel), List.mem_of_getElem? (i := 546) (by decide +kernel), List.mem_of_getElem? (i := 547) (by decide +kernel)⟩
theorem lw_p25 : lw_okq (⟨"TownBand$Rule", "readOne", "(LTownBand$Tape;I)V"⟩, 7) := ⟨⟨by decide +kernel, by decide +kernel⟩, List.mem_of_getElem? (i := 175) (by decide +kernel), List.mem_of_getElem? (i := 550) (by decide +kernel), List.mem_of_getElem? (i := 551) (by decide +kernel)⟩
theorem lw_p26 : lw_okq (⟨"TownBand$Rule", "readComparison", "(LTownBand$Tape;)V"⟩, 7) := ⟨⟨by decide +kernel, by decide +kernel⟩, List.mem_of_getElem? (i := 175) (by decide +kernel), List.mem_of_getElem? (i := 554) (by decide +kernel), List.mem_of_getElem? (i := 555) (by decide +kernel)⟩
theorem lw_p27 : lw_okq (⟨"TownBand$Rule", "readSum", "(LTownBand$Tape;)V"⟩, 7) := ⟨⟨by decide +kernel, by decide +kernel⟩, List.mem_of_getElem? (i := 175) (by decide +kernel), List.mem_of_getElem? (i := 558) (by decide +kernel), List.mem_of_getElem? (i := 559) (by decide +kernel)⟩
theorem lw_p28 : lw_okq (⟨"TownBand$Rule", "readValue", "(LTownBand$Tape;)V"⟩, 7) := ⟨⟨by decide +kernel, by decide +kernel⟩, List.mem_of_getElem? (i := 175) (by decide +kernel), List.mem_of_getElem? (i := 562) (by decide +kernel), List.mem_of_getElem? (i := 563) (by decide +kernel)⟩
theorem lw_p29 : lw_okq (⟨"TownBand$Rule", "write", "(I)V"⟩, 7) := ⟨⟨by decide +kernel, by decide +kernel⟩, List.mem_of_getElem? (i := 175) (by decide +kernel), List.mem_of_getElem? (i := 566) (by decide +kernel), List.mem_of_getElem? (i := 567) (by decide +kernel)⟩
theorem lw_p30 : lw_okq (⟨"TownBand$Rule", "adoptDraft", "()V"⟩, 7) := ⟨⟨by decide +kernel, by decide +kernel⟩, List.mem_of_getElem? (i := 175) (by decide +kernel), List.mem_of_getElem? (i := 581) (by decide +kernel), List.mem_of_getElem? (i := 582) (by decide +kernel)⟩
theorem lw_p31 : lw_okq (⟨"TownBand$Library", "find", "(I)LTownBand$Piece;"⟩, 3) := ⟨⟨by decide +kernel, by decide +kernel⟩, List.mem_of_getElem? (i := 63) (by decide +kernel), List.mem_of_getElem? (i := 593) (by decide +kernel), List.mem_of_getElem? (i := 594) (by decide +kernel)⟩
def lw_privs_2 : List (MethodName × Nat) := [(⟨"TownBand$Tape", "take", "(I)V"⟩, 10), (⟨"TownBand$Piece", "addPart", "(Z)V"⟩, 9), (⟨"TownBand$Piece", "hasInstrument", "(II)Z"⟩, 9), (⟨"TownBand$Piece", "instrument", "(II)I"⟩, 9), (⟨"TownBand$Piece", "addInstrument", "(II)V"⟩, 9), (⟨"TownBand$Tape", "finish", "()Z"⟩, 10), (⟨"TownBand$Rule", "beginDraft", "()V"⟩, 7), (⟨"TownBand$Rule", "readEither", "(LTownBand$Tape;I)V"⟩, 7), (⟨"TownBand$Rule", "readBoth", "(LTownBand$Tape;I)V"⟩, 7), (⟨"TownBand$Rule", "readOne", "(LTownBand$Tape;I)V"⟩, 7), (⟨"TownBand$Rule", "readComparison", "(LTownBand$Tape;)V"⟩, 7), (⟨"TownBand$Rule", "readSum", "(LTownBand$Tape;)V"⟩, 7), (⟨"TownBand$Rule", "readValue", "(LTownBand$Tape;)V"⟩, 7), (⟨"TownBand$Rule", "write", "(I)V"⟩, 7), (⟨"TownBand$Rule", "adoptDraft", "()V"⟩, 7), (⟨"TownBand$Library", "find", "(I)LTownBand$Piece;"⟩, 3)]
theorem lw_r2 : ∀ q ∈ lw_privs_2, lw_okq q := List.forall_mem_cons.mpr ⟨lw_p16, List.forall_mem_cons.mpr ⟨lw_p17, List.forall_mem_cons.mpr ⟨lw_p18, List.forall_mem_cons.mpr ⟨lw_p19, List.forall_mem_cons.mpr ⟨lw_p20, List.forall_mem_cons.mpr ⟨lw_p21, List.forall_mem_cons.mpr ⟨lw_p22, List.forall_mem_cons.mpr ⟨lw_p23, List.forall_mem_cons.mpr ⟨lw_p24, List.forall_mem_cons.mpr ⟨lw_p25, List.forall_mem_cons.mpr ⟨lw_p26, List.forall_mem_cons.mpr ⟨lw_p27, List.forall_mem_cons.mpr ⟨lw_p28, List.forall_mem_cons.mpr ⟨lw_p29, List.forall_mem_cons.mpr ⟨lw_p30, List.forall_mem_cons.mpr ⟨lw_p31, fun _ h => absurd h List.not_mem_nil⟩⟩⟩⟩⟩⟩⟩⟩⟩⟩⟩⟩⟩⟩⟩⟩
theorem lw_p32 : lw_okq (⟨"TownBand$Piece", "detail", "(I)I"⟩, 9) := ⟨⟨by decide +kernel, by decide +kernel⟩, List.mem_of_getElem? (i := 70) (by decide +kernel), List.mem_of_getElem? (i := 597) (by decide +kernel), List.mem_of_getElem? (i := 598) (by decide +kernel)⟩
theorem lw_p33 : lw_okq (⟨"TownBand$Piece", "partDetail", "(I)I"⟩, 9) := ⟨⟨by decide +kernel, by decide +kernel⟩, List.mem_of_getElem? (i := 70) (by decide +kernel), List.mem_of_getElem? (i := 601) (by decide +kernel), List.mem_of_getElem? (i := 602) (by decide +kernel)⟩
theorem lw_p34 : lw_okq (⟨"TownBand$Piece", "hasPart", "(I)Z"⟩, 9) := ⟨⟨by decide +kernel, by decide +kernel⟩, List.mem_of_getElem? (i := 70) (by decide +kernel), List.mem_of_getElem? (i := 605) (by decide +kernel), List.mem_of_getElem? (i := 606) (by decide +kernel)⟩
theorem lw_p35 : lw_okq (⟨"TownBand$Cover", "coversMust", "(LTownBand$Piece;LTownBand$Players;)Z"⟩, 4) := ⟨⟨by decide +kernel, by decide +kernel⟩, List.mem_of_getElem? (i := 229) (by decide +kernel), List.mem_of_getElem? (i := 613) (by decide +kernel), List.mem_of_getElem? (i := 614) (by decide +kernel)⟩
theorem lw_p36 : lw_okq (⟨"TownBand$Cover", "findAble", "(LTownBand$Piece;LTownBand$Players;)V"⟩, 4) := ⟨⟨by decide +kernel, by decide +kernel⟩, List.mem_of_getElem? (i := 229) (by decide +kernel), List.mem_of_getElem? (i := 617) (by decide +kernel), List.mem_of_getElem? (i := 618) (by decide +kernel)⟩
theorem lw_p37 : lw_okq (⟨"TownBand$Piece", "isMust", "(I)Z"⟩, 9) := ⟨⟨by decide +kernel, by decide +kernel⟩, List.mem_of_getElem? (i := 70) (by decide +kernel), List.mem_of_getElem? (i := 621) (by decide +kernel), List.mem_of_getElem? (i := 622) (by decide +kernel)⟩
theorem lw_p38 : lw_okq (⟨"TownBand$Players", "presentFor", "(LTownBand$Piece;I)I"⟩, 6) := ⟨⟨by decide +kernel, by decide +kernel⟩, List.mem_of_getElem? (i := 28) (by decide +kernel), List.mem_of_getElem? (i := 625) (by decide +kernel), List.mem_of_getElem? (i := 626) (by decide +kernel)⟩
theorem lw_p39 : lw_okq (⟨"TownBand$Players", "isPresent", "(I)Z"⟩, 6) := ⟨⟨by decide +kernel, by decide +kernel⟩, List.mem_of_getElem? (i := 28) (by decide +kernel), List.mem_of_getElem? (i := 629) (by decide +kernel), List.mem_of_getElem? (i := 630) (by decide +kernel)⟩
theorem lw_p40 : lw_okq (⟨"TownBand$Players", "partCost", "(ILTownBand$Piece;I)I"⟩, 6) := ⟨⟨by decide +kernel, by decide +kernel⟩, List.mem_of_getElem? (i := 28) (by decide +kernel), List.mem_of_getElem? (i := 633) (by decide +kernel), List.mem_of_getElem? (i := 634) (by decide +kernel)⟩
theorem lw_p41 : lw_okq (⟨"TownBand$Cover", "findPlayer", "(II)Z"⟩, 4) := ⟨⟨by decide +kernel, by decide +kernel⟩, List.mem_of_getElem? (i := 229) (by decide +kernel), List.mem_of_getElem? (i := 640) (by decide +kernel), List.mem_of_getElem? (i := 641) (by decide +kernel)⟩
theorem lw_p42 : lw_okq (⟨"TownBand$Cover", "leastLack", "(LTownBand$Piece;LTownBand$Players;)I"⟩, 4) := ⟨⟨by decide +kernel, by decide +kernel⟩, List.mem_of_getElem? (i := 229) (by decide +kernel), List.mem_of_getElem? (i := 648) (by decide +kernel), List.mem_of_getElem? (i := 649) (by decide +kernel)⟩
theorem lw_p43 : lw_okq (⟨"TownBand$Seater", "seatAnew", "(LTownBand$Piece;LTownBand$Players;)V"⟩, 7) := ⟨⟨by decide +kernel, by decide +kernel⟩, List.mem_of_getElem? (i := 248) (by decide +kernel), List.mem_of_getElem? (i := 662) (by decide +kernel), List.mem_of_getElem? (i := 663) (by decide +kernel)⟩
theorem lw_p44 : lw_okq (⟨"TownBand$Seater", "weigh", "(IIJ)V"⟩, 7) := ⟨⟨by decide +kernel, by decide +kernel⟩, List.mem_of_getElem? (i := 248) (by decide +kernel), List.mem_of_getElem? (i := 672) (by decide +kernel), List.mem_of_getElem? (i := 673) (by decide +kernel)⟩
theorem lw_p45 : lw_okq (⟨"TownBand$Seater", "weighEmpty", "(LTownBand$Piece;LTownBand$Players;IJ)V"⟩, 7) := ⟨⟨by decide +kernel, by decide +kernel⟩, List.mem_of_getElem? (i := 248) (by decide +kernel), List.mem_of_getElem? (i := 677) (by decide +kernel), List.mem_of_getElem? (i := 678) (by decide +kernel)⟩
theorem lw_p46 : lw_okq (⟨"TownBand$Seater", "match", "(II)V"⟩, 7) := ⟨⟨by decide +kernel, by decide +kernel⟩, List.mem_of_getElem? (i := 248) (by decide +kernel), List.mem_of_getElem? (i := 683) (by decide +kernel), List.mem_of_getElem? (i := 684) (by decide +kernel)⟩
theorem lw_p47 : lw_okq (⟨"TownBand$Seater", "placeRow", "(I)V"⟩, 7) := ⟨⟨by decide +kernel, by decide +kernel⟩, List.mem_of_getElem? (i := 248) (by decide +kernel), List.mem_of_getElem? (i := 691) (by decide +kernel), List.mem_of_getElem? (i := 692) (by decide +kernel)⟩
def lw_privs_3 : List (MethodName × Nat) := [(⟨"TownBand$Piece", "detail", "(I)I"⟩, 9), (⟨"TownBand$Piece", "partDetail", "(I)I"⟩, 9), (⟨"TownBand$Piece", "hasPart", "(I)Z"⟩, 9), (⟨"TownBand$Cover", "coversMust", "(LTownBand$Piece;LTownBand$Players;)Z"⟩, 4), (⟨"TownBand$Cover", "findAble", "(LTownBand$Piece;LTownBand$Players;)V"⟩, 4), (⟨"TownBand$Piece", "isMust", "(I)Z"⟩, 9), (⟨"TownBand$Players", "presentFor", "(LTownBand$Piece;I)I"⟩, 6), (⟨"TownBand$Players", "isPresent", "(I)Z"⟩, 6), (⟨"TownBand$Players", "partCost", "(ILTownBand$Piece;I)I"⟩, 6), (⟨"TownBand$Cover", "findPlayer", "(II)Z"⟩, 4), (⟨"TownBand$Cover", "leastLack", "(LTownBand$Piece;LTownBand$Players;)I"⟩, 4), (⟨"TownBand$Seater", "seatAnew", "(LTownBand$Piece;LTownBand$Players;)V"⟩, 7), (⟨"TownBand$Seater", "weigh", "(IIJ)V"⟩, 7), (⟨"TownBand$Seater", "weighEmpty", "(LTownBand$Piece;LTownBand$Players;IJ)V"⟩, 7), (⟨"TownBand$Seater", "match", "(II)V"⟩, 7), (⟨"TownBand$Seater", "placeRow", "(I)V"⟩, 7)]
theorem lw_r3 : ∀ q ∈ lw_privs_3, lw_okq q := List.forall_mem_cons.mpr ⟨lw_p32, List.forall_mem_cons.mpr ⟨lw_p33, List.forall_mem_cons.mpr ⟨lw_p34, List.forall_mem_cons.mpr ⟨lw_p35, List.forall_mem_cons.mpr ⟨lw_p36, List.forall_mem_cons.mpr ⟨lw_p37, List.forall_mem_cons.mpr ⟨lw_p38, List.forall_mem_cons.mpr ⟨lw_p39, List.forall_mem_cons.mpr ⟨lw_p40, List.forall_mem_cons.mpr ⟨lw_p41, List.forall_mem_cons.mpr ⟨lw_p42, List.forall_mem_cons.mpr ⟨lw_p43, List.forall_mem_cons.mpr ⟨lw_p44, List.forall_mem_cons.mpr ⟨lw_p45, List.forall_mem_cons.mpr ⟨lw_p46, List.forall_mem_cons.mpr ⟨lw_p47, fun _ h => absurd h List.not_mem_nil⟩⟩⟩⟩⟩⟩⟩⟩⟩⟩⟩⟩⟩⟩⟩⟩
theorem lw_p48 : lw_okq (⟨"TownBand$Seater", "nearestColumn", "(II)I"⟩, 7) := ⟨⟨by decide +kernel, by decide +kernel⟩, List.mem_of_getElem? (i := 248) (by decide +kernel), List.mem_of_getElem? (i := 696) (by decide +kernel), List.mem_of_getElem? (i := 697) (by decide +kernel)⟩
theorem lw_p49 : lw_okq (⟨"TownBand$Seater", "shiftPrices", "(IJ)V"⟩, 7) := ⟨⟨by decide +kernel, by decide +kernel⟩, List.mem_of_getElem? (i := 248) (by decide +kernel), List.mem_of_getElem? (i := 700) (by decide +kernel), List.mem_of_getElem? (i := 701) (by decide +kernel)⟩
theorem lw_p50 : lw_okq (⟨"TownBand$Seater", "takeChairs", "(LTownBand$Piece;I)I"⟩, 7) := ⟨⟨by decide +kernel, by decide +kernel⟩, List.mem_of_getElem? (i := 248) (by decide +kernel), List.mem_of_getElem? (i := 704) (by decide +kernel), List.mem_of_getElem? (i := 705) (by decide +kernel)⟩
theorem lw_p51 : lw_okq (⟨"TownBand$Piece", "seated", "()I"⟩, 9) := ⟨⟨by decide +kernel, by decide +kernel⟩, List.mem_of_getElem? (i := 70) (by decide +kernel), List.mem_of_getElem? (i := 709) (by decide +kernel), List.mem_of_getElem? (i := 710) (by decide +kernel)⟩
theorem lw_p52 : lw_okq (⟨"TownBand$Seater", "seatWithFewestChanges", "(LTownBand$Piece;LTownBand$Players;)I"⟩, 7) := ⟨⟨by decide +kernel, by decide +kernel⟩, List.mem_of_getElem? (i := 248) (by decide +kernel), List.mem_of_getElem? (i := 717) (by decide +kernel), List.mem_of_getElem? (i := 718) (by decide +kernel)⟩
theorem lw_p53 : lw_okq (⟨"TownBand$Piece", "seatsElsewhere", "(II)Z"⟩, 9) := ⟨⟨by decide +kernel, by decide +kernel⟩, List.mem_of_getElem? (i := 70) (by decide +kernel), List.mem_of_getElem? (i := 731) (by decide +kernel), List.mem_of_getElem? (i := 732) (by decide +kernel)⟩
theorem lw_p54 : lw_okq (⟨"TownBand$Players", "seatingCost", "(LTownBand$Piece;)I"⟩, 6) := ⟨⟨by decide +kernel, by decide +kernel⟩, List.mem_of_getElem? (i := 28) (by decide +kernel), List.mem_of_getElem? (i := 739) (by decide +kernel), List.mem_of_getElem? (i := 740) (by decide +kernel)⟩
theorem lw_p55 : lw_okq (⟨"TownBand$Players", "seatedButAway", "(LTownBand$Piece;)I"⟩, 6) := ⟨⟨by decide +kernel, by decide +kernel⟩, List.mem_of_getElem? (i := 28) (by decide +kernel), List.mem_of_getElem? (i := 747) (by decide +kernel), List.mem_of_getElem? (i := 748) (by decide +kernel)⟩
theorem lw_p56 : lw_okq (⟨"TownBand$Planner", "forgetChoices", "()V"⟩, 9) := ⟨⟨by decide +kernel, by decide +kernel⟩, List.mem_of_getElem? (i := 277) (by decide +kernel), List.mem_of_getElem? (i := 755) (by decide +kernel), List.mem_of_getElem? (i := 756) (by decide +kernel)⟩
theorem lw_p57 : lw_okq (⟨"TownBand$Planner", "offer", "(ILTownBand$Piece;)V"⟩, 9) := ⟨⟨by decide +kernel, by decide +kernel⟩, List.mem_of_getElem? (i := 277) (by decide +kernel), List.mem_of_getElem? (i := 759) (by decide +kernel), List.mem_of_getElem? (i := 760) (by decide +kernel)⟩
theorem lw_p58 : lw_okq (⟨"TownBand$Planner", "arrange", "(II)I"⟩, 9) := ⟨⟨by decide +kernel, by decide +kernel⟩, List.mem_of_getElem? (i := 277) (by decide +kernel), List.mem_of_getElem? (i := 763) (by decide +kernel), List.mem_of_getElem? (i := 764) (by decide +kernel)⟩
theorem lw_p59 : lw_okq (⟨"TownBand$Planner", "minutesOf", "(I)I"⟩, 9) := ⟨⟨by decide +kernel, by decide +kernel⟩, List.mem_of_getElem? (i := 277) (by decide +kernel), List.mem_of_getElem? (i := 767) (by decide +kernel), List.mem_of_getElem? (i := 768) (by decide +kernel)⟩
theorem lw_p60 : lw_okq (⟨"TownBand$Planner", "fillSet", "(IZI)J"⟩, 9) := ⟨⟨by decide +kernel, by decide +kernel⟩, List.mem_of_getElem? (i := 277) (by decide +kernel), List.mem_of_getElem? (i := 771) (by decide +kernel), List.mem_of_getElem? (i := 772) (by decide +kernel)⟩
theorem lw_p61 : lw_okq (⟨"TownBand$Planner", "bestEndingWith", "(III)J"⟩, 9) := ⟨⟨by decide +kernel, by decide +kernel⟩, List.mem_of_getElem? (i := 277) (by decide +kernel), List.mem_of_getElem? (i := 776) (by decide +kernel), List.mem_of_getElem? (i := 777) (by decide +kernel)⟩
theorem lw_p62 : lw_okq (⟨"TownBand$Planner", "keyGap", "(II)I"⟩, 9) := ⟨⟨by decide +kernel, by decide +kernel⟩, List.mem_of_getElem? (i := 277) (by decide +kernel), List.mem_of_getElem? (i := 783) (by decide +kernel), List.mem_of_getElem? (i := 784) (by decide +kernel)⟩
theorem lw_p63 : lw_okq (⟨"TownBand$Planner", "keepRow", "(IJ)V"⟩, 9) := ⟨⟨by decide +kernel, by decide +kernel⟩, List.mem_of_getElem? (i := 277) (by decide +kernel), List.mem_of_getElem? (i := 797) (by decide +kernel), List.mem_of_getElem? (i := 798) (by decide +kernel)⟩
def lw_privs_4 : List (MethodName × Nat) := [(⟨"TownBand$Seater", "nearestColumn", "(II)I"⟩, 7), (⟨"TownBand$Seater", "shiftPrices", "(IJ)V"⟩, 7), (⟨"TownBand$Seater", "takeChairs", "(LTownBand$Piece;I)I"⟩, 7), (⟨"TownBand$Piece", "seated", "()I"⟩, 9), (⟨"TownBand$Seater", "seatWithFewestChanges", "(LTownBand$Piece;LTownBand$Players;)I"⟩, 7), (⟨"TownBand$Piece", "seatsElsewhere", "(II)Z"⟩, 9), (⟨"TownBand$Players", "seatingCost", "(LTownBand$Piece;)I"⟩, 6), (⟨"TownBand$Players", "seatedButAway", "(LTownBand$Piece;)I"⟩, 6), (⟨"TownBand$Planner", "forgetChoices", "()V"⟩, 9), (⟨"TownBand$Planner", "offer", "(ILTownBand$Piece;)V"⟩, 9), (⟨"TownBand$Planner", "arrange", "(II)I"⟩, 9), (⟨"TownBand$Planner", "minutesOf", "(I)I"⟩, 9), (⟨"TownBand$Planner", "fillSet", "(IZI)J"⟩, 9), (⟨"TownBand$Planner", "bestEndingWith", "(III)J"⟩, 9), (⟨"TownBand$Planner", "keyGap", "(II)I"⟩, 9), (⟨"TownBand$Planner", "keepRow", "(IJ)V"⟩, 9)]
theorem lw_r4 : ∀ q ∈ lw_privs_4, lw_okq q := List.forall_mem_cons.mpr ⟨lw_p48, List.forall_mem_cons.mpr ⟨lw_p49, List.forall_mem_cons.mpr ⟨lw_p50, List.forall_mem_cons.mpr ⟨lw_p51, List.forall_mem_cons.mpr ⟨lw_p52, List.forall_mem_cons.mpr ⟨lw_p53, List.forall_mem_cons.mpr ⟨lw_p54, List.forall_mem_cons.mpr ⟨lw_p55, List.forall_mem_cons.mpr ⟨lw_p56, List.forall_mem_cons.mpr ⟨lw_p57, List.forall_mem_cons.mpr ⟨lw_p58, List.forall_mem_cons.mpr ⟨lw_p59, List.forall_mem_cons.mpr ⟨lw_p60, List.forall_mem_cons.mpr ⟨lw_p61, List.forall_mem_cons.mpr ⟨lw_p62, List.forall_mem_cons.mpr ⟨lw_p63, fun _ h => absurd h List.not_mem_nil⟩⟩⟩⟩⟩⟩⟩⟩⟩⟩⟩⟩⟩⟩⟩⟩
theorem lw_p64 : lw_okq (⟨"TownBand", "isPlace", "(I)Z"⟩, 8) := ⟨⟨by decide +kernel, by decide +kernel⟩, List.mem_of_getElem? (i := 20) (by decide +kernel), List.mem_of_getElem? (i := 817) (by decide +kernel), List.mem_of_getElem? (i := 818) (by decide +kernel)⟩
theorem lw_p65 : lw_okq (⟨"TownBand$Loans", "note", "(III)I"⟩, 6) := ⟨⟨by decide +kernel, by decide +kernel⟩, List.mem_of_getElem? (i := 203) (by decide +kernel), List.mem_of_getElem? (i := 821) (by decide +kernel), List.mem_of_getElem? (i := 822) (by decide +kernel)⟩
theorem lw_p66 : lw_okq (⟨"TownBand$Loans", "placeOf", "(III)I"⟩, 6) := ⟨⟨by decide +kernel, by decide +kernel⟩, List.mem_of_getElem? (i := 203) (by decide +kernel), List.mem_of_getElem? (i := 829) (by decide +kernel), List.mem_of_getElem? (i := 830) (by decide +kernel)⟩
theorem lw_p67 : lw_okq (⟨"TownBand$Loans", "settle", "(II)V"⟩, 6) := ⟨⟨by decide +kernel, by decide +kernel⟩, List.mem_of_getElem? (i := 203) (by decide +kernel), List.mem_of_getElem? (i := 833) (by decide +kernel), List.mem_of_getElem? (i := 834) (by decide +kernel)⟩
theorem lw_p68 : lw_okq (⟨"TownBand$Loans", "copiesAt", "(III)I"⟩, 6) := ⟨⟨by decide +kernel, by decide +kernel⟩, List.mem_of_getElem? (i := 203) (by decide +kernel), List.mem_of_getElem? (i := 842) (by decide +kernel), List.mem_of_getElem? (i := 843) (by decide +kernel)⟩
theorem lw_p69 : lw_okq (⟨"TownBand$Players", "compete", "(I)I"⟩, 6) := ⟨⟨by decide +kernel, by decide +kernel⟩, List.mem_of_getElem? (i := 28) (by decide +kernel), List.mem_of_getElem? (i := 850) (by decide +kernel), List.mem_of_getElem? (i := 851) (by decide +kernel)⟩
theorem lw_p70 : lw_okq (⟨"TownBand$Rule", "setPlayer", "(III)V"⟩, 7) := ⟨⟨by decide +kernel, by decide +kernel⟩, List.mem_of_getElem? (i := 175) (by decide +kernel), List.mem_of_getElem? (i := 858) (by decide +kernel), List.mem_of_getElem? (i := 859) (by decide +kernel)⟩
theorem lw_p71 : lw_okq (⟨"TownBand$Rule", "setDay", "(II)V"⟩, 7) := ⟨⟨by decide +kernel, by decide +kernel⟩, List.mem_of_getElem? (i := 175) (by decide +kernel), List.mem_of_getElem? (i := 862) (by decide +kernel), List.mem_of_getElem? (i := 863) (by decide +kernel)⟩
theorem lw_p72 : lw_okq (⟨"TownBand$Rule", "allows", "()Z"⟩, 7) := ⟨⟨by decide +kernel, by decide +kernel⟩, List.mem_of_getElem? (i := 175) (by decide +kernel), List.mem_of_getElem? (i := 866) (by decide +kernel), List.mem_of_getElem? (i := 867) (by decide +kernel)⟩
theorem lw_p73 : lw_okq (⟨"TownBand$Rule", "work", "(I)V"⟩, 7) := ⟨⟨by decide +kernel, by decide +kernel⟩, List.mem_of_getElem? (i := 175) (by decide +kernel), List.mem_of_getElem? (i := 870) (by decide +kernel), List.mem_of_getElem? (i := 871) (by decide +kernel)⟩
theorem lw_p74 : lw_okq (⟨"TownBand$Rule", "push", "(I)V"⟩, 7) := ⟨⟨by decide +kernel, by decide +kernel⟩, List.mem_of_getElem? (i := 175) (by decide +kernel), List.mem_of_getElem? (i := 874) (by decide +kernel), List.mem_of_getElem? (i := 875) (by decide +kernel)⟩
theorem lw_p75 : lw_okq (⟨"TownBand$Rule", "pop", "()I"⟩, 7) := ⟨⟨by decide +kernel, by decide +kernel⟩, List.mem_of_getElem? (i := 175) (by decide +kernel), List.mem_of_getElem? (i := 878) (by decide +kernel), List.mem_of_getElem? (i := 879) (by decide +kernel)⟩
theorem lw_p76 : lw_okq (⟨"TownBand", "playablePieces", "()I"⟩, 8) := ⟨⟨by decide +kernel, by decide +kernel⟩, List.mem_of_getElem? (i := 20) (by decide +kernel), List.mem_of_getElem? (i := 890) (by decide +kernel), List.mem_of_getElem? (i := 891) (by decide +kernel)⟩
theorem lw_p77 : lw_okq (⟨"TownBandModel", "isPlayer", "(I)Z"⟩, 48) := ⟨⟨by decide +kernel, by decide +kernel⟩, List.mem_of_getElem? (i := 894) (by decide +kernel), List.mem_of_getElem? (i := 1055) (by decide +kernel), List.mem_of_getElem? (i := 1056) (by decide +kernel)⟩
theorem lw_p78 : lw_okq (⟨"TownBandModel", "isInstrument", "(I)Z"⟩, 48) := ⟨⟨by decide +kernel, by decide +kernel⟩, List.mem_of_getElem? (i := 894) (by decide +kernel), List.mem_of_getElem? (i := 1059) (by decide +kernel), List.mem_of_getElem? (i := 1060) (by decide +kernel)⟩
theorem lw_p79 : lw_okq (⟨"TownBandModel", "isPiece", "(I)Z"⟩, 48) := ⟨⟨by decide +kernel, by decide +kernel⟩, List.mem_of_getElem? (i := 894) (by decide +kernel), List.mem_of_getElem? (i := 1075) (by decide +kernel), List.mem_of_getElem? (i := 1076) (by decide +kernel)⟩
def lw_privs_5 : List (MethodName × Nat) := [(⟨"TownBand", "isPlace", "(I)Z"⟩, 8), (⟨"TownBand$Loans", "note", "(III)I"⟩, 6), (⟨"TownBand$Loans", "placeOf", "(III)I"⟩, 6), (⟨"TownBand$Loans", "settle", "(II)V"⟩, 6), (⟨"TownBand$Loans", "copiesAt", "(III)I"⟩, 6), (⟨"TownBand$Players", "compete", "(I)I"⟩, 6), (⟨"TownBand$Rule", "setPlayer", "(III)V"⟩, 7), (⟨"TownBand$Rule", "setDay", "(II)V"⟩, 7), (⟨"TownBand$Rule", "allows", "()Z"⟩, 7), (⟨"TownBand$Rule", "work", "(I)V"⟩, 7), (⟨"TownBand$Rule", "push", "(I)V"⟩, 7), (⟨"TownBand$Rule", "pop", "()I"⟩, 7), (⟨"TownBand", "playablePieces", "()I"⟩, 8), (⟨"TownBandModel", "isPlayer", "(I)Z"⟩, 48), (⟨"TownBandModel", "isInstrument", "(I)Z"⟩, 48), (⟨"TownBandModel", "isPiece", "(I)Z"⟩, 48)]
theorem lw_r5 : ∀ q ∈ lw_privs_5, lw_okq q := List.forall_mem_cons.mpr ⟨lw_p64, List.forall_mem_cons.mpr ⟨lw_p65, List.forall_mem_cons.mpr ⟨lw_p66, List.forall_mem_cons.mpr ⟨lw_p67, List.forall_mem_cons.mpr ⟨lw_p68, List.forall_mem_cons.mpr ⟨lw_p69, List.forall_mem_cons.mpr ⟨lw_p70, List.forall_mem_cons.mpr ⟨lw_p71, List.forall_mem_cons.mpr ⟨lw_p72, List.forall_mem_cons.mpr ⟨lw_p73, List.forall_mem_cons.mpr ⟨lw_p74, List.forall_mem_cons.mpr ⟨lw_p75, List.forall_mem_cons.mpr ⟨lw_p76, List.forall_mem_cons.mpr ⟨lw_p77, List.forall_mem_cons.mpr ⟨lw_p78, List.forall_mem_cons.mpr ⟨lw_p79, fun _ h => absurd h List.not_mem_nil⟩⟩⟩⟩⟩⟩⟩⟩⟩⟩⟩⟩⟩⟩⟩⟩
theorem lw_p80 : lw_okq (⟨"TownBandModel", "lacking", "(I)I"⟩, 48) := ⟨⟨by decide +kernel, by decide +kernel⟩, List.mem_of_getElem? (i := 894) (by decide +kernel), List.mem_of_getElem? (i := 1083) (by decide +kernel), List.mem_of_getElem? (i := 1084) (by decide +kernel)⟩
theorem lw_p81 : lw_okq (⟨"TownBandModel", "costOf", "(III)I"⟩, 48) := ⟨⟨by decide +kernel, by decide +kernel⟩, List.mem_of_getElem? (i := 894) (by decide +kernel), List.mem_of_getElem? (i := 1087) (by decide +kernel), List.mem_of_getElem? (i := 1088) (by decide +kernel)⟩
theorem lw_p82 : lw_okq (⟨"TownBandModel", "ones", "(I)I"⟩, 48) := ⟨⟨by decide +kernel, by decide +kernel⟩, List.mem_of_getElem? (i := 894) (by decide +kernel), List.mem_of_getElem? (i := 1091) (by decide +kernel), List.mem_of_getElem? (i := 1092) (by decide +kernel)⟩
theorem lw_p83 : lw_okq (⟨"TownBandModel", "seats", "(IZ)I"⟩, 48) := ⟨⟨by decide +kernel, by decide +kernel⟩, List.mem_of_getElem? (i := 894) (by decide +kernel), List.mem_of_getElem? (i := 1103) (by decide +kernel), List.mem_of_getElem? (i := 1104) (by decide +kernel)⟩
theorem lw_p84 : lw_okq (⟨"TownBandModel", "finds", "(IZ)V"⟩, 48) := ⟨⟨by decide +kernel, by decide +kernel⟩, List.mem_of_getElem? (i := 894) (by decide +kernel), List.mem_of_getElem? (i := 1107) (by decide +kernel), List.mem_of_getElem? (i := 1108) (by decide +kernel)⟩
theorem lw_p85 : lw_okq (⟨"TownBandModel", "mayBe", "(III)Z"⟩, 48) := ⟨⟨by decide +kernel, by decide +kernel⟩, List.mem_of_getElem? (i := 894) (by decide +kernel), List.mem_of_getElem? (i := 1112) (by decide +kernel), List.mem_of_getElem? (i := 1113) (by decide +kernel)⟩
theorem lw_p86 : lw_okq (⟨"TownBandModel", "isMust", "(II)Z"⟩, 48) := ⟨⟨by decide +kernel, by decide +kernel⟩, List.mem_of_getElem? (i := 894) (by decide +kernel), List.mem_of_getElem? (i := 1116) (by decide +kernel), List.mem_of_getElem? (i := 1117) (by decide +kernel)⟩
theorem lw_p87 : lw_okq (⟨"TownBandModel", "counts", "(IIIZ)I"⟩, 48) := ⟨⟨by decide +kernel, by decide +kernel⟩, List.mem_of_getElem? (i := 894) (by decide +kernel), List.mem_of_getElem? (i := 1120) (by decide +kernel), List.mem_of_getElem? (i := 1121) (by decide +kernel)⟩
theorem lw_p88 : lw_okq (⟨"TownBandModel", "fits", "(IIIIZ)Z"⟩, 48) := ⟨⟨by decide +kernel, by decide +kernel⟩, List.mem_of_getElem? (i := 894) (by decide +kernel), List.mem_of_getElem? (i := 1124) (by decide +kernel), List.mem_of_getElem? (i := 1125) (by decide +kernel)⟩
theorem lw_p89 : lw_okq (⟨"TownBandModel", "isPart", "(II)Z"⟩, 48) := ⟨⟨by decide +kernel, by decide +kernel⟩, List.mem_of_getElem? (i := 894) (by decide +kernel), List.mem_of_getElem? (i := 1136) (by decide +kernel), List.mem_of_getElem? (i := 1137) (by decide +kernel)⟩
theorem lw_p90 : lw_okq (⟨"TownBandModel", "sumOf", "(I)I"⟩, 48) := ⟨⟨by decide +kernel, by decide +kernel⟩, List.mem_of_getElem? (i := 894) (by decide +kernel), List.mem_of_getElem? (i := 1152) (by decide +kernel), List.mem_of_getElem? (i := 1153) (by decide +kernel)⟩
theorem lw_p91 : lw_okq (⟨"TownBandModel", "goes", "(IIII)Z"⟩, 48) := ⟨⟨by decide +kernel, by decide +kernel⟩, List.mem_of_getElem? (i := 894) (by decide +kernel), List.mem_of_getElem? (i := 1156) (by decide +kernel), List.mem_of_getElem? (i := 1157) (by decide +kernel)⟩
theorem lw_p92 : lw_okq (⟨"TownBandModel", "strainOf", "(II)I"⟩, 48) := ⟨⟨by decide +kernel, by decide +kernel⟩, List.mem_of_getElem? (i := 894) (by decide +kernel), List.mem_of_getElem? (i := 1160) (by decide +kernel), List.mem_of_getElem? (i := 1161) (by decide +kernel)⟩
theorem lw_p93 : lw_okq (⟨"TownBandModel", "isDay", "(I)Z"⟩, 48) := ⟨⟨by decide +kernel, by decide +kernel⟩, List.mem_of_getElem? (i := 894) (by decide +kernel), List.mem_of_getElem? (i := 1176) (by decide +kernel), List.mem_of_getElem? (i := 1177) (by decide +kernel)⟩
theorem lw_p94 : lw_okq (⟨"TownBandModel", "isThere", "(I)Z"⟩, 48) := ⟨⟨by decide +kernel, by decide +kernel⟩, List.mem_of_getElem? (i := 894) (by decide +kernel), List.mem_of_getElem? (i := 1180) (by decide +kernel), List.mem_of_getElem? (i := 1181) (by decide +kernel)⟩
theorem lw_p95 : lw_okq (⟨"TownBandModel", "whereIs", "(III)I"⟩, 48) := ⟨⟨by decide +kernel, by decide +kernel⟩, List.mem_of_getElem? (i := 894) (by decide +kernel), List.mem_of_getElem? (i := 1188) (by decide +kernel), List.mem_of_getElem? (i := 1189) (by decide +kernel)⟩
def lw_privs_6 : List (MethodName × Nat) := [(⟨"TownBandModel", "lacking", "(I)I"⟩, 48), (⟨"TownBandModel", "costOf", "(III)I"⟩, 48), (⟨"TownBandModel", "ones", "(I)I"⟩, 48), (⟨"TownBandModel", "seats", "(IZ)I"⟩, 48), (⟨"TownBandModel", "finds", "(IZ)V"⟩, 48), (⟨"TownBandModel", "mayBe", "(III)Z"⟩, 48), (⟨"TownBandModel", "isMust", "(II)Z"⟩, 48), (⟨"TownBandModel", "counts", "(IIIZ)I"⟩, 48), (⟨"TownBandModel", "fits", "(IIIIZ)Z"⟩, 48), (⟨"TownBandModel", "isPart", "(II)Z"⟩, 48), (⟨"TownBandModel", "sumOf", "(I)I"⟩, 48), (⟨"TownBandModel", "goes", "(IIII)Z"⟩, 48), (⟨"TownBandModel", "strainOf", "(II)I"⟩, 48), (⟨"TownBandModel", "isDay", "(I)Z"⟩, 48), (⟨"TownBandModel", "isThere", "(I)Z"⟩, 48), (⟨"TownBandModel", "whereIs", "(III)I"⟩, 48)]
theorem lw_r6 : ∀ q ∈ lw_privs_6, lw_okq q := List.forall_mem_cons.mpr ⟨lw_p80, List.forall_mem_cons.mpr ⟨lw_p81, List.forall_mem_cons.mpr ⟨lw_p82, List.forall_mem_cons.mpr ⟨lw_p83, List.forall_mem_cons.mpr ⟨lw_p84, List.forall_mem_cons.mpr ⟨lw_p85, List.forall_mem_cons.mpr ⟨lw_p86, List.forall_mem_cons.mpr ⟨lw_p87, List.forall_mem_cons.mpr ⟨lw_p88, List.forall_mem_cons.mpr ⟨lw_p89, List.forall_mem_cons.mpr ⟨lw_p90, List.forall_mem_cons.mpr ⟨lw_p91, List.forall_mem_cons.mpr ⟨lw_p92, List.forall_mem_cons.mpr ⟨lw_p93, List.forall_mem_cons.mpr ⟨lw_p94, List.forall_mem_cons.mpr ⟨lw_p95, fun _ h => absurd h List.not_mem_nil⟩⟩⟩⟩⟩⟩⟩⟩⟩⟩⟩⟩⟩⟩⟩⟩
theorem lw_p96 : lw_okq (⟨"TownBandModel", "copiesAt", "(III)I"⟩, 48) := ⟨⟨by decide +kernel, by decide +kernel⟩, List.mem_of_getElem? (i := 894) (by decide +kernel), List.mem_of_getElem? (i := 1196) (by decide +kernel), List.mem_of_getElem? (i := 1197) (by decide +kernel)⟩
theorem lw_p97 : lw_okq (⟨"TownBandModel", "lay", "(I)V"⟩, 48) := ⟨⟨by decide +kernel, by decide +kernel⟩, List.mem_of_getElem? (i := 894) (by decide +kernel), List.mem_of_getElem? (i := 1212) (by decide +kernel), List.mem_of_getElem? (i := 1213) (by decide +kernel)⟩
theorem lw_p98 : lw_okq (⟨"TownBandModel", "readText", "()Z"⟩, 48) := ⟨⟨by decide +kernel, by decide +kernel⟩, List.mem_of_getElem? (i := 894) (by decide +kernel), List.mem_of_getElem? (i := 1228) (by decide +kernel), List.mem_of_getElem? (i := 1229) (by decide +kernel)⟩
theorem lw_p99 : lw_okq (⟨"TownBandModel", "next", "(Z)V"⟩, 48) := ⟨⟨by decide +kernel, by decide +kernel⟩, List.mem_of_getElem? (i := 894) (by decide +kernel), List.mem_of_getElem? (i := 1232) (by decide +kernel), List.mem_of_getElem? (i := 1233) (by decide +kernel)⟩
theorem lw_p100 : lw_okq (⟨"TownBandModel", "raw", "()I"⟩, 48) := ⟨⟨by decide +kernel, by decide +kernel⟩, List.mem_of_getElem? (i := 894) (by decide +kernel), List.mem_of_getElem? (i := 1236) (by decide +kernel), List.mem_of_getElem? (i := 1237) (by decide +kernel)⟩
theorem lw_p101 : lw_okq (⟨"TownBandModel", "isSmall", "(I)Z"⟩, 48) := ⟨⟨by decide +kernel, by decide +kernel⟩, List.mem_of_getElem? (i := 894) (by decide +kernel), List.mem_of_getElem? (i := 1240) (by decide +kernel), List.mem_of_getElem? (i := 1241) (by decide +kernel)⟩
theorem lw_p102 : lw_okq (⟨"TownBandModel", "isWordOf", "(Z)Z"⟩, 48) := ⟨⟨by decide +kernel, by decide +kernel⟩, List.mem_of_getElem? (i := 894) (by decide +kernel), List.mem_of_getElem? (i := 1244) (by decide +kernel), List.mem_of_getElem? (i := 1245) (by decide +kernel)⟩
theorem lw_p103 : lw_okq (⟨"TownBandModel", "word", "(IIIII)J"⟩, 48) := ⟨⟨by decide +kernel, by decide +kernel⟩, List.mem_of_getElem? (i := 894) (by decide +kernel), List.mem_of_getElem? (i := 1248) (by decide +kernel), List.mem_of_getElem? (i := 1249) (by decide +kernel)⟩
theorem lw_p104 : lw_okq (⟨"TownBandModel", "isDigit", "(I)Z"⟩, 48) := ⟨⟨by decide +kernel, by decide +kernel⟩, List.mem_of_getElem? (i := 894) (by decide +kernel), List.mem_of_getElem? (i := 1252) (by decide +kernel), List.mem_of_getElem? (i := 1253) (by decide +kernel)⟩
theorem lw_p105 : lw_okq (⟨"TownBandModel", "isSignOf", "(IZ)Z"⟩, 48) := ⟨⟨by decide +kernel, by decide +kernel⟩, List.mem_of_getElem? (i := 894) (by decide +kernel), List.mem_of_getElem? (i := 1256) (by decide +kernel), List.mem_of_getElem? (i := 1257) (by decide +kernel)⟩
theorem lw_p106 : lw_okq (⟨"TownBandModel", "isWord", "(IIIII)Z"⟩, 48) := ⟨⟨by decide +kernel, by decide +kernel⟩, List.mem_of_getElem? (i := 894) (by decide +kernel), List.mem_of_getElem? (i := 1260) (by decide +kernel), List.mem_of_getElem? (i := 1261) (by decide +kernel)⟩
theorem lw_p107 : lw_okq (⟨"TownBandModel", "readPiece", "()Z"⟩, 48) := ⟨⟨by decide +kernel, by decide +kernel⟩, List.mem_of_getElem? (i := 894) (by decide +kernel), List.mem_of_getElem? (i := 1264) (by decide +kernel), List.mem_of_getElem? (i := 1265) (by decide +kernel)⟩
theorem lw_p108 : lw_okq (⟨"TownBandModel", "fails", "(I)Z"⟩, 48) := ⟨⟨by decide +kernel, by decide +kernel⟩, List.mem_of_getElem? (i := 894) (by decide +kernel), List.mem_of_getElem? (i := 1268) (by decide +kernel), List.mem_of_getElem? (i := 1269) (by decide +kernel)⟩
theorem lw_p109 : lw_okq (⟨"TownBandModel", "isSign", "(I)Z"⟩, 48) := ⟨⟨by decide +kernel, by decide +kernel⟩, List.mem_of_getElem? (i := 894) (by decide +kernel), List.mem_of_getElem? (i := 1272) (by decide +kernel), List.mem_of_getElem? (i := 1273) (by decide +kernel)⟩
theorem lw_p110 : lw_okq (⟨"TownBandModel", "takes", "(II)Z"⟩, 48) := ⟨⟨by decide +kernel, by decide +kernel⟩, List.mem_of_getElem? (i := 894) (by decide +kernel), List.mem_of_getElem? (i := 1276) (by decide +kernel), List.mem_of_getElem? (i := 1277) (by decide +kernel)⟩
theorem lw_p111 : lw_okq (⟨"TownBandModel", "readPart", "(I)Z"⟩, 48) := ⟨⟨by decide +kernel, by decide +kernel⟩, List.mem_of_getElem? (i := 894) (by decide +kernel), List.mem_of_getElem? (i := 1280) (by decide +kernel), List.mem_of_getElem? (i := 1281) (by decide +kernel)⟩
def lw_privs_7 : List (MethodName × Nat) := [(⟨"TownBandModel", "copiesAt", "(III)I"⟩, 48), (⟨"TownBandModel", "lay", "(I)V"⟩, 48), (⟨"TownBandModel", "readText", "()Z"⟩, 48), (⟨"TownBandModel", "next", "(Z)V"⟩, 48), (⟨"TownBandModel", "raw", "()I"⟩, 48), (⟨"TownBandModel", "isSmall", "(I)Z"⟩, 48), (⟨"TownBandModel", "isWordOf", "(Z)Z"⟩, 48), (⟨"TownBandModel", "word", "(IIIII)J"⟩, 48), (⟨"TownBandModel", "isDigit", "(I)Z"⟩, 48), (⟨"TownBandModel", "isSignOf", "(IZ)Z"⟩, 48), (⟨"TownBandModel", "isWord", "(IIIII)Z"⟩, 48), (⟨"TownBandModel", "readPiece", "()Z"⟩, 48), (⟨"TownBandModel", "fails", "(I)Z"⟩, 48), (⟨"TownBandModel", "isSign", "(I)Z"⟩, 48), (⟨"TownBandModel", "takes", "(II)Z"⟩, 48), (⟨"TownBandModel", "readPart", "(I)Z"⟩, 48)]
theorem lw_r7 : ∀ q ∈ lw_privs_7, lw_okq q := List.forall_mem_cons.mpr ⟨lw_p96, List.forall_mem_cons.mpr ⟨lw_p97, List.forall_mem_cons.mpr ⟨lw_p98, List.forall_mem_cons.mpr ⟨lw_p99, List.forall_mem_cons.mpr ⟨lw_p100, List.forall_mem_cons.mpr ⟨lw_p101, List.forall_mem_cons.mpr ⟨lw_p102, List.forall_mem_cons.mpr ⟨lw_p103, List.forall_mem_cons.mpr ⟨lw_p104, List.forall_mem_cons.mpr ⟨lw_p105, List.forall_mem_cons.mpr ⟨lw_p106, List.forall_mem_cons.mpr ⟨lw_p107, List.forall_mem_cons.mpr ⟨lw_p108, List.forall_mem_cons.mpr ⟨lw_p109, List.forall_mem_cons.mpr ⟨lw_p110, List.forall_mem_cons.mpr ⟨lw_p111, fun _ h => absurd h List.not_mem_nil⟩⟩⟩⟩⟩⟩⟩⟩⟩⟩⟩⟩⟩⟩⟩⟩
theorem lw_p112 : lw_okq (⟨"TownBandModel", "readRule", "()Z"⟩, 48) := ⟨⟨by decide +kernel, by decide +kernel⟩, List.mem_of_getElem? (i := 894) (by decide +kernel), List.mem_of_getElem? (i := 1288) (by decide +kernel), List.mem_of_getElem? (i := 1289) (by decide +kernel)⟩
theorem lw_p113 : lw_okq (⟨"TownBandModel", "open", "()I"⟩, 48) := ⟨⟨by decide +kernel, by decide +kernel⟩, List.mem_of_getElem? (i := 894) (by decide +kernel), List.mem_of_getElem? (i := 1292) (by decide +kernel), List.mem_of_getElem? (i := 1293) (by decide +kernel)⟩
theorem lw_p114 : lw_okq (⟨"TownBandModel", "step", "()V"⟩, 48) := ⟨⟨by decide +kernel, by decide +kernel⟩, List.mem_of_getElem? (i := 894) (by decide +kernel), List.mem_of_getElem? (i := 1296) (by decide +kernel), List.mem_of_getElem? (i := 1297) (by decide +kernel)⟩
theorem lw_p115 : lw_okq (⟨"TownBandModel", "readSums", "()Z"⟩, 48) := ⟨⟨by decide +kernel, by decide +kernel⟩, List.mem_of_getElem? (i := 894) (by decide +kernel), List.mem_of_getElem? (i := 1300) (by decide +kernel), List.mem_of_getElem? (i := 1301) (by decide +kernel)⟩
theorem lw_p116 : lw_okq (⟨"TownBandModel", "value", "()Z"⟩, 48) := ⟨⟨by decide +kernel, by decide +kernel⟩, List.mem_of_getElem? (i := 894) (by decide +kernel), List.mem_of_getElem? (i := 1304) (by decide +kernel), List.mem_of_getElem? (i := 1305) (by decide +kernel)⟩
theorem lw_p117 : lw_okq (⟨"TownBandModel", "does", "(II)V"⟩, 48) := ⟨⟨by decide +kernel, by decide +kernel⟩, List.mem_of_getElem? (i := 894) (by decide +kernel), List.mem_of_getElem? (i := 1308) (by decide +kernel), List.mem_of_getElem? (i := 1309) (by decide +kernel)⟩
theorem lw_p118 : lw_okq (⟨"TownBandModel", "settles", "(I)V"⟩, 48) := ⟨⟨by decide +kernel, by decide +kernel⟩, List.mem_of_getElem? (i := 894) (by decide +kernel), List.mem_of_getElem? (i := 1312) (by decide +kernel), List.mem_of_getElem? (i := 1313) (by decide +kernel)⟩
theorem lw_p119 : lw_okq (⟨"TownBandModel", "rank", "(I)I"⟩, 48) := ⟨⟨by decide +kernel, by decide +kernel⟩, List.mem_of_getElem? (i := 894) (by decide +kernel), List.mem_of_getElem? (i := 1316) (by decide +kernel), List.mem_of_getElem? (i := 1317) (by decide +kernel)⟩
theorem lw_p120 : lw_okq (⟨"TownBandModel", "done", "(III)I"⟩, 48) := ⟨⟨by decide +kernel, by decide +kernel⟩, List.mem_of_getElem? (i := 894) (by decide +kernel), List.mem_of_getElem? (i := 1324) (by decide +kernel), List.mem_of_getElem? (i := 1325) (by decide +kernel)⟩
def lw_privs_8 : List (MethodName × Nat) := [(⟨"TownBandModel", "readRule", "()Z"⟩, 48), (⟨"TownBandModel", "open", "()I"⟩, 48), (⟨"TownBandModel", "step", "()V"⟩, 48), (⟨"TownBandModel", "readSums", "()Z"⟩, 48), (⟨"TownBandModel", "value", "()Z"⟩, 48), (⟨"TownBandModel", "does", "(II)V"⟩, 48), (⟨"TownBandModel", "settles", "(I)V"⟩, 48), (⟨"TownBandModel", "rank", "(I)I"⟩, 48), (⟨"TownBandModel", "done", "(III)I"⟩, 48)]
theorem lw_r8 : ∀ q ∈ lw_privs_8, lw_okq q := List.forall_mem_cons.mpr ⟨lw_p112, List.forall_mem_cons.mpr ⟨lw_p113, List.forall_mem_cons.mpr ⟨lw_p114, List.forall_mem_cons.mpr ⟨lw_p115, List.forall_mem_cons.mpr ⟨lw_p116, List.forall_mem_cons.mpr ⟨lw_p117, List.forall_mem_cons.mpr ⟨lw_p118, List.forall_mem_cons.mpr ⟨lw_p119, List.forall_mem_cons.mpr ⟨lw_p120, fun _ h => absurd h List.not_mem_nil⟩⟩⟩⟩⟩⟩⟩⟩⟩
def lw_privs : List (MethodName × Nat) := lw_privs_1 ++ (lw_privs_2 ++ (lw_privs_3 ++ (lw_privs_4 ++ (lw_privs_5 ++ (lw_privs_6 ++ (lw_privs_7 ++ (lw_privs_8)))))))
def lw_tbl : List Cond := k2_sels lw_privs ++ tables_1
theorem lw_privs_ok : ∀ q ∈ lw_privs, lw_okq q := by
  show ∀ q ∈ lw_privs_1 ++ (lw_privs_2 ++ (lw_privs_3 ++ (lw_privs_4 ++ (lw_privs_5 ++ (lw_privs_6 ++ (lw_privs_7 ++ (lw_privs_8))))))), lw_okq q
  exact List.forall_mem_append.mpr ⟨lw_r1, List.forall_mem_append.mpr ⟨lw_r2, List.forall_mem_append.mpr ⟨lw_r3, List.forall_mem_append.mpr ⟨lw_r4, List.forall_mem_append.mpr ⟨lw_r5, List.forall_mem_append.mpr ⟨lw_r6, List.forall_mem_append.mpr ⟨lw_r7, lw_r8⟩⟩⟩⟩⟩⟩⟩
end
section
def R_Cover : String := "TownBand$Cover"
def F_Cover : u_T := fun k => match k with
  | 0 => ("TownBand$Cover", "able", "[I", true)
  | 1 => ("TownBand$Cover", "partOf", "[I", true)
  | 2 => ("TownBand$Cover", "ableForSet", "[I", true)
  | _ => ("TownBand$Cover", "asked", "I", false)
def t_Cover : Nat → FieldType := fun k => match k with
  | 0 => .array .int
  | 1 => .array .int
  | 2 => .array .int
  | _ => .int
theorem n_Cover : ∀ a, a < 4 → ∀ b, b < 4 → a ≠ b → (F_Cover a).2.1 ≠ (F_Cover b).2.1 := by decide +kernel
theorem t_Cover_ok : ∀ k, k < 4 → parseFieldDescriptor (F_Cover k).2.2.1 = some (t_Cover k) := by decide +kernel
def R_Library : String := "TownBand$Library"
def F_Library : u_T := fun k => match k with
  | 0 => ("TownBand$Library", "slots", "[LTownBand$Piece;", true)
  | 1 => ("TownBand$Library", "size", "I", false)
  | _ => ("TownBand$Library", "told", "I", false)
def t_Library : Nat → FieldType := fun k => match k with
  | 0 => .array (.object "TownBand$Piece")
  | 1 => .int
  | _ => .int
theorem n_Library : ∀ a, a < 3 → ∀ b, b < 3 → a ≠ b → (F_Library a).2.1 ≠ (F_Library b).2.1 := by decide +kernel
theorem t_Library_ok : ∀ k, k < 3 → parseFieldDescriptor (F_Library k).2.2.1 = some (t_Library k) := by decide +kernel
def R_Loans : String := "TownBand$Loans"
def F_Loans : u_T := fun k => match k with
  | 0 => ("TownBand$Loans", "copyOf", "[I", true)
  | 1 => ("TownBand$Loans", "dayOf", "[I", true)
  | 2 => ("TownBand$Loans", "thereOf", "[I", true)
  | 3 => ("TownBand$Loans", "latestDay", "[I", true)
  | 4 => ("TownBand$Loans", "latestPlace", "[I", true)
  | _ => ("TownBand$Loans", "size", "I", false)
def t_Loans : Nat → FieldType := fun k => match k with
  | 0 => .array .int
  | 1 => .array .int
  | 2 => .array .int
  | 3 => .array .int
  | 4 => .array .int
  | _ => .int
theorem n_Loans : ∀ a, a < 6 → ∀ b, b < 6 → a ≠ b → (F_Loans a).2.1 ≠ (F_Loans b).2.1 := by decide +kernel
theorem t_Loans_ok : ∀ k, k < 6 → parseFieldDescriptor (F_Loans k).2.2.1 = some (t_Loans k) := by decide +kernel
def R_Piece : String := "TownBand$Piece"
def F_Piece : u_T := fun k => match k with
  | 0 => ("TownBand$Piece", "choices", "[I", true)
  | 1 => ("TownBand$Piece", "instruments", "[I", true)
  | 2 => ("TownBand$Piece", "chairs", "[I", true)
  | 3 => ("TownBand$Piece", "name", "I", false)
  | 4 => ("TownBand$Piece", "minutes", "I", false)
  | 5 => ("TownBand$Piece", "lips", "I", false)
  | 6 => ("TownBand$Piece", "key", "I", false)
  | 7 => ("TownBand$Piece", "parts", "I", false)
  | _ => ("TownBand$Piece", "mustSet", "I", false)
def t_Piece : Nat → FieldType := fun k => match k with
  | 0 => .array .int
  | 1 => .array .int
  | 2 => .array .int
  | 3 => .int
  | 4 => .int
  | 5 => .int
  | 6 => .int
  | 7 => .int
  | _ => .int
theorem n_Piece : ∀ a, a < 9 → ∀ b, b < 9 → a ≠ b → (F_Piece a).2.1 ≠ (F_Piece b).2.1 := by decide +kernel
theorem t_Piece_ok : ∀ k, k < 9 → parseFieldDescriptor (F_Piece k).2.2.1 = some (t_Piece k) := by decide +kernel
def R_Planner : String := "TownBand$Planner"
def F_Planner : u_T := fun k => match k with
  | 0 => ("TownBand$Planner", "row", "[I", true)
  | 1 => ("TownBand$Planner", "planned", "I", false)
  | 2 => ("TownBand$Planner", "rowStrain", "I", false)
  | 3 => ("TownBand$Planner", "number", "[I", true)
  | 4 => ("TownBand$Planner", "minutes", "[I", true)
  | 5 => ("TownBand$Planner", "lips", "[I", true)
  | 6 => ("TownBand$Planner", "key", "[I", true)
  | 7 => ("TownBand$Planner", "choices", "I", false)
  | _ => ("TownBand$Planner", "best", "[J", false)
def t_Planner : Nat → FieldType := fun k => match k with
  | 0 => .array .int
  | 1 => .int
  | 2 => .int
  | 3 => .array .int
  | 4 => .array .int
  | 5 => .array .int
  | 6 => .array .int
  | 7 => .int
  | _ => .array .long
theorem n_Planner : ∀ a, a < 9 → ∀ b, b < 9 → a ≠ b → (F_Planner a).2.1 ≠ (F_Planner b).2.1 := by decide +kernel
theorem t_Planner_ok : ∀ k, k < 9 → parseFieldDescriptor (F_Planner k).2.2.1 = some (t_Planner k) := by decide +kernel
def R_Players : String := "TownBand$Players"
def F_Players : u_T := fun k => match k with
  | 0 => ("TownBand$Players", "ages", "[I", true)
  | 1 => ("TownBand$Players", "joinedDays", "[I", true)
  | 2 => ("TownBand$Players", "contests", "[I", true)
  | 3 => ("TownBand$Players", "costs", "[I", true)
  | 4 => ("TownBand$Players", "size", "I", false)
  | _ => ("TownBand$Players", "present", "I", false)
def t_Players : Nat → FieldType := fun k => match k with
  | 0 => .array .int
  | 1 => .array .int
  | 2 => .array .int
  | 3 => .array .int
  | 4 => .int
  | _ => .int
theorem n_Players : ∀ a, a < 6 → ∀ b, b < 6 → a ≠ b → (F_Players a).2.1 ≠ (F_Players b).2.1 := by decide +kernel
theorem t_Players_ok : ∀ k, k < 6 → parseFieldDescriptor (F_Players k).2.2.1 = some (t_Players k) := by decide +kernel
def R_Rule : String := "TownBand$Rule"
def F_Rule : u_T := fun k => match k with
  | 0 => ("TownBand$Rule", "facts", "[I", true)
  | 1 => ("TownBand$Rule", "stack", "[I", true)
  | 2 => ("TownBand$Rule", "steps", "[I", false)
  | 3 => ("TownBand$Rule", "draft", "[I", false)
  | 4 => ("TownBand$Rule", "size", "I", false)
  | 5 => ("TownBand$Rule", "drafted", "I", false)
  | _ => ("TownBand$Rule", "top", "I", false)
def t_Rule : Nat → FieldType := fun k => match k with
  | 0 => .array .int
  | 1 => .array .int
  | 2 => .array .int
  | 3 => .array .int
  | 4 => .int
  | 5 => .int
  | _ => .int
theorem n_Rule : ∀ a, a < 7 → ∀ b, b < 7 → a ≠ b → (F_Rule a).2.1 ≠ (F_Rule b).2.1 := by decide +kernel
theorem t_Rule_ok : ∀ k, k < 7 → parseFieldDescriptor (F_Rule k).2.2.1 = some (t_Rule k) := by decide +kernel
def R_Seater : String := "TownBand$Seater"
def F_Seater : u_T := fun k => match k with
  | 0 => ("TownBand$Seater", "weights", "[J", true)
  | 1 => ("TownBand$Seater", "rowPrice", "[J", true)
  | 2 => ("TownBand$Seater", "columnPrice", "[J", true)
  | 3 => ("TownBand$Seater", "slack", "[J", true)
  | 4 => ("TownBand$Seater", "rowOf", "[I", true)
  | 5 => ("TownBand$Seater", "cameFrom", "[I", true)
  | _ => ("TownBand$Seater", "columns", "I", false)
def t_Seater : Nat → FieldType := fun k => match k with
  | 0 => .array .long
  | 1 => .array .long
  | 2 => .array .long
  | 3 => .array .long
  | 4 => .array .int
  | 5 => .array .int
  | _ => .int
theorem n_Seater : ∀ a, a < 7 → ∀ b, b < 7 → a ≠ b → (F_Seater a).2.1 ≠ (F_Seater b).2.1 := by decide +kernel
theorem t_Seater_ok : ∀ k, k < 7 → parseFieldDescriptor (F_Seater k).2.2.1 = some (t_Seater k) := by decide +kernel
def R_Tape : String := "TownBand$Tape"
def F_Tape : u_T := fun k => match k with
  | 0 => ("TownBand$Tape", "bytes", "[I", true)
  | 1 => ("TownBand$Tape", "length", "I", false)
  | 2 => ("TownBand$Tape", "longestNumber", "I", false)
  | 3 => ("TownBand$Tape", "next", "I", false)
  | 4 => ("TownBand$Tape", "kind", "I", false)
  | 5 => ("TownBand$Tape", "place", "I", false)
  | 6 => ("TownBand$Tape", "value", "I", false)
  | 7 => ("TownBand$Tape", "tokens", "I", false)
  | 8 => ("TownBand$Tape", "faultKind", "I", false)
  | _ => ("TownBand$Tape", "faultPlace", "I", false)
def t_Tape : Nat → FieldType := fun k => match k with
  | 0 => .array .int
  | 1 => .int
  | 2 => .int
  | 3 => .int
  | 4 => .int
  | 5 => .int
  | 6 => .int
  | 7 => .int
  | 8 => .int
  | _ => .int
theorem n_Tape : ∀ a, a < 10 → ∀ b, b < 10 → a ≠ b → (F_Tape a).2.1 ≠ (F_Tape b).2.1 := by decide +kernel
theorem t_Tape_ok : ∀ k, k < 10 → parseFieldDescriptor (F_Tape k).2.2.1 = some (t_Tape k) := by decide +kernel
def R_Band : String := "TownBand"
def F_Band : u_T := fun k => match k with
  | 0 => ("TownBand", "players", "LTownBand$Players;", true)
  | 1 => ("TownBand", "library", "LTownBand$Library;", true)
  | 2 => ("TownBand", "tape", "LTownBand$Tape;", true)
  | 3 => ("TownBand", "contestRule", "LTownBand$Rule;", true)
  | 4 => ("TownBand", "loans", "LTownBand$Loans;", true)
  | 5 => ("TownBand", "cover", "LTownBand$Cover;", true)
  | 6 => ("TownBand", "seater", "LTownBand$Seater;", true)
  | _ => ("TownBand", "planner", "LTownBand$Planner;", true)
def t_Band : Nat → FieldType := fun k => match k with
  | 0 => .object "TownBand$Players"
  | 1 => .object "TownBand$Library"
  | 2 => .object "TownBand$Tape"
  | 3 => .object "TownBand$Rule"
  | 4 => .object "TownBand$Loans"
  | 5 => .object "TownBand$Cover"
  | 6 => .object "TownBand$Seater"
  | _ => .object "TownBand$Planner"
theorem n_Band : ∀ a, a < 8 → ∀ b, b < 8 → a ≠ b → (F_Band a).2.1 ≠ (F_Band b).2.1 := by decide +kernel
theorem t_Band_ok : ∀ k, k < 8 → parseFieldDescriptor (F_Band k).2.2.1 = some (t_Band k) := by decide +kernel
def R_Model : String := "TownBandModel"
def F_Model : u_T := fun k => match k with
  | 0 => ("TownBandModel", "told", "I", false)
  | 1 => ("TownBandModel", "players", "I", false)
  | 2 => ("TownBandModel", "age", "[I", true)
  | 3 => ("TownBandModel", "joined", "[I", true)
  | 4 => ("TownBandModel", "past", "[I", true)
  | 5 => ("TownBandModel", "isHere", "[Z", true)
  | 6 => ("TownBandModel", "costs", "[I", true)
  | 7 => ("TownBandModel", "pieces", "I", false)
  | 8 => ("TownBandModel", "name", "[J", true)
  | 9 => ("TownBandModel", "minutes", "[I", true)
  | 10 => ("TownBandModel", "lips", "[I", true)
  | 11 => ("TownBandModel", "key", "[I", true)
  | 12 => ("TownBandModel", "parts", "[I", true)
  | 13 => ("TownBandModel", "must", "[I", true)
  | 14 => ("TownBandModel", "many", "[I", true)
  | 15 => ("TownBandModel", "which", "[I", true)
  | 16 => ("TownBandModel", "chairs", "[I", true)
  | 17 => ("TownBandModel", "best", "[I", true)
  | 18 => ("TownBandModel", "planLong", "I", false)
  | 19 => ("TownBandModel", "planStrain", "I", false)
  | 20 => ("TownBandModel", "plan", "[I", true)
  | 21 => ("TownBandModel", "left", "[I", true)
  | 22 => ("TownBandModel", "can", "[Z", true)
  | 23 => ("TownBandModel", "isGood", "[Z", true)
  | 24 => ("TownBandModel", "words", "I", false)
  | 25 => ("TownBandModel", "wordCopy", "[I", true)
  | 26 => ("TownBandModel", "wordDay", "[I", true)
  | 27 => ("TownBandModel", "wordThere", "[I", true)
  | 28 => ("TownBandModel", "tape", "[I", true)
  | 29 => ("TownBandModel", "taped", "I", false)
  | 30 => ("TownBandModel", "reads", "I", false)
  | 31 => ("TownBandModel", "from", "I", false)
  | 32 => ("TownBandModel", "token", "I", false)
  | 33 => ("TownBandModel", "number", "I", false)
  | 34 => ("TownBandModel", "letters", "J", false)
  | 35 => ("TownBandModel", "faultKind", "I", false)
  | 36 => ("TownBandModel", "faultPlace", "I", false)
  | 37 => ("TownBandModel", "newPieces", "I", false)
  | 38 => ("TownBandModel", "acts", "I", false)
  | 39 => ("TownBandModel", "act", "[I", true)
  | 40 => ("TownBandModel", "worth", "[I", true)
  | 41 => ("TownBandModel", "newActs", "I", false)
  | 42 => ("TownBandModel", "newAct", "[I", true)
  | 43 => ("TownBandModel", "newWorth", "[I", true)
  | 44 => ("TownBandModel", "waiting", "I", false)
  | 45 => ("TownBandModel", "waits", "[I", true)
  | 46 => ("TownBandModel", "pile", "[I", true)
  | _ => ("TownBandModel", "tokens", "I", false)
def t_Model : Nat → FieldType := fun k => match k with
  | 0 => .int
  | 1 => .int
  | 2 => .array .int
  | 3 => .array .int
  | 4 => .array .int
  | 5 => .array .boolean
  | 6 => .array .int
  | 7 => .int
  | 8 => .array .long
  | 9 => .array .int
  | 10 => .array .int
  | 11 => .array .int
  | 12 => .array .int
  | 13 => .array .int
  | 14 => .array .int
  | 15 => .array .int
  | 16 => .array .int
  | 17 => .array .int
  | 18 => .int
  | 19 => .int
  | 20 => .array .int
  | 21 => .array .int
  | 22 => .array .boolean
  | 23 => .array .boolean
  | 24 => .int
  | 25 => .array .int
  | 26 => .array .int
  | 27 => .array .int
  | 28 => .array .int
  | 29 => .int
  | 30 => .int
  | 31 => .int
  | 32 => .int
  | 33 => .int
  | 34 => .long
  | 35 => .int
  | 36 => .int
  | 37 => .int
  | 38 => .int
  | 39 => .array .int
  | 40 => .array .int
  | 41 => .int
  | 42 => .array .int
  | 43 => .array .int
  | 44 => .int
  | 45 => .array .int
  | 46 => .array .int
  | _ => .int
theorem n_Model : ∀ a, a < 48 → ∀ b, b < 48 → a ≠ b → (F_Model a).2.1 ≠ (F_Model b).2.1 := by decide +kernel
theorem t_Model_ok : ∀ k, k < 48 → parseFieldDescriptor (F_Model k).2.2.1 = some (t_Model k) := by decide +kernel
def R_Integer : String := "java/lang/Integer"
def R_Math : String := "java/lang/Math"
def R_String : String := "java/lang/String"
def R_Latin : String := "java/lang/StringLatin1"
def R_Utf : String := "java/lang/StringUTF16"
def R_Arrays : String := "java/util/Arrays"
def R_Pre : String := "jdk/internal/util/Preconditions"
def R_Law : String := "TownBandLaw"
abbrev b_Cover_init : ByteArray := prog_2_method_1_code
def y_Cover_init : MethodName := ⟨R_Cover, "<init>", "()V"⟩
abbrev b_Cover_coversMust : ByteArray := prog_2_method_2_code
def y_Cover_coversMust : MethodName := ⟨R_Cover, "coversMust", "(LTownBand$Piece;LTownBand$Players;)Z"⟩
abbrev b_Cover_findAble : ByteArray := prog_2_method_3_code
def y_Cover_findAble : MethodName := ⟨R_Cover, "findAble", "(LTownBand$Piece;LTownBand$Players;)V"⟩
abbrev b_Cover_findPlayer : ByteArray := prog_2_method_4_code
def y_Cover_findPlayer : MethodName := ⟨R_Cover, "findPlayer", "(II)Z"⟩
abbrev b_Cover_leastLack : ByteArray := prog_2_method_5_code
def y_Cover_leastLack : MethodName := ⟨R_Cover, "leastLack", "(LTownBand$Piece;LTownBand$Players;)I"⟩
abbrev b_Library_init : ByteArray := prog_3_method_1_code
def y_Library_init : MethodName := ⟨R_Library, "<init>", "()V"⟩
abbrev b_Library_find : ByteArray := prog_3_method_2_code
def y_Library_find : MethodName := ⟨R_Library, "find", "(I)LTownBand$Piece;"⟩
abbrev b_Library_readText : ByteArray := prog_3_method_3_code
def y_Library_readText : MethodName := ⟨R_Library, "readText", "(LTownBand$Tape;)Z"⟩
abbrev b_Library_readPiece : ByteArray := prog_3_method_4_code
def y_Library_readPiece : MethodName := ⟨R_Library, "readPiece", "(LTownBand$Tape;)V"⟩
abbrev b_Library_readName : ByteArray := prog_3_method_5_code
def y_Library_readName : MethodName := ⟨R_Library, "readName", "(LTownBand$Tape;)I"⟩
abbrev b_Library_isWord : ByteArray := prog_3_method_6_code
def y_Library_isWord : MethodName := ⟨R_Library, "isWord", "(LTownBand$Tape;)Z"⟩
abbrev b_Library_hasName : ByteArray := prog_3_method_7_code
def y_Library_hasName : MethodName := ⟨R_Library, "hasName", "(I)Z"⟩
abbrev b_Library_readNumber : ByteArray := prog_3_method_8_code
def y_Library_readNumber : MethodName := ⟨R_Library, "readNumber", "(LTownBand$Tape;II)I"⟩
abbrev b_Library_readPart : ByteArray := prog_3_method_9_code
def y_Library_readPart : MethodName := ⟨R_Library, "readPart", "(LTownBand$Tape;LTownBand$Piece;)V"⟩
abbrev b_Library_readInstrument : ByteArray := prog_3_method_10_code
def y_Library_readInstrument : MethodName := ⟨R_Library, "readInstrument", "(LTownBand$Tape;LTownBand$Piece;I)V"⟩
abbrev b_Loans_init : ByteArray := prog_4_method_1_code
def y_Loans_init : MethodName := ⟨R_Loans, "<init>", "()V"⟩
abbrev b_Loans_note : ByteArray := prog_4_method_2_code
def y_Loans_note : MethodName := ⟨R_Loans, "note", "(III)I"⟩
abbrev b_Loans_placeOf : ByteArray := prog_4_method_3_code
def y_Loans_placeOf : MethodName := ⟨R_Loans, "placeOf", "(III)I"⟩
abbrev b_Loans_copiesAt : ByteArray := prog_4_method_4_code
def y_Loans_copiesAt : MethodName := ⟨R_Loans, "copiesAt", "(III)I"⟩
abbrev b_Loans_settle : ByteArray := prog_4_method_5_code
def y_Loans_settle : MethodName := ⟨R_Loans, "settle", "(II)V"⟩
abbrev b_Piece_init : ByteArray := prog_5_method_1_code
def y_Piece_init : MethodName := ⟨R_Piece, "<init>", "()V"⟩
abbrev b_Piece_clear : ByteArray := prog_5_method_2_code
def y_Piece_clear : MethodName := ⟨R_Piece, "clear", "()V"⟩
abbrev b_Piece_hasPart : ByteArray := prog_5_method_3_code
def y_Piece_hasPart : MethodName := ⟨R_Piece, "hasPart", "(I)Z"⟩
abbrev b_Piece_isMust : ByteArray := prog_5_method_4_code
def y_Piece_isMust : MethodName := ⟨R_Piece, "isMust", "(I)Z"⟩
abbrev b_Piece_addPart : ByteArray := prog_5_method_5_code
def y_Piece_addPart : MethodName := ⟨R_Piece, "addPart", "(Z)V"⟩
abbrev b_Piece_instrument : ByteArray := prog_5_method_6_code
def y_Piece_instrument : MethodName := ⟨R_Piece, "instrument", "(II)I"⟩
abbrev b_Piece_hasInstrument : ByteArray := prog_5_method_7_code
def y_Piece_hasInstrument : MethodName := ⟨R_Piece, "hasInstrument", "(II)Z"⟩
abbrev b_Piece_addInstrument : ByteArray := prog_5_method_8_code
def y_Piece_addInstrument : MethodName := ⟨R_Piece, "addInstrument", "(II)V"⟩
abbrev b_Piece_detail : ByteArray := prog_5_method_9_code
def y_Piece_detail : MethodName := ⟨R_Piece, "detail", "(I)I"⟩
abbrev b_Piece_partDetail : ByteArray := prog_5_method_10_code
def y_Piece_partDetail : MethodName := ⟨R_Piece, "partDetail", "(I)I"⟩
abbrev b_Piece_seated : ByteArray := prog_5_method_11_code
def y_Piece_seated : MethodName := ⟨R_Piece, "seated", "()I"⟩
abbrev b_Piece_seatsElsewhere : ByteArray := prog_5_method_12_code
def y_Piece_seatsElsewhere : MethodName := ⟨R_Piece, "seatsElsewhere", "(II)Z"⟩
abbrev b_Planner_init : ByteArray := prog_6_method_1_code
def y_Planner_init : MethodName := ⟨R_Planner, "<init>", "()V"⟩
abbrev b_Planner_forgetChoices : ByteArray := prog_6_method_2_code
def y_Planner_forgetChoices : MethodName := ⟨R_Planner, "forgetChoices", "()V"⟩
abbrev b_Planner_offer : ByteArray := prog_6_method_3_code
def y_Planner_offer : MethodName := ⟨R_Planner, "offer", "(ILTownBand$Piece;)V"⟩
abbrev b_Planner_arrange : ByteArray := prog_6_method_4_code
def y_Planner_arrange : MethodName := ⟨R_Planner, "arrange", "(II)I"⟩
abbrev b_Planner_minutesOf : ByteArray := prog_6_method_5_code
def y_Planner_minutesOf : MethodName := ⟨R_Planner, "minutesOf", "(I)I"⟩
abbrev b_Planner_fillSet : ByteArray := prog_6_method_6_code
def y_Planner_fillSet : MethodName := ⟨R_Planner, "fillSet", "(IZI)J"⟩
abbrev b_Planner_bestEndingWith : ByteArray := prog_6_method_7_code
def y_Planner_bestEndingWith : MethodName := ⟨R_Planner, "bestEndingWith", "(III)J"⟩
abbrev b_Planner_keyGap : ByteArray := prog_6_method_8_code
def y_Planner_keyGap : MethodName := ⟨R_Planner, "keyGap", "(II)I"⟩
abbrev b_Planner_keepRow : ByteArray := prog_6_method_9_code
def y_Planner_keepRow : MethodName := ⟨R_Planner, "keepRow", "(IJ)V"⟩
abbrev b_Players_init : ByteArray := prog_7_method_1_code
def y_Players_init : MethodName := ⟨R_Players, "<init>", "()V"⟩
abbrev b_Players_has : ByteArray := prog_7_method_2_code
def y_Players_has : MethodName := ⟨R_Players, "has", "(I)Z"⟩
abbrev b_Players_join : ByteArray := prog_7_method_3_code
def y_Players_join : MethodName := ⟨R_Players, "join", "(II)I"⟩
abbrev b_Players_learn : ByteArray := prog_7_method_4_code
def y_Players_learn : MethodName := ⟨R_Players, "learn", "(III)V"⟩
abbrev b_Players_costOf : ByteArray := prog_7_method_5_code
def y_Players_costOf : MethodName := ⟨R_Players, "costOf", "(II)I"⟩
abbrev b_Players_mark : ByteArray := prog_7_method_6_code
def y_Players_mark : MethodName := ⟨R_Players, "mark", "(IZ)V"⟩
abbrev b_Players_isPresent : ByteArray := prog_7_method_7_code
def y_Players_isPresent : MethodName := ⟨R_Players, "isPresent", "(I)Z"⟩
abbrev b_Players_compete : ByteArray := prog_7_method_8_code
def y_Players_compete : MethodName := ⟨R_Players, "compete", "(I)I"⟩
abbrev b_Players_partCost : ByteArray := prog_7_method_9_code
def y_Players_partCost : MethodName := ⟨R_Players, "partCost", "(ILTownBand$Piece;I)I"⟩
abbrev b_Players_presentFor : ByteArray := prog_7_method_10_code
def y_Players_presentFor : MethodName := ⟨R_Players, "presentFor", "(LTownBand$Piece;I)I"⟩
abbrev b_Players_seatingCost : ByteArray := prog_7_method_11_code
def y_Players_seatingCost : MethodName := ⟨R_Players, "seatingCost", "(LTownBand$Piece;)I"⟩
abbrev b_Players_seatedButAway : ByteArray := prog_7_method_12_code
def y_Players_seatedButAway : MethodName := ⟨R_Players, "seatedButAway", "(LTownBand$Piece;)I"⟩
abbrev b_Rule_init : ByteArray := prog_8_method_1_code
def y_Rule_init : MethodName := ⟨R_Rule, "<init>", "()V"⟩
abbrev b_Rule_beginDraft : ByteArray := prog_8_method_2_code
def y_Rule_beginDraft : MethodName := ⟨R_Rule, "beginDraft", "()V"⟩
abbrev b_Rule_adoptDraft : ByteArray := prog_8_method_3_code
def y_Rule_adoptDraft : MethodName := ⟨R_Rule, "adoptDraft", "()V"⟩
abbrev b_Rule_readEither : ByteArray := prog_8_method_4_code
def y_Rule_readEither : MethodName := ⟨R_Rule, "readEither", "(LTownBand$Tape;I)V"⟩
abbrev b_Rule_readBoth : ByteArray := prog_8_method_5_code
def y_Rule_readBoth : MethodName := ⟨R_Rule, "readBoth", "(LTownBand$Tape;I)V"⟩
abbrev b_Rule_readOne : ByteArray := prog_8_method_6_code
def y_Rule_readOne : MethodName := ⟨R_Rule, "readOne", "(LTownBand$Tape;I)V"⟩
abbrev b_Rule_readComparison : ByteArray := prog_8_method_7_code
def y_Rule_readComparison : MethodName := ⟨R_Rule, "readComparison", "(LTownBand$Tape;)V"⟩
abbrev b_Rule_readSum : ByteArray := prog_8_method_8_code
def y_Rule_readSum : MethodName := ⟨R_Rule, "readSum", "(LTownBand$Tape;)V"⟩
abbrev b_Rule_readValue : ByteArray := prog_8_method_9_code
def y_Rule_readValue : MethodName := ⟨R_Rule, "readValue", "(LTownBand$Tape;)V"⟩
abbrev b_Rule_write : ByteArray := prog_8_method_10_code
def y_Rule_write : MethodName := ⟨R_Rule, "write", "(I)V"⟩
abbrev b_Rule_setPlayer : ByteArray := prog_8_method_11_code
def y_Rule_setPlayer : MethodName := ⟨R_Rule, "setPlayer", "(III)V"⟩
abbrev b_Rule_setDay : ByteArray := prog_8_method_12_code
def y_Rule_setDay : MethodName := ⟨R_Rule, "setDay", "(II)V"⟩
abbrev b_Rule_allows : ByteArray := prog_8_method_13_code
def y_Rule_allows : MethodName := ⟨R_Rule, "allows", "()Z"⟩
abbrev b_Rule_work : ByteArray := prog_8_method_14_code
def y_Rule_work : MethodName := ⟨R_Rule, "work", "(I)V"⟩
abbrev b_Rule_join : ByteArray := prog_8_method_15_code
def y_Rule_join : MethodName := ⟨R_Rule, "join", "(III)I"⟩
abbrev b_Rule_push : ByteArray := prog_8_method_16_code
def y_Rule_push : MethodName := ⟨R_Rule, "push", "(I)V"⟩
abbrev b_Rule_pop : ByteArray := prog_8_method_17_code
def y_Rule_pop : MethodName := ⟨R_Rule, "pop", "()I"⟩
abbrev b_Seater_init : ByteArray := prog_9_method_1_code
def y_Seater_init : MethodName := ⟨R_Seater, "<init>", "()V"⟩
abbrev b_Seater_seatAnew : ByteArray := prog_9_method_2_code
def y_Seater_seatAnew : MethodName := ⟨R_Seater, "seatAnew", "(LTownBand$Piece;LTownBand$Players;)V"⟩
abbrev b_Seater_seatWithFewestChanges : ByteArray := prog_9_method_3_code
def y_Seater_seatWithFewestChanges : MethodName := ⟨R_Seater, "seatWithFewestChanges", "(LTownBand$Piece;LTownBand$Players;)I"⟩
abbrev b_Seater_weigh : ByteArray := prog_9_method_4_code
def y_Seater_weigh : MethodName := ⟨R_Seater, "weigh", "(IIJ)V"⟩
abbrev b_Seater_weighEmpty : ByteArray := prog_9_method_5_code
def y_Seater_weighEmpty : MethodName := ⟨R_Seater, "weighEmpty", "(LTownBand$Piece;LTownBand$Players;IJ)V"⟩
abbrev b_Seater_match : ByteArray := prog_9_method_6_code
def y_Seater_match : MethodName := ⟨R_Seater, "match", "(II)V"⟩
abbrev b_Seater_placeRow : ByteArray := prog_9_method_7_code
def y_Seater_placeRow : MethodName := ⟨R_Seater, "placeRow", "(I)V"⟩
abbrev b_Seater_nearestColumn : ByteArray := prog_9_method_8_code
def y_Seater_nearestColumn : MethodName := ⟨R_Seater, "nearestColumn", "(II)I"⟩
abbrev b_Seater_shiftPrices : ByteArray := prog_9_method_9_code
def y_Seater_shiftPrices : MethodName := ⟨R_Seater, "shiftPrices", "(IJ)V"⟩
abbrev b_Seater_takeChairs : ByteArray := prog_9_method_10_code
def y_Seater_takeChairs : MethodName := ⟨R_Seater, "takeChairs", "(LTownBand$Piece;I)I"⟩
abbrev b_Tape_init : ByteArray := prog_10_method_1_code
def y_Tape_init : MethodName := ⟨R_Tape, "<init>", "()V"⟩
abbrev b_Tape_hasRoom : ByteArray := prog_10_method_2_code
def y_Tape_hasRoom : MethodName := ⟨R_Tape, "hasRoom", "()Z"⟩
abbrev b_Tape_append : ByteArray := prog_10_method_3_code
def y_Tape_append : MethodName := ⟨R_Tape, "append", "(I)V"⟩
abbrev b_Tape_begin : ByteArray := prog_10_method_4_code
def y_Tape_begin : MethodName := ⟨R_Tape, "begin", "(I)V"⟩
abbrev b_Tape_finish : ByteArray := prog_10_method_5_code
def y_Tape_finish : MethodName := ⟨R_Tape, "finish", "()Z"⟩
abbrev b_Tape_fail : ByteArray := prog_10_method_6_code
def y_Tape_fail : MethodName := ⟨R_Tape, "fail", "(I)V"⟩
abbrev b_Tape_advance : ByteArray := prog_10_method_7_code
def y_Tape_advance : MethodName := ⟨R_Tape, "advance", "()V"⟩
abbrev b_Tape_take : ByteArray := prog_10_method_8_code
def y_Tape_take : MethodName := ⟨R_Tape, "take", "(I)V"⟩
abbrev b_Tape_reads : ByteArray := prog_10_method_9_code
def y_Tape_reads : MethodName := ⟨R_Tape, "reads", "(Ljava/lang/String;)Z"⟩
abbrev b_Band_init : ByteArray := prog_1_method_1_code
def y_Band_init : MethodName := ⟨R_Band, "<init>", "()V"⟩
abbrev b_Band_player : ByteArray := prog_1_method_2_code
def y_Band_player : MethodName := ⟨R_Band, "player", "(II)I"⟩
abbrev b_Band_plays : ByteArray := prog_1_method_3_code
def y_Band_plays : MethodName := ⟨R_Band, "plays", "(III)Z"⟩
abbrev b_Band_cost : ByteArray := prog_1_method_4_code
def y_Band_cost : MethodName := ⟨R_Band, "cost", "(II)I"⟩
abbrev b_Band_here : ByteArray := prog_1_method_5_code
def y_Band_here : MethodName := ⟨R_Band, "here", "(IZ)Z"⟩
abbrev b_Band_feed : ByteArray := prog_1_method_6_code
def y_Band_feed : MethodName := ⟨R_Band, "feed", "(IIIII)I"⟩
abbrev b_Band_end : ByteArray := prog_1_method_7_code
def y_Band_end : MethodName := ⟨R_Band, "end", "(I)I"⟩
abbrev b_Band_load : ByteArray := prog_1_method_8_code
def y_Band_load : MethodName := ⟨R_Band, "load", "()I"⟩
abbrev b_Band_rule : ByteArray := prog_1_method_9_code
def y_Band_rule : MethodName := ⟨R_Band, "rule", "()I"⟩
abbrev b_Band_fault : ByteArray := prog_1_method_10_code
def y_Band_fault : MethodName := ⟨R_Band, "fault", "(I)I"⟩
abbrev b_Band_piece : ByteArray := prog_1_method_11_code
def y_Band_piece : MethodName := ⟨R_Band, "piece", "(II)I"⟩
abbrev b_Band_playable : ByteArray := prog_1_method_12_code
def y_Band_playable : MethodName := ⟨R_Band, "playable", "(I)I"⟩
abbrev b_Band_lacks : ByteArray := prog_1_method_13_code
def y_Band_lacks : MethodName := ⟨R_Band, "lacks", "(I)I"⟩
abbrev b_Band_seat : ByteArray := prog_1_method_14_code
def y_Band_seat : MethodName := ⟨R_Band, "seat", "(I)I"⟩
abbrev b_Band_again : ByteArray := prog_1_method_15_code
def y_Band_again : MethodName := ⟨R_Band, "again", "(I)I"⟩
abbrev b_Band_chair : ByteArray := prog_1_method_16_code
def y_Band_chair : MethodName := ⟨R_Band, "chair", "(II)I"⟩
abbrev b_Band_sit : ByteArray := prog_1_method_17_code
def y_Band_sit : MethodName := ⟨R_Band, "sit", "(III)Z"⟩
abbrev b_Band_seating : ByteArray := prog_1_method_18_code
def y_Band_seating : MethodName := ⟨R_Band, "seating", "(II)I"⟩
abbrev b_Band_programme : ByteArray := prog_1_method_19_code
def y_Band_programme : MethodName := ⟨R_Band, "programme", "(II)I"⟩
abbrev b_Band_plan : ByteArray := prog_1_method_20_code
def y_Band_plan : MethodName := ⟨R_Band, "plan", "(I)I"⟩
abbrev b_Band_strain : ByteArray := prog_1_method_21_code
def y_Band_strain : MethodName := ⟨R_Band, "strain", "()I"⟩
abbrev b_Band_tell : ByteArray := prog_1_method_22_code
def y_Band_tell : MethodName := ⟨R_Band, "tell", "(III)I"⟩
abbrev b_Band_where : ByteArray := prog_1_method_23_code
def y_Band_where : MethodName := ⟨R_Band, "where", "(III)I"⟩
abbrev b_Band_copies : ByteArray := prog_1_method_24_code
def y_Band_copies : MethodName := ⟨R_Band, "copies", "(III)I"⟩
abbrev b_Band_contest : ByteArray := prog_1_method_25_code
def y_Band_contest : MethodName := ⟨R_Band, "contest", "(I)I"⟩
abbrev b_Band_may : ByteArray := prog_1_method_26_code
def y_Band_may : MethodName := ⟨R_Band, "may", "(II)I"⟩
abbrev b_Band_count : ByteArray := prog_1_method_27_code
def y_Band_count : MethodName := ⟨R_Band, "count", "(I)I"⟩
abbrev b_Band_playablePieces : ByteArray := prog_1_method_28_code
def y_Band_playablePieces : MethodName := ⟨R_Band, "playablePieces", "()I"⟩
abbrev b_Band_isPlace : ByteArray := prog_1_method_29_code
def y_Band_isPlace : MethodName := ⟨R_Band, "isPlace", "(I)Z"⟩
abbrev b_Band_isWithin : ByteArray := prog_1_method_30_code
def y_Band_isWithin : MethodName := ⟨R_Band, "isWithin", "(III)Z"⟩
abbrev b_Band_isDay : ByteArray := prog_1_method_31_code
def y_Band_isDay : MethodName := ⟨R_Band, "isDay", "(I)Z"⟩
abbrev b_Band_isInstrument : ByteArray := prog_1_method_32_code
def y_Band_isInstrument : MethodName := ⟨R_Band, "isInstrument", "(I)Z"⟩
abbrev b_Band_isCopy : ByteArray := prog_1_method_33_code
def y_Band_isCopy : MethodName := ⟨R_Band, "isCopy", "(I)Z"⟩
abbrev b_Model_init : ByteArray := prog_12_method_1_code
def y_Model_init : MethodName := ⟨R_Model, "<init>", "()V"⟩
abbrev b_Model_isPlayer : ByteArray := prog_12_method_3_code
def y_Model_isPlayer : MethodName := ⟨R_Model, "isPlayer", "(I)Z"⟩
abbrev b_Model_player : ByteArray := prog_12_method_4_code
def y_Model_player : MethodName := ⟨R_Model, "player", "(II)I"⟩
abbrev b_Model_isInstrument : ByteArray := prog_12_method_5_code
def y_Model_isInstrument : MethodName := ⟨R_Model, "isInstrument", "(I)Z"⟩
abbrev b_Model_plays : ByteArray := prog_12_method_6_code
def y_Model_plays : MethodName := ⟨R_Model, "plays", "(III)Z"⟩
abbrev b_Model_cost : ByteArray := prog_12_method_7_code
def y_Model_cost : MethodName := ⟨R_Model, "cost", "(II)I"⟩
abbrev b_Model_here : ByteArray := prog_12_method_8_code
def y_Model_here : MethodName := ⟨R_Model, "here", "(IZ)Z"⟩
abbrev b_Model_isPiece : ByteArray := prog_12_method_9_code
def y_Model_isPiece : MethodName := ⟨R_Model, "isPiece", "(I)Z"⟩
abbrev b_Model_costOf : ByteArray := prog_12_method_10_code
def y_Model_costOf : MethodName := ⟨R_Model, "costOf", "(III)I"⟩
abbrev b_Model_isMust : ByteArray := prog_12_method_11_code
def y_Model_isMust : MethodName := ⟨R_Model, "isMust", "(II)Z"⟩
abbrev b_Model_piece : ByteArray := prog_12_method_12_code
def y_Model_piece : MethodName := ⟨R_Model, "piece", "(II)I"⟩
abbrev b_Model_ones : ByteArray := prog_12_method_13_code
def y_Model_ones : MethodName := ⟨R_Model, "ones", "(I)I"⟩
abbrev b_Model_lacking : ByteArray := prog_12_method_14_code
def y_Model_lacking : MethodName := ⟨R_Model, "lacking", "(I)I"⟩
abbrev b_Model_playable : ByteArray := prog_12_method_15_code
def y_Model_playable : MethodName := ⟨R_Model, "playable", "(I)I"⟩
abbrev b_Model_lacks : ByteArray := prog_12_method_16_code
def y_Model_lacks : MethodName := ⟨R_Model, "lacks", "(I)I"⟩
abbrev b_Model_counts : ByteArray := prog_12_method_17_code
def y_Model_counts : MethodName := ⟨R_Model, "counts", "(IIIZ)I"⟩
abbrev b_Model_mayBe : ByteArray := prog_12_method_18_code
def y_Model_mayBe : MethodName := ⟨R_Model, "mayBe", "(III)Z"⟩
abbrev b_Model_finds : ByteArray := prog_12_method_19_code
def y_Model_finds : MethodName := ⟨R_Model, "finds", "(IZ)V"⟩
abbrev b_Model_seats : ByteArray := prog_12_method_20_code
def y_Model_seats : MethodName := ⟨R_Model, "seats", "(IZ)I"⟩
abbrev b_Model_fits : ByteArray := prog_12_method_21_code
def y_Model_fits : MethodName := ⟨R_Model, "fits", "(IIIIZ)Z"⟩
abbrev b_Model_seat : ByteArray := prog_12_method_22_code
def y_Model_seat : MethodName := ⟨R_Model, "seat", "(I)I"⟩
abbrev b_Model_again : ByteArray := prog_12_method_23_code
def y_Model_again : MethodName := ⟨R_Model, "again", "(I)I"⟩
abbrev b_Model_isPart : ByteArray := prog_12_method_24_code
def y_Model_isPart : MethodName := ⟨R_Model, "isPart", "(II)Z"⟩
abbrev b_Model_chair : ByteArray := prog_12_method_25_code
def y_Model_chair : MethodName := ⟨R_Model, "chair", "(II)I"⟩
abbrev b_Model_sit : ByteArray := prog_12_method_26_code
def y_Model_sit : MethodName := ⟨R_Model, "sit", "(III)Z"⟩
abbrev b_Model_seating : ByteArray := prog_12_method_27_code
def y_Model_seating : MethodName := ⟨R_Model, "seating", "(II)I"⟩
abbrev b_Model_sumOf : ByteArray := prog_12_method_28_code
def y_Model_sumOf : MethodName := ⟨R_Model, "sumOf", "(I)I"⟩
abbrev b_Model_strainOf : ByteArray := prog_12_method_29_code
def y_Model_strainOf : MethodName := ⟨R_Model, "strainOf", "(II)I"⟩
abbrev b_Model_goes : ByteArray := prog_12_method_30_code
def y_Model_goes : MethodName := ⟨R_Model, "goes", "(IIII)Z"⟩
abbrev b_Model_programme : ByteArray := prog_12_method_31_code
def y_Model_programme : MethodName := ⟨R_Model, "programme", "(II)I"⟩
abbrev b_Model_plan : ByteArray := prog_12_method_32_code
def y_Model_plan : MethodName := ⟨R_Model, "plan", "(I)I"⟩
abbrev b_Model_strain : ByteArray := prog_12_method_33_code
def y_Model_strain : MethodName := ⟨R_Model, "strain", "()I"⟩
abbrev b_Model_isDay : ByteArray := prog_12_method_34_code
def y_Model_isDay : MethodName := ⟨R_Model, "isDay", "(I)Z"⟩
abbrev b_Model_isThere : ByteArray := prog_12_method_35_code
def y_Model_isThere : MethodName := ⟨R_Model, "isThere", "(I)Z"⟩
abbrev b_Model_tell : ByteArray := prog_12_method_36_code
def y_Model_tell : MethodName := ⟨R_Model, "tell", "(III)I"⟩
abbrev b_Model_whereIs : ByteArray := prog_12_method_37_code
def y_Model_whereIs : MethodName := ⟨R_Model, "whereIs", "(III)I"⟩
abbrev b_Model_where : ByteArray := prog_12_method_38_code
def y_Model_where : MethodName := ⟨R_Model, "where", "(III)I"⟩
abbrev b_Model_copiesAt : ByteArray := prog_12_method_39_code
def y_Model_copiesAt : MethodName := ⟨R_Model, "copiesAt", "(III)I"⟩
abbrev b_Model_copies : ByteArray := prog_12_method_40_code
def y_Model_copies : MethodName := ⟨R_Model, "copies", "(III)I"⟩
abbrev b_Model_contest : ByteArray := prog_12_method_41_code
def y_Model_contest : MethodName := ⟨R_Model, "contest", "(I)I"⟩
abbrev b_Model_count : ByteArray := prog_12_method_42_code
def y_Model_count : MethodName := ⟨R_Model, "count", "(I)I"⟩
abbrev b_Model_lay : ByteArray := prog_12_method_43_code
def y_Model_lay : MethodName := ⟨R_Model, "lay", "(I)V"⟩
abbrev b_Model_feed : ByteArray := prog_12_method_44_code
def y_Model_feed : MethodName := ⟨R_Model, "feed", "(IIIII)I"⟩
abbrev b_Model_end : ByteArray := prog_12_method_45_code
def y_Model_end : MethodName := ⟨R_Model, "end", "(I)I"⟩
abbrev b_Model_fault : ByteArray := prog_12_method_46_code
def y_Model_fault : MethodName := ⟨R_Model, "fault", "(I)I"⟩
abbrev b_Model_raw : ByteArray := prog_12_method_47_code
def y_Model_raw : MethodName := ⟨R_Model, "raw", "()I"⟩
abbrev b_Model_isSmall : ByteArray := prog_12_method_48_code
def y_Model_isSmall : MethodName := ⟨R_Model, "isSmall", "(I)Z"⟩
abbrev b_Model_isDigit : ByteArray := prog_12_method_49_code
def y_Model_isDigit : MethodName := ⟨R_Model, "isDigit", "(I)Z"⟩
abbrev b_Model_word : ByteArray := prog_12_method_50_code
def y_Model_word : MethodName := ⟨R_Model, "word", "(IIIII)J"⟩
abbrev b_Model_isWordOf : ByteArray := prog_12_method_51_code
def y_Model_isWordOf : MethodName := ⟨R_Model, "isWordOf", "(Z)Z"⟩
abbrev b_Model_isSignOf : ByteArray := prog_12_method_52_code
def y_Model_isSignOf : MethodName := ⟨R_Model, "isSignOf", "(IZ)Z"⟩
abbrev b_Model_next : ByteArray := prog_12_method_53_code
def y_Model_next : MethodName := ⟨R_Model, "next", "(Z)V"⟩
abbrev b_Model_fails : ByteArray := prog_12_method_54_code
def y_Model_fails : MethodName := ⟨R_Model, "fails", "(I)Z"⟩
abbrev b_Model_isWord : ByteArray := prog_12_method_55_code
def y_Model_isWord : MethodName := ⟨R_Model, "isWord", "(IIIII)Z"⟩
abbrev b_Model_isSign : ByteArray := prog_12_method_56_code
def y_Model_isSign : MethodName := ⟨R_Model, "isSign", "(I)Z"⟩
abbrev b_Model_takes : ByteArray := prog_12_method_57_code
def y_Model_takes : MethodName := ⟨R_Model, "takes", "(II)Z"⟩
abbrev b_Model_readPiece : ByteArray := prog_12_method_58_code
def y_Model_readPiece : MethodName := ⟨R_Model, "readPiece", "()Z"⟩
abbrev b_Model_readPart : ByteArray := prog_12_method_59_code
def y_Model_readPart : MethodName := ⟨R_Model, "readPart", "(I)Z"⟩
abbrev b_Model_readText : ByteArray := prog_12_method_60_code
def y_Model_readText : MethodName := ⟨R_Model, "readText", "()Z"⟩
abbrev b_Model_load : ByteArray := prog_12_method_61_code
def y_Model_load : MethodName := ⟨R_Model, "load", "()I"⟩
abbrev b_Model_does : ByteArray := prog_12_method_62_code
def y_Model_does : MethodName := ⟨R_Model, "does", "(II)V"⟩
abbrev b_Model_rank : ByteArray := prog_12_method_63_code
def y_Model_rank : MethodName := ⟨R_Model, "rank", "(I)I"⟩
abbrev b_Model_settles : ByteArray := prog_12_method_64_code
def y_Model_settles : MethodName := ⟨R_Model, "settles", "(I)V"⟩
abbrev b_Model_open : ByteArray := prog_12_method_65_code
def y_Model_open : MethodName := ⟨R_Model, "open", "()I"⟩
abbrev b_Model_value : ByteArray := prog_12_method_66_code
def y_Model_value : MethodName := ⟨R_Model, "value", "()Z"⟩
abbrev b_Model_step : ByteArray := prog_12_method_67_code
def y_Model_step : MethodName := ⟨R_Model, "step", "()V"⟩
abbrev b_Model_readSums : ByteArray := prog_12_method_68_code
def y_Model_readSums : MethodName := ⟨R_Model, "readSums", "()Z"⟩
abbrev b_Model_readRule : ByteArray := prog_12_method_69_code
def y_Model_readRule : MethodName := ⟨R_Model, "readRule", "()Z"⟩
abbrev b_Model_rule : ByteArray := prog_12_method_70_code
def y_Model_rule : MethodName := ⟨R_Model, "rule", "()I"⟩
abbrev b_Model_done : ByteArray := prog_12_method_71_code
def y_Model_done : MethodName := ⟨R_Model, "done", "(III)I"⟩
abbrev b_Model_may : ByteArray := prog_12_method_72_code
def y_Model_may : MethodName := ⟨R_Model, "may", "(II)I"⟩
abbrev b_Integer_bitCount : ByteArray := prog_13_method_49_code
def y_Integer_bitCount : MethodName := ⟨R_Integer, "bitCount", "(I)I"⟩
abbrev b_Math_abs : ByteArray := prog_14_method_59_code
def y_Math_abs : MethodName := ⟨R_Math, "abs", "(I)I"⟩
abbrev b_Math_max : ByteArray := prog_14_method_65_code
def y_Math_max : MethodName := ⟨R_Math, "max", "(II)I"⟩
abbrev b_Math_min : ByteArray := prog_14_method_69_code
def y_Math_min : MethodName := ⟨R_Math, "min", "(II)I"⟩
abbrev b_Math_minL : ByteArray := prog_14_method_70_code
def y_Math_minL : MethodName := ⟨R_Math, "min", "(JJ)J"⟩
abbrev b_String_length : ByteArray := prog_15_method_54_code
def y_String_length : MethodName := ⟨R_String, "length", "()I"⟩
abbrev b_String_charAt : ByteArray := prog_15_method_56_code
def y_String_charAt : MethodName := ⟨R_String, "charAt", "(I)C"⟩
abbrev b_String_coder : ByteArray := prog_15_method_152_code
def y_String_coder : MethodName := ⟨R_String, "coder", "()B"⟩
abbrev b_String_isLatin1 : ByteArray := prog_15_method_154_code
def y_String_isLatin1 : MethodName := ⟨R_String, "isLatin1", "()Z"⟩
abbrev b_String_checkIndex : ByteArray := prog_15_method_155_code
def y_String_checkIndex : MethodName := ⟨R_String, "checkIndex", "(II)V"⟩
abbrev b_Latin_charAt : ByteArray := prog_16_method_2_code
def y_Latin_charAt : MethodName := ⟨R_Latin, "charAt", "([BI)C"⟩
abbrev b_Utf_getChar : ByteArray := prog_17_method_5_code
def y_Utf_getChar : MethodName := ⟨R_Utf, "getChar", "([BI)C"⟩
abbrev b_Utf_length : ByteArray := prog_17_method_6_code
def y_Utf_length : MethodName := ⟨R_Utf, "length", "([B)I"⟩
abbrev b_Utf_charAt : ByteArray := prog_17_method_83_code
def y_Utf_charAt : MethodName := ⟨R_Utf, "charAt", "([BI)C"⟩
abbrev b_Utf_checkIndex : ByteArray := prog_17_method_91_code
def y_Utf_checkIndex : MethodName := ⟨R_Utf, "checkIndex", "(I[B)V"⟩
abbrev b_Arrays_fillL : ByteArray := prog_18_method_101_code
def y_Arrays_fillL : MethodName := ⟨R_Arrays, "fill", "([JJ)V"⟩
abbrev b_Arrays_fillI : ByteArray := prog_18_method_103_code
def y_Arrays_fillI : MethodName := ⟨R_Arrays, "fill", "([II)V"⟩
abbrev b_Pre_checkIndex : ByteArray := prog_19_method_11_code
def y_Pre_checkIndex : MethodName := ⟨R_Pre, "checkIndex", "(IILjava/util/function/BiFunction;)I"⟩
abbrev b_Law_law : ByteArray := code
def y_Law_law : MethodName := ⟨R_Law, "law", "([I)Z"⟩
end
section
theorem d_Cover_init_0 : decode b_Cover_init 0 = .ok (.aload_n 0, 1) := by decide +kernel
theorem d_Cover_init_1 : decode b_Cover_init 1 = .ok (.invokespecial 3, 3) := by decide +kernel
theorem d_Cover_init_4 : decode b_Cover_init 4 = .ok (.aload_n 0, 1) := by decide +kernel
theorem d_Cover_init_5 : decode b_Cover_init 5 = .ok (.bipush 10, 2) := by decide +kernel
theorem d_Cover_init_7 : decode b_Cover_init 7 = .ok (.newarray .int, 2) := by decide +kernel
theorem d_Cover_init_9 : decode b_Cover_init 9 = .ok (.putfield 9, 3) := by decide +kernel
theorem d_Cover_init_12 : decode b_Cover_init 12 = .ok (.aload_n 0, 1) := by decide +kernel
theorem d_Cover_init_13 : decode b_Cover_init 13 = .ok (.bipush 14, 2) := by decide +kernel
theorem d_Cover_init_15 : decode b_Cover_init 15 = .ok (.newarray .int, 2) := by decide +kernel
theorem d_Cover_init_17 : decode b_Cover_init 17 = .ok (.putfield 15, 3) := by decide +kernel
theorem d_Cover_init_20 : decode b_Cover_init 20 = .ok (.aload_n 0, 1) := by decide +kernel
theorem d_Cover_init_21 : decode b_Cover_init 21 = .ok (.sipush 1024, 3) := by decide +kernel
theorem d_Cover_init_24 : decode b_Cover_init 24 = .ok (.newarray .int, 2) := by decide +kernel
theorem d_Cover_init_26 : decode b_Cover_init 26 = .ok (.putfield 18, 3) := by decide +kernel
theorem d_Cover_init_29 : decode b_Cover_init 29 = .ok (.return_, 1) := by decide +kernel
theorem d_Cover_coversMust_0 : decode b_Cover_coversMust 0 = .ok (.aload_n 0, 1) := by decide +kernel
theorem d_Cover_coversMust_1 : decode b_Cover_coversMust 1 = .ok (.aload_n 1, 1) := by decide +kernel
theorem d_Cover_coversMust_2 : decode b_Cover_coversMust 2 = .ok (.aload_n 2, 1) := by decide +kernel
theorem d_Cover_coversMust_3 : decode b_Cover_coversMust 3 = .ok (.invokevirtual 21, 3) := by decide +kernel
theorem d_Cover_coversMust_6 : decode b_Cover_coversMust 6 = .ok (.aload_n 0, 1) := by decide +kernel
theorem d_Cover_coversMust_7 : decode b_Cover_coversMust 7 = .ok (.getfield 15, 3) := by decide +kernel
theorem d_Cover_coversMust_10 : decode b_Cover_coversMust 10 = .ok (.iconst (-1), 1) := by decide +kernel
theorem d_Cover_coversMust_11 : decode b_Cover_coversMust 11 = .ok (.invokestatic 25, 3) := by decide +kernel
theorem d_Cover_coversMust_14 : decode b_Cover_coversMust 14 = .ok (.iconst 0, 1) := by decide +kernel
theorem d_Cover_coversMust_15 : decode b_Cover_coversMust 15 = .ok (.istore_n 3, 1) := by decide +kernel
theorem d_Cover_coversMust_16 : decode b_Cover_coversMust 16 = .ok (.iload_n 3, 1) := by decide +kernel
theorem d_Cover_coversMust_17 : decode b_Cover_coversMust 17 = .ok (.aload_n 1, 1) := by decide +kernel
theorem d_Cover_coversMust_18 : decode b_Cover_coversMust 18 = .ok (.getfield 31, 3) := by decide +kernel
theorem d_Cover_coversMust_21 : decode b_Cover_coversMust 21 = .ok (.if_icmp .ge 33, 3) := by decide +kernel
theorem d_Cover_coversMust_24 : decode b_Cover_coversMust 24 = .ok (.aload_n 0, 1) := by decide +kernel
theorem d_Cover_coversMust_25 : decode b_Cover_coversMust 25 = .ok (.iconst 0, 1) := by decide +kernel
theorem d_Cover_coversMust_26 : decode b_Cover_coversMust 26 = .ok (.putfield 37, 3) := by decide +kernel
theorem d_Cover_coversMust_29 : decode b_Cover_coversMust 29 = .ok (.aload_n 1, 1) := by decide +kernel
theorem d_Cover_coversMust_30 : decode b_Cover_coversMust 30 = .ok (.iload_n 3, 1) := by decide +kernel
theorem d_Cover_coversMust_31 : decode b_Cover_coversMust 31 = .ok (.invokevirtual 40, 3) := by decide +kernel
theorem d_Cover_coversMust_34 : decode b_Cover_coversMust 34 = .ok (.ifCond .eq 14, 3) := by decide +kernel
theorem d_Cover_coversMust_37 : decode b_Cover_coversMust 37 = .ok (.aload_n 0, 1) := by decide +kernel
theorem d_Cover_coversMust_38 : decode b_Cover_coversMust 38 = .ok (.iload_n 3, 1) := by decide +kernel
theorem d_Cover_coversMust_39 : decode b_Cover_coversMust 39 = .ok (.iconst 0, 1) := by decide +kernel
theorem d_Cover_coversMust_40 : decode b_Cover_coversMust 40 = .ok (.invokevirtual 44, 3) := by decide +kernel
theorem d_Cover_coversMust_43 : decode b_Cover_coversMust 43 = .ok (.ifCond .ne 5, 3) := by decide +kernel
theorem d_Cover_coversMust_46 : decode b_Cover_coversMust 46 = .ok (.iconst 0, 1) := by decide +kernel
theorem d_Cover_coversMust_47 : decode b_Cover_coversMust 47 = .ok (.ireturn, 1) := by decide +kernel
theorem d_Cover_coversMust_48 : decode b_Cover_coversMust 48 = .ok (.iinc 3 1, 3) := by decide +kernel
theorem d_Cover_coversMust_51 : decode b_Cover_coversMust 51 = .ok (.goto (-35), 3) := by decide +kernel
theorem d_Cover_coversMust_54 : decode b_Cover_coversMust 54 = .ok (.iconst 1, 1) := by decide +kernel
theorem d_Cover_coversMust_55 : decode b_Cover_coversMust 55 = .ok (.ireturn, 1) := by decide +kernel
theorem d_Cover_findAble_0 : decode b_Cover_findAble 0 = .ok (.iconst 0, 1) := by decide +kernel
theorem d_Cover_findAble_1 : decode b_Cover_findAble 1 = .ok (.istore_n 3, 1) := by decide +kernel
theorem d_Cover_findAble_2 : decode b_Cover_findAble 2 = .ok (.iload_n 3, 1) := by decide +kernel
theorem d_Cover_findAble_3 : decode b_Cover_findAble 3 = .ok (.aload_n 1, 1) := by decide +kernel
theorem d_Cover_findAble_4 : decode b_Cover_findAble 4 = .ok (.getfield 31, 3) := by decide +kernel
theorem d_Cover_findAble_7 : decode b_Cover_findAble 7 = .ok (.if_icmp .ge 33, 3) := by decide +kernel
theorem d_Cover_findAble_10 : decode b_Cover_findAble 10 = .ok (.aload_n 0, 1) := by decide +kernel
theorem d_Cover_findAble_11 : decode b_Cover_findAble 11 = .ok (.getfield 9, 3) := by decide +kernel
theorem d_Cover_findAble_14 : decode b_Cover_findAble 14 = .ok (.iload_n 3, 1) := by decide +kernel
theorem d_Cover_findAble_15 : decode b_Cover_findAble 15 = .ok (.aload_n 1, 1) := by decide +kernel
theorem d_Cover_findAble_16 : decode b_Cover_findAble 16 = .ok (.iload_n 3, 1) := by decide +kernel
theorem d_Cover_findAble_17 : decode b_Cover_findAble 17 = .ok (.invokevirtual 40, 3) := by decide +kernel
theorem d_Cover_findAble_20 : decode b_Cover_findAble 20 = .ok (.ifCond .eq 12, 3) := by decide +kernel
theorem d_Cover_findAble_23 : decode b_Cover_findAble 23 = .ok (.aload_n 2, 1) := by decide +kernel
theorem d_Cover_findAble_24 : decode b_Cover_findAble 24 = .ok (.aload_n 1, 1) := by decide +kernel
theorem d_Cover_findAble_25 : decode b_Cover_findAble 25 = .ok (.iload_n 3, 1) := by decide +kernel
theorem d_Cover_findAble_26 : decode b_Cover_findAble 26 = .ok (.invokevirtual 48, 3) := by decide +kernel
theorem d_Cover_findAble_29 : decode b_Cover_findAble 29 = .ok (.goto 4, 3) := by decide +kernel
theorem d_Cover_findAble_32 : decode b_Cover_findAble 32 = .ok (.iconst 0, 1) := by decide +kernel
theorem d_Cover_findAble_33 : decode b_Cover_findAble 33 = .ok (.iastore, 1) := by decide +kernel
theorem d_Cover_findAble_34 : decode b_Cover_findAble 34 = .ok (.iinc 3 1, 3) := by decide +kernel
theorem d_Cover_findAble_37 : decode b_Cover_findAble 37 = .ok (.goto (-35), 3) := by decide +kernel
theorem d_Cover_findAble_40 : decode b_Cover_findAble 40 = .ok (.return_, 1) := by decide +kernel
theorem d_Cover_findPlayer_0 : decode b_Cover_findPlayer 0 = .ok (.iload_n 2, 1) := by decide +kernel
theorem d_Cover_findPlayer_1 : decode b_Cover_findPlayer 1 = .ok (.bipush 10, 2) := by decide +kernel
theorem d_Cover_findPlayer_3 : decode b_Cover_findPlayer 3 = .ok (.if_icmp .le 5, 3) := by decide +kernel
theorem d_Cover_findPlayer_6 : decode b_Cover_findPlayer 6 = .ok (.iconst 0, 1) := by decide +kernel
theorem d_Cover_findPlayer_7 : decode b_Cover_findPlayer 7 = .ok (.ireturn, 1) := by decide +kernel
theorem d_Cover_findPlayer_8 : decode b_Cover_findPlayer 8 = .ok (.iconst 0, 1) := by decide +kernel
theorem d_Cover_findPlayer_9 : decode b_Cover_findPlayer 9 = .ok (.istore_n 3, 1) := by decide +kernel
theorem d_Cover_findPlayer_10 : decode b_Cover_findPlayer 10 = .ok (.iload_n 3, 1) := by decide +kernel
theorem d_Cover_findPlayer_11 : decode b_Cover_findPlayer 11 = .ok (.bipush 14, 2) := by decide +kernel
theorem d_Cover_findPlayer_13 : decode b_Cover_findPlayer 13 = .ok (.if_icmp .ge 85, 3) := by decide +kernel
theorem d_Cover_findPlayer_16 : decode b_Cover_findPlayer 16 = .ok (.iconst 1, 1) := by decide +kernel
theorem d_Cover_findPlayer_17 : decode b_Cover_findPlayer 17 = .ok (.iload_n 3, 1) := by decide +kernel
theorem d_Cover_findPlayer_18 : decode b_Cover_findPlayer 18 = .ok (.ishl, 1) := by decide +kernel
theorem d_Cover_findPlayer_19 : decode b_Cover_findPlayer 19 = .ok (.istore 4, 2) := by decide +kernel
theorem d_Cover_findPlayer_21 : decode b_Cover_findPlayer 21 = .ok (.aload_n 0, 1) := by decide +kernel
theorem d_Cover_findPlayer_22 : decode b_Cover_findPlayer 22 = .ok (.getfield 9, 3) := by decide +kernel
theorem d_Cover_findPlayer_25 : decode b_Cover_findPlayer 25 = .ok (.iload_n 1, 1) := by decide +kernel
theorem d_Cover_findPlayer_26 : decode b_Cover_findPlayer 26 = .ok (.iaload, 1) := by decide +kernel
theorem d_Cover_findPlayer_27 : decode b_Cover_findPlayer 27 = .ok (.iload 4, 2) := by decide +kernel
theorem d_Cover_findPlayer_29 : decode b_Cover_findPlayer 29 = .ok (.iand, 1) := by decide +kernel
theorem d_Cover_findPlayer_30 : decode b_Cover_findPlayer 30 = .ok (.ifCond .eq 62, 3) := by decide +kernel
theorem d_Cover_findPlayer_33 : decode b_Cover_findPlayer 33 = .ok (.aload_n 0, 1) := by decide +kernel
theorem d_Cover_findPlayer_34 : decode b_Cover_findPlayer 34 = .ok (.getfield 37, 3) := by decide +kernel
theorem d_Cover_findPlayer_37 : decode b_Cover_findPlayer 37 = .ok (.iload 4, 2) := by decide +kernel
theorem d_Cover_findPlayer_39 : decode b_Cover_findPlayer 39 = .ok (.iand, 1) := by decide +kernel
theorem d_Cover_findPlayer_40 : decode b_Cover_findPlayer 40 = .ok (.ifCond .eq 6, 3) := by decide +kernel
theorem d_Cover_findPlayer_43 : decode b_Cover_findPlayer 43 = .ok (.goto 49, 3) := by decide +kernel
theorem d_Cover_findPlayer_46 : decode b_Cover_findPlayer 46 = .ok (.aload_n 0, 1) := by decide +kernel
theorem d_Cover_findPlayer_47 : decode b_Cover_findPlayer 47 = .ok (.dup, 1) := by decide +kernel
theorem d_Cover_findPlayer_48 : decode b_Cover_findPlayer 48 = .ok (.getfield 37, 3) := by decide +kernel
theorem d_Cover_findPlayer_51 : decode b_Cover_findPlayer 51 = .ok (.iload 4, 2) := by decide +kernel
theorem d_Cover_findPlayer_53 : decode b_Cover_findPlayer 53 = .ok (.ior, 1) := by decide +kernel
theorem d_Cover_findPlayer_54 : decode b_Cover_findPlayer 54 = .ok (.putfield 37, 3) := by decide +kernel
theorem d_Cover_findPlayer_57 : decode b_Cover_findPlayer 57 = .ok (.aload_n 0, 1) := by decide +kernel
theorem d_Cover_findPlayer_58 : decode b_Cover_findPlayer 58 = .ok (.getfield 15, 3) := by decide +kernel
theorem d_Cover_findPlayer_61 : decode b_Cover_findPlayer 61 = .ok (.iload_n 3, 1) := by decide +kernel
theorem d_Cover_findPlayer_62 : decode b_Cover_findPlayer 62 = .ok (.iaload, 1) := by decide +kernel
theorem d_Cover_findPlayer_63 : decode b_Cover_findPlayer 63 = .ok (.iconst (-1), 1) := by decide +kernel
theorem d_Cover_findPlayer_64 : decode b_Cover_findPlayer 64 = .ok (.if_icmp .eq 19, 3) := by decide +kernel
theorem d_Cover_findPlayer_67 : decode b_Cover_findPlayer 67 = .ok (.aload_n 0, 1) := by decide +kernel
theorem d_Cover_findPlayer_68 : decode b_Cover_findPlayer 68 = .ok (.aload_n 0, 1) := by decide +kernel
theorem d_Cover_findPlayer_69 : decode b_Cover_findPlayer 69 = .ok (.getfield 15, 3) := by decide +kernel
theorem d_Cover_findPlayer_72 : decode b_Cover_findPlayer 72 = .ok (.iload_n 3, 1) := by decide +kernel
theorem d_Cover_findPlayer_73 : decode b_Cover_findPlayer 73 = .ok (.iaload, 1) := by decide +kernel
theorem d_Cover_findPlayer_74 : decode b_Cover_findPlayer 74 = .ok (.iload_n 2, 1) := by decide +kernel
theorem d_Cover_findPlayer_75 : decode b_Cover_findPlayer 75 = .ok (.iconst 1, 1) := by decide +kernel
theorem d_Cover_findPlayer_76 : decode b_Cover_findPlayer 76 = .ok (.iadd, 1) := by decide +kernel
theorem d_Cover_findPlayer_77 : decode b_Cover_findPlayer 77 = .ok (.invokevirtual 44, 3) := by decide +kernel
theorem d_Cover_findPlayer_80 : decode b_Cover_findPlayer 80 = .ok (.ifCond .eq 12, 3) := by decide +kernel
theorem d_Cover_findPlayer_83 : decode b_Cover_findPlayer 83 = .ok (.aload_n 0, 1) := by decide +kernel
theorem d_Cover_findPlayer_84 : decode b_Cover_findPlayer 84 = .ok (.getfield 15, 3) := by decide +kernel
theorem d_Cover_findPlayer_87 : decode b_Cover_findPlayer 87 = .ok (.iload_n 3, 1) := by decide +kernel
theorem d_Cover_findPlayer_88 : decode b_Cover_findPlayer 88 = .ok (.iload_n 1, 1) := by decide +kernel
theorem d_Cover_findPlayer_89 : decode b_Cover_findPlayer 89 = .ok (.iastore, 1) := by decide +kernel
theorem d_Cover_findPlayer_90 : decode b_Cover_findPlayer 90 = .ok (.iconst 1, 1) := by decide +kernel
theorem d_Cover_findPlayer_91 : decode b_Cover_findPlayer 91 = .ok (.ireturn, 1) := by decide +kernel
theorem d_Cover_findPlayer_92 : decode b_Cover_findPlayer 92 = .ok (.iinc 3 1, 3) := by decide +kernel
theorem d_Cover_findPlayer_95 : decode b_Cover_findPlayer 95 = .ok (.goto (-85), 3) := by decide +kernel
theorem d_Cover_findPlayer_98 : decode b_Cover_findPlayer 98 = .ok (.iconst 0, 1) := by decide +kernel
theorem d_Cover_findPlayer_99 : decode b_Cover_findPlayer 99 = .ok (.ireturn, 1) := by decide +kernel
theorem d_Cover_leastLack_0 : decode b_Cover_leastLack 0 = .ok (.aload_n 0, 1) := by decide +kernel
theorem d_Cover_leastLack_1 : decode b_Cover_leastLack 1 = .ok (.aload_n 1, 1) := by decide +kernel
theorem d_Cover_leastLack_2 : decode b_Cover_leastLack 2 = .ok (.aload_n 2, 1) := by decide +kernel
theorem d_Cover_leastLack_3 : decode b_Cover_leastLack 3 = .ok (.invokevirtual 21, 3) := by decide +kernel
theorem d_Cover_leastLack_6 : decode b_Cover_leastLack 6 = .ok (.iconst 0, 1) := by decide +kernel
theorem d_Cover_leastLack_7 : decode b_Cover_leastLack 7 = .ok (.istore_n 3, 1) := by decide +kernel
theorem d_Cover_leastLack_8 : decode b_Cover_leastLack 8 = .ok (.bipush 11, 2) := by decide +kernel
theorem d_Cover_leastLack_10 : decode b_Cover_leastLack 10 = .ok (.istore 4, 2) := by decide +kernel
theorem d_Cover_leastLack_12 : decode b_Cover_leastLack 12 = .ok (.iconst 0, 1) := by decide +kernel
theorem d_Cover_leastLack_13 : decode b_Cover_leastLack 13 = .ok (.istore 5, 2) := by decide +kernel
theorem d_Cover_leastLack_15 : decode b_Cover_leastLack 15 = .ok (.iload 5, 2) := by decide +kernel
theorem d_Cover_leastLack_17 : decode b_Cover_leastLack 17 = .ok (.aload_n 1, 1) := by decide +kernel
theorem d_Cover_leastLack_18 : decode b_Cover_leastLack 18 = .ok (.getfield 31, 3) := by decide +kernel
theorem d_Cover_leastLack_21 : decode b_Cover_leastLack 21 = .ok (.if_icmp .ge 108, 3) := by decide +kernel
theorem d_Cover_leastLack_24 : decode b_Cover_leastLack 24 = .ok (.iconst 1, 1) := by decide +kernel
theorem d_Cover_leastLack_25 : decode b_Cover_leastLack 25 = .ok (.iload 5, 2) := by decide +kernel
theorem d_Cover_leastLack_27 : decode b_Cover_leastLack 27 = .ok (.ishl, 1) := by decide +kernel
theorem d_Cover_leastLack_28 : decode b_Cover_leastLack 28 = .ok (.istore 6, 2) := by decide +kernel
theorem d_Cover_leastLack_30 : decode b_Cover_leastLack 30 = .ok (.iconst 0, 1) := by decide +kernel
theorem d_Cover_leastLack_31 : decode b_Cover_leastLack 31 = .ok (.istore 7, 2) := by decide +kernel
theorem d_Cover_leastLack_33 : decode b_Cover_leastLack 33 = .ok (.iload 7, 2) := by decide +kernel
theorem d_Cover_leastLack_35 : decode b_Cover_leastLack 35 = .ok (.iload 6, 2) := by decide +kernel
theorem d_Cover_leastLack_37 : decode b_Cover_leastLack 37 = .ok (.if_icmp .ge 86, 3) := by decide +kernel
theorem d_Cover_leastLack_40 : decode b_Cover_leastLack 40 = .ok (.iload 6, 2) := by decide +kernel
theorem d_Cover_leastLack_42 : decode b_Cover_leastLack 42 = .ok (.iload 7, 2) := by decide +kernel
theorem d_Cover_leastLack_44 : decode b_Cover_leastLack 44 = .ok (.ior, 1) := by decide +kernel
theorem d_Cover_leastLack_45 : decode b_Cover_leastLack 45 = .ok (.istore 8, 2) := by decide +kernel
theorem d_Cover_leastLack_47 : decode b_Cover_leastLack 47 = .ok (.aload_n 0, 1) := by decide +kernel
theorem d_Cover_leastLack_48 : decode b_Cover_leastLack 48 = .ok (.getfield 18, 3) := by decide +kernel
theorem d_Cover_leastLack_51 : decode b_Cover_leastLack 51 = .ok (.iload 8, 2) := by decide +kernel
theorem d_Cover_leastLack_53 : decode b_Cover_leastLack 53 = .ok (.aload_n 0, 1) := by decide +kernel
theorem d_Cover_leastLack_54 : decode b_Cover_leastLack 54 = .ok (.getfield 18, 3) := by decide +kernel
theorem d_Cover_leastLack_57 : decode b_Cover_leastLack 57 = .ok (.iload 7, 2) := by decide +kernel
theorem d_Cover_leastLack_59 : decode b_Cover_leastLack 59 = .ok (.iaload, 1) := by decide +kernel
theorem d_Cover_leastLack_60 : decode b_Cover_leastLack 60 = .ok (.aload_n 0, 1) := by decide +kernel
theorem d_Cover_leastLack_61 : decode b_Cover_leastLack 61 = .ok (.getfield 9, 3) := by decide +kernel
theorem d_Cover_leastLack_64 : decode b_Cover_leastLack 64 = .ok (.iload 5, 2) := by decide +kernel
theorem d_Cover_leastLack_66 : decode b_Cover_leastLack 66 = .ok (.iaload, 1) := by decide +kernel
theorem d_Cover_leastLack_67 : decode b_Cover_leastLack 67 = .ok (.ior, 1) := by decide +kernel
theorem d_Cover_leastLack_68 : decode b_Cover_leastLack 68 = .ok (.iastore, 1) := by decide +kernel
theorem d_Cover_leastLack_69 : decode b_Cover_leastLack 69 = .ok (.iload 8, 2) := by decide +kernel
theorem d_Cover_leastLack_71 : decode b_Cover_leastLack 71 = .ok (.invokestatic 54, 3) := by decide +kernel
theorem d_Cover_leastLack_74 : decode b_Cover_leastLack 74 = .ok (.istore 9, 2) := by decide +kernel
theorem d_Cover_leastLack_76 : decode b_Cover_leastLack 76 = .ok (.iload 8, 2) := by decide +kernel
theorem d_Cover_leastLack_78 : decode b_Cover_leastLack 78 = .ok (.aload_n 1, 1) := by decide +kernel
theorem d_Cover_leastLack_79 : decode b_Cover_leastLack 79 = .ok (.getfield 60, 3) := by decide +kernel
theorem d_Cover_leastLack_82 : decode b_Cover_leastLack 82 = .ok (.iconst (-1), 1) := by decide +kernel
theorem d_Cover_leastLack_83 : decode b_Cover_leastLack 83 = .ok (.ixor, 1) := by decide +kernel
theorem d_Cover_leastLack_84 : decode b_Cover_leastLack 84 = .ok (.iand, 1) := by decide +kernel
theorem d_Cover_leastLack_85 : decode b_Cover_leastLack 85 = .ok (.ifCond .ne 32, 3) := by decide +kernel
theorem d_Cover_leastLack_88 : decode b_Cover_leastLack 88 = .ok (.iload 9, 2) := by decide +kernel
theorem d_Cover_leastLack_90 : decode b_Cover_leastLack 90 = .ok (.iload 4, 2) := by decide +kernel
theorem d_Cover_leastLack_92 : decode b_Cover_leastLack 92 = .ok (.if_icmp .ge 25, 3) := by decide +kernel
theorem d_Cover_leastLack_95 : decode b_Cover_leastLack 95 = .ok (.iload 9, 2) := by decide +kernel
theorem d_Cover_leastLack_97 : decode b_Cover_leastLack 97 = .ok (.aload_n 0, 1) := by decide +kernel
theorem d_Cover_leastLack_98 : decode b_Cover_leastLack 98 = .ok (.getfield 18, 3) := by decide +kernel
theorem d_Cover_leastLack_101 : decode b_Cover_leastLack 101 = .ok (.iload 8, 2) := by decide +kernel
theorem d_Cover_leastLack_103 : decode b_Cover_leastLack 103 = .ok (.iaload, 1) := by decide +kernel
theorem d_Cover_leastLack_104 : decode b_Cover_leastLack 104 = .ok (.invokestatic 54, 3) := by decide +kernel
theorem d_Cover_leastLack_107 : decode b_Cover_leastLack 107 = .ok (.if_icmp .le 10, 3) := by decide +kernel
theorem d_Cover_leastLack_110 : decode b_Cover_leastLack 110 = .ok (.iload 8, 2) := by decide +kernel
theorem d_Cover_leastLack_112 : decode b_Cover_leastLack 112 = .ok (.istore_n 3, 1) := by decide +kernel
theorem d_Cover_leastLack_113 : decode b_Cover_leastLack 113 = .ok (.iload 9, 2) := by decide +kernel
theorem d_Cover_leastLack_115 : decode b_Cover_leastLack 115 = .ok (.istore 4, 2) := by decide +kernel
theorem d_Cover_leastLack_117 : decode b_Cover_leastLack 117 = .ok (.iinc 7 1, 3) := by decide +kernel
theorem d_Cover_leastLack_120 : decode b_Cover_leastLack 120 = .ok (.goto (-87), 3) := by decide +kernel
theorem d_Cover_leastLack_123 : decode b_Cover_leastLack 123 = .ok (.iinc 5 1, 3) := by decide +kernel
theorem d_Cover_leastLack_126 : decode b_Cover_leastLack 126 = .ok (.goto (-111), 3) := by decide +kernel
theorem d_Cover_leastLack_129 : decode b_Cover_leastLack 129 = .ok (.iload_n 3, 1) := by decide +kernel
theorem d_Cover_leastLack_130 : decode b_Cover_leastLack 130 = .ok (.ireturn, 1) := by decide +kernel
theorem d_Library_init_0 : decode b_Library_init 0 = .ok (.aload_n 0, 1) := by decide +kernel
theorem d_Library_init_1 : decode b_Library_init 1 = .ok (.invokespecial 3, 3) := by decide +kernel
theorem d_Library_init_4 : decode b_Library_init 4 = .ok (.aload_n 0, 1) := by decide +kernel
theorem d_Library_init_5 : decode b_Library_init 5 = .ok (.bipush 10, 2) := by decide +kernel
theorem d_Library_init_7 : decode b_Library_init 7 = .ok (.anewarray 9, 3) := by decide +kernel
theorem d_Library_init_10 : decode b_Library_init 10 = .ok (.putfield 11, 3) := by decide +kernel
theorem d_Library_init_13 : decode b_Library_init 13 = .ok (.iconst 0, 1) := by decide +kernel
theorem d_Library_init_14 : decode b_Library_init 14 = .ok (.istore_n 1, 1) := by decide +kernel
theorem d_Library_init_15 : decode b_Library_init 15 = .ok (.iload_n 1, 1) := by decide +kernel
theorem d_Library_init_16 : decode b_Library_init 16 = .ok (.bipush 10, 2) := by decide +kernel
theorem d_Library_init_18 : decode b_Library_init 18 = .ok (.if_icmp .ge 22, 3) := by decide +kernel
theorem d_Library_init_21 : decode b_Library_init 21 = .ok (.aload_n 0, 1) := by decide +kernel
theorem d_Library_init_22 : decode b_Library_init 22 = .ok (.getfield 11, 3) := by decide +kernel
theorem d_Library_init_25 : decode b_Library_init 25 = .ok (.iload_n 1, 1) := by decide +kernel
theorem d_Library_init_26 : decode b_Library_init 26 = .ok (.new 9, 3) := by decide +kernel
theorem d_Library_init_29 : decode b_Library_init 29 = .ok (.dup, 1) := by decide +kernel
theorem d_Library_init_30 : decode b_Library_init 30 = .ok (.invokespecial 17, 3) := by decide +kernel
theorem d_Library_init_33 : decode b_Library_init 33 = .ok (.aastore, 1) := by decide +kernel
theorem d_Library_init_34 : decode b_Library_init 34 = .ok (.iinc 1 1, 3) := by decide +kernel
theorem d_Library_init_37 : decode b_Library_init 37 = .ok (.goto (-22), 3) := by decide +kernel
theorem d_Library_init_40 : decode b_Library_init 40 = .ok (.return_, 1) := by decide +kernel
theorem d_Library_find_0 : decode b_Library_find 0 = .ok (.iload_n 1, 1) := by decide +kernel
theorem d_Library_find_1 : decode b_Library_find 1 = .ok (.ifCond .lt 20, 3) := by decide +kernel
theorem d_Library_find_4 : decode b_Library_find 4 = .ok (.iload_n 1, 1) := by decide +kernel
theorem d_Library_find_5 : decode b_Library_find 5 = .ok (.aload_n 0, 1) := by decide +kernel
theorem d_Library_find_6 : decode b_Library_find 6 = .ok (.getfield 18, 3) := by decide +kernel
theorem d_Library_find_9 : decode b_Library_find 9 = .ok (.if_icmp .ge 12, 3) := by decide +kernel
theorem d_Library_find_12 : decode b_Library_find 12 = .ok (.aload_n 0, 1) := by decide +kernel
theorem d_Library_find_13 : decode b_Library_find 13 = .ok (.getfield 11, 3) := by decide +kernel
theorem d_Library_find_16 : decode b_Library_find 16 = .ok (.iload_n 1, 1) := by decide +kernel
theorem d_Library_find_17 : decode b_Library_find 17 = .ok (.aaload, 1) := by decide +kernel
theorem d_Library_find_18 : decode b_Library_find 18 = .ok (.goto 4, 3) := by decide +kernel
theorem d_Library_find_21 : decode b_Library_find 21 = .ok (.aconst_null, 1) := by decide +kernel
theorem d_Library_find_22 : decode b_Library_find 22 = .ok (.areturn, 1) := by decide +kernel
theorem d_Library_readText_0 : decode b_Library_readText 0 = .ok (.aload_n 0, 1) := by decide +kernel
theorem d_Library_readText_1 : decode b_Library_readText 1 = .ok (.iconst 0, 1) := by decide +kernel
theorem d_Library_readText_2 : decode b_Library_readText 2 = .ok (.putfield 22, 3) := by decide +kernel
theorem d_Library_readText_5 : decode b_Library_readText 5 = .ok (.aload_n 1, 1) := by decide +kernel
theorem d_Library_readText_6 : decode b_Library_readText 6 = .ok (.iconst 2, 1) := by decide +kernel
theorem d_Library_readText_7 : decode b_Library_readText 7 = .ok (.invokevirtual 25, 3) := by decide +kernel
theorem d_Library_readText_10 : decode b_Library_readText 10 = .ok (.iconst 0, 1) := by decide +kernel
theorem d_Library_readText_11 : decode b_Library_readText 11 = .ok (.istore_n 2, 1) := by decide +kernel
theorem d_Library_readText_12 : decode b_Library_readText 12 = .ok (.iload_n 2, 1) := by decide +kernel
theorem d_Library_readText_13 : decode b_Library_readText 13 = .ok (.sipush 800, 3) := by decide +kernel
theorem d_Library_readText_16 : decode b_Library_readText 16 = .ok (.if_icmp .ge 23, 3) := by decide +kernel
theorem d_Library_readText_19 : decode b_Library_readText 19 = .ok (.aload_n 1, 1) := by decide +kernel
theorem d_Library_readText_20 : decode b_Library_readText 20 = .ok (.ldc 31, 2) := by decide +kernel
theorem d_Library_readText_22 : decode b_Library_readText 22 = .ok (.invokevirtual 33, 3) := by decide +kernel
theorem d_Library_readText_25 : decode b_Library_readText 25 = .ok (.ifCond .eq 14, 3) := by decide +kernel
theorem d_Library_readText_28 : decode b_Library_readText 28 = .ok (.aload_n 0, 1) := by decide +kernel
theorem d_Library_readText_29 : decode b_Library_readText 29 = .ok (.aload_n 1, 1) := by decide +kernel
theorem d_Library_readText_30 : decode b_Library_readText 30 = .ok (.invokevirtual 37, 3) := by decide +kernel
theorem d_Library_readText_33 : decode b_Library_readText 33 = .ok (.iinc 2 1, 3) := by decide +kernel
theorem d_Library_readText_36 : decode b_Library_readText 36 = .ok (.goto (-24), 3) := by decide +kernel
theorem d_Library_readText_39 : decode b_Library_readText 39 = .ok (.aload_n 1, 1) := by decide +kernel
theorem d_Library_readText_40 : decode b_Library_readText 40 = .ok (.invokevirtual 41, 3) := by decide +kernel
theorem d_Library_readText_43 : decode b_Library_readText 43 = .ok (.ifCond .ne 5, 3) := by decide +kernel
theorem d_Library_readText_46 : decode b_Library_readText 46 = .ok (.iconst 0, 1) := by decide +kernel
theorem d_Library_readText_47 : decode b_Library_readText 47 = .ok (.ireturn, 1) := by decide +kernel
theorem d_Library_readText_48 : decode b_Library_readText 48 = .ok (.aload_n 0, 1) := by decide +kernel
theorem d_Library_readText_49 : decode b_Library_readText 49 = .ok (.dup, 1) := by decide +kernel
theorem d_Library_readText_50 : decode b_Library_readText 50 = .ok (.getfield 18, 3) := by decide +kernel
theorem d_Library_readText_53 : decode b_Library_readText 53 = .ok (.aload_n 0, 1) := by decide +kernel
theorem d_Library_readText_54 : decode b_Library_readText 54 = .ok (.getfield 22, 3) := by decide +kernel
theorem d_Library_readText_57 : decode b_Library_readText 57 = .ok (.iadd, 1) := by decide +kernel
theorem d_Library_readText_58 : decode b_Library_readText 58 = .ok (.putfield 18, 3) := by decide +kernel
theorem d_Library_readText_61 : decode b_Library_readText 61 = .ok (.iconst 1, 1) := by decide +kernel
theorem d_Library_readText_62 : decode b_Library_readText 62 = .ok (.ireturn, 1) := by decide +kernel
theorem d_Library_readPiece_0 : decode b_Library_readPiece 0 = .ok (.aload_n 0, 1) := by decide +kernel
theorem d_Library_readPiece_1 : decode b_Library_readPiece 1 = .ok (.getfield 18, 3) := by decide +kernel
theorem d_Library_readPiece_4 : decode b_Library_readPiece 4 = .ok (.aload_n 0, 1) := by decide +kernel
theorem d_Library_readPiece_5 : decode b_Library_readPiece 5 = .ok (.getfield 22, 3) := by decide +kernel
theorem d_Library_readPiece_8 : decode b_Library_readPiece 8 = .ok (.iadd, 1) := by decide +kernel
theorem d_Library_readPiece_9 : decode b_Library_readPiece 9 = .ok (.bipush 10, 2) := by decide +kernel
theorem d_Library_readPiece_11 : decode b_Library_readPiece 11 = .ok (.if_icmp .lt 9, 3) := by decide +kernel
theorem d_Library_readPiece_14 : decode b_Library_readPiece 14 = .ok (.aload_n 1, 1) := by decide +kernel
theorem d_Library_readPiece_15 : decode b_Library_readPiece 15 = .ok (.iconst 4, 1) := by decide +kernel
theorem d_Library_readPiece_16 : decode b_Library_readPiece 16 = .ok (.invokevirtual 45, 3) := by decide +kernel
theorem d_Library_readPiece_19 : decode b_Library_readPiece 19 = .ok (.return_, 1) := by decide +kernel
theorem d_Library_readPiece_20 : decode b_Library_readPiece 20 = .ok (.aload_n 0, 1) := by decide +kernel
theorem d_Library_readPiece_21 : decode b_Library_readPiece 21 = .ok (.getfield 11, 3) := by decide +kernel
theorem d_Library_readPiece_24 : decode b_Library_readPiece 24 = .ok (.aload_n 0, 1) := by decide +kernel
theorem d_Library_readPiece_25 : decode b_Library_readPiece 25 = .ok (.getfield 18, 3) := by decide +kernel
theorem d_Library_readPiece_28 : decode b_Library_readPiece 28 = .ok (.aload_n 0, 1) := by decide +kernel
theorem d_Library_readPiece_29 : decode b_Library_readPiece 29 = .ok (.getfield 22, 3) := by decide +kernel
theorem d_Library_readPiece_32 : decode b_Library_readPiece 32 = .ok (.iadd, 1) := by decide +kernel
theorem d_Library_readPiece_33 : decode b_Library_readPiece 33 = .ok (.aaload, 1) := by decide +kernel
theorem d_Library_readPiece_34 : decode b_Library_readPiece 34 = .ok (.astore_n 2, 1) := by decide +kernel
theorem d_Library_readPiece_35 : decode b_Library_readPiece 35 = .ok (.aload_n 2, 1) := by decide +kernel
theorem d_Library_readPiece_36 : decode b_Library_readPiece 36 = .ok (.invokevirtual 48, 3) := by decide +kernel
theorem d_Library_readPiece_39 : decode b_Library_readPiece 39 = .ok (.aload_n 1, 1) := by decide +kernel
theorem d_Library_readPiece_40 : decode b_Library_readPiece 40 = .ok (.invokevirtual 51, 3) := by decide +kernel
theorem d_Library_readPiece_43 : decode b_Library_readPiece 43 = .ok (.aload_n 2, 1) := by decide +kernel
theorem d_Library_readPiece_44 : decode b_Library_readPiece 44 = .ok (.aload_n 0, 1) := by decide +kernel
theorem d_Library_readPiece_45 : decode b_Library_readPiece 45 = .ok (.aload_n 1, 1) := by decide +kernel
theorem d_Library_readPiece_46 : decode b_Library_readPiece 46 = .ok (.invokevirtual 54, 3) := by decide +kernel
theorem d_Library_readPiece_49 : decode b_Library_readPiece 49 = .ok (.putfield 58, 3) := by decide +kernel
theorem d_Library_readPiece_52 : decode b_Library_readPiece 52 = .ok (.aload_n 1, 1) := by decide +kernel
theorem d_Library_readPiece_53 : decode b_Library_readPiece 53 = .ok (.bipush 58, 2) := by decide +kernel
theorem d_Library_readPiece_55 : decode b_Library_readPiece 55 = .ok (.invokevirtual 61, 3) := by decide +kernel
theorem d_Library_readPiece_58 : decode b_Library_readPiece 58 = .ok (.aload_n 2, 1) := by decide +kernel
theorem d_Library_readPiece_59 : decode b_Library_readPiece 59 = .ok (.aload_n 1, 1) := by decide +kernel
theorem d_Library_readPiece_60 : decode b_Library_readPiece 60 = .ok (.iconst 1, 1) := by decide +kernel
theorem d_Library_readPiece_61 : decode b_Library_readPiece 61 = .ok (.bipush 60, 2) := by decide +kernel
theorem d_Library_readPiece_63 : decode b_Library_readPiece 63 = .ok (.invokestatic 64, 3) := by decide +kernel
theorem d_Library_readPiece_66 : decode b_Library_readPiece 66 = .ok (.putfield 68, 3) := by decide +kernel
theorem d_Library_readPiece_69 : decode b_Library_readPiece 69 = .ok (.aload_n 2, 1) := by decide +kernel
theorem d_Library_readPiece_70 : decode b_Library_readPiece 70 = .ok (.aload_n 1, 1) := by decide +kernel
theorem d_Library_readPiece_71 : decode b_Library_readPiece 71 = .ok (.iconst 0, 1) := by decide +kernel
theorem d_Library_readPiece_72 : decode b_Library_readPiece 72 = .ok (.bipush 9, 2) := by decide +kernel
theorem d_Library_readPiece_74 : decode b_Library_readPiece 74 = .ok (.invokestatic 64, 3) := by decide +kernel
theorem d_Library_readPiece_77 : decode b_Library_readPiece 77 = .ok (.putfield 71, 3) := by decide +kernel
theorem d_Library_readPiece_80 : decode b_Library_readPiece 80 = .ok (.aload_n 2, 1) := by decide +kernel
theorem d_Library_readPiece_81 : decode b_Library_readPiece 81 = .ok (.aload_n 1, 1) := by decide +kernel
theorem d_Library_readPiece_82 : decode b_Library_readPiece 82 = .ok (.iconst 0, 1) := by decide +kernel
theorem d_Library_readPiece_83 : decode b_Library_readPiece 83 = .ok (.bipush 11, 2) := by decide +kernel
theorem d_Library_readPiece_85 : decode b_Library_readPiece 85 = .ok (.invokestatic 64, 3) := by decide +kernel
theorem d_Library_readPiece_88 : decode b_Library_readPiece 88 = .ok (.putfield 74, 3) := by decide +kernel
theorem d_Library_readPiece_91 : decode b_Library_readPiece 91 = .ok (.iconst 0, 1) := by decide +kernel
theorem d_Library_readPiece_92 : decode b_Library_readPiece 92 = .ok (.istore_n 3, 1) := by decide +kernel
theorem d_Library_readPiece_93 : decode b_Library_readPiece 93 = .ok (.iload_n 3, 1) := by decide +kernel
theorem d_Library_readPiece_94 : decode b_Library_readPiece 94 = .ok (.sipush 800, 3) := by decide +kernel
theorem d_Library_readPiece_97 : decode b_Library_readPiece 97 = .ok (.if_icmp .ge 23, 3) := by decide +kernel
theorem d_Library_readPiece_100 : decode b_Library_readPiece 100 = .ok (.aload_n 1, 1) := by decide +kernel
theorem d_Library_readPiece_101 : decode b_Library_readPiece 101 = .ok (.getfield 77, 3) := by decide +kernel
theorem d_Library_readPiece_104 : decode b_Library_readPiece 104 = .ok (.bipush 44, 2) := by decide +kernel
theorem d_Library_readPiece_106 : decode b_Library_readPiece 106 = .ok (.if_icmp .ne 14, 3) := by decide +kernel
theorem d_Library_readPiece_109 : decode b_Library_readPiece 109 = .ok (.aload_n 1, 1) := by decide +kernel
theorem d_Library_readPiece_110 : decode b_Library_readPiece 110 = .ok (.aload_n 2, 1) := by decide +kernel
theorem d_Library_readPiece_111 : decode b_Library_readPiece 111 = .ok (.invokestatic 80, 3) := by decide +kernel
theorem d_Library_readPiece_114 : decode b_Library_readPiece 114 = .ok (.iinc 3 1, 3) := by decide +kernel
theorem d_Library_readPiece_117 : decode b_Library_readPiece 117 = .ok (.goto (-24), 3) := by decide +kernel
theorem d_Library_readPiece_120 : decode b_Library_readPiece 120 = .ok (.aload_n 1, 1) := by decide +kernel
theorem d_Library_readPiece_121 : decode b_Library_readPiece 121 = .ok (.bipush 59, 2) := by decide +kernel
theorem d_Library_readPiece_123 : decode b_Library_readPiece 123 = .ok (.invokevirtual 61, 3) := by decide +kernel
theorem d_Library_readPiece_126 : decode b_Library_readPiece 126 = .ok (.aload_n 0, 1) := by decide +kernel
theorem d_Library_readPiece_127 : decode b_Library_readPiece 127 = .ok (.dup, 1) := by decide +kernel
theorem d_Library_readPiece_128 : decode b_Library_readPiece 128 = .ok (.getfield 22, 3) := by decide +kernel
theorem d_Library_readPiece_131 : decode b_Library_readPiece 131 = .ok (.iconst 1, 1) := by decide +kernel
theorem d_Library_readPiece_132 : decode b_Library_readPiece 132 = .ok (.iadd, 1) := by decide +kernel
theorem d_Library_readPiece_133 : decode b_Library_readPiece 133 = .ok (.putfield 22, 3) := by decide +kernel
theorem d_Library_readPiece_136 : decode b_Library_readPiece 136 = .ok (.return_, 1) := by decide +kernel
theorem d_Library_readName_0 : decode b_Library_readName 0 = .ok (.aload_n 1, 1) := by decide +kernel
theorem d_Library_readName_1 : decode b_Library_readName 1 = .ok (.getfield 84, 3) := by decide +kernel
theorem d_Library_readName_4 : decode b_Library_readName 4 = .ok (.istore_n 2, 1) := by decide +kernel
theorem d_Library_readName_5 : decode b_Library_readName 5 = .ok (.aload_n 1, 1) := by decide +kernel
theorem d_Library_readName_6 : decode b_Library_readName 6 = .ok (.getfield 77, 3) := by decide +kernel
theorem d_Library_readName_9 : decode b_Library_readName 9 = .ok (.bipush (-3), 2) := by decide +kernel
theorem d_Library_readName_11 : decode b_Library_readName 11 = .ok (.if_icmp .ne 10, 3) := by decide +kernel
theorem d_Library_readName_14 : decode b_Library_readName 14 = .ok (.aload_n 1, 1) := by decide +kernel
theorem d_Library_readName_15 : decode b_Library_readName 15 = .ok (.invokestatic 87, 3) := by decide +kernel
theorem d_Library_readName_18 : decode b_Library_readName 18 = .ok (.ifCond .eq 11, 3) := by decide +kernel
theorem d_Library_readName_21 : decode b_Library_readName 21 = .ok (.aload_n 1, 1) := by decide +kernel
theorem d_Library_readName_22 : decode b_Library_readName 22 = .ok (.iconst 1, 1) := by decide +kernel
theorem d_Library_readName_23 : decode b_Library_readName 23 = .ok (.invokevirtual 45, 3) := by decide +kernel
theorem d_Library_readName_26 : decode b_Library_readName 26 = .ok (.goto 16, 3) := by decide +kernel
theorem d_Library_readName_29 : decode b_Library_readName 29 = .ok (.aload_n 0, 1) := by decide +kernel
theorem d_Library_readName_30 : decode b_Library_readName 30 = .ok (.iload_n 2, 1) := by decide +kernel
theorem d_Library_readName_31 : decode b_Library_readName 31 = .ok (.invokevirtual 91, 3) := by decide +kernel
theorem d_Library_readName_34 : decode b_Library_readName 34 = .ok (.ifCond .eq 8, 3) := by decide +kernel
theorem d_Library_readName_37 : decode b_Library_readName 37 = .ok (.aload_n 1, 1) := by decide +kernel
theorem d_Library_readName_38 : decode b_Library_readName 38 = .ok (.iconst 2, 1) := by decide +kernel
theorem d_Library_readName_39 : decode b_Library_readName 39 = .ok (.invokevirtual 45, 3) := by decide +kernel
theorem d_Library_readName_42 : decode b_Library_readName 42 = .ok (.aload_n 1, 1) := by decide +kernel
theorem d_Library_readName_43 : decode b_Library_readName 43 = .ok (.invokevirtual 51, 3) := by decide +kernel
theorem d_Library_readName_46 : decode b_Library_readName 46 = .ok (.iload_n 2, 1) := by decide +kernel
theorem d_Library_readName_47 : decode b_Library_readName 47 = .ok (.ireturn, 1) := by decide +kernel
theorem d_Library_isWord_0 : decode b_Library_isWord 0 = .ok (.aload_n 0, 1) := by decide +kernel
theorem d_Library_isWord_1 : decode b_Library_isWord 1 = .ok (.ldc 31, 2) := by decide +kernel
theorem d_Library_isWord_3 : decode b_Library_isWord 3 = .ok (.invokevirtual 33, 3) := by decide +kernel
theorem d_Library_isWord_6 : decode b_Library_isWord 6 = .ok (.ifCond .ne 30, 3) := by decide +kernel
theorem d_Library_isWord_9 : decode b_Library_isWord 9 = .ok (.aload_n 0, 1) := by decide +kernel
theorem d_Library_isWord_10 : decode b_Library_isWord 10 = .ok (.ldc 95, 2) := by decide +kernel
theorem d_Library_isWord_12 : decode b_Library_isWord 12 = .ok (.invokevirtual 33, 3) := by decide +kernel
theorem d_Library_isWord_15 : decode b_Library_isWord 15 = .ok (.ifCond .ne 21, 3) := by decide +kernel
theorem d_Library_isWord_18 : decode b_Library_isWord 18 = .ok (.aload_n 0, 1) := by decide +kernel
theorem d_Library_isWord_19 : decode b_Library_isWord 19 = .ok (.ldc 97, 2) := by decide +kernel
theorem d_Library_isWord_21 : decode b_Library_isWord 21 = .ok (.invokevirtual 33, 3) := by decide +kernel
theorem d_Library_isWord_24 : decode b_Library_isWord 24 = .ok (.ifCond .ne 12, 3) := by decide +kernel
theorem d_Library_isWord_27 : decode b_Library_isWord 27 = .ok (.aload_n 0, 1) := by decide +kernel
theorem d_Library_isWord_28 : decode b_Library_isWord 28 = .ok (.ldc 99, 2) := by decide +kernel
theorem d_Library_isWord_30 : decode b_Library_isWord 30 = .ok (.invokevirtual 33, 3) := by decide +kernel
theorem d_Library_isWord_33 : decode b_Library_isWord 33 = .ok (.ifCond .eq 7, 3) := by decide +kernel
theorem d_Library_isWord_36 : decode b_Library_isWord 36 = .ok (.iconst 1, 1) := by decide +kernel
theorem d_Library_isWord_37 : decode b_Library_isWord 37 = .ok (.goto 4, 3) := by decide +kernel
theorem d_Library_isWord_40 : decode b_Library_isWord 40 = .ok (.iconst 0, 1) := by decide +kernel
theorem d_Library_isWord_41 : decode b_Library_isWord 41 = .ok (.ireturn, 1) := by decide +kernel
theorem d_Library_hasName_0 : decode b_Library_hasName 0 = .ok (.iconst 0, 1) := by decide +kernel
theorem d_Library_hasName_1 : decode b_Library_hasName 1 = .ok (.istore_n 2, 1) := by decide +kernel
theorem d_Library_hasName_2 : decode b_Library_hasName 2 = .ok (.iload_n 2, 1) := by decide +kernel
theorem d_Library_hasName_3 : decode b_Library_hasName 3 = .ok (.aload_n 0, 1) := by decide +kernel
theorem d_Library_hasName_4 : decode b_Library_hasName 4 = .ok (.getfield 18, 3) := by decide +kernel
theorem d_Library_hasName_7 : decode b_Library_hasName 7 = .ok (.aload_n 0, 1) := by decide +kernel
theorem d_Library_hasName_8 : decode b_Library_hasName 8 = .ok (.getfield 22, 3) := by decide +kernel
theorem d_Library_hasName_11 : decode b_Library_hasName 11 = .ok (.iadd, 1) := by decide +kernel
theorem d_Library_hasName_12 : decode b_Library_hasName 12 = .ok (.if_icmp .ge 30, 3) := by decide +kernel
theorem d_Library_hasName_15 : decode b_Library_hasName 15 = .ok (.iload_n 2, 1) := by decide +kernel
theorem d_Library_hasName_16 : decode b_Library_hasName 16 = .ok (.bipush 10, 2) := by decide +kernel
theorem d_Library_hasName_18 : decode b_Library_hasName 18 = .ok (.if_icmp .ge 24, 3) := by decide +kernel
theorem d_Library_hasName_21 : decode b_Library_hasName 21 = .ok (.aload_n 0, 1) := by decide +kernel
theorem d_Library_hasName_22 : decode b_Library_hasName 22 = .ok (.getfield 11, 3) := by decide +kernel
theorem d_Library_hasName_25 : decode b_Library_hasName 25 = .ok (.iload_n 2, 1) := by decide +kernel
theorem d_Library_hasName_26 : decode b_Library_hasName 26 = .ok (.aaload, 1) := by decide +kernel
theorem d_Library_hasName_27 : decode b_Library_hasName 27 = .ok (.getfield 58, 3) := by decide +kernel
theorem d_Library_hasName_30 : decode b_Library_hasName 30 = .ok (.iload_n 1, 1) := by decide +kernel
theorem d_Library_hasName_31 : decode b_Library_hasName 31 = .ok (.if_icmp .ne 5, 3) := by decide +kernel
theorem d_Library_hasName_34 : decode b_Library_hasName 34 = .ok (.iconst 1, 1) := by decide +kernel
theorem d_Library_hasName_35 : decode b_Library_hasName 35 = .ok (.ireturn, 1) := by decide +kernel
theorem d_Library_hasName_36 : decode b_Library_hasName 36 = .ok (.iinc 2 1, 3) := by decide +kernel
theorem d_Library_hasName_39 : decode b_Library_hasName 39 = .ok (.goto (-37), 3) := by decide +kernel
theorem d_Library_hasName_42 : decode b_Library_hasName 42 = .ok (.iconst 0, 1) := by decide +kernel
theorem d_Library_hasName_43 : decode b_Library_hasName 43 = .ok (.ireturn, 1) := by decide +kernel
theorem d_Library_readNumber_0 : decode b_Library_readNumber 0 = .ok (.aload_n 0, 1) := by decide +kernel
theorem d_Library_readNumber_1 : decode b_Library_readNumber 1 = .ok (.getfield 84, 3) := by decide +kernel
theorem d_Library_readNumber_4 : decode b_Library_readNumber 4 = .ok (.istore_n 3, 1) := by decide +kernel
theorem d_Library_readNumber_5 : decode b_Library_readNumber 5 = .ok (.aload_n 0, 1) := by decide +kernel
theorem d_Library_readNumber_6 : decode b_Library_readNumber 6 = .ok (.getfield 77, 3) := by decide +kernel
theorem d_Library_readNumber_9 : decode b_Library_readNumber 9 = .ok (.bipush (-2), 2) := by decide +kernel
theorem d_Library_readNumber_11 : decode b_Library_readNumber 11 = .ok (.if_icmp .eq 11, 3) := by decide +kernel
theorem d_Library_readNumber_14 : decode b_Library_readNumber 14 = .ok (.aload_n 0, 1) := by decide +kernel
theorem d_Library_readNumber_15 : decode b_Library_readNumber 15 = .ok (.iconst 1, 1) := by decide +kernel
theorem d_Library_readNumber_16 : decode b_Library_readNumber 16 = .ok (.invokevirtual 45, 3) := by decide +kernel
theorem d_Library_readNumber_19 : decode b_Library_readNumber 19 = .ok (.goto 17, 3) := by decide +kernel
theorem d_Library_readNumber_22 : decode b_Library_readNumber 22 = .ok (.iload_n 3, 1) := by decide +kernel
theorem d_Library_readNumber_23 : decode b_Library_readNumber 23 = .ok (.iload_n 1, 1) := by decide +kernel
theorem d_Library_readNumber_24 : decode b_Library_readNumber 24 = .ok (.iload_n 2, 1) := by decide +kernel
theorem d_Library_readNumber_25 : decode b_Library_readNumber 25 = .ok (.invokestatic 101, 3) := by decide +kernel
theorem d_Library_readNumber_28 : decode b_Library_readNumber 28 = .ok (.ifCond .ne 8, 3) := by decide +kernel
theorem d_Library_readNumber_31 : decode b_Library_readNumber 31 = .ok (.aload_n 0, 1) := by decide +kernel
theorem d_Library_readNumber_32 : decode b_Library_readNumber 32 = .ok (.iconst 3, 1) := by decide +kernel
theorem d_Library_readNumber_33 : decode b_Library_readNumber 33 = .ok (.invokevirtual 45, 3) := by decide +kernel
theorem d_Library_readNumber_36 : decode b_Library_readNumber 36 = .ok (.aload_n 0, 1) := by decide +kernel
theorem d_Library_readNumber_37 : decode b_Library_readNumber 37 = .ok (.invokevirtual 51, 3) := by decide +kernel
theorem d_Library_readNumber_40 : decode b_Library_readNumber 40 = .ok (.iload_n 3, 1) := by decide +kernel
theorem d_Library_readNumber_41 : decode b_Library_readNumber 41 = .ok (.ireturn, 1) := by decide +kernel
theorem d_Library_readPart_0 : decode b_Library_readPart 0 = .ok (.aload_n 1, 1) := by decide +kernel
theorem d_Library_readPart_1 : decode b_Library_readPart 1 = .ok (.getfield 105, 3) := by decide +kernel
theorem d_Library_readPart_4 : decode b_Library_readPart 4 = .ok (.bipush 10, 2) := by decide +kernel
theorem d_Library_readPart_6 : decode b_Library_readPart 6 = .ok (.if_icmp .lt 9, 3) := by decide +kernel
theorem d_Library_readPart_9 : decode b_Library_readPart 9 = .ok (.aload_n 0, 1) := by decide +kernel
theorem d_Library_readPart_10 : decode b_Library_readPart 10 = .ok (.iconst 4, 1) := by decide +kernel
theorem d_Library_readPart_11 : decode b_Library_readPart 11 = .ok (.invokevirtual 45, 3) := by decide +kernel
theorem d_Library_readPart_14 : decode b_Library_readPart 14 = .ok (.return_, 1) := by decide +kernel
theorem d_Library_readPart_15 : decode b_Library_readPart 15 = .ok (.aload_n 0, 1) := by decide +kernel
theorem d_Library_readPart_16 : decode b_Library_readPart 16 = .ok (.invokevirtual 51, 3) := by decide +kernel
theorem d_Library_readPart_19 : decode b_Library_readPart 19 = .ok (.aload_n 0, 1) := by decide +kernel
theorem d_Library_readPart_20 : decode b_Library_readPart 20 = .ok (.ldc 95, 2) := by decide +kernel
theorem d_Library_readPart_22 : decode b_Library_readPart 22 = .ok (.invokevirtual 33, 3) := by decide +kernel
theorem d_Library_readPart_25 : decode b_Library_readPart 25 = .ok (.istore_n 2, 1) := by decide +kernel
theorem d_Library_readPart_26 : decode b_Library_readPart 26 = .ok (.iload_n 2, 1) := by decide +kernel
theorem d_Library_readPart_27 : decode b_Library_readPart 27 = .ok (.ifCond .ne 17, 3) := by decide +kernel
theorem d_Library_readPart_30 : decode b_Library_readPart 30 = .ok (.aload_n 0, 1) := by decide +kernel
theorem d_Library_readPart_31 : decode b_Library_readPart 31 = .ok (.ldc 97, 2) := by decide +kernel
theorem d_Library_readPart_33 : decode b_Library_readPart 33 = .ok (.invokevirtual 33, 3) := by decide +kernel
theorem d_Library_readPart_36 : decode b_Library_readPart 36 = .ok (.ifCond .ne 8, 3) := by decide +kernel
theorem d_Library_readPart_39 : decode b_Library_readPart 39 = .ok (.aload_n 0, 1) := by decide +kernel
theorem d_Library_readPart_40 : decode b_Library_readPart 40 = .ok (.iconst 1, 1) := by decide +kernel
theorem d_Library_readPart_41 : decode b_Library_readPart 41 = .ok (.invokevirtual 45, 3) := by decide +kernel
theorem d_Library_readPart_44 : decode b_Library_readPart 44 = .ok (.aload_n 0, 1) := by decide +kernel
theorem d_Library_readPart_45 : decode b_Library_readPart 45 = .ok (.invokevirtual 51, 3) := by decide +kernel
theorem d_Library_readPart_48 : decode b_Library_readPart 48 = .ok (.aload_n 1, 1) := by decide +kernel
theorem d_Library_readPart_49 : decode b_Library_readPart 49 = .ok (.iload_n 2, 1) := by decide +kernel
theorem d_Library_readPart_50 : decode b_Library_readPart 50 = .ok (.invokevirtual 108, 3) := by decide +kernel
theorem d_Library_readPart_53 : decode b_Library_readPart 53 = .ok (.aload_n 0, 1) := by decide +kernel
theorem d_Library_readPart_54 : decode b_Library_readPart 54 = .ok (.aload_n 1, 1) := by decide +kernel
theorem d_Library_readPart_55 : decode b_Library_readPart 55 = .ok (.aload_n 1, 1) := by decide +kernel
theorem d_Library_readPart_56 : decode b_Library_readPart 56 = .ok (.getfield 105, 3) := by decide +kernel
theorem d_Library_readPart_59 : decode b_Library_readPart 59 = .ok (.iconst 1, 1) := by decide +kernel
theorem d_Library_readPart_60 : decode b_Library_readPart 60 = .ok (.isub, 1) := by decide +kernel
theorem d_Library_readPart_61 : decode b_Library_readPart 61 = .ok (.invokestatic 112, 3) := by decide +kernel
theorem d_Library_readPart_64 : decode b_Library_readPart 64 = .ok (.iconst 1, 1) := by decide +kernel
theorem d_Library_readPart_65 : decode b_Library_readPart 65 = .ok (.istore_n 3, 1) := by decide +kernel
theorem d_Library_readPart_66 : decode b_Library_readPart 66 = .ok (.iload_n 3, 1) := by decide +kernel
theorem d_Library_readPart_67 : decode b_Library_readPart 67 = .ok (.iconst 4, 1) := by decide +kernel
theorem d_Library_readPart_68 : decode b_Library_readPart 68 = .ok (.if_icmp .gt 43, 3) := by decide +kernel
theorem d_Library_readPart_71 : decode b_Library_readPart 71 = .ok (.aload_n 0, 1) := by decide +kernel
theorem d_Library_readPart_72 : decode b_Library_readPart 72 = .ok (.ldc 99, 2) := by decide +kernel
theorem d_Library_readPart_74 : decode b_Library_readPart 74 = .ok (.invokevirtual 33, 3) := by decide +kernel
theorem d_Library_readPart_77 : decode b_Library_readPart 77 = .ok (.ifCond .eq 34, 3) := by decide +kernel
theorem d_Library_readPart_80 : decode b_Library_readPart 80 = .ok (.iload_n 3, 1) := by decide +kernel
theorem d_Library_readPart_81 : decode b_Library_readPart 81 = .ok (.iconst 4, 1) := by decide +kernel
theorem d_Library_readPart_82 : decode b_Library_readPart 82 = .ok (.if_icmp .ne 8, 3) := by decide +kernel
theorem d_Library_readPart_85 : decode b_Library_readPart 85 = .ok (.aload_n 0, 1) := by decide +kernel
theorem d_Library_readPart_86 : decode b_Library_readPart 86 = .ok (.iconst 4, 1) := by decide +kernel
theorem d_Library_readPart_87 : decode b_Library_readPart 87 = .ok (.invokevirtual 45, 3) := by decide +kernel
theorem d_Library_readPart_90 : decode b_Library_readPart 90 = .ok (.aload_n 0, 1) := by decide +kernel
theorem d_Library_readPart_91 : decode b_Library_readPart 91 = .ok (.invokevirtual 51, 3) := by decide +kernel
theorem d_Library_readPart_94 : decode b_Library_readPart 94 = .ok (.aload_n 0, 1) := by decide +kernel
theorem d_Library_readPart_95 : decode b_Library_readPart 95 = .ok (.aload_n 1, 1) := by decide +kernel
theorem d_Library_readPart_96 : decode b_Library_readPart 96 = .ok (.aload_n 1, 1) := by decide +kernel
theorem d_Library_readPart_97 : decode b_Library_readPart 97 = .ok (.getfield 105, 3) := by decide +kernel
theorem d_Library_readPart_100 : decode b_Library_readPart 100 = .ok (.iconst 1, 1) := by decide +kernel
theorem d_Library_readPart_101 : decode b_Library_readPart 101 = .ok (.isub, 1) := by decide +kernel
theorem d_Library_readPart_102 : decode b_Library_readPart 102 = .ok (.invokestatic 112, 3) := by decide +kernel
theorem d_Library_readPart_105 : decode b_Library_readPart 105 = .ok (.iinc 3 1, 3) := by decide +kernel
theorem d_Library_readPart_108 : decode b_Library_readPart 108 = .ok (.goto (-42), 3) := by decide +kernel
theorem d_Library_readPart_111 : decode b_Library_readPart 111 = .ok (.return_, 1) := by decide +kernel
theorem d_Library_readInstrument_0 : decode b_Library_readInstrument 0 = .ok (.aload_n 0, 1) := by decide +kernel
theorem d_Library_readInstrument_1 : decode b_Library_readInstrument 1 = .ok (.getfield 77, 3) := by decide +kernel
theorem d_Library_readInstrument_4 : decode b_Library_readInstrument 4 = .ok (.bipush (-2), 2) := by decide +kernel
theorem d_Library_readInstrument_6 : decode b_Library_readInstrument 6 = .ok (.if_icmp .ne 20, 3) := by decide +kernel
theorem d_Library_readInstrument_9 : decode b_Library_readInstrument 9 = .ok (.aload_n 1, 1) := by decide +kernel
theorem d_Library_readInstrument_10 : decode b_Library_readInstrument 10 = .ok (.iload_n 2, 1) := by decide +kernel
theorem d_Library_readInstrument_11 : decode b_Library_readInstrument 11 = .ok (.aload_n 0, 1) := by decide +kernel
theorem d_Library_readInstrument_12 : decode b_Library_readInstrument 12 = .ok (.getfield 84, 3) := by decide +kernel
theorem d_Library_readInstrument_15 : decode b_Library_readInstrument 15 = .ok (.invokevirtual 116, 3) := by decide +kernel
theorem d_Library_readInstrument_18 : decode b_Library_readInstrument 18 = .ok (.ifCond .eq 8, 3) := by decide +kernel
theorem d_Library_readInstrument_21 : decode b_Library_readInstrument 21 = .ok (.aload_n 0, 1) := by decide +kernel
theorem d_Library_readInstrument_22 : decode b_Library_readInstrument 22 = .ok (.iconst 3, 1) := by decide +kernel
theorem d_Library_readInstrument_23 : decode b_Library_readInstrument 23 = .ok (.invokevirtual 45, 3) := by decide +kernel
theorem d_Library_readInstrument_26 : decode b_Library_readInstrument 26 = .ok (.aload_n 1, 1) := by decide +kernel
theorem d_Library_readInstrument_27 : decode b_Library_readInstrument 27 = .ok (.iload_n 2, 1) := by decide +kernel
theorem d_Library_readInstrument_28 : decode b_Library_readInstrument 28 = .ok (.aload_n 0, 1) := by decide +kernel
theorem d_Library_readInstrument_29 : decode b_Library_readInstrument 29 = .ok (.iconst 0, 1) := by decide +kernel
theorem d_Library_readInstrument_30 : decode b_Library_readInstrument 30 = .ok (.bipush 9, 2) := by decide +kernel
theorem d_Library_readInstrument_32 : decode b_Library_readInstrument 32 = .ok (.invokestatic 64, 3) := by decide +kernel
theorem d_Library_readInstrument_35 : decode b_Library_readInstrument 35 = .ok (.invokevirtual 120, 3) := by decide +kernel
theorem d_Library_readInstrument_38 : decode b_Library_readInstrument 38 = .ok (.return_, 1) := by decide +kernel
theorem d_Loans_init_0 : decode b_Loans_init 0 = .ok (.aload_n 0, 1) := by decide +kernel
theorem d_Loans_init_1 : decode b_Loans_init 1 = .ok (.invokespecial 3, 3) := by decide +kernel
theorem d_Loans_init_4 : decode b_Loans_init 4 = .ok (.aload_n 0, 1) := by decide +kernel
theorem d_Loans_init_5 : decode b_Loans_init 5 = .ok (.sipush 200, 3) := by decide +kernel
theorem d_Loans_init_8 : decode b_Loans_init 8 = .ok (.newarray .int, 2) := by decide +kernel
theorem d_Loans_init_10 : decode b_Loans_init 10 = .ok (.putfield 9, 3) := by decide +kernel
theorem d_Loans_init_13 : decode b_Loans_init 13 = .ok (.aload_n 0, 1) := by decide +kernel
theorem d_Loans_init_14 : decode b_Loans_init 14 = .ok (.sipush 200, 3) := by decide +kernel
theorem d_Loans_init_17 : decode b_Loans_init 17 = .ok (.newarray .int, 2) := by decide +kernel
theorem d_Loans_init_19 : decode b_Loans_init 19 = .ok (.putfield 15, 3) := by decide +kernel
theorem d_Loans_init_22 : decode b_Loans_init 22 = .ok (.aload_n 0, 1) := by decide +kernel
theorem d_Loans_init_23 : decode b_Loans_init 23 = .ok (.sipush 200, 3) := by decide +kernel
theorem d_Loans_init_26 : decode b_Loans_init 26 = .ok (.newarray .int, 2) := by decide +kernel
theorem d_Loans_init_28 : decode b_Loans_init 28 = .ok (.putfield 18, 3) := by decide +kernel
theorem d_Loans_init_31 : decode b_Loans_init 31 = .ok (.aload_n 0, 1) := by decide +kernel
theorem d_Loans_init_32 : decode b_Loans_init 32 = .ok (.bipush 30, 2) := by decide +kernel
theorem d_Loans_init_34 : decode b_Loans_init 34 = .ok (.newarray .int, 2) := by decide +kernel
theorem d_Loans_init_36 : decode b_Loans_init 36 = .ok (.putfield 21, 3) := by decide +kernel
theorem d_Loans_init_39 : decode b_Loans_init 39 = .ok (.aload_n 0, 1) := by decide +kernel
theorem d_Loans_init_40 : decode b_Loans_init 40 = .ok (.bipush 30, 2) := by decide +kernel
theorem d_Loans_init_42 : decode b_Loans_init 42 = .ok (.newarray .int, 2) := by decide +kernel
theorem d_Loans_init_44 : decode b_Loans_init 44 = .ok (.putfield 24, 3) := by decide +kernel
theorem d_Loans_init_47 : decode b_Loans_init 47 = .ok (.return_, 1) := by decide +kernel
theorem d_Loans_note_0 : decode b_Loans_note 0 = .ok (.aload_n 0, 1) := by decide +kernel
theorem d_Loans_note_1 : decode b_Loans_note 1 = .ok (.getfield 27, 3) := by decide +kernel
theorem d_Loans_note_4 : decode b_Loans_note 4 = .ok (.sipush 200, 3) := by decide +kernel
theorem d_Loans_note_7 : decode b_Loans_note 7 = .ok (.if_icmp .lt 5, 3) := by decide +kernel
theorem d_Loans_note_10 : decode b_Loans_note 10 = .ok (.iconst (-1), 1) := by decide +kernel
theorem d_Loans_note_11 : decode b_Loans_note 11 = .ok (.ireturn, 1) := by decide +kernel
theorem d_Loans_note_12 : decode b_Loans_note 12 = .ok (.aload_n 0, 1) := by decide +kernel
theorem d_Loans_note_13 : decode b_Loans_note 13 = .ok (.getfield 9, 3) := by decide +kernel
theorem d_Loans_note_16 : decode b_Loans_note 16 = .ok (.aload_n 0, 1) := by decide +kernel
theorem d_Loans_note_17 : decode b_Loans_note 17 = .ok (.getfield 27, 3) := by decide +kernel
theorem d_Loans_note_20 : decode b_Loans_note 20 = .ok (.iload_n 1, 1) := by decide +kernel
theorem d_Loans_note_21 : decode b_Loans_note 21 = .ok (.iastore, 1) := by decide +kernel
theorem d_Loans_note_22 : decode b_Loans_note 22 = .ok (.aload_n 0, 1) := by decide +kernel
theorem d_Loans_note_23 : decode b_Loans_note 23 = .ok (.getfield 15, 3) := by decide +kernel
theorem d_Loans_note_26 : decode b_Loans_note 26 = .ok (.aload_n 0, 1) := by decide +kernel
theorem d_Loans_note_27 : decode b_Loans_note 27 = .ok (.getfield 27, 3) := by decide +kernel
theorem d_Loans_note_30 : decode b_Loans_note 30 = .ok (.iload_n 2, 1) := by decide +kernel
theorem d_Loans_note_31 : decode b_Loans_note 31 = .ok (.iastore, 1) := by decide +kernel
theorem d_Loans_note_32 : decode b_Loans_note 32 = .ok (.aload_n 0, 1) := by decide +kernel
theorem d_Loans_note_33 : decode b_Loans_note 33 = .ok (.getfield 18, 3) := by decide +kernel
theorem d_Loans_note_36 : decode b_Loans_note 36 = .ok (.aload_n 0, 1) := by decide +kernel
theorem d_Loans_note_37 : decode b_Loans_note 37 = .ok (.getfield 27, 3) := by decide +kernel
theorem d_Loans_note_40 : decode b_Loans_note 40 = .ok (.iload_n 3, 1) := by decide +kernel
theorem d_Loans_note_41 : decode b_Loans_note 41 = .ok (.iastore, 1) := by decide +kernel
theorem d_Loans_note_42 : decode b_Loans_note 42 = .ok (.aload_n 0, 1) := by decide +kernel
theorem d_Loans_note_43 : decode b_Loans_note 43 = .ok (.dup, 1) := by decide +kernel
theorem d_Loans_note_44 : decode b_Loans_note 44 = .ok (.getfield 27, 3) := by decide +kernel
theorem d_Loans_note_47 : decode b_Loans_note 47 = .ok (.iconst 1, 1) := by decide +kernel
theorem d_Loans_note_48 : decode b_Loans_note 48 = .ok (.iadd, 1) := by decide +kernel
theorem d_Loans_note_49 : decode b_Loans_note 49 = .ok (.putfield 27, 3) := by decide +kernel
theorem d_Loans_note_52 : decode b_Loans_note 52 = .ok (.aload_n 0, 1) := by decide +kernel
theorem d_Loans_note_53 : decode b_Loans_note 53 = .ok (.getfield 27, 3) := by decide +kernel
theorem d_Loans_note_56 : decode b_Loans_note 56 = .ok (.iconst 1, 1) := by decide +kernel
theorem d_Loans_note_57 : decode b_Loans_note 57 = .ok (.isub, 1) := by decide +kernel
theorem d_Loans_note_58 : decode b_Loans_note 58 = .ok (.ireturn, 1) := by decide +kernel
theorem d_Loans_placeOf_0 : decode b_Loans_placeOf 0 = .ok (.aload_n 0, 1) := by decide +kernel
theorem d_Loans_placeOf_1 : decode b_Loans_placeOf 1 = .ok (.iload_n 2, 1) := by decide +kernel
theorem d_Loans_placeOf_2 : decode b_Loans_placeOf 2 = .ok (.iload_n 3, 1) := by decide +kernel
theorem d_Loans_placeOf_3 : decode b_Loans_placeOf 3 = .ok (.invokevirtual 31, 3) := by decide +kernel
theorem d_Loans_placeOf_6 : decode b_Loans_placeOf 6 = .ok (.aload_n 0, 1) := by decide +kernel
theorem d_Loans_placeOf_7 : decode b_Loans_placeOf 7 = .ok (.getfield 24, 3) := by decide +kernel
theorem d_Loans_placeOf_10 : decode b_Loans_placeOf 10 = .ok (.iload_n 1, 1) := by decide +kernel
theorem d_Loans_placeOf_11 : decode b_Loans_placeOf 11 = .ok (.iaload, 1) := by decide +kernel
theorem d_Loans_placeOf_12 : decode b_Loans_placeOf 12 = .ok (.ireturn, 1) := by decide +kernel
theorem d_Loans_copiesAt_0 : decode b_Loans_copiesAt 0 = .ok (.aload_n 0, 1) := by decide +kernel
theorem d_Loans_copiesAt_1 : decode b_Loans_copiesAt 1 = .ok (.iload_n 2, 1) := by decide +kernel
theorem d_Loans_copiesAt_2 : decode b_Loans_copiesAt 2 = .ok (.iload_n 3, 1) := by decide +kernel
theorem d_Loans_copiesAt_3 : decode b_Loans_copiesAt 3 = .ok (.invokevirtual 31, 3) := by decide +kernel
theorem d_Loans_copiesAt_6 : decode b_Loans_copiesAt 6 = .ok (.iconst 0, 1) := by decide +kernel
theorem d_Loans_copiesAt_7 : decode b_Loans_copiesAt 7 = .ok (.istore 4, 2) := by decide +kernel
theorem d_Loans_copiesAt_9 : decode b_Loans_copiesAt 9 = .ok (.iconst 0, 1) := by decide +kernel
theorem d_Loans_copiesAt_10 : decode b_Loans_copiesAt 10 = .ok (.istore 5, 2) := by decide +kernel
theorem d_Loans_copiesAt_12 : decode b_Loans_copiesAt 12 = .ok (.iload 5, 2) := by decide +kernel
theorem d_Loans_copiesAt_14 : decode b_Loans_copiesAt 14 = .ok (.bipush 30, 2) := by decide +kernel
theorem d_Loans_copiesAt_16 : decode b_Loans_copiesAt 16 = .ok (.if_icmp .ge 23, 3) := by decide +kernel
theorem d_Loans_copiesAt_19 : decode b_Loans_copiesAt 19 = .ok (.aload_n 0, 1) := by decide +kernel
theorem d_Loans_copiesAt_20 : decode b_Loans_copiesAt 20 = .ok (.getfield 24, 3) := by decide +kernel
theorem d_Loans_copiesAt_23 : decode b_Loans_copiesAt 23 = .ok (.iload 5, 2) := by decide +kernel
theorem d_Loans_copiesAt_25 : decode b_Loans_copiesAt 25 = .ok (.iaload, 1) := by decide +kernel
theorem d_Loans_copiesAt_26 : decode b_Loans_copiesAt 26 = .ok (.iload_n 1, 1) := by decide +kernel
theorem d_Loans_copiesAt_27 : decode b_Loans_copiesAt 27 = .ok (.if_icmp .ne 6, 3) := by decide +kernel
theorem d_Loans_copiesAt_30 : decode b_Loans_copiesAt 30 = .ok (.iinc 4 1, 3) := by decide +kernel
theorem d_Loans_copiesAt_33 : decode b_Loans_copiesAt 33 = .ok (.iinc 5 1, 3) := by decide +kernel
theorem d_Loans_copiesAt_36 : decode b_Loans_copiesAt 36 = .ok (.goto (-24), 3) := by decide +kernel
theorem d_Loans_copiesAt_39 : decode b_Loans_copiesAt 39 = .ok (.iload 4, 2) := by decide +kernel
theorem d_Loans_copiesAt_41 : decode b_Loans_copiesAt 41 = .ok (.ireturn, 1) := by decide +kernel
theorem d_Loans_settle_0 : decode b_Loans_settle 0 = .ok (.aload_n 0, 1) := by decide +kernel
theorem d_Loans_settle_1 : decode b_Loans_settle 1 = .ok (.getfield 21, 3) := by decide +kernel
theorem d_Loans_settle_4 : decode b_Loans_settle 4 = .ok (.iconst (-1), 1) := by decide +kernel
theorem d_Loans_settle_5 : decode b_Loans_settle 5 = .ok (.invokestatic 35, 3) := by decide +kernel
theorem d_Loans_settle_8 : decode b_Loans_settle 8 = .ok (.aload_n 0, 1) := by decide +kernel
theorem d_Loans_settle_9 : decode b_Loans_settle 9 = .ok (.getfield 24, 3) := by decide +kernel
theorem d_Loans_settle_12 : decode b_Loans_settle 12 = .ok (.iconst (-1), 1) := by decide +kernel
theorem d_Loans_settle_13 : decode b_Loans_settle 13 = .ok (.invokestatic 35, 3) := by decide +kernel
theorem d_Loans_settle_16 : decode b_Loans_settle 16 = .ok (.iconst 0, 1) := by decide +kernel
theorem d_Loans_settle_17 : decode b_Loans_settle 17 = .ok (.istore_n 3, 1) := by decide +kernel
theorem d_Loans_settle_18 : decode b_Loans_settle 18 = .ok (.iload_n 3, 1) := by decide +kernel
theorem d_Loans_settle_19 : decode b_Loans_settle 19 = .ok (.iload_n 2, 1) := by decide +kernel
theorem d_Loans_settle_20 : decode b_Loans_settle 20 = .ok (.if_icmp .ge 77, 3) := by decide +kernel
theorem d_Loans_settle_23 : decode b_Loans_settle 23 = .ok (.iload_n 3, 1) := by decide +kernel
theorem d_Loans_settle_24 : decode b_Loans_settle 24 = .ok (.aload_n 0, 1) := by decide +kernel
theorem d_Loans_settle_25 : decode b_Loans_settle 25 = .ok (.getfield 27, 3) := by decide +kernel
theorem d_Loans_settle_28 : decode b_Loans_settle 28 = .ok (.if_icmp .ge 69, 3) := by decide +kernel
theorem d_Loans_settle_31 : decode b_Loans_settle 31 = .ok (.aload_n 0, 1) := by decide +kernel
theorem d_Loans_settle_32 : decode b_Loans_settle 32 = .ok (.getfield 9, 3) := by decide +kernel
theorem d_Loans_settle_35 : decode b_Loans_settle 35 = .ok (.iload_n 3, 1) := by decide +kernel
theorem d_Loans_settle_36 : decode b_Loans_settle 36 = .ok (.iaload, 1) := by decide +kernel
theorem d_Loans_settle_37 : decode b_Loans_settle 37 = .ok (.istore 4, 2) := by decide +kernel
theorem d_Loans_settle_39 : decode b_Loans_settle 39 = .ok (.aload_n 0, 1) := by decide +kernel
theorem d_Loans_settle_40 : decode b_Loans_settle 40 = .ok (.getfield 15, 3) := by decide +kernel
theorem d_Loans_settle_43 : decode b_Loans_settle 43 = .ok (.iload_n 3, 1) := by decide +kernel
theorem d_Loans_settle_44 : decode b_Loans_settle 44 = .ok (.iaload, 1) := by decide +kernel
theorem d_Loans_settle_45 : decode b_Loans_settle 45 = .ok (.iload_n 1, 1) := by decide +kernel
theorem d_Loans_settle_46 : decode b_Loans_settle 46 = .ok (.if_icmp .gt 45, 3) := by decide +kernel
theorem d_Loans_settle_49 : decode b_Loans_settle 49 = .ok (.aload_n 0, 1) := by decide +kernel
theorem d_Loans_settle_50 : decode b_Loans_settle 50 = .ok (.getfield 15, 3) := by decide +kernel
theorem d_Loans_settle_53 : decode b_Loans_settle 53 = .ok (.iload_n 3, 1) := by decide +kernel
theorem d_Loans_settle_54 : decode b_Loans_settle 54 = .ok (.iaload, 1) := by decide +kernel
theorem d_Loans_settle_55 : decode b_Loans_settle 55 = .ok (.aload_n 0, 1) := by decide +kernel
theorem d_Loans_settle_56 : decode b_Loans_settle 56 = .ok (.getfield 21, 3) := by decide +kernel
theorem d_Loans_settle_59 : decode b_Loans_settle 59 = .ok (.iload 4, 2) := by decide +kernel
theorem d_Loans_settle_61 : decode b_Loans_settle 61 = .ok (.iaload, 1) := by decide +kernel
theorem d_Loans_settle_62 : decode b_Loans_settle 62 = .ok (.if_icmp .lt 29, 3) := by decide +kernel
theorem d_Loans_settle_65 : decode b_Loans_settle 65 = .ok (.aload_n 0, 1) := by decide +kernel
theorem d_Loans_settle_66 : decode b_Loans_settle 66 = .ok (.getfield 21, 3) := by decide +kernel
theorem d_Loans_settle_69 : decode b_Loans_settle 69 = .ok (.iload 4, 2) := by decide +kernel
theorem d_Loans_settle_71 : decode b_Loans_settle 71 = .ok (.aload_n 0, 1) := by decide +kernel
theorem d_Loans_settle_72 : decode b_Loans_settle 72 = .ok (.getfield 15, 3) := by decide +kernel
theorem d_Loans_settle_75 : decode b_Loans_settle 75 = .ok (.iload_n 3, 1) := by decide +kernel
theorem d_Loans_settle_76 : decode b_Loans_settle 76 = .ok (.iaload, 1) := by decide +kernel
theorem d_Loans_settle_77 : decode b_Loans_settle 77 = .ok (.iastore, 1) := by decide +kernel
theorem d_Loans_settle_78 : decode b_Loans_settle 78 = .ok (.aload_n 0, 1) := by decide +kernel
theorem d_Loans_settle_79 : decode b_Loans_settle 79 = .ok (.getfield 24, 3) := by decide +kernel
theorem d_Loans_settle_82 : decode b_Loans_settle 82 = .ok (.iload 4, 2) := by decide +kernel
theorem d_Loans_settle_84 : decode b_Loans_settle 84 = .ok (.aload_n 0, 1) := by decide +kernel
theorem d_Loans_settle_85 : decode b_Loans_settle 85 = .ok (.getfield 18, 3) := by decide +kernel
theorem d_Loans_settle_88 : decode b_Loans_settle 88 = .ok (.iload_n 3, 1) := by decide +kernel
theorem d_Loans_settle_89 : decode b_Loans_settle 89 = .ok (.iaload, 1) := by decide +kernel
theorem d_Loans_settle_90 : decode b_Loans_settle 90 = .ok (.iastore, 1) := by decide +kernel
theorem d_Loans_settle_91 : decode b_Loans_settle 91 = .ok (.iinc 3 1, 3) := by decide +kernel
theorem d_Loans_settle_94 : decode b_Loans_settle 94 = .ok (.goto (-76), 3) := by decide +kernel
theorem d_Loans_settle_97 : decode b_Loans_settle 97 = .ok (.return_, 1) := by decide +kernel
theorem d_Piece_init_0 : decode b_Piece_init 0 = .ok (.aload_n 0, 1) := by decide +kernel
theorem d_Piece_init_1 : decode b_Piece_init 1 = .ok (.invokespecial 3, 3) := by decide +kernel
theorem d_Piece_init_4 : decode b_Piece_init 4 = .ok (.aload_n 0, 1) := by decide +kernel
theorem d_Piece_init_5 : decode b_Piece_init 5 = .ok (.bipush 10, 2) := by decide +kernel
theorem d_Piece_init_7 : decode b_Piece_init 7 = .ok (.newarray .int, 2) := by decide +kernel
theorem d_Piece_init_9 : decode b_Piece_init 9 = .ok (.putfield 9, 3) := by decide +kernel
theorem d_Piece_init_12 : decode b_Piece_init 12 = .ok (.aload_n 0, 1) := by decide +kernel
theorem d_Piece_init_13 : decode b_Piece_init 13 = .ok (.bipush 40, 2) := by decide +kernel
theorem d_Piece_init_15 : decode b_Piece_init 15 = .ok (.newarray .int, 2) := by decide +kernel
theorem d_Piece_init_17 : decode b_Piece_init 17 = .ok (.putfield 15, 3) := by decide +kernel
theorem d_Piece_init_20 : decode b_Piece_init 20 = .ok (.aload_n 0, 1) := by decide +kernel
theorem d_Piece_init_21 : decode b_Piece_init 21 = .ok (.bipush 10, 2) := by decide +kernel
theorem d_Piece_init_23 : decode b_Piece_init 23 = .ok (.newarray .int, 2) := by decide +kernel
theorem d_Piece_init_25 : decode b_Piece_init 25 = .ok (.putfield 18, 3) := by decide +kernel
theorem d_Piece_init_28 : decode b_Piece_init 28 = .ok (.return_, 1) := by decide +kernel
theorem d_Piece_clear_0 : decode b_Piece_clear 0 = .ok (.aload_n 0, 1) := by decide +kernel
theorem d_Piece_clear_1 : decode b_Piece_clear 1 = .ok (.iconst 0, 1) := by decide +kernel
theorem d_Piece_clear_2 : decode b_Piece_clear 2 = .ok (.putfield 21, 3) := by decide +kernel
theorem d_Piece_clear_5 : decode b_Piece_clear 5 = .ok (.aload_n 0, 1) := by decide +kernel
theorem d_Piece_clear_6 : decode b_Piece_clear 6 = .ok (.iconst 0, 1) := by decide +kernel
theorem d_Piece_clear_7 : decode b_Piece_clear 7 = .ok (.putfield 25, 3) := by decide +kernel
theorem d_Piece_clear_10 : decode b_Piece_clear 10 = .ok (.aload_n 0, 1) := by decide +kernel
theorem d_Piece_clear_11 : decode b_Piece_clear 11 = .ok (.getfield 9, 3) := by decide +kernel
theorem d_Piece_clear_14 : decode b_Piece_clear 14 = .ok (.iconst 0, 1) := by decide +kernel
theorem d_Piece_clear_15 : decode b_Piece_clear 15 = .ok (.invokestatic 28, 3) := by decide +kernel
theorem d_Piece_clear_18 : decode b_Piece_clear 18 = .ok (.aload_n 0, 1) := by decide +kernel
theorem d_Piece_clear_19 : decode b_Piece_clear 19 = .ok (.getfield 18, 3) := by decide +kernel
theorem d_Piece_clear_22 : decode b_Piece_clear 22 = .ok (.iconst (-1), 1) := by decide +kernel
theorem d_Piece_clear_23 : decode b_Piece_clear 23 = .ok (.invokestatic 28, 3) := by decide +kernel
theorem d_Piece_clear_26 : decode b_Piece_clear 26 = .ok (.return_, 1) := by decide +kernel
theorem d_Piece_hasPart_0 : decode b_Piece_hasPart 0 = .ok (.iload_n 1, 1) := by decide +kernel
theorem d_Piece_hasPart_1 : decode b_Piece_hasPart 1 = .ok (.ifCond .lt 15, 3) := by decide +kernel
theorem d_Piece_hasPart_4 : decode b_Piece_hasPart 4 = .ok (.iload_n 1, 1) := by decide +kernel
theorem d_Piece_hasPart_5 : decode b_Piece_hasPart 5 = .ok (.aload_n 0, 1) := by decide +kernel
theorem d_Piece_hasPart_6 : decode b_Piece_hasPart 6 = .ok (.getfield 21, 3) := by decide +kernel
theorem d_Piece_hasPart_9 : decode b_Piece_hasPart 9 = .ok (.if_icmp .ge 7, 3) := by decide +kernel
theorem d_Piece_hasPart_12 : decode b_Piece_hasPart 12 = .ok (.iconst 1, 1) := by decide +kernel
end
section
/-! the abstract memory: values by cell and place, lengths, how many cells, how many slots -/
abbrev Mm : Type := (Nat → Nat → Int) × (Nat → Nat) × Nat × Nat
/-- a value with its tag: 0 int, 1 long, 2 + c an object of class c, 13 int row, 14 long row, 15 boolean row, 16 row of pieces, 17 the script, 18, 19 constant rows of longs, 20 a text, 22 a text's bytes, 21 (of a cell alone) a boolean -/
abbrev AV : Type := Nat × Int
def mg (M : Mm) (c k : Nat) : Int := M.1 c k
def ml (M : Mm) (c : Nat) : Nat := M.2.1 c
def mN (M : Mm) : Nat := M.2.2.1
def mZ (M : Mm) : Nat := M.2.2.2
def mp (M : Mm) (c k : Nat) (v : Int) : Mm := (fun c' k' => if c' = c ∧ k' = k then v else M.1 c' k', M.2)
def mw (M : Mm) (len : Nat) : Mm := (fun c' k' => if c' = M.2.2.1 then 0 else M.1 c' k', fun c' => if c' = M.2.2.1 then len else M.2.1 c', M.2.2.1 + 1, M.2.2.2 + len)
def cI (r : Int) : Nat := (r - 1).toNat
def ok32 (x : Int) : Prop := -2147483648 ≤ x ∧ x < 2147483648
def ok64 (x : Int) : Prop := -9223372036854775808 ≤ x ∧ x < 9223372036854775808
def w32 (x : Int) : Int := (x + 2147483648) % 4294967296 - 2147483648
def w64 (x : Int) : Int := (x + 9223372036854775808) % 18446744073709551616 - 9223372036854775808
theorem w32_ok (x : Int) : ok32 (w32 x) := by unfold ok32 w32; omega
theorem w64_ok (x : Int) : ok64 (w64 x) := by unfold ok64 w64; omega
theorem w32_id {x : Int} (h : ok32 x) : w32 x = x := by unfold ok32 at h; unfold w32; omega
theorem w64_id {x : Int} (h : ok64 x) : w64 x = x := by unfold ok64 at h; unfold w64; omega
theorem i32_t (x : Int) : (Int32.ofInt x).toInt = w32 x := by
  rw [Int32.toInt_ofInt, Int.bmod_def]; unfold w32
  simp only [Int32.size]; split <;> omega
theorem i64_t (x : Int) : (Int64.ofInt x).toInt = w64 x := by
  rw [Int64.toInt_ofInt, Int.bmod_def]; unfold w64
  simp only [Int64.size]; split <;> omega
theorem i32_w (x : Int) : Int32.ofInt (w32 x) = Int32.ofInt x := by
  apply Int32.toInt_inj.mp; rw [i32_t, i32_t, w32_id (w32_ok x)]
theorem i64_w (x : Int) : Int64.ofInt (w64 x) = Int64.ofInt x := by
  apply Int64.toInt_inj.mp; rw [i64_t, i64_t, w64_id (w64_ok x)]
theorem i32_c {x : Int} (h : ok32 x) : (Int32.ofInt x).toInt = x := by rw [i32_t, w32_id h]
theorem i64_c {x : Int} (h : ok64 x) : (Int64.ofInt x).toInt = x := by rw [i64_t, w64_id h]
theorem i32_of (x : Int32) : Int32.ofInt x.toInt = x := Int32.ofInt_toInt x
theorem i64_of (x : Int64) : Int64.ofInt x.toInt = x := Int64.ofInt_toInt x
theorem i32_ok (x : Int32) : ok32 x.toInt := by
  have h1 := x.le_toInt; have h2 := x.toInt_lt; unfold ok32; omega
theorem i64_ok (x : Int64) : ok64 x.toInt := by
  have h1 := x.le_toInt; have h2 := x.toInt_lt; unfold ok64; omega
theorem i32_eq {a b : Int} (ha : ok32 a) (hb : ok32 b) : Int32.ofInt a = Int32.ofInt b ↔ a = b := by
  constructor
  · intro h; rw [← i32_c ha, ← i32_c hb, h]
  · intro h; rw [h]
theorem i32_lt {a b : Int} (ha : ok32 a) (hb : ok32 b) : Int32.ofInt a < Int32.ofInt b ↔ a < b := by
  rw [Int32.lt_iff_toInt_lt, i32_c ha, i32_c hb]
theorem i32_le {a b : Int} (ha : ok32 a) (hb : ok32 b) : Int32.ofInt a ≤ Int32.ofInt b ↔ a ≤ b := by
  rw [Int32.le_iff_toInt_le, i32_c ha, i32_c hb]
theorem i64_eq {a b : Int} (ha : ok64 a) (hb : ok64 b) : Int64.ofInt a = Int64.ofInt b ↔ a = b := by
  constructor
  · intro h; rw [← i64_c ha, ← i64_c hb, h]
  · intro h; rw [h]
theorem i64_lt {a b : Int} (ha : ok64 a) (hb : ok64 b) : Int64.ofInt a < Int64.ofInt b ↔ a < b := by
  rw [Int64.lt_iff_toInt_lt, i64_c ha, i64_c hb]
theorem i64_le {a b : Int} (ha : ok64 a) (hb : ok64 b) : Int64.ofInt a ≤ Int64.ofInt b ↔ a ≤ b := by
  rw [Int64.le_iff_toInt_le, i64_c ha, i64_c hb]
theorem ok32_0 : ok32 0 := by unfold ok32; omega
theorem i32_0 : Int32.ofInt 0 = 0 := rfl
/-- the place of a cell in a row: in range, and which -/
theorem i32_in {a : Int} {n : Nat} (ha : ok32 a) (h0 : 0 ≤ a) (hn : a < n) : vp_in (Int32.ofInt a) n := by
  rw [vp_in_iff, i32_c ha]; exact ⟨h0, hn⟩
theorem i32_cl {a : Int} (ha : ok32 a) : (Int32.ofInt a).toNatClampNeg = a.toNat := by
  show (Int32.ofInt a).toInt.toNat = a.toNat
  rw [i32_c ha]
/-! bits, shifts, quotients: as the machine has them -/
def bAnd (a b : Int) : Int := (Int32.ofInt a &&& Int32.ofInt b).toInt
def bOr (a b : Int) : Int := (Int32.ofInt a ||| Int32.ofInt b).toInt
def bXor (a b : Int) : Int := (Int32.ofInt a ^^^ Int32.ofInt b).toInt
def bShl (a b : Int) : Int := (Int32.ofInt a <<< (Int32.ofInt b &&& 31)).toInt
def bShr (a b : Int) : Int := (Int32.ofInt a >>> (Int32.ofInt b &&& 31)).toInt
def bUshr (a b : Int) : Int := ((Int32.ofInt a).toUInt32 >>> ((Int32.ofInt b).toUInt32 &&& Int32.toUInt32 31)).toInt32.toInt
def lOr (a b : Int) : Int := (Int64.ofInt a ||| Int64.ofInt b).toInt
def lShl (a b : Int) : Int := (Int64.ofInt a <<< ((Int32.ofInt b).toInt64 &&& 63)).toInt
def iDiv (a b : Int) : Int := (Int32.ofInt a / Int32.ofInt b).toInt
def iRem (a b : Int) : Int := (Int32.ofInt a - Int32.ofInt a / Int32.ofInt b * Int32.ofInt b).toInt
def lDiv (a b : Int) : Int := (Int64.ofInt a / Int64.ofInt b).toInt
def lRem (a b : Int) : Int := (Int64.ofInt a - Int64.ofInt a / Int64.ofInt b * Int64.ofInt b).toInt
/-! the classes, their slots' tags -/
abbrev cls : List vw_C := [(R_Cover, F_Cover, 4), (R_Library, F_Library, 3), (R_Loans, F_Loans, 6), (R_Piece, F_Piece, 9), (R_Planner, F_Planner, 9), (R_Players, F_Players, 6), (R_Rule, F_Rule, 7), (R_Seater, F_Seater, 7), (R_Tape, F_Tape, 10), (R_Band, F_Band, 8), (R_Model, F_Model, 48)]
def fl (t : Nat) : List Nat := match t with
  | 2 => [13, 13, 13, 0]
  | 3 => [16, 0, 0]
  | 4 => [13, 13, 13, 13, 13, 0]
  | 5 => [13, 13, 13, 0, 0, 0, 0, 0, 0]
  | 6 => [13, 0, 0, 13, 13, 13, 13, 0, 14]
  | 7 => [13, 13, 13, 13, 0, 0]
  | 8 => [13, 13, 13, 13, 0, 0, 0]
  | 9 => [14, 14, 14, 14, 13, 13, 0]
  | 10 => [13, 0, 0, 0, 0, 0, 0, 0, 0, 0]
  | 11 => [7, 3, 10, 8, 4, 2, 9, 6]
  | 12 => [0, 0, 13, 13, 13, 15, 13, 0, 14, 13, 13, 13, 13, 13, 13, 13, 13, 13, 0, 0, 13, 13, 15, 15, 0, 13, 13, 13, 13, 0, 0, 0, 0, 0, 1, 0, 0, 0, 0, 13, 13, 0, 13, 13, 0, 13, 13, 0]
  | _ => []
/-- how many slots an object of a tag has -/
def nf (t : Nat) : Nat := (fl t).length
/-- the tag of place k of a cell of kind t -/
def ft (t k : Nat) : Nat := if t = 13 then 0 else if t = 14 then 1 else if t = 15 then 21 else if t = 16 then 5 else (fl t).getD k 0
/-- the claim's constants: class numbers and slots; array classes of int, long, boolean, pieces; special addresses; the script -/
abbrev GG : Type := va_G × (ClassId × ClassId × ClassId × ClassId) × (Nat → Nat)
/-- the script: its length, its ints -/
abbrev XX : Type := Nat × (Nat → Int)
def cv (G : GG) (ad : Nat → Nat) (q : AV) : Value :=
  if q.1 = 0 then .int (Int32.ofInt q.2) else if q.1 = 1 then .long (Int64.ofInt q.2) else if q.1 ≤ 16 then va_rf (if q.2 = 0 then none else some (ad (cI q.2))) else if q.1 = 20 then .ref (G.2.2 (100 + q.2.toNat)) else if q.1 = 22 then .ref (G.2.2 (200 + q.2.toNat)) else if q.1 = 23 then va_rf (if G.2.2 23 = 0 then none else some (G.2.2 24)) else .ref (G.2.2 q.1)
def okV (kd : Nat → Nat) (n : Nat) (q : AV) : Prop := (q.1 = 0 → ok32 q.2) ∧ (q.1 = 1 → ok64 q.2) ∧ (2 ≤ q.1 → q.1 ≤ 16 → q.2 = 0 ∨ ∃ c : Nat, q.2 = (c : Int) + 1 ∧ c < n ∧ kd c = q.1) ∧ (q.1 = 21 → q.2 = 0 ∨ q.2 = 1) ∧ (q.1 = 20 ∨ q.1 = 22 → 0 ≤ q.2 ∧ q.2 < 9)
def WT (kd : Nat → Nat) (M : Mm) : Prop := ∀ c, c < mN M → 2 ≤ kd c ∧ kd c ≤ 16 ∧ ml M c < 2147483648 ∧ ∀ k, okV kd (mN M) (ft (kd c) k, mg M c k)
def cE (G : GG) (ad kd : Nat → Nat) (M : Mm) (c : Nat) : va_E :=
  if kd c ≤ 12 then .inr (kd c - 2, (List.range (nf (kd c))).map fun k => cv G ad (ft (kd c) k, mg M c k)) else if kd c = 13 then .inl (G.2.1.1, ml M c, .inl fun k => Int32.ofInt (mg M c k)) else if kd c = 14 then .inl (G.2.1.2.1, ml M c, .inr (.inl fun k => Int64.ofInt (mg M c k))) else if kd c = 15 then .inl (G.2.1.2.2.1, ml M c, .inl fun k => Int32.ofInt (mg M c k)) else .inl (G.2.1.2.2.2, ml M c, .inr (.inr (.inr (.inr fun k => if mg M c k = 0 then none else some (ad (cI (mg M c k)))))))
def wl (G : GG) (ad kd : Nat → Nat) (M : Mm) : va_W := (List.range (mN M)).map fun c => (ad c, cE G ad kd M c)
abbrev tyG (G : GG) : List (ClassId × FieldType) := [(G.2.1.1, .int), (G.2.1.2.1, .long), (G.2.1.2.2.1, .boolean), (G.2.1.2.2.2, .object "TownBand$Piece")]
def tblG : List Cond := lw_tbl.filter goodWord
def isNest : Cond → Bool
  | .fieldLinkNest .. => true
  | .methodLinkNest .. => true
  | _ => false
def tblN : List Cond := tables_1.filter isNest
theorem tG {i : Nat} {w : Cond} (h : tables_1[i]? = some w) (hg : goodWord w = true) : w ∈ tblG := List.mem_filter.mpr ⟨List.mem_append_right _ (List.mem_of_getElem? h), hg⟩
theorem tS {i : Nat} {q : MethodName × Nat} (h : lw_privs[i]? = some q) : Cond.selects q.1.cls q.1 q.1 ∈ tblG := List.mem_filter.mpr ⟨List.mem_append_left _ (List.mem_map.mpr ⟨q, List.mem_of_getElem? h, rfl⟩), rfl⟩
theorem tN {i : Nat} {w : Cond} (h : tables_1[i]? = some w) (hg : isNest w = true) : w ∈ tblN := List.mem_filter.mpr ⟨List.mem_of_getElem? h, hg⟩
theorem tblG_good (w : Cond) (h : w ∈ tblG) : goodWord w = true := (List.mem_filter.mp h).2
/-! constant rows of longs, texts -/
def dg1 : List Int := [38443359375, 2562890625, 170859375, 11390625, 759375, 50625, 3375, 225, 15, 1]
def dg2 : List Int := [1000000000, 100000000, 10000000, 1000000, 100000, 10000, 1000, 100, 10, 1]
/-- the texts: piece, must, may, or, age, days, past, out, day -/
def txL : List Nat := [5, 4, 3, 2, 3, 4, 4, 3, 3]
def txB : List (List Int32) := [[112, 105, 101, 99, 101], [109, 117, 115, 116], [109, 97, 121], [111, 114], [97, 103, 101], [100, 97, 121, 115], [112, 97, 115, 116], [111, 117, 116], [100, 97, 121]]
def txK : List (String × Nat × String) := [("TownBand$Library", 31, "piece"), ("TownBand$Library", 95, "must"), ("TownBand$Library", 97, "may"), ("TownBand$Library", 99, "or"), ("TownBand$Rule", 72, "age"), ("TownBand$Rule", 78, "days"), ("TownBand$Rule", 80, "past"), ("TownBand$Rule", 82, "out"), ("TownBand$Rule", 84, "day")]
/-- what stands outside the world: the script, constants, texts, links among nest mates -/
def Sp (X : XX) (G : GG) (A : Nat → Prop) (U : State) (H : Heap) : Prop :=
  (va_X (G.2.2 17) X.1 (fun j => Int32.ofInt (X.2 j)) U H ∧ G.2.2 17 < H.size ∧ ¬ A (G.2.2 17)) ∧
  (va_Z "TownBand$Seater" "DIGIT" "[J" (.ref (G.2.2 18)) A U H ∧ va_T .long (G.2.2 18) 10 (fun j => .long (Int64.ofInt (dg1.getD j 0))) A U H) ∧
  (va_Z "TownBand$Planner" "DIGIT" "[J" (.ref (G.2.2 19)) A U H ∧ va_T .long (G.2.2 19) 10 (fun j => .long (Int64.ofInt (dg2.getD j 0))) A U H) ∧
  (∀ w ∈ tblN, va_Nw w U) ∧
  (vk_S 9 txL txB (fun i => G.2.2 (100 + i)) (fun i => G.2.2 (200 + i)) A U H ∧ ∀ (i : Nat) (q : String × Nat × String), txK[i]? = some q → vk_R q.1 q.2.1 q.2.2 (G.2.2 (100 + i)) U) ∧
  (va_Z "java/lang/String" "COMPACT_STRINGS" "Z" (.int 1) A U H ∧ va_Z "jdk/internal/util/Preconditions" "SIOOBE_FORMATTER" "Ljava/util/function/BiFunction;" (va_rf (if G.2.2 23 = 0 then none else some (G.2.2 24))) A U H) ∧
  va_AO "TownBand$Piece" U
abbrev MI : Type := MethodName × ByteArray × Nat × Option FieldType × String
/-- what stands throughout a method -/
def Cx (X : XX) (mi : MI) (G : GG) (d : Nat) (R : Room) (p : Program) (s : State) (m : MethodId) (args : Array Value) (meth : Method) (c : Code) (A : Nat → Prop) : Prop :=
  p.tables.exec = Jvm.exec ∧ c.code = mi.2.1 ∧ c.maxLocals = mi.2.2.1 ∧ s.vm.findClass mi.2.2.2.2 = some m.cls ∧ (∀ w ∈ tblG, w.before args s = true) ∧ meth.name = mi.1.name ∧ (∀ q, s.heap.size ≤ q → A q) ∧ Sp X G A s s.heap ∧ va_K G.1 cls (tyG G) s ∧ d ≤ R.frames ∧ 64 * d ≤ R.locals
def Sx (G : GG) (ad kd : Nat → Nat) (M : Mm) (A : Nat → Prop) (s : State) (H : Heap) (locs : List Loc) : Prop := WT kd M ∧ va_P G.1 cls (wl G ad kd M) H ∧ va_D A (wl G ad kd M) ∧ va_S A s.heap H locs
/-- the return's instruction, by what is returned -/
def rD (mi : MI) (pc : Nat) (r : Option AV) : Prop := match r with
  | none => decode mi.2.1 pc = .ok (.return_, 1)
  | some q => if q.1 = 0 then decode mi.2.1 pc = .ok (.ireturn, 1) else if q.1 = 1 then decode mi.2.1 pc = .ok (.lreturn, 1) else decode mi.2.1 pc = .ok (.areturn, 1)
/-- what is returned fits the method's kind -/
def rO (mi : MI) (kd : Nat → Nat) (n : Nat) (r : Option AV) : Prop := match r with
  | none => mi.2.2.2.1 = none
  | some q => okV kd n q ∧ ((q.1 = 0 ∧ (mi.2.2.2.1 = some .int ∨ (mi.2.2.2.1 = some .boolean ∧ (q.2 = 0 ∨ q.2 = 1)) ∨ (mi.2.2.2.1 = some .byte ∧ q.2 = 0) ∨ (mi.2.2.2.1 = some .char ∧ 0 ≤ q.2 ∧ q.2 < 128))) ∨ (q.1 = 1 ∧ mi.2.2.2.1 = some .long) ∨ (2 ≤ q.1 ∧ q.1 ≤ 16 ∧ ∃ C, mi.2.2.2.1 = some (.object C)))
/-- a boolean method answers 0 or 1 -/
def rB (mi : MI) (r : Option AV) : Prop := ∀ q, r = some q → mi.2.2.2.1 = some .boolean → q.2 = 0 ∨ q.2 = 1
def lvs (G : GG) (ad : Nat → Nat) (L : List (Nat × AV)) : List (Nat × Value) := L.map fun q => (q.1, cv G ad q.2)
/-- from here (place, locals, stack, memory) the method comes to its end, answers r, and the memory is M' -/
def Ev (X : XX) (mi : MI) (d pc : Nat) (L : List (Nat × AV)) (st : List AV) (M : Mm) (r : Option AV) (M' : Mm) : Prop :=
  (mN M ≤ mN M' ∧ mZ M ≤ mZ M') ∧ rB mi r ∧
  ∀ (G : GG) (R : Room) (p : Program) (l : Launch) (e : Env) (s : State) (m : MethodId) (args : Array Value) (below : List Frame) (meth : Method) (c : Code) (Q : State → Prop) (A : Nat → Prop) (kd ad : Nat → Nat) (H : Heap) (locs : List Loc) (cells slots : Nat) (ls : Array Slot),
    Cx X mi G d R p s m args meth c A → Sx G ad kd M A s H locs → (∀ q ∈ st, okV kd (mN M) q) → (∀ q ∈ L, okV kd (mN M) q.2) → lv_has ls mi.2.2.1 (lvs G ad L) →
    cells + (mN M' - mN M) ≤ R.cells → slots + (mZ M' - mZ M) ≤ R.slots →
    (∀ (kd' ad' : Nat → Nat) (H' : Heap) (locs' : List Loc) (cells' slots' pc' : Nat) (ls' : Array Slot), (∀ c, c < mN M → kd' c = kd c ∧ ad' c = ad c) → Sx G ad' kd' M' A s H' locs' → rO mi kd' (mN M') r → rD mi pc' r → cells' ≤ cells + (mN M' - mN M) → slots' ≤ slots + (mZ M' - mZ M) →
      W p l e R s m args below meth c H' locs' cells' slots' Q (F0 m pc' ls' (r.toList.map (cv G ad')))) →
    W p l e R s m args below meth c H locs cells slots Q (F0 m pc ls (st.map (cv G ad)))
/-- the room of a call -/
abbrev rmF (d : Nat) (M M' : Mm) : Room := { frames := d, cells := mN M' - mN M, slots := mZ M' - mZ M, locals := 64 * d }
abbrev wsM (mi : MI) : List Cond := .code mi.1 mi.2.1 mi.2.2.1 mi.2.2.2.1 :: tblG
def preR (X : XX) (G : GG) (ad kd : Nat → Nat) (sz : Nat) (M : Mm) (U : State) : Prop := U.heap.size = sz ∧ va_P G.1 cls (wl G ad kd M) U.heap ∧ va_K G.1 cls (tyG G) U ∧ va_D (fun _ => True) (wl G ad kd M) ∧ Sp X G (va_A (wl G ad kd M) sz) U U.heap
def posR (mi : MI) (G : GG) (ad kd : Nat → Nat) (sz : Nat) (M : Mm) (r : Option AV) (M' : Mm) : Array Value → State → Outcome → State → Prop := fun _ st o t =>
  (∃ kd' ad' : Nat → Nat, o = .returned (r.map (cv G ad')) ∧ (∀ c, c < mN M → kd' c = kd c ∧ ad' c = ad c) ∧ WT kd' M' ∧ rO mi kd' (mN M') r ∧ va_P G.1 cls (wl G ad' kd' M') t.heap ∧ va_K G.1 cls (tyG G) t ∧ va_D (va_A (wl G ad kd M) sz) (wl G ad' kd' M')) ∧ va_F (va_A (wl G ad kd M) sz) st t
/-- the method's contract at these arguments and this memory -/
def Rn (X : XX) (d : Nat) (mi : MI) (as : List AV) (M : Mm) (r : Option AV) (M' : Mm) : Prop :=
  (mN M ≤ mN M' ∧ mZ M ≤ mZ M') ∧ rB mi r ∧
  ∀ (l : Launch) (G : GG) (ad kd : Nat → Nat) (sz : Nat), WT kd M → (∀ q ∈ as, okV kd (mN M) q) →
    Met l mi.1 (wsM mi) (rmF d M M') (va_Pc (as.map (cv G ad)) (preR X G ad kd sz M)) (posR mi G ad kd sz M r M') (mN M' - mN M) (mZ M' - mZ M) (va_A (wl G ad kd M) sz)
end
section
/-! the step of an instruction that leaves the memory -/
theorem ev_step {X : XX} {mi : MI} {d pc pc' : Nat} {L L' : List (Nat × AV)} {st st' : List AV} {M : Mm} {r : Option AV} {M' : Mm} (h : Ev X mi d pc' L' st' M r M')
    (step : ∀ (G : GG) (R : Room) (p : Program) (l : Launch) (e : Env) (s : State) (m : MethodId) (args : Array Value) (below : List Frame) (meth : Method) (c : Code) (Q : State → Prop) (A : Nat → Prop) (kd ad : Nat → Nat) (H : Heap) (locs : List Loc) (cells slots : Nat) (ls : Array Slot),
      Cx X mi G d R p s m args meth c A → Sx G ad kd M A s H locs → (∀ q ∈ st, okV kd (mN M) q) → (∀ q ∈ L, okV kd (mN M) q.2) → lv_has ls mi.2.2.1 (lvs G ad L) →
      (∀ q ∈ st', okV kd (mN M) q) ∧ (∀ q ∈ L', okV kd (mN M) q.2) ∧ ((∀ ls' : Array Slot, lv_has ls' mi.2.2.1 (lvs G ad L') → W p l e R s m args below meth c H locs cells slots Q (F0 m pc' ls' (st'.map (cv G ad)))) → W p l e R s m args below meth c H locs cells slots Q (F0 m pc ls (st.map (cv G ad))))) :
    Ev X mi d pc L st M r M' := by
  refine ⟨h.1, h.2.1, ?_⟩
  intro G R p l e s m args below meth c Q A kd ad H locs cells slots ls hC hX hst hL hl hc hs he
  obtain ⟨a1, a2, a3⟩ := step G R p l e s m args below meth c Q A kd ad H locs cells slots ls hC hX hst hL hl
  exact a3 fun ls' hl' => h.2.2 G R p l e s m args below meth c Q A kd ad H locs cells slots ls' hC hX a1 a2 hl' hc hs he
theorem okI {kd : Nat → Nat} {n : Nat} {v : Int} (h : ok32 v) : okV kd n (0, v) := ⟨fun _ => h, fun h => by simp at h, fun h => by simp at h, fun h => by simp at h, fun h => by simp at h⟩
theorem okJ {kd : Nat → Nat} {n : Nat} {v : Int} (h : ok64 v) : okV kd n (1, v) := ⟨fun h => by simp at h, fun _ => h, fun h => by simp at h, fun h => by simp at h, fun h => by simp at h⟩
theorem cv_i (G : GG) (ad : Nat → Nat) (v : Int) : cv G ad (0, v) = .int (Int32.ofInt v) := rfl
theorem cv_l (G : GG) (ad : Nat → Nat) (v : Int) : cv G ad (1, v) = .long (Int64.ofInt v) := rfl
theorem cv_n (G : GG) (ad : Nat → Nat) {t : Nat} (h2 : 2 ≤ t) (h16 : t ≤ 16) : cv G ad (t, 0) = .null := by
  unfold cv; rw [if_neg (by omega), if_neg (by omega), if_pos h16]; rfl
theorem cv_r (G : GG) (ad : Nat → Nat) {t : Nat} {v : Int} (h2 : 2 ≤ t) (h16 : t ≤ 16) (hv : v ≠ 0) : cv G ad (t, v) = .ref (ad (cI v)) := by
  unfold cv; rw [if_neg (by omega), if_neg (by omega), if_pos h16]; simp only [hv, if_false]; rfl
theorem cv_or (G : GG) (ad : Nat → Nat) {t : Nat} {v : Int} (h2 : 2 ≤ t) : cv G ad (t, v) = .null ∨ ∃ a, cv G ad (t, v) = .ref a := by
  unfold cv; rw [if_neg (by omega), if_neg (by omega)]
  split
  · exact va_rf_or _
  · split
    · exact Or.inr ⟨_, rfl⟩
    · split
      · exact Or.inr ⟨_, rfl⟩
      · split
        · exact va_rf_or _
        · exact Or.inr ⟨_, rfl⟩
theorem cv_cat (G : GG) (ad : Nat → Nat) (q : AV) : (cv G ad q).category = if q.1 = 1 then 2 else 1 := by
  by_cases h1 : q.1 = 1
  · obtain ⟨t, v⟩ := q; simp only at h1; subst h1; rfl
  · rw [if_neg h1]
    by_cases h0 : q.1 = 0
    · obtain ⟨t, v⟩ := q; simp only at h0; subst h0; rfl
    · rcases cv_or G ad (t := q.1) (v := q.2) (by omega) with h | ⟨a, h⟩ <;> (have e : q = (q.1, q.2) := rfl) <;> rw [e, h] <;> rfl
theorem ok_hd {kd : Nat → Nat} {n : Nat} {a : AV} {st : List AV} (h : ∀ q ∈ a :: st, okV kd n q) : okV kd n a := h a List.mem_cons_self
theorem ok_tl {kd : Nat → Nat} {n : Nat} {a : AV} {st : List AV} (h : ∀ q ∈ a :: st, okV kd n q) : ∀ q ∈ st, okV kd n q := fun q hq => h q (List.mem_cons_of_mem _ hq)
theorem ok_cs {kd : Nat → Nat} {n : Nat} {a : AV} {st : List AV} (ha : okV kd n a) (h : ∀ q ∈ st, okV kd n q) : ∀ q ∈ a :: st, okV kd n q := fun q hq => (List.mem_cons.mp hq).elim (fun e => e ▸ ha) (h q)
section EV
variable {X : XX} {mi : MI} {d pc : Nat} {L : List (Nat × AV)} {st : List AV} {M : Mm} {r : Option AV} {M' : Mm}
theorem ev_iconst {v : Int} (hd : decode mi.2.1 pc = .ok (.iconst v, 1)) (hv : (decide (-2147483648 ≤ v) && decide (v < 2147483648)) = true) (h : Ev X mi d (pc + 1) L ((0, v) :: st) M r M') : Ev X mi d pc L st M r M' := by
  have hv : ok32 v := by simp only [Bool.and_eq_true, decide_eq_true_eq] at hv; exact hv
  refine ev_step h ?_
  intro G R p l e s m args below meth c Q A kd ad H locs cells slots ls hC hX hst hL hl
  exact ⟨ok_cs (okI hv) hst, hL, fun k => lv_iconst hC.1 hC.2.1 hd rfl (k ls hl)⟩
theorem ev_bipush {v : Int} (hd : decode mi.2.1 pc = .ok (.bipush v, 2)) (hv : (decide (-128 ≤ v) && decide (v < 128)) = true) (h : Ev X mi d (pc + 2) L ((0, v) :: st) M r M') : Ev X mi d pc L st M r M' := by
  have hv : -128 ≤ v ∧ v < 128 := by simp only [Bool.and_eq_true, decide_eq_true_eq] at hv; exact hv
  refine ev_step h ?_
  intro G R p l e s m args below meth c Q A kd ad H locs cells slots ls hC hX hst hL hl
  refine ⟨ok_cs (okI (by unfold ok32; omega)) hst, hL, fun k => lv_bipush hC.1 hC.2.1 hd ?_ (k ls hl)⟩
  apply Int32.toInt_inj.mp
  rw [i32_c (by unfold ok32; omega), Int8.toInt_toInt32, Int8.toInt_ofInt, Int.bmod_def]
  simp only [Int8.size]; split <;> omega
theorem ev_sipush {v : Int} (hd : decode mi.2.1 pc = .ok (.sipush v, 3)) (hv : (decide (-32768 ≤ v) && decide (v < 32768)) = true) (h : Ev X mi d (pc + 3) L ((0, v) :: st) M r M') : Ev X mi d pc L st M r M' := by
  have hv : -32768 ≤ v ∧ v < 32768 := by simp only [Bool.and_eq_true, decide_eq_true_eq] at hv; exact hv
  refine ev_step h ?_
  intro G R p l e s m args below meth c Q A kd ad H locs cells slots ls hC hX hst hL hl
  refine ⟨ok_cs (okI (by unfold ok32; omega)) hst, hL, fun k => lv_sipush hC.1 hC.2.1 hd ?_ (k ls hl)⟩
  apply Int32.toInt_inj.mp
  rw [i32_c (by unfold ok32; omega), Int16.toInt_toInt32, Int16.toInt_ofInt, Int.bmod_def]
  simp only [Int16.size]; split <;> omega
theorem ev_ldc {i : Nat} {v : Int} (hd : decode mi.2.1 pc = .ok (.ldc i, 2)) (hw : Cond.constant mi.2.2.2.2 i (Int32.ofInt v) ∈ tblG) (hv : (decide (-2147483648 ≤ v) && decide (v < 2147483648)) = true) (h : Ev X mi d (pc + 2) L ((0, v) :: st) M r M') : Ev X mi d pc L st M r M' := by
  have hv : ok32 v := by simp only [Bool.and_eq_true, decide_eq_true_eq] at hv; exact hv
  refine ev_step h ?_
  intro G R p l e s m args below meth c Q A kd ad H locs cells slots ls hC hX hst hL hl
  exact ⟨ok_cs (okI hv) hst, hL, fun k => lv_ldc hC.1 hC.2.1 hC.2.2.2.1 (hC.2.2.2.2.1 _ hw) hd (k ls hl)⟩
theorem ev_ldcw {i : Nat} {v : Int} (hd : decode mi.2.1 pc = .ok (.ldc_w i, 3)) (hw : Cond.constant mi.2.2.2.2 i (Int32.ofInt v) ∈ tblG) (hv : (decide (-2147483648 ≤ v) && decide (v < 2147483648)) = true) (h : Ev X mi d (pc + 3) L ((0, v) :: st) M r M') : Ev X mi d pc L st M r M' := by
  have hv : ok32 v := by simp only [Bool.and_eq_true, decide_eq_true_eq] at hv; exact hv
  refine ev_step h ?_
  intro G R p l e s m args below meth c Q A kd ad H locs cells slots ls hC hX hst hL hl
  exact ⟨ok_cs (okI hv) hst, hL, fun k => lv_ldcw hC.1 hC.2.1 hC.2.2.2.1 (hC.2.2.2.2.1 _ hw) hd (k ls hl)⟩
theorem ev_ldc2 {i : Nat} {v : Int} (hd : decode mi.2.1 pc = .ok (.ldc2_w i, 3)) (hw : Cond.constantLong mi.2.2.2.2 i (Int64.ofInt v) ∈ tblG) (hv : (decide (-9223372036854775808 ≤ v) && decide (v < 9223372036854775808)) = true) (h : Ev X mi d (pc + 3) L ((1, v) :: st) M r M') : Ev X mi d pc L st M r M' := by
  have hv : ok64 v := by simp only [Bool.and_eq_true, decide_eq_true_eq] at hv; exact hv
  refine ev_step h ?_
  intro G R p l e s m args below meth c Q A kd ad H locs cells slots ls hC hX hst hL hl
  exact ⟨ok_cs (okJ hv) hst, hL, fun k => lv_ldc2 hC.1 hC.2.1 hC.2.2.2.1 (hC.2.2.2.2.1 _ hw) hd (k ls hl)⟩
theorem lv_of {G : GG} {ad : Nat → Nat} {ls : Array Slot} {n k i : Nat} {q : AV} (hl : lv_has ls n (lvs G ad L)) (hk : L[k]? = some (i, q)) : ls[i]? = some (.val (cv G ad q)) :=
  lv_at hl k (by unfold lvs; rw [List.getElem?_map, hk]; rfl)
theorem okL_at {kd : Nat → Nat} {n k i : Nat} {q : AV} (hL : ∀ q ∈ L, okV kd n q.2) (hk : L[k]? = some (i, q)) : okV kd n q := hL (i, q) (List.mem_of_getElem? hk)
theorem ev_iload_n {j : Fin 4} {v : Int} (k : Nat) {i : Nat} (hd : decode mi.2.1 pc = .ok (.iload_n j, 1)) (hi : (j : Nat) = i) (hk : L[k]? = some (i, (0, v))) (h : Ev X mi d (pc + 1) L ((0, v) :: st) M r M') : Ev X mi d pc L st M r M' := by
  refine ev_step h ?_
  intro G R p l e s m args below meth c Q A kd ad H locs cells slots ls hC hX hst hL hl
  exact ⟨ok_cs (okL_at hL hk) hst, hL, fun k => lv_iload_n hC.1 hC.2.1 hd hi (lv_of hl hk) (k ls hl)⟩
theorem ev_iload {v : Int} (k : Nat) {i : Nat} (hd : decode mi.2.1 pc = .ok (.iload i, 2)) (hk : L[k]? = some (i, (0, v))) (h : Ev X mi d (pc + 2) L ((0, v) :: st) M r M') : Ev X mi d pc L st M r M' := by
  refine ev_step h ?_
  intro G R p l e s m args below meth c Q A kd ad H locs cells slots ls hC hX hst hL hl
  exact ⟨ok_cs (okL_at hL hk) hst, hL, fun k => lv_iload hC.1 hC.2.1 hd (lv_of hl hk) (k ls hl)⟩
theorem ev_lload_n {j : Fin 4} {v : Int} (k : Nat) {i : Nat} (hd : decode mi.2.1 pc = .ok (.lload_n j, 1)) (hi : (j : Nat) = i) (hk : L[k]? = some (i, (1, v))) (h : Ev X mi d (pc + 1) L ((1, v) :: st) M r M') : Ev X mi d pc L st M r M' := by
  refine ev_step h ?_
  intro G R p l e s m args below meth c Q A kd ad H locs cells slots ls hC hX hst hL hl
  exact ⟨ok_cs (okL_at hL hk) hst, hL, fun k => lv_lload_n hC.1 hC.2.1 hd hi (lv_of hl hk) (k ls hl)⟩
theorem ev_lload {v : Int} (k : Nat) {i : Nat} (hd : decode mi.2.1 pc = .ok (.lload i, 2)) (hk : L[k]? = some (i, (1, v))) (h : Ev X mi d (pc + 2) L ((1, v) :: st) M r M') : Ev X mi d pc L st M r M' := by
  refine ev_step h ?_
  intro G R p l e s m args below meth c Q A kd ad H locs cells slots ls hC hX hst hL hl
  exact ⟨ok_cs (okL_at hL hk) hst, hL, fun k => lv_lload hC.1 hC.2.1 hd (lv_of hl hk) (k ls hl)⟩
theorem ev_aload_n {j : Fin 4} {t : Nat} {v : Int} (k : Nat) {i : Nat} (hd : decode mi.2.1 pc = .ok (.aload_n j, 1)) (hi : (j : Nat) = i) (ht : 2 ≤ t) (hk : L[k]? = some (i, (t, v))) (h : Ev X mi d (pc + 1) L ((t, v) :: st) M r M') : Ev X mi d pc L st M r M' := by
  refine ev_step h ?_
  intro G R p l e s m args below meth c Q A kd ad H locs cells slots ls hC hX hst hL hl
  refine ⟨ok_cs (okL_at hL hk) hst, hL, fun k => ?_⟩
  have hk2 := k ls hl
  have h1 := lv_of hl hk
  rw [List.map_cons] at hk2
  rcases cv_or G ad (t := t) (v := v) ht with e | ⟨a, e⟩ <;> rw [e] at h1 hk2
  · exact lv_aload_nN hC.1 hC.2.1 hd hi h1 hk2
  · exact lv_aload_n hC.1 hC.2.1 hd hi h1 hk2
theorem ev_aload {t : Nat} {v : Int} (k : Nat) {i : Nat} (hd : decode mi.2.1 pc = .ok (.aload i, 2)) (ht : 2 ≤ t) (hk : L[k]? = some (i, (t, v))) (h : Ev X mi d (pc + 2) L ((t, v) :: st) M r M') : Ev X mi d pc L st M r M' := by
  refine ev_step h ?_
  intro G R p l e s m args below meth c Q A kd ad H locs cells slots ls hC hX hst hL hl
  refine ⟨ok_cs (okL_at hL hk) hst, hL, fun k => ?_⟩
  have hk2 := k ls hl
  have h1 := lv_of hl hk
  rw [List.map_cons] at hk2
  rcases cv_or G ad (t := t) (v := v) ht with e | ⟨a, e⟩ <;> rw [e] at h1 hk2
  · exact lv_aloadN hC.1 hC.2.1 hd h1 hk2
  · exact lv_aload hC.1 hC.2.1 hd h1 hk2
/-- the locals behind a store -/
def lset (L : List (Nat × AV)) (i : Nat) (q : AV) : List (Nat × AV) := (i, q) :: L.filter (fun x => !(x.1 == i) && !(x.1 + 1 == i && x.2.1 == 1))
def lsetL (L : List (Nat × AV)) (i : Nat) (q : AV) : List (Nat × AV) := (i, q) :: L.filter (fun x => !(x.1 == i) && (!(x.1 == i + 1) && !(x.1 + 1 == i && x.2.1 == 1)))
theorem cat_eq (G : GG) (ad : Nat → Nat) (q : AV) : ((cv G ad q).category == 2) = (q.1 == 1) := by
  rw [cv_cat]; by_cases h : q.1 = 1 <;> simp [h]
theorem lset_lvs (G : GG) (ad : Nat → Nat) (i : Nat) (q : AV) : (i, cv G ad q) :: (lvs G ad L).filter (fun x => !(x.1 == i) && !(x.1 + 1 == i && x.2.category == 2)) = lvs G ad (lset L i q) := by
  unfold lvs lset; rw [List.map_cons, List.filter_map]
  congr 2
  apply List.filter_congr; intro x hx
  simp only [Function.comp, cat_eq]
theorem lsetL_lvs (G : GG) (ad : Nat → Nat) (i : Nat) (q : AV) : (i, cv G ad q) :: (lvs G ad L).filter (fun x => !(x.1 == i) && (!(x.1 == i + 1) && !(x.1 + 1 == i && x.2.category == 2))) = lvs G ad (lsetL L i q) := by
  unfold lvs lsetL; rw [List.map_cons, List.filter_map]
  congr 2
  apply List.filter_congr; intro x hx
  simp only [Function.comp, cat_eq]
theorem ok_lset {kd : Nat → Nat} {n i : Nat} {q : AV} (hq : okV kd n q) (hL : ∀ q ∈ L, okV kd n q.2) : ∀ x ∈ lset L i q, okV kd n x.2 := fun x hx => by
  unfold lset at hx
  rcases List.mem_cons.mp hx with e | e
  · rw [e]; exact hq
  · exact hL x (List.mem_filter.mp e).1
theorem ok_lsetL {kd : Nat → Nat} {n i : Nat} {q : AV} (hq : okV kd n q) (hL : ∀ q ∈ L, okV kd n q.2) : ∀ x ∈ lsetL L i q, okV kd n x.2 := fun x hx => by
  unfold lsetL at hx
  rcases List.mem_cons.mp hx with e | e
  · rw [e]; exact hq
  · exact hL x (List.mem_filter.mp e).1
theorem ev_istore_n {j : Fin 4} {v : Int} {i : Nat} {L' : List (Nat × AV)} (hd : decode mi.2.1 pc = .ok (.istore_n j, 1)) (hi : (j : Nat) = i) (hn : i < mi.2.2.1) (hL' : lset L i (0, v) = L') (h : Ev X mi d (pc + 1) L' st M r M') : Ev X mi d pc L ((0, v) :: st) M r M' := by
  subst hL'
  refine ev_step h ?_
  intro G R p l e s m args below meth c Q A kd ad H locs cells slots ls hC hX hst hL hl
  exact ⟨ok_tl hst, ok_lset (ok_hd hst) hL, fun k => lv_istore_n hC.1 hC.2.1 hd hi hl hn (lset_lvs G ad i (0, v)) k⟩
theorem ev_istore {v : Int} {i : Nat} {L' : List (Nat × AV)} (hd : decode mi.2.1 pc = .ok (.istore i, 2)) (hn : i < mi.2.2.1) (hL' : lset L i (0, v) = L') (h : Ev X mi d (pc + 2) L' st M r M') : Ev X mi d pc L ((0, v) :: st) M r M' := by
  subst hL'
  refine ev_step h ?_
  intro G R p l e s m args below meth c Q A kd ad H locs cells slots ls hC hX hst hL hl
  exact ⟨ok_tl hst, ok_lset (ok_hd hst) hL, fun k => lv_istore hC.1 hC.2.1 hd hl hn (lset_lvs G ad i (0, v)) k⟩
theorem ev_lstore {v : Int} {i : Nat} {L' : List (Nat × AV)} (hd : decode mi.2.1 pc = .ok (.lstore i, 2)) (hn : i + 1 < mi.2.2.1) (hL' : lsetL L i (1, v) = L') (h : Ev X mi d (pc + 2) L' st M r M') : Ev X mi d pc L ((1, v) :: st) M r M' := by
  subst hL'
  refine ev_step h ?_
  intro G R p l e s m args below meth c Q A kd ad H locs cells slots ls hC hX hst hL hl
  exact ⟨ok_tl hst, ok_lsetL (ok_hd hst) hL, fun k => lv_lstore hC.1 hC.2.1 hd hl hn (lsetL_lvs G ad i (1, v)) k⟩
theorem ev_astore_n {j : Fin 4} {t : Nat} {v : Int} {i : Nat} {L' : List (Nat × AV)} (hd : decode mi.2.1 pc = .ok (.astore_n j, 1)) (hi : (j : Nat) = i) (ht : 2 ≤ t) (hn : i < mi.2.2.1) (hL' : lset L i (t, v) = L') (h : Ev X mi d (pc + 1) L' st M r M') : Ev X mi d pc L ((t, v) :: st) M r M' := by
  subst hL'
  refine ev_step h ?_
  intro G R p l e s m args below meth c Q A kd ad H locs cells slots ls hC hX hst hL hl
  refine ⟨ok_tl hst, ok_lset (ok_hd hst) hL, fun k => ?_⟩
  have h1 := lset_lvs (L := L) G ad i (t, v)
  rw [List.map_cons]
  rcases cv_or G ad (t := t) (v := v) ht with e | ⟨a, e⟩ <;> rw [e] at h1 ⊢
  · exact lv_astore_nN hC.1 hC.2.1 hd hi hl hn h1 k
  · exact lv_astore_n hC.1 hC.2.1 hd hi hl hn h1 k
theorem ev_astore {t : Nat} {v : Int} {i : Nat} {L' : List (Nat × AV)} (hd : decode mi.2.1 pc = .ok (.astore i, 2)) (ht : 2 ≤ t) (hn : i < mi.2.2.1) (hL' : lset L i (t, v) = L') (h : Ev X mi d (pc + 2) L' st M r M') : Ev X mi d pc L ((t, v) :: st) M r M' := by
  subst hL'
  refine ev_step h ?_
  intro G R p l e s m args below meth c Q A kd ad H locs cells slots ls hC hX hst hL hl
  refine ⟨ok_tl hst, ok_lset (ok_hd hst) hL, fun k => ?_⟩
  have h1 := lset_lvs (L := L) G ad i (t, v)
  rw [List.map_cons]
  rcases cv_or G ad (t := t) (v := v) ht with e | ⟨a, e⟩ <;> rw [e] at h1 ⊢
  · exact lv_astoreN hC.1 hC.2.1 hd hl hn h1 k
  · exact lv_astore hC.1 hC.2.1 hd hl hn h1 k
theorem ev_iinc {v n : Int} (k : Nat) {i : Nat} {L' : List (Nat × AV)} (hd : decode mi.2.1 pc = .ok (.iinc i n, 3)) (hk : L[k]? = some (i, (0, v))) (hn : i < mi.2.2.1) (hL' : lset L i (0, w32 (v + n)) = L') (h : Ev X mi d (pc + 3) L' st M r M') : Ev X mi d pc L st M r M' := by
  subst hL'
  refine ev_step h ?_
  intro G R p l e s m args below meth c Q A kd ad H locs cells slots ls hC hX hst hL hl
  refine ⟨hst, ok_lset (okI (w32_ok _)) hL, fun kk => ?_⟩
  refine lv_iinc (k := k) (x := Int32.ofInt v) (v := Int32.ofInt (w32 (v + n))) hC.1 hC.2.1 hd hl (by unfold lvs; rw [List.getElem?_map, hk]; rfl) ?_ hn (lset_lvs G ad i (0, w32 (v + n))) kk
  rw [i32_w, Int32.ofInt_add]
/-- fewer locals -/
theorem ev_less {L' : List (Nat × AV)} (ks : List Nat) (hs : ks.filterMap (fun k => L[k]?) = L') (h : Ev X mi d pc L' st M r M') : Ev X mi d pc L st M r M' := by
  refine ev_step h ?_
  intro G R p l e s m args below meth c Q A kd ad H locs cells slots ls hC hX hst hL hl
  refine ⟨hst, fun q hq => ?_, fun k => k ls ?_⟩
  · rw [← hs] at hq
    obtain ⟨i, -, hi⟩ := List.mem_filterMap.mp hq
    exact hL q (List.mem_of_getElem? hi)
  · refine lv_sub hl ks ?_
    unfold lv_pick lvs
    rw [← hs, List.map_filterMap]
    congr 1; funext k; rw [List.getElem?_map]
end EV
end
section
section EV2
variable {X : XX} {mi : MI} {d pc : Nat} {L : List (Nat × AV)} {st : List AV} {M : Mm} {r : Option AV} {M' : Mm}
theorem ev_iadd {a b : Int} (hd : decode mi.2.1 pc = .ok (.iadd, 1)) (h : Ev X mi d (pc + 1) L ((0, w32 (a + b)) :: st) M r M') : Ev X mi d pc L ((0, b) :: (0, a) :: st) M r M' := by
  refine ev_step h ?_
  intro G R p l e s m args below meth c Q A kd ad H locs cells slots ls hC hX hst hL hl
  refine ⟨ok_cs (okI (w32_ok _)) (ok_tl (ok_tl hst)), hL, fun k => ?_⟩
  have hk := k ls hl
  rw [List.map_cons, cv_i, i32_w, Int32.ofInt_add] at hk
  exact lv_iadd hC.1 hC.2.1 hd hk
theorem ev_isub {a b : Int} (hd : decode mi.2.1 pc = .ok (.isub, 1)) (h : Ev X mi d (pc + 1) L ((0, w32 (a - b)) :: st) M r M') : Ev X mi d pc L ((0, b) :: (0, a) :: st) M r M' := by
  refine ev_step h ?_
  intro G R p l e s m args below meth c Q A kd ad H locs cells slots ls hC hX hst hL hl
  refine ⟨ok_cs (okI (w32_ok _)) (ok_tl (ok_tl hst)), hL, fun k => ?_⟩
  have hk := k ls hl
  rw [List.map_cons, cv_i, i32_w, Int32.ofInt_sub] at hk
  exact lv_isub hC.1 hC.2.1 hd hk
theorem ev_imul {a b : Int} (hd : decode mi.2.1 pc = .ok (.imul, 1)) (h : Ev X mi d (pc + 1) L ((0, w32 (a * b)) :: st) M r M') : Ev X mi d pc L ((0, b) :: (0, a) :: st) M r M' := by
  refine ev_step h ?_
  intro G R p l e s m args below meth c Q A kd ad H locs cells slots ls hC hX hst hL hl
  refine ⟨ok_cs (okI (w32_ok _)) (ok_tl (ok_tl hst)), hL, fun k => ?_⟩
  have hk := k ls hl
  rw [List.map_cons, cv_i, i32_w, Int32.ofInt_mul] at hk
  exact lv_imul hC.1 hC.2.1 hd hk
theorem ev_iand {a b : Int} (hd : decode mi.2.1 pc = .ok (.iand, 1)) (h : Ev X mi d (pc + 1) L ((0, bAnd a b) :: st) M r M') : Ev X mi d pc L ((0, b) :: (0, a) :: st) M r M' := by
  refine ev_step h ?_
  intro G R p l e s m args below meth c Q A kd ad H locs cells slots ls hC hX hst hL hl
  refine ⟨ok_cs (okI (i32_ok _)) (ok_tl (ok_tl hst)), hL, fun k => ?_⟩
  have hk := k ls hl
  rw [List.map_cons, cv_i, bAnd, i32_of] at hk
  exact lv_iand hC.1 hC.2.1 hd hk
theorem ev_ior {a b : Int} (hd : decode mi.2.1 pc = .ok (.ior, 1)) (h : Ev X mi d (pc + 1) L ((0, bOr a b) :: st) M r M') : Ev X mi d pc L ((0, b) :: (0, a) :: st) M r M' := by
  refine ev_step h ?_
  intro G R p l e s m args below meth c Q A kd ad H locs cells slots ls hC hX hst hL hl
  refine ⟨ok_cs (okI (i32_ok _)) (ok_tl (ok_tl hst)), hL, fun k => ?_⟩
  have hk := k ls hl
  rw [List.map_cons, cv_i, bOr, i32_of] at hk
  exact lv_ior hC.1 hC.2.1 hd hk
theorem ev_ixor {a b : Int} (hd : decode mi.2.1 pc = .ok (.ixor, 1)) (h : Ev X mi d (pc + 1) L ((0, bXor a b) :: st) M r M') : Ev X mi d pc L ((0, b) :: (0, a) :: st) M r M' := by
  refine ev_step h ?_
  intro G R p l e s m args below meth c Q A kd ad H locs cells slots ls hC hX hst hL hl
  refine ⟨ok_cs (okI (i32_ok _)) (ok_tl (ok_tl hst)), hL, fun k => ?_⟩
  have hk := k ls hl
  rw [List.map_cons, cv_i, bXor, i32_of] at hk
  exact lv_ixor hC.1 hC.2.1 hd hk
theorem ev_ishl {a b : Int} (hd : decode mi.2.1 pc = .ok (.ishl, 1)) (h : Ev X mi d (pc + 1) L ((0, bShl a b) :: st) M r M') : Ev X mi d pc L ((0, b) :: (0, a) :: st) M r M' := by
  refine ev_step h ?_
  intro G R p l e s m args below meth c Q A kd ad H locs cells slots ls hC hX hst hL hl
  refine ⟨ok_cs (okI (i32_ok _)) (ok_tl (ok_tl hst)), hL, fun k => ?_⟩
  have hk := k ls hl
  rw [List.map_cons, cv_i, bShl, i32_of] at hk
  exact lv_ishl hC.1 hC.2.1 hd hk
theorem ev_ishr {a b : Int} (hd : decode mi.2.1 pc = .ok (.ishr, 1)) (h : Ev X mi d (pc + 1) L ((0, bShr a b) :: st) M r M') : Ev X mi d pc L ((0, b) :: (0, a) :: st) M r M' := by
  refine ev_step h ?_
  intro G R p l e s m args below meth c Q A kd ad H locs cells slots ls hC hX hst hL hl
  refine ⟨ok_cs (okI (i32_ok _)) (ok_tl (ok_tl hst)), hL, fun k => ?_⟩
  have hk := k ls hl
  rw [List.map_cons, cv_i, bShr, i32_of] at hk
  exact lv_ishr hC.1 hC.2.1 hd hk
theorem ev_iushr {a b : Int} (hd : decode mi.2.1 pc = .ok (.iushr, 1)) (h : Ev X mi d (pc + 1) L ((0, bUshr a b) :: st) M r M') : Ev X mi d pc L ((0, b) :: (0, a) :: st) M r M' := by
  refine ev_step h ?_
  intro G R p l e s m args below meth c Q A kd ad H locs cells slots ls hC hX hst hL hl
  refine ⟨ok_cs (okI (i32_ok _)) (ok_tl (ok_tl hst)), hL, fun k => ?_⟩
  have hk := k ls hl
  rw [List.map_cons, cv_i, bUshr, i32_of] at hk
  exact lv_iushr hC.1 hC.2.1 hd rfl hk
theorem i32_ne0 {b : Int} (hb : ok32 b) (h : b ≠ 0) : ¬ Int32.ofInt b = 0 := fun e => h ((i32_eq hb ok32_0).mp e)
theorem i64_ne0 {b : Int} (hb : ok64 b) (h : b ≠ 0) : ¬ Int64.ofInt b = 0 := fun e => h ((i64_eq hb (by unfold ok64; omega)).mp e)
theorem ev_idiv {a b : Int} (hd : decode mi.2.1 pc = .ok (.idiv, 1)) (hb0 : b ≠ 0) (h : Ev X mi d (pc + 1) L ((0, iDiv a b) :: st) M r M') : Ev X mi d pc L ((0, b) :: (0, a) :: st) M r M' := by
  refine ev_step h ?_
  intro G R p l e s m args below meth c Q A kd ad H locs cells slots ls hC hX hst hL hl
  refine ⟨ok_cs (okI (i32_ok _)) (ok_tl (ok_tl hst)), hL, fun k => ?_⟩
  have hk := k ls hl
  rw [List.map_cons, cv_i, iDiv, i32_of] at hk
  exact lv_idiv hC.1 hC.2.1 hd (i32_ne0 ((ok_hd hst).1 rfl) hb0) hk
theorem ev_irem {a b : Int} (hd : decode mi.2.1 pc = .ok (.irem, 1)) (hb0 : b ≠ 0) (h : Ev X mi d (pc + 1) L ((0, iRem a b) :: st) M r M') : Ev X mi d pc L ((0, b) :: (0, a) :: st) M r M' := by
  refine ev_step h ?_
  intro G R p l e s m args below meth c Q A kd ad H locs cells slots ls hC hX hst hL hl
  refine ⟨ok_cs (okI (i32_ok _)) (ok_tl (ok_tl hst)), hL, fun k => ?_⟩
  have hk := k ls hl
  rw [List.map_cons, cv_i, iRem, i32_of] at hk
  exact lv_irem hC.1 hC.2.1 hd (i32_ne0 ((ok_hd hst).1 rfl) hb0) hk
theorem ev_ladd {a b : Int} (hd : decode mi.2.1 pc = .ok (.ladd, 1)) (h : Ev X mi d (pc + 1) L ((1, w64 (a + b)) :: st) M r M') : Ev X mi d pc L ((1, b) :: (1, a) :: st) M r M' := by
  refine ev_step h ?_
  intro G R p l e s m args below meth c Q A kd ad H locs cells slots ls hC hX hst hL hl
  refine ⟨ok_cs (okJ (w64_ok _)) (ok_tl (ok_tl hst)), hL, fun k => ?_⟩
  have hk := k ls hl
  rw [List.map_cons, cv_l, i64_w, Int64.ofInt_add] at hk
  exact lv_ladd hC.1 hC.2.1 hd hk
theorem ev_lsub {a b : Int} (hd : decode mi.2.1 pc = .ok (.lsub, 1)) (h : Ev X mi d (pc + 1) L ((1, w64 (a - b)) :: st) M r M') : Ev X mi d pc L ((1, b) :: (1, a) :: st) M r M' := by
  refine ev_step h ?_
  intro G R p l e s m args below meth c Q A kd ad H locs cells slots ls hC hX hst hL hl
  refine ⟨ok_cs (okJ (w64_ok _)) (ok_tl (ok_tl hst)), hL, fun k => ?_⟩
  have hk := k ls hl
  rw [List.map_cons, cv_l, i64_w, Int64.ofInt_sub] at hk
  exact lv_lsub hC.1 hC.2.1 hd hk
theorem ev_lmul {a b : Int} (hd : decode mi.2.1 pc = .ok (.lmul, 1)) (h : Ev X mi d (pc + 1) L ((1, w64 (a * b)) :: st) M r M') : Ev X mi d pc L ((1, b) :: (1, a) :: st) M r M' := by
  refine ev_step h ?_
  intro G R p l e s m args below meth c Q A kd ad H locs cells slots ls hC hX hst hL hl
  refine ⟨ok_cs (okJ (w64_ok _)) (ok_tl (ok_tl hst)), hL, fun k => ?_⟩
  have hk := k ls hl
  rw [List.map_cons, cv_l, i64_w, Int64.ofInt_mul] at hk
  exact lv_lmul hC.1 hC.2.1 hd hk
theorem ev_lor {a b : Int} (hd : decode mi.2.1 pc = .ok (.lor, 1)) (h : Ev X mi d (pc + 1) L ((1, lOr a b) :: st) M r M') : Ev X mi d pc L ((1, b) :: (1, a) :: st) M r M' := by
  refine ev_step h ?_
  intro G R p l e s m args below meth c Q A kd ad H locs cells slots ls hC hX hst hL hl
  refine ⟨ok_cs (okJ (i64_ok _)) (ok_tl (ok_tl hst)), hL, fun k => ?_⟩
  have hk := k ls hl
  rw [List.map_cons, cv_l, lOr, i64_of] at hk
  exact lv_lor hC.1 hC.2.1 hd hk
theorem ev_ldiv {a b : Int} (hd : decode mi.2.1 pc = .ok (.ldiv, 1)) (hb0 : b ≠ 0) (h : Ev X mi d (pc + 1) L ((1, lDiv a b) :: st) M r M') : Ev X mi d pc L ((1, b) :: (1, a) :: st) M r M' := by
  refine ev_step h ?_
  intro G R p l e s m args below meth c Q A kd ad H locs cells slots ls hC hX hst hL hl
  refine ⟨ok_cs (okJ (i64_ok _)) (ok_tl (ok_tl hst)), hL, fun k => ?_⟩
  have hk := k ls hl
  rw [List.map_cons, cv_l, lDiv, i64_of] at hk
  exact lv_ldiv hC.1 hC.2.1 hd (i64_ne0 ((ok_hd hst).2.1 rfl) hb0) hk
theorem ev_lrem {a b : Int} (hd : decode mi.2.1 pc = .ok (.lrem, 1)) (hb0 : b ≠ 0) (h : Ev X mi d (pc + 1) L ((1, lRem a b) :: st) M r M') : Ev X mi d pc L ((1, b) :: (1, a) :: st) M r M' := by
  refine ev_step h ?_
  intro G R p l e s m args below meth c Q A kd ad H locs cells slots ls hC hX hst hL hl
  refine ⟨ok_cs (okJ (i64_ok _)) (ok_tl (ok_tl hst)), hL, fun k => ?_⟩
  have hk := k ls hl
  rw [List.map_cons, cv_l, lRem, i64_of] at hk
  exact lv_lrem hC.1 hC.2.1 hd (i64_ne0 ((ok_hd hst).2.1 rfl) hb0) hk
theorem ev_lshl {a b : Int} (hd : decode mi.2.1 pc = .ok (.lshl, 1)) (h : Ev X mi d (pc + 1) L ((1, lShl a b) :: st) M r M') : Ev X mi d pc L ((0, b) :: (1, a) :: st) M r M' := by
  refine ev_step h ?_
  intro G R p l e s m args below meth c Q A kd ad H locs cells slots ls hC hX hst hL hl
  refine ⟨ok_cs (okJ (i64_ok _)) (ok_tl (ok_tl hst)), hL, fun k => ?_⟩
  have hk := k ls hl
  rw [List.map_cons, cv_l, lShl, i64_of] at hk
  exact lv_lshl hC.1 hC.2.1 hd rfl hk
theorem ev_ineg {a : Int} (hd : decode mi.2.1 pc = .ok (.ineg, 1)) (h : Ev X mi d (pc + 1) L ((0, w32 (-a)) :: st) M r M') : Ev X mi d pc L ((0, a) :: st) M r M' := by
  refine ev_step h ?_
  intro G R p l e s m args below meth c Q A kd ad H locs cells slots ls hC hX hst hL hl
  refine ⟨ok_cs (okI (w32_ok _)) (ok_tl hst), hL, fun k => ?_⟩
  have hk := k ls hl
  rw [List.map_cons, cv_i, i32_w, Int32.ofInt_neg] at hk
  exact lv_ineg hC.1 hC.2.1 hd hk
theorem ev_i2l {a : Int} (hd : decode mi.2.1 pc = .ok (.i2l, 1)) (h : Ev X mi d (pc + 1) L ((1, a) :: st) M r M') : Ev X mi d pc L ((0, a) :: st) M r M' := by
  refine ev_step h ?_
  intro G R p l e s m args below meth c Q A kd ad H locs cells slots ls hC hX hst hL hl
  have ha := (ok_hd hst).1 rfl
  have ha6 : ok64 a := by unfold ok32 at ha; unfold ok64; simp only at ha; omega
  refine ⟨ok_cs (okJ ha6) (ok_tl hst), hL, fun k => lv_i2l hC.1 hC.2.1 hd ?_ (k ls hl)⟩
  apply Int64.toInt_inj.mp
  rw [Int32.toInt_toInt64, i64_c ha6, i32_c ha]
theorem ev_l2i {a : Int} (hd : decode mi.2.1 pc = .ok (.l2i, 1)) (h : Ev X mi d (pc + 1) L ((0, w32 a) :: st) M r M') : Ev X mi d pc L ((1, a) :: st) M r M' := by
  refine ev_step h ?_
  intro G R p l e s m args below meth c Q A kd ad H locs cells slots ls hC hX hst hL hl
  have ha := (ok_hd hst).2.1 rfl
  refine ⟨ok_cs (okI (w32_ok _)) (ok_tl hst), hL, fun k => lv_l2i hC.1 hC.2.1 hd ?_ (k ls hl)⟩
  rw [i32_w]
  apply Int32.toInt_inj.mp
  rw [Int64.toInt_toInt32, i64_c ha, i32_t, Int.bmod_def]; unfold w32; split <;> omega
theorem ev_i2c {a : Int} (h0 : 0 ≤ a) (h1 : a < 65536) (hd : decode mi.2.1 pc = .ok (.i2c, 1)) (h : Ev X mi d (pc + 1) L ((0, a) :: st) M r M') : Ev X mi d pc L ((0, a) :: st) M r M' := by
  refine ev_step h ?_
  intro G R p l e s m args below meth c Q A kd ad H locs cells slots ls hC hX hst hL hl
  have ha := (ok_hd hst).1 rfl
  refine ⟨hst, hL, fun k => ?_⟩
  have hk := k ls hl
  rw [List.map_cons, cv_i] at hk
  refine lv_i2c hC.1 hC.2.1 hd ?_ hk
  obtain ⟨n, rfl⟩ := Int.eq_ofNat_of_zero_le h0
  have e : Int32.ofInt (n : Int) = nI n := by
    apply Int32.toInt_inj.mp; rw [i32_c ha, nI_toInt (by omega)]
  rw [e, pk_char, pk_tn (by omega), Nat.mod_eq_of_lt (by omega)]
theorem ev_icmp_eq {a b : Int} {off : Int} {tgt : Nat} (hd : decode mi.2.1 pc = .ok (.if_icmp .eq off, 3)) (ht : (pc : Int) + off = (tgt : Int)) (hm : (mN M ≤ mN M' ∧ mZ M ≤ mZ M') ∧ rB mi r) (kt : a = b → Ev X mi d tgt L st M r M') (kf : ¬ (a = b) → Ev X mi d (pc + 3) L st M r M') : Ev X mi d pc L ((0, b) :: (0, a) :: st) M r M' := by
  refine ⟨hm.1, hm.2, ?_⟩
  intro G R p l e s m args below meth c Q A kd ad H locs cells slots ls hC hX hst hL hl hc hs he
  have hb := (ok_hd hst).1 rfl
  have ha := (ok_hd (ok_tl hst)).1 rfl
  refine lv_icmp_eq (tgt := tgt) hC.1 hC.2.1 hd ht (fun q => ?_) (fun q => ?_)
  · exact (kt ((i32_eq ha hb).mp q)).2.2 G R p l e s m args below meth c Q A kd ad H locs cells slots ls hC hX (ok_tl (ok_tl hst)) hL hl hc hs he
  · exact (kf (fun z => q ((i32_eq ha hb).mpr z))).2.2 G R p l e s m args below meth c Q A kd ad H locs cells slots ls hC hX (ok_tl (ok_tl hst)) hL hl hc hs he
theorem ev_icmp_ne {a b : Int} {off : Int} {tgt : Nat} (hd : decode mi.2.1 pc = .ok (.if_icmp .ne off, 3)) (ht : (pc : Int) + off = (tgt : Int)) (hm : (mN M ≤ mN M' ∧ mZ M ≤ mZ M') ∧ rB mi r) (kt : a ≠ b → Ev X mi d tgt L st M r M') (kf : ¬ (a ≠ b) → Ev X mi d (pc + 3) L st M r M') : Ev X mi d pc L ((0, b) :: (0, a) :: st) M r M' := by
  refine ⟨hm.1, hm.2, ?_⟩
  intro G R p l e s m args below meth c Q A kd ad H locs cells slots ls hC hX hst hL hl hc hs he
  have hb := (ok_hd hst).1 rfl
  have ha := (ok_hd (ok_tl hst)).1 rfl
  refine lv_icmp_ne (tgt := tgt) hC.1 hC.2.1 hd ht (fun q => ?_) (fun q => ?_)
  · exact (kt ((not_congr (i32_eq ha hb)).mp q)).2.2 G R p l e s m args below meth c Q A kd ad H locs cells slots ls hC hX (ok_tl (ok_tl hst)) hL hl hc hs he
  · exact (kf (fun z => ((not_congr (i32_eq ha hb)).mpr z) q)).2.2 G R p l e s m args below meth c Q A kd ad H locs cells slots ls hC hX (ok_tl (ok_tl hst)) hL hl hc hs he
theorem ev_icmp_lt {a b : Int} {off : Int} {tgt : Nat} (hd : decode mi.2.1 pc = .ok (.if_icmp .lt off, 3)) (ht : (pc : Int) + off = (tgt : Int)) (hm : (mN M ≤ mN M' ∧ mZ M ≤ mZ M') ∧ rB mi r) (kt : a < b → Ev X mi d tgt L st M r M') (kf : ¬ (a < b) → Ev X mi d (pc + 3) L st M r M') : Ev X mi d pc L ((0, b) :: (0, a) :: st) M r M' := by
  refine ⟨hm.1, hm.2, ?_⟩
  intro G R p l e s m args below meth c Q A kd ad H locs cells slots ls hC hX hst hL hl hc hs he
  have hb := (ok_hd hst).1 rfl
  have ha := (ok_hd (ok_tl hst)).1 rfl
  refine lv_icmp_lt (tgt := tgt) hC.1 hC.2.1 hd ht (fun q => ?_) (fun q => ?_)
  · exact (kt ((i32_lt ha hb).mp q)).2.2 G R p l e s m args below meth c Q A kd ad H locs cells slots ls hC hX (ok_tl (ok_tl hst)) hL hl hc hs he
  · exact (kf (fun z => q ((i32_lt ha hb).mpr z))).2.2 G R p l e s m args below meth c Q A kd ad H locs cells slots ls hC hX (ok_tl (ok_tl hst)) hL hl hc hs he
theorem ev_icmp_ge {a b : Int} {off : Int} {tgt : Nat} (hd : decode mi.2.1 pc = .ok (.if_icmp .ge off, 3)) (ht : (pc : Int) + off = (tgt : Int)) (hm : (mN M ≤ mN M' ∧ mZ M ≤ mZ M') ∧ rB mi r) (kt : b ≤ a → Ev X mi d tgt L st M r M') (kf : ¬ (b ≤ a) → Ev X mi d (pc + 3) L st M r M') : Ev X mi d pc L ((0, b) :: (0, a) :: st) M r M' := by
  refine ⟨hm.1, hm.2, ?_⟩
  intro G R p l e s m args below meth c Q A kd ad H locs cells slots ls hC hX hst hL hl hc hs he
  have hb := (ok_hd hst).1 rfl
  have ha := (ok_hd (ok_tl hst)).1 rfl
  refine lv_icmp_ge (tgt := tgt) hC.1 hC.2.1 hd ht (fun q => ?_) (fun q => ?_)
  · exact (kt ((i32_le hb ha).mp q)).2.2 G R p l e s m args below meth c Q A kd ad H locs cells slots ls hC hX (ok_tl (ok_tl hst)) hL hl hc hs he
  · exact (kf (fun z => q ((i32_le hb ha).mpr z))).2.2 G R p l e s m args below meth c Q A kd ad H locs cells slots ls hC hX (ok_tl (ok_tl hst)) hL hl hc hs he
theorem ev_icmp_gt {a b : Int} {off : Int} {tgt : Nat} (hd : decode mi.2.1 pc = .ok (.if_icmp .gt off, 3)) (ht : (pc : Int) + off = (tgt : Int)) (hm : (mN M ≤ mN M' ∧ mZ M ≤ mZ M') ∧ rB mi r) (kt : b < a → Ev X mi d tgt L st M r M') (kf : ¬ (b < a) → Ev X mi d (pc + 3) L st M r M') : Ev X mi d pc L ((0, b) :: (0, a) :: st) M r M' := by
  refine ⟨hm.1, hm.2, ?_⟩
  intro G R p l e s m args below meth c Q A kd ad H locs cells slots ls hC hX hst hL hl hc hs he
  have hb := (ok_hd hst).1 rfl
  have ha := (ok_hd (ok_tl hst)).1 rfl
  refine lv_icmp_gt (tgt := tgt) hC.1 hC.2.1 hd ht (fun q => ?_) (fun q => ?_)
  · exact (kt ((i32_lt hb ha).mp q)).2.2 G R p l e s m args below meth c Q A kd ad H locs cells slots ls hC hX (ok_tl (ok_tl hst)) hL hl hc hs he
  · exact (kf (fun z => q ((i32_lt hb ha).mpr z))).2.2 G R p l e s m args below meth c Q A kd ad H locs cells slots ls hC hX (ok_tl (ok_tl hst)) hL hl hc hs he
theorem ev_icmp_le {a b : Int} {off : Int} {tgt : Nat} (hd : decode mi.2.1 pc = .ok (.if_icmp .le off, 3)) (ht : (pc : Int) + off = (tgt : Int)) (hm : (mN M ≤ mN M' ∧ mZ M ≤ mZ M') ∧ rB mi r) (kt : a ≤ b → Ev X mi d tgt L st M r M') (kf : ¬ (a ≤ b) → Ev X mi d (pc + 3) L st M r M') : Ev X mi d pc L ((0, b) :: (0, a) :: st) M r M' := by
  refine ⟨hm.1, hm.2, ?_⟩
  intro G R p l e s m args below meth c Q A kd ad H locs cells slots ls hC hX hst hL hl hc hs he
  have hb := (ok_hd hst).1 rfl
  have ha := (ok_hd (ok_tl hst)).1 rfl
  refine lv_icmp_le (tgt := tgt) hC.1 hC.2.1 hd ht (fun q => ?_) (fun q => ?_)
  · exact (kt ((i32_le ha hb).mp q)).2.2 G R p l e s m args below meth c Q A kd ad H locs cells slots ls hC hX (ok_tl (ok_tl hst)) hL hl hc hs he
  · exact (kf (fun z => q ((i32_le ha hb).mpr z))).2.2 G R p l e s m args below meth c Q A kd ad H locs cells slots ls hC hX (ok_tl (ok_tl hst)) hL hl hc hs he
theorem ev_if_eq {a : Int} {off : Int} {tgt : Nat} (hd : decode mi.2.1 pc = .ok (.ifCond .eq off, 3)) (ht : (pc : Int) + off = (tgt : Int)) (hm : (mN M ≤ mN M' ∧ mZ M ≤ mZ M') ∧ rB mi r) (kt : a = 0 → Ev X mi d tgt L st M r M') (kf : ¬ (a = 0) → Ev X mi d (pc + 3) L st M r M') : Ev X mi d pc L ((0, a) :: st) M r M' := by
  refine ⟨hm.1, hm.2, ?_⟩
  intro G R p l e s m args below meth c Q A kd ad H locs cells slots ls hC hX hst hL hl hc hs he
  have ha := (ok_hd hst).1 rfl
  refine lv_if_eq (tgt := tgt) hC.1 hC.2.1 hd ht (fun q => ?_) (fun q => ?_)
  · exact (kt ((i32_eq ha ok32_0).mp q)).2.2 G R p l e s m args below meth c Q A kd ad H locs cells slots ls hC hX (ok_tl hst) hL hl hc hs he
  · exact (kf (fun z => q ((i32_eq ha ok32_0).mpr z))).2.2 G R p l e s m args below meth c Q A kd ad H locs cells slots ls hC hX (ok_tl hst) hL hl hc hs he
theorem ev_if_ne {a : Int} {off : Int} {tgt : Nat} (hd : decode mi.2.1 pc = .ok (.ifCond .ne off, 3)) (ht : (pc : Int) + off = (tgt : Int)) (hm : (mN M ≤ mN M' ∧ mZ M ≤ mZ M') ∧ rB mi r) (kt : a ≠ 0 → Ev X mi d tgt L st M r M') (kf : ¬ (a ≠ 0) → Ev X mi d (pc + 3) L st M r M') : Ev X mi d pc L ((0, a) :: st) M r M' := by
  refine ⟨hm.1, hm.2, ?_⟩
  intro G R p l e s m args below meth c Q A kd ad H locs cells slots ls hC hX hst hL hl hc hs he
  have ha := (ok_hd hst).1 rfl
  refine lv_if_ne (tgt := tgt) hC.1 hC.2.1 hd ht (fun q => ?_) (fun q => ?_)
  · exact (kt ((not_congr (i32_eq ha ok32_0)).mp q)).2.2 G R p l e s m args below meth c Q A kd ad H locs cells slots ls hC hX (ok_tl hst) hL hl hc hs he
  · exact (kf (fun z => ((not_congr (i32_eq ha ok32_0)).mpr z) q)).2.2 G R p l e s m args below meth c Q A kd ad H locs cells slots ls hC hX (ok_tl hst) hL hl hc hs he
theorem ev_if_lt {a : Int} {off : Int} {tgt : Nat} (hd : decode mi.2.1 pc = .ok (.ifCond .lt off, 3)) (ht : (pc : Int) + off = (tgt : Int)) (hm : (mN M ≤ mN M' ∧ mZ M ≤ mZ M') ∧ rB mi r) (kt : a < 0 → Ev X mi d tgt L st M r M') (kf : ¬ (a < 0) → Ev X mi d (pc + 3) L st M r M') : Ev X mi d pc L ((0, a) :: st) M r M' := by
  refine ⟨hm.1, hm.2, ?_⟩
  intro G R p l e s m args below meth c Q A kd ad H locs cells slots ls hC hX hst hL hl hc hs he
  have ha := (ok_hd hst).1 rfl
  refine lv_if_lt (tgt := tgt) hC.1 hC.2.1 hd ht (fun q => ?_) (fun q => ?_)
  · exact (kt ((i32_lt ha ok32_0).mp q)).2.2 G R p l e s m args below meth c Q A kd ad H locs cells slots ls hC hX (ok_tl hst) hL hl hc hs he
  · exact (kf (fun z => q ((i32_lt ha ok32_0).mpr z))).2.2 G R p l e s m args below meth c Q A kd ad H locs cells slots ls hC hX (ok_tl hst) hL hl hc hs he
theorem ev_if_ge {a : Int} {off : Int} {tgt : Nat} (hd : decode mi.2.1 pc = .ok (.ifCond .ge off, 3)) (ht : (pc : Int) + off = (tgt : Int)) (hm : (mN M ≤ mN M' ∧ mZ M ≤ mZ M') ∧ rB mi r) (kt : 0 ≤ a → Ev X mi d tgt L st M r M') (kf : ¬ (0 ≤ a) → Ev X mi d (pc + 3) L st M r M') : Ev X mi d pc L ((0, a) :: st) M r M' := by
  refine ⟨hm.1, hm.2, ?_⟩
  intro G R p l e s m args below meth c Q A kd ad H locs cells slots ls hC hX hst hL hl hc hs he
  have ha := (ok_hd hst).1 rfl
  refine lv_if_ge (tgt := tgt) hC.1 hC.2.1 hd ht (fun q => ?_) (fun q => ?_)
  · exact (kt ((i32_le ok32_0 ha).mp q)).2.2 G R p l e s m args below meth c Q A kd ad H locs cells slots ls hC hX (ok_tl hst) hL hl hc hs he
  · exact (kf (fun z => q ((i32_le ok32_0 ha).mpr z))).2.2 G R p l e s m args below meth c Q A kd ad H locs cells slots ls hC hX (ok_tl hst) hL hl hc hs he
theorem ev_if_gt {a : Int} {off : Int} {tgt : Nat} (hd : decode mi.2.1 pc = .ok (.ifCond .gt off, 3)) (ht : (pc : Int) + off = (tgt : Int)) (hm : (mN M ≤ mN M' ∧ mZ M ≤ mZ M') ∧ rB mi r) (kt : 0 < a → Ev X mi d tgt L st M r M') (kf : ¬ (0 < a) → Ev X mi d (pc + 3) L st M r M') : Ev X mi d pc L ((0, a) :: st) M r M' := by
  refine ⟨hm.1, hm.2, ?_⟩
  intro G R p l e s m args below meth c Q A kd ad H locs cells slots ls hC hX hst hL hl hc hs he
  have ha := (ok_hd hst).1 rfl
  refine lv_if_gt (tgt := tgt) hC.1 hC.2.1 hd ht (fun q => ?_) (fun q => ?_)
  · exact (kt ((i32_lt ok32_0 ha).mp q)).2.2 G R p l e s m args below meth c Q A kd ad H locs cells slots ls hC hX (ok_tl hst) hL hl hc hs he
  · exact (kf (fun z => q ((i32_lt ok32_0 ha).mpr z))).2.2 G R p l e s m args below meth c Q A kd ad H locs cells slots ls hC hX (ok_tl hst) hL hl hc hs he
theorem ev_if_le {a : Int} {off : Int} {tgt : Nat} (hd : decode mi.2.1 pc = .ok (.ifCond .le off, 3)) (ht : (pc : Int) + off = (tgt : Int)) (hm : (mN M ≤ mN M' ∧ mZ M ≤ mZ M') ∧ rB mi r) (kt : a ≤ 0 → Ev X mi d tgt L st M r M') (kf : ¬ (a ≤ 0) → Ev X mi d (pc + 3) L st M r M') : Ev X mi d pc L ((0, a) :: st) M r M' := by
  refine ⟨hm.1, hm.2, ?_⟩
  intro G R p l e s m args below meth c Q A kd ad H locs cells slots ls hC hX hst hL hl hc hs he
  have ha := (ok_hd hst).1 rfl
  refine lv_if_le (tgt := tgt) hC.1 hC.2.1 hd ht (fun q => ?_) (fun q => ?_)
  · exact (kt ((i32_le ha ok32_0).mp q)).2.2 G R p l e s m args below meth c Q A kd ad H locs cells slots ls hC hX (ok_tl hst) hL hl hc hs he
  · exact (kf (fun z => q ((i32_le ha ok32_0).mpr z))).2.2 G R p l e s m args below meth c Q A kd ad H locs cells slots ls hC hX (ok_tl hst) hL hl hc hs he
theorem ev_icmp_eq_t {a b : Int} {off : Int} {tgt : Nat} (hd : decode mi.2.1 pc = .ok (.if_icmp .eq off, 3)) (ht : (pc : Int) + off = (tgt : Int)) (hc : a = b) (h : Ev X mi d tgt L st M r M') : Ev X mi d pc L ((0, b) :: (0, a) :: st) M r M' := ev_icmp_eq hd ht ⟨h.1, h.2.1⟩ (fun _ => h) (fun q => absurd hc q)
theorem ev_icmp_eq_f {a b : Int} {off : Int} (hd : decode mi.2.1 pc = .ok (.if_icmp .eq off, 3)) (ht : 0 ≤ (pc : Int) + off) (hc : ¬ (a = b)) (h : Ev X mi d (pc + 3) L st M r M') : Ev X mi d pc L ((0, b) :: (0, a) :: st) M r M' := ev_icmp_eq (tgt := ((pc : Int) + off).toNat) hd (Int.toNat_of_nonneg ht).symm ⟨h.1, h.2.1⟩ (fun q => absurd q hc) (fun _ => h)
theorem ev_icmp_ne_t {a b : Int} {off : Int} {tgt : Nat} (hd : decode mi.2.1 pc = .ok (.if_icmp .ne off, 3)) (ht : (pc : Int) + off = (tgt : Int)) (hc : a ≠ b) (h : Ev X mi d tgt L st M r M') : Ev X mi d pc L ((0, b) :: (0, a) :: st) M r M' := ev_icmp_ne hd ht ⟨h.1, h.2.1⟩ (fun _ => h) (fun q => absurd hc q)
theorem ev_icmp_ne_f {a b : Int} {off : Int} (hd : decode mi.2.1 pc = .ok (.if_icmp .ne off, 3)) (ht : 0 ≤ (pc : Int) + off) (hc : ¬ (a ≠ b)) (h : Ev X mi d (pc + 3) L st M r M') : Ev X mi d pc L ((0, b) :: (0, a) :: st) M r M' := ev_icmp_ne (tgt := ((pc : Int) + off).toNat) hd (Int.toNat_of_nonneg ht).symm ⟨h.1, h.2.1⟩ (fun q => absurd q hc) (fun _ => h)
theorem ev_icmp_lt_t {a b : Int} {off : Int} {tgt : Nat} (hd : decode mi.2.1 pc = .ok (.if_icmp .lt off, 3)) (ht : (pc : Int) + off = (tgt : Int)) (hc : a < b) (h : Ev X mi d tgt L st M r M') : Ev X mi d pc L ((0, b) :: (0, a) :: st) M r M' := ev_icmp_lt hd ht ⟨h.1, h.2.1⟩ (fun _ => h) (fun q => absurd hc q)
theorem ev_icmp_lt_f {a b : Int} {off : Int} (hd : decode mi.2.1 pc = .ok (.if_icmp .lt off, 3)) (ht : 0 ≤ (pc : Int) + off) (hc : ¬ (a < b)) (h : Ev X mi d (pc + 3) L st M r M') : Ev X mi d pc L ((0, b) :: (0, a) :: st) M r M' := ev_icmp_lt (tgt := ((pc : Int) + off).toNat) hd (Int.toNat_of_nonneg ht).symm ⟨h.1, h.2.1⟩ (fun q => absurd q hc) (fun _ => h)
theorem ev_icmp_ge_t {a b : Int} {off : Int} {tgt : Nat} (hd : decode mi.2.1 pc = .ok (.if_icmp .ge off, 3)) (ht : (pc : Int) + off = (tgt : Int)) (hc : b ≤ a) (h : Ev X mi d tgt L st M r M') : Ev X mi d pc L ((0, b) :: (0, a) :: st) M r M' := ev_icmp_ge hd ht ⟨h.1, h.2.1⟩ (fun _ => h) (fun q => absurd hc q)
theorem ev_icmp_ge_f {a b : Int} {off : Int} (hd : decode mi.2.1 pc = .ok (.if_icmp .ge off, 3)) (ht : 0 ≤ (pc : Int) + off) (hc : ¬ (b ≤ a)) (h : Ev X mi d (pc + 3) L st M r M') : Ev X mi d pc L ((0, b) :: (0, a) :: st) M r M' := ev_icmp_ge (tgt := ((pc : Int) + off).toNat) hd (Int.toNat_of_nonneg ht).symm ⟨h.1, h.2.1⟩ (fun q => absurd q hc) (fun _ => h)
theorem ev_icmp_gt_t {a b : Int} {off : Int} {tgt : Nat} (hd : decode mi.2.1 pc = .ok (.if_icmp .gt off, 3)) (ht : (pc : Int) + off = (tgt : Int)) (hc : b < a) (h : Ev X mi d tgt L st M r M') : Ev X mi d pc L ((0, b) :: (0, a) :: st) M r M' := ev_icmp_gt hd ht ⟨h.1, h.2.1⟩ (fun _ => h) (fun q => absurd hc q)
theorem ev_icmp_gt_f {a b : Int} {off : Int} (hd : decode mi.2.1 pc = .ok (.if_icmp .gt off, 3)) (ht : 0 ≤ (pc : Int) + off) (hc : ¬ (b < a)) (h : Ev X mi d (pc + 3) L st M r M') : Ev X mi d pc L ((0, b) :: (0, a) :: st) M r M' := ev_icmp_gt (tgt := ((pc : Int) + off).toNat) hd (Int.toNat_of_nonneg ht).symm ⟨h.1, h.2.1⟩ (fun q => absurd q hc) (fun _ => h)
theorem ev_icmp_le_t {a b : Int} {off : Int} {tgt : Nat} (hd : decode mi.2.1 pc = .ok (.if_icmp .le off, 3)) (ht : (pc : Int) + off = (tgt : Int)) (hc : a ≤ b) (h : Ev X mi d tgt L st M r M') : Ev X mi d pc L ((0, b) :: (0, a) :: st) M r M' := ev_icmp_le hd ht ⟨h.1, h.2.1⟩ (fun _ => h) (fun q => absurd hc q)
theorem ev_icmp_le_f {a b : Int} {off : Int} (hd : decode mi.2.1 pc = .ok (.if_icmp .le off, 3)) (ht : 0 ≤ (pc : Int) + off) (hc : ¬ (a ≤ b)) (h : Ev X mi d (pc + 3) L st M r M') : Ev X mi d pc L ((0, b) :: (0, a) :: st) M r M' := ev_icmp_le (tgt := ((pc : Int) + off).toNat) hd (Int.toNat_of_nonneg ht).symm ⟨h.1, h.2.1⟩ (fun q => absurd q hc) (fun _ => h)
theorem ev_if_eq_t {a : Int} {off : Int} {tgt : Nat} (hd : decode mi.2.1 pc = .ok (.ifCond .eq off, 3)) (ht : (pc : Int) + off = (tgt : Int)) (hc : a = 0) (h : Ev X mi d tgt L st M r M') : Ev X mi d pc L ((0, a) :: st) M r M' := ev_if_eq hd ht ⟨h.1, h.2.1⟩ (fun _ => h) (fun q => absurd hc q)
theorem ev_if_eq_f {a : Int} {off : Int} (hd : decode mi.2.1 pc = .ok (.ifCond .eq off, 3)) (ht : 0 ≤ (pc : Int) + off) (hc : ¬ (a = 0)) (h : Ev X mi d (pc + 3) L st M r M') : Ev X mi d pc L ((0, a) :: st) M r M' := ev_if_eq (tgt := ((pc : Int) + off).toNat) hd (Int.toNat_of_nonneg ht).symm ⟨h.1, h.2.1⟩ (fun q => absurd q hc) (fun _ => h)
theorem ev_if_ne_t {a : Int} {off : Int} {tgt : Nat} (hd : decode mi.2.1 pc = .ok (.ifCond .ne off, 3)) (ht : (pc : Int) + off = (tgt : Int)) (hc : a ≠ 0) (h : Ev X mi d tgt L st M r M') : Ev X mi d pc L ((0, a) :: st) M r M' := ev_if_ne hd ht ⟨h.1, h.2.1⟩ (fun _ => h) (fun q => absurd hc q)
theorem ev_if_ne_f {a : Int} {off : Int} (hd : decode mi.2.1 pc = .ok (.ifCond .ne off, 3)) (ht : 0 ≤ (pc : Int) + off) (hc : ¬ (a ≠ 0)) (h : Ev X mi d (pc + 3) L st M r M') : Ev X mi d pc L ((0, a) :: st) M r M' := ev_if_ne (tgt := ((pc : Int) + off).toNat) hd (Int.toNat_of_nonneg ht).symm ⟨h.1, h.2.1⟩ (fun q => absurd q hc) (fun _ => h)
theorem ev_if_lt_t {a : Int} {off : Int} {tgt : Nat} (hd : decode mi.2.1 pc = .ok (.ifCond .lt off, 3)) (ht : (pc : Int) + off = (tgt : Int)) (hc : a < 0) (h : Ev X mi d tgt L st M r M') : Ev X mi d pc L ((0, a) :: st) M r M' := ev_if_lt hd ht ⟨h.1, h.2.1⟩ (fun _ => h) (fun q => absurd hc q)
theorem ev_if_lt_f {a : Int} {off : Int} (hd : decode mi.2.1 pc = .ok (.ifCond .lt off, 3)) (ht : 0 ≤ (pc : Int) + off) (hc : ¬ (a < 0)) (h : Ev X mi d (pc + 3) L st M r M') : Ev X mi d pc L ((0, a) :: st) M r M' := ev_if_lt (tgt := ((pc : Int) + off).toNat) hd (Int.toNat_of_nonneg ht).symm ⟨h.1, h.2.1⟩ (fun q => absurd q hc) (fun _ => h)
theorem ev_if_ge_t {a : Int} {off : Int} {tgt : Nat} (hd : decode mi.2.1 pc = .ok (.ifCond .ge off, 3)) (ht : (pc : Int) + off = (tgt : Int)) (hc : 0 ≤ a) (h : Ev X mi d tgt L st M r M') : Ev X mi d pc L ((0, a) :: st) M r M' := ev_if_ge hd ht ⟨h.1, h.2.1⟩ (fun _ => h) (fun q => absurd hc q)
theorem ev_if_ge_f {a : Int} {off : Int} (hd : decode mi.2.1 pc = .ok (.ifCond .ge off, 3)) (ht : 0 ≤ (pc : Int) + off) (hc : ¬ (0 ≤ a)) (h : Ev X mi d (pc + 3) L st M r M') : Ev X mi d pc L ((0, a) :: st) M r M' := ev_if_ge (tgt := ((pc : Int) + off).toNat) hd (Int.toNat_of_nonneg ht).symm ⟨h.1, h.2.1⟩ (fun q => absurd q hc) (fun _ => h)
theorem ev_if_gt_t {a : Int} {off : Int} {tgt : Nat} (hd : decode mi.2.1 pc = .ok (.ifCond .gt off, 3)) (ht : (pc : Int) + off = (tgt : Int)) (hc : 0 < a) (h : Ev X mi d tgt L st M r M') : Ev X mi d pc L ((0, a) :: st) M r M' := ev_if_gt hd ht ⟨h.1, h.2.1⟩ (fun _ => h) (fun q => absurd hc q)
theorem ev_if_gt_f {a : Int} {off : Int} (hd : decode mi.2.1 pc = .ok (.ifCond .gt off, 3)) (ht : 0 ≤ (pc : Int) + off) (hc : ¬ (0 < a)) (h : Ev X mi d (pc + 3) L st M r M') : Ev X mi d pc L ((0, a) :: st) M r M' := ev_if_gt (tgt := ((pc : Int) + off).toNat) hd (Int.toNat_of_nonneg ht).symm ⟨h.1, h.2.1⟩ (fun q => absurd q hc) (fun _ => h)
theorem ev_if_le_t {a : Int} {off : Int} {tgt : Nat} (hd : decode mi.2.1 pc = .ok (.ifCond .le off, 3)) (ht : (pc : Int) + off = (tgt : Int)) (hc : a ≤ 0) (h : Ev X mi d tgt L st M r M') : Ev X mi d pc L ((0, a) :: st) M r M' := ev_if_le hd ht ⟨h.1, h.2.1⟩ (fun _ => h) (fun q => absurd hc q)
theorem ev_if_le_f {a : Int} {off : Int} (hd : decode mi.2.1 pc = .ok (.ifCond .le off, 3)) (ht : 0 ≤ (pc : Int) + off) (hc : ¬ (a ≤ 0)) (h : Ev X mi d (pc + 3) L st M r M') : Ev X mi d pc L ((0, a) :: st) M r M' := ev_if_le (tgt := ((pc : Int) + off).toNat) hd (Int.toNat_of_nonneg ht).symm ⟨h.1, h.2.1⟩ (fun q => absurd q hc) (fun _ => h)
def lC (a b : Int) : Int := if a < b then -1 else if a = b then 0 else 1
theorem lC_ok (a b : Int) : ok32 (lC a b) := by unfold lC ok32; split <;> (try split) <;> omega
theorem ev_lcmp {a b : Int} (hd : decode mi.2.1 pc = .ok (.lcmp, 1)) (h : Ev X mi d (pc + 1) L ((0, lC a b) :: st) M r M') : Ev X mi d pc L ((1, b) :: (1, a) :: st) M r M' := by
  refine ev_step h ?_
  intro G R p l e s m args below meth c Q A kd ad H locs cells slots ls hC hX hst hL hl
  have hb := (ok_hd hst).2.1 rfl
  have ha := (ok_hd (ok_tl hst)).2.1 rfl
  refine ⟨ok_cs (okI (lC_ok _ _)) (ok_tl (ok_tl hst)), hL, fun k => ?_⟩
  have hk := k ls hl
  rw [List.map_cons, cv_i] at hk
  have e : lg_cmp (Int64.ofInt a) (Int64.ofInt b) = Int32.ofInt (lC a b) := by
    have h1 := i64_lt ha hb
    have h2 := i64_lt hb ha
    have h3 := i64_eq ha hb
    unfold lg_cmp lC
    by_cases q1 : a < b
    · have q2 := h1.mpr q1
      have q3 : ¬ Int64.ofInt b < Int64.ofInt a := fun z => by have := h2.mp z; omega
      have q4 : ¬ Int64.ofInt a = Int64.ofInt b := fun z => by have := h3.mp z; omega
      simp [q1, q2, q3, q4] <;> rfl
    · have q2 : ¬ Int64.ofInt a < Int64.ofInt b := fun z => q1 (h1.mp z)
      by_cases q5 : a = b
      · have q6 := h3.mpr q5
        have q3 : ¬ Int64.ofInt b < Int64.ofInt a := fun z => by have := h2.mp z; omega
        simp [q1, q2, q3, q5, q6] <;> rfl
      · have q4 : ¬ Int64.ofInt a = Int64.ofInt b := fun z => q5 (h3.mp z)
        have q3 : Int64.ofInt b < Int64.ofInt a := h2.mpr (by omega)
        simp [q1, q2, q3, q4, q5] <;> rfl
  refine W.lcmp hC.1 hC.2.1 hd ?_
  rw [e]; exact hk
theorem lC_eq (a b : Int) : lC a b = 0 ↔ a = b := by unfold lC; split <;> (try split) <;> omega
theorem lC_ne (a b : Int) : lC a b ≠ 0 ↔ a ≠ b := by unfold lC; split <;> (try split) <;> omega
theorem lC_lt (a b : Int) : lC a b < 0 ↔ a < b := by unfold lC; split <;> (try split) <;> omega
theorem lC_ge (a b : Int) : 0 ≤ lC a b ↔ b ≤ a := by unfold lC; split <;> (try split) <;> omega
theorem lC_gt (a b : Int) : 0 < lC a b ↔ b < a := by unfold lC; split <;> (try split) <;> omega
theorem lC_le (a b : Int) : lC a b ≤ 0 ↔ a ≤ b := by unfold lC; split <;> (try split) <;> omega
theorem ev_goto {off : Int} {tgt : Nat} (hd : decode mi.2.1 pc = .ok (.goto off, 3)) (ht : (pc : Int) + off = (tgt : Int)) (h : Ev X mi d tgt L st M r M') : Ev X mi d pc L st M r M' := by
  refine ev_step h ?_
  intro G R p l e s m args below meth c Q A kd ad H locs cells slots ls hC hX hst hL hl
  exact ⟨hst, hL, fun k => lv_goto hC.1 hC.2.1 hd ht (k ls hl)⟩
theorem cat1 {G : GG} {ad : Nat → Nat} {q : AV} (h : q.1 ≠ 1) : (cv G ad q).category = 1 := by rw [cv_cat, if_neg h]
theorem ev_dup {q : AV} (hd : decode mi.2.1 pc = .ok (.dup, 1)) (hq : q.1 ≠ 1) (h : Ev X mi d (pc + 1) L (q :: q :: st) M r M') : Ev X mi d pc L (q :: st) M r M' := by
  refine ev_step h ?_
  intro G R p l e s m args below meth c Q A kd ad H locs cells slots ls hC hX hst hL hl
  exact ⟨ok_cs (ok_hd hst) hst, hL, fun k => lv_dup hC.1 hC.2.1 hd (cat1 hq) (k ls hl)⟩
theorem ev_pop {q : AV} (hd : decode mi.2.1 pc = .ok (.pop, 1)) (hq : q.1 ≠ 1) (h : Ev X mi d (pc + 1) L st M r M') : Ev X mi d pc L (q :: st) M r M' := by
  refine ev_step h ?_
  intro G R p l e s m args below meth c Q A kd ad H locs cells slots ls hC hX hst hL hl
  exact ⟨ok_tl hst, hL, fun k => lv_pop hC.1 hC.2.1 hd (cat1 hq) (k ls hl)⟩
theorem ev_dup2 {q q2 : AV} (hd : decode mi.2.1 pc = .ok (.dup2, 1)) (hq : q.1 ≠ 1) (hq2 : q2.1 ≠ 1) (h : Ev X mi d (pc + 1) L (q :: q2 :: q :: q2 :: st) M r M') : Ev X mi d pc L (q :: q2 :: st) M r M' := by
  refine ev_step h ?_
  intro G R p l e s m args below meth c Q A kd ad H locs cells slots ls hC hX hst hL hl
  exact ⟨ok_cs (ok_hd hst) (ok_cs (ok_hd (ok_tl hst)) hst), hL, fun k => lv_dup2_11 hC.1 hC.2.1 hd (cat1 hq) (cat1 hq2) (k ls hl)⟩
theorem ev_lconst {n : Fin 2} {v : Int} (hd : decode mi.2.1 pc = .ok (.lconst n, 1)) (hn : Int64.ofNat (n : Nat) = Int64.ofInt v) (hv : (decide (-9223372036854775808 ≤ v) && decide (v < 9223372036854775808)) = true) (h : Ev X mi d (pc + 1) L ((1, v) :: st) M r M') : Ev X mi d pc L st M r M' := by
  have hv : ok64 v := by simp only [Bool.and_eq_true, decide_eq_true_eq] at hv; exact hv
  refine ev_step h ?_
  intro G R p l e s m args below meth c Q A kd ad H locs cells slots ls hC hX hst hL hl
  exact ⟨ok_cs (okJ hv) hst, hL, fun k => lv_lconst hC.1 hC.2.1 hd hn (k ls hl)⟩
theorem ev_null {t : Nat} (h2 : 2 ≤ t) (h16 : t ≤ 16) (hd : decode mi.2.1 pc = .ok (.aconst_null, 1)) (h : Ev X mi d (pc + 1) L ((t, 0) :: st) M r M') : Ev X mi d pc L st M r M' := by
  refine ev_step h ?_
  intro G R p l e s m args below meth c Q A kd ad H locs cells slots ls hC hX hst hL hl
  refine ⟨ok_cs ⟨fun e => by simp only at e; omega, fun e => by simp only at e; omega, fun _ _ => Or.inl rfl, fun e => by simp only at e; omega, fun e => by simp only at e; omega⟩ hst, hL, fun k => ?_⟩
  have hk := k ls hl
  rw [List.map_cons, cv_n G ad h2 h16] at hk
  exact lv_null hC.1 hC.2.1 hd hk
theorem ev_ifnull_t {t : Nat} {v : Int} {off : Int} {tgt : Nat} (h2 : 2 ≤ t) (h16 : t ≤ 16) (hd : decode mi.2.1 pc = .ok (.ifnull off, 3)) (ht : (pc : Int) + off = (tgt : Int)) (hv : v = 0) (h : Ev X mi d tgt L st M r M') : Ev X mi d pc L ((t, v) :: st) M r M' := by
  subst hv
  refine ev_step h ?_
  intro G R p l e s m args below meth c Q A kd ad H locs cells slots ls hC hX hst hL hl
  refine ⟨ok_tl hst, hL, fun k => ?_⟩
  rw [List.map_cons, cv_n G ad h2 h16]
  exact lv_ifnullN hC.1 hC.2.1 hd ht (k ls hl)
theorem ev_ifnull_f {t : Nat} {v : Int} {off : Int} (h2 : 2 ≤ t) (h16 : t ≤ 16) (hd : decode mi.2.1 pc = .ok (.ifnull off, 3)) (hv : ¬ (v = 0)) (h : Ev X mi d (pc + 3) L st M r M') : Ev X mi d pc L ((t, v) :: st) M r M' := by
  refine ev_step h ?_
  intro G R p l e s m args below meth c Q A kd ad H locs cells slots ls hC hX hst hL hl
  refine ⟨ok_tl hst, hL, fun k => ?_⟩
  rw [List.map_cons, cv_r G ad h2 h16 hv]
  exact lv_ifnull hC.1 hC.2.1 hd (k ls hl)
theorem ev_ifnonnull_t {t : Nat} {v : Int} {off : Int} {tgt : Nat} (h2 : 2 ≤ t) (h16 : t ≤ 16) (hd : decode mi.2.1 pc = .ok (.ifnonnull off, 3)) (ht : (pc : Int) + off = (tgt : Int)) (hv : v ≠ 0) (h : Ev X mi d tgt L st M r M') : Ev X mi d pc L ((t, v) :: st) M r M' := by
  refine ev_step h ?_
  intro G R p l e s m args below meth c Q A kd ad H locs cells slots ls hC hX hst hL hl
  refine ⟨ok_tl hst, hL, fun k => ?_⟩
  rw [List.map_cons, cv_r G ad h2 h16 hv]
  exact lv_ifnonnull hC.1 hC.2.1 hd ht (k ls hl)
theorem ev_ifnonnull_f {t : Nat} {v : Int} {off : Int} (h2 : 2 ≤ t) (h16 : t ≤ 16) (hd : decode mi.2.1 pc = .ok (.ifnonnull off, 3)) (hv : ¬ (v ≠ 0)) (h : Ev X mi d (pc + 3) L st M r M') : Ev X mi d pc L ((t, v) :: st) M r M' := by
  have hv : v = 0 := by omega
  subst hv
  refine ev_step h ?_
  intro G R p l e s m args below meth c Q A kd ad H locs cells slots ls hC hX hst hL hl
  refine ⟨ok_tl hst, hL, fun k => ?_⟩
  rw [List.map_cons, cv_n G ad h2 h16]
  exact lv_ifnonnullN hC.1 hC.2.1 hd (k ls hl)
theorem ev_tabIn {v : Int} (i : Nat) {dflt lo hi : Int} {offs : Array Int} {len : Nat} {off : Int} {tgt : Nat} (hd : decode mi.2.1 pc = .ok (.tableswitch dflt lo hi offs, len)) (hv : v = lo + (i : Int)) (h2 : ¬ hi < lo + (i : Int)) (ho : offs[i]? = some off) (ht : (pc : Int) + off = (tgt : Int)) (h : Ev X mi d tgt L st M r M') : Ev X mi d pc L ((0, v) :: st) M r M' := by
  refine ev_step h ?_
  intro G R p l e s m args below meth c Q A kd ad H locs cells slots ls hC hX hst hL hl
  have ha := (ok_hd hst).1 rfl
  refine ⟨ok_tl hst, hL, fun k => lv_tableIn hC.1 hC.2.1 hd ?_ ?_ ?_ ht (k ls hl)⟩
  · rw [i32_c ha]; omega
  · rw [i32_c ha]; omega
  · rw [i32_c ha, show (v - lo).toNat = i by omega]; exact ho
theorem ev_tabOut {v : Int} {dflt lo hi : Int} {offs : Array Int} {len : Nat} {tgt : Nat} (hd : decode mi.2.1 pc = .ok (.tableswitch dflt lo hi offs, len)) (hv : v < lo ∨ hi < v) (ht : (pc : Int) + dflt = (tgt : Int)) (h : Ev X mi d tgt L st M r M') : Ev X mi d pc L ((0, v) :: st) M r M' := by
  refine ev_step h ?_
  intro G R p l e s m args below meth c Q A kd ad H locs cells slots ls hC hX hst hL hl
  have ha := (ok_hd hst).1 rfl
  refine ⟨ok_tl hst, hL, fun k => lv_tableOut hC.1 hC.2.1 hd ?_ ht (k ls hl)⟩
  rw [i32_c ha]; exact hv
theorem ev_look {v : Int} {dflt : Int} {ps : Array (Int × Int)} {len : Nat} {off : Int} {tgt : Nat} (hd : decode mi.2.1 pc = .ok (.lookupswitch dflt ps, len)) (hp : (ps.toList.zip (ps.toList.drop 1)).all (fun (a, next) => a.1 < next.1) = true) (ho : Op.lookupswitch.offset ps.toList dflt v = off) (ht : (pc : Int) + off = (tgt : Int)) (h : Ev X mi d tgt L st M r M') : Ev X mi d pc L ((0, v) :: st) M r M' := by
  refine ev_step h ?_
  intro G R p l e s m args below meth c Q A kd ad H locs cells slots ls hC hX hst hL hl
  have ha := (ok_hd hst).1 rfl
  refine ⟨ok_tl hst, hL, fun k => lv_lookup hC.1 hC.2.1 hd hp ?_ ht (k ls hl)⟩
  rw [i32_c ha]; exact ho
theorem ev_ret {v : Int} (hd : decode mi.2.1 pc = .ok (.ireturn, 1)) (hi : mi.2.2.2.1 = some .int) : Ev X mi d pc L [(0, v)] M (some (0, v)) M := by
  refine ⟨⟨Nat.le_refl _, Nat.le_refl _⟩, fun q _ h => (by rw [hi] at h; cases h), ?_⟩
  intro G R p l e s m args below meth c Q A kd ad H locs cells slots ls hC hX hst hL hl hc hs he
  exact he kd ad H locs cells slots pc ls (fun _ _ => ⟨rfl, rfl⟩) hX ⟨ok_hd hst, Or.inl ⟨rfl, Or.inl hi⟩⟩ hd (by omega) (by omega)
theorem ev_retZ {v : Int} (hd : decode mi.2.1 pc = .ok (.ireturn, 1)) (hi : mi.2.2.2.1 = some .boolean) (hv : v = 0 ∨ v = 1) : Ev X mi d pc L [(0, v)] M (some (0, v)) M := by
  refine ⟨⟨Nat.le_refl _, Nat.le_refl _⟩, fun q e _ => (by cases e; exact hv), ?_⟩
  intro G R p l e s m args below meth c Q A kd ad H locs cells slots ls hC hX hst hL hl hc hs he
  exact he kd ad H locs cells slots pc ls (fun _ _ => ⟨rfl, rfl⟩) hX ⟨ok_hd hst, Or.inl ⟨rfl, Or.inr (Or.inl ⟨hi, hv⟩)⟩⟩ hd (by omega) (by omega)
theorem ev_retB (hd : decode mi.2.1 pc = .ok (.ireturn, 1)) (hi : mi.2.2.2.1 = some .byte) : Ev X mi d pc L [(0, 0)] M (some (0, 0)) M := by
  refine ⟨⟨Nat.le_refl _, Nat.le_refl _⟩, fun q _ h => (by rw [hi] at h; cases h), ?_⟩
  intro G R p l e s m args below meth c Q A kd ad H locs cells slots ls hC hX hst hL hl hc hs he
  exact he kd ad H locs cells slots pc ls (fun _ _ => ⟨rfl, rfl⟩) hX ⟨ok_hd hst, Or.inl ⟨rfl, Or.inr (Or.inr (Or.inl ⟨hi, rfl⟩))⟩⟩ hd (by omega) (by omega)
theorem ev_retC {v : Int} (hd : decode mi.2.1 pc = .ok (.ireturn, 1)) (hi : mi.2.2.2.1 = some .char) (hv : 0 ≤ v ∧ v < 128) : Ev X mi d pc L [(0, v)] M (some (0, v)) M := by
  refine ⟨⟨Nat.le_refl _, Nat.le_refl _⟩, fun q _ h => (by rw [hi] at h; cases h), ?_⟩
  intro G R p l e s m args below meth c Q A kd ad H locs cells slots ls hC hX hst hL hl hc hs he
  exact he kd ad H locs cells slots pc ls (fun _ _ => ⟨rfl, rfl⟩) hX ⟨ok_hd hst, Or.inl ⟨rfl, Or.inr (Or.inr (Or.inr ⟨hi, hv.1, hv.2⟩))⟩⟩ hd (by omega) (by omega)
theorem ev_retL {v : Int} (hd : decode mi.2.1 pc = .ok (.lreturn, 1)) (hi : mi.2.2.2.1 = some .long) : Ev X mi d pc L [(1, v)] M (some (1, v)) M := by
  refine ⟨⟨Nat.le_refl _, Nat.le_refl _⟩, fun q _ h => (by rw [hi] at h; cases h), ?_⟩
  intro G R p l e s m args below meth c Q A kd ad H locs cells slots ls hC hX hst hL hl hc hs he
  exact he kd ad H locs cells slots pc ls (fun _ _ => ⟨rfl, rfl⟩) hX ⟨ok_hd hst, Or.inr (Or.inl ⟨rfl, hi⟩)⟩ hd (by omega) (by omega)
theorem ev_retV (hd : decode mi.2.1 pc = .ok (.return_, 1)) (hi : mi.2.2.2.1 = none) : Ev X mi d pc L [] M none M := by
  refine ⟨⟨Nat.le_refl _, Nat.le_refl _⟩, fun q e _ => (by cases e), ?_⟩
  intro G R p l e s m args below meth c Q A kd ad H locs cells slots ls hC hX hst hL hl hc hs he
  exact he kd ad H locs cells slots pc ls (fun _ _ => ⟨rfl, rfl⟩) hX hi hd (by omega) (by omega)
theorem ev_retA {t : Nat} {v : Int} {C : String} (h2 : 2 ≤ t) (h16 : t ≤ 16) (hd : decode mi.2.1 pc = .ok (.areturn, 1)) (hi : mi.2.2.2.1 = some (.object C)) : Ev X mi d pc L [(t, v)] M (some (t, v)) M := by
  refine ⟨⟨Nat.le_refl _, Nat.le_refl _⟩, fun q _ h => (by rw [hi] at h; cases h), ?_⟩
  intro G R p l e s m args below meth c Q A kd ad H locs cells slots ls hC hX hst hL hl hc hs he
  have hrd : rD mi pc (some (t, v)) := by unfold rD; simp only; rw [if_neg (by omega), if_neg (by omega)]; exact hd
  exact he kd ad H locs cells slots pc ls (fun _ _ => ⟨rfl, rfl⟩) hX ⟨ok_hd hst, Or.inr (Or.inr ⟨h2, h16, C, hi⟩)⟩ hrd (by omega) (by omega)
end EV2
end
section
/-! the world's list -/
theorem wl_len (G : GG) (ad kd : Nat → Nat) (M : Mm) : (wl G ad kd M).length = mN M := by unfold wl; rw [List.length_map, List.length_range]
theorem wl_at {G : GG} {ad kd : Nat → Nat} {M : Mm} {c : Nat} (h : c < mN M) : (wl G ad kd M)[c]? = some (ad c, cE G ad kd M c) := by
  unfold wl; rw [List.getElem?_map, List.getElem?_range h]; rfl
theorem cI_s (c : Nat) : cI ((c : Int) + 1) = c := by unfold cI; omega
/-- a reference that isn't null: its cell -/
theorem ref_at {kd : Nat → Nat} {n t : Nat} {v : Int} (h : okV kd n (t, v)) (h2 : 2 ≤ t) (h16 : t ≤ 16) (hv : v ≠ 0) : cI v < n ∧ kd (cI v) = t := by
  rcases h.2.2.1 h2 h16 with e | ⟨c, e, hc, hk⟩
  · exact absurd e hv
  · simp only at e; rw [e, cI_s]; exact ⟨hc, hk⟩
theorem mg_mp_s (M : Mm) (c k : Nat) (v : Int) : mg (mp M c k v) c k = v := by unfold mg mp; simp
theorem mg_mp_n {M : Mm} {c k c' k' : Nat} {v : Int} (h : ¬ (c' = c ∧ k' = k)) : mg (mp M c k v) c' k' = mg M c' k' := by unfold mg mp; simp only [h, if_false]
theorem mg_mp (M : Mm) (c k : Nat) (v : Int) (c' k' : Nat) : mg (mp M c k v) c' k' = if c' = c ∧ k' = k then v else mg M c' k' := rfl
theorem ml_mp (M : Mm) (c k : Nat) (v : Int) (c' : Nat) : ml (mp M c k v) c' = ml M c' := rfl
theorem mN_mp (M : Mm) (c k : Nat) (v : Int) : mN (mp M c k v) = mN M := rfl
theorem mZ_mp (M : Mm) (c k : Nat) (v : Int) : mZ (mp M c k v) = mZ M := rfl
theorem cE_ne {G : GG} {ad kd : Nat → Nat} {M : Mm} {c k j : Nat} {x : Int} (h : j ≠ c) : cE G ad kd (mp M c k x) j = cE G ad kd M j := by
  have e : ∀ k', mg (mp M c k x) j k' = mg M j k' := fun k' => mg_mp_n (fun z => h z.1)
  unfold cE; simp only [e, ml_mp]
theorem wl_set {G : GG} {ad kd : Nat → Nat} {M : Mm} {c k : Nat} {x : Int} (hc : c < mN M) {e : va_E} (he : cE G ad kd (mp M c k x) c = e) : (wl G ad kd M).set c (ad c, e) = wl G ad kd (mp M c k x) := by
  apply List.ext_getElem?; intro j
  by_cases hj : j = c
  · subst hj
    rw [List.getElem?_set_self (by rw [wl_len]; exact hc), wl_at (M := mp M j k x) hc, he]
  · rw [List.getElem?_set_ne (Ne.symm hj)]
    by_cases hl : j < mN M
    · rw [wl_at hl, wl_at (M := mp M c k x) hl, cE_ne hj]
    · rw [List.getElem?_eq_none (by rw [wl_len]; omega), List.getElem?_eq_none (by rw [wl_len, mN_mp]; omega)]
theorem WT_mp {kd : Nat → Nat} {M : Mm} {c k : Nat} {x : Int} (h : WT kd M) (hx : okV kd (mN M) (ft (kd c) k, x)) : WT kd (mp M c k x) := by
  intro j hj
  obtain ⟨h1, h2, h3, h4⟩ := h j hj
  refine ⟨h1, h2, h3, fun k' => ?_⟩
  rw [mg_mp, mN_mp]
  by_cases e : j = c ∧ k' = k
  · rw [if_pos e, e.1, e.2]; exact hx
  · rw [if_neg e]; exact h4 k'
theorem cE_obj {G : GG} {ad kd : Nat → Nat} {M : Mm} {c t : Nat} (h : kd c = t) (h12 : t ≤ 12) : cE G ad kd M c = .inr (t - 2, (List.range (nf t)).map fun k => cv G ad (ft t k, mg M c k)) := by
  unfold cE; rw [h, if_pos h12]
theorem fs_set {G : GG} {ad : Nat → Nat} {M : Mm} {c t k : Nat} {x : Int} : ((List.range (nf t)).map fun k => cv G ad (ft t k, mg M c k)).set k (cv G ad (ft t k, x)) = (List.range (nf t)).map fun k' => cv G ad (ft t k', mg (mp M c k x) c k') := by
  apply List.ext_getElem?; intro j
  by_cases hl : j < nf t
  · by_cases hj : j = k
    · subst hj
      rw [List.getElem?_set_self (by rw [List.length_map, List.length_range]; exact hl), List.getElem?_map, List.getElem?_range hl, Option.map_some, mg_mp_s]
    · rw [List.getElem?_set_ne (Ne.symm hj), List.getElem?_map, List.getElem?_map, List.getElem?_range hl, Option.map_some, Option.map_some, mg_mp_n (fun z => hj z.2)]
  · rw [List.getElem?_eq_none (by rw [List.length_set, List.length_map, List.length_range]; omega), List.getElem?_eq_none (by rw [List.length_map, List.length_range]; omega)]
section EV3
variable {X : XX} {mi : MI} {d pc : Nat} {L : List (Nat × AV)} {st : List AV} {M : Mm} {r : Option AV} {M' : Mm}
theorem ev_get {t k idx tk N : Nat} {v : Int} {C : String} {T : u_T} (h2 : 2 ≤ t) (h12 : t ≤ 12) (hc : cls[t - 2]? = some (C, T, N)) (hin : ∀ w ∈ u_ws C T N, w ∈ tblG) (hk : k < N) (hN : nf t = N) (htk : ft t k = tk) (hw : Cond.fieldLink mi.2.2.2.2 idx (T k).1 (T k).2.1 (T k).2.2.1 ∈ tblG) (hd : decode mi.2.1 pc = .ok (.getfield idx, 3)) (hv : v ≠ 0) (h : Ev X mi d (pc + 3) L ((tk, mg M (cI v) k) :: st) M r M') : Ev X mi d pc L ((t, v) :: st) M r M' := by
  refine ev_step h ?_
  intro G R p l e s m args below meth c Q A kd ad H locs cells slots ls hC hX hst hL hl
  obtain ⟨hcn, hkd⟩ := ref_at (ok_hd hst) h2 (by omega) hv
  refine ⟨ok_cs (by rw [← htk, ← hkd]; exact (hX.1 _ hcn).2.2.2 k) (ok_tl hst), hL, fun kk => ?_⟩
  rw [List.map_cons, cv_r G ad h2 (by omega) hv]
  refine va_get (D := G.1) (cl := cls) (ci := t - 2) (v := cv G ad (tk, mg M (cI v) k)) (C := C) (T := T) (N := N) hC.1 hC.2.1 hC.2.2.2.2.1 hin hC.2.2.2.1 hC.2.2.2.2.2.2.2.2.1 hX.2.1 (cI v) (fs := (List.range (nf t)).map fun k => cv G ad (ft t k, mg M (cI v) k)) (by rw [wl_at hcn, cE_obj hkd h12]) hc k hk (hC.2.2.2.2.1 _ hw) (fun _ h9 => h9) ?_ hd (kk ls hl)
  rw [List.getElem?_map, List.getElem?_range (by omega), Option.map_some, htk]
theorem ev_getN {t k idx tk N : Nat} {v : Int} {C host : String} {T : u_T} (h2 : 2 ≤ t) (h12 : t ≤ 12) (hc : cls[t - 2]? = some (C, T, N)) (hin : ∀ w ∈ u_ws C T N, w ∈ tblG) (hk : k < N) (hN : nf t = N) (htk : ft t k = tk) (hw : Cond.fieldLinkNest mi.2.2.2.2 idx (T k).1 (T k).2.1 (T k).2.2.1 host ∈ tblN) (hd : decode mi.2.1 pc = .ok (.getfield idx, 3)) (hv : v ≠ 0) (h : Ev X mi d (pc + 3) L ((tk, mg M (cI v) k) :: st) M r M') : Ev X mi d pc L ((t, v) :: st) M r M' := by
  refine ev_step h ?_
  intro G R p l e s m args below meth c Q A kd ad H locs cells slots ls hC hX hst hL hl
  obtain ⟨hcn, hkd⟩ := ref_at (ok_hd hst) h2 (by omega) hv
  refine ⟨ok_cs (by rw [← htk, ← hkd]; exact (hX.1 _ hcn).2.2.2 k) (ok_tl hst), hL, fun kk => ?_⟩
  rw [List.map_cons, cv_r G ad h2 (by omega) hv]
  refine va_getN (D := G.1) (cl := cls) (ci := t - 2) (v := cv G ad (tk, mg M (cI v) k)) (C := C) (T := T) (N := N) hC.1 hC.2.1 hC.2.2.2.2.1 hin hC.2.2.2.1 hC.2.2.2.2.2.2.2.2.1 hX.2.1 (cI v) (fs := (List.range (nf t)).map fun k => cv G ad (ft t k, mg M (cI v) k)) (by rw [wl_at hcn, cE_obj hkd h12]) hc k hk (va_Nw.use rfl (hC.2.2.2.2.2.2.2.1.2.2.2.1 _ hw)) (fun _ h9 => h9) ?_ hd (kk ls hl)
  rw [List.getElem?_map, List.getElem?_range (by omega), Option.map_some, htk]
/-- the step of an instruction that writes one place -/
theorem ev_write {pc' c0 k0 : Nat} {x : Int} {st' : List AV} (h : Ev X mi d pc' L st' (mp M c0 k0 x) r M')
    (step : ∀ (G : GG) (R : Room) (p : Program) (l : Launch) (e : Env) (s : State) (m : MethodId) (args : Array Value) (below : List Frame) (meth : Method) (c : Code) (Q : State → Prop) (A : Nat → Prop) (kd ad : Nat → Nat) (H : Heap) (locs : List Loc) (cells slots : Nat) (ls : Array Slot),
      Cx X mi G d R p s m args meth c A → Sx G ad kd M A s H locs → (∀ q ∈ st, okV kd (mN M) q) → lv_has ls mi.2.2.1 (lvs G ad L) →
      okV kd (mN M) (ft (kd c0) k0, x) ∧ (∀ q ∈ st', okV kd (mN M) q) ∧ ((∀ (H1 : Heap) (locs1 : List Loc), va_P G.1 cls (wl G ad kd (mp M c0 k0 x)) H1 → va_D A (wl G ad kd (mp M c0 k0 x)) → va_S A s.heap H1 locs1 → W p l e R s m args below meth c H1 locs1 cells slots Q (F0 m pc' ls (st'.map (cv G ad)))) → W p l e R s m args below meth c H locs cells slots Q (F0 m pc ls (st.map (cv G ad))))) :
    Ev X mi d pc L st M r M' := by
  refine ⟨h.1, h.2.1, ?_⟩
  intro G R p l e s m args below meth c Q A kd ad H locs cells slots ls hC hX hst hL hl hc hs he
  obtain ⟨a0, a1, a3⟩ := step G R p l e s m args below meth c Q A kd ad H locs cells slots ls hC hX hst hl
  exact a3 fun H1 locs1 b1 b2 b3 => h.2.2 G R p l e s m args below meth c Q A kd ad H1 locs1 cells slots ls hC ⟨WT_mp hX.1 a0, b1, b2, b3⟩ a1 hL hl hc hs he
/-- a field's type takes values of a tag -/
def tyOk (ty : FieldType) (t : Nat) : Bool := match ty with
  | .int => t == 0
  | .long => t == 1
  | .object _ => decide (2 ≤ t)
  | .array _ => decide (2 ≤ t)
  | _ => false
theorem tyOk_fit {ty : FieldType} {t : Nat} {x : Int} (h : tyOk ty t = true) (G : GG) (ad : Nat → Nat) : narrow ty (cv G ad (t, x)) = cv G ad (t, x) ∧ fits ty (cv G ad (t, x)) = true := by
  unfold tyOk at h
  split at h
  · have e : t = 0 := by simpa using h
    subst e; exact ⟨rfl, rfl⟩
  · have e : t = 1 := by simpa using h
    subst e; exact ⟨rfl, rfl⟩
  · have e : 2 ≤ t := by simpa using h
    rcases cv_or G ad (t := t) (v := x) e with q | ⟨a, q⟩ <;> rw [q] <;> exact ⟨rfl, rfl⟩
  · have e : 2 ≤ t := by simpa using h
    rcases cv_or G ad (t := t) (v := x) e with q | ⟨a, q⟩ <;> rw [q] <;> exact ⟨rfl, rfl⟩
  · exact absurd h (by decide)
theorem ev_put {t k idx tk N : Nat} {v x : Int} {C : String} {T : u_T} {ty0 : Nat → FieldType} (h2 : 2 ≤ t) (h12 : t ≤ 12) (hc : cls[t - 2]? = some (C, T, N)) (hin : ∀ w ∈ u_ws C T N, w ∈ tblG) (hty : ∀ k, k < N → parseFieldDescriptor (T k).2.2.1 = some (ty0 k)) (hnm : ∀ a, a < N → ∀ b, b < N → a ≠ b → (T a).2.1 ≠ (T b).2.1) (hk : k < N) (hN : nf t = N) (htk : ft t k = tk) (hto : tyOk (ty0 k) tk = true) (hfin : (T k).2.2.2 = false) (hw : Cond.fieldLink mi.2.2.2.2 idx (T k).1 (T k).2.1 (T k).2.2.1 ∈ tblG) (hd : decode mi.2.1 pc = .ok (.putfield idx, 3)) (hv : v ≠ 0) (h : Ev X mi d (pc + 3) L st (mp M (cI v) k x) r M') : Ev X mi d pc L ((tk, x) :: (t, v) :: st) M r M' := by
  refine ev_write h ?_
  intro G R p l e s m args below meth c Q A kd ad H locs cells slots ls hC hX hst hl
  obtain ⟨hcn, hkd⟩ := ref_at (ok_hd (ok_tl hst)) h2 (by omega) hv
  refine ⟨by rw [hkd, htk]; exact ok_hd hst, ok_tl (ok_tl hst), fun kk => ?_⟩
  rw [List.map_cons, List.map_cons, cv_r G ad h2 (by omega) hv]
  refine va_put (D := G.1) (cl := cls) (ci := t - 2) (C := C) (T := T) (N := N) (ty := ty0 k) (v := cv G ad (tk, x)) hC.1 hC.2.1 hC.2.2.2.2.1 hin ty0 hty hnm hC.2.2.2.1 hC.2.2.2.2.2.2.2.2.1 hX.2.1 hX.2.2.1 hX.2.2.2 (cI v) (fs := (List.range (nf t)).map fun k => cv G ad (ft t k, mg M (cI v) k)) (by rw [wl_at hcn, cE_obj hkd h12]) hc k hk (hC.2.2.2.2.1 _ hw) (fun _ h9 => h9) hfin (hty k hk) (tyOk_fit hto G ad).1 (tyOk_fit hto G ad).2 (by rw [List.length_map, List.length_range]; omega) hd ?_
  rw [← htk, fs_set, ← cE_obj (M := mp M (cI v) k x) hkd h12, wl_set hcn rfl]
  exact kk
theorem ev_putN {t k idx tk N : Nat} {v x : Int} {C host : String} {T : u_T} {ty0 : Nat → FieldType} (h2 : 2 ≤ t) (h12 : t ≤ 12) (hc : cls[t - 2]? = some (C, T, N)) (hin : ∀ w ∈ u_ws C T N, w ∈ tblG) (hty : ∀ k, k < N → parseFieldDescriptor (T k).2.2.1 = some (ty0 k)) (hnm : ∀ a, a < N → ∀ b, b < N → a ≠ b → (T a).2.1 ≠ (T b).2.1) (hk : k < N) (hN : nf t = N) (htk : ft t k = tk) (hto : tyOk (ty0 k) tk = true) (hfin : (T k).2.2.2 = false) (hw : Cond.fieldLinkNest mi.2.2.2.2 idx (T k).1 (T k).2.1 (T k).2.2.1 host ∈ tblN) (hd : decode mi.2.1 pc = .ok (.putfield idx, 3)) (hv : v ≠ 0) (h : Ev X mi d (pc + 3) L st (mp M (cI v) k x) r M') : Ev X mi d pc L ((tk, x) :: (t, v) :: st) M r M' := by
  refine ev_write h ?_
  intro G R p l e s m args below meth c Q A kd ad H locs cells slots ls hC hX hst hl
  obtain ⟨hcn, hkd⟩ := ref_at (ok_hd (ok_tl hst)) h2 (by omega) hv
  refine ⟨by rw [hkd, htk]; exact ok_hd hst, ok_tl (ok_tl hst), fun kk => ?_⟩
  rw [List.map_cons, List.map_cons, cv_r G ad h2 (by omega) hv]
  refine va_putN (D := G.1) (cl := cls) (ci := t - 2) (C := C) (T := T) (N := N) (ty := ty0 k) (v := cv G ad (tk, x)) hC.1 hC.2.1 hC.2.2.2.2.1 hin ty0 hty hnm hC.2.2.2.1 hC.2.2.2.2.2.2.2.2.1 hX.2.1 hX.2.2.1 hX.2.2.2 (cI v) (fs := (List.range (nf t)).map fun k => cv G ad (ft t k, mg M (cI v) k)) (by rw [wl_at hcn, cE_obj hkd h12]) hc k hk (va_Nw.use rfl (hC.2.2.2.2.2.2.2.1.2.2.2.1 _ hw)) (fun _ h9 => h9) hfin (hty k hk) (tyOk_fit hto G ad).1 (tyOk_fit hto G ad).2 (by rw [List.length_map, List.length_range]; omega) hd ?_
  rw [← htk, fs_set, ← cE_obj (M := mp M (cI v) k x) hkd h12, wl_set hcn rfl]
  exact kk
theorem ev_putF {t k idx tk N : Nat} {v x : Int} {C : String} {T : u_T} {ty0 : Nat → FieldType} (h2 : 2 ≤ t) (h12 : t ≤ 12) (hc : cls[t - 2]? = some (C, T, N)) (hin : ∀ w ∈ u_ws C T N, w ∈ tblG) (hty : ∀ k, k < N → parseFieldDescriptor (T k).2.2.1 = some (ty0 k)) (hnm : ∀ a, a < N → ∀ b, b < N → a ≠ b → (T a).2.1 ≠ (T b).2.1) (hk : k < N) (hN : nf t = N) (htk : ft t k = tk) (hto : tyOk (ty0 k) tk = true) (hfin : (T k).2.2.2 = true) (hi : mi.1.name = "<init>") (hde : (T k).1 = mi.2.2.2.2) (hw : Cond.fieldLink mi.2.2.2.2 idx (T k).1 (T k).2.1 (T k).2.2.1 ∈ tblG) (hd : decode mi.2.1 pc = .ok (.putfield idx, 3)) (hv : v ≠ 0) (h : Ev X mi d (pc + 3) L st (mp M (cI v) k x) r M') : Ev X mi d pc L ((tk, x) :: (t, v) :: st) M r M' := by
  refine ev_write h ?_
  intro G R p l e s m args below meth c Q A kd ad H locs cells slots ls hC hX hst hl
  obtain ⟨hcn, hkd⟩ := ref_at (ok_hd (ok_tl hst)) h2 (by omega) hv
  refine ⟨by rw [hkd, htk]; exact ok_hd hst, ok_tl (ok_tl hst), fun kk => ?_⟩
  rw [List.map_cons, List.map_cons, cv_r G ad h2 (by omega) hv]
  refine va_putF (D := G.1) (cl := cls) (ci := t - 2) (C := C) (T := T) (N := N) (ty := ty0 k) (v := cv G ad (tk, x)) hC.1 hC.2.1 hC.2.2.2.2.1 hin ty0 hty hnm hC.2.2.2.1 hC.2.2.2.2.2.2.2.2.1 hX.2.1 hX.2.2.1 hX.2.2.2 (cI v) (fs := (List.range (nf t)).map fun k => cv G ad (ft t k, mg M (cI v) k)) (by rw [wl_at hcn, cE_obj hkd h12]) hc k hk (hC.2.2.2.2.1 _ hw) (fun _ h9 => h9) hfin (hC.2.2.2.2.2.1.trans hi) hde (hty k hk) (tyOk_fit hto G ad).1 (tyOk_fit hto G ad).2 (by rw [List.length_map, List.length_range]; omega) hd ?_
  rw [← htk, fs_set, ← cE_obj (M := mp M (cI v) k x) hkd h12, wl_set hcn rfl]
  exact kk
end EV3
end
section
theorem cE_I {G : GG} {ad kd : Nat → Nat} {M : Mm} {c : Nat} (h : kd c = 13) : cE G ad kd M c = .inl (G.2.1.1, ml M c, .inl fun k => Int32.ofInt (mg M c k)) := by
  unfold cE; rw [h]; rfl
theorem cE_J {G : GG} {ad kd : Nat → Nat} {M : Mm} {c : Nat} (h : kd c = 14) : cE G ad kd M c = .inl (G.2.1.2.1, ml M c, .inr (.inl fun k => Int64.ofInt (mg M c k))) := by
  unfold cE; rw [h]; rfl
theorem cE_Z {G : GG} {ad kd : Nat → Nat} {M : Mm} {c : Nat} (h : kd c = 15) : cE G ad kd M c = .inl (G.2.1.2.2.1, ml M c, .inl fun k => Int32.ofInt (mg M c k)) := by
  unfold cE; rw [h]; rfl
theorem cE_O {G : GG} {ad kd : Nat → Nat} {M : Mm} {c : Nat} (h : kd c = 16) : cE G ad kd M c = .inl (G.2.1.2.2.2, ml M c, .inr (.inr (.inr (.inr fun k => if mg M c k = 0 then none else some (ad (cI (mg M c k))))))) := by
  unfold cE; rw [h]; rfl
theorem okT {kd : Nat → Nat} {n t : Nat} {v : Int} (h : okV kd n (21, v)) : v = 0 ∨ v = 1 := h.2.2.2.1 rfl
section EV4
variable {X : XX} {mi : MI} {d pc : Nat} {L : List (Nat × AV)} {st : List AV} {M : Mm} {r : Option AV} {M' : Mm}
theorem ev_iald {i v : Int} (hd : decode mi.2.1 pc = .ok (.iaload, 1)) (hv : v ≠ 0) (hi : 0 ≤ i ∧ i < (ml M (cI v) : Int)) (h : Ev X mi d (pc + 1) L ((0, mg M (cI v) i.toNat) :: st) M r M') : Ev X mi d pc L ((0, i) :: (13, v) :: st) M r M' := by
  refine ev_step h ?_
  intro G R p l e s m args below meth c Q A kd ad H locs cells slots ls hC hX hst hL hl
  have hi3 := (ok_hd hst).1 rfl
  obtain ⟨hcn, hkd⟩ := ref_at (ok_hd (ok_tl hst)) (by omega) (by omega) hv
  have ho := (hX.1 _ hcn).2.2.2 i.toNat
  rw [hkd] at ho
  refine ⟨ok_cs ho (ok_tl (ok_tl hst)), hL, fun kk => ?_⟩
  have hk := kk ls hl
  rw [List.map_cons, List.map_cons, cv_r G ad (by omega) (by omega) hv]
  refine va_iald (D := G.1) (cl := cls) (f := fun k => Int32.ofInt (mg M (cI v) k)) hC.1 hC.2.1 hC.2.2.2.2.2.2.2.2.1 hX.2.1 (cI v) 0 (by rw [wl_at hcn, cE_I hkd]) rfl (i32_in hi3 hi.1 hi.2) hd ?_
  rw [i32_cl hi3]; exact hk
theorem ev_lald {i v : Int} (hd : decode mi.2.1 pc = .ok (.laload, 1)) (hv : v ≠ 0) (hi : 0 ≤ i ∧ i < (ml M (cI v) : Int)) (h : Ev X mi d (pc + 1) L ((1, mg M (cI v) i.toNat) :: st) M r M') : Ev X mi d pc L ((0, i) :: (14, v) :: st) M r M' := by
  refine ev_step h ?_
  intro G R p l e s m args below meth c Q A kd ad H locs cells slots ls hC hX hst hL hl
  have hi3 := (ok_hd hst).1 rfl
  obtain ⟨hcn, hkd⟩ := ref_at (ok_hd (ok_tl hst)) (by omega) (by omega) hv
  have ho := (hX.1 _ hcn).2.2.2 i.toNat
  rw [hkd] at ho
  refine ⟨ok_cs ho (ok_tl (ok_tl hst)), hL, fun kk => ?_⟩
  have hk := kk ls hl
  rw [List.map_cons, List.map_cons, cv_r G ad (by omega) (by omega) hv]
  refine va_lald (D := G.1) (cl := cls) (f := fun k => Int64.ofInt (mg M (cI v) k)) hC.1 hC.2.1 hC.2.2.2.2.2.2.2.2.1 hX.2.1 (cI v) 1 (by rw [wl_at hcn, cE_J hkd]) rfl (i32_in hi3 hi.1 hi.2) hd ?_
  rw [i32_cl hi3]; exact hk
theorem okZ {kd : Nat → Nat} {n : Nat} {v : Int} (h : okV kd n (21, v)) : okV kd n (0, v) := okI (by rcases okT (t := 0) h with e | e <;> rw [e] <;> unfold ok32 <;> omega)
theorem ev_zald {i v : Int} (hd : decode mi.2.1 pc = .ok (.baload, 1)) (hv : v ≠ 0) (hi : 0 ≤ i ∧ i < (ml M (cI v) : Int)) (h : Ev X mi d (pc + 1) L ((0, mg M (cI v) i.toNat) :: st) M r M') : Ev X mi d pc L ((0, i) :: (15, v) :: st) M r M' := by
  refine ev_step h ?_
  intro G R p l e s m args below meth c Q A kd ad H locs cells slots ls hC hX hst hL hl
  have hi3 := (ok_hd hst).1 rfl
  obtain ⟨hcn, hkd⟩ := ref_at (ok_hd (ok_tl hst)) (by omega) (by omega) hv
  have ho := (hX.1 _ hcn).2.2.2 i.toNat
  rw [hkd] at ho
  refine ⟨ok_cs (okZ ho) (ok_tl (ok_tl hst)), hL, fun kk => ?_⟩
  have hk := kk ls hl
  rw [List.map_cons, List.map_cons, cv_r G ad (by omega) (by omega) hv]
  refine va_zald (D := G.1) (cl := cls) (f := fun k => Int32.ofInt (mg M (cI v) k)) hC.1 hC.2.1 hC.2.2.2.2.2.2.2.2.1 hX.2.1 (cI v) 2 (by rw [wl_at hcn, cE_Z hkd]) rfl (i32_in hi3 hi.1 hi.2) hd ?_
  rw [i32_cl hi3]; exact hk
theorem ev_aald {i v : Int} (hd : decode mi.2.1 pc = .ok (.aaload, 1)) (hv : v ≠ 0) (hi : 0 ≤ i ∧ i < (ml M (cI v) : Int)) (h : Ev X mi d (pc + 1) L ((5, mg M (cI v) i.toNat) :: st) M r M') : Ev X mi d pc L ((0, i) :: (16, v) :: st) M r M' := by
  refine ev_step h ?_
  intro G R p l e s m args below meth c Q A kd ad H locs cells slots ls hC hX hst hL hl
  have hi3 := (ok_hd hst).1 rfl
  obtain ⟨hcn, hkd⟩ := ref_at (ok_hd (ok_tl hst)) (by omega) (by omega) hv
  have ho := (hX.1 _ hcn).2.2.2 i.toNat
  rw [hkd] at ho
  refine ⟨ok_cs ho (ok_tl (ok_tl hst)), hL, fun kk => ?_⟩
  have hk := kk ls hl
  rw [List.map_cons, List.map_cons, cv_r G ad (by omega) (by omega) hv]
  refine va_aldq (D := G.1) (cl := cls) (C := "TownBand$Piece") (f := fun k => if mg M (cI v) k = 0 then none else some (ad (cI (mg M (cI v) k)))) hC.1 hC.2.1 hC.2.2.2.2.2.2.2.2.1 hX.2.1 (cI v) 3 (by rw [wl_at hcn, cE_O hkd]) rfl (i32_in hi3 hi.1 hi.2) hd ?_
  rw [i32_cl hi3]; exact hk
theorem f_upd {α β : Type} (g : α → β) (u : (Nat → β) → Nat → β → Nat → β) (hu : ∀ f k x j, u f k x j = if j = k then x else f j) (f : Nat → α) (k : Nat) (x : α) : u (fun j => g (f j)) k (g x) = fun j => g (if j = k then x else f j) := by
  funext j; rw [hu]; by_cases h : j = k <;> simp [h]
theorem ev_iast {i v x : Int} (hd : decode mi.2.1 pc = .ok (.iastore, 1)) (hv : v ≠ 0) (hi : 0 ≤ i ∧ i < (ml M (cI v) : Int)) (h : Ev X mi d (pc + 1) L st (mp M (cI v) i.toNat x) r M') : Ev X mi d pc L ((0, x) :: (0, i) :: (13, v) :: st) M r M' := by
  refine ev_write h ?_
  intro G R p l e s m args below meth c Q A kd ad H locs cells slots ls hC hX hst hl
  have hi3 := (ok_hd (ok_tl hst)).1 rfl
  obtain ⟨hcn, hkd⟩ := ref_at (ok_hd (ok_tl (ok_tl hst))) (by omega) (by omega) hv
  refine ⟨by rw [hkd]; exact ok_hd hst, ok_tl (ok_tl (ok_tl hst)), fun kk => ?_⟩
  rw [List.map_cons, List.map_cons, List.map_cons, cv_r G ad (by omega) (by omega) hv]
  refine va_iast (D := G.1) (cl := cls) (f := fun k => Int32.ofInt (mg M (cI v) k)) hC.1 hC.2.1 hC.2.2.2.2.2.2.2.2.1 hX.2.1 hX.2.2.1 hX.2.2.2 (cI v) 0 (by rw [wl_at hcn, cE_I hkd]) rfl (i32_in hi3 hi.1 hi.2) hd ?_
  have e : cE G ad kd (mp M (cI v) i.toNat x) (cI v) = .inl (G.2.1.1, ml M (cI v), .inl (upd (fun k => Int32.ofInt (mg M (cI v) k)) (Int32.ofInt i).toNatClampNeg (Int32.ofInt x))) := by
    rw [cE_I hkd, i32_cl hi3, ml_mp]
    have := f_upd Int32.ofInt upd (fun _ _ _ _ => rfl) (fun k => mg M (cI v) k) i.toNat x
    rw [this]; congr 3; congr 1; funext k; rw [mg_mp]; simp
  rw [wl_set hcn e]; exact kk
theorem ev_last {i v x : Int} (hd : decode mi.2.1 pc = .ok (.lastore, 1)) (hv : v ≠ 0) (hi : 0 ≤ i ∧ i < (ml M (cI v) : Int)) (h : Ev X mi d (pc + 1) L st (mp M (cI v) i.toNat x) r M') : Ev X mi d pc L ((1, x) :: (0, i) :: (14, v) :: st) M r M' := by
  refine ev_write h ?_
  intro G R p l e s m args below meth c Q A kd ad H locs cells slots ls hC hX hst hl
  have hi3 := (ok_hd (ok_tl hst)).1 rfl
  obtain ⟨hcn, hkd⟩ := ref_at (ok_hd (ok_tl (ok_tl hst))) (by omega) (by omega) hv
  refine ⟨by rw [hkd]; exact ok_hd hst, ok_tl (ok_tl (ok_tl hst)), fun kk => ?_⟩
  rw [List.map_cons, List.map_cons, List.map_cons, cv_r G ad (by omega) (by omega) hv]
  refine va_last (D := G.1) (cl := cls) (f := fun k => Int64.ofInt (mg M (cI v) k)) hC.1 hC.2.1 hC.2.2.2.2.2.2.2.2.1 hX.2.1 hX.2.2.1 hX.2.2.2 (cI v) 1 (by rw [wl_at hcn, cE_J hkd]) rfl (i32_in hi3 hi.1 hi.2) hd ?_
  have e : cE G ad kd (mp M (cI v) i.toNat x) (cI v) = .inl (G.2.1.2.1, ml M (cI v), .inr (.inl (vp_updL (fun k => Int64.ofInt (mg M (cI v) k)) (Int32.ofInt i).toNatClampNeg (Int64.ofInt x)))) := by
    rw [cE_J hkd, i32_cl hi3, ml_mp]
    have := f_upd Int64.ofInt vp_updL (fun _ _ _ _ => rfl) (fun k => mg M (cI v) k) i.toNat x
    rw [this]; congr 3; congr 2; funext k; rw [mg_mp]; simp
  rw [wl_set hcn e]; exact kk
theorem ev_zast {i v x : Int} (hd : decode mi.2.1 pc = .ok (.bastore, 1)) (hv : v ≠ 0) (hi : 0 ≤ i ∧ i < (ml M (cI v) : Int)) (hx : x = 0 ∨ x = 1) (h : Ev X mi d (pc + 1) L st (mp M (cI v) i.toNat x) r M') : Ev X mi d pc L ((0, x) :: (0, i) :: (15, v) :: st) M r M' := by
  refine ev_write h ?_
  intro G R p l e s m args below meth c Q A kd ad H locs cells slots ls hC hX hst hl
  have hi3 := (ok_hd (ok_tl hst)).1 rfl
  obtain ⟨hcn, hkd⟩ := ref_at (ok_hd (ok_tl (ok_tl hst))) (by omega) (by omega) hv
  refine ⟨by rw [hkd]; exact ⟨fun e => by simp [ft] at e, fun e => by simp [ft] at e, fun _ e => by simp [ft] at e, fun _ => hx, fun e => by simp [ft] at e⟩, ok_tl (ok_tl (ok_tl hst)), fun kk => ?_⟩
  rw [List.map_cons, List.map_cons, List.map_cons, cv_r G ad (by omega) (by omega) hv]
  refine va_zast (D := G.1) (cl := cls) (f := fun k => Int32.ofInt (mg M (cI v) k)) hC.1 hC.2.1 hC.2.2.2.2.2.2.2.2.1 hX.2.1 hX.2.2.1 hX.2.2.2 (cI v) 2 (by rw [wl_at hcn, cE_Z hkd]) rfl (i32_in hi3 hi.1 hi.2) hd ?_
  have hnar : vp_nar .boolean (Int32.ofInt x) = Int32.ofInt x := by rcases hx with e | e <;> rw [e] <;> rfl
  have e : cE G ad kd (mp M (cI v) i.toNat x) (cI v) = .inl (G.2.1.2.2.1, ml M (cI v), .inl (upd (fun k => Int32.ofInt (mg M (cI v) k)) (Int32.ofInt i).toNatClampNeg (vp_nar .boolean (Int32.ofInt x)))) := by
    rw [cE_Z hkd, i32_cl hi3, ml_mp, hnar]
    have := f_upd Int32.ofInt upd (fun _ _ _ _ => rfl) (fun k => mg M (cI v) k) i.toNat x
    rw [this]; congr 3; congr 1; funext k; rw [mg_mp]; simp
  rw [wl_set hcn e]; exact kk
theorem ev_aast {i v x : Int} (hd : decode mi.2.1 pc = .ok (.aastore, 1)) (hv : v ≠ 0) (hi : 0 ≤ i ∧ i < (ml M (cI v) : Int)) (hx : x ≠ 0) (h : Ev X mi d (pc + 1) L st (mp M (cI v) i.toNat x) r M') : Ev X mi d pc L ((5, x) :: (0, i) :: (16, v) :: st) M r M' := by
  refine ev_write h ?_
  intro G R p l e s m args below meth c Q A kd ad H locs cells slots ls hC hX hst hl
  have hi3 := (ok_hd (ok_tl hst)).1 rfl
  obtain ⟨hcn, hkd⟩ := ref_at (ok_hd (ok_tl (ok_tl hst))) (by omega) (by omega) hv
  obtain ⟨hcx, hkx⟩ := ref_at (ok_hd hst) (by omega) (by omega) hx
  refine ⟨by rw [hkd]; exact ok_hd hst, ok_tl (ok_tl (ok_tl hst)), fun kk => ?_⟩
  rw [List.map_cons, List.map_cons, List.map_cons, cv_r G ad (by omega) (by omega) hv, cv_r G ad (by omega) (by omega) hx]
  refine va_astq (D := G.1) (cl := cls) (r := (R_Piece, F_Piece, 9)) (f := fun k => if mg M (cI v) k = 0 then none else some (ad (cI (mg M (cI v) k)))) hC.1 hC.2.1 hC.2.2.2.2.2.2.2.2.1 hX.2.1 hX.2.2.1 hX.2.2.2 (cI v) 3 (cI x) 3 (by rw [wl_at hcn, cE_O hkd]) rfl (by rw [wl_at hcx, cE_obj hkx (by omega)]) rfl (i32_in hi3 hi.1 hi.2) hd ?_
  have e : cE G ad kd (mp M (cI v) i.toNat x) (cI v) = .inl (G.2.1.2.2.2, ml M (cI v), .inr (.inr (.inr (.inr (va_up (fun k => if mg M (cI v) k = 0 then none else some (ad (cI (mg M (cI v) k)))) (Int32.ofInt i).toNatClampNeg (some (ad (cI x)))))))) := by
    rw [cE_O hkd, i32_cl hi3, ml_mp]
    congr 3; congr 4; funext k
    rw [mg_mp]; unfold va_up
    by_cases hk : k = i.toNat <;> simp [hk, hx]
  rw [wl_set hcn e]; exact kk
theorem i32_nat (n : Nat) : Int32.ofInt (n : Int) = Int32.ofNat n := rfl
theorem ev_alen {t : Nat} {v : Int} (h13 : 13 ≤ t) (h16 : t ≤ 16) (hd : decode mi.2.1 pc = .ok (.arraylength, 1)) (hv : v ≠ 0) (h : Ev X mi d (pc + 1) L ((0, (ml M (cI v) : Int)) :: st) M r M') : Ev X mi d pc L ((t, v) :: st) M r M' := by
  refine ev_step h ?_
  intro G R p l e s m args below meth c Q A kd ad H locs cells slots ls hC hX hst hL hl
  obtain ⟨hcn, hkd⟩ := ref_at (ok_hd hst) (by omega) (by omega) hv
  have hlen := (hX.1 _ hcn).2.2.1
  refine ⟨ok_cs (okI (by unfold ok32; omega)) (ok_tl hst), hL, fun kk => ?_⟩
  have hk := kk ls hl
  rw [List.map_cons, cv_r G ad (by omega) (by omega) hv]
  have hw := wl_at (G := G) (ad := ad) (kd := kd) hcn
  have ht : t = 13 ∨ t = 14 ∨ t = 15 ∨ t = 16 := by omega
  rcases ht with e | e | e | e <;> subst e
  · rw [cE_I hkd] at hw
    exact va_alen (D := G.1) (cl := cls) hC.1 hC.2.1 hC.2.2.2.2.2.2.2.2.1 hX.2.1 (cI v) 0 hw rfl rfl hd hk
  · rw [cE_J hkd] at hw
    exact va_alen (D := G.1) (cl := cls) hC.1 hC.2.1 hC.2.2.2.2.2.2.2.2.1 hX.2.1 (cI v) 1 hw rfl rfl hd hk
  · rw [cE_Z hkd] at hw
    exact va_alen (D := G.1) (cl := cls) hC.1 hC.2.1 hC.2.2.2.2.2.2.2.2.1 hX.2.1 (cI v) 2 hw rfl rfl hd hk
  · rw [cE_O hkd] at hw
    exact va_alen (D := G.1) (cl := cls) hC.1 hC.2.1 hC.2.2.2.2.2.2.2.2.1 hX.2.1 (cI v) 3 hw rfl rfl hd hk
/-! constants: statics, rows of longs, texts, the script -/
theorem ev_dig1 {idx : Nat} (hd : decode mi.2.1 pc = .ok (.getstatic idx, 3)) (hw : Cond.fieldLink mi.2.2.2.2 idx "TownBand$Seater" "DIGIT" "[J" ∈ tblG) (h : Ev X mi d (pc + 3) L ((18, 1) :: st) M r M') : Ev X mi d pc L st M r M' := by
  refine ev_step h ?_
  intro G R p l e s m args below meth c Q A kd ad H locs cells slots ls hC hX hst hL hl
  refine ⟨ok_cs ⟨fun e => by simp at e, fun e => by simp at e, fun _ e => by simp at e, fun e => by simp at e, fun e => by simp at e⟩ hst, hL, fun kk => ?_⟩
  exact va_gets hC.1 hC.2.1 hC.2.2.2.2.2.2.2.1.2.1.1 hX.2.2.2 hC.2.2.2.1 (hC.2.2.2.2.1 _ hw) (fun _ h => h) hd (kk ls hl)
theorem ev_dig2 {idx : Nat} (hd : decode mi.2.1 pc = .ok (.getstatic idx, 3)) (hw : Cond.fieldLink mi.2.2.2.2 idx "TownBand$Planner" "DIGIT" "[J" ∈ tblG) (h : Ev X mi d (pc + 3) L ((19, 1) :: st) M r M') : Ev X mi d pc L st M r M' := by
  refine ev_step h ?_
  intro G R p l e s m args below meth c Q A kd ad H locs cells slots ls hC hX hst hL hl
  refine ⟨ok_cs ⟨fun e => by simp at e, fun e => by simp at e, fun _ e => by simp at e, fun e => by simp at e, fun e => by simp at e⟩ hst, hL, fun kk => ?_⟩
  exact va_gets hC.1 hC.2.1 hC.2.2.2.2.2.2.2.1.2.2.1.1 hX.2.2.2 hC.2.2.2.1 (hC.2.2.2.2.1 _ hw) (fun _ h => h) hd (kk ls hl)
theorem dg1_ok (j : Nat) : ok64 (dg1.getD j 0) := by
  by_cases h : j < 10
  · have e : ∀ j, j < 10 → (-9223372036854775808 ≤ dg1.getD j 0 ∧ dg1.getD j 0 < 9223372036854775808) := by decide +kernel
    exact e j h
  · rw [List.getD_eq_getElem?_getD, List.getElem?_eq_none (by simp only [dg1, List.length_cons, List.length_nil]; omega)]
    show ok64 0
    unfold ok64; omega
theorem dg2_ok (j : Nat) : ok64 (dg2.getD j 0) := by
  by_cases h : j < 10
  · have e : ∀ j, j < 10 → (-9223372036854775808 ≤ dg2.getD j 0 ∧ dg2.getD j 0 < 9223372036854775808) := by decide +kernel
    exact e j h
  · rw [List.getD_eq_getElem?_getD, List.getElem?_eq_none (by simp only [dg2, List.length_cons, List.length_nil]; omega)]
    show ok64 0
    unfold ok64; omega
theorem ev_tl1 {i v : Int} (hd : decode mi.2.1 pc = .ok (.laload, 1)) (hi : 0 ≤ i ∧ i < 10) (h : Ev X mi d (pc + 1) L ((1, dg1.getD i.toNat 0) :: st) M r M') : Ev X mi d pc L ((0, i) :: (18, v) :: st) M r M' := by
  refine ev_step h ?_
  intro G R p l e s m args below meth c Q A kd ad H locs cells slots ls hC hX hst hL hl
  have hi3 := (ok_hd hst).1 rfl
  refine ⟨ok_cs (okJ (dg1_ok _)) (ok_tl (ok_tl hst)), hL, fun kk => ?_⟩
  refine va_tl hC.1 hC.2.1 hC.2.2.2.2.2.2.2.1.2.1.2 hX.2.2.2 (i32_in hi3 hi.1 hi.2) ?_ hd (kk ls hl)
  show Value.long _ = Value.long _
  rw [i32_cl hi3]
theorem ev_tl2 {i v : Int} (hd : decode mi.2.1 pc = .ok (.laload, 1)) (hi : 0 ≤ i ∧ i < 10) (h : Ev X mi d (pc + 1) L ((1, dg2.getD i.toNat 0) :: st) M r M') : Ev X mi d pc L ((0, i) :: (19, v) :: st) M r M' := by
  refine ev_step h ?_
  intro G R p l e s m args below meth c Q A kd ad H locs cells slots ls hC hX hst hL hl
  have hi3 := (ok_hd hst).1 rfl
  refine ⟨ok_cs (okJ (dg2_ok _)) (ok_tl (ok_tl hst)), hL, fun kk => ?_⟩
  refine va_tl hC.1 hC.2.1 hC.2.2.2.2.2.2.2.1.2.2.1.2 hX.2.2.2 (i32_in hi3 hi.1 hi.2) ?_ hd (kk ls hl)
  show Value.long _ = Value.long _
  rw [i32_cl hi3]
theorem ev_sld {i v : Int} (hX2 : ∀ j, ok32 (X.2 j)) (hd : decode mi.2.1 pc = .ok (.iaload, 1)) (hi : 0 ≤ i ∧ i < (X.1 : Int)) (h : Ev X mi d (pc + 1) L ((0, X.2 i.toNat) :: st) M r M') : Ev X mi d pc L ((0, i) :: (17, v) :: st) M r M' := by
  refine ev_step h ?_
  intro G R p l e s m args below meth c Q A kd ad H locs cells slots ls hC hX hst hL hl
  have hi3 := (ok_hd hst).1 rfl
  refine ⟨ok_cs (okI (hX2 _)) (ok_tl (ok_tl hst)), hL, fun kk => ?_⟩
  have hk := kk ls hl
  obtain ⟨hx1, hx2, hx3⟩ := hC.2.2.2.2.2.2.2.1.1
  refine va_sld hC.1 hC.2.1 hx1 hx2 hx3 hX.2.2.2 (i32_in hi3 hi.1 hi.2) hd ?_
  rw [i32_cl hi3]; exact hk
theorem ev_slen {v : Int} (hX1 : X.1 < 2147483648) (hd : decode mi.2.1 pc = .ok (.arraylength, 1)) (h : Ev X mi d (pc + 1) L ((0, (X.1 : Int)) :: st) M r M') : Ev X mi d pc L ((17, v) :: st) M r M' := by
  refine ev_step h ?_
  intro G R p l e s m args below meth c Q A kd ad H locs cells slots ls hC hX hst hL hl
  refine ⟨ok_cs (okI (by unfold ok32; omega)) (ok_tl hst), hL, fun kk => ?_⟩
  have hk := kk ls hl
  obtain ⟨hx1, hx2, hx3⟩ := hC.2.2.2.2.2.2.2.1.1
  exact va_slen hC.1 hC.2.1 hx1 hx2 hx3 hX.2.2.2 hd hk
end EV4
end
section
/-! a world in which more cells stand: values and cells of the old ones -/
theorem cv_ag {G : GG} {ad ad' kd : Nat → Nat} {n : Nat} {q : AV} (h : okV kd n q) (ha : ∀ c, c < n → ad' c = ad c) : cv G ad' q = cv G ad q := by
  obtain ⟨t, v⟩ := q
  unfold cv
  by_cases h0 : t = 0
  · simp [h0]
  by_cases h1 : t = 1
  · simp [h1]
  by_cases h16 : t ≤ 16
  · simp only [h0, h1, h16, if_false, if_true]
    by_cases hv : v = 0
    · simp [hv]
    · have := (ref_at h (by omega) h16 hv).1
      simp only [hv, if_false]; rw [ha _ this]
  · simp [h0, h1, h16]
theorem map_ag {G : GG} {ad ad' kd : Nat → Nat} {n : Nat} {st : List AV} (h : ∀ q ∈ st, okV kd n q) (ha : ∀ c, c < n → ad' c = ad c) : st.map (cv G ad') = st.map (cv G ad) := List.map_congr_left fun q hq => cv_ag (h q hq) ha
theorem lvs_ag {G : GG} {ad ad' kd : Nat → Nat} {n : Nat} {L : List (Nat × AV)} (h : ∀ q ∈ L, okV kd n q.2) (ha : ∀ c, c < n → ad' c = ad c) : lvs G ad' L = lvs G ad L := by
  unfold lvs; exact List.map_congr_left fun q hq => by rw [cv_ag (h q hq) ha]
theorem okV_ag {kd kd' : Nat → Nat} {n n' : Nat} {q : AV} (h : okV kd n q) (hk : ∀ c, c < n → kd' c = kd c) (hn : n ≤ n') : okV kd' n' q := by
  refine ⟨h.1, h.2.1, fun a b => ?_, h.2.2.2⟩
  rcases h.2.2.1 a b with e | ⟨c, e, hc, hkc⟩
  · exact Or.inl e
  · exact Or.inr ⟨c, e, Nat.lt_of_lt_of_le hc hn, by rw [hk c hc]; exact hkc⟩
theorem cE_ag {G : GG} {ad ad' kd kd' : Nat → Nat} {M M1 : Mm} {c : Nat} (hw : WT kd M) (hc : c < mN M) (ha : ∀ c, c < mN M → kd' c = kd c ∧ ad' c = ad c) (hv : ∀ k, mg M1 c k = mg M c k) (hl : ml M1 c = ml M c) : cE G ad' kd' M1 c = cE G ad kd M c := by
  obtain ⟨h1, h2, h3, h4⟩ := hw c hc
  have ha2 : ∀ c, c < mN M → ad' c = ad c := fun c h => (ha c h).2
  have hkc := (ha c hc).1
  by_cases h12 : kd c ≤ 12
  · rw [cE_obj (kd := kd') hkc h12, cE_obj (kd := kd) rfl h12]
    congr 2
    exact List.map_congr_left fun k _ => by rw [hv]; exact cv_ag (h4 k) ha2
  · have h5 : kd c = 13 ∨ kd c = 14 ∨ kd c = 15 ∨ kd c = 16 := by omega
    rcases h5 with e | e | e | e
    · rw [cE_I (hkc.trans e), cE_I e, hl]; simp only [hv]
    · rw [cE_J (hkc.trans e), cE_J e, hl]; simp only [hv]
    · rw [cE_Z (hkc.trans e), cE_Z e, hl]; simp only [hv]
    · rw [cE_O (hkc.trans e), cE_O e, hl]; simp only [hv]
      congr 3; congr 4; funext k
      by_cases hz : mg M c k = 0
      · simp [hz]
      · have h6 := h4 k
        rw [e] at h6
        have := (ref_at h6 (show 2 ≤ 5 by decide) (show 5 ≤ 16 by decide) hz).1
        simp only [hz, if_false]; rw [ha2 _ this]
theorem mg_mw (M : Mm) (n c k : Nat) : mg (mw M n) c k = if c = mN M then 0 else mg M c k := rfl
theorem ml_mw (M : Mm) (n c : Nat) : ml (mw M n) c = if c = mN M then n else ml M c := rfl
theorem mN_mw (M : Mm) (n : Nat) : mN (mw M n) = mN M + 1 := rfl
theorem mZ_mw (M : Mm) (n : Nat) : mZ (mw M n) = mZ M + n := rfl
theorem wl_mw {G : GG} {ad kd : Nat → Nat} {M : Mm} {n t q : Nat} (hw : WT kd M) : wl G (va_up ad (mN M) q) (va_up kd (mN M) t) (mw M n) = wl G ad kd M ++ [(q, cE G (va_up ad (mN M) q) (va_up kd (mN M) t) (mw M n) (mN M))] := by
  unfold wl
  rw [mN_mw, List.range_succ, List.map_append, List.map_singleton]
  congr 1
  · apply List.map_congr_left; intro c hc
    have hc : c < mN M := List.mem_range.mp hc
    have hne : c ≠ mN M := by omega
    rw [cE_ag (M1 := mw M n) (ad' := va_up ad (mN M) q) (kd' := va_up kd (mN M) t) hw hc (fun c h => by unfold va_up; rw [if_neg (by omega), if_neg (by omega)]; exact ⟨rfl, rfl⟩) (fun k => by rw [mg_mw, if_neg hne]) (by rw [ml_mw, if_neg hne])]
    unfold va_up; rw [if_neg hne]
  · unfold va_up; simp
theorem ok_0 {kd : Nat → Nat} {n t : Nat} (h : t ≤ 16 ∨ t = 21) : okV kd n (t, 0) := ⟨fun _ => ok32_0, fun _ => by unfold ok64; constructor <;> simp, fun _ _ => Or.inl rfl, fun _ => Or.inl rfl, fun e => by simp only at e; omega⟩
theorem ft_le (t k : Nat) : ft t k ≤ 16 ∨ ft t k = 21 := by
  unfold ft
  split
  · omega
  · split
    · omega
    · split
      · omega
      · split
        · omega
        · left
          have h : ∀ t k, (fl t).getD k 0 ≤ 16 := by
            intro t k
            rw [List.getD_eq_getElem?_getD]
            cases e : (fl t)[k]? with
            | none => simp
            | some x =>
              have hx : x ∈ fl t := List.mem_of_getElem? e
              have ha : ∀ x ∈ fl t, x ≤ 16 := by
                unfold fl; split <;> decide
              simpa using ha x hx
          exact h t k
theorem WT_mw {kd : Nat → Nat} {M : Mm} {n t : Nat} (hw : WT kd M) (h2 : 2 ≤ t) (h16 : t ≤ 16) (hn : n < 2147483648) : WT (va_up kd (mN M) t) (mw M n) := by
  intro c hc
  rw [mN_mw] at hc
  by_cases e : c = mN M
  · subst e
    have ek : va_up kd (mN M) t (mN M) = t := by unfold va_up; simp
    rw [ek, ml_mw, if_pos rfl]
    exact ⟨h2, h16, hn, fun k => by rw [mg_mw, if_pos rfl]; exact ok_0 (ft_le t k)⟩
  · have hc' : c < mN M := by omega
    obtain ⟨h1, h3, h4, h5⟩ := hw c hc'
    have ek : va_up kd (mN M) t c = kd c := by unfold va_up; rw [if_neg e]
    rw [ek, ml_mw, if_neg e]
    exact ⟨h1, h3, h4, fun k => by rw [mg_mw, if_neg e]; exact okV_ag (h5 k) (fun c hc => by unfold va_up; rw [if_neg (by omega)]) (by rw [mN_mw]; omega)⟩
section EV5
variable {X : XX} {mi : MI} {d pc : Nat} {L : List (Nat × AV)} {st : List AV} {M : Mm} {r : Option AV} {M' : Mm}
/-- the step of an instruction that makes a cell of a tag -/
theorem ev_make {pc' t n : Nat} {st0 : List AV} (h2 : 2 ≤ t) (h16 : t ≤ 16) (hn : n < 2147483648) (hsub : ∀ q ∈ st0, q ∈ st) (h : Ev X mi d pc' L ((t, (mN M : Int) + 1) :: st0) (mw M n) r M')
    (step : ∀ (G : GG) (R : Room) (p : Program) (l : Launch) (e : Env) (s : State) (m : MethodId) (args : Array Value) (below : List Frame) (meth : Method) (c : Code) (Q : State → Prop) (A : Nat → Prop) (kd ad : Nat → Nat) (H : Heap) (locs : List Loc) (cells slots : Nat) (ls : Array Slot),
      Cx X mi G d R p s m args meth c A → Sx G ad kd M A s H locs → (∀ q ∈ st, okV kd (mN M) q) → cells + 1 ≤ R.cells → slots + n ≤ R.slots →
      (∀ (q : Nat) (H1 : Heap), va_P G.1 cls (wl G ad kd M ++ [(q, cE G (va_up ad (mN M) q) (va_up kd (mN M) t) (mw M n) (mN M))]) H1 → va_D A (wl G ad kd M ++ [(q, cE G (va_up ad (mN M) q) (va_up kd (mN M) t) (mw M n) (mN M))]) → va_S A s.heap H1 locs → W p l e R s m args below meth c H1 locs (cells + 1) (slots + n) Q (F0 m pc' ls (.ref q :: st0.map (cv G ad)))) → W p l e R s m args below meth c H locs cells slots Q (F0 m pc ls (st.map (cv G ad)))) :
    Ev X mi d pc L st M r M' := by
  have hm := h.1
  rw [mN_mw, mZ_mw] at hm
  refine ⟨⟨by omega, by omega⟩, h.2.1, ?_⟩
  intro G R p l e s m args below meth c Q A kd ad H locs cells slots ls hC hX hst hL hl hc hs he
  refine step G R p l e s m args below meth c Q A kd ad H locs cells slots ls hC hX hst (by omega) (by omega) fun q H1 b1 b2 b3 => ?_
  rw [← wl_mw hX.1] at b1 b2
  have ha : ∀ c, c < mN M → va_up ad (mN M) q c = ad c := fun c h => by unfold va_up; rw [if_neg (by omega)]
  have hk : ∀ c, c < mN M → va_up kd (mN M) t c = kd c := fun c h => by unfold va_up; rw [if_neg (by omega)]
  have h0 : ∀ q ∈ st0, okV kd (mN M) q := fun q hq => hst q (hsub q hq)
  have hkk := h.2.2 G R p l e s m args below meth c Q A (va_up kd (mN M) t) (va_up ad (mN M) q) H1 locs (cells + 1) (slots + n) ls hC ⟨WT_mw hX.1 h2 h16 hn, b1, b2, b3⟩
    (ok_cs ⟨fun e => by simp only at e; omega, fun e => by simp only at e; omega, fun _ _ => Or.inr ⟨mN M, rfl, by rw [mN_mw]; omega, by unfold va_up; simp⟩, fun e => by simp only at e; omega, fun e => by simp only at e; omega⟩ (fun q hq => okV_ag (h0 q hq) hk (by rw [mN_mw]; omega)))
    (fun q hq => okV_ag (hL q hq) hk (by rw [mN_mw]; omega)) (by rw [lvs_ag hL ha]; exact hl) (by rw [mN_mw]; omega) (by rw [mZ_mw]; omega)
    (fun kd' ad' H' locs' cells' slots' pc'' ls' g1 g2 g3 g4 g5 g6 => he kd' ad' H' locs' cells' slots' pc'' ls' (fun c hc => by have := g1 c (by rw [mN_mw]; omega); rw [this.1, this.2, hk c hc, ha c hc]; exact ⟨rfl, rfl⟩) g2 g3 g4 (by rw [mN_mw] at g5; omega) (by rw [mZ_mw] at g6; omega))
  rw [List.map_cons, map_ag h0 ha] at hkk
  have er : cv G (va_up ad (mN M) q) (t, (mN M : Int) + 1) = .ref q := by
    rw [cv_r G _ h2 h16 (by omega), cI_s]; unfold va_up; simp
  rw [er] at hkk; exact hkk
theorem ev_new {t idx N : Nat} {C : String} {T : u_T} {ty0 : Nat → FieldType} (h2 : 2 ≤ t) (h12 : t ≤ 12) (hc : cls[t - 2]? = some (C, T, N)) (hin : ∀ w ∈ u_ws C T N, w ∈ tblG) (hty : ∀ k, k < N → parseFieldDescriptor (T k).2.2.1 = some (ty0 k)) (hN : nf t = N) (hto : ∀ k, k < N → tyOk (ty0 k) (ft t k) = true) (hN2 : N < 2147483648) (hw : Cond.classLink mi.2.2.2.2 idx C ∈ tblG) (hi : Cond.instantiable C N ∈ tblG) (hini : Cond.initialized C ∈ tblG) (hd : decode mi.2.1 pc = .ok (.new idx, 3)) (h : Ev X mi d (pc + 3) L ((t, (mN M : Int) + 1) :: st) (mw M N) r M') : Ev X mi d pc L st M r M' := by
  refine ev_make h2 (by omega) hN2 (fun q hq => hq) h ?_
  intro G R p l e s m args below meth c Q A kd ad H locs cells slots ls hC hX hst hc1 hs1 kk
  refine va_new (D := G.1) (cl := cls) (ci := t - 2) (fs := (List.range (nf t)).map fun k => cv G ad (ft t k, 0)) hC.1 hC.2.1 hC.2.2.2.2.1 hin ty0 hty hC.2.2.2.1 (hC.2.2.2.2.1 _ hw) (hC.2.2.2.2.1 _ hi) (hC.2.2.2.2.1 _ hini) hC.2.2.2.2.2.2.2.2.1 hX.2.1 hX.2.2.1 hX.2.2.2 hC.2.2.2.2.2.2.1 hc ?_ hc1 hs1 hd ?_
  · intro j hj
    unfold vp_V
    rw [List.getD_eq_getElem?_getD, List.getElem?_map, List.getElem?_range (by omega)]
    show _ = cv G ad (ft t j, 0)
    have ho := hto j hj
    unfold tyOk at ho
    split at ho
    · rename_i e1; rw [e1]; have e2 : ft t j = 0 := by simpa using ho
      rw [e2]; rfl
    · rename_i e1; rw [e1]; have e2 : ft t j = 1 := by simpa using ho
      rw [e2]; rfl
    · rename_i e1; rw [e1]; have e2 : 2 ≤ ft t j := by simpa using ho
      have e3 := ft_le t j
      have e4 : ft t j ≠ 21 := by
        unfold ft; rw [if_neg (by omega), if_neg (by omega), if_neg (by omega), if_neg (by omega)]
        intro e; have := ft_le t j; unfold ft at this; rw [if_neg (by omega), if_neg (by omega), if_neg (by omega), if_neg (by omega), e] at this
        have h7 : ∀ t k, (fl t).getD k 0 ≤ 16 := by
          intro t k
          rw [List.getD_eq_getElem?_getD]
          cases e : (fl t)[k]? with
          | none => simp
          | some x =>
            have hx : x ∈ fl t := List.mem_of_getElem? e
            have ha : ∀ x ∈ fl t, x ≤ 16 := by
              unfold fl; split <;> decide
            simpa using ha x hx
        have := h7 t j; omega
      rw [cv_n G ad e2 (by omega)]; rfl
    · rename_i e1; rw [e1]; have e2 : 2 ≤ ft t j := by simpa using ho
      have e3 := ft_le t j
      have e4 : ft t j ≠ 21 := by
        unfold ft; rw [if_neg (by omega), if_neg (by omega), if_neg (by omega), if_neg (by omega)]
        have h7 : ∀ t k, (fl t).getD k 0 ≤ 16 := by
          intro t k
          rw [List.getD_eq_getElem?_getD]
          cases e : (fl t)[k]? with
          | none => simp
          | some x =>
            have hx : x ∈ fl t := List.mem_of_getElem? e
            have ha : ∀ x ∈ fl t, x ≤ 16 := by
              unfold fl; split <;> decide
            simpa using ha x hx
        have := h7 t j; omega
      rw [cv_n G ad e2 (by omega)]; rfl
    · exact absurd ho (by decide)
  · intro q H1 b1 b2 b3
    have e : cE G (va_up ad (mN M) q) (va_up kd (mN M) t) (mw M N) (mN M) = .inr (t - 2, (List.range (nf t)).map fun k => cv G ad (ft t k, 0)) := by
      rw [cE_obj (t := t) (by unfold va_up; simp) h12]
      congr 2
      apply List.map_congr_left; intro k _
      rw [mg_mw, if_pos rfl]
      exact cv_ag (kd := kd) (n := mN M) (ok_0 (ft_le t k)) (fun c h => by unfold va_up; rw [if_neg (by omega)])
    rw [← e] at b1 b2
    exact kk q H1 b1 b2 b3
theorem va_sole {D : va_G} {cl : List vw_C} {tys : List (ClassId × FieldType)} {U : State} {cA cB : ClassId} {ty : FieldType} (h : va_K D cl (tys ++ [(cA, ty)]) U) {k : Nat} (hk : tys[k]? = some (cB, ty)) : cA = cB := by
  have h1 : va_RA U cA ty := (h.2 tys.length (cA, ty) (by rw [List.getElem?_append_right (Nat.le_refl _), Nat.sub_self]; rfl)).2
  have h2 : va_RA U cB ty := (h.2 k (cB, ty) (by rw [List.getElem?_append_left (List.getElem?_eq_some_iff.mp hk).1]; exact hk)).2
  cases ty with
  | object C =>
    obtain ⟨_, _, _, _, _, e1⟩ := h1
    obtain ⟨_, _, _, _, _, e2⟩ := h2
    rw [e1] at e2; exact Option.some.inj e2
  | _ => exact Option.some.inj ((show U.vm.findClass _ = some cA from h1).symm.trans (show U.vm.findClass _ = some cB from h2))
theorem ev_newI {v : Int} (hw : Cond.arrayClass .int ∈ tblG) (hd : decode mi.2.1 pc = .ok (.newarray .int, 2)) (hv : 0 ≤ v ∧ v < 1000000) (h : Ev X mi d (pc + 2) L ((13, (mN M : Int) + 1) :: st) (mw M v.toNat) r M') : Ev X mi d pc L ((0, v) :: st) M r M' := by
  refine ev_make (by omega) (by omega) (by omega) (fun q hq => List.mem_cons_of_mem _ hq) h ?_
  intro G R p l e s m args below meth c Q A kd ad H locs cells slots ls hC hX hst hc1 hs1 kk
  have hv3 := (ok_hd hst).1 rfl
  refine va_newa (D := G.1) (cl := cls) (a0 := (v.toNat, .inl fun _ => 0)) hC.1 hC.2.1 (atype := .int) (hC.2.2.2.2.1 _ hw) rfl hC.2.2.2.2.2.2.2.2.1 hX.2.1 hX.2.2.1 hX.2.2.2 hC.2.2.2.2.2.2.1 (fun _ => rfl) (fun z => by rw [← i32_0, i32_lt hv3 ok32_0] at z; simp only at z; omega) (i32_cl hv3) (by show v.toNat * 4 ≤ _; omega) hc1 hs1 hd ?_
  intro q cA H1 b0 b1 b2 b3
  have ec : cA = G.2.1.1 := va_sole b0 (k := 0) rfl
  have e : cE G (va_up ad (mN M) q) (va_up kd (mN M) 13) (mw M v.toNat) (mN M) = .inl (cA, v.toNat, .inl fun _ => 0) := by
    rw [cE_I (by unfold va_up; simp), ml_mw, if_pos rfl, ec]; simp only [mg_mw, if_true]; rfl
  rw [← e] at b1 b2
  exact kk q H1 b1 b2 b3
theorem ev_newJ {v : Int} (hw : Cond.arrayClass .long ∈ tblG) (hd : decode mi.2.1 pc = .ok (.newarray .long, 2)) (hv : 0 ≤ v ∧ v < 1000000) (h : Ev X mi d (pc + 2) L ((14, (mN M : Int) + 1) :: st) (mw M v.toNat) r M') : Ev X mi d pc L ((0, v) :: st) M r M' := by
  refine ev_make (by omega) (by omega) (by omega) (fun q hq => List.mem_cons_of_mem _ hq) h ?_
  intro G R p l e s m args below meth c Q A kd ad H locs cells slots ls hC hX hst hc1 hs1 kk
  have hv3 := (ok_hd hst).1 rfl
  refine va_newa (D := G.1) (cl := cls) (a0 := (v.toNat, .inr (.inl fun _ => 0))) hC.1 hC.2.1 (atype := .long) (hC.2.2.2.2.1 _ hw) rfl hC.2.2.2.2.2.2.2.2.1 hX.2.1 hX.2.2.1 hX.2.2.2 hC.2.2.2.2.2.2.1 (fun _ => rfl) (fun z => by rw [← i32_0, i32_lt hv3 ok32_0] at z; simp only at z; omega) (i32_cl hv3) (by show v.toNat * 8 ≤ _; omega) hc1 hs1 hd ?_
  intro q cA H1 b0 b1 b2 b3
  have ec : cA = G.2.1.2.1 := va_sole b0 (k := 1) rfl
  have e : cE G (va_up ad (mN M) q) (va_up kd (mN M) 14) (mw M v.toNat) (mN M) = .inl (cA, v.toNat, .inr (.inl fun _ => 0)) := by
    rw [cE_J (by unfold va_up; simp), ml_mw, if_pos rfl, ec]; simp only [mg_mw, if_true]; rfl
  rw [← e] at b1 b2
  exact kk q H1 b1 b2 b3
theorem ev_newZ {v : Int} (hw : Cond.arrayClass .boolean ∈ tblG) (hd : decode mi.2.1 pc = .ok (.newarray .boolean, 2)) (hv : 0 ≤ v ∧ v < 1000000) (h : Ev X mi d (pc + 2) L ((15, (mN M : Int) + 1) :: st) (mw M v.toNat) r M') : Ev X mi d pc L ((0, v) :: st) M r M' := by
  refine ev_make (by omega) (by omega) (by omega) (fun q hq => List.mem_cons_of_mem _ hq) h ?_
  intro G R p l e s m args below meth c Q A kd ad H locs cells slots ls hC hX hst hc1 hs1 kk
  have hv3 := (ok_hd hst).1 rfl
  refine va_newa (D := G.1) (cl := cls) (a0 := (v.toNat, .inl fun _ => 0)) hC.1 hC.2.1 (atype := .boolean) (hC.2.2.2.2.1 _ hw) rfl hC.2.2.2.2.2.2.2.2.1 hX.2.1 hX.2.2.1 hX.2.2.2 hC.2.2.2.2.2.2.1 (fun _ => rfl) (fun z => by rw [← i32_0, i32_lt hv3 ok32_0] at z; simp only at z; omega) (i32_cl hv3) (by show v.toNat * 1 ≤ _; omega) hc1 hs1 hd ?_
  intro q cA H1 b0 b1 b2 b3
  have ec : cA = G.2.1.2.2.1 := va_sole b0 (k := 2) rfl
  have e : cE G (va_up ad (mN M) q) (va_up kd (mN M) 15) (mw M v.toNat) (mN M) = .inl (cA, v.toNat, .inl fun _ => 0) := by
    rw [cE_Z (by unfold va_up; simp), ml_mw, if_pos rfl, ec]; simp only [mg_mw, if_true]; rfl
  rw [← e] at b1 b2
  exact kk q H1 b1 b2 b3
theorem ev_newO {v : Int} {idx : Nat} (hw : Cond.classLink mi.2.2.2.2 idx "TownBand$Piece" ∈ tblG) (hd : decode mi.2.1 pc = .ok (.anewarray idx, 3)) (hv : 0 ≤ v ∧ v < 1000000) (h : Ev X mi d (pc + 3) L ((16, (mN M : Int) + 1) :: st) (mw M v.toNat) r M') : Ev X mi d pc L ((0, v) :: st) M r M' := by
  refine ev_make (by omega) (by omega) (by omega) (fun q hq => List.mem_cons_of_mem _ hq) h ?_
  intro G R p l e s m args below meth c Q A kd ad H locs cells slots ls hC hX hst hc1 hs1 kk
  have hv3 := (ok_hd hst).1 rfl
  refine va_newq (D := G.1) (cl := cls) (N' := v.toNat) hC.1 hC.2.1 hC.2.2.2.1 (hC.2.2.2.2.1 _ hw) hC.2.2.2.2.2.2.2.1.2.2.2.2.2.2 hC.2.2.2.2.2.2.2.2.1 hX.2.1 hX.2.2.1 hX.2.2.2 hC.2.2.2.2.2.2.1 (fun z => by rw [← i32_0, i32_lt hv3 ok32_0] at z; simp only at z; omega) (i32_cl hv3) (by omega) hc1 hs1 hd ?_
  intro q cA H1 b0 b1 b2 b3
  have ec : cA = G.2.1.2.2.2 := va_sole b0 (k := 3) rfl
  have e : cE G (va_up ad (mN M) q) (va_up kd (mN M) 16) (mw M v.toNat) (mN M) = .inl (cA, v.toNat, .inr (.inr (.inr (.inr (fun _ => none))))) := by
    rw [cE_O (by unfold va_up; simp), ml_mw, if_pos rfl, ec]; simp only [mg_mw, if_true]
  rw [← e] at b1 b2
  exact kk q H1 b1 b2 b3
end EV5
end
section
/-! what stands outside, at other states -/
theorem Sp_mv {X : XX} {G : GG} {A : Nat → Prop} {u U : State} {H : Heap} (hvm : u.vm.Alike U.vm) (hN : ∀ w ∈ tblN, va_Nw w u → va_Nw w U) (hR : ∀ (own tx : String) (k a : Nat), vk_R own k tx a u → vk_R own k tx a U) (h : Sp X G A u H) : Sp X G A U H :=
  ⟨⟨va_X.moved hvm h.1.1, h.1.2⟩, ⟨va_Z.moved hvm h.2.1.1, va_T.moved hvm h.2.1.2⟩, ⟨va_Z.moved hvm h.2.2.1.1, va_T.moved hvm h.2.2.1.2⟩, fun w hw => hN w hw (h.2.2.2.1 w hw), ⟨vk_S.moved hvm h.2.2.2.2.1.1, fun i q hq => hR _ _ _ _ (h.2.2.2.2.1.2 i q hq)⟩, ⟨va_Z.moved hvm h.2.2.2.2.2.1.1, va_Z.moved hvm h.2.2.2.2.2.1.2⟩, va_AO.moved hvm h.2.2.2.2.2.2⟩
theorem nest_on {w : Cond} (h : w ∈ tblN) : w.onTables = true := by
  have h := (List.mem_filter.mp h).2
  cases w <;> first | rfl | exact absurd h Bool.false_ne_true
theorem Sp_warm {X : XX} {G : GG} {A : Nat → Prop} {s U : State} {H : Heap} (hW : s.WarmedH U.vm) (h : Sp X G A s H) : Sp X G A U H := by
  refine Sp_mv hW.alike (fun w hw hz => ?_) (fun own tx k a => vk_R.warm hW) h
  have hn := (List.mem_filter.mp hw).2
  cases w <;> first | exact va_Nw.warmF hW hz | exact va_Nw.warmM hW hz | exact absurd hn Bool.false_ne_true
theorem Sp_kept {X : XX} {G : GG} {A : Nat → Prop} {U : State} {H H1 : Heap} (h : Sp X G A U H) (hs : H.size ≤ H1.size) (hq : ∀ a : Nat, a < H.size → ¬ A a → H1[a]? = H[a]?) : Sp X G A U H1 :=
  ⟨⟨h.1.1.kept (hq _ h.1.2.1 h.1.2.2), Nat.lt_of_lt_of_le h.1.2.1 hs, h.1.2.2⟩, ⟨h.2.1.1.kept hq, h.2.1.2.kept hq⟩, ⟨h.2.2.1.1.kept hq, h.2.2.1.2.kept hq⟩, h.2.2.2.1, ⟨h.2.2.2.2.1.1.kept hq, h.2.2.2.2.1.2⟩, ⟨h.2.2.2.2.2.1.1.kept hq, h.2.2.2.2.2.1.2.kept hq⟩, h.2.2.2.2.2.2⟩
theorem Sp_narrow {X : XX} {G : GG} {A B : Nat → Prop} {U : State} {H : Heap} (h : Sp X G A U H) (hAB : ∀ q, B q → A q) : Sp X G B U H :=
  ⟨⟨h.1.1, h.1.2.1, fun z => h.1.2.2 (hAB _ z)⟩, ⟨h.2.1.1.narrow hAB, h.2.1.2.narrow hAB⟩, ⟨h.2.2.1.1.narrow hAB, h.2.2.1.2.narrow hAB⟩, h.2.2.2.1, ⟨h.2.2.2.2.1.1.narrow hAB, h.2.2.2.2.1.2⟩, ⟨h.2.2.2.2.2.1.1.narrow hAB, h.2.2.2.2.2.1.2.narrow hAB⟩, h.2.2.2.2.2.2⟩
theorem preR_blind {X : XX} {G : GG} {ad kd : Nat → Nat} {sz : Nat} {M : Mm} (as : List Value) : FrameBlind (va_Pc as (preR X G ad kd sz M)) := by
  intro a U g mk q
  obtain ⟨q0, q1, qP, qK, qD, qS⟩ := q
  exact ⟨q0, q1, qP, va_K.moved (u := U) (U := U.calling g mk a) (Vm.Alike.refl U.vm) qK, qD, Sp_mv (u := U) (U := U.calling g mk a) (Vm.Alike.refl U.vm) (fun w hw hz => va_Nw.same (u := U) (U := U.calling g mk a) (nest_on hw) rfl hz) (fun own tx k b hz => vk_R.same (u := U) (U := U.calling g mk a) rfl hz) qS⟩
/-! the arguments as locals -/
def aL : Nat → List AV → List (Nat × AV)
  | _, [] => []
  | i, v :: vs => (i, v) :: aL (if v.1 = 1 then i + 2 else i + 1) vs
def aW (as : List AV) : Nat := (as.map fun q => if q.1 = 1 then 2 else 1).sum
theorem aL_lvs (G : GG) (ad : Nat → Nat) : ∀ (as : List AV) (i : Nat), lvs G ad (aL i as) = lv_args i (as.map (cv G ad))
  | [], i => rfl
  | v :: vs, i => by
    unfold aL lvs
    rw [List.map_cons, List.map_cons]
    show _ = (i, cv G ad v) :: lv_args (if (cv G ad v).category = 2 then i + 2 else i + 1) (vs.map (cv G ad))
    have e : (if (cv G ad v).category = 2 then i + 2 else i + 1) = if v.1 = 1 then i + 2 else i + 1 := by
      rw [cv_cat]; by_cases h : v.1 = 1 <;> simp [h]
    rw [e, ← aL_lvs G ad vs]; rfl
theorem aW_len (G : GG) (ad : Nat → Nat) : ∀ (as : List AV), (lg_sl (as.map (cv G ad))).length = aW as
  | [] => rfl
  | v :: vs => by
    have ih := aW_len G ad vs
    unfold lg_sl at ih ⊢
    unfold aW at ih ⊢
    rw [List.map_cons, List.flatMap_cons, List.length_append, ih, List.map_cons, List.sum_cons, cv_cat]
    by_cases h : v.1 = 1 <;> simp [h]
theorem aL_ok {kd : Nat → Nat} {n : Nat} : ∀ (as : List AV) (i : Nat), (∀ q ∈ as, okV kd n q) → ∀ q ∈ aL i as, okV kd n q.2
  | [], i, _, q, hq => by cases hq
  | v :: vs, i, h, q, hq => by
    unfold aL at hq
    rcases List.mem_cons.mp hq with e | e
    · rw [e]; exact h v List.mem_cons_self
    · exact aL_ok vs _ (fun q hq => h q (List.mem_cons_of_mem _ hq)) q e
theorem aW_cat (G : GG) (ad : Nat → Nat) (st : List AV) : ((st.map (cv G ad)).map fun v => v.category).sum = aW st := by
  unfold aW; rw [List.map_map]; congr 1; apply List.map_congr_left; intro q _; exact cv_cat G ad q
/-- a method's contract out of a walk of its body -/
theorem Rn_of {X : XX} {mi : MI} {d : Nat} {as : List AV} {M : Mm} {r : Option AV} {M' : Mm} (hy : plainName mi.1.cls = true) (hown : mi.2.2.2.2 = mi.1.cls) (hmax : aW as ≤ mi.2.2.1) (he : Ev X mi d 0 (aL 0 as) [] M r M') : Rn X d mi as M r M' := by
  refine ⟨he.1, he.2.1, fun l G ad kd sz hW has => ?_⟩
  refine Met.ofW (cc := mi.2.1) (maxL := mi.2.2.1) (ret := mi.2.2.2.1) hy rfl ?_
  intro p e s m args below meth c s₁ B hml hv
  obtain ⟨rfl, hsz, hP, hK, hD0, hSp⟩ := hv
  have hts := atoms_spec (ws := wsM mi) B.pre
  have hf : s.vm.findClass mi.2.2.2.2 = some m.cls := by rw [hown]; exact findClass_of_methodNamed B.named
  have hr := B.returns
  have hlocks := B.notSynchronized
  have hin : meth.name = mi.1.name := (name_of_methodNamed B.named B.method).1
  subst hsz
  rw [lg_entry_eq]
  have hl := lv_entry (as.map (cv G ad)) (n := mi.2.2.1) (by rw [aW_len]; exact hmax)
  rw [← aL_lvs] at hl
  have hC : Cx X mi G d (headSpec (wsM mi) (rmF d M M')).room p s m (as.map (cv G ad)).toArray meth c (va_A (wl G ad kd M) s.heap.size) :=
    ⟨B.exec, B.bytes, hml, hf, fun w hw => hts w (List.mem_cons_of_mem _ hw), hin, fun q h => Or.inr h, hSp, hK, Nat.le_refl d, Nat.le_refl (64 * d)⟩
  refine he.2.2 G _ p l e s m _ below meth c _ (va_A (wl G ad kd M) s.heap.size) kd ad s.heap [] 0 0 _ hC ⟨hW, hP, hD0.self, va_S.rf⟩ (fun q hq => by cases hq) (aL_ok as 0 has) hl (Nat.le_of_eq (Nat.zero_add _)) (Nat.le_of_eq (Nat.zero_add _)) ?_
  intro kd' ad' H' locs' cells' slots' pc' ls' g1 g2 g3 g4 g5 g6
  refine W.widen (k := mN M' - mN M) (n := mZ M' - mZ M) (by omega) (by omega) ?_
  have hq : ∀ t : State, t.heap = H' → s.WarmedH t.vm → posR mi G ad kd s.heap.size M r M' (as.map (cv G ad)).toArray s (.returned (r.map (cv G ad'))) t := fun t ht hWt =>
    ⟨⟨kd', ad', rfl, g1, g2.1, g3, by rw [ht]; exact g2.2.1, va_K.moved hWt.alike hK, g2.2.2.1⟩, g2.2.2.2.F ht⟩
  have hfr := g2.2.2.2.2.2
  cases r with
  | none => exact W.vret B.exec B.bytes (hr.trans g3) hq hfr g4
  | some q =>
    obtain ⟨t, v⟩ := q
    obtain ⟨o1, o2⟩ := g3
    rcases o2 with ⟨e0, o3⟩ | ⟨e1, o3⟩ | ⟨e2, e16, C, o3⟩
    · simp only at e0; subst e0
      rcases o3 with o4 | ⟨o4, o5⟩ | ⟨o4, o5⟩ | ⟨o4, o5, o6⟩
      · exact W.zret (ty := .int) B.exec B.bytes (hr.trans o4) rfl hq hfr g4
      · refine W.zret (ty := .boolean) (v := Int32.ofInt v) B.exec B.bytes (hr.trans o4) ?_ hq hfr g4
        rcases o5 with o6 | o6 <;> simp only at o6 <;> rw [o6] <;> rfl
      · refine W.zret (ty := .byte) (v := Int32.ofInt v) B.exec B.bytes (hr.trans o4) ?_ hq hfr g4
        simp only at o5; rw [o5]; rfl
      · refine W.zret (ty := .char) (v := Int32.ofInt v) B.exec B.bytes (hr.trans o4) ?_ hq hfr g4
        simp only at o5 o6
        obtain ⟨n, rfl⟩ := Int.eq_ofNat_of_zero_le o5
        exact (pk_charN (q := n) (by omega)).1
    · simp only at e1; subst e1
      exact W.lret B.exec B.bytes (hr.trans o3) hq hfr g4
    · simp only at e2 e16
      have g5 : decode mi.2.1 pc' = .ok (.areturn, 1) := by
        unfold rD at g4; simp only at g4; rw [if_neg (by omega), if_neg (by omega)] at g4; exact g4
      exact W.aret (rt := .object C) B.exec B.bytes (hr.trans o3) (Or.inl ⟨C, rfl⟩) (cv_or G ad' e2) hq hfr g5
section EV6
variable {X : XX} {mi : MI} {d pc : Nat} {L : List (Nat × AV)} {st : List AV} {M : Mm} {r : Option AV} {M' : Mm}
theorem call_core {mi' : MI} {d' : Nat} {as rest : List AV} {r1 : Option AV} {M1 : Mm} (hR : Rn X d' mi' as M r1 M1) (hsub : ∀ q ∈ rest, q ∈ st) (hsa : ∀ q ∈ as, q ∈ st) (h : Ev X mi d (pc + 3) L (r1.toList ++ rest) M1 r M')
    (run : ∀ (G : GG) (R : Room) (p : Program) (l : Launch) (e : Env) (s : State) (m : MethodId) (args : Array Value) (below : List Frame) (meth : Method) (c : Code) (A : Nat → Prop) (kd ad : Nat → Nat) (H : Heap) (locs : List Loc) (cells slots : Nat) (ls : Array Slot),
      Cx X mi G d R p s m args meth c A → Sx G ad kd M A s H locs → (∀ q ∈ st, okV kd (mN M) q) → lv_has ls mi.2.2.1 (lvs G ad L) → (cells + (mN M1 - mN M) ≤ R.cells ∧ slots + (mZ M1 - mZ M) ≤ R.slots) →
      Met l mi'.1 (wsM mi') (rmF d' M M1) (va_Pc (as.map (cv G ad)) (preR X G ad kd H.size M)) (posR mi' G ad kd H.size M r1 M1) (mN M1 - mN M) (mZ M1 - mZ M) (va_A (wl G ad kd M) H.size) →
      (∀ U : State, U.heap = H → s.WarmedH U.vm → va_Pc (as.map (cv G ad)) (preR X G ad kd H.size M) (as.map (cv G ad)).toArray U) →
      va_Run p l e R s m args below meth c H locs cells slots (mN M1 - mN M) (mZ M1 - mZ M) (F0 m pc ls (st.map (cv G ad))) (rest.map (cv G ad)) (posR mi' G ad kd H.size M r1 M1 (as.map (cv G ad)).toArray) (va_A (wl G ad kd M) H.size)) :
    Ev X mi d pc L st M r M' := by
  obtain ⟨⟨hm1, hm2⟩, hb, hM⟩ := hR
  refine ⟨⟨Nat.le_trans hm1 h.1.1, Nat.le_trans hm2 h.1.2⟩, h.2.1, ?_⟩
  have hn1 := h.1.1
  have hn2 := h.1.2
  intro G R p l e s m args below meth c Q A kd ad H locs cells slots ls hC hX hst hL hl hc hs he
  have hFc : ∀ q, va_A (wl G ad kd M) H.size q → A q := by
    intro q hq
    rcases hq with ⟨k, e, hk⟩ | hq
    · exact hX.2.2.1.2 k _ hk
    · exact hC.2.2.2.2.2.2.1 q (Nat.le_trans hX.2.2.2.1 hq)
  have hSp : Sp X G (va_A (wl G ad kd M) H.size) s H := Sp_narrow (Sp_kept hC.2.2.2.2.2.2.2.1 hX.2.2.2.1 hX.2.2.2.2.1) hFc
  have has : ∀ q ∈ as, okV kd (mN M) q := fun q hq => hst q (hsa q hq)
  have hre : ∀ q ∈ rest, okV kd (mN M) q := fun q hq => hst q (hsub q hq)
  have hrun := run G R p l e s m args below meth c A kd ad H locs cells slots ls hC hX hst hl ⟨by omega, by omega⟩ (hM l G ad kd H.size hX.1 has)
    (fun U hU hWu => ⟨rfl, by rw [hU], by rw [hU]; exact hX.2.1, va_K.moved hWu.alike hC.2.2.2.2.2.2.2.2.1, hX.2.2.1.weaken (fun _ _ _ _ => trivial), by rw [hU]; exact Sp_warm hWu hSp⟩)
  intro T hT XT
  obtain ⟨v, st₀, t, T', L2, h0, X', hL2, e1, e2, ⟨⟨kd', ad', hv, hag, hWT, hrO, hP', hK', hD'⟩, hF⟩, hgo⟩ := hrun T hT XT
  cases hv
  have hz := hF.1
  have hk := hF.2
  rw [h0] at hz hk
  have ha2 : ∀ c, c < mN M → ad' c = ad c := fun c h => (hag c h).2
  have hk2 : ∀ c, c < mN M → kd' c = kd c := fun c h => (hag c h).1
  have hS' : va_S A s.heap T'.heap (locs ++ L2) :=
    ⟨Nat.le_trans hX.2.2.2.1 (by rw [e1]; exact hz), fun q h1 h2 => by rw [e1, hk q (Nat.lt_of_lt_of_le h1 hX.2.2.2.1) (fun z => h2 (hFc q z))]; exact hX.2.2.2.2.1 q h1 h2, fun q hq => by
      rcases List.mem_append.mp hq with h | h
      · exact hX.2.2.2.2.2 q h
      · exact hFc _ (hL2 q h)⟩
  have hW := h.2.2 G R p l e s m args below meth c Q A kd' ad' T'.heap (locs ++ L2) (cells + (mN M1 - mN M)) (slots + (mZ M1 - mZ M)) ls hC ⟨hWT, by rw [e1]; exact hP', hD'.weaken (fun _ _ _ hz => hFc _ hz), hS'⟩
    (fun q hq => by
      rcases List.mem_append.mp hq with h9 | h9
      · cases r1 with
        | none => cases h9
        | some q1 =>
          rcases List.mem_singleton.mp h9 with rfl
          exact hrO.1
      · exact okV_ag (hre q h9) hk2 hm1)
    (fun q hq => okV_ag (hL q hq) hk2 hm1) (by rw [lvs_ag hL ha2]; exact hl) (by omega) (by omega)
    (fun kd'' ad'' H' locs' cells' slots' pc'' ls' g1 g2 g3 g4 g5 g6 => he kd'' ad'' H' locs' cells' slots' pc'' ls' (fun c hc => by have := g1 c (by omega); rw [this.1, this.2, hk2 c hc, ha2 c hc]; exact ⟨rfl, rfl⟩) g2 g3 g4 (by omega) (by omega))
  obtain ⟨t2, a1, b1⟩ := hW T' rfl X'
  refine ⟨t2, hgo t2 ?_, b1⟩
  have es : (r1.toList ++ rest).map (cv G ad') = (r1.map (cv G ad')).toList ++ rest.map (cv G ad) := by
    rw [List.map_append, map_ag hre ha2]; congr 1; cases r1 <;> rfl
  rw [es] at a1
  exact a1
/-- what a call of a method needs -/
def CalOk (mi : MI) (n : Nat) : Prop := Cond.code mi.1 mi.2.1 mi.2.2.1 mi.2.2.2.1 ∈ tblG ∧ Cond.initialized mi.1.cls ∈ tblG ∧ (mi.1.cls ≠ "java/lang/invoke/MethodHandle" ∧ mi.1.cls ≠ "java/lang/invoke/VarHandle") ∧ (parseMethodDescriptor mi.1.desc).map (fun d => d.parameters.length) = some n ∧ mi.2.2.1 ≤ 45
theorem ws_good {mi' : MI} (h : Cond.code mi'.1 mi'.2.1 mi'.2.2.1 mi'.2.2.2.1 ∈ tblG) : ∀ w ∈ wsM mi', w ∈ tblG ∧ ((w.onTables && w.keeps) = true ∨ ∃ ty, w = .arrayClass ty) := by
  intro w hw
  rcases List.mem_cons.mp hw with e | e
  · rw [e]; exact ⟨h, good_of_word (tblG_good _ h)⟩
  · exact ⟨e, good_of_word (tblG_good _ e)⟩
theorem par_len {desc : String} {n : Nat} (h : (parseMethodDescriptor desc).map (fun d => d.parameters.length) = some n) : ∀ sig, parseMethodDescriptor desc = some sig → n = sig.parameters.length := by
  intro sig hs; rw [hs] at h; exact (Option.some.inj h).symm
theorem mkB {mi' : MI} {n d' idx : Nat} {M1 : Mm} {G : GG} {R : Room} {p : Program} {s : State} {m : MethodId} {args : Array Value} {meth : Method} {c : Code} {A : Nat → Prop} (hC : Cx X mi G d R p s m args meth c A) (ho : CalOk mi' n) (hd : d' + 1 ≤ d) (hl : Cond.methodLink mi.2.2.2.2 idx mi'.1 ∈ tblG) : CallB R s args mi.2.2.2.2 idx mi'.1 mi'.2.1 mi'.2.2.1 mi'.2.2.2.1 (wsM mi') (rmF d' M M1) (mN M1 - mN M) (mZ M1 - mZ M) n :=
  ⟨rfl, rfl, Nat.le_trans hd hC.2.2.2.2.2.2.2.2.2.1, by have := hC.2.2.2.2.2.2.2.2.2.2; have := ho.2.2.2.2; show 8 + (mi'.2.2.1 + 11) + 64 * d' ≤ R.locals; omega, pay_in hC.2.2.2.2.1 (ws_good ho.1), List.mem_cons_self, hC.2.2.2.2.1 _ ho.1, hC.2.2.2.2.1 _ ho.2.1, ho.2.2.1, par_len ho.2.2.2.1, hC.2.2.2.2.1 _ hl⟩
theorem mkN {mi' : MI} {n d' idx : Nat} {host : String} {M1 : Mm} {G : GG} {R : Room} {p : Program} {s : State} {m : MethodId} {args : Array Value} {meth : Method} {c : Code} {A : Nat → Prop} (hC : Cx X mi G d R p s m args meth c A) (ho : CalOk mi' n) (hd : d' + 1 ≤ d) (hl : Cond.methodLinkNest mi.2.2.2.2 idx mi'.1 host ∈ tblN) : va_CN R s args mi.2.2.2.2 idx mi'.1 host mi'.2.1 mi'.2.2.1 mi'.2.2.2.1 (wsM mi') (rmF d' M M1) (mN M1 - mN M) (mZ M1 - mZ M) n :=
  ⟨⟨rfl, rfl, Nat.le_trans hd hC.2.2.2.2.2.2.2.2.2.1, by have := hC.2.2.2.2.2.2.2.2.2.2; have := ho.2.2.2.2; show 8 + (mi'.2.2.1 + 11) + 64 * d' ≤ R.locals; omega, pay_in hC.2.2.2.2.1 (ws_good ho.1), List.mem_cons_self⟩, hC.2.2.2.2.1 _ ho.1, hC.2.2.2.2.1 _ ho.2.1, ho.2.2.1, par_len ho.2.2.2.1, va_Nw.use rfl (hC.2.2.2.2.2.2.2.1.2.2.2.1 _ hl)⟩
theorem mfix {G : GG} {R : Room} {p : Program} {s : State} {m : MethodId} {args : Array Value} {meth : Method} {c : Code} {A : Nat → Prop} (hC : Cx X mi G d R p s m args meth c A) : CallFix p m c mi.2.1 mi.2.2.1 s args tblG mi.2.2.2.2 := ⟨hC.1, hC.2.1, hC.2.2.1, hC.2.2.2.1, hC.2.2.2.2.1⟩
theorem recv_at {G : GG} {R : Room} {p : Program} {s : State} {m : MethodId} {args : Array Value} {meth : Method} {c : Code} {A : Nat → Prop} {kd ad : Nat → Nat} {H : Heap} {locs : List Loc} {t : Nat} {v : Int} {q : vw_C} (hC : Cx X mi G d R p s m args meth c A) (hX : Sx G ad kd M A s H locs) (ho : okV kd (mN M) (t, v)) (h2 : 2 ≤ t) (h12 : t ≤ 12) (hv : v ≠ 0) (hc : cls[t - 2]? = some q) : ∃ cell : Cell, H[ad (cI v)]? = some cell ∧ cell.vm.isStatics = false ∧ s.vm.findClass q.1 = some cell.cls := by
  obtain ⟨hcn, hkd⟩ := ref_at ho h2 (by omega) hv
  exact va_recv hC.2.2.2.2.2.2.2.2.1 hX.2.1 hc (by rw [wl_at hcn, cE_obj hkd h12])
theorem ev_callV {mi' : MI} {d' t n idx N : Nat} {v : Int} {as rest : List AV} {r1 : Option AV} {M1 : Mm} {C : String} {T : u_T} (hst : st = as.reverse ++ (t, v) :: rest) (h2 : 2 ≤ t) (h12 : t ≤ 12) (hc : cls[t - 2]? = some (C, T, N)) (hv : v ≠ 0) (hn : as.length = n) (hr8 : aW rest ≤ 8) (ho : CalOk mi' n) (hi : Cond.instanceMethod mi'.1 ∈ tblG ∧ Cond.selects C mi'.1 mi'.1 ∈ tblG) (hdd : d' + 1 ≤ d) (hw : Cond.methodLink mi.2.2.2.2 idx mi'.1 ∈ tblG) (hd : decode mi.2.1 pc = .ok (.invokevirtual idx, 3)) (hR : Rn X d' mi' ((t, v) :: as) M r1 M1) (h : Ev X mi d (pc + 3) L (r1.toList ++ rest) M1 r M') : Ev X mi d pc L st M r M' := by
  subst hst
  refine call_core hR (fun q hq => List.mem_append_right _ (List.mem_cons_of_mem _ hq)) (fun q hq => by
    rcases List.mem_cons.mp hq with e | e
    · rw [e]; exact List.mem_append_right _ List.mem_cons_self
    · exact List.mem_append_left _ (List.mem_reverse.mpr e)) h ?_
  intro G R p l e s m args below meth c A kd ad H locs cells slots ls hC hX hst hl hcs hM hp
  have hvo := hst (t, v) (List.mem_append_right _ List.mem_cons_self)
  have er := cv_r G ad h2 (show t ≤ 16 by omega) hv
  have em : ((t, v) :: as).map (cv G ad) = .ref (ad (cI v)) :: as.map (cv G ad) := by rw [List.map_cons, er]
  rw [em] at hM hp ⊢
  exact va_runV (C := C) (b := ad (cI v)) (As := as.map (cv G ad)) (mfix hC) hM ⟨mkB hC ho hdd hw, hC.2.2.2.2.1 _ hi.1, hC.2.2.2.2.1 _ hi.2⟩ ⟨preR_blind _, recv_at hC hX hvo h2 h12 hv hc, hp⟩ rfl (by rw [List.length_map]; exact hn) hl.1 (by show List.map (cv G ad) _ = _; rw [List.map_append, List.map_reverse, List.map_cons, er]) (lv_room (by rw [aW_cat]; exact hr8)) hd hcs
theorem ev_callVN {mi' : MI} {d' t n idx N : Nat} {v : Int} {as rest : List AV} {r1 : Option AV} {M1 : Mm} {C host : String} {T : u_T} (hst : st = as.reverse ++ (t, v) :: rest) (h2 : 2 ≤ t) (h12 : t ≤ 12) (hc : cls[t - 2]? = some (C, T, N)) (hv : v ≠ 0) (hn : as.length = n) (hr8 : aW rest ≤ 8) (ho : CalOk mi' n) (hi : Cond.instanceMethod mi'.1 ∈ tblG ∧ Cond.selects C mi'.1 mi'.1 ∈ tblG) (hdd : d' + 1 ≤ d) (hw : Cond.methodLinkNest mi.2.2.2.2 idx mi'.1 host ∈ tblN) (hd : decode mi.2.1 pc = .ok (.invokevirtual idx, 3)) (hR : Rn X d' mi' ((t, v) :: as) M r1 M1) (h : Ev X mi d (pc + 3) L (r1.toList ++ rest) M1 r M') : Ev X mi d pc L st M r M' := by
  subst hst
  refine call_core hR (fun q hq => List.mem_append_right _ (List.mem_cons_of_mem _ hq)) (fun q hq => by
    rcases List.mem_cons.mp hq with e | e
    · rw [e]; exact List.mem_append_right _ List.mem_cons_self
    · exact List.mem_append_left _ (List.mem_reverse.mpr e)) h ?_
  intro G R p l e s m args below meth c A kd ad H locs cells slots ls hC hX hst hl hcs hM hp
  have hvo := hst (t, v) (List.mem_append_right _ List.mem_cons_self)
  have er := cv_r G ad h2 (show t ≤ 16 by omega) hv
  have em : ((t, v) :: as).map (cv G ad) = .ref (ad (cI v)) :: as.map (cv G ad) := by rw [List.map_cons, er]
  rw [em] at hM hp ⊢
  exact va_runVN (C := C) (b := ad (cI v)) (As := as.map (cv G ad)) (mfix hC) hM ⟨mkN hC ho hdd hw, hC.2.2.2.2.1 _ hi.1, hC.2.2.2.2.1 _ hi.2⟩ ⟨preR_blind _, recv_at hC hX hvo h2 h12 hv hc, hp⟩ rfl (by rw [List.length_map]; exact hn) hl.1 (by show List.map (cv G ad) _ = _; rw [List.map_append, List.map_reverse, List.map_cons, er]) (lv_room (by rw [aW_cat]; exact hr8)) hd hcs
theorem ev_callS {mi' : MI} {d' n idx : Nat} {as rest : List AV} {r1 : Option AV} {M1 : Mm} (hst : st = as.reverse ++ rest) (hn : as.length = n) (hr8 : aW rest ≤ 8) (ho : CalOk mi' n) (hi : Cond.static mi'.1 ∈ tblG) (hdd : d' + 1 ≤ d) (hw : Cond.methodLink mi.2.2.2.2 idx mi'.1 ∈ tblG) (hd : decode mi.2.1 pc = .ok (.invokestatic idx, 3)) (hR : Rn X d' mi' as M r1 M1) (h : Ev X mi d (pc + 3) L (r1.toList ++ rest) M1 r M') : Ev X mi d pc L st M r M' := by
  subst hst
  refine call_core hR (fun q hq => List.mem_append_right _ hq) (fun q hq => List.mem_append_left _ (List.mem_reverse.mpr hq)) h ?_
  intro G R p l e s m args below meth c A kd ad H locs cells slots ls hC hX hst hl hcs hM hp
  exact va_runS (As := as.map (cv G ad)) (mfix hC) hM ⟨mkB hC ho hdd hw, hC.2.2.2.2.1 _ hi⟩ ⟨preR_blind _, hp⟩ rfl (by rw [List.length_map]; exact hn) hl.1 (by show List.map (cv G ad) _ = _; rw [List.map_append, List.map_reverse]) (lv_room (by rw [aW_cat]; exact hr8)) hd hcs
theorem ev_callSN {mi' : MI} {d' n idx : Nat} {host : String} {as rest : List AV} {r1 : Option AV} {M1 : Mm} (hst : st = as.reverse ++ rest) (hn : as.length = n) (hr8 : aW rest ≤ 8) (ho : CalOk mi' n) (hi : Cond.static mi'.1 ∈ tblG) (hdd : d' + 1 ≤ d) (hw : Cond.methodLinkNest mi.2.2.2.2 idx mi'.1 host ∈ tblN) (hd : decode mi.2.1 pc = .ok (.invokestatic idx, 3)) (hR : Rn X d' mi' as M r1 M1) (h : Ev X mi d (pc + 3) L (r1.toList ++ rest) M1 r M') : Ev X mi d pc L st M r M' := by
  subst hst
  refine call_core hR (fun q hq => List.mem_append_right _ hq) (fun q hq => List.mem_append_left _ (List.mem_reverse.mpr hq)) h ?_
  intro G R p l e s m args below meth c A kd ad H locs cells slots ls hC hX hst hl hcs hM hp
  exact va_runSN (As := as.map (cv G ad)) (mfix hC) hM ⟨mkN hC ho hdd hw, hC.2.2.2.2.1 _ hi, trivial⟩ ⟨preR_blind _, hp⟩ rfl (by rw [List.length_map]; exact hn) hl.1 (by show List.map (cv G ad) _ = _; rw [List.map_append, List.map_reverse]) (lv_room (by rw [aW_cat]; exact hr8)) hd hcs
theorem ev_callI {mi' : MI} {d' t n idx : Nat} {v : Int} {as rest : List AV} {M1 : Mm} (hst : st = as.reverse ++ (t, v) :: rest) (h2 : 2 ≤ t) (h12 : t ≤ 12) (hv : v ≠ 0) (hn : as.length = n) (hr8 : aW rest ≤ 8) (ho : CalOk mi' n) (hi : Cond.instanceMethod mi'.1 ∈ tblG) (hy : mi'.1.name = "<init>") (hre : mi'.2.2.2.1 = none) (hdd : d' + 1 ≤ d) (hw : Cond.methodLink mi.2.2.2.2 idx mi'.1 ∈ tblG) (hd : decode mi.2.1 pc = .ok (.invokespecial idx, 3)) (hR : Rn X d' mi' ((t, v) :: as) M none M1) (h : Ev X mi d (pc + 3) L rest M1 r M') : Ev X mi d pc L st M r M' := by
  subst hst
  refine call_core hR (fun q hq => List.mem_append_right _ (List.mem_cons_of_mem _ hq)) (fun q hq => by
    rcases List.mem_cons.mp hq with e | e
    · rw [e]; exact List.mem_append_right _ List.mem_cons_self
    · exact List.mem_append_left _ (List.mem_reverse.mpr e)) h ?_
  intro G R p l e s m args below meth c A kd ad H locs cells slots ls hC hX hst hl hcs hM hp
  have er := cv_r G ad h2 (show t ≤ 16 by omega) hv
  have em : ((t, v) :: as).map (cv G ad) = .ref (ad (cI v)) :: as.map (cv G ad) := by rw [List.map_cons, er]
  rw [em] at hM hp ⊢
  have hB := mkB (M := M) (M1 := M1) hC ho hdd hw
  rw [hre] at hB
  exact va_runI (b := ad (cI v)) (As := as.map (cv G ad)) (mfix hC) hM ⟨hB, hy, hC.2.2.2.2.1 _ hi⟩ ⟨preR_blind _, hp⟩ rfl (by rw [List.length_map]; exact hn) hl.1 (by show List.map (cv G ad) _ = _; rw [List.map_append, List.map_reverse, List.map_cons, er]) (lv_room (by rw [aW_cat]; exact hr8)) hd hcs
theorem ev_callIN {mi' : MI} {d' t n idx : Nat} {v : Int} {host : String} {as rest : List AV} {M1 : Mm} (hst : st = as.reverse ++ (t, v) :: rest) (h2 : 2 ≤ t) (h12 : t ≤ 12) (hv : v ≠ 0) (hn : as.length = n) (hr8 : aW rest ≤ 8) (ho : CalOk mi' n) (hi : Cond.instanceMethod mi'.1 ∈ tblG) (hy : mi'.1.name = "<init>") (hre : mi'.2.2.2.1 = none) (hdd : d' + 1 ≤ d) (hw : Cond.methodLinkNest mi.2.2.2.2 idx mi'.1 host ∈ tblN) (hd : decode mi.2.1 pc = .ok (.invokespecial idx, 3)) (hR : Rn X d' mi' ((t, v) :: as) M none M1) (h : Ev X mi d (pc + 3) L rest M1 r M') : Ev X mi d pc L st M r M' := by
  subst hst
  refine call_core hR (fun q hq => List.mem_append_right _ (List.mem_cons_of_mem _ hq)) (fun q hq => by
    rcases List.mem_cons.mp hq with e | e
    · rw [e]; exact List.mem_append_right _ List.mem_cons_self
    · exact List.mem_append_left _ (List.mem_reverse.mpr e)) h ?_
  intro G R p l e s m args below meth c A kd ad H locs cells slots ls hC hX hst hl hcs hM hp
  have er := cv_r G ad h2 (show t ≤ 16 by omega) hv
  have em : ((t, v) :: as).map (cv G ad) = .ref (ad (cI v)) :: as.map (cv G ad) := by rw [List.map_cons, er]
  rw [em] at hM hp ⊢
  have hB := mkN (M := M) (M1 := M1) hC ho hdd hw
  rw [hre] at hB
  exact va_runIN (b := ad (cI v)) (As := as.map (cv G ad)) (mfix hC) hM ⟨hB, hy, hC.2.2.2.2.1 _ hi⟩ ⟨preR_blind _, hp⟩ rfl (by rw [List.length_map]; exact hn) hl.1 (by show List.map (cv G ad) _ = _; rw [List.map_append, List.map_reverse, List.map_cons, er]) (lv_room (by rw [aW_cat]; exact hr8)) hd hcs
theorem ev_objInit {t idx : Nat} {v : Int} (h2 : 2 ≤ t) (h12 : t ≤ 12) (hv : v ≠ 0) (hr8 : aW st ≤ 8) (hd1 : 1 ≤ d) (hw : Cond.methodLink mi.2.2.2.2 idx Lib.objectInit ∈ tblG) (hi : Cond.instanceMethod Lib.objectInit ∈ tblG) (ho : Cond.code Lib.objectInit ⟨#[0xb1]⟩ 1 none ∈ tblG) (hd : decode mi.2.1 pc = .ok (.invokespecial idx, 3)) (h : Ev X mi d (pc + 3) L st M r M') : Ev X mi d pc L ((t, v) :: st) M r M' := by
  refine ev_step h ?_
  intro G R p l e s m args below meth c Q A kd ad H locs cells slots ls hC hX hst hL hl
  refine ⟨ok_tl hst, hL, fun kk => ?_⟩
  rw [List.map_cons, cv_r G ad h2 (by omega) hv]
  have hf := hC.2.2.2.2.2.2.2.2.2.1
  have hlo := hC.2.2.2.2.2.2.2.2.2.2
  refine W.objInit (g := F0 m pc ls (.ref (ad (cI v)) :: st.map (cv G ad))) (a := ad (cI v)) (rest := st.map (cv G ad)) hC.1 hC.2.1 hC.2.2.2.1 (hC.2.2.2.2.1 _ hw) (hC.2.2.2.2.1 _ hi) (hC.2.2.2.2.1 _ ho) rfl (hl.1.trans hC.2.2.1.symm) rfl hd (by omega) ?_ (kk ls hl)
  rw [aW_cat]
  show 2 * 0 + aW st + 12 ≤ R.locals
  omega
end EV6
end
section
/-! texts -/
def txb (i j : Nat) : Int := ((txB.getD i []).getD j 0).toInt
theorem txb_ok : ∀ i, i < 9 → ∀ j, j < 5 → 0 ≤ txb i j ∧ txb i j < 128 := by decide +kernel
theorem txb_0 (i j : Nat) : ok32 (txb i j) := i32_ok _
theorem txL_9 : ∀ i, i < 9 → txL.getD i 0 ≤ 5 := by decide +kernel
section EV7
variable {X : XX} {mi : MI} {d pc : Nat} {L : List (Nat × AV)} {st : List AV} {M : Mm} {r : Option AV} {M' : Mm}
theorem ok_20 {kd : Nat → Nat} {n : Nat} {i : Nat} (h : i < 9) : okV kd n (20, (i : Int)) := ⟨fun e => by simp at e, fun e => by simp at e, fun _ e => by simp at e, fun e => by simp at e, fun _ => ⟨by simp only; omega, by simp only; omega⟩⟩
theorem ok_22 {kd : Nat → Nat} {n : Nat} {i : Nat} (h : i < 9) : okV kd n (22, (i : Int)) := ⟨fun e => by simp at e, fun e => by simp at e, fun _ e => by simp at e, fun e => by simp at e, fun _ => ⟨by simp only; omega, by simp only; omega⟩⟩
theorem ev_text {idx i : Nat} {tx : String} (hk : txK[i]? = some (mi.2.2.2.2, idx, tx)) (hd : decode mi.2.1 pc = .ok (.ldc idx, 2)) (h : Ev X mi d (pc + 2) L ((20, (i : Int)) :: st) M r M') : Ev X mi d pc L st M r M' := by
  refine ev_step h ?_
  intro G R p l e s m args below meth c Q A kd ad H locs cells slots ls hC hX hst hL hl
  have h9 : i < 9 := (List.getElem?_eq_some_iff.mp hk).1
  refine ⟨ok_cs (ok_20 h9) hst, hL, fun kk => ?_⟩
  exact va_ldcS hC.1 hC.2.1 hC.2.2.2.1 (hC.2.2.2.2.2.2.2.1.2.2.2.2.1.2 i _ hk) hd (kk ls hl)
theorem ev_textV {idx i : Nat} (h9 : i < 9) (hw : Cond.fieldLink mi.2.2.2.2 idx "java/lang/String" "value" "[B" ∈ tblG) (hd : decode mi.2.1 pc = .ok (.getfield idx, 3)) (h : Ev X mi d (pc + 3) L ((22, (i : Int)) :: st) M r M') : Ev X mi d pc L ((20, (i : Int)) :: st) M r M' := by
  refine ev_step h ?_
  intro G R p l e s m args below meth c Q A kd ad H locs cells slots ls hC hX hst hL hl
  refine ⟨ok_cs (ok_22 h9) (ok_tl hst), hL, fun kk => ?_⟩
  exact vk_getf hC.1 hC.2.1 (hC.2.2.2.2.2.2.2.1.2.2.2.2.1.1.1 i h9).2.2.1 hX.2.2.2 hC.2.2.2.1 (hC.2.2.2.2.1 _ hw) (fun _ h => h) hd (kk ls hl)
theorem ev_textC {idx i : Nat} (h9 : i < 9) (hw : Cond.fieldLink mi.2.2.2.2 idx "java/lang/String" "coder" "B" ∈ tblG) (hd : decode mi.2.1 pc = .ok (.getfield idx, 3)) (h : Ev X mi d (pc + 3) L ((0, 0) :: st) M r M') : Ev X mi d pc L ((20, (i : Int)) :: st) M r M' := by
  refine ev_step h ?_
  intro G R p l e s m args below meth c Q A kd ad H locs cells slots ls hC hX hst hL hl
  refine ⟨ok_cs (okI ok32_0) (ok_tl hst), hL, fun kk => ?_⟩
  exact vk_getf hC.1 hC.2.1 (hC.2.2.2.2.2.2.2.1.2.2.2.2.1.1.1 i h9).2.1 hX.2.2.2 hC.2.2.2.1 (hC.2.2.2.2.1 _ hw) (fun _ h => h) hd (kk ls hl)
theorem ev_textL {i : Nat} (h9 : i < 9) (hd : decode mi.2.1 pc = .ok (.arraylength, 1)) (h : Ev X mi d (pc + 1) L ((0, (txL.getD i 0 : Int)) :: st) M r M') : Ev X mi d pc L ((22, (i : Int)) :: st) M r M' := by
  refine ev_step h ?_
  intro G R p l e s m args below meth c Q A kd ad H locs cells slots ls hC hX hst hL hl
  have h5 := txL_9 i h9
  refine ⟨ok_cs (okI (by unfold ok32; omega)) (ok_tl hst), hL, fun kk => ?_⟩
  exact va_tlen hC.1 hC.2.1 (hC.2.2.2.2.2.2.2.1.2.2.2.2.1.1.1 i h9).2.2.2 hX.2.2.2 rfl hd (kk ls hl)
theorem ev_textB {i : Nat} {j : Int} (h9 : i < 9) (hj : 0 ≤ j ∧ j < (txL.getD i 0 : Int)) (hd : decode mi.2.1 pc = .ok (.baload, 1)) (h : Ev X mi d (pc + 1) L ((0, txb i j.toNat) :: st) M r M') : Ev X mi d pc L ((0, j) :: (22, (i : Int)) :: st) M r M' := by
  refine ev_step h ?_
  intro G R p l e s m args below meth c Q A kd ad H locs cells slots ls hC hX hst hL hl
  have hi3 := (ok_hd hst).1 rfl
  refine ⟨ok_cs (okI (txb_0 _ _)) (ok_tl (ok_tl hst)), hL, fun kk => ?_⟩
  refine va_tb hC.1 hC.2.1 (hC.2.2.2.2.2.2.2.1.2.2.2.2.1.1.1 i h9).2.2.2 hX.2.2.2 (i32_in hi3 hj.1 hj.2) ?_ hd (kk ls hl)
  show Value.int _ = Value.int _
  rw [i32_cl hi3, txb, i32_of]
theorem ev_comp {idx : Nat} (hw : Cond.fieldLink mi.2.2.2.2 idx "java/lang/String" "COMPACT_STRINGS" "Z" ∈ tblG) (hd : decode mi.2.1 pc = .ok (.getstatic idx, 3)) (h : Ev X mi d (pc + 3) L ((0, 1) :: st) M r M') : Ev X mi d pc L st M r M' := by
  refine ev_step h ?_
  intro G R p l e s m args below meth c Q A kd ad H locs cells slots ls hC hX hst hL hl
  refine ⟨ok_cs (okI (by unfold ok32; omega)) hst, hL, fun kk => ?_⟩
  exact va_gets hC.1 hC.2.1 hC.2.2.2.2.2.2.2.1.2.2.2.2.2.1.1 hX.2.2.2 hC.2.2.2.1 (hC.2.2.2.2.1 _ hw) (fun _ h => h) hd (kk ls hl)
/-- a static that only is passed on: a reference or null, the tag 23 -/
theorem ev_form {idx : Nat} (hw : Cond.fieldLink mi.2.2.2.2 idx "jdk/internal/util/Preconditions" "SIOOBE_FORMATTER" "Ljava/util/function/BiFunction;" ∈ tblG) (hd : decode mi.2.1 pc = .ok (.getstatic idx, 3)) (h : Ev X mi d (pc + 3) L ((23, 1) :: st) M r M') : Ev X mi d pc L st M r M' := by
  refine ev_step h ?_
  intro G R p l e s m args below meth c Q A kd ad H locs cells slots ls hC hX hst hL hl
  refine ⟨ok_cs ⟨fun e => by simp at e, fun e => by simp at e, fun _ e => by simp at e, fun e => by simp at e, fun e => by simp at e⟩ hst, hL, fun kk => ?_⟩
  exact va_gets hC.1 hC.2.1 hC.2.2.2.2.2.2.2.1.2.2.2.2.2.1.2 hX.2.2.2 hC.2.2.2.1 (hC.2.2.2.2.1 _ hw) (fun _ h => h) hd (kk ls hl)
theorem ev_callT {mi' : MI} {d' n idx : Nat} {i : Nat} {as rest : List AV} {r1 : Option AV} {M1 : Mm} (hst : st = as.reverse ++ (20, (i : Int)) :: rest) (h9 : i < 9) (hn : as.length = n) (hr8 : aW rest ≤ 8) (ho : CalOk mi' n) (hi : Cond.instanceMethod mi'.1 ∈ tblG ∧ Cond.selects "java/lang/String" mi'.1 mi'.1 ∈ tblG) (hdd : d' + 1 ≤ d) (hw : Cond.methodLink mi.2.2.2.2 idx mi'.1 ∈ tblG) (hd : decode mi.2.1 pc = .ok (.invokevirtual idx, 3)) (hR : Rn X d' mi' ((20, (i : Int)) :: as) M r1 M1) (h : Ev X mi d (pc + 3) L (r1.toList ++ rest) M1 r M') : Ev X mi d pc L st M r M' := by
  subst hst
  refine call_core hR (fun q hq => List.mem_append_right _ (List.mem_cons_of_mem _ hq)) (fun q hq => by
    rcases List.mem_cons.mp hq with e | e
    · rw [e]; exact List.mem_append_right _ List.mem_cons_self
    · exact List.mem_append_left _ (List.mem_reverse.mpr e)) h ?_
  intro G R p l e s m args below meth c A kd ad H locs cells slots ls hC hX hst hl hcs hM hp
  have er : cv G ad (20, (i : Int)) = .ref (G.2.2 (100 + i)) := rfl
  have em : ((20, (i : Int)) :: as).map (cv G ad) = .ref (G.2.2 (100 + i)) :: as.map (cv G ad) := by rw [List.map_cons, er]
  rw [em] at hM hp ⊢
  exact va_runV (C := "java/lang/String") (b := G.2.2 (100 + i)) (As := as.map (cv G ad)) (mfix hC) hM ⟨mkB hC ho hdd hw, hC.2.2.2.2.1 _ hi.1, hC.2.2.2.2.1 _ hi.2⟩ ⟨preR_blind _, vk_recv (adK := fun i => G.2.2 (100 + i)) (i := i) hC.2.2.2.2.2.2.2.1.2.2.2.2.1.1 h9 hX.2.2.2, hp⟩ rfl (by rw [List.length_map]; exact hn) hl.1 (by show List.map (cv G ad) _ = _; rw [List.map_append, List.map_reverse, List.map_cons, er]) (lv_room (by rw [aW_cat]; exact hr8)) hd hcs
end EV7
end
section
/-! names of values, loops -/
def lt {α β : Type} (e : α) (k : α → β) : β := k e
theorem ltx {α β : Type} {e : α} {k : α → Option β} {z : β} (h : lt e k = some z) : ∃ x, x = e ∧ k x = some z := ⟨_, rfl, h⟩
theorem bx {α β : Type} {e : Option α} {k : α → Option β} {z : β} (h : e.bind k = some z) : ∃ x, e = some x ∧ k x = some z := Option.bind_eq_some_iff.mp h
theorem gx {β : Type} {c : Prop} [Decidable c] {e : Option β} {z : β} (h : (if c then e else none) = some z) : c ∧ e = some z := by
  by_cases hc : c
  · rw [if_pos hc] at h; exact ⟨hc, h⟩
  · rw [if_neg hc] at h; cases h
def loopN {S R : Type} (step : S → Option (S ⊕ R)) : Nat → S → Option R
  | 0, _ => none
  | n + 1, s => match step s with
    | none => none
    | some (.inl s') => loopN step n s'
    | some (.inr t) => some t
theorem loop_ev {S R : Type} {step : S → Option (S ⊕ R)} {P : S → Prop} {Q : R → Prop} (hs : ∀ s x, step s = some x → (∀ s', x = .inl s' → P s') → (∀ t, x = .inr t → Q t) → P s) : ∀ n s t, loopN step n s = some t → Q t → P s
  | 0, s, t, h, _ => by cases h
  | n + 1, s, t, h, hq => by
    unfold loopN at h
    cases e : step s with
    | none => rw [e] at h; cases h
    | some x =>
      rw [e] at h
      refine hs s x e (fun s' hx => ?_) (fun t' hx => ?_)
      · subst hx; exact loop_ev hs n s' t h hq
      · subst hx; cases h; exact hq
/-- a loop whose measure falls -/
theorem loop_inv {S R : Type} {step : S → Option (S ⊕ R)} (I : S → Prop) (μ : S → Nat) (Q : R → Prop) (hs : ∀ s, I s → ∃ x, step s = some x ∧ (∀ s', x = .inl s' → I s' ∧ μ s' < μ s) ∧ (∀ t, x = .inr t → Q t)) : ∀ n s, I s → μ s < n → ∃ t, loopN step n s = some t ∧ Q t
  | 0, s, _, hm => absurd hm (Nat.not_lt_zero _)
  | n + 1, s, hi, hm => by
    obtain ⟨x, hx, h1, h2⟩ := hs s hi
    unfold loopN
    rw [hx]
    cases x with
    | inl s' =>
      obtain ⟨a, b⟩ := h1 s' rfl
      exact loop_inv I μ Q hs n s' a (by omega)
    | inr t => exact ⟨t, rfl, h2 t rfl⟩
def FU : Nat := 1000000
theorem nz (M : Mm) : ((mN M : Int) + 1) ≠ 0 := by omega
theorem cI_nz (M : Mm) : cI ((mN M : Int) + 1) = mN M := cI_s _
section EV8
variable {X : XX} {mi : MI} {d pc : Nat} {L : List (Nat × AV)} {st : List AV} {M : Mm} {r : Option AV} {M' M1 : Mm}
theorem ev_put' {t k idx tk N : Nat} {v x : Int} {C : String} {T : u_T} {ty0 : Nat → FieldType} (h2 : 2 ≤ t) (h12 : t ≤ 12) (hc : cls[t - 2]? = some (C, T, N)) (hin : ∀ w ∈ u_ws C T N, w ∈ tblG) (hty : ∀ k, k < N → parseFieldDescriptor (T k).2.2.1 = some (ty0 k)) (hnm : ∀ a, a < N → ∀ b, b < N → a ≠ b → (T a).2.1 ≠ (T b).2.1) (hk : k < N) (hN : nf t = N) (htk : ft t k = tk) (hto : tyOk (ty0 k) tk = true) (hfin : (T k).2.2.2 = false) (hw : Cond.fieldLink mi.2.2.2.2 idx (T k).1 (T k).2.1 (T k).2.2.1 ∈ tblG) (hd : decode mi.2.1 pc = .ok (.putfield idx, 3)) (hv : v ≠ 0) (hM1 : M1 = (mp M (cI v) k x)) (h : Ev X mi d (pc + 3) L st M1 r M') : Ev X mi d pc L ((tk, x) :: (t, v) :: st) M r M' := by
  subst hM1; exact ev_put h2 h12 hc hin hty hnm hk hN htk hto hfin hw hd hv h
theorem ev_putN' {t k idx tk N : Nat} {v x : Int} {C host : String} {T : u_T} {ty0 : Nat → FieldType} (h2 : 2 ≤ t) (h12 : t ≤ 12) (hc : cls[t - 2]? = some (C, T, N)) (hin : ∀ w ∈ u_ws C T N, w ∈ tblG) (hty : ∀ k, k < N → parseFieldDescriptor (T k).2.2.1 = some (ty0 k)) (hnm : ∀ a, a < N → ∀ b, b < N → a ≠ b → (T a).2.1 ≠ (T b).2.1) (hk : k < N) (hN : nf t = N) (htk : ft t k = tk) (hto : tyOk (ty0 k) tk = true) (hfin : (T k).2.2.2 = false) (hw : Cond.fieldLinkNest mi.2.2.2.2 idx (T k).1 (T k).2.1 (T k).2.2.1 host ∈ tblN) (hd : decode mi.2.1 pc = .ok (.putfield idx, 3)) (hv : v ≠ 0) (hM1 : M1 = (mp M (cI v) k x)) (h : Ev X mi d (pc + 3) L st M1 r M') : Ev X mi d pc L ((tk, x) :: (t, v) :: st) M r M' := by
  subst hM1; exact ev_putN h2 h12 hc hin hty hnm hk hN htk hto hfin hw hd hv h
theorem ev_putF' {t k idx tk N : Nat} {v x : Int} {C : String} {T : u_T} {ty0 : Nat → FieldType} (h2 : 2 ≤ t) (h12 : t ≤ 12) (hc : cls[t - 2]? = some (C, T, N)) (hin : ∀ w ∈ u_ws C T N, w ∈ tblG) (hty : ∀ k, k < N → parseFieldDescriptor (T k).2.2.1 = some (ty0 k)) (hnm : ∀ a, a < N → ∀ b, b < N → a ≠ b → (T a).2.1 ≠ (T b).2.1) (hk : k < N) (hN : nf t = N) (htk : ft t k = tk) (hto : tyOk (ty0 k) tk = true) (hfin : (T k).2.2.2 = true) (hi : mi.1.name = "<init>") (hde : (T k).1 = mi.2.2.2.2) (hw : Cond.fieldLink mi.2.2.2.2 idx (T k).1 (T k).2.1 (T k).2.2.1 ∈ tblG) (hd : decode mi.2.1 pc = .ok (.putfield idx, 3)) (hv : v ≠ 0) (hM1 : M1 = (mp M (cI v) k x)) (h : Ev X mi d (pc + 3) L st M1 r M') : Ev X mi d pc L ((tk, x) :: (t, v) :: st) M r M' := by
  subst hM1; exact ev_putF h2 h12 hc hin hty hnm hk hN htk hto hfin hi hde hw hd hv h
theorem ev_iast' {i v x : Int} (hd : decode mi.2.1 pc = .ok (.iastore, 1)) (hv : v ≠ 0) (hi : 0 ≤ i ∧ i < (ml M (cI v) : Int)) (hM1 : M1 = (mp M (cI v) i.toNat x)) (h : Ev X mi d (pc + 1) L st M1 r M') : Ev X mi d pc L ((0, x) :: (0, i) :: (13, v) :: st) M r M' := by
  subst hM1; exact ev_iast hd hv hi h
theorem ev_last' {i v x : Int} (hd : decode mi.2.1 pc = .ok (.lastore, 1)) (hv : v ≠ 0) (hi : 0 ≤ i ∧ i < (ml M (cI v) : Int)) (hM1 : M1 = (mp M (cI v) i.toNat x)) (h : Ev X mi d (pc + 1) L st M1 r M') : Ev X mi d pc L ((1, x) :: (0, i) :: (14, v) :: st) M r M' := by
  subst hM1; exact ev_last hd hv hi h
theorem ev_zast' {i v x : Int} (hd : decode mi.2.1 pc = .ok (.bastore, 1)) (hv : v ≠ 0) (hi : 0 ≤ i ∧ i < (ml M (cI v) : Int)) (hx : x = 0 ∨ x = 1) (hM1 : M1 = (mp M (cI v) i.toNat x)) (h : Ev X mi d (pc + 1) L st M1 r M') : Ev X mi d pc L ((0, x) :: (0, i) :: (15, v) :: st) M r M' := by
  subst hM1; exact ev_zast hd hv hi hx h
theorem ev_aast' {i v x : Int} (hd : decode mi.2.1 pc = .ok (.aastore, 1)) (hv : v ≠ 0) (hi : 0 ≤ i ∧ i < (ml M (cI v) : Int)) (hx : x ≠ 0) (hM1 : M1 = (mp M (cI v) i.toNat x)) (h : Ev X mi d (pc + 1) L st M1 r M') : Ev X mi d pc L ((5, x) :: (0, i) :: (16, v) :: st) M r M' := by
  subst hM1; exact ev_aast hd hv hi hx h
theorem ev_new' {t idx N : Nat} {C : String} {T : u_T} {ty0 : Nat → FieldType} (h2 : 2 ≤ t) (h12 : t ≤ 12) (hc : cls[t - 2]? = some (C, T, N)) (hin : ∀ w ∈ u_ws C T N, w ∈ tblG) (hty : ∀ k, k < N → parseFieldDescriptor (T k).2.2.1 = some (ty0 k)) (hN : nf t = N) (hto : ∀ k, k < N → tyOk (ty0 k) (ft t k) = true) (hN2 : N < 2147483648) (hw : Cond.classLink mi.2.2.2.2 idx C ∈ tblG) (hi : Cond.instantiable C N ∈ tblG) (hini : Cond.initialized C ∈ tblG) (hd : decode mi.2.1 pc = .ok (.new idx, 3)) (hM1 : M1 = (mw M N)) (h : Ev X mi d (pc + 3) L ((t, (mN M : Int) + 1) :: st) M1 r M') : Ev X mi d pc L st M r M' := by
  subst hM1; exact ev_new h2 h12 hc hin hty hN hto hN2 hw hi hini hd h
theorem ev_newI' {v : Int} (hw : Cond.arrayClass .int ∈ tblG) (hd : decode mi.2.1 pc = .ok (.newarray .int, 2)) (hv : 0 ≤ v ∧ v < 1000000) (hM1 : M1 = (mw M v.toNat)) (h : Ev X mi d (pc + 2) L ((13, (mN M : Int) + 1) :: st) M1 r M') : Ev X mi d pc L ((0, v) :: st) M r M' := by
  subst hM1; exact ev_newI hw hd hv h
theorem ev_newJ' {v : Int} (hw : Cond.arrayClass .long ∈ tblG) (hd : decode mi.2.1 pc = .ok (.newarray .long, 2)) (hv : 0 ≤ v ∧ v < 1000000) (hM1 : M1 = (mw M v.toNat)) (h : Ev X mi d (pc + 2) L ((14, (mN M : Int) + 1) :: st) M1 r M') : Ev X mi d pc L ((0, v) :: st) M r M' := by
  subst hM1; exact ev_newJ hw hd hv h
theorem ev_newZ' {v : Int} (hw : Cond.arrayClass .boolean ∈ tblG) (hd : decode mi.2.1 pc = .ok (.newarray .boolean, 2)) (hv : 0 ≤ v ∧ v < 1000000) (hM1 : M1 = (mw M v.toNat)) (h : Ev X mi d (pc + 2) L ((15, (mN M : Int) + 1) :: st) M1 r M') : Ev X mi d pc L ((0, v) :: st) M r M' := by
  subst hM1; exact ev_newZ hw hd hv h
theorem ev_newO' {v : Int} {idx : Nat} (hw : Cond.classLink mi.2.2.2.2 idx "TownBand$Piece" ∈ tblG) (hd : decode mi.2.1 pc = .ok (.anewarray idx, 3)) (hv : 0 ≤ v ∧ v < 1000000) (hM1 : M1 = (mw M v.toNat)) (h : Ev X mi d (pc + 3) L ((16, (mN M : Int) + 1) :: st) M1 r M') : Ev X mi d pc L ((0, v) :: st) M r M' := by
  subst hM1; exact ev_newO hw hd hv h
theorem ev_istore_n' {y : Int} {j : Fin 4} {v : Int} {i : Nat} {L' : List (Nat × AV)} (hd : decode mi.2.1 pc = .ok (.istore_n j, 1)) (hi : (j : Nat) = i) (hn : i < mi.2.2.1) (hL' : lset L i (0, y) = L') (hy : y = v) (h : Ev X mi d (pc + 1) L' st M r M') : Ev X mi d pc L ((0, v) :: st) M r M' := by
  subst hy; exact ev_istore_n hd hi hn hL' h
theorem ev_istore' {y : Int} {v : Int} {i : Nat} {L' : List (Nat × AV)} (hd : decode mi.2.1 pc = .ok (.istore i, 2)) (hn : i < mi.2.2.1) (hL' : lset L i (0, y) = L') (hy : y = v) (h : Ev X mi d (pc + 2) L' st M r M') : Ev X mi d pc L ((0, v) :: st) M r M' := by
  subst hy; exact ev_istore hd hn hL' h
theorem ev_lstore' {y : Int} {v : Int} {i : Nat} {L' : List (Nat × AV)} (hd : decode mi.2.1 pc = .ok (.lstore i, 2)) (hn : i + 1 < mi.2.2.1) (hL' : lsetL L i (1, y) = L') (hy : y = v) (h : Ev X mi d (pc + 2) L' st M r M') : Ev X mi d pc L ((1, v) :: st) M r M' := by
  subst hy; exact ev_lstore hd hn hL' h
theorem ev_astore_n' {y : Int} {j : Fin 4} {t : Nat} {v : Int} {i : Nat} {L' : List (Nat × AV)} (hd : decode mi.2.1 pc = .ok (.astore_n j, 1)) (hi : (j : Nat) = i) (ht : 2 ≤ t) (hn : i < mi.2.2.1) (hL' : lset L i (t, y) = L') (hy : y = v) (h : Ev X mi d (pc + 1) L' st M r M') : Ev X mi d pc L ((t, v) :: st) M r M' := by
  subst hy; exact ev_astore_n hd hi ht hn hL' h
theorem ev_astore' {y : Int} {t : Nat} {v : Int} {i : Nat} {L' : List (Nat × AV)} (hd : decode mi.2.1 pc = .ok (.astore i, 2)) (ht : 2 ≤ t) (hn : i < mi.2.2.1) (hL' : lset L i (t, y) = L') (hy : y = v) (h : Ev X mi d (pc + 2) L' st M r M') : Ev X mi d pc L ((t, v) :: st) M r M' := by
  subst hy; exact ev_astore hd ht hn hL' h
theorem ev_iinc' {y : Int} {v n : Int} (k : Nat) {i : Nat} {L' : List (Nat × AV)} (hd : decode mi.2.1 pc = .ok (.iinc i n, 3)) (hk : L[k]? = some (i, (0, v))) (hn : i < mi.2.2.1) (hL' : lset L i (0, y) = L') (hy : y = w32 (v + n)) (h : Ev X mi d (pc + 3) L' st M r M') : Ev X mi d pc L st M r M' := by
  subst hy; exact ev_iinc k hd hk hn hL' h
end EV8
end
section
theorem tU {ws : List Cond} (ps : List Nat) (h : ws = ps.filterMap (fun i => tables_1[i]?)) (hg : ws.all goodWord = true) : ∀ w ∈ ws, w ∈ tblG := by
  intro w hw
  have h1 := List.all_eq_true.mp hg w hw
  rw [h] at hw
  obtain ⟨i, -, hi⟩ := List.mem_filterMap.mp hw
  exact tG hi h1
theorem tG1 {i : Nat} {w : Cond} (h : tables_1_1[i]? = some w) (hg : goodWord w = true) : w ∈ tblG := List.mem_filter.mpr ⟨List.mem_append_right _ (List.mem_append_left _ (List.mem_of_getElem? h)), hg⟩
theorem tN1 {i : Nat} {w : Cond} (h : tables_1_1[i]? = some w) (hg : isNest w = true) : w ∈ tblN := List.mem_filter.mpr ⟨List.mem_append_left _ (List.mem_of_getElem? h), hg⟩
theorem tG2 {i : Nat} {w : Cond} (h : tables_1_2[i]? = some w) (hg : goodWord w = true) : w ∈ tblG := List.mem_filter.mpr ⟨List.mem_append_right _ (List.mem_append_right _ (List.mem_append_left _ (List.mem_of_getElem? h))), hg⟩
theorem tN2 {i : Nat} {w : Cond} (h : tables_1_2[i]? = some w) (hg : isNest w = true) : w ∈ tblN := List.mem_filter.mpr ⟨List.mem_append_right _ (List.mem_append_left _ (List.mem_of_getElem? h)), hg⟩
theorem tG3 {i : Nat} {w : Cond} (h : tables_1_3[i]? = some w) (hg : goodWord w = true) : w ∈ tblG := List.mem_filter.mpr ⟨List.mem_append_right _ (List.mem_append_right _ (List.mem_append_right _ (List.mem_append_left _ (List.mem_of_getElem? h)))), hg⟩
theorem tN3 {i : Nat} {w : Cond} (h : tables_1_3[i]? = some w) (hg : isNest w = true) : w ∈ tblN := List.mem_filter.mpr ⟨List.mem_append_right _ (List.mem_append_right _ (List.mem_append_left _ (List.mem_of_getElem? h))), hg⟩
theorem tG4 {i : Nat} {w : Cond} (h : tables_1_4[i]? = some w) (hg : goodWord w = true) : w ∈ tblG := List.mem_filter.mpr ⟨List.mem_append_right _ (List.mem_append_right _ (List.mem_append_right _ (List.mem_append_right _ (List.mem_append_left _ (List.mem_of_getElem? h))))), hg⟩
theorem tN4 {i : Nat} {w : Cond} (h : tables_1_4[i]? = some w) (hg : isNest w = true) : w ∈ tblN := List.mem_filter.mpr ⟨List.mem_append_right _ (List.mem_append_right _ (List.mem_append_right _ (List.mem_append_left _ (List.mem_of_getElem? h)))), hg⟩
theorem tG5 {i : Nat} {w : Cond} (h : tables_1_5[i]? = some w) (hg : goodWord w = true) : w ∈ tblG := List.mem_filter.mpr ⟨List.mem_append_right _ (List.mem_append_right _ (List.mem_append_right _ (List.mem_append_right _ (List.mem_append_right _ (List.mem_append_left _ (List.mem_of_getElem? h)))))), hg⟩
theorem tN5 {i : Nat} {w : Cond} (h : tables_1_5[i]? = some w) (hg : isNest w = true) : w ∈ tblN := List.mem_filter.mpr ⟨List.mem_append_right _ (List.mem_append_right _ (List.mem_append_right _ (List.mem_append_right _ (List.mem_append_left _ (List.mem_of_getElem? h))))), hg⟩
theorem tG6 {i : Nat} {w : Cond} (h : tables_1_6[i]? = some w) (hg : goodWord w = true) : w ∈ tblG := List.mem_filter.mpr ⟨List.mem_append_right _ (List.mem_append_right _ (List.mem_append_right _ (List.mem_append_right _ (List.mem_append_right _ (List.mem_append_right _ ((List.mem_of_getElem? h))))))), hg⟩
theorem tN6 {i : Nat} {w : Cond} (h : tables_1_6[i]? = some w) (hg : isNest w = true) : w ∈ tblN := List.mem_filter.mpr ⟨List.mem_append_right _ (List.mem_append_right _ (List.mem_append_right _ (List.mem_append_right _ (List.mem_append_right _ ((List.mem_of_getElem? h)))))), hg⟩
theorem tw_0 : (Cond.initialized "TownBandLaw") ∈ tblG := tG1 (i := 0) rfl rfl
theorem tw_1 : (Cond.initialized "TownBand") ∈ tblG := tG1 (i := 1) rfl rfl
theorem tw_2 : (Cond.initialized "TownBand$Players") ∈ tblG := tG1 (i := 2) rfl rfl
theorem tw_3 : (Cond.initialized "java/util/Arrays") ∈ tblG := tG1 (i := 3) rfl rfl
theorem tw_4 : (Cond.initialized "TownBand$Library") ∈ tblG := tG1 (i := 4) rfl rfl
theorem tw_5 : (Cond.initialized "TownBand$Piece") ∈ tblG := tG1 (i := 5) rfl rfl
theorem tw_6 : (Cond.initialized "TownBand$Tape") ∈ tblG := tG1 (i := 6) rfl rfl
theorem tw_7 : (Cond.initialized "TownBand$Rule") ∈ tblG := tG1 (i := 7) rfl rfl
theorem tw_8 : (Cond.initialized "TownBand$Loans") ∈ tblG := tG1 (i := 8) rfl rfl
theorem tw_9 : (Cond.initialized "TownBand$Cover") ∈ tblG := tG1 (i := 9) rfl rfl
theorem tw_10 : (Cond.initialized "TownBand$Seater") ∈ tblG := tG1 (i := 10) rfl rfl
theorem tw_11 : (Cond.initialized "TownBand$Planner") ∈ tblG := tG1 (i := 11) rfl rfl
theorem tw_12 : (Cond.initialized "TownBandModel") ∈ tblG := tG1 (i := 12) rfl rfl
theorem tw_13 : (Cond.initialized "java/lang/String") ∈ tblG := tG1 (i := 13) rfl rfl
theorem tw_14 : (Cond.initialized "java/lang/StringLatin1") ∈ tblG := tG1 (i := 14) rfl rfl
theorem tw_15 : (Cond.initialized "jdk/internal/util/Preconditions") ∈ tblG := tG1 (i := 15) rfl rfl
theorem tw_16 : (Cond.initialized "java/lang/StringUTF16") ∈ tblG := tG1 (i := 16) rfl rfl
theorem tw_17 : (Cond.initialized "java/lang/Integer") ∈ tblG := tG1 (i := 17) rfl rfl
theorem tw_18 : (Cond.initialized "java/lang/Math") ∈ tblG := tG1 (i := 18) rfl rfl
theorem tw_19 : (Cond.classLink "TownBandLaw" (7 : Nat) "TownBand") ∈ tblG := tG1 (i := 19) rfl rfl
theorem tw_20 : (Cond.instantiable "TownBand" (8 : Nat)) ∈ tblG := tG1 (i := 20) rfl rfl
theorem tw_21 : (Cond.methodLink "TownBandLaw" (9 : Nat) ({ cls := "TownBand", name := "<init>", desc := "()V" } : MethodName)) ∈ tblG := tG1 (i := 21) rfl rfl
theorem tw_22 : (Cond.instanceMethod ({ cls := "TownBand", name := "<init>", desc := "()V" } : MethodName)) ∈ tblG := tG1 (i := 22) rfl rfl
theorem tw_23 : (Cond.code ({ cls := "TownBand", name := "<init>", desc := "()V" } : MethodName) prog_1_method_1_code (1 : Nat) (Option.none : Option FieldType)) ∈ tblG := tG1 (i := 23) rfl rfl
theorem tw_24 : (Cond.methodLink "TownBand" (3 : Nat) ({ cls := "java/lang/Object", name := "<init>", desc := "()V" } : MethodName)) ∈ tblG := tG1 (i := 24) rfl rfl
theorem tw_25 : (Cond.instanceMethod ({ cls := "java/lang/Object", name := "<init>", desc := "()V" } : MethodName)) ∈ tblG := tG1 (i := 25) rfl rfl
theorem tw_26 : (Cond.code ({ cls := "java/lang/Object", name := "<init>", desc := "()V" } : MethodName) object_method_1_code (1 : Nat) (Option.none : Option FieldType)) ∈ tblG := tG1 (i := 26) rfl rfl
theorem tw_27 : (Cond.classLink "TownBand" (9 : Nat) "TownBand$Players") ∈ tblG := tG1 (i := 27) rfl rfl
theorem tw_28 : (Cond.instantiable "TownBand$Players" (6 : Nat)) ∈ tblG := tG1 (i := 28) rfl rfl
theorem tw_29 : (Cond.methodLinkNest "TownBand" (11 : Nat) ({ cls := "TownBand$Players", name := "<init>", desc := "()V" } : MethodName) "TownBand") ∈ tblN := tN1 (i := 29) rfl rfl
theorem tw_30 : (Cond.instanceMethod ({ cls := "TownBand$Players", name := "<init>", desc := "()V" } : MethodName)) ∈ tblG := tG1 (i := 30) rfl rfl
theorem tw_31 : (Cond.code ({ cls := "TownBand$Players", name := "<init>", desc := "()V" } : MethodName) prog_7_method_1_code (1 : Nat) (Option.none : Option FieldType)) ∈ tblG := tG1 (i := 31) rfl rfl
theorem tw_32 : (Cond.methodLink "TownBand$Players" (3 : Nat) ({ cls := "java/lang/Object", name := "<init>", desc := "()V" } : MethodName)) ∈ tblG := tG1 (i := 32) rfl rfl
theorem tw_33 : (Cond.methodLink "TownBand$Players" (24 : Nat) ({ cls := "java/util/Arrays", name := "fill", desc := "([II)V" } : MethodName)) ∈ tblG := tG1 (i := 33) rfl rfl
theorem tw_34 : (Cond.static ({ cls := "java/util/Arrays", name := "fill", desc := "([II)V" } : MethodName)) ∈ tblG := tG1 (i := 34) rfl rfl
theorem tw_35 : (Cond.code ({ cls := "java/util/Arrays", name := "fill", desc := "([II)V" } : MethodName) prog_18_method_103_code (4 : Nat) (Option.none : Option FieldType)) ∈ tblG := tG1 (i := 35) rfl rfl
theorem tw_36 : (Cond.fieldLink "TownBand$Players" (9 : Nat) "TownBand$Players" "ages" "[I") ∈ tblG := tG1 (i := 36) rfl rfl
theorem tw_37 : (Cond.fieldLinkNest "TownBand" (228 : Nat) "TownBand$Players" "ages" "[I" "TownBand") ∈ tblN := tN1 (i := 37) rfl rfl
theorem tw_38 : (Cond.fieldLink "TownBand$Players" (15 : Nat) "TownBand$Players" "joinedDays" "[I") ∈ tblG := tG1 (i := 38) rfl rfl
theorem tw_39 : (Cond.fieldLinkNest "TownBand" (237 : Nat) "TownBand$Players" "joinedDays" "[I" "TownBand") ∈ tblN := tN1 (i := 39) rfl rfl
theorem tw_40 : (Cond.fieldLink "TownBand$Players" (18 : Nat) "TownBand$Players" "contests" "[I") ∈ tblG := tG1 (i := 40) rfl rfl
theorem tw_41 : (Cond.fieldLinkNest "TownBand" (231 : Nat) "TownBand$Players" "contests" "[I" "TownBand") ∈ tblN := tN1 (i := 41) rfl rfl
theorem tw_42 : (Cond.fieldLink "TownBand$Players" (21 : Nat) "TownBand$Players" "costs" "[I") ∈ tblG := tG1 (i := 42) rfl rfl
theorem tw_43 : (Cond.fieldLink "TownBand$Players" (30 : Nat) "TownBand$Players" "size" "I") ∈ tblG := tG1 (i := 43) rfl rfl
theorem tw_44 : (Cond.fieldLinkNest "TownBand$Seater" (39 : Nat) "TownBand$Players" "size" "I" "TownBand") ∈ tblN := tN1 (i := 44) rfl rfl
theorem tw_45 : (Cond.fieldLinkNest "TownBand" (247 : Nat) "TownBand$Players" "size" "I" "TownBand") ∈ tblN := tN1 (i := 45) rfl rfl
theorem tw_46 : (Cond.fieldLink "TownBand$Players" (34 : Nat) "TownBand$Players" "present" "I") ∈ tblG := tG1 (i := 46) rfl rfl
theorem tw_47 : (Cond.fieldLinkNest "TownBand" (248 : Nat) "TownBand$Players" "present" "I" "TownBand") ∈ tblN := tN1 (i := 47) rfl rfl
theorem tw_61 : (Cond.arrayClass FieldType.int) ∈ tblG := tG1 (i := 61) rfl rfl
theorem tw_62 : (Cond.classLink "TownBand" (16 : Nat) "TownBand$Library") ∈ tblG := tG1 (i := 62) rfl rfl
theorem tw_63 : (Cond.instantiable "TownBand$Library" (3 : Nat)) ∈ tblG := tG1 (i := 63) rfl rfl
theorem tw_64 : (Cond.methodLinkNest "TownBand" (18 : Nat) ({ cls := "TownBand$Library", name := "<init>", desc := "()V" } : MethodName) "TownBand") ∈ tblN := tN1 (i := 64) rfl rfl
theorem tw_65 : (Cond.instanceMethod ({ cls := "TownBand$Library", name := "<init>", desc := "()V" } : MethodName)) ∈ tblG := tG1 (i := 65) rfl rfl
theorem tw_66 : (Cond.code ({ cls := "TownBand$Library", name := "<init>", desc := "()V" } : MethodName) prog_3_method_1_code (2 : Nat) (Option.none : Option FieldType)) ∈ tblG := tG1 (i := 66) rfl rfl
theorem tw_67 : (Cond.methodLink "TownBand$Library" (3 : Nat) ({ cls := "java/lang/Object", name := "<init>", desc := "()V" } : MethodName)) ∈ tblG := tG1 (i := 67) rfl rfl
theorem tw_68 : (Cond.classLink "TownBand$Library" (9 : Nat) "TownBand$Piece") ∈ tblG := tG1 (i := 68) rfl rfl
theorem tw_70 : (Cond.instantiable "TownBand$Piece" (9 : Nat)) ∈ tblG := tG1 (i := 70) rfl rfl
theorem tw_71 : (Cond.methodLinkNest "TownBand$Library" (17 : Nat) ({ cls := "TownBand$Piece", name := "<init>", desc := "()V" } : MethodName) "TownBand") ∈ tblN := tN1 (i := 71) rfl rfl
theorem tw_72 : (Cond.instanceMethod ({ cls := "TownBand$Piece", name := "<init>", desc := "()V" } : MethodName)) ∈ tblG := tG1 (i := 72) rfl rfl
theorem tw_73 : (Cond.code ({ cls := "TownBand$Piece", name := "<init>", desc := "()V" } : MethodName) prog_5_method_1_code (1 : Nat) (Option.none : Option FieldType)) ∈ tblG := tG1 (i := 73) rfl rfl
theorem tw_74 : (Cond.methodLink "TownBand$Piece" (3 : Nat) ({ cls := "java/lang/Object", name := "<init>", desc := "()V" } : MethodName)) ∈ tblG := tG1 (i := 74) rfl rfl
theorem tw_75 : (Cond.fieldLink "TownBand$Piece" (9 : Nat) "TownBand$Piece" "choices" "[I") ∈ tblG := tG1 (i := 75) rfl rfl
theorem tw_76 : (Cond.fieldLinkNest "TownBand$Players" (37 : Nat) "TownBand$Piece" "choices" "[I" "TownBand") ∈ tblN := tN1 (i := 76) rfl rfl
theorem tw_77 : (Cond.fieldLink "TownBand$Piece" (15 : Nat) "TownBand$Piece" "instruments" "[I") ∈ tblG := tG1 (i := 77) rfl rfl
theorem tw_78 : (Cond.fieldLink "TownBand$Piece" (18 : Nat) "TownBand$Piece" "chairs" "[I") ∈ tblG := tG1 (i := 78) rfl rfl
theorem tw_79 : (Cond.fieldLinkNest "TownBand$Seater" (77 : Nat) "TownBand$Piece" "chairs" "[I" "TownBand") ∈ tblN := tN1 (i := 79) rfl rfl
theorem tw_80 : (Cond.fieldLinkNest "TownBand$Players" (60 : Nat) "TownBand$Piece" "chairs" "[I" "TownBand") ∈ tblN := tN1 (i := 80) rfl rfl
theorem tw_81 : (Cond.fieldLinkNest "TownBand" (170 : Nat) "TownBand$Piece" "chairs" "[I" "TownBand") ∈ tblN := tN1 (i := 81) rfl rfl
theorem tw_82 : (Cond.fieldLinkNest "TownBand$Library" (58 : Nat) "TownBand$Piece" "name" "I" "TownBand") ∈ tblN := tN1 (i := 82) rfl rfl
theorem tw_83 : (Cond.fieldLinkNest "TownBand$Planner" (37 : Nat) "TownBand$Piece" "minutes" "I" "TownBand") ∈ tblN := tN1 (i := 83) rfl rfl
theorem tw_84 : (Cond.fieldLinkNest "TownBand$Library" (68 : Nat) "TownBand$Piece" "minutes" "I" "TownBand") ∈ tblN := tN1 (i := 84) rfl rfl
theorem tw_85 : (Cond.fieldLink "TownBand$Piece" (38 : Nat) "TownBand$Piece" "minutes" "I") ∈ tblG := tG1 (i := 85) rfl rfl
theorem tw_86 : (Cond.fieldLinkNest "TownBand$Planner" (41 : Nat) "TownBand$Piece" "lips" "I" "TownBand") ∈ tblN := tN1 (i := 86) rfl rfl
theorem tw_87 : (Cond.fieldLinkNest "TownBand$Library" (71 : Nat) "TownBand$Piece" "lips" "I" "TownBand") ∈ tblN := tN1 (i := 87) rfl rfl
theorem tw_88 : (Cond.fieldLink "TownBand$Piece" (41 : Nat) "TownBand$Piece" "lips" "I") ∈ tblG := tG1 (i := 88) rfl rfl
theorem tw_89 : (Cond.fieldLinkNest "TownBand$Planner" (43 : Nat) "TownBand$Piece" "key" "I" "TownBand") ∈ tblN := tN1 (i := 89) rfl rfl
theorem tw_90 : (Cond.fieldLinkNest "TownBand$Library" (74 : Nat) "TownBand$Piece" "key" "I" "TownBand") ∈ tblN := tN1 (i := 90) rfl rfl
theorem tw_91 : (Cond.fieldLink "TownBand$Piece" (44 : Nat) "TownBand$Piece" "key" "I") ∈ tblG := tG1 (i := 91) rfl rfl
theorem tw_92 : (Cond.fieldLink "TownBand$Piece" (21 : Nat) "TownBand$Piece" "parts" "I") ∈ tblG := tG1 (i := 92) rfl rfl
theorem tw_93 : (Cond.fieldLinkNest "TownBand$Seater" (33 : Nat) "TownBand$Piece" "parts" "I" "TownBand") ∈ tblN := tN1 (i := 93) rfl rfl
theorem tw_94 : (Cond.fieldLinkNest "TownBand$Cover" (31 : Nat) "TownBand$Piece" "parts" "I" "TownBand") ∈ tblN := tN1 (i := 94) rfl rfl
theorem tw_95 : (Cond.fieldLinkNest "TownBand$Library" (105 : Nat) "TownBand$Piece" "parts" "I" "TownBand") ∈ tblN := tN1 (i := 95) rfl rfl
theorem tw_96 : (Cond.fieldLinkNest "TownBand$Players" (57 : Nat) "TownBand$Piece" "parts" "I" "TownBand") ∈ tblN := tN1 (i := 96) rfl rfl
theorem tw_97 : (Cond.fieldLink "TownBand$Piece" (25 : Nat) "TownBand$Piece" "mustSet" "I") ∈ tblG := tG1 (i := 97) rfl rfl
theorem tw_98 : (Cond.fieldLinkNest "TownBand$Cover" (60 : Nat) "TownBand$Piece" "mustSet" "I" "TownBand") ∈ tblN := tN1 (i := 98) rfl rfl
theorem tw_118 : (Cond.fieldLink "TownBand$Library" (11 : Nat) "TownBand$Library" "slots" "[LTownBand$Piece;") ∈ tblG := tG1 (i := 118) rfl rfl
theorem tw_119 : (Cond.fieldLink "TownBand$Library" (18 : Nat) "TownBand$Library" "size" "I") ∈ tblG := tG1 (i := 119) rfl rfl
theorem tw_120 : (Cond.fieldLinkNest "TownBand" (110 : Nat) "TownBand$Library" "size" "I" "TownBand") ∈ tblN := tN1 (i := 120) rfl rfl
theorem tw_121 : (Cond.fieldLink "TownBand$Library" (22 : Nat) "TownBand$Library" "told" "I") ∈ tblG := tG1 (i := 121) rfl rfl
theorem tw_129 : (Cond.classLink "TownBand" (23 : Nat) "TownBand$Tape") ∈ tblG := tG1 (i := 129) rfl rfl
theorem tw_130 : (Cond.instantiable "TownBand$Tape" (10 : Nat)) ∈ tblG := tG1 (i := 130) rfl rfl
theorem tw_131 : (Cond.methodLinkNest "TownBand" (25 : Nat) ({ cls := "TownBand$Tape", name := "<init>", desc := "()V" } : MethodName) "TownBand") ∈ tblN := tN1 (i := 131) rfl rfl
theorem tw_132 : (Cond.instanceMethod ({ cls := "TownBand$Tape", name := "<init>", desc := "()V" } : MethodName)) ∈ tblG := tG1 (i := 132) rfl rfl
theorem tw_133 : (Cond.code ({ cls := "TownBand$Tape", name := "<init>", desc := "()V" } : MethodName) prog_10_method_1_code (1 : Nat) (Option.none : Option FieldType)) ∈ tblG := tG1 (i := 133) rfl rfl
theorem tw_134 : (Cond.methodLink "TownBand$Tape" (3 : Nat) ({ cls := "java/lang/Object", name := "<init>", desc := "()V" } : MethodName)) ∈ tblG := tG1 (i := 134) rfl rfl
theorem tw_135 : (Cond.fieldLink "TownBand$Tape" (9 : Nat) "TownBand$Tape" "bytes" "[I") ∈ tblG := tG1 (i := 135) rfl rfl
theorem tw_136 : (Cond.fieldLink "TownBand$Tape" (22 : Nat) "TownBand$Tape" "length" "I") ∈ tblG := tG1 (i := 136) rfl rfl
theorem tw_137 : (Cond.fieldLinkNest "TownBand" (102 : Nat) "TownBand$Tape" "length" "I" "TownBand") ∈ tblN := tN1 (i := 137) rfl rfl
theorem tw_138 : (Cond.fieldLink "TownBand$Tape" (25 : Nat) "TownBand$Tape" "longestNumber" "I") ∈ tblG := tG1 (i := 138) rfl rfl
theorem tw_139 : (Cond.fieldLink "TownBand$Tape" (28 : Nat) "TownBand$Tape" "next" "I") ∈ tblG := tG1 (i := 139) rfl rfl
theorem tw_140 : (Cond.fieldLink "TownBand$Tape" (15 : Nat) "TownBand$Tape" "kind" "I") ∈ tblG := tG1 (i := 140) rfl rfl
theorem tw_141 : (Cond.fieldLinkNest "TownBand$Rule" (35 : Nat) "TownBand$Tape" "kind" "I" "TownBand") ∈ tblN := tN1 (i := 141) rfl rfl
theorem tw_142 : (Cond.fieldLinkNest "TownBand$Library" (77 : Nat) "TownBand$Tape" "kind" "I" "TownBand") ∈ tblN := tN1 (i := 142) rfl rfl
theorem tw_143 : (Cond.fieldLink "TownBand$Tape" (44 : Nat) "TownBand$Tape" "place" "I") ∈ tblG := tG1 (i := 143) rfl rfl
theorem tw_144 : (Cond.fieldLinkNest "TownBand$Library" (84 : Nat) "TownBand$Tape" "value" "I" "TownBand") ∈ tblN := tN1 (i := 144) rfl rfl
theorem tw_145 : (Cond.fieldLink "TownBand$Tape" (47 : Nat) "TownBand$Tape" "value" "I") ∈ tblG := tG1 (i := 145) rfl rfl
theorem tw_146 : (Cond.fieldLinkNest "TownBand$Rule" (69 : Nat) "TownBand$Tape" "value" "I" "TownBand") ∈ tblN := tN1 (i := 146) rfl rfl
theorem tw_147 : (Cond.fieldLink "TownBand$Tape" (31 : Nat) "TownBand$Tape" "tokens" "I") ∈ tblG := tG1 (i := 147) rfl rfl
theorem tw_148 : (Cond.fieldLinkNest "TownBand" (129 : Nat) "TownBand$Tape" "tokens" "I" "TownBand") ∈ tblN := tN1 (i := 148) rfl rfl
theorem tw_149 : (Cond.fieldLink "TownBand$Tape" (34 : Nat) "TownBand$Tape" "faultKind" "I") ∈ tblG := tG1 (i := 149) rfl rfl
theorem tw_150 : (Cond.fieldLinkNest "TownBand" (132 : Nat) "TownBand$Tape" "faultKind" "I" "TownBand") ∈ tblN := tN1 (i := 150) rfl rfl
theorem tw_151 : (Cond.fieldLink "TownBand$Tape" (19 : Nat) "TownBand$Tape" "faultPlace" "I") ∈ tblG := tG1 (i := 151) rfl rfl
theorem tw_152 : (Cond.fieldLinkNest "TownBand" (135 : Nat) "TownBand$Tape" "faultPlace" "I" "TownBand") ∈ tblN := tN1 (i := 152) rfl rfl
theorem tw_174 : (Cond.classLink "TownBand" (30 : Nat) "TownBand$Rule") ∈ tblG := tG1 (i := 174) rfl rfl
theorem tw_175 : (Cond.instantiable "TownBand$Rule" (7 : Nat)) ∈ tblG := tG1 (i := 175) rfl rfl
theorem tw_176 : (Cond.methodLinkNest "TownBand" (32 : Nat) ({ cls := "TownBand$Rule", name := "<init>", desc := "()V" } : MethodName) "TownBand") ∈ tblN := tN1 (i := 176) rfl rfl
theorem tw_177 : (Cond.instanceMethod ({ cls := "TownBand$Rule", name := "<init>", desc := "()V" } : MethodName)) ∈ tblG := tG1 (i := 177) rfl rfl
theorem tw_178 : (Cond.code ({ cls := "TownBand$Rule", name := "<init>", desc := "()V" } : MethodName) prog_8_method_1_code (1 : Nat) (Option.none : Option FieldType)) ∈ tblG := tG1 (i := 178) rfl rfl
theorem tw_179 : (Cond.methodLink "TownBand$Rule" (3 : Nat) ({ cls := "java/lang/Object", name := "<init>", desc := "()V" } : MethodName)) ∈ tblG := tG1 (i := 179) rfl rfl
theorem tw_180 : (Cond.fieldLink "TownBand$Rule" (11 : Nat) "TownBand$Rule" "facts" "[I") ∈ tblG := tG1 (i := 180) rfl rfl
theorem tw_181 : (Cond.fieldLink "TownBand$Rule" (15 : Nat) "TownBand$Rule" "stack" "[I") ∈ tblG := tG1 (i := 181) rfl rfl
theorem tw_182 : (Cond.fieldLink "TownBand$Rule" (18 : Nat) "TownBand$Rule" "steps" "[I") ∈ tblG := tG1 (i := 182) rfl rfl
theorem tw_183 : (Cond.fieldLink "TownBand$Rule" (21 : Nat) "TownBand$Rule" "draft" "[I") ∈ tblG := tG1 (i := 183) rfl rfl
theorem tw_184 : (Cond.fieldLink "TownBand$Rule" (28 : Nat) "TownBand$Rule" "size" "I") ∈ tblG := tG1 (i := 184) rfl rfl
theorem tw_185 : (Cond.fieldLink "TownBand$Rule" (24 : Nat) "TownBand$Rule" "drafted" "I") ∈ tblG := tG1 (i := 185) rfl rfl
theorem tw_186 : (Cond.fieldLink "TownBand$Rule" (86 : Nat) "TownBand$Rule" "top" "I") ∈ tblG := tG1 (i := 186) rfl rfl
theorem tw_202 : (Cond.classLink "TownBand" (37 : Nat) "TownBand$Loans") ∈ tblG := tG1 (i := 202) rfl rfl
theorem tw_203 : (Cond.instantiable "TownBand$Loans" (6 : Nat)) ∈ tblG := tG1 (i := 203) rfl rfl
theorem tw_204 : (Cond.methodLinkNest "TownBand" (39 : Nat) ({ cls := "TownBand$Loans", name := "<init>", desc := "()V" } : MethodName) "TownBand") ∈ tblN := tN1 (i := 204) rfl rfl
theorem tw_205 : (Cond.instanceMethod ({ cls := "TownBand$Loans", name := "<init>", desc := "()V" } : MethodName)) ∈ tblG := tG1 (i := 205) rfl rfl
theorem tw_206 : (Cond.code ({ cls := "TownBand$Loans", name := "<init>", desc := "()V" } : MethodName) prog_4_method_1_code (1 : Nat) (Option.none : Option FieldType)) ∈ tblG := tG1 (i := 206) rfl rfl
theorem tw_207 : (Cond.methodLink "TownBand$Loans" (3 : Nat) ({ cls := "java/lang/Object", name := "<init>", desc := "()V" } : MethodName)) ∈ tblG := tG1 (i := 207) rfl rfl
theorem tw_208 : (Cond.fieldLink "TownBand$Loans" (9 : Nat) "TownBand$Loans" "copyOf" "[I") ∈ tblG := tG1 (i := 208) rfl rfl
theorem tw_209 : (Cond.fieldLink "TownBand$Loans" (15 : Nat) "TownBand$Loans" "dayOf" "[I") ∈ tblG := tG1 (i := 209) rfl rfl
theorem tw_210 : (Cond.fieldLink "TownBand$Loans" (18 : Nat) "TownBand$Loans" "thereOf" "[I") ∈ tblG := tG1 (i := 210) rfl rfl
theorem tw_211 : (Cond.fieldLink "TownBand$Loans" (21 : Nat) "TownBand$Loans" "latestDay" "[I") ∈ tblG := tG1 (i := 211) rfl rfl
theorem tw_212 : (Cond.fieldLink "TownBand$Loans" (24 : Nat) "TownBand$Loans" "latestPlace" "[I") ∈ tblG := tG1 (i := 212) rfl rfl
theorem tw_213 : (Cond.fieldLink "TownBand$Loans" (27 : Nat) "TownBand$Loans" "size" "I") ∈ tblG := tG1 (i := 213) rfl rfl
theorem tw_214 : (Cond.fieldLinkNest "TownBand" (218 : Nat) "TownBand$Loans" "size" "I" "TownBand") ∈ tblN := tN1 (i := 214) rfl rfl
theorem tw_228 : (Cond.classLink "TownBand" (44 : Nat) "TownBand$Cover") ∈ tblG := tG1 (i := 228) rfl rfl
theorem tw_229 : (Cond.instantiable "TownBand$Cover" (4 : Nat)) ∈ tblG := tG1 (i := 229) rfl rfl
theorem tw_230 : (Cond.methodLinkNest "TownBand" (46 : Nat) ({ cls := "TownBand$Cover", name := "<init>", desc := "()V" } : MethodName) "TownBand") ∈ tblN := tN1 (i := 230) rfl rfl
theorem tw_231 : (Cond.instanceMethod ({ cls := "TownBand$Cover", name := "<init>", desc := "()V" } : MethodName)) ∈ tblG := tG1 (i := 231) rfl rfl
theorem tw_232 : (Cond.code ({ cls := "TownBand$Cover", name := "<init>", desc := "()V" } : MethodName) prog_2_method_1_code (1 : Nat) (Option.none : Option FieldType)) ∈ tblG := tG1 (i := 232) rfl rfl
theorem tw_233 : (Cond.methodLink "TownBand$Cover" (3 : Nat) ({ cls := "java/lang/Object", name := "<init>", desc := "()V" } : MethodName)) ∈ tblG := tG1 (i := 233) rfl rfl
theorem tw_234 : (Cond.fieldLink "TownBand$Cover" (9 : Nat) "TownBand$Cover" "able" "[I") ∈ tblG := tG1 (i := 234) rfl rfl
theorem tw_235 : (Cond.fieldLink "TownBand$Cover" (15 : Nat) "TownBand$Cover" "partOf" "[I") ∈ tblG := tG1 (i := 235) rfl rfl
theorem tw_236 : (Cond.fieldLink "TownBand$Cover" (18 : Nat) "TownBand$Cover" "ableForSet" "[I") ∈ tblG := tG1 (i := 236) rfl rfl
theorem tw_237 : (Cond.fieldLink "TownBand$Cover" (37 : Nat) "TownBand$Cover" "asked" "I") ∈ tblG := tG1 (i := 237) rfl rfl
theorem tw_247 : (Cond.classLink "TownBand" (51 : Nat) "TownBand$Seater") ∈ tblG := tG2 (i := 7) rfl rfl
theorem tw_248 : (Cond.instantiable "TownBand$Seater" (7 : Nat)) ∈ tblG := tG2 (i := 8) rfl rfl
theorem tw_249 : (Cond.methodLinkNest "TownBand" (53 : Nat) ({ cls := "TownBand$Seater", name := "<init>", desc := "()V" } : MethodName) "TownBand") ∈ tblN := tN2 (i := 9) rfl rfl
theorem tw_250 : (Cond.instanceMethod ({ cls := "TownBand$Seater", name := "<init>", desc := "()V" } : MethodName)) ∈ tblG := tG2 (i := 10) rfl rfl
theorem tw_251 : (Cond.code ({ cls := "TownBand$Seater", name := "<init>", desc := "()V" } : MethodName) prog_9_method_1_code (1 : Nat) (Option.none : Option FieldType)) ∈ tblG := tG2 (i := 11) rfl rfl
theorem tw_252 : (Cond.methodLink "TownBand$Seater" (7 : Nat) ({ cls := "java/lang/Object", name := "<init>", desc := "()V" } : MethodName)) ∈ tblG := tG2 (i := 12) rfl rfl
theorem tw_253 : (Cond.fieldLink "TownBand$Seater" (13 : Nat) "TownBand$Seater" "weights" "[J") ∈ tblG := tG2 (i := 13) rfl rfl
theorem tw_254 : (Cond.fieldLink "TownBand$Seater" (17 : Nat) "TownBand$Seater" "rowPrice" "[J") ∈ tblG := tG2 (i := 14) rfl rfl
theorem tw_255 : (Cond.fieldLink "TownBand$Seater" (20 : Nat) "TownBand$Seater" "columnPrice" "[J") ∈ tblG := tG2 (i := 15) rfl rfl
theorem tw_256 : (Cond.fieldLink "TownBand$Seater" (23 : Nat) "TownBand$Seater" "slack" "[J") ∈ tblG := tG2 (i := 16) rfl rfl
theorem tw_257 : (Cond.fieldLink "TownBand$Seater" (26 : Nat) "TownBand$Seater" "rowOf" "[I") ∈ tblG := tG2 (i := 17) rfl rfl
theorem tw_258 : (Cond.fieldLink "TownBand$Seater" (30 : Nat) "TownBand$Seater" "cameFrom" "[I") ∈ tblG := tG2 (i := 18) rfl rfl
theorem tw_259 : (Cond.fieldLink "TownBand$Seater" (85 : Nat) "TownBand$Seater" "columns" "I") ∈ tblG := tG2 (i := 19) rfl rfl
theorem tw_275 : (Cond.arrayClass FieldType.long) ∈ tblG := tG2 (i := 35) rfl rfl
theorem tw_276 : (Cond.classLink "TownBand" (58 : Nat) "TownBand$Planner") ∈ tblG := tG2 (i := 36) rfl rfl
theorem tw_277 : (Cond.instantiable "TownBand$Planner" (9 : Nat)) ∈ tblG := tG2 (i := 37) rfl rfl
theorem tw_278 : (Cond.methodLinkNest "TownBand" (60 : Nat) ({ cls := "TownBand$Planner", name := "<init>", desc := "()V" } : MethodName) "TownBand") ∈ tblN := tN2 (i := 38) rfl rfl
theorem tw_279 : (Cond.instanceMethod ({ cls := "TownBand$Planner", name := "<init>", desc := "()V" } : MethodName)) ∈ tblG := tG2 (i := 39) rfl rfl
theorem tw_280 : (Cond.code ({ cls := "TownBand$Planner", name := "<init>", desc := "()V" } : MethodName) prog_6_method_1_code (1 : Nat) (Option.none : Option FieldType)) ∈ tblG := tG2 (i := 40) rfl rfl
theorem tw_281 : (Cond.methodLink "TownBand$Planner" (5 : Nat) ({ cls := "java/lang/Object", name := "<init>", desc := "()V" } : MethodName)) ∈ tblG := tG2 (i := 41) rfl rfl
theorem tw_282 : (Cond.fieldLink "TownBand$Planner" (11 : Nat) "TownBand$Planner" "row" "[I") ∈ tblG := tG2 (i := 42) rfl rfl
theorem tw_283 : (Cond.fieldLinkNest "TownBand" (202 : Nat) "TownBand$Planner" "row" "[I" "TownBand") ∈ tblN := tN2 (i := 43) rfl rfl
theorem tw_284 : (Cond.fieldLink "TownBand$Planner" (88 : Nat) "TownBand$Planner" "planned" "I") ∈ tblG := tG2 (i := 44) rfl rfl
theorem tw_285 : (Cond.fieldLinkNest "TownBand" (199 : Nat) "TownBand$Planner" "planned" "I" "TownBand") ∈ tblN := tN2 (i := 45) rfl rfl
theorem tw_286 : (Cond.fieldLink "TownBand$Planner" (91 : Nat) "TownBand$Planner" "rowStrain" "I") ∈ tblG := tG2 (i := 46) rfl rfl
theorem tw_287 : (Cond.fieldLinkNest "TownBand" (205 : Nat) "TownBand$Planner" "rowStrain" "I" "TownBand") ∈ tblN := tN2 (i := 47) rfl rfl
theorem tw_288 : (Cond.fieldLink "TownBand$Planner" (17 : Nat) "TownBand$Planner" "number" "[I") ∈ tblG := tG2 (i := 48) rfl rfl
theorem tw_289 : (Cond.fieldLink "TownBand$Planner" (20 : Nat) "TownBand$Planner" "minutes" "[I") ∈ tblG := tG2 (i := 49) rfl rfl
theorem tw_290 : (Cond.fieldLink "TownBand$Planner" (23 : Nat) "TownBand$Planner" "lips" "[I") ∈ tblG := tG2 (i := 50) rfl rfl
theorem tw_291 : (Cond.fieldLink "TownBand$Planner" (26 : Nat) "TownBand$Planner" "key" "[I") ∈ tblG := tG2 (i := 51) rfl rfl
theorem tw_292 : (Cond.fieldLink "TownBand$Planner" (33 : Nat) "TownBand$Planner" "choices" "I") ∈ tblG := tG2 (i := 52) rfl rfl
theorem tw_293 : (Cond.fieldLink "TownBand$Planner" (29 : Nat) "TownBand$Planner" "best" "[J") ∈ tblG := tG2 (i := 53) rfl rfl
theorem tw_313 : (Cond.fieldLink "TownBand" (12 : Nat) "TownBand" "players" "LTownBand$Players;") ∈ tblG := tG2 (i := 73) rfl rfl
theorem tw_314 : (Cond.fieldLink "TownBand" (19 : Nat) "TownBand" "library" "LTownBand$Library;") ∈ tblG := tG2 (i := 74) rfl rfl
theorem tw_315 : (Cond.fieldLink "TownBand" (26 : Nat) "TownBand" "tape" "LTownBand$Tape;") ∈ tblG := tG2 (i := 75) rfl rfl
theorem tw_316 : (Cond.fieldLink "TownBand" (33 : Nat) "TownBand" "contestRule" "LTownBand$Rule;") ∈ tblG := tG2 (i := 76) rfl rfl
theorem tw_317 : (Cond.fieldLink "TownBand" (40 : Nat) "TownBand" "loans" "LTownBand$Loans;") ∈ tblG := tG2 (i := 77) rfl rfl
theorem tw_318 : (Cond.fieldLink "TownBand" (47 : Nat) "TownBand" "cover" "LTownBand$Cover;") ∈ tblG := tG2 (i := 78) rfl rfl
theorem tw_319 : (Cond.fieldLink "TownBand" (54 : Nat) "TownBand" "seater" "LTownBand$Seater;") ∈ tblG := tG2 (i := 79) rfl rfl
theorem tw_320 : (Cond.fieldLink "TownBand" (61 : Nat) "TownBand" "planner" "LTownBand$Planner;") ∈ tblG := tG2 (i := 80) rfl rfl
theorem tw_338 : (Cond.methodLink "TownBandLaw" (13 : Nat) ({ cls := "TownBand", name := "player", desc := "(II)I" } : MethodName)) ∈ tblG := tG2 (i := 98) rfl rfl
theorem tw_339 : (Cond.instanceMethod ({ cls := "TownBand", name := "player", desc := "(II)I" } : MethodName)) ∈ tblG := tG2 (i := 99) rfl rfl
theorem tw_340 : (Cond.selects "TownBand" ({ cls := "TownBand", name := "player", desc := "(II)I" } : MethodName) ({ cls := "TownBand", name := "player", desc := "(II)I" } : MethodName)) ∈ tblG := tG2 (i := 100) rfl rfl
theorem tw_341 : (Cond.code ({ cls := "TownBand", name := "player", desc := "(II)I" } : MethodName) prog_1_method_2_code (3 : Nat) (Option.some FieldType.int)) ∈ tblG := tG2 (i := 101) rfl rfl
theorem tw_342 : (Cond.methodLink "TownBand" (65 : Nat) ({ cls := "TownBand", name := "isWithin", desc := "(III)Z" } : MethodName)) ∈ tblG := tG2 (i := 102) rfl rfl
theorem tw_343 : (Cond.static ({ cls := "TownBand", name := "isWithin", desc := "(III)Z" } : MethodName)) ∈ tblG := tG2 (i := 103) rfl rfl
theorem tw_344 : (Cond.code ({ cls := "TownBand", name := "isWithin", desc := "(III)Z" } : MethodName) prog_1_method_30_code (3 : Nat) (Option.some FieldType.boolean)) ∈ tblG := tG2 (i := 104) rfl rfl
theorem tw_345 : (Cond.methodLink "TownBand" (69 : Nat) ({ cls := "TownBand", name := "isDay", desc := "(I)Z" } : MethodName)) ∈ tblG := tG2 (i := 105) rfl rfl
theorem tw_346 : (Cond.static ({ cls := "TownBand", name := "isDay", desc := "(I)Z" } : MethodName)) ∈ tblG := tG2 (i := 106) rfl rfl
theorem tw_347 : (Cond.code ({ cls := "TownBand", name := "isDay", desc := "(I)Z" } : MethodName) prog_1_method_31_code (1 : Nat) (Option.some FieldType.boolean)) ∈ tblG := tG2 (i := 107) rfl rfl
theorem tw_348 : (Cond.methodLinkNest "TownBand" (73 : Nat) ({ cls := "TownBand$Players", name := "join", desc := "(II)I" } : MethodName) "TownBand") ∈ tblN := tN2 (i := 108) rfl rfl
theorem tw_350 : (Cond.instanceMethod ({ cls := "TownBand$Players", name := "join", desc := "(II)I" } : MethodName)) ∈ tblG := tG2 (i := 110) rfl rfl
theorem tw_351 : (Cond.code ({ cls := "TownBand$Players", name := "join", desc := "(II)I" } : MethodName) prog_7_method_3_code (3 : Nat) (Option.some FieldType.int)) ∈ tblG := tG2 (i := 111) rfl rfl
theorem tw_352 : (Cond.methodLink "TownBandLaw" (18 : Nat) ({ cls := "TownBand", name := "plays", desc := "(III)Z" } : MethodName)) ∈ tblG := tG2 (i := 112) rfl rfl
theorem tw_353 : (Cond.instanceMethod ({ cls := "TownBand", name := "plays", desc := "(III)Z" } : MethodName)) ∈ tblG := tG2 (i := 113) rfl rfl
theorem tw_354 : (Cond.selects "TownBand" ({ cls := "TownBand", name := "plays", desc := "(III)Z" } : MethodName) ({ cls := "TownBand", name := "plays", desc := "(III)Z" } : MethodName)) ∈ tblG := tG2 (i := 114) rfl rfl
theorem tw_355 : (Cond.code ({ cls := "TownBand", name := "plays", desc := "(III)Z" } : MethodName) prog_1_method_3_code (4 : Nat) (Option.some FieldType.boolean)) ∈ tblG := tG2 (i := 115) rfl rfl
theorem tw_356 : (Cond.methodLinkNest "TownBand" (77 : Nat) ({ cls := "TownBand$Players", name := "has", desc := "(I)Z" } : MethodName) "TownBand") ∈ tblN := tN2 (i := 116) rfl rfl
theorem tw_358 : (Cond.instanceMethod ({ cls := "TownBand$Players", name := "has", desc := "(I)Z" } : MethodName)) ∈ tblG := tG2 (i := 118) rfl rfl
theorem tw_359 : (Cond.code ({ cls := "TownBand$Players", name := "has", desc := "(I)Z" } : MethodName) prog_7_method_2_code (2 : Nat) (Option.some FieldType.boolean)) ∈ tblG := tG2 (i := 119) rfl rfl
theorem tw_360 : (Cond.methodLink "TownBand" (80 : Nat) ({ cls := "TownBand", name := "isInstrument", desc := "(I)Z" } : MethodName)) ∈ tblG := tG2 (i := 120) rfl rfl
theorem tw_361 : (Cond.static ({ cls := "TownBand", name := "isInstrument", desc := "(I)Z" } : MethodName)) ∈ tblG := tG2 (i := 121) rfl rfl
theorem tw_362 : (Cond.code ({ cls := "TownBand", name := "isInstrument", desc := "(I)Z" } : MethodName) prog_1_method_32_code (1 : Nat) (Option.some FieldType.boolean)) ∈ tblG := tG2 (i := 122) rfl rfl
theorem tw_363 : (Cond.methodLinkNest "TownBand" (83 : Nat) ({ cls := "TownBand$Players", name := "learn", desc := "(III)V" } : MethodName) "TownBand") ∈ tblN := tN2 (i := 123) rfl rfl
theorem tw_365 : (Cond.instanceMethod ({ cls := "TownBand$Players", name := "learn", desc := "(III)V" } : MethodName)) ∈ tblG := tG2 (i := 125) rfl rfl
theorem tw_366 : (Cond.code ({ cls := "TownBand$Players", name := "learn", desc := "(III)V" } : MethodName) prog_7_method_4_code (4 : Nat) (Option.none : Option FieldType)) ∈ tblG := tG2 (i := 126) rfl rfl
theorem tw_367 : (Cond.methodLink "TownBandLaw" (23 : Nat) ({ cls := "TownBand", name := "cost", desc := "(II)I" } : MethodName)) ∈ tblG := tG2 (i := 127) rfl rfl
theorem tw_368 : (Cond.instanceMethod ({ cls := "TownBand", name := "cost", desc := "(II)I" } : MethodName)) ∈ tblG := tG2 (i := 128) rfl rfl
theorem tw_369 : (Cond.selects "TownBand" ({ cls := "TownBand", name := "cost", desc := "(II)I" } : MethodName) ({ cls := "TownBand", name := "cost", desc := "(II)I" } : MethodName)) ∈ tblG := tG2 (i := 129) rfl rfl
theorem tw_370 : (Cond.code ({ cls := "TownBand", name := "cost", desc := "(II)I" } : MethodName) prog_1_method_4_code (3 : Nat) (Option.some FieldType.int)) ∈ tblG := tG2 (i := 130) rfl rfl
theorem tw_371 : (Cond.methodLinkNest "TownBand" (87 : Nat) ({ cls := "TownBand$Players", name := "costOf", desc := "(II)I" } : MethodName) "TownBand") ∈ tblN := tN2 (i := 131) rfl rfl
theorem tw_373 : (Cond.instanceMethod ({ cls := "TownBand$Players", name := "costOf", desc := "(II)I" } : MethodName)) ∈ tblG := tG2 (i := 133) rfl rfl
theorem tw_374 : (Cond.code ({ cls := "TownBand$Players", name := "costOf", desc := "(II)I" } : MethodName) prog_7_method_5_code (3 : Nat) (Option.some FieldType.int)) ∈ tblG := tG2 (i := 134) rfl rfl
theorem tw_375 : (Cond.methodLink "TownBandLaw" (27 : Nat) ({ cls := "TownBand", name := "here", desc := "(IZ)Z" } : MethodName)) ∈ tblG := tG2 (i := 135) rfl rfl
theorem tw_376 : (Cond.instanceMethod ({ cls := "TownBand", name := "here", desc := "(IZ)Z" } : MethodName)) ∈ tblG := tG2 (i := 136) rfl rfl
theorem tw_377 : (Cond.selects "TownBand" ({ cls := "TownBand", name := "here", desc := "(IZ)Z" } : MethodName) ({ cls := "TownBand", name := "here", desc := "(IZ)Z" } : MethodName)) ∈ tblG := tG2 (i := 137) rfl rfl
theorem tw_378 : (Cond.code ({ cls := "TownBand", name := "here", desc := "(IZ)Z" } : MethodName) prog_1_method_5_code (3 : Nat) (Option.some FieldType.boolean)) ∈ tblG := tG2 (i := 138) rfl rfl
theorem tw_379 : (Cond.methodLinkNest "TownBand" (90 : Nat) ({ cls := "TownBand$Players", name := "mark", desc := "(IZ)V" } : MethodName) "TownBand") ∈ tblN := tN2 (i := 139) rfl rfl
theorem tw_381 : (Cond.instanceMethod ({ cls := "TownBand$Players", name := "mark", desc := "(IZ)V" } : MethodName)) ∈ tblG := tG2 (i := 141) rfl rfl
theorem tw_382 : (Cond.code ({ cls := "TownBand$Players", name := "mark", desc := "(IZ)V" } : MethodName) prog_7_method_6_code (4 : Nat) (Option.none : Option FieldType)) ∈ tblG := tG2 (i := 142) rfl rfl
theorem tw_383 : (Cond.methodLink "TownBandLaw" (32 : Nat) ({ cls := "TownBand", name := "feed", desc := "(IIIII)I" } : MethodName)) ∈ tblG := tG2 (i := 143) rfl rfl
theorem tw_384 : (Cond.instanceMethod ({ cls := "TownBand", name := "feed", desc := "(IIIII)I" } : MethodName)) ∈ tblG := tG2 (i := 144) rfl rfl
theorem tw_385 : (Cond.selects "TownBand" ({ cls := "TownBand", name := "feed", desc := "(IIIII)I" } : MethodName) ({ cls := "TownBand", name := "feed", desc := "(IIIII)I" } : MethodName)) ∈ tblG := tG2 (i := 145) rfl rfl
theorem tw_386 : (Cond.code ({ cls := "TownBand", name := "feed", desc := "(IIIII)I" } : MethodName) prog_1_method_6_code (6 : Nat) (Option.some FieldType.int)) ∈ tblG := tG2 (i := 146) rfl rfl
theorem tw_387 : (Cond.methodLinkNest "TownBand" (94 : Nat) ({ cls := "TownBand$Tape", name := "hasRoom", desc := "()Z" } : MethodName) "TownBand") ∈ tblN := tN2 (i := 147) rfl rfl
theorem tw_389 : (Cond.instanceMethod ({ cls := "TownBand$Tape", name := "hasRoom", desc := "()Z" } : MethodName)) ∈ tblG := tG2 (i := 149) rfl rfl
theorem tw_390 : (Cond.code ({ cls := "TownBand$Tape", name := "hasRoom", desc := "()Z" } : MethodName) prog_10_method_2_code (1 : Nat) (Option.some FieldType.boolean)) ∈ tblG := tG2 (i := 150) rfl rfl
theorem tw_391 : (Cond.methodLinkNest "TownBand" (98 : Nat) ({ cls := "TownBand$Tape", name := "append", desc := "(I)V" } : MethodName) "TownBand") ∈ tblN := tN2 (i := 151) rfl rfl
theorem tw_393 : (Cond.instanceMethod ({ cls := "TownBand$Tape", name := "append", desc := "(I)V" } : MethodName)) ∈ tblG := tG2 (i := 153) rfl rfl
theorem tw_394 : (Cond.code ({ cls := "TownBand$Tape", name := "append", desc := "(I)V" } : MethodName) prog_10_method_3_code (3 : Nat) (Option.none : Option FieldType)) ∈ tblG := tG2 (i := 154) rfl rfl
theorem tw_395 : (Cond.methodLink "TownBandLaw" (37 : Nat) ({ cls := "TownBand", name := "end", desc := "(I)I" } : MethodName)) ∈ tblG := tG2 (i := 155) rfl rfl
theorem tw_396 : (Cond.instanceMethod ({ cls := "TownBand", name := "end", desc := "(I)I" } : MethodName)) ∈ tblG := tG2 (i := 156) rfl rfl
theorem tw_397 : (Cond.selects "TownBand" ({ cls := "TownBand", name := "end", desc := "(I)I" } : MethodName) ({ cls := "TownBand", name := "end", desc := "(I)I" } : MethodName)) ∈ tblG := tG2 (i := 157) rfl rfl
theorem tw_398 : (Cond.code ({ cls := "TownBand", name := "end", desc := "(I)I" } : MethodName) prog_1_method_7_code (2 : Nat) (Option.some FieldType.int)) ∈ tblG := tG2 (i := 158) rfl rfl
theorem tw_399 : (Cond.methodLink "TownBandLaw" (42 : Nat) ({ cls := "TownBand", name := "load", desc := "()I" } : MethodName)) ∈ tblG := tG2 (i := 159) rfl rfl
theorem tw_400 : (Cond.instanceMethod ({ cls := "TownBand", name := "load", desc := "()I" } : MethodName)) ∈ tblG := tG2 (i := 160) rfl rfl
theorem tw_401 : (Cond.selects "TownBand" ({ cls := "TownBand", name := "load", desc := "()I" } : MethodName) ({ cls := "TownBand", name := "load", desc := "()I" } : MethodName)) ∈ tblG := tG2 (i := 161) rfl rfl
theorem tw_402 : (Cond.code ({ cls := "TownBand", name := "load", desc := "()I" } : MethodName) prog_1_method_8_code (1 : Nat) (Option.some FieldType.int)) ∈ tblG := tG2 (i := 162) rfl rfl
theorem tw_403 : (Cond.methodLinkNest "TownBand" (106 : Nat) ({ cls := "TownBand$Library", name := "readText", desc := "(LTownBand$Tape;)Z" } : MethodName) "TownBand") ∈ tblN := tN2 (i := 163) rfl rfl
theorem tw_405 : (Cond.instanceMethod ({ cls := "TownBand$Library", name := "readText", desc := "(LTownBand$Tape;)Z" } : MethodName)) ∈ tblG := tG2 (i := 165) rfl rfl
theorem tw_406 : (Cond.code ({ cls := "TownBand$Library", name := "readText", desc := "(LTownBand$Tape;)Z" } : MethodName) prog_3_method_3_code (3 : Nat) (Option.some FieldType.boolean)) ∈ tblG := tG2 (i := 166) rfl rfl
theorem tw_407 : (Cond.methodLinkNest "TownBand$Library" (25 : Nat) ({ cls := "TownBand$Tape", name := "begin", desc := "(I)V" } : MethodName) "TownBand") ∈ tblN := tN2 (i := 167) rfl rfl
theorem tw_409 : (Cond.instanceMethod ({ cls := "TownBand$Tape", name := "begin", desc := "(I)V" } : MethodName)) ∈ tblG := tG2 (i := 169) rfl rfl
theorem tw_410 : (Cond.code ({ cls := "TownBand$Tape", name := "begin", desc := "(I)V" } : MethodName) prog_10_method_4_code (2 : Nat) (Option.none : Option FieldType)) ∈ tblG := tG2 (i := 170) rfl rfl
theorem tw_411 : (Cond.methodLink "TownBand$Tape" (37 : Nat) ({ cls := "TownBand$Tape", name := "advance", desc := "()V" } : MethodName)) ∈ tblG := tG2 (i := 171) rfl rfl
theorem tw_413 : (Cond.instanceMethod ({ cls := "TownBand$Tape", name := "advance", desc := "()V" } : MethodName)) ∈ tblG := tG2 (i := 173) rfl rfl
theorem tw_414 : (Cond.code ({ cls := "TownBand$Tape", name := "advance", desc := "()V" } : MethodName) prog_10_method_7_code (1 : Nat) (Option.none : Option FieldType)) ∈ tblG := tG2 (i := 174) rfl rfl
theorem tw_416 : (Cond.methodLinkNest "TownBand$Library" (33 : Nat) ({ cls := "TownBand$Tape", name := "reads", desc := "(Ljava/lang/String;)Z" } : MethodName) "TownBand") ∈ tblN := tN2 (i := 176) rfl rfl
theorem tw_418 : (Cond.instanceMethod ({ cls := "TownBand$Tape", name := "reads", desc := "(Ljava/lang/String;)Z" } : MethodName)) ∈ tblG := tG2 (i := 178) rfl rfl
theorem tw_419 : (Cond.code ({ cls := "TownBand$Tape", name := "reads", desc := "(Ljava/lang/String;)Z" } : MethodName) prog_10_method_9_code (3 : Nat) (Option.some FieldType.boolean)) ∈ tblG := tG2 (i := 179) rfl rfl
theorem tw_420 : (Cond.methodLink "TownBand$Tape" (50 : Nat) ({ cls := "java/lang/String", name := "length", desc := "()I" } : MethodName)) ∈ tblG := tG2 (i := 180) rfl rfl
theorem tw_421 : (Cond.instanceMethod ({ cls := "java/lang/String", name := "length", desc := "()I" } : MethodName)) ∈ tblG := tG2 (i := 181) rfl rfl
theorem tw_422 : (Cond.selects "java/lang/String" ({ cls := "java/lang/String", name := "length", desc := "()I" } : MethodName) ({ cls := "java/lang/String", name := "length", desc := "()I" } : MethodName)) ∈ tblG := tG2 (i := 182) rfl rfl
theorem tw_423 : (Cond.code ({ cls := "java/lang/String", name := "length", desc := "()I" } : MethodName) prog_15_method_54_code (1 : Nat) (Option.some FieldType.int)) ∈ tblG := tG2 (i := 183) rfl rfl
theorem tw_424 : (Cond.methodLink "java/lang/String" (335 : Nat) ({ cls := "java/lang/String", name := "coder", desc := "()B" } : MethodName)) ∈ tblG := tG2 (i := 184) rfl rfl
theorem tw_425 : (Cond.instanceMethod ({ cls := "java/lang/String", name := "coder", desc := "()B" } : MethodName)) ∈ tblG := tG2 (i := 185) rfl rfl
theorem tw_426 : (Cond.selects "java/lang/String" ({ cls := "java/lang/String", name := "coder", desc := "()B" } : MethodName) ({ cls := "java/lang/String", name := "coder", desc := "()B" } : MethodName)) ∈ tblG := tG2 (i := 186) rfl rfl
theorem tw_427 : (Cond.code ({ cls := "java/lang/String", name := "coder", desc := "()B" } : MethodName) prog_15_method_152_code (1 : Nat) (Option.some FieldType.byte)) ∈ tblG := tG2 (i := 187) rfl rfl
theorem tw_428 : (Cond.fieldLink "java/lang/String" (38 : Nat) "java/lang/String" "COMPACT_STRINGS" "Z") ∈ tblG := tG2 (i := 188) rfl rfl
theorem tw_430 : (Cond.methodLink "TownBand$Tape" (55 : Nat) ({ cls := "java/lang/String", name := "charAt", desc := "(I)C" } : MethodName)) ∈ tblG := tG2 (i := 190) rfl rfl
theorem tw_431 : (Cond.instanceMethod ({ cls := "java/lang/String", name := "charAt", desc := "(I)C" } : MethodName)) ∈ tblG := tG2 (i := 191) rfl rfl
theorem tw_432 : (Cond.selects "java/lang/String" ({ cls := "java/lang/String", name := "charAt", desc := "(I)C" } : MethodName) ({ cls := "java/lang/String", name := "charAt", desc := "(I)C" } : MethodName)) ∈ tblG := tG2 (i := 192) rfl rfl
theorem tw_433 : (Cond.code ({ cls := "java/lang/String", name := "charAt", desc := "(I)C" } : MethodName) prog_15_method_56_code (2 : Nat) (Option.some FieldType.char)) ∈ tblG := tG2 (i := 193) rfl rfl
theorem tw_434 : (Cond.methodLink "java/lang/String" (492 : Nat) ({ cls := "java/lang/String", name := "isLatin1", desc := "()Z" } : MethodName)) ∈ tblG := tG2 (i := 194) rfl rfl
theorem tw_435 : (Cond.instanceMethod ({ cls := "java/lang/String", name := "isLatin1", desc := "()Z" } : MethodName)) ∈ tblG := tG2 (i := 195) rfl rfl
theorem tw_436 : (Cond.selects "java/lang/String" ({ cls := "java/lang/String", name := "isLatin1", desc := "()Z" } : MethodName) ({ cls := "java/lang/String", name := "isLatin1", desc := "()Z" } : MethodName)) ∈ tblG := tG2 (i := 196) rfl rfl
theorem tw_437 : (Cond.code ({ cls := "java/lang/String", name := "isLatin1", desc := "()Z" } : MethodName) prog_15_method_154_code (1 : Nat) (Option.some FieldType.boolean)) ∈ tblG := tG2 (i := 197) rfl rfl
theorem tw_438 : (Cond.methodLink "java/lang/String" (495 : Nat) ({ cls := "java/lang/StringLatin1", name := "charAt", desc := "([BI)C" } : MethodName)) ∈ tblG := tG2 (i := 198) rfl rfl
theorem tw_439 : (Cond.static ({ cls := "java/lang/StringLatin1", name := "charAt", desc := "([BI)C" } : MethodName)) ∈ tblG := tG2 (i := 199) rfl rfl
theorem tw_440 : (Cond.code ({ cls := "java/lang/StringLatin1", name := "charAt", desc := "([BI)C" } : MethodName) prog_16_method_2_code (2 : Nat) (Option.some FieldType.char)) ∈ tblG := tG2 (i := 200) rfl rfl
theorem tw_441 : (Cond.methodLink "java/lang/StringLatin1" (9 : Nat) ({ cls := "java/lang/String", name := "checkIndex", desc := "(II)V" } : MethodName)) ∈ tblG := tG2 (i := 201) rfl rfl
theorem tw_442 : (Cond.static ({ cls := "java/lang/String", name := "checkIndex", desc := "(II)V" } : MethodName)) ∈ tblG := tG2 (i := 202) rfl rfl
theorem tw_443 : (Cond.code ({ cls := "java/lang/String", name := "checkIndex", desc := "(II)V" } : MethodName) prog_15_method_155_code (2 : Nat) (Option.none : Option FieldType)) ∈ tblG := tG2 (i := 203) rfl rfl
theorem tw_444 : (Cond.fieldLink "java/lang/String" (1053 : Nat) "jdk/internal/util/Preconditions" "SIOOBE_FORMATTER" "Ljava/util/function/BiFunction;") ∈ tblG := tG2 (i := 204) rfl rfl
theorem tw_446 : (Cond.methodLink "java/lang/String" (1059 : Nat) ({ cls := "jdk/internal/util/Preconditions", name := "checkIndex", desc := "(IILjava/util/function/BiFunction;)I" } : MethodName)) ∈ tblG := tG2 (i := 206) rfl rfl
theorem tw_447 : (Cond.static ({ cls := "jdk/internal/util/Preconditions", name := "checkIndex", desc := "(IILjava/util/function/BiFunction;)I" } : MethodName)) ∈ tblG := tG2 (i := 207) rfl rfl
theorem tw_448 : (Cond.code ({ cls := "jdk/internal/util/Preconditions", name := "checkIndex", desc := "(IILjava/util/function/BiFunction;)I" } : MethodName) prog_19_method_11_code (3 : Nat) (Option.some FieldType.int)) ∈ tblG := tG2 (i := 208) rfl rfl
theorem tw_449 : (Cond.methodLink "java/lang/String" (498 : Nat) ({ cls := "java/lang/StringUTF16", name := "charAt", desc := "([BI)C" } : MethodName)) ∈ tblG := tG2 (i := 209) rfl rfl
theorem tw_450 : (Cond.static ({ cls := "java/lang/StringUTF16", name := "charAt", desc := "([BI)C" } : MethodName)) ∈ tblG := tG2 (i := 210) rfl rfl
theorem tw_451 : (Cond.code ({ cls := "java/lang/StringUTF16", name := "charAt", desc := "([BI)C" } : MethodName) prog_17_method_83_code (2 : Nat) (Option.some FieldType.char)) ∈ tblG := tG2 (i := 211) rfl rfl
theorem tw_452 : (Cond.methodLink "java/lang/StringUTF16" (67 : Nat) ({ cls := "java/lang/StringUTF16", name := "checkIndex", desc := "(I[B)V" } : MethodName)) ∈ tblG := tG2 (i := 212) rfl rfl
theorem tw_453 : (Cond.static ({ cls := "java/lang/StringUTF16", name := "checkIndex", desc := "(I[B)V" } : MethodName)) ∈ tblG := tG2 (i := 213) rfl rfl
theorem tw_454 : (Cond.code ({ cls := "java/lang/StringUTF16", name := "checkIndex", desc := "(I[B)V" } : MethodName) prog_17_method_91_code (2 : Nat) (Option.none : Option FieldType)) ∈ tblG := tG2 (i := 214) rfl rfl
theorem tw_455 : (Cond.methodLink "java/lang/StringUTF16" (48 : Nat) ({ cls := "java/lang/StringUTF16", name := "length", desc := "([B)I" } : MethodName)) ∈ tblG := tG2 (i := 215) rfl rfl
theorem tw_456 : (Cond.static ({ cls := "java/lang/StringUTF16", name := "length", desc := "([B)I" } : MethodName)) ∈ tblG := tG2 (i := 216) rfl rfl
theorem tw_457 : (Cond.code ({ cls := "java/lang/StringUTF16", name := "length", desc := "([B)I" } : MethodName) prog_17_method_6_code (1 : Nat) (Option.some FieldType.int)) ∈ tblG := tG2 (i := 217) rfl rfl
theorem tw_458 : (Cond.methodLink "java/lang/StringUTF16" (414 : Nat) ({ cls := "java/lang/String", name := "checkIndex", desc := "(II)V" } : MethodName)) ∈ tblG := tG2 (i := 218) rfl rfl
theorem tw_459 : (Cond.methodLink "java/lang/StringUTF16" (71 : Nat) ({ cls := "java/lang/StringUTF16", name := "getChar", desc := "([BI)C" } : MethodName)) ∈ tblG := tG2 (i := 219) rfl rfl
theorem tw_460 : (Cond.static ({ cls := "java/lang/StringUTF16", name := "getChar", desc := "([BI)C" } : MethodName)) ∈ tblG := tG2 (i := 220) rfl rfl
theorem tw_461 : (Cond.code ({ cls := "java/lang/StringUTF16", name := "getChar", desc := "([BI)C" } : MethodName) prog_17_method_5_code (2 : Nat) (Option.some FieldType.char)) ∈ tblG := tG2 (i := 221) rfl rfl
theorem tw_462 : (Cond.fieldLink "java/lang/StringUTF16" (44 : Nat) "java/lang/StringUTF16" "$assertionsDisabled" "Z") ∈ tblG := tG2 (i := 222) rfl rfl
theorem tw_464 : (Cond.fieldLink "java/lang/StringUTF16" (59 : Nat) "java/lang/StringUTF16" "HI_BYTE_SHIFT" "I") ∈ tblG := tG2 (i := 224) rfl rfl
theorem tw_466 : (Cond.fieldLink "java/lang/StringUTF16" (63 : Nat) "java/lang/StringUTF16" "LO_BYTE_SHIFT" "I") ∈ tblG := tG2 (i := 226) rfl rfl
theorem tw_468 : (Cond.methodLink "TownBand$Library" (37 : Nat) ({ cls := "TownBand$Library", name := "readPiece", desc := "(LTownBand$Tape;)V" } : MethodName)) ∈ tblG := tG2 (i := 228) rfl rfl
theorem tw_470 : (Cond.instanceMethod ({ cls := "TownBand$Library", name := "readPiece", desc := "(LTownBand$Tape;)V" } : MethodName)) ∈ tblG := tG2 (i := 230) rfl rfl
theorem tw_471 : (Cond.code ({ cls := "TownBand$Library", name := "readPiece", desc := "(LTownBand$Tape;)V" } : MethodName) prog_3_method_4_code (4 : Nat) (Option.none : Option FieldType)) ∈ tblG := tG2 (i := 231) rfl rfl
theorem tw_472 : (Cond.methodLinkNest "TownBand$Library" (45 : Nat) ({ cls := "TownBand$Tape", name := "fail", desc := "(I)V" } : MethodName) "TownBand") ∈ tblN := tN2 (i := 232) rfl rfl
theorem tw_474 : (Cond.instanceMethod ({ cls := "TownBand$Tape", name := "fail", desc := "(I)V" } : MethodName)) ∈ tblG := tG2 (i := 234) rfl rfl
theorem tw_475 : (Cond.code ({ cls := "TownBand$Tape", name := "fail", desc := "(I)V" } : MethodName) prog_10_method_6_code (2 : Nat) (Option.none : Option FieldType)) ∈ tblG := tG2 (i := 235) rfl rfl
theorem tw_476 : (Cond.methodLinkNest "TownBand$Library" (48 : Nat) ({ cls := "TownBand$Piece", name := "clear", desc := "()V" } : MethodName) "TownBand") ∈ tblN := tN2 (i := 236) rfl rfl
theorem tw_478 : (Cond.instanceMethod ({ cls := "TownBand$Piece", name := "clear", desc := "()V" } : MethodName)) ∈ tblG := tG2 (i := 238) rfl rfl
theorem tw_479 : (Cond.code ({ cls := "TownBand$Piece", name := "clear", desc := "()V" } : MethodName) prog_5_method_2_code (1 : Nat) (Option.none : Option FieldType)) ∈ tblG := tG2 (i := 239) rfl rfl
theorem tw_480 : (Cond.methodLink "TownBand$Piece" (28 : Nat) ({ cls := "java/util/Arrays", name := "fill", desc := "([II)V" } : MethodName)) ∈ tblG := tG3 (i := 0) rfl rfl
theorem tw_481 : (Cond.methodLinkNest "TownBand$Library" (51 : Nat) ({ cls := "TownBand$Tape", name := "advance", desc := "()V" } : MethodName) "TownBand") ∈ tblN := tN3 (i := 1) rfl rfl
theorem tw_482 : (Cond.methodLink "TownBand$Library" (54 : Nat) ({ cls := "TownBand$Library", name := "readName", desc := "(LTownBand$Tape;)I" } : MethodName)) ∈ tblG := tG3 (i := 2) rfl rfl
theorem tw_484 : (Cond.instanceMethod ({ cls := "TownBand$Library", name := "readName", desc := "(LTownBand$Tape;)I" } : MethodName)) ∈ tblG := tG3 (i := 4) rfl rfl
theorem tw_485 : (Cond.code ({ cls := "TownBand$Library", name := "readName", desc := "(LTownBand$Tape;)I" } : MethodName) prog_3_method_5_code (3 : Nat) (Option.some FieldType.int)) ∈ tblG := tG3 (i := 5) rfl rfl
theorem tw_486 : (Cond.methodLink "TownBand$Library" (87 : Nat) ({ cls := "TownBand$Library", name := "isWord", desc := "(LTownBand$Tape;)Z" } : MethodName)) ∈ tblG := tG3 (i := 6) rfl rfl
theorem tw_487 : (Cond.static ({ cls := "TownBand$Library", name := "isWord", desc := "(LTownBand$Tape;)Z" } : MethodName)) ∈ tblG := tG3 (i := 7) rfl rfl
theorem tw_488 : (Cond.code ({ cls := "TownBand$Library", name := "isWord", desc := "(LTownBand$Tape;)Z" } : MethodName) prog_3_method_6_code (1 : Nat) (Option.some FieldType.boolean)) ∈ tblG := tG3 (i := 8) rfl rfl
theorem tw_492 : (Cond.methodLink "TownBand$Library" (91 : Nat) ({ cls := "TownBand$Library", name := "hasName", desc := "(I)Z" } : MethodName)) ∈ tblG := tG3 (i := 12) rfl rfl
theorem tw_494 : (Cond.instanceMethod ({ cls := "TownBand$Library", name := "hasName", desc := "(I)Z" } : MethodName)) ∈ tblG := tG3 (i := 14) rfl rfl
theorem tw_495 : (Cond.code ({ cls := "TownBand$Library", name := "hasName", desc := "(I)Z" } : MethodName) prog_3_method_7_code (3 : Nat) (Option.some FieldType.boolean)) ∈ tblG := tG3 (i := 15) rfl rfl
theorem tw_496 : (Cond.methodLinkNest "TownBand$Library" (61 : Nat) ({ cls := "TownBand$Tape", name := "take", desc := "(I)V" } : MethodName) "TownBand") ∈ tblN := tN3 (i := 16) rfl rfl
theorem tw_498 : (Cond.instanceMethod ({ cls := "TownBand$Tape", name := "take", desc := "(I)V" } : MethodName)) ∈ tblG := tG3 (i := 18) rfl rfl
theorem tw_499 : (Cond.code ({ cls := "TownBand$Tape", name := "take", desc := "(I)V" } : MethodName) prog_10_method_8_code (2 : Nat) (Option.none : Option FieldType)) ∈ tblG := tG3 (i := 19) rfl rfl
theorem tw_500 : (Cond.methodLink "TownBand$Tape" (40 : Nat) ({ cls := "TownBand$Tape", name := "fail", desc := "(I)V" } : MethodName)) ∈ tblG := tG3 (i := 20) rfl rfl
theorem tw_501 : (Cond.methodLink "TownBand$Library" (64 : Nat) ({ cls := "TownBand$Library", name := "readNumber", desc := "(LTownBand$Tape;II)I" } : MethodName)) ∈ tblG := tG3 (i := 21) rfl rfl
theorem tw_502 : (Cond.static ({ cls := "TownBand$Library", name := "readNumber", desc := "(LTownBand$Tape;II)I" } : MethodName)) ∈ tblG := tG3 (i := 22) rfl rfl
theorem tw_503 : (Cond.code ({ cls := "TownBand$Library", name := "readNumber", desc := "(LTownBand$Tape;II)I" } : MethodName) prog_3_method_8_code (4 : Nat) (Option.some FieldType.int)) ∈ tblG := tG3 (i := 23) rfl rfl
theorem tw_504 : (Cond.methodLinkNest "TownBand$Library" (101 : Nat) ({ cls := "TownBand", name := "isWithin", desc := "(III)Z" } : MethodName) "TownBand") ∈ tblN := tN3 (i := 24) rfl rfl
theorem tw_505 : (Cond.methodLink "TownBand$Library" (80 : Nat) ({ cls := "TownBand$Library", name := "readPart", desc := "(LTownBand$Tape;LTownBand$Piece;)V" } : MethodName)) ∈ tblG := tG3 (i := 25) rfl rfl
theorem tw_506 : (Cond.static ({ cls := "TownBand$Library", name := "readPart", desc := "(LTownBand$Tape;LTownBand$Piece;)V" } : MethodName)) ∈ tblG := tG3 (i := 26) rfl rfl
theorem tw_507 : (Cond.code ({ cls := "TownBand$Library", name := "readPart", desc := "(LTownBand$Tape;LTownBand$Piece;)V" } : MethodName) prog_3_method_9_code (4 : Nat) (Option.none : Option FieldType)) ∈ tblG := tG3 (i := 27) rfl rfl
theorem tw_508 : (Cond.methodLinkNest "TownBand$Library" (108 : Nat) ({ cls := "TownBand$Piece", name := "addPart", desc := "(Z)V" } : MethodName) "TownBand") ∈ tblN := tN3 (i := 28) rfl rfl
theorem tw_510 : (Cond.instanceMethod ({ cls := "TownBand$Piece", name := "addPart", desc := "(Z)V" } : MethodName)) ∈ tblG := tG3 (i := 30) rfl rfl
theorem tw_511 : (Cond.code ({ cls := "TownBand$Piece", name := "addPart", desc := "(Z)V" } : MethodName) prog_5_method_5_code (2 : Nat) (Option.none : Option FieldType)) ∈ tblG := tG3 (i := 31) rfl rfl
theorem tw_512 : (Cond.methodLink "TownBand$Library" (112 : Nat) ({ cls := "TownBand$Library", name := "readInstrument", desc := "(LTownBand$Tape;LTownBand$Piece;I)V" } : MethodName)) ∈ tblG := tG3 (i := 32) rfl rfl
theorem tw_513 : (Cond.static ({ cls := "TownBand$Library", name := "readInstrument", desc := "(LTownBand$Tape;LTownBand$Piece;I)V" } : MethodName)) ∈ tblG := tG3 (i := 33) rfl rfl
theorem tw_514 : (Cond.code ({ cls := "TownBand$Library", name := "readInstrument", desc := "(LTownBand$Tape;LTownBand$Piece;I)V" } : MethodName) prog_3_method_10_code (3 : Nat) (Option.none : Option FieldType)) ∈ tblG := tG3 (i := 34) rfl rfl
theorem tw_515 : (Cond.methodLinkNest "TownBand$Library" (116 : Nat) ({ cls := "TownBand$Piece", name := "hasInstrument", desc := "(II)Z" } : MethodName) "TownBand") ∈ tblN := tN3 (i := 35) rfl rfl
theorem tw_517 : (Cond.instanceMethod ({ cls := "TownBand$Piece", name := "hasInstrument", desc := "(II)Z" } : MethodName)) ∈ tblG := tG3 (i := 37) rfl rfl
theorem tw_518 : (Cond.code ({ cls := "TownBand$Piece", name := "hasInstrument", desc := "(II)Z" } : MethodName) prog_5_method_7_code (4 : Nat) (Option.some FieldType.boolean)) ∈ tblG := tG3 (i := 38) rfl rfl
theorem tw_519 : (Cond.methodLink "TownBand$Piece" (34 : Nat) ({ cls := "TownBand$Piece", name := "instrument", desc := "(II)I" } : MethodName)) ∈ tblG := tG3 (i := 39) rfl rfl
theorem tw_521 : (Cond.instanceMethod ({ cls := "TownBand$Piece", name := "instrument", desc := "(II)I" } : MethodName)) ∈ tblG := tG3 (i := 41) rfl rfl
theorem tw_522 : (Cond.code ({ cls := "TownBand$Piece", name := "instrument", desc := "(II)I" } : MethodName) prog_5_method_6_code (3 : Nat) (Option.some FieldType.int)) ∈ tblG := tG3 (i := 42) rfl rfl
theorem tw_523 : (Cond.methodLinkNest "TownBand$Library" (120 : Nat) ({ cls := "TownBand$Piece", name := "addInstrument", desc := "(II)V" } : MethodName) "TownBand") ∈ tblN := tN3 (i := 43) rfl rfl
theorem tw_525 : (Cond.instanceMethod ({ cls := "TownBand$Piece", name := "addInstrument", desc := "(II)V" } : MethodName)) ∈ tblG := tG3 (i := 45) rfl rfl
theorem tw_526 : (Cond.code ({ cls := "TownBand$Piece", name := "addInstrument", desc := "(II)V" } : MethodName) prog_5_method_8_code (3 : Nat) (Option.none : Option FieldType)) ∈ tblG := tG3 (i := 46) rfl rfl
theorem tw_527 : (Cond.methodLinkNest "TownBand$Library" (41 : Nat) ({ cls := "TownBand$Tape", name := "finish", desc := "()Z" } : MethodName) "TownBand") ∈ tblN := tN3 (i := 47) rfl rfl
theorem tw_529 : (Cond.instanceMethod ({ cls := "TownBand$Tape", name := "finish", desc := "()Z" } : MethodName)) ∈ tblG := tG3 (i := 49) rfl rfl
theorem tw_530 : (Cond.code ({ cls := "TownBand$Tape", name := "finish", desc := "()Z" } : MethodName) prog_10_method_5_code (1 : Nat) (Option.some FieldType.boolean)) ∈ tblG := tG3 (i := 50) rfl rfl
theorem tw_531 : (Cond.arrayClass FieldType.byte) ∈ tblG := tG3 (i := 51) rfl rfl
theorem tw_532 : (Cond.methodLink "TownBandLaw" (47 : Nat) ({ cls := "TownBand", name := "rule", desc := "()I" } : MethodName)) ∈ tblG := tG3 (i := 52) rfl rfl
theorem tw_533 : (Cond.instanceMethod ({ cls := "TownBand", name := "rule", desc := "()I" } : MethodName)) ∈ tblG := tG3 (i := 53) rfl rfl
theorem tw_534 : (Cond.selects "TownBand" ({ cls := "TownBand", name := "rule", desc := "()I" } : MethodName) ({ cls := "TownBand", name := "rule", desc := "()I" } : MethodName)) ∈ tblG := tG3 (i := 54) rfl rfl
theorem tw_535 : (Cond.code ({ cls := "TownBand", name := "rule", desc := "()I" } : MethodName) prog_1_method_9_code (1 : Nat) (Option.some FieldType.int)) ∈ tblG := tG3 (i := 55) rfl rfl
theorem tw_536 : (Cond.methodLinkNest "TownBand" (113 : Nat) ({ cls := "TownBand$Rule", name := "beginDraft", desc := "()V" } : MethodName) "TownBand") ∈ tblN := tN3 (i := 56) rfl rfl
theorem tw_538 : (Cond.instanceMethod ({ cls := "TownBand$Rule", name := "beginDraft", desc := "()V" } : MethodName)) ∈ tblG := tG3 (i := 58) rfl rfl
theorem tw_539 : (Cond.code ({ cls := "TownBand$Rule", name := "beginDraft", desc := "()V" } : MethodName) prog_8_method_2_code (1 : Nat) (Option.none : Option FieldType)) ∈ tblG := tG3 (i := 59) rfl rfl
theorem tw_540 : (Cond.methodLinkNest "TownBand" (116 : Nat) ({ cls := "TownBand$Tape", name := "begin", desc := "(I)V" } : MethodName) "TownBand") ∈ tblN := tN3 (i := 60) rfl rfl
theorem tw_541 : (Cond.methodLinkNest "TownBand" (119 : Nat) ({ cls := "TownBand$Rule", name := "readEither", desc := "(LTownBand$Tape;I)V" } : MethodName) "TownBand") ∈ tblN := tN3 (i := 61) rfl rfl
theorem tw_543 : (Cond.instanceMethod ({ cls := "TownBand$Rule", name := "readEither", desc := "(LTownBand$Tape;I)V" } : MethodName)) ∈ tblG := tG3 (i := 63) rfl rfl
theorem tw_544 : (Cond.code ({ cls := "TownBand$Rule", name := "readEither", desc := "(LTownBand$Tape;I)V" } : MethodName) prog_8_method_4_code (4 : Nat) (Option.none : Option FieldType)) ∈ tblG := tG3 (i := 64) rfl rfl
theorem tw_545 : (Cond.methodLink "TownBand$Rule" (31 : Nat) ({ cls := "TownBand$Rule", name := "readBoth", desc := "(LTownBand$Tape;I)V" } : MethodName)) ∈ tblG := tG3 (i := 65) rfl rfl
theorem tw_547 : (Cond.instanceMethod ({ cls := "TownBand$Rule", name := "readBoth", desc := "(LTownBand$Tape;I)V" } : MethodName)) ∈ tblG := tG3 (i := 67) rfl rfl
theorem tw_548 : (Cond.code ({ cls := "TownBand$Rule", name := "readBoth", desc := "(LTownBand$Tape;I)V" } : MethodName) prog_8_method_5_code (4 : Nat) (Option.none : Option FieldType)) ∈ tblG := tG3 (i := 68) rfl rfl
theorem tw_549 : (Cond.methodLink "TownBand$Rule" (47 : Nat) ({ cls := "TownBand$Rule", name := "readOne", desc := "(LTownBand$Tape;I)V" } : MethodName)) ∈ tblG := tG3 (i := 69) rfl rfl
theorem tw_551 : (Cond.instanceMethod ({ cls := "TownBand$Rule", name := "readOne", desc := "(LTownBand$Tape;I)V" } : MethodName)) ∈ tblG := tG3 (i := 71) rfl rfl
theorem tw_552 : (Cond.code ({ cls := "TownBand$Rule", name := "readOne", desc := "(LTownBand$Tape;I)V" } : MethodName) prog_8_method_6_code (4 : Nat) (Option.none : Option FieldType)) ∈ tblG := tG3 (i := 72) rfl rfl
theorem tw_553 : (Cond.methodLink "TownBand$Rule" (50 : Nat) ({ cls := "TownBand$Rule", name := "readComparison", desc := "(LTownBand$Tape;)V" } : MethodName)) ∈ tblG := tG3 (i := 73) rfl rfl
theorem tw_555 : (Cond.instanceMethod ({ cls := "TownBand$Rule", name := "readComparison", desc := "(LTownBand$Tape;)V" } : MethodName)) ∈ tblG := tG3 (i := 75) rfl rfl
theorem tw_556 : (Cond.code ({ cls := "TownBand$Rule", name := "readComparison", desc := "(LTownBand$Tape;)V" } : MethodName) prog_8_method_7_code (3 : Nat) (Option.none : Option FieldType)) ∈ tblG := tG3 (i := 76) rfl rfl
theorem tw_557 : (Cond.methodLink "TownBand$Rule" (63 : Nat) ({ cls := "TownBand$Rule", name := "readSum", desc := "(LTownBand$Tape;)V" } : MethodName)) ∈ tblG := tG3 (i := 77) rfl rfl
theorem tw_559 : (Cond.instanceMethod ({ cls := "TownBand$Rule", name := "readSum", desc := "(LTownBand$Tape;)V" } : MethodName)) ∈ tblG := tG3 (i := 79) rfl rfl
theorem tw_560 : (Cond.code ({ cls := "TownBand$Rule", name := "readSum", desc := "(LTownBand$Tape;)V" } : MethodName) prog_8_method_8_code (4 : Nat) (Option.none : Option FieldType)) ∈ tblG := tG3 (i := 80) rfl rfl
theorem tw_561 : (Cond.methodLink "TownBand$Rule" (66 : Nat) ({ cls := "TownBand$Rule", name := "readValue", desc := "(LTownBand$Tape;)V" } : MethodName)) ∈ tblG := tG3 (i := 81) rfl rfl
theorem tw_563 : (Cond.instanceMethod ({ cls := "TownBand$Rule", name := "readValue", desc := "(LTownBand$Tape;)V" } : MethodName)) ∈ tblG := tG3 (i := 83) rfl rfl
theorem tw_564 : (Cond.code ({ cls := "TownBand$Rule", name := "readValue", desc := "(LTownBand$Tape;)V" } : MethodName) prog_8_method_9_code (2 : Nat) (Option.none : Option FieldType)) ∈ tblG := tG3 (i := 84) rfl rfl
theorem tw_565 : (Cond.methodLink "TownBand$Rule" (43 : Nat) ({ cls := "TownBand$Rule", name := "write", desc := "(I)V" } : MethodName)) ∈ tblG := tG3 (i := 85) rfl rfl
theorem tw_567 : (Cond.instanceMethod ({ cls := "TownBand$Rule", name := "write", desc := "(I)V" } : MethodName)) ∈ tblG := tG3 (i := 87) rfl rfl
theorem tw_568 : (Cond.code ({ cls := "TownBand$Rule", name := "write", desc := "(I)V" } : MethodName) prog_8_method_10_code (2 : Nat) (Option.none : Option FieldType)) ∈ tblG := tG3 (i := 88) rfl rfl
theorem tw_570 : (Cond.methodLinkNest "TownBand$Rule" (74 : Nat) ({ cls := "TownBand$Tape", name := "reads", desc := "(Ljava/lang/String;)Z" } : MethodName) "TownBand") ∈ tblN := tN3 (i := 90) rfl rfl
theorem tw_575 : (Cond.methodLinkNest "TownBand$Rule" (54 : Nat) ({ cls := "TownBand$Tape", name := "fail", desc := "(I)V" } : MethodName) "TownBand") ∈ tblN := tN3 (i := 95) rfl rfl
theorem tw_576 : (Cond.methodLinkNest "TownBand$Rule" (40 : Nat) ({ cls := "TownBand$Tape", name := "advance", desc := "()V" } : MethodName) "TownBand") ∈ tblN := tN3 (i := 96) rfl rfl
theorem tw_577 : (Cond.methodLink "TownBand$Rule" (57 : Nat) ({ cls := "TownBand$Rule", name := "readEither", desc := "(LTownBand$Tape;I)V" } : MethodName)) ∈ tblG := tG3 (i := 97) rfl rfl
theorem tw_578 : (Cond.methodLinkNest "TownBand$Rule" (60 : Nat) ({ cls := "TownBand$Tape", name := "take", desc := "(I)V" } : MethodName) "TownBand") ∈ tblN := tN3 (i := 98) rfl rfl
theorem tw_579 : (Cond.methodLinkNest "TownBand" (123 : Nat) ({ cls := "TownBand$Tape", name := "finish", desc := "()Z" } : MethodName) "TownBand") ∈ tblN := tN3 (i := 99) rfl rfl
theorem tw_580 : (Cond.methodLinkNest "TownBand" (126 : Nat) ({ cls := "TownBand$Rule", name := "adoptDraft", desc := "()V" } : MethodName) "TownBand") ∈ tblN := tN3 (i := 100) rfl rfl
theorem tw_582 : (Cond.instanceMethod ({ cls := "TownBand$Rule", name := "adoptDraft", desc := "()V" } : MethodName)) ∈ tblG := tG3 (i := 102) rfl rfl
theorem tw_583 : (Cond.code ({ cls := "TownBand$Rule", name := "adoptDraft", desc := "()V" } : MethodName) prog_8_method_3_code (2 : Nat) (Option.none : Option FieldType)) ∈ tblG := tG3 (i := 103) rfl rfl
theorem tw_584 : (Cond.methodLink "TownBandLaw" (51 : Nat) ({ cls := "TownBand", name := "fault", desc := "(I)I" } : MethodName)) ∈ tblG := tG3 (i := 104) rfl rfl
theorem tw_585 : (Cond.instanceMethod ({ cls := "TownBand", name := "fault", desc := "(I)I" } : MethodName)) ∈ tblG := tG3 (i := 105) rfl rfl
theorem tw_586 : (Cond.selects "TownBand" ({ cls := "TownBand", name := "fault", desc := "(I)I" } : MethodName) ({ cls := "TownBand", name := "fault", desc := "(I)I" } : MethodName)) ∈ tblG := tG3 (i := 106) rfl rfl
theorem tw_587 : (Cond.code ({ cls := "TownBand", name := "fault", desc := "(I)I" } : MethodName) prog_1_method_10_code (2 : Nat) (Option.some FieldType.int)) ∈ tblG := tG3 (i := 107) rfl rfl
theorem tw_588 : (Cond.methodLink "TownBandLaw" (55 : Nat) ({ cls := "TownBand", name := "piece", desc := "(II)I" } : MethodName)) ∈ tblG := tG3 (i := 108) rfl rfl
theorem tw_589 : (Cond.instanceMethod ({ cls := "TownBand", name := "piece", desc := "(II)I" } : MethodName)) ∈ tblG := tG3 (i := 109) rfl rfl
theorem tw_590 : (Cond.selects "TownBand" ({ cls := "TownBand", name := "piece", desc := "(II)I" } : MethodName) ({ cls := "TownBand", name := "piece", desc := "(II)I" } : MethodName)) ∈ tblG := tG3 (i := 110) rfl rfl
theorem tw_591 : (Cond.code ({ cls := "TownBand", name := "piece", desc := "(II)I" } : MethodName) prog_1_method_11_code (4 : Nat) (Option.some FieldType.int)) ∈ tblG := tG3 (i := 111) rfl rfl
theorem tw_592 : (Cond.methodLinkNest "TownBand" (138 : Nat) ({ cls := "TownBand$Library", name := "find", desc := "(I)LTownBand$Piece;" } : MethodName) "TownBand") ∈ tblN := tN3 (i := 112) rfl rfl
theorem tw_594 : (Cond.instanceMethod ({ cls := "TownBand$Library", name := "find", desc := "(I)LTownBand$Piece;" } : MethodName)) ∈ tblG := tG3 (i := 114) rfl rfl
theorem tw_595 : (Cond.code ({ cls := "TownBand$Library", name := "find", desc := "(I)LTownBand$Piece;" } : MethodName) prog_3_method_2_code (2 : Nat) (Option.some (FieldType.object "TownBand$Piece"))) ∈ tblG := tG3 (i := 115) rfl rfl
theorem tw_596 : (Cond.methodLinkNest "TownBand" (142 : Nat) ({ cls := "TownBand$Piece", name := "detail", desc := "(I)I" } : MethodName) "TownBand") ∈ tblN := tN3 (i := 116) rfl rfl
theorem tw_598 : (Cond.instanceMethod ({ cls := "TownBand$Piece", name := "detail", desc := "(I)I" } : MethodName)) ∈ tblG := tG3 (i := 118) rfl rfl
theorem tw_599 : (Cond.code ({ cls := "TownBand$Piece", name := "detail", desc := "(I)I" } : MethodName) prog_5_method_9_code (2 : Nat) (Option.some FieldType.int)) ∈ tblG := tG3 (i := 119) rfl rfl
theorem tw_600 : (Cond.methodLink "TownBand$Piece" (47 : Nat) ({ cls := "TownBand$Piece", name := "partDetail", desc := "(I)I" } : MethodName)) ∈ tblG := tG3 (i := 120) rfl rfl
theorem tw_602 : (Cond.instanceMethod ({ cls := "TownBand$Piece", name := "partDetail", desc := "(I)I" } : MethodName)) ∈ tblG := tG3 (i := 122) rfl rfl
theorem tw_603 : (Cond.code ({ cls := "TownBand$Piece", name := "partDetail", desc := "(I)I" } : MethodName) prog_5_method_10_code (4 : Nat) (Option.some FieldType.int)) ∈ tblG := tG3 (i := 123) rfl rfl
theorem tw_604 : (Cond.methodLink "TownBand$Piece" (51 : Nat) ({ cls := "TownBand$Piece", name := "hasPart", desc := "(I)Z" } : MethodName)) ∈ tblG := tG3 (i := 124) rfl rfl
theorem tw_606 : (Cond.instanceMethod ({ cls := "TownBand$Piece", name := "hasPart", desc := "(I)Z" } : MethodName)) ∈ tblG := tG3 (i := 126) rfl rfl
theorem tw_607 : (Cond.code ({ cls := "TownBand$Piece", name := "hasPart", desc := "(I)Z" } : MethodName) prog_5_method_3_code (2 : Nat) (Option.some FieldType.boolean)) ∈ tblG := tG3 (i := 127) rfl rfl
theorem tw_608 : (Cond.methodLink "TownBandLaw" (59 : Nat) ({ cls := "TownBand", name := "playable", desc := "(I)I" } : MethodName)) ∈ tblG := tG3 (i := 128) rfl rfl
theorem tw_609 : (Cond.instanceMethod ({ cls := "TownBand", name := "playable", desc := "(I)I" } : MethodName)) ∈ tblG := tG3 (i := 129) rfl rfl
theorem tw_610 : (Cond.selects "TownBand" ({ cls := "TownBand", name := "playable", desc := "(I)I" } : MethodName) ({ cls := "TownBand", name := "playable", desc := "(I)I" } : MethodName)) ∈ tblG := tG3 (i := 130) rfl rfl
theorem tw_611 : (Cond.code ({ cls := "TownBand", name := "playable", desc := "(I)I" } : MethodName) prog_1_method_12_code (3 : Nat) (Option.some FieldType.int)) ∈ tblG := tG3 (i := 131) rfl rfl
theorem tw_612 : (Cond.methodLinkNest "TownBand" (148 : Nat) ({ cls := "TownBand$Cover", name := "coversMust", desc := "(LTownBand$Piece;LTownBand$Players;)Z" } : MethodName) "TownBand") ∈ tblN := tN3 (i := 132) rfl rfl
theorem tw_614 : (Cond.instanceMethod ({ cls := "TownBand$Cover", name := "coversMust", desc := "(LTownBand$Piece;LTownBand$Players;)Z" } : MethodName)) ∈ tblG := tG3 (i := 134) rfl rfl
theorem tw_615 : (Cond.code ({ cls := "TownBand$Cover", name := "coversMust", desc := "(LTownBand$Piece;LTownBand$Players;)Z" } : MethodName) prog_2_method_2_code (4 : Nat) (Option.some FieldType.boolean)) ∈ tblG := tG3 (i := 135) rfl rfl
theorem tw_616 : (Cond.methodLink "TownBand$Cover" (21 : Nat) ({ cls := "TownBand$Cover", name := "findAble", desc := "(LTownBand$Piece;LTownBand$Players;)V" } : MethodName)) ∈ tblG := tG3 (i := 136) rfl rfl
theorem tw_618 : (Cond.instanceMethod ({ cls := "TownBand$Cover", name := "findAble", desc := "(LTownBand$Piece;LTownBand$Players;)V" } : MethodName)) ∈ tblG := tG3 (i := 138) rfl rfl
theorem tw_619 : (Cond.code ({ cls := "TownBand$Cover", name := "findAble", desc := "(LTownBand$Piece;LTownBand$Players;)V" } : MethodName) prog_2_method_3_code (4 : Nat) (Option.none : Option FieldType)) ∈ tblG := tG3 (i := 139) rfl rfl
theorem tw_620 : (Cond.methodLinkNest "TownBand$Cover" (40 : Nat) ({ cls := "TownBand$Piece", name := "isMust", desc := "(I)Z" } : MethodName) "TownBand") ∈ tblN := tN3 (i := 140) rfl rfl
theorem tw_622 : (Cond.instanceMethod ({ cls := "TownBand$Piece", name := "isMust", desc := "(I)Z" } : MethodName)) ∈ tblG := tG3 (i := 142) rfl rfl
theorem tw_623 : (Cond.code ({ cls := "TownBand$Piece", name := "isMust", desc := "(I)Z" } : MethodName) prog_5_method_4_code (2 : Nat) (Option.some FieldType.boolean)) ∈ tblG := tG3 (i := 143) rfl rfl
theorem tw_624 : (Cond.methodLinkNest "TownBand$Cover" (48 : Nat) ({ cls := "TownBand$Players", name := "presentFor", desc := "(LTownBand$Piece;I)I" } : MethodName) "TownBand") ∈ tblN := tN3 (i := 144) rfl rfl
theorem tw_626 : (Cond.instanceMethod ({ cls := "TownBand$Players", name := "presentFor", desc := "(LTownBand$Piece;I)I" } : MethodName)) ∈ tblG := tG3 (i := 146) rfl rfl
theorem tw_627 : (Cond.code ({ cls := "TownBand$Players", name := "presentFor", desc := "(LTownBand$Piece;I)I" } : MethodName) prog_7_method_10_code (5 : Nat) (Option.some FieldType.int)) ∈ tblG := tG3 (i := 147) rfl rfl
theorem tw_628 : (Cond.methodLink "TownBand$Players" (49 : Nat) ({ cls := "TownBand$Players", name := "isPresent", desc := "(I)Z" } : MethodName)) ∈ tblG := tG3 (i := 148) rfl rfl
theorem tw_630 : (Cond.instanceMethod ({ cls := "TownBand$Players", name := "isPresent", desc := "(I)Z" } : MethodName)) ∈ tblG := tG3 (i := 150) rfl rfl
theorem tw_631 : (Cond.code ({ cls := "TownBand$Players", name := "isPresent", desc := "(I)Z" } : MethodName) prog_7_method_7_code (2 : Nat) (Option.some FieldType.boolean)) ∈ tblG := tG3 (i := 151) rfl rfl
theorem tw_632 : (Cond.methodLink "TownBand$Players" (53 : Nat) ({ cls := "TownBand$Players", name := "partCost", desc := "(ILTownBand$Piece;I)I" } : MethodName)) ∈ tblG := tG3 (i := 152) rfl rfl
theorem tw_634 : (Cond.instanceMethod ({ cls := "TownBand$Players", name := "partCost", desc := "(ILTownBand$Piece;I)I" } : MethodName)) ∈ tblG := tG3 (i := 154) rfl rfl
theorem tw_635 : (Cond.code ({ cls := "TownBand$Players", name := "partCost", desc := "(ILTownBand$Piece;I)I" } : MethodName) prog_7_method_9_code (7 : Nat) (Option.some FieldType.int)) ∈ tblG := tG3 (i := 155) rfl rfl
theorem tw_636 : (Cond.methodLinkNest "TownBand$Players" (42 : Nat) ({ cls := "TownBand$Piece", name := "instrument", desc := "(II)I" } : MethodName) "TownBand") ∈ tblN := tN3 (i := 156) rfl rfl
theorem tw_637 : (Cond.methodLink "TownBand$Players" (46 : Nat) ({ cls := "TownBand$Players", name := "costOf", desc := "(II)I" } : MethodName)) ∈ tblG := tG3 (i := 157) rfl rfl
theorem tw_638 : (Cond.methodLink "TownBand$Cover" (25 : Nat) ({ cls := "java/util/Arrays", name := "fill", desc := "([II)V" } : MethodName)) ∈ tblG := tG3 (i := 158) rfl rfl
theorem tw_639 : (Cond.methodLink "TownBand$Cover" (44 : Nat) ({ cls := "TownBand$Cover", name := "findPlayer", desc := "(II)Z" } : MethodName)) ∈ tblG := tG3 (i := 159) rfl rfl
theorem tw_641 : (Cond.instanceMethod ({ cls := "TownBand$Cover", name := "findPlayer", desc := "(II)Z" } : MethodName)) ∈ tblG := tG3 (i := 161) rfl rfl
theorem tw_642 : (Cond.code ({ cls := "TownBand$Cover", name := "findPlayer", desc := "(II)Z" } : MethodName) prog_2_method_4_code (5 : Nat) (Option.some FieldType.boolean)) ∈ tblG := tG3 (i := 162) rfl rfl
theorem tw_643 : (Cond.methodLink "TownBandLaw" (63 : Nat) ({ cls := "TownBand", name := "lacks", desc := "(I)I" } : MethodName)) ∈ tblG := tG3 (i := 163) rfl rfl
theorem tw_644 : (Cond.instanceMethod ({ cls := "TownBand", name := "lacks", desc := "(I)I" } : MethodName)) ∈ tblG := tG3 (i := 164) rfl rfl
theorem tw_645 : (Cond.selects "TownBand" ({ cls := "TownBand", name := "lacks", desc := "(I)I" } : MethodName) ({ cls := "TownBand", name := "lacks", desc := "(I)I" } : MethodName)) ∈ tblG := tG3 (i := 165) rfl rfl
theorem tw_646 : (Cond.code ({ cls := "TownBand", name := "lacks", desc := "(I)I" } : MethodName) prog_1_method_13_code (3 : Nat) (Option.some FieldType.int)) ∈ tblG := tG3 (i := 166) rfl rfl
theorem tw_647 : (Cond.methodLinkNest "TownBand" (152 : Nat) ({ cls := "TownBand$Cover", name := "leastLack", desc := "(LTownBand$Piece;LTownBand$Players;)I" } : MethodName) "TownBand") ∈ tblN := tN3 (i := 167) rfl rfl
theorem tw_649 : (Cond.instanceMethod ({ cls := "TownBand$Cover", name := "leastLack", desc := "(LTownBand$Piece;LTownBand$Players;)I" } : MethodName)) ∈ tblG := tG3 (i := 169) rfl rfl
theorem tw_650 : (Cond.code ({ cls := "TownBand$Cover", name := "leastLack", desc := "(LTownBand$Piece;LTownBand$Players;)I" } : MethodName) prog_2_method_5_code (10 : Nat) (Option.some FieldType.int)) ∈ tblG := tG3 (i := 170) rfl rfl
theorem tw_651 : (Cond.methodLink "TownBand$Cover" (54 : Nat) ({ cls := "java/lang/Integer", name := "bitCount", desc := "(I)I" } : MethodName)) ∈ tblG := tG3 (i := 171) rfl rfl
theorem tw_652 : (Cond.static ({ cls := "java/lang/Integer", name := "bitCount", desc := "(I)I" } : MethodName)) ∈ tblG := tG3 (i := 172) rfl rfl
theorem tw_653 : (Cond.code ({ cls := "java/lang/Integer", name := "bitCount", desc := "(I)I" } : MethodName) prog_13_method_49_code (1 : Nat) (Option.some FieldType.int)) ∈ tblG := tG3 (i := 173) rfl rfl
theorem tw_654 : (Cond.constant "java/lang/Integer" (265 : Nat) (1431655765 : Int32)) ∈ tblG := tG3 (i := 174) rfl rfl
theorem tw_655 : (Cond.constant "java/lang/Integer" (266 : Nat) (858993459 : Int32)) ∈ tblG := tG3 (i := 175) rfl rfl
theorem tw_656 : (Cond.constant "java/lang/Integer" (267 : Nat) (252645135 : Int32)) ∈ tblG := tG3 (i := 176) rfl rfl
theorem tw_657 : (Cond.methodLink "TownBandLaw" (67 : Nat) ({ cls := "TownBand", name := "seat", desc := "(I)I" } : MethodName)) ∈ tblG := tG3 (i := 177) rfl rfl
theorem tw_658 : (Cond.instanceMethod ({ cls := "TownBand", name := "seat", desc := "(I)I" } : MethodName)) ∈ tblG := tG3 (i := 178) rfl rfl
theorem tw_659 : (Cond.selects "TownBand" ({ cls := "TownBand", name := "seat", desc := "(I)I" } : MethodName) ({ cls := "TownBand", name := "seat", desc := "(I)I" } : MethodName)) ∈ tblG := tG3 (i := 179) rfl rfl
theorem tw_660 : (Cond.code ({ cls := "TownBand", name := "seat", desc := "(I)I" } : MethodName) prog_1_method_14_code (3 : Nat) (Option.some FieldType.int)) ∈ tblG := tG3 (i := 180) rfl rfl
theorem tw_661 : (Cond.methodLinkNest "TownBand" (156 : Nat) ({ cls := "TownBand$Seater", name := "seatAnew", desc := "(LTownBand$Piece;LTownBand$Players;)V" } : MethodName) "TownBand") ∈ tblN := tN3 (i := 181) rfl rfl
theorem tw_663 : (Cond.instanceMethod ({ cls := "TownBand$Seater", name := "seatAnew", desc := "(LTownBand$Piece;LTownBand$Players;)V" } : MethodName)) ∈ tblG := tG3 (i := 183) rfl rfl
theorem tw_664 : (Cond.code ({ cls := "TownBand$Seater", name := "seatAnew", desc := "(LTownBand$Piece;LTownBand$Players;)V" } : MethodName) prog_9_method_2_code (6 : Nat) (Option.none : Option FieldType)) ∈ tblG := tG3 (i := 184) rfl rfl
theorem tw_665 : (Cond.methodLinkNest "TownBand$Seater" (44 : Nat) ({ cls := "TownBand$Players", name := "isPresent", desc := "(I)Z" } : MethodName) "TownBand") ∈ tblN := tN3 (i := 185) rfl rfl
theorem tw_666 : (Cond.methodLinkNest "TownBand$Seater" (48 : Nat) ({ cls := "TownBand$Players", name := "partCost", desc := "(ILTownBand$Piece;I)I" } : MethodName) "TownBand") ∈ tblN := tN3 (i := 186) rfl rfl
theorem tw_667 : (Cond.constantLong "TownBand$Seater" (52 : Nat) (5766503906250000 : Int64)) ∈ tblG := tG3 (i := 187) rfl rfl
theorem tw_668 : (Cond.constantLong "TownBand$Seater" (54 : Nat) (576650390625 : Int64)) ∈ tblG := tG3 (i := 188) rfl rfl
theorem tw_669 : (Cond.fieldLink "TownBand$Seater" (56 : Nat) "TownBand$Seater" "DIGIT" "[J") ∈ tblG := tG3 (i := 189) rfl rfl
theorem tw_671 : (Cond.methodLink "TownBand$Seater" (59 : Nat) ({ cls := "TownBand$Seater", name := "weigh", desc := "(IIJ)V" } : MethodName)) ∈ tblG := tG3 (i := 191) rfl rfl
theorem tw_673 : (Cond.instanceMethod ({ cls := "TownBand$Seater", name := "weigh", desc := "(IIJ)V" } : MethodName)) ∈ tblG := tG3 (i := 193) rfl rfl
theorem tw_674 : (Cond.code ({ cls := "TownBand$Seater", name := "weigh", desc := "(IIJ)V" } : MethodName) prog_9_method_4_code (5 : Nat) (Option.none : Option FieldType)) ∈ tblG := tG3 (i := 194) rfl rfl
theorem tw_675 : (Cond.constantLong "TownBand$Seater" (63 : Nat) (57665039062500 : Int64)) ∈ tblG := tG3 (i := 195) rfl rfl
theorem tw_676 : (Cond.methodLink "TownBand$Seater" (65 : Nat) ({ cls := "TownBand$Seater", name := "weighEmpty", desc := "(LTownBand$Piece;LTownBand$Players;IJ)V" } : MethodName)) ∈ tblG := tG3 (i := 196) rfl rfl
theorem tw_678 : (Cond.instanceMethod ({ cls := "TownBand$Seater", name := "weighEmpty", desc := "(LTownBand$Piece;LTownBand$Players;IJ)V" } : MethodName)) ∈ tblG := tG3 (i := 198) rfl rfl
theorem tw_679 : (Cond.code ({ cls := "TownBand$Seater", name := "weighEmpty", desc := "(LTownBand$Piece;LTownBand$Players;IJ)V" } : MethodName) prog_9_method_5_code (9 : Nat) (Option.none : Option FieldType)) ∈ tblG := tG3 (i := 199) rfl rfl
theorem tw_680 : (Cond.methodLinkNest "TownBand$Seater" (80 : Nat) ({ cls := "TownBand$Piece", name := "isMust", desc := "(I)Z" } : MethodName) "TownBand") ∈ tblN := tN3 (i := 200) rfl rfl
theorem tw_681 : (Cond.constantLong "TownBand$Seater" (83 : Nat) (14 : Int64)) ∈ tblG := tG3 (i := 201) rfl rfl
theorem tw_682 : (Cond.methodLink "TownBand$Seater" (69 : Nat) ({ cls := "TownBand$Seater", name := "match", desc := "(II)V" } : MethodName)) ∈ tblG := tG3 (i := 202) rfl rfl
theorem tw_684 : (Cond.instanceMethod ({ cls := "TownBand$Seater", name := "match", desc := "(II)V" } : MethodName)) ∈ tblG := tG3 (i := 204) rfl rfl
theorem tw_685 : (Cond.code ({ cls := "TownBand$Seater", name := "match", desc := "(II)V" } : MethodName) prog_9_method_6_code (4 : Nat) (Option.none : Option FieldType)) ∈ tblG := tG3 (i := 205) rfl rfl
theorem tw_686 : (Cond.methodLink "TownBand$Seater" (88 : Nat) ({ cls := "java/util/Arrays", name := "fill", desc := "([JJ)V" } : MethodName)) ∈ tblG := tG3 (i := 206) rfl rfl
theorem tw_687 : (Cond.static ({ cls := "java/util/Arrays", name := "fill", desc := "([JJ)V" } : MethodName)) ∈ tblG := tG3 (i := 207) rfl rfl
theorem tw_688 : (Cond.code ({ cls := "java/util/Arrays", name := "fill", desc := "([JJ)V" } : MethodName) prog_18_method_101_code (5 : Nat) (Option.none : Option FieldType)) ∈ tblG := tG3 (i := 208) rfl rfl
theorem tw_689 : (Cond.methodLink "TownBand$Seater" (94 : Nat) ({ cls := "java/util/Arrays", name := "fill", desc := "([II)V" } : MethodName)) ∈ tblG := tG3 (i := 209) rfl rfl
theorem tw_690 : (Cond.methodLink "TownBand$Seater" (97 : Nat) ({ cls := "TownBand$Seater", name := "placeRow", desc := "(I)V" } : MethodName)) ∈ tblG := tG3 (i := 210) rfl rfl
theorem tw_692 : (Cond.instanceMethod ({ cls := "TownBand$Seater", name := "placeRow", desc := "(I)V" } : MethodName)) ∈ tblG := tG3 (i := 212) rfl rfl
theorem tw_693 : (Cond.code ({ cls := "TownBand$Seater", name := "placeRow", desc := "(I)V" } : MethodName) prog_9_method_7_code (6 : Nat) (Option.none : Option FieldType)) ∈ tblG := tG3 (i := 213) rfl rfl
theorem tw_694 : (Cond.constantLong "TownBand$Seater" (101 : Nat) (9223372036854775807 : Int64)) ∈ tblG := tG3 (i := 214) rfl rfl
theorem tw_695 : (Cond.methodLink "TownBand$Seater" (103 : Nat) ({ cls := "TownBand$Seater", name := "nearestColumn", desc := "(II)I" } : MethodName)) ∈ tblG := tG3 (i := 215) rfl rfl
theorem tw_697 : (Cond.instanceMethod ({ cls := "TownBand$Seater", name := "nearestColumn", desc := "(II)I" } : MethodName)) ∈ tblG := tG3 (i := 217) rfl rfl
theorem tw_698 : (Cond.code ({ cls := "TownBand$Seater", name := "nearestColumn", desc := "(II)I" } : MethodName) prog_9_method_8_code (10 : Nat) (Option.some FieldType.int)) ∈ tblG := tG3 (i := 218) rfl rfl
theorem tw_699 : (Cond.methodLink "TownBand$Seater" (107 : Nat) ({ cls := "TownBand$Seater", name := "shiftPrices", desc := "(IJ)V" } : MethodName)) ∈ tblG := tG3 (i := 219) rfl rfl
theorem tw_701 : (Cond.instanceMethod ({ cls := "TownBand$Seater", name := "shiftPrices", desc := "(IJ)V" } : MethodName)) ∈ tblG := tG3 (i := 221) rfl rfl
theorem tw_702 : (Cond.code ({ cls := "TownBand$Seater", name := "shiftPrices", desc := "(IJ)V" } : MethodName) prog_9_method_9_code (5 : Nat) (Option.none : Option FieldType)) ∈ tblG := tG3 (i := 222) rfl rfl
theorem tw_703 : (Cond.methodLink "TownBand$Seater" (73 : Nat) ({ cls := "TownBand$Seater", name := "takeChairs", desc := "(LTownBand$Piece;I)I" } : MethodName)) ∈ tblG := tG3 (i := 223) rfl rfl
theorem tw_705 : (Cond.instanceMethod ({ cls := "TownBand$Seater", name := "takeChairs", desc := "(LTownBand$Piece;I)I" } : MethodName)) ∈ tblG := tG3 (i := 225) rfl rfl
theorem tw_706 : (Cond.code ({ cls := "TownBand$Seater", name := "takeChairs", desc := "(LTownBand$Piece;I)I" } : MethodName) prog_9_method_10_code (7 : Nat) (Option.some FieldType.int)) ∈ tblG := tG3 (i := 226) rfl rfl
theorem tw_707 : (Cond.methodLinkNest "TownBand$Seater" (111 : Nat) ({ cls := "TownBand$Piece", name := "hasPart", desc := "(I)Z" } : MethodName) "TownBand") ∈ tblN := tN3 (i := 227) rfl rfl
theorem tw_708 : (Cond.methodLinkNest "TownBand" (160 : Nat) ({ cls := "TownBand$Piece", name := "seated", desc := "()I" } : MethodName) "TownBand") ∈ tblN := tN3 (i := 228) rfl rfl
theorem tw_710 : (Cond.instanceMethod ({ cls := "TownBand$Piece", name := "seated", desc := "()I" } : MethodName)) ∈ tblG := tG3 (i := 230) rfl rfl
theorem tw_711 : (Cond.code ({ cls := "TownBand$Piece", name := "seated", desc := "()I" } : MethodName) prog_5_method_11_code (3 : Nat) (Option.some FieldType.int)) ∈ tblG := tG3 (i := 231) rfl rfl
theorem tw_712 : (Cond.methodLink "TownBandLaw" (71 : Nat) ({ cls := "TownBand", name := "again", desc := "(I)I" } : MethodName)) ∈ tblG := tG3 (i := 232) rfl rfl
theorem tw_713 : (Cond.instanceMethod ({ cls := "TownBand", name := "again", desc := "(I)I" } : MethodName)) ∈ tblG := tG3 (i := 233) rfl rfl
theorem tw_714 : (Cond.selects "TownBand" ({ cls := "TownBand", name := "again", desc := "(I)I" } : MethodName) ({ cls := "TownBand", name := "again", desc := "(I)I" } : MethodName)) ∈ tblG := tG3 (i := 234) rfl rfl
theorem tw_715 : (Cond.code ({ cls := "TownBand", name := "again", desc := "(I)I" } : MethodName) prog_1_method_15_code (3 : Nat) (Option.some FieldType.int)) ∈ tblG := tG3 (i := 235) rfl rfl
theorem tw_716 : (Cond.methodLinkNest "TownBand" (164 : Nat) ({ cls := "TownBand$Seater", name := "seatWithFewestChanges", desc := "(LTownBand$Piece;LTownBand$Players;)I" } : MethodName) "TownBand") ∈ tblN := tN3 (i := 236) rfl rfl
theorem tw_718 : (Cond.instanceMethod ({ cls := "TownBand$Seater", name := "seatWithFewestChanges", desc := "(LTownBand$Piece;LTownBand$Players;)I" } : MethodName)) ∈ tblG := tG3 (i := 238) rfl rfl
theorem tw_719 : (Cond.code ({ cls := "TownBand$Seater", name := "seatWithFewestChanges", desc := "(LTownBand$Piece;LTownBand$Players;)I" } : MethodName) prog_9_method_3_code (8 : Nat) (Option.some FieldType.int)) ∈ tblG := tG3 (i := 239) rfl rfl
theorem tw_720 : (Cond.methodLink "TownBandLaw" (75 : Nat) ({ cls := "TownBand", name := "chair", desc := "(II)I" } : MethodName)) ∈ tblG := tG4 (i := 0) rfl rfl
theorem tw_721 : (Cond.instanceMethod ({ cls := "TownBand", name := "chair", desc := "(II)I" } : MethodName)) ∈ tblG := tG4 (i := 1) rfl rfl
theorem tw_722 : (Cond.selects "TownBand" ({ cls := "TownBand", name := "chair", desc := "(II)I" } : MethodName) ({ cls := "TownBand", name := "chair", desc := "(II)I" } : MethodName)) ∈ tblG := tG4 (i := 2) rfl rfl
theorem tw_723 : (Cond.code ({ cls := "TownBand", name := "chair", desc := "(II)I" } : MethodName) prog_1_method_16_code (4 : Nat) (Option.some FieldType.int)) ∈ tblG := tG4 (i := 3) rfl rfl
theorem tw_724 : (Cond.methodLinkNest "TownBand" (167 : Nat) ({ cls := "TownBand$Piece", name := "hasPart", desc := "(I)Z" } : MethodName) "TownBand") ∈ tblN := tN4 (i := 4) rfl rfl
theorem tw_725 : (Cond.methodLink "TownBandLaw" (79 : Nat) ({ cls := "TownBand", name := "sit", desc := "(III)Z" } : MethodName)) ∈ tblG := tG4 (i := 5) rfl rfl
theorem tw_726 : (Cond.instanceMethod ({ cls := "TownBand", name := "sit", desc := "(III)Z" } : MethodName)) ∈ tblG := tG4 (i := 6) rfl rfl
theorem tw_727 : (Cond.selects "TownBand" ({ cls := "TownBand", name := "sit", desc := "(III)Z" } : MethodName) ({ cls := "TownBand", name := "sit", desc := "(III)Z" } : MethodName)) ∈ tblG := tG4 (i := 7) rfl rfl
theorem tw_728 : (Cond.code ({ cls := "TownBand", name := "sit", desc := "(III)Z" } : MethodName) prog_1_method_17_code (5 : Nat) (Option.some FieldType.boolean)) ∈ tblG := tG4 (i := 8) rfl rfl
theorem tw_729 : (Cond.methodLinkNest "TownBand" (174 : Nat) ({ cls := "TownBand$Players", name := "partCost", desc := "(ILTownBand$Piece;I)I" } : MethodName) "TownBand") ∈ tblN := tN4 (i := 9) rfl rfl
theorem tw_730 : (Cond.methodLinkNest "TownBand" (178 : Nat) ({ cls := "TownBand$Piece", name := "seatsElsewhere", desc := "(II)Z" } : MethodName) "TownBand") ∈ tblN := tN4 (i := 10) rfl rfl
theorem tw_732 : (Cond.instanceMethod ({ cls := "TownBand$Piece", name := "seatsElsewhere", desc := "(II)Z" } : MethodName)) ∈ tblG := tG4 (i := 12) rfl rfl
theorem tw_733 : (Cond.code ({ cls := "TownBand$Piece", name := "seatsElsewhere", desc := "(II)Z" } : MethodName) prog_5_method_12_code (4 : Nat) (Option.some FieldType.boolean)) ∈ tblG := tG4 (i := 13) rfl rfl
theorem tw_734 : (Cond.methodLink "TownBandLaw" (83 : Nat) ({ cls := "TownBand", name := "seating", desc := "(II)I" } : MethodName)) ∈ tblG := tG4 (i := 14) rfl rfl
theorem tw_735 : (Cond.instanceMethod ({ cls := "TownBand", name := "seating", desc := "(II)I" } : MethodName)) ∈ tblG := tG4 (i := 15) rfl rfl
theorem tw_736 : (Cond.selects "TownBand" ({ cls := "TownBand", name := "seating", desc := "(II)I" } : MethodName) ({ cls := "TownBand", name := "seating", desc := "(II)I" } : MethodName)) ∈ tblG := tG4 (i := 16) rfl rfl
theorem tw_737 : (Cond.code ({ cls := "TownBand", name := "seating", desc := "(II)I" } : MethodName) prog_1_method_18_code (4 : Nat) (Option.some FieldType.int)) ∈ tblG := tG4 (i := 17) rfl rfl
theorem tw_738 : (Cond.methodLinkNest "TownBand" (182 : Nat) ({ cls := "TownBand$Players", name := "seatingCost", desc := "(LTownBand$Piece;)I" } : MethodName) "TownBand") ∈ tblN := tN4 (i := 18) rfl rfl
theorem tw_740 : (Cond.instanceMethod ({ cls := "TownBand$Players", name := "seatingCost", desc := "(LTownBand$Piece;)I" } : MethodName)) ∈ tblG := tG4 (i := 20) rfl rfl
theorem tw_741 : (Cond.code ({ cls := "TownBand$Players", name := "seatingCost", desc := "(LTownBand$Piece;)I" } : MethodName) prog_7_method_11_code (5 : Nat) (Option.some FieldType.int)) ∈ tblG := tG4 (i := 21) rfl rfl
theorem tw_742 : (Cond.methodLink "TownBand$Players" (63 : Nat) ({ cls := "TownBand$Players", name := "has", desc := "(I)Z" } : MethodName)) ∈ tblG := tG4 (i := 22) rfl rfl
theorem tw_743 : (Cond.methodLink "TownBand$Players" (66 : Nat) ({ cls := "java/lang/Math", name := "max", desc := "(II)I" } : MethodName)) ∈ tblG := tG4 (i := 23) rfl rfl
theorem tw_744 : (Cond.static ({ cls := "java/lang/Math", name := "max", desc := "(II)I" } : MethodName)) ∈ tblG := tG4 (i := 24) rfl rfl
theorem tw_745 : (Cond.code ({ cls := "java/lang/Math", name := "max", desc := "(II)I" } : MethodName) prog_14_method_65_code (2 : Nat) (Option.some FieldType.int)) ∈ tblG := tG4 (i := 25) rfl rfl
theorem tw_746 : (Cond.methodLinkNest "TownBand" (186 : Nat) ({ cls := "TownBand$Players", name := "seatedButAway", desc := "(LTownBand$Piece;)I" } : MethodName) "TownBand") ∈ tblN := tN4 (i := 26) rfl rfl
theorem tw_748 : (Cond.instanceMethod ({ cls := "TownBand$Players", name := "seatedButAway", desc := "(LTownBand$Piece;)I" } : MethodName)) ∈ tblG := tG4 (i := 28) rfl rfl
theorem tw_749 : (Cond.code ({ cls := "TownBand$Players", name := "seatedButAway", desc := "(LTownBand$Piece;)I" } : MethodName) prog_7_method_12_code (5 : Nat) (Option.some FieldType.int)) ∈ tblG := tG4 (i := 29) rfl rfl
theorem tw_750 : (Cond.methodLink "TownBandLaw" (87 : Nat) ({ cls := "TownBand", name := "programme", desc := "(II)I" } : MethodName)) ∈ tblG := tG4 (i := 30) rfl rfl
theorem tw_751 : (Cond.instanceMethod ({ cls := "TownBand", name := "programme", desc := "(II)I" } : MethodName)) ∈ tblG := tG4 (i := 31) rfl rfl
theorem tw_752 : (Cond.selects "TownBand" ({ cls := "TownBand", name := "programme", desc := "(II)I" } : MethodName) ({ cls := "TownBand", name := "programme", desc := "(II)I" } : MethodName)) ∈ tblG := tG4 (i := 32) rfl rfl
theorem tw_753 : (Cond.code ({ cls := "TownBand", name := "programme", desc := "(II)I" } : MethodName) prog_1_method_19_code (5 : Nat) (Option.some FieldType.int)) ∈ tblG := tG4 (i := 33) rfl rfl
theorem tw_754 : (Cond.methodLinkNest "TownBand" (189 : Nat) ({ cls := "TownBand$Planner", name := "forgetChoices", desc := "()V" } : MethodName) "TownBand") ∈ tblN := tN4 (i := 34) rfl rfl
theorem tw_756 : (Cond.instanceMethod ({ cls := "TownBand$Planner", name := "forgetChoices", desc := "()V" } : MethodName)) ∈ tblG := tG4 (i := 36) rfl rfl
theorem tw_757 : (Cond.code ({ cls := "TownBand$Planner", name := "forgetChoices", desc := "()V" } : MethodName) prog_6_method_2_code (1 : Nat) (Option.none : Option FieldType)) ∈ tblG := tG4 (i := 37) rfl rfl
theorem tw_758 : (Cond.methodLinkNest "TownBand" (192 : Nat) ({ cls := "TownBand$Planner", name := "offer", desc := "(ILTownBand$Piece;)V" } : MethodName) "TownBand") ∈ tblN := tN4 (i := 38) rfl rfl
theorem tw_760 : (Cond.instanceMethod ({ cls := "TownBand$Planner", name := "offer", desc := "(ILTownBand$Piece;)V" } : MethodName)) ∈ tblG := tG4 (i := 40) rfl rfl
theorem tw_761 : (Cond.code ({ cls := "TownBand$Planner", name := "offer", desc := "(ILTownBand$Piece;)V" } : MethodName) prog_6_method_3_code (3 : Nat) (Option.none : Option FieldType)) ∈ tblG := tG4 (i := 41) rfl rfl
theorem tw_762 : (Cond.methodLinkNest "TownBand" (196 : Nat) ({ cls := "TownBand$Planner", name := "arrange", desc := "(II)I" } : MethodName) "TownBand") ∈ tblN := tN4 (i := 42) rfl rfl
theorem tw_764 : (Cond.instanceMethod ({ cls := "TownBand$Planner", name := "arrange", desc := "(II)I" } : MethodName)) ∈ tblG := tG4 (i := 44) rfl rfl
theorem tw_765 : (Cond.code ({ cls := "TownBand$Planner", name := "arrange", desc := "(II)I" } : MethodName) prog_6_method_4_code (12 : Nat) (Option.some FieldType.int)) ∈ tblG := tG4 (i := 45) rfl rfl
theorem tw_766 : (Cond.methodLink "TownBand$Planner" (45 : Nat) ({ cls := "TownBand$Planner", name := "minutesOf", desc := "(I)I" } : MethodName)) ∈ tblG := tG4 (i := 46) rfl rfl
theorem tw_768 : (Cond.instanceMethod ({ cls := "TownBand$Planner", name := "minutesOf", desc := "(I)I" } : MethodName)) ∈ tblG := tG4 (i := 48) rfl rfl
theorem tw_769 : (Cond.code ({ cls := "TownBand$Planner", name := "minutesOf", desc := "(I)I" } : MethodName) prog_6_method_5_code (4 : Nat) (Option.some FieldType.int)) ∈ tblG := tG4 (i := 49) rfl rfl
theorem tw_770 : (Cond.methodLink "TownBand$Planner" (49 : Nat) ({ cls := "TownBand$Planner", name := "fillSet", desc := "(IZI)J" } : MethodName)) ∈ tblG := tG4 (i := 50) rfl rfl
theorem tw_772 : (Cond.instanceMethod ({ cls := "TownBand$Planner", name := "fillSet", desc := "(IZI)J" } : MethodName)) ∈ tblG := tG4 (i := 52) rfl rfl
theorem tw_773 : (Cond.code ({ cls := "TownBand$Planner", name := "fillSet", desc := "(IZI)J" } : MethodName) prog_6_method_6_code (10 : Nat) (Option.some FieldType.long)) ∈ tblG := tG4 (i := 53) rfl rfl
theorem tw_774 : (Cond.constantLong "TownBand$Planner" (53 : Nat) (9223372036854775807 : Int64)) ∈ tblG := tG4 (i := 54) rfl rfl
theorem tw_775 : (Cond.methodLink "TownBand$Planner" (64 : Nat) ({ cls := "TownBand$Planner", name := "bestEndingWith", desc := "(III)J" } : MethodName)) ∈ tblG := tG4 (i := 55) rfl rfl
theorem tw_777 : (Cond.instanceMethod ({ cls := "TownBand$Planner", name := "bestEndingWith", desc := "(III)J" } : MethodName)) ∈ tblG := tG4 (i := 57) rfl rfl
theorem tw_778 : (Cond.code ({ cls := "TownBand$Planner", name := "bestEndingWith", desc := "(III)J" } : MethodName) prog_6_method_7_code (12 : Nat) (Option.some FieldType.long)) ∈ tblG := tG4 (i := 58) rfl rfl
theorem tw_779 : (Cond.fieldLink "TownBand$Planner" (74 : Nat) "TownBand$Planner" "DIGIT" "[J") ∈ tblG := tG4 (i := 59) rfl rfl
theorem tw_781 : (Cond.methodLink "TownBand$Planner" (55 : Nat) ({ cls := "java/lang/Integer", name := "bitCount", desc := "(I)I" } : MethodName)) ∈ tblG := tG4 (i := 61) rfl rfl
theorem tw_782 : (Cond.methodLink "TownBand$Planner" (77 : Nat) ({ cls := "TownBand$Planner", name := "keyGap", desc := "(II)I" } : MethodName)) ∈ tblG := tG4 (i := 62) rfl rfl
theorem tw_784 : (Cond.instanceMethod ({ cls := "TownBand$Planner", name := "keyGap", desc := "(II)I" } : MethodName)) ∈ tblG := tG4 (i := 64) rfl rfl
theorem tw_785 : (Cond.code ({ cls := "TownBand$Planner", name := "keyGap", desc := "(II)I" } : MethodName) prog_6_method_8_code (4 : Nat) (Option.some FieldType.int)) ∈ tblG := tG4 (i := 65) rfl rfl
theorem tw_786 : (Cond.methodLink "TownBand$Planner" (83 : Nat) ({ cls := "java/lang/Math", name := "abs", desc := "(I)I" } : MethodName)) ∈ tblG := tG4 (i := 66) rfl rfl
theorem tw_787 : (Cond.static ({ cls := "java/lang/Math", name := "abs", desc := "(I)I" } : MethodName)) ∈ tblG := tG4 (i := 67) rfl rfl
theorem tw_788 : (Cond.code ({ cls := "java/lang/Math", name := "abs", desc := "(I)I" } : MethodName) prog_14_method_59_code (1 : Nat) (Option.some FieldType.int)) ∈ tblG := tG4 (i := 68) rfl rfl
theorem tw_789 : (Cond.methodLink "TownBand$Planner" (86 : Nat) ({ cls := "java/lang/Math", name := "min", desc := "(II)I" } : MethodName)) ∈ tblG := tG4 (i := 69) rfl rfl
theorem tw_790 : (Cond.static ({ cls := "java/lang/Math", name := "min", desc := "(II)I" } : MethodName)) ∈ tblG := tG4 (i := 70) rfl rfl
theorem tw_791 : (Cond.code ({ cls := "java/lang/Math", name := "min", desc := "(II)I" } : MethodName) prog_14_method_69_code (2 : Nat) (Option.some FieldType.int)) ∈ tblG := tG4 (i := 71) rfl rfl
theorem tw_792 : (Cond.constantLong "TownBand$Planner" (81 : Nat) (10000000000 : Int64)) ∈ tblG := tG4 (i := 72) rfl rfl
theorem tw_793 : (Cond.methodLink "TownBand$Planner" (68 : Nat) ({ cls := "java/lang/Math", name := "min", desc := "(JJ)J" } : MethodName)) ∈ tblG := tG4 (i := 73) rfl rfl
theorem tw_794 : (Cond.static ({ cls := "java/lang/Math", name := "min", desc := "(JJ)J" } : MethodName)) ∈ tblG := tG4 (i := 74) rfl rfl
theorem tw_795 : (Cond.code ({ cls := "java/lang/Math", name := "min", desc := "(JJ)J" } : MethodName) prog_14_method_70_code (4 : Nat) (Option.some FieldType.long)) ∈ tblG := tG4 (i := 75) rfl rfl
theorem tw_796 : (Cond.methodLink "TownBand$Planner" (60 : Nat) ({ cls := "TownBand$Planner", name := "keepRow", desc := "(IJ)V" } : MethodName)) ∈ tblG := tG4 (i := 76) rfl rfl
theorem tw_798 : (Cond.instanceMethod ({ cls := "TownBand$Planner", name := "keepRow", desc := "(IJ)V" } : MethodName)) ∈ tblG := tG4 (i := 78) rfl rfl
theorem tw_799 : (Cond.code ({ cls := "TownBand$Planner", name := "keepRow", desc := "(IJ)V" } : MethodName) prog_6_method_9_code (5 : Nat) (Option.none : Option FieldType)) ∈ tblG := tG4 (i := 79) rfl rfl
theorem tw_800 : (Cond.constantLong "TownBand$Planner" (94 : Nat) (10 : Int64)) ∈ tblG := tG4 (i := 80) rfl rfl
theorem tw_801 : (Cond.methodLink "TownBandLaw" (91 : Nat) ({ cls := "TownBand", name := "plan", desc := "(I)I" } : MethodName)) ∈ tblG := tG4 (i := 81) rfl rfl
theorem tw_802 : (Cond.instanceMethod ({ cls := "TownBand", name := "plan", desc := "(I)I" } : MethodName)) ∈ tblG := tG4 (i := 82) rfl rfl
theorem tw_803 : (Cond.selects "TownBand" ({ cls := "TownBand", name := "plan", desc := "(I)I" } : MethodName) ({ cls := "TownBand", name := "plan", desc := "(I)I" } : MethodName)) ∈ tblG := tG4 (i := 83) rfl rfl
theorem tw_804 : (Cond.code ({ cls := "TownBand", name := "plan", desc := "(I)I" } : MethodName) prog_1_method_20_code (2 : Nat) (Option.some FieldType.int)) ∈ tblG := tG4 (i := 84) rfl rfl
theorem tw_805 : (Cond.methodLink "TownBandLaw" (95 : Nat) ({ cls := "TownBand", name := "strain", desc := "()I" } : MethodName)) ∈ tblG := tG4 (i := 85) rfl rfl
theorem tw_806 : (Cond.instanceMethod ({ cls := "TownBand", name := "strain", desc := "()I" } : MethodName)) ∈ tblG := tG4 (i := 86) rfl rfl
theorem tw_807 : (Cond.selects "TownBand" ({ cls := "TownBand", name := "strain", desc := "()I" } : MethodName) ({ cls := "TownBand", name := "strain", desc := "()I" } : MethodName)) ∈ tblG := tG4 (i := 87) rfl rfl
theorem tw_808 : (Cond.code ({ cls := "TownBand", name := "strain", desc := "()I" } : MethodName) prog_1_method_21_code (1 : Nat) (Option.some FieldType.int)) ∈ tblG := tG4 (i := 88) rfl rfl
theorem tw_809 : (Cond.methodLink "TownBandLaw" (99 : Nat) ({ cls := "TownBand", name := "tell", desc := "(III)I" } : MethodName)) ∈ tblG := tG4 (i := 89) rfl rfl
theorem tw_810 : (Cond.instanceMethod ({ cls := "TownBand", name := "tell", desc := "(III)I" } : MethodName)) ∈ tblG := tG4 (i := 90) rfl rfl
theorem tw_811 : (Cond.selects "TownBand" ({ cls := "TownBand", name := "tell", desc := "(III)I" } : MethodName) ({ cls := "TownBand", name := "tell", desc := "(III)I" } : MethodName)) ∈ tblG := tG4 (i := 91) rfl rfl
theorem tw_812 : (Cond.code ({ cls := "TownBand", name := "tell", desc := "(III)I" } : MethodName) prog_1_method_22_code (4 : Nat) (Option.some FieldType.int)) ∈ tblG := tG4 (i := 92) rfl rfl
theorem tw_813 : (Cond.methodLink "TownBand" (208 : Nat) ({ cls := "TownBand", name := "isCopy", desc := "(I)Z" } : MethodName)) ∈ tblG := tG4 (i := 93) rfl rfl
theorem tw_814 : (Cond.static ({ cls := "TownBand", name := "isCopy", desc := "(I)Z" } : MethodName)) ∈ tblG := tG4 (i := 94) rfl rfl
theorem tw_815 : (Cond.code ({ cls := "TownBand", name := "isCopy", desc := "(I)Z" } : MethodName) prog_1_method_33_code (1 : Nat) (Option.some FieldType.boolean)) ∈ tblG := tG4 (i := 95) rfl rfl
theorem tw_816 : (Cond.methodLink "TownBand" (211 : Nat) ({ cls := "TownBand", name := "isPlace", desc := "(I)Z" } : MethodName)) ∈ tblG := tG4 (i := 96) rfl rfl
theorem tw_818 : (Cond.instanceMethod ({ cls := "TownBand", name := "isPlace", desc := "(I)Z" } : MethodName)) ∈ tblG := tG4 (i := 98) rfl rfl
theorem tw_819 : (Cond.code ({ cls := "TownBand", name := "isPlace", desc := "(I)Z" } : MethodName) prog_1_method_29_code (2 : Nat) (Option.some FieldType.boolean)) ∈ tblG := tG4 (i := 99) rfl rfl
theorem tw_820 : (Cond.methodLinkNest "TownBand" (214 : Nat) ({ cls := "TownBand$Loans", name := "note", desc := "(III)I" } : MethodName) "TownBand") ∈ tblN := tN4 (i := 100) rfl rfl
theorem tw_822 : (Cond.instanceMethod ({ cls := "TownBand$Loans", name := "note", desc := "(III)I" } : MethodName)) ∈ tblG := tG4 (i := 102) rfl rfl
theorem tw_823 : (Cond.code ({ cls := "TownBand$Loans", name := "note", desc := "(III)I" } : MethodName) prog_4_method_2_code (4 : Nat) (Option.some FieldType.int)) ∈ tblG := tG4 (i := 103) rfl rfl
theorem tw_824 : (Cond.methodLink "TownBandLaw" (104 : Nat) ({ cls := "TownBand", name := "where", desc := "(III)I" } : MethodName)) ∈ tblG := tG4 (i := 104) rfl rfl
theorem tw_825 : (Cond.instanceMethod ({ cls := "TownBand", name := "where", desc := "(III)I" } : MethodName)) ∈ tblG := tG4 (i := 105) rfl rfl
theorem tw_826 : (Cond.selects "TownBand" ({ cls := "TownBand", name := "where", desc := "(III)I" } : MethodName) ({ cls := "TownBand", name := "where", desc := "(III)I" } : MethodName)) ∈ tblG := tG4 (i := 106) rfl rfl
theorem tw_827 : (Cond.code ({ cls := "TownBand", name := "where", desc := "(III)I" } : MethodName) prog_1_method_23_code (4 : Nat) (Option.some FieldType.int)) ∈ tblG := tG4 (i := 107) rfl rfl
theorem tw_828 : (Cond.methodLinkNest "TownBand" (219 : Nat) ({ cls := "TownBand$Loans", name := "placeOf", desc := "(III)I" } : MethodName) "TownBand") ∈ tblN := tN4 (i := 108) rfl rfl
theorem tw_830 : (Cond.instanceMethod ({ cls := "TownBand$Loans", name := "placeOf", desc := "(III)I" } : MethodName)) ∈ tblG := tG4 (i := 110) rfl rfl
theorem tw_831 : (Cond.code ({ cls := "TownBand$Loans", name := "placeOf", desc := "(III)I" } : MethodName) prog_4_method_3_code (4 : Nat) (Option.some FieldType.int)) ∈ tblG := tG4 (i := 111) rfl rfl
theorem tw_832 : (Cond.methodLink "TownBand$Loans" (31 : Nat) ({ cls := "TownBand$Loans", name := "settle", desc := "(II)V" } : MethodName)) ∈ tblG := tG4 (i := 112) rfl rfl
theorem tw_834 : (Cond.instanceMethod ({ cls := "TownBand$Loans", name := "settle", desc := "(II)V" } : MethodName)) ∈ tblG := tG4 (i := 114) rfl rfl
theorem tw_835 : (Cond.code ({ cls := "TownBand$Loans", name := "settle", desc := "(II)V" } : MethodName) prog_4_method_5_code (5 : Nat) (Option.none : Option FieldType)) ∈ tblG := tG4 (i := 115) rfl rfl
theorem tw_836 : (Cond.methodLink "TownBand$Loans" (35 : Nat) ({ cls := "java/util/Arrays", name := "fill", desc := "([II)V" } : MethodName)) ∈ tblG := tG4 (i := 116) rfl rfl
theorem tw_837 : (Cond.methodLink "TownBandLaw" (108 : Nat) ({ cls := "TownBand", name := "copies", desc := "(III)I" } : MethodName)) ∈ tblG := tG4 (i := 117) rfl rfl
theorem tw_838 : (Cond.instanceMethod ({ cls := "TownBand", name := "copies", desc := "(III)I" } : MethodName)) ∈ tblG := tG4 (i := 118) rfl rfl
theorem tw_839 : (Cond.selects "TownBand" ({ cls := "TownBand", name := "copies", desc := "(III)I" } : MethodName) ({ cls := "TownBand", name := "copies", desc := "(III)I" } : MethodName)) ∈ tblG := tG4 (i := 119) rfl rfl
theorem tw_840 : (Cond.code ({ cls := "TownBand", name := "copies", desc := "(III)I" } : MethodName) prog_1_method_24_code (4 : Nat) (Option.some FieldType.int)) ∈ tblG := tG4 (i := 120) rfl rfl
theorem tw_841 : (Cond.methodLinkNest "TownBand" (222 : Nat) ({ cls := "TownBand$Loans", name := "copiesAt", desc := "(III)I" } : MethodName) "TownBand") ∈ tblN := tN4 (i := 121) rfl rfl
theorem tw_843 : (Cond.instanceMethod ({ cls := "TownBand$Loans", name := "copiesAt", desc := "(III)I" } : MethodName)) ∈ tblG := tG4 (i := 123) rfl rfl
theorem tw_844 : (Cond.code ({ cls := "TownBand$Loans", name := "copiesAt", desc := "(III)I" } : MethodName) prog_4_method_4_code (6 : Nat) (Option.some FieldType.int)) ∈ tblG := tG4 (i := 124) rfl rfl
theorem tw_845 : (Cond.methodLink "TownBandLaw" (112 : Nat) ({ cls := "TownBand", name := "contest", desc := "(I)I" } : MethodName)) ∈ tblG := tG4 (i := 125) rfl rfl
theorem tw_846 : (Cond.instanceMethod ({ cls := "TownBand", name := "contest", desc := "(I)I" } : MethodName)) ∈ tblG := tG4 (i := 126) rfl rfl
theorem tw_847 : (Cond.selects "TownBand" ({ cls := "TownBand", name := "contest", desc := "(I)I" } : MethodName) ({ cls := "TownBand", name := "contest", desc := "(I)I" } : MethodName)) ∈ tblG := tG4 (i := 127) rfl rfl
theorem tw_848 : (Cond.code ({ cls := "TownBand", name := "contest", desc := "(I)I" } : MethodName) prog_1_method_25_code (2 : Nat) (Option.some FieldType.int)) ∈ tblG := tG4 (i := 128) rfl rfl
theorem tw_849 : (Cond.methodLinkNest "TownBand" (225 : Nat) ({ cls := "TownBand$Players", name := "compete", desc := "(I)I" } : MethodName) "TownBand") ∈ tblN := tN4 (i := 129) rfl rfl
theorem tw_851 : (Cond.instanceMethod ({ cls := "TownBand$Players", name := "compete", desc := "(I)I" } : MethodName)) ∈ tblG := tG4 (i := 131) rfl rfl
theorem tw_852 : (Cond.code ({ cls := "TownBand$Players", name := "compete", desc := "(I)I" } : MethodName) prog_7_method_8_code (2 : Nat) (Option.some FieldType.int)) ∈ tblG := tG4 (i := 132) rfl rfl
theorem tw_853 : (Cond.methodLink "TownBandLaw" (116 : Nat) ({ cls := "TownBand", name := "may", desc := "(II)I" } : MethodName)) ∈ tblG := tG4 (i := 133) rfl rfl
theorem tw_854 : (Cond.instanceMethod ({ cls := "TownBand", name := "may", desc := "(II)I" } : MethodName)) ∈ tblG := tG4 (i := 134) rfl rfl
theorem tw_855 : (Cond.selects "TownBand" ({ cls := "TownBand", name := "may", desc := "(II)I" } : MethodName) ({ cls := "TownBand", name := "may", desc := "(II)I" } : MethodName)) ∈ tblG := tG4 (i := 135) rfl rfl
theorem tw_856 : (Cond.code ({ cls := "TownBand", name := "may", desc := "(II)I" } : MethodName) prog_1_method_26_code (3 : Nat) (Option.some FieldType.int)) ∈ tblG := tG4 (i := 136) rfl rfl
theorem tw_857 : (Cond.methodLinkNest "TownBand" (234 : Nat) ({ cls := "TownBand$Rule", name := "setPlayer", desc := "(III)V" } : MethodName) "TownBand") ∈ tblN := tN4 (i := 137) rfl rfl
theorem tw_859 : (Cond.instanceMethod ({ cls := "TownBand$Rule", name := "setPlayer", desc := "(III)V" } : MethodName)) ∈ tblG := tG4 (i := 139) rfl rfl
theorem tw_860 : (Cond.code ({ cls := "TownBand$Rule", name := "setPlayer", desc := "(III)V" } : MethodName) prog_8_method_11_code (4 : Nat) (Option.none : Option FieldType)) ∈ tblG := tG4 (i := 140) rfl rfl
theorem tw_861 : (Cond.methodLinkNest "TownBand" (240 : Nat) ({ cls := "TownBand$Rule", name := "setDay", desc := "(II)V" } : MethodName) "TownBand") ∈ tblN := tN4 (i := 141) rfl rfl
theorem tw_863 : (Cond.instanceMethod ({ cls := "TownBand$Rule", name := "setDay", desc := "(II)V" } : MethodName)) ∈ tblG := tG4 (i := 143) rfl rfl
theorem tw_864 : (Cond.code ({ cls := "TownBand$Rule", name := "setDay", desc := "(II)V" } : MethodName) prog_8_method_12_code (3 : Nat) (Option.none : Option FieldType)) ∈ tblG := tG4 (i := 144) rfl rfl
theorem tw_865 : (Cond.methodLinkNest "TownBand" (244 : Nat) ({ cls := "TownBand$Rule", name := "allows", desc := "()Z" } : MethodName) "TownBand") ∈ tblN := tN4 (i := 145) rfl rfl
theorem tw_867 : (Cond.instanceMethod ({ cls := "TownBand$Rule", name := "allows", desc := "()Z" } : MethodName)) ∈ tblG := tG4 (i := 147) rfl rfl
theorem tw_868 : (Cond.code ({ cls := "TownBand$Rule", name := "allows", desc := "()Z" } : MethodName) prog_8_method_13_code (2 : Nat) (Option.some FieldType.boolean)) ∈ tblG := tG4 (i := 148) rfl rfl
theorem tw_869 : (Cond.methodLink "TownBand$Rule" (89 : Nat) ({ cls := "TownBand$Rule", name := "work", desc := "(I)V" } : MethodName)) ∈ tblG := tG4 (i := 149) rfl rfl
theorem tw_871 : (Cond.instanceMethod ({ cls := "TownBand$Rule", name := "work", desc := "(I)V" } : MethodName)) ∈ tblG := tG4 (i := 151) rfl rfl
theorem tw_872 : (Cond.code ({ cls := "TownBand$Rule", name := "work", desc := "(I)V" } : MethodName) prog_8_method_14_code (4 : Nat) (Option.none : Option FieldType)) ∈ tblG := tG4 (i := 152) rfl rfl
theorem tw_873 : (Cond.methodLink "TownBand$Rule" (96 : Nat) ({ cls := "TownBand$Rule", name := "push", desc := "(I)V" } : MethodName)) ∈ tblG := tG4 (i := 153) rfl rfl
theorem tw_875 : (Cond.instanceMethod ({ cls := "TownBand$Rule", name := "push", desc := "(I)V" } : MethodName)) ∈ tblG := tG4 (i := 155) rfl rfl
theorem tw_876 : (Cond.code ({ cls := "TownBand$Rule", name := "push", desc := "(I)V" } : MethodName) prog_8_method_16_code (2 : Nat) (Option.none : Option FieldType)) ∈ tblG := tG4 (i := 156) rfl rfl
theorem tw_877 : (Cond.methodLink "TownBand$Rule" (92 : Nat) ({ cls := "TownBand$Rule", name := "pop", desc := "()I" } : MethodName)) ∈ tblG := tG4 (i := 157) rfl rfl
theorem tw_879 : (Cond.instanceMethod ({ cls := "TownBand$Rule", name := "pop", desc := "()I" } : MethodName)) ∈ tblG := tG4 (i := 159) rfl rfl
theorem tw_880 : (Cond.code ({ cls := "TownBand$Rule", name := "pop", desc := "()I" } : MethodName) prog_8_method_17_code (1 : Nat) (Option.some FieldType.int)) ∈ tblG := tG4 (i := 160) rfl rfl
theorem tw_881 : (Cond.methodLink "TownBand$Rule" (99 : Nat) ({ cls := "TownBand$Rule", name := "join", desc := "(III)I" } : MethodName)) ∈ tblG := tG4 (i := 161) rfl rfl
theorem tw_882 : (Cond.static ({ cls := "TownBand$Rule", name := "join", desc := "(III)I" } : MethodName)) ∈ tblG := tG4 (i := 162) rfl rfl
theorem tw_883 : (Cond.code ({ cls := "TownBand$Rule", name := "join", desc := "(III)I" } : MethodName) prog_8_method_15_code (3 : Nat) (Option.some FieldType.int)) ∈ tblG := tG4 (i := 163) rfl rfl
theorem tw_884 : (Cond.methodLink "TownBandLaw" (120 : Nat) ({ cls := "TownBand", name := "count", desc := "(I)I" } : MethodName)) ∈ tblG := tG4 (i := 164) rfl rfl
theorem tw_885 : (Cond.instanceMethod ({ cls := "TownBand", name := "count", desc := "(I)I" } : MethodName)) ∈ tblG := tG4 (i := 165) rfl rfl
theorem tw_886 : (Cond.selects "TownBand" ({ cls := "TownBand", name := "count", desc := "(I)I" } : MethodName) ({ cls := "TownBand", name := "count", desc := "(I)I" } : MethodName)) ∈ tblG := tG4 (i := 166) rfl rfl
theorem tw_887 : (Cond.code ({ cls := "TownBand", name := "count", desc := "(I)I" } : MethodName) prog_1_method_27_code (2 : Nat) (Option.some FieldType.int)) ∈ tblG := tG4 (i := 167) rfl rfl
theorem tw_888 : (Cond.methodLink "TownBand" (251 : Nat) ({ cls := "java/lang/Integer", name := "bitCount", desc := "(I)I" } : MethodName)) ∈ tblG := tG4 (i := 168) rfl rfl
theorem tw_889 : (Cond.methodLink "TownBand" (256 : Nat) ({ cls := "TownBand", name := "playablePieces", desc := "()I" } : MethodName)) ∈ tblG := tG4 (i := 169) rfl rfl
theorem tw_891 : (Cond.instanceMethod ({ cls := "TownBand", name := "playablePieces", desc := "()I" } : MethodName)) ∈ tblG := tG4 (i := 171) rfl rfl
theorem tw_892 : (Cond.code ({ cls := "TownBand", name := "playablePieces", desc := "()I" } : MethodName) prog_1_method_28_code (4 : Nat) (Option.some FieldType.int)) ∈ tblG := tG4 (i := 172) rfl rfl
theorem tw_893 : (Cond.classLink "TownBandLaw" (10 : Nat) "TownBandModel") ∈ tblG := tG4 (i := 173) rfl rfl
theorem tw_894 : (Cond.instantiable "TownBandModel" (48 : Nat)) ∈ tblG := tG4 (i := 174) rfl rfl
theorem tw_895 : (Cond.methodLink "TownBandLaw" (12 : Nat) ({ cls := "TownBandModel", name := "<init>", desc := "()V" } : MethodName)) ∈ tblG := tG4 (i := 175) rfl rfl
theorem tw_896 : (Cond.instanceMethod ({ cls := "TownBandModel", name := "<init>", desc := "()V" } : MethodName)) ∈ tblG := tG4 (i := 176) rfl rfl
theorem tw_897 : (Cond.code ({ cls := "TownBandModel", name := "<init>", desc := "()V" } : MethodName) prog_12_method_1_code (1 : Nat) (Option.none : Option FieldType)) ∈ tblG := tG4 (i := 177) rfl rfl
theorem tw_898 : (Cond.methodLink "TownBandModel" (1 : Nat) ({ cls := "java/lang/Object", name := "<init>", desc := "()V" } : MethodName)) ∈ tblG := tG4 (i := 178) rfl rfl
theorem tw_899 : (Cond.constant "TownBandModel" (54 : Nat) (180224 : Int32)) ∈ tblG := tG4 (i := 179) rfl rfl
theorem tw_900 : (Cond.fieldLink "TownBandModel" (104 : Nat) "TownBandModel" "told" "I") ∈ tblG := tG4 (i := 180) rfl rfl
theorem tw_901 : (Cond.fieldLink "TownBandModel" (107 : Nat) "TownBandModel" "players" "I") ∈ tblG := tG4 (i := 181) rfl rfl
theorem tw_902 : (Cond.fieldLink "TownBandModel" (7 : Nat) "TownBandModel" "age" "[I") ∈ tblG := tG4 (i := 182) rfl rfl
theorem tw_903 : (Cond.fieldLink "TownBandModel" (13 : Nat) "TownBandModel" "joined" "[I") ∈ tblG := tG4 (i := 183) rfl rfl
theorem tw_904 : (Cond.fieldLink "TownBandModel" (16 : Nat) "TownBandModel" "past" "[I") ∈ tblG := tG4 (i := 184) rfl rfl
theorem tw_905 : (Cond.fieldLink "TownBandModel" (19 : Nat) "TownBandModel" "isHere" "[Z") ∈ tblG := tG4 (i := 185) rfl rfl
theorem tw_906 : (Cond.fieldLink "TownBandModel" (23 : Nat) "TownBandModel" "costs" "[I") ∈ tblG := tG4 (i := 186) rfl rfl
theorem tw_907 : (Cond.fieldLink "TownBandModel" (117 : Nat) "TownBandModel" "pieces" "I") ∈ tblG := tG4 (i := 187) rfl rfl
theorem tw_908 : (Cond.fieldLink "TownBandModel" (26 : Nat) "TownBandModel" "name" "[J") ∈ tblG := tG4 (i := 188) rfl rfl
theorem tw_909 : (Cond.fieldLink "TownBandModel" (30 : Nat) "TownBandModel" "minutes" "[I") ∈ tblG := tG4 (i := 189) rfl rfl
theorem tw_910 : (Cond.fieldLink "TownBandModel" (33 : Nat) "TownBandModel" "lips" "[I") ∈ tblG := tG4 (i := 190) rfl rfl
theorem tw_911 : (Cond.fieldLink "TownBandModel" (36 : Nat) "TownBandModel" "key" "[I") ∈ tblG := tG4 (i := 191) rfl rfl
theorem tw_912 : (Cond.fieldLink "TownBandModel" (39 : Nat) "TownBandModel" "parts" "[I") ∈ tblG := tG4 (i := 192) rfl rfl
theorem tw_913 : (Cond.fieldLink "TownBandModel" (42 : Nat) "TownBandModel" "must" "[I") ∈ tblG := tG4 (i := 193) rfl rfl
theorem tw_914 : (Cond.fieldLink "TownBandModel" (45 : Nat) "TownBandModel" "many" "[I") ∈ tblG := tG4 (i := 194) rfl rfl
theorem tw_915 : (Cond.fieldLink "TownBandModel" (48 : Nat) "TownBandModel" "which" "[I") ∈ tblG := tG4 (i := 195) rfl rfl
theorem tw_916 : (Cond.fieldLink "TownBandModel" (51 : Nat) "TownBandModel" "chairs" "[I") ∈ tblG := tG4 (i := 196) rfl rfl
theorem tw_917 : (Cond.fieldLink "TownBandModel" (55 : Nat) "TownBandModel" "best" "[I") ∈ tblG := tG4 (i := 197) rfl rfl
theorem tw_918 : (Cond.fieldLink "TownBandModel" (176 : Nat) "TownBandModel" "planLong" "I") ∈ tblG := tG4 (i := 198) rfl rfl
theorem tw_919 : (Cond.fieldLink "TownBandModel" (173 : Nat) "TownBandModel" "planStrain" "I") ∈ tblG := tG4 (i := 199) rfl rfl
theorem tw_920 : (Cond.fieldLink "TownBandModel" (58 : Nat) "TownBandModel" "plan" "[I") ∈ tblG := tG4 (i := 200) rfl rfl
theorem tw_921 : (Cond.fieldLink "TownBandModel" (61 : Nat) "TownBandModel" "left" "[I") ∈ tblG := tG4 (i := 201) rfl rfl
theorem tw_922 : (Cond.fieldLink "TownBandModel" (64 : Nat) "TownBandModel" "can" "[Z") ∈ tblG := tG4 (i := 202) rfl rfl
theorem tw_923 : (Cond.fieldLink "TownBandModel" (67 : Nat) "TownBandModel" "isGood" "[Z") ∈ tblG := tG4 (i := 203) rfl rfl
theorem tw_924 : (Cond.fieldLink "TownBandModel" (185 : Nat) "TownBandModel" "words" "I") ∈ tblG := tG4 (i := 204) rfl rfl
theorem tw_925 : (Cond.fieldLink "TownBandModel" (70 : Nat) "TownBandModel" "wordCopy" "[I") ∈ tblG := tG4 (i := 205) rfl rfl
theorem tw_926 : (Cond.fieldLink "TownBandModel" (73 : Nat) "TownBandModel" "wordDay" "[I") ∈ tblG := tG4 (i := 206) rfl rfl
theorem tw_927 : (Cond.fieldLink "TownBandModel" (76 : Nat) "TownBandModel" "wordThere" "[I") ∈ tblG := tG4 (i := 207) rfl rfl
theorem tw_928 : (Cond.fieldLink "TownBandModel" (79 : Nat) "TownBandModel" "tape" "[I") ∈ tblG := tG4 (i := 208) rfl rfl
theorem tw_929 : (Cond.fieldLink "TownBandModel" (194 : Nat) "TownBandModel" "taped" "I") ∈ tblG := tG4 (i := 209) rfl rfl
theorem tw_930 : (Cond.fieldLink "TownBandModel" (204 : Nat) "TownBandModel" "reads" "I") ∈ tblG := tG4 (i := 210) rfl rfl
theorem tw_931 : (Cond.fieldLink "TownBandModel" (219 : Nat) "TownBandModel" "from" "I") ∈ tblG := tG4 (i := 211) rfl rfl
theorem tw_932 : (Cond.fieldLink "TownBandModel" (222 : Nat) "TownBandModel" "token" "I") ∈ tblG := tG4 (i := 212) rfl rfl
theorem tw_933 : (Cond.fieldLink "TownBandModel" (235 : Nat) "TownBandModel" "number" "I") ∈ tblG := tG4 (i := 213) rfl rfl
theorem tw_934 : (Cond.fieldLink "TownBandModel" (207 : Nat) "TownBandModel" "letters" "J") ∈ tblG := tG4 (i := 214) rfl rfl
theorem tw_935 : (Cond.fieldLink "TownBandModel" (201 : Nat) "TownBandModel" "faultKind" "I") ∈ tblG := tG4 (i := 215) rfl rfl
theorem tw_936 : (Cond.fieldLink "TownBandModel" (82 : Nat) "TownBandModel" "faultPlace" "I") ∈ tblG := tG4 (i := 216) rfl rfl
theorem tw_937 : (Cond.fieldLink "TownBandModel" (245 : Nat) "TownBandModel" "newPieces" "I") ∈ tblG := tG4 (i := 217) rfl rfl
theorem tw_938 : (Cond.fieldLink "TownBandModel" (306 : Nat) "TownBandModel" "acts" "I") ∈ tblG := tG4 (i := 218) rfl rfl
theorem tw_939 : (Cond.fieldLink "TownBandModel" (86 : Nat) "TownBandModel" "act" "[I") ∈ tblG := tG4 (i := 219) rfl rfl
theorem tw_940 : (Cond.fieldLink "TownBandModel" (89 : Nat) "TownBandModel" "worth" "[I") ∈ tblG := tG4 (i := 220) rfl rfl
theorem tw_941 : (Cond.fieldLink "TownBandModel" (272 : Nat) "TownBandModel" "newActs" "I") ∈ tblG := tG4 (i := 221) rfl rfl
theorem tw_942 : (Cond.fieldLink "TownBandModel" (92 : Nat) "TownBandModel" "newAct" "[I") ∈ tblG := tG4 (i := 222) rfl rfl
theorem tw_943 : (Cond.fieldLink "TownBandModel" (95 : Nat) "TownBandModel" "newWorth" "[I") ∈ tblG := tG4 (i := 223) rfl rfl
theorem tw_944 : (Cond.fieldLink "TownBandModel" (275 : Nat) "TownBandModel" "waiting" "I") ∈ tblG := tG4 (i := 224) rfl rfl
theorem tw_945 : (Cond.fieldLink "TownBandModel" (98 : Nat) "TownBandModel" "waits" "[I") ∈ tblG := tG4 (i := 225) rfl rfl
theorem tw_946 : (Cond.fieldLink "TownBandModel" (101 : Nat) "TownBandModel" "pile" "[I") ∈ tblG := tG4 (i := 226) rfl rfl
theorem tw_947 : (Cond.fieldLink "TownBandModel" (285 : Nat) "TownBandModel" "tokens" "I") ∈ tblG := tG4 (i := 227) rfl rfl
theorem tw_1045 : (Cond.arrayClass FieldType.boolean) ∈ tblG := tG5 (i := 85) rfl rfl
theorem tw_1046 : (Cond.methodLink "TownBandLaw" (17 : Nat) ({ cls := "TownBandModel", name := "player", desc := "(II)I" } : MethodName)) ∈ tblG := tG5 (i := 86) rfl rfl
theorem tw_1047 : (Cond.instanceMethod ({ cls := "TownBandModel", name := "player", desc := "(II)I" } : MethodName)) ∈ tblG := tG5 (i := 87) rfl rfl
theorem tw_1048 : (Cond.selects "TownBandModel" ({ cls := "TownBandModel", name := "player", desc := "(II)I" } : MethodName) ({ cls := "TownBandModel", name := "player", desc := "(II)I" } : MethodName)) ∈ tblG := tG5 (i := 88) rfl rfl
theorem tw_1049 : (Cond.code ({ cls := "TownBandModel", name := "player", desc := "(II)I" } : MethodName) prog_12_method_4_code (3 : Nat) (Option.some FieldType.int)) ∈ tblG := tG5 (i := 89) rfl rfl
theorem tw_1050 : (Cond.methodLink "TownBandLaw" (22 : Nat) ({ cls := "TownBandModel", name := "plays", desc := "(III)Z" } : MethodName)) ∈ tblG := tG5 (i := 90) rfl rfl
theorem tw_1051 : (Cond.instanceMethod ({ cls := "TownBandModel", name := "plays", desc := "(III)Z" } : MethodName)) ∈ tblG := tG5 (i := 91) rfl rfl
theorem tw_1052 : (Cond.selects "TownBandModel" ({ cls := "TownBandModel", name := "plays", desc := "(III)Z" } : MethodName) ({ cls := "TownBandModel", name := "plays", desc := "(III)Z" } : MethodName)) ∈ tblG := tG5 (i := 92) rfl rfl
theorem tw_1053 : (Cond.code ({ cls := "TownBandModel", name := "plays", desc := "(III)Z" } : MethodName) prog_12_method_6_code (4 : Nat) (Option.some FieldType.boolean)) ∈ tblG := tG5 (i := 93) rfl rfl
theorem tw_1054 : (Cond.methodLink "TownBandModel" (110 : Nat) ({ cls := "TownBandModel", name := "isPlayer", desc := "(I)Z" } : MethodName)) ∈ tblG := tG5 (i := 94) rfl rfl
theorem tw_1056 : (Cond.instanceMethod ({ cls := "TownBandModel", name := "isPlayer", desc := "(I)Z" } : MethodName)) ∈ tblG := tG5 (i := 96) rfl rfl
theorem tw_1057 : (Cond.code ({ cls := "TownBandModel", name := "isPlayer", desc := "(I)Z" } : MethodName) prog_12_method_3_code (2 : Nat) (Option.some FieldType.boolean)) ∈ tblG := tG5 (i := 97) rfl rfl
theorem tw_1058 : (Cond.methodLink "TownBandModel" (114 : Nat) ({ cls := "TownBandModel", name := "isInstrument", desc := "(I)Z" } : MethodName)) ∈ tblG := tG5 (i := 98) rfl rfl
theorem tw_1060 : (Cond.instanceMethod ({ cls := "TownBandModel", name := "isInstrument", desc := "(I)Z" } : MethodName)) ∈ tblG := tG5 (i := 100) rfl rfl
theorem tw_1061 : (Cond.code ({ cls := "TownBandModel", name := "isInstrument", desc := "(I)Z" } : MethodName) prog_12_method_5_code (2 : Nat) (Option.some FieldType.boolean)) ∈ tblG := tG5 (i := 101) rfl rfl
theorem tw_1062 : (Cond.methodLink "TownBandLaw" (26 : Nat) ({ cls := "TownBandModel", name := "cost", desc := "(II)I" } : MethodName)) ∈ tblG := tG5 (i := 102) rfl rfl
theorem tw_1063 : (Cond.instanceMethod ({ cls := "TownBandModel", name := "cost", desc := "(II)I" } : MethodName)) ∈ tblG := tG5 (i := 103) rfl rfl
theorem tw_1064 : (Cond.selects "TownBandModel" ({ cls := "TownBandModel", name := "cost", desc := "(II)I" } : MethodName) ({ cls := "TownBandModel", name := "cost", desc := "(II)I" } : MethodName)) ∈ tblG := tG5 (i := 104) rfl rfl
theorem tw_1065 : (Cond.code ({ cls := "TownBandModel", name := "cost", desc := "(II)I" } : MethodName) prog_12_method_7_code (3 : Nat) (Option.some FieldType.int)) ∈ tblG := tG5 (i := 105) rfl rfl
theorem tw_1066 : (Cond.methodLink "TownBandLaw" (31 : Nat) ({ cls := "TownBandModel", name := "here", desc := "(IZ)Z" } : MethodName)) ∈ tblG := tG5 (i := 106) rfl rfl
theorem tw_1067 : (Cond.instanceMethod ({ cls := "TownBandModel", name := "here", desc := "(IZ)Z" } : MethodName)) ∈ tblG := tG5 (i := 107) rfl rfl
theorem tw_1068 : (Cond.selects "TownBandModel" ({ cls := "TownBandModel", name := "here", desc := "(IZ)Z" } : MethodName) ({ cls := "TownBandModel", name := "here", desc := "(IZ)Z" } : MethodName)) ∈ tblG := tG5 (i := 108) rfl rfl
theorem tw_1069 : (Cond.code ({ cls := "TownBandModel", name := "here", desc := "(IZ)Z" } : MethodName) prog_12_method_8_code (3 : Nat) (Option.some FieldType.boolean)) ∈ tblG := tG5 (i := 109) rfl rfl
theorem tw_1070 : (Cond.methodLink "TownBandLaw" (58 : Nat) ({ cls := "TownBandModel", name := "piece", desc := "(II)I" } : MethodName)) ∈ tblG := tG5 (i := 110) rfl rfl
theorem tw_1071 : (Cond.instanceMethod ({ cls := "TownBandModel", name := "piece", desc := "(II)I" } : MethodName)) ∈ tblG := tG5 (i := 111) rfl rfl
theorem tw_1072 : (Cond.selects "TownBandModel" ({ cls := "TownBandModel", name := "piece", desc := "(II)I" } : MethodName) ({ cls := "TownBandModel", name := "piece", desc := "(II)I" } : MethodName)) ∈ tblG := tG5 (i := 112) rfl rfl
theorem tw_1073 : (Cond.code ({ cls := "TownBandModel", name := "piece", desc := "(II)I" } : MethodName) prog_12_method_12_code (5 : Nat) (Option.some FieldType.int)) ∈ tblG := tG5 (i := 113) rfl rfl
theorem tw_1074 : (Cond.methodLink "TownBandModel" (120 : Nat) ({ cls := "TownBandModel", name := "isPiece", desc := "(I)Z" } : MethodName)) ∈ tblG := tG5 (i := 114) rfl rfl
theorem tw_1076 : (Cond.instanceMethod ({ cls := "TownBandModel", name := "isPiece", desc := "(I)Z" } : MethodName)) ∈ tblG := tG5 (i := 116) rfl rfl
theorem tw_1077 : (Cond.code ({ cls := "TownBandModel", name := "isPiece", desc := "(I)Z" } : MethodName) prog_12_method_9_code (2 : Nat) (Option.some FieldType.boolean)) ∈ tblG := tG5 (i := 117) rfl rfl
theorem tw_1078 : (Cond.methodLink "TownBandLaw" (62 : Nat) ({ cls := "TownBandModel", name := "playable", desc := "(I)I" } : MethodName)) ∈ tblG := tG5 (i := 118) rfl rfl
theorem tw_1079 : (Cond.instanceMethod ({ cls := "TownBandModel", name := "playable", desc := "(I)I" } : MethodName)) ∈ tblG := tG5 (i := 119) rfl rfl
theorem tw_1080 : (Cond.selects "TownBandModel" ({ cls := "TownBandModel", name := "playable", desc := "(I)I" } : MethodName) ({ cls := "TownBandModel", name := "playable", desc := "(I)I" } : MethodName)) ∈ tblG := tG5 (i := 120) rfl rfl
theorem tw_1081 : (Cond.code ({ cls := "TownBandModel", name := "playable", desc := "(I)I" } : MethodName) prog_12_method_15_code (2 : Nat) (Option.some FieldType.int)) ∈ tblG := tG5 (i := 121) rfl rfl
theorem tw_1082 : (Cond.methodLink "TownBandModel" (131 : Nat) ({ cls := "TownBandModel", name := "lacking", desc := "(I)I" } : MethodName)) ∈ tblG := tG5 (i := 122) rfl rfl
theorem tw_1084 : (Cond.instanceMethod ({ cls := "TownBandModel", name := "lacking", desc := "(I)I" } : MethodName)) ∈ tblG := tG5 (i := 124) rfl rfl
theorem tw_1085 : (Cond.code ({ cls := "TownBandModel", name := "lacking", desc := "(I)I" } : MethodName) prog_12_method_14_code (8 : Nat) (Option.some FieldType.int)) ∈ tblG := tG5 (i := 125) rfl rfl
theorem tw_1086 : (Cond.methodLink "TownBandModel" (123 : Nat) ({ cls := "TownBandModel", name := "costOf", desc := "(III)I" } : MethodName)) ∈ tblG := tG5 (i := 126) rfl rfl
theorem tw_1088 : (Cond.instanceMethod ({ cls := "TownBandModel", name := "costOf", desc := "(III)I" } : MethodName)) ∈ tblG := tG5 (i := 128) rfl rfl
theorem tw_1089 : (Cond.code ({ cls := "TownBandModel", name := "costOf", desc := "(III)I" } : MethodName) prog_12_method_10_code (7 : Nat) (Option.some FieldType.int)) ∈ tblG := tG5 (i := 129) rfl rfl
theorem tw_1090 : (Cond.methodLink "TownBandModel" (127 : Nat) ({ cls := "TownBandModel", name := "ones", desc := "(I)I" } : MethodName)) ∈ tblG := tG5 (i := 130) rfl rfl
theorem tw_1092 : (Cond.instanceMethod ({ cls := "TownBandModel", name := "ones", desc := "(I)I" } : MethodName)) ∈ tblG := tG5 (i := 132) rfl rfl
theorem tw_1093 : (Cond.code ({ cls := "TownBandModel", name := "ones", desc := "(I)I" } : MethodName) prog_12_method_13_code (4 : Nat) (Option.some FieldType.int)) ∈ tblG := tG5 (i := 133) rfl rfl
theorem tw_1094 : (Cond.methodLink "TownBandLaw" (66 : Nat) ({ cls := "TownBandModel", name := "lacks", desc := "(I)I" } : MethodName)) ∈ tblG := tG5 (i := 134) rfl rfl
theorem tw_1095 : (Cond.instanceMethod ({ cls := "TownBandModel", name := "lacks", desc := "(I)I" } : MethodName)) ∈ tblG := tG5 (i := 135) rfl rfl
theorem tw_1096 : (Cond.selects "TownBandModel" ({ cls := "TownBandModel", name := "lacks", desc := "(I)I" } : MethodName) ({ cls := "TownBandModel", name := "lacks", desc := "(I)I" } : MethodName)) ∈ tblG := tG5 (i := 136) rfl rfl
theorem tw_1097 : (Cond.code ({ cls := "TownBandModel", name := "lacks", desc := "(I)I" } : MethodName) prog_12_method_16_code (2 : Nat) (Option.some FieldType.int)) ∈ tblG := tG5 (i := 137) rfl rfl
theorem tw_1098 : (Cond.methodLink "TownBandLaw" (70 : Nat) ({ cls := "TownBandModel", name := "seat", desc := "(I)I" } : MethodName)) ∈ tblG := tG5 (i := 138) rfl rfl
theorem tw_1099 : (Cond.instanceMethod ({ cls := "TownBandModel", name := "seat", desc := "(I)I" } : MethodName)) ∈ tblG := tG5 (i := 139) rfl rfl
theorem tw_1100 : (Cond.selects "TownBandModel" ({ cls := "TownBandModel", name := "seat", desc := "(I)I" } : MethodName) ({ cls := "TownBandModel", name := "seat", desc := "(I)I" } : MethodName)) ∈ tblG := tG5 (i := 140) rfl rfl
theorem tw_1101 : (Cond.code ({ cls := "TownBandModel", name := "seat", desc := "(I)I" } : MethodName) prog_12_method_22_code (2 : Nat) (Option.some FieldType.int)) ∈ tblG := tG5 (i := 141) rfl rfl
theorem tw_1102 : (Cond.methodLink "TownBandModel" (155 : Nat) ({ cls := "TownBandModel", name := "seats", desc := "(IZ)I" } : MethodName)) ∈ tblG := tG5 (i := 142) rfl rfl
theorem tw_1104 : (Cond.instanceMethod ({ cls := "TownBandModel", name := "seats", desc := "(IZ)I" } : MethodName)) ∈ tblG := tG5 (i := 144) rfl rfl
theorem tw_1105 : (Cond.code ({ cls := "TownBandModel", name := "seats", desc := "(IZ)I" } : MethodName) prog_12_method_20_code (8 : Nat) (Option.some FieldType.int)) ∈ tblG := tG5 (i := 145) rfl rfl
theorem tw_1106 : (Cond.methodLink "TownBandModel" (147 : Nat) ({ cls := "TownBandModel", name := "finds", desc := "(IZ)V" } : MethodName)) ∈ tblG := tG5 (i := 146) rfl rfl
theorem tw_1108 : (Cond.instanceMethod ({ cls := "TownBandModel", name := "finds", desc := "(IZ)V" } : MethodName)) ∈ tblG := tG5 (i := 148) rfl rfl
theorem tw_1109 : (Cond.code ({ cls := "TownBandModel", name := "finds", desc := "(IZ)V" } : MethodName) prog_12_method_19_code (10 : Nat) (Option.none : Option FieldType)) ∈ tblG := tG5 (i := 149) rfl rfl
theorem tw_1110 : (Cond.constant "TownBandModel" (138 : Nat) (1000000 : Int32)) ∈ tblG := tG5 (i := 150) rfl rfl
theorem tw_1111 : (Cond.methodLink "TownBandModel" (139 : Nat) ({ cls := "TownBandModel", name := "mayBe", desc := "(III)Z" } : MethodName)) ∈ tblG := tG5 (i := 151) rfl rfl
theorem tw_1113 : (Cond.instanceMethod ({ cls := "TownBandModel", name := "mayBe", desc := "(III)Z" } : MethodName)) ∈ tblG := tG5 (i := 153) rfl rfl
theorem tw_1114 : (Cond.code ({ cls := "TownBandModel", name := "mayBe", desc := "(III)Z" } : MethodName) prog_12_method_18_code (4 : Nat) (Option.some FieldType.boolean)) ∈ tblG := tG5 (i := 154) rfl rfl
theorem tw_1115 : (Cond.methodLink "TownBandModel" (134 : Nat) ({ cls := "TownBandModel", name := "isMust", desc := "(II)Z" } : MethodName)) ∈ tblG := tG5 (i := 155) rfl rfl
theorem tw_1117 : (Cond.instanceMethod ({ cls := "TownBandModel", name := "isMust", desc := "(II)Z" } : MethodName)) ∈ tblG := tG5 (i := 157) rfl rfl
theorem tw_1118 : (Cond.code ({ cls := "TownBandModel", name := "isMust", desc := "(II)Z" } : MethodName) prog_12_method_11_code (3 : Nat) (Option.some FieldType.boolean)) ∈ tblG := tG5 (i := 158) rfl rfl
theorem tw_1119 : (Cond.methodLink "TownBandModel" (143 : Nat) ({ cls := "TownBandModel", name := "counts", desc := "(IIIZ)I" } : MethodName)) ∈ tblG := tG5 (i := 159) rfl rfl
theorem tw_1121 : (Cond.instanceMethod ({ cls := "TownBandModel", name := "counts", desc := "(IIIZ)I" } : MethodName)) ∈ tblG := tG5 (i := 161) rfl rfl
theorem tw_1122 : (Cond.code ({ cls := "TownBandModel", name := "counts", desc := "(IIIZ)I" } : MethodName) prog_12_method_17_code (5 : Nat) (Option.some FieldType.int)) ∈ tblG := tG5 (i := 162) rfl rfl
theorem tw_1123 : (Cond.methodLink "TownBandModel" (151 : Nat) ({ cls := "TownBandModel", name := "fits", desc := "(IIIIZ)Z" } : MethodName)) ∈ tblG := tG5 (i := 163) rfl rfl
theorem tw_1125 : (Cond.instanceMethod ({ cls := "TownBandModel", name := "fits", desc := "(IIIIZ)Z" } : MethodName)) ∈ tblG := tG5 (i := 165) rfl rfl
theorem tw_1126 : (Cond.code ({ cls := "TownBandModel", name := "fits", desc := "(IIIIZ)Z" } : MethodName) prog_12_method_21_code (7 : Nat) (Option.some FieldType.boolean)) ∈ tblG := tG5 (i := 166) rfl rfl
theorem tw_1127 : (Cond.methodLink "TownBandLaw" (74 : Nat) ({ cls := "TownBandModel", name := "again", desc := "(I)I" } : MethodName)) ∈ tblG := tG5 (i := 167) rfl rfl
theorem tw_1128 : (Cond.instanceMethod ({ cls := "TownBandModel", name := "again", desc := "(I)I" } : MethodName)) ∈ tblG := tG5 (i := 168) rfl rfl
theorem tw_1129 : (Cond.selects "TownBandModel" ({ cls := "TownBandModel", name := "again", desc := "(I)I" } : MethodName) ({ cls := "TownBandModel", name := "again", desc := "(I)I" } : MethodName)) ∈ tblG := tG5 (i := 169) rfl rfl
theorem tw_1130 : (Cond.code ({ cls := "TownBandModel", name := "again", desc := "(I)I" } : MethodName) prog_12_method_23_code (2 : Nat) (Option.some FieldType.int)) ∈ tblG := tG5 (i := 170) rfl rfl
theorem tw_1131 : (Cond.methodLink "TownBandLaw" (78 : Nat) ({ cls := "TownBandModel", name := "chair", desc := "(II)I" } : MethodName)) ∈ tblG := tG5 (i := 171) rfl rfl
theorem tw_1132 : (Cond.instanceMethod ({ cls := "TownBandModel", name := "chair", desc := "(II)I" } : MethodName)) ∈ tblG := tG5 (i := 172) rfl rfl
theorem tw_1133 : (Cond.selects "TownBandModel" ({ cls := "TownBandModel", name := "chair", desc := "(II)I" } : MethodName) ({ cls := "TownBandModel", name := "chair", desc := "(II)I" } : MethodName)) ∈ tblG := tG5 (i := 173) rfl rfl
theorem tw_1134 : (Cond.code ({ cls := "TownBandModel", name := "chair", desc := "(II)I" } : MethodName) prog_12_method_25_code (3 : Nat) (Option.some FieldType.int)) ∈ tblG := tG5 (i := 174) rfl rfl
theorem tw_1135 : (Cond.methodLink "TownBandModel" (159 : Nat) ({ cls := "TownBandModel", name := "isPart", desc := "(II)Z" } : MethodName)) ∈ tblG := tG5 (i := 175) rfl rfl
theorem tw_1137 : (Cond.instanceMethod ({ cls := "TownBandModel", name := "isPart", desc := "(II)Z" } : MethodName)) ∈ tblG := tG5 (i := 177) rfl rfl
theorem tw_1138 : (Cond.code ({ cls := "TownBandModel", name := "isPart", desc := "(II)Z" } : MethodName) prog_12_method_24_code (3 : Nat) (Option.some FieldType.boolean)) ∈ tblG := tG5 (i := 178) rfl rfl
theorem tw_1139 : (Cond.methodLink "TownBandLaw" (82 : Nat) ({ cls := "TownBandModel", name := "sit", desc := "(III)Z" } : MethodName)) ∈ tblG := tG5 (i := 179) rfl rfl
theorem tw_1140 : (Cond.instanceMethod ({ cls := "TownBandModel", name := "sit", desc := "(III)Z" } : MethodName)) ∈ tblG := tG5 (i := 180) rfl rfl
theorem tw_1141 : (Cond.selects "TownBandModel" ({ cls := "TownBandModel", name := "sit", desc := "(III)Z" } : MethodName) ({ cls := "TownBandModel", name := "sit", desc := "(III)Z" } : MethodName)) ∈ tblG := tG5 (i := 181) rfl rfl
theorem tw_1142 : (Cond.code ({ cls := "TownBandModel", name := "sit", desc := "(III)Z" } : MethodName) prog_12_method_26_code (5 : Nat) (Option.some FieldType.boolean)) ∈ tblG := tG5 (i := 182) rfl rfl
theorem tw_1143 : (Cond.methodLink "TownBandLaw" (86 : Nat) ({ cls := "TownBandModel", name := "seating", desc := "(II)I" } : MethodName)) ∈ tblG := tG5 (i := 183) rfl rfl
theorem tw_1144 : (Cond.instanceMethod ({ cls := "TownBandModel", name := "seating", desc := "(II)I" } : MethodName)) ∈ tblG := tG5 (i := 184) rfl rfl
theorem tw_1145 : (Cond.selects "TownBandModel" ({ cls := "TownBandModel", name := "seating", desc := "(II)I" } : MethodName) ({ cls := "TownBandModel", name := "seating", desc := "(II)I" } : MethodName)) ∈ tblG := tG5 (i := 185) rfl rfl
theorem tw_1146 : (Cond.code ({ cls := "TownBandModel", name := "seating", desc := "(II)I" } : MethodName) prog_12_method_27_code (9 : Nat) (Option.some FieldType.int)) ∈ tblG := tG5 (i := 186) rfl rfl
theorem tw_1147 : (Cond.methodLink "TownBandLaw" (90 : Nat) ({ cls := "TownBandModel", name := "programme", desc := "(II)I" } : MethodName)) ∈ tblG := tG5 (i := 187) rfl rfl
theorem tw_1148 : (Cond.instanceMethod ({ cls := "TownBandModel", name := "programme", desc := "(II)I" } : MethodName)) ∈ tblG := tG5 (i := 188) rfl rfl
theorem tw_1149 : (Cond.selects "TownBandModel" ({ cls := "TownBandModel", name := "programme", desc := "(II)I" } : MethodName) ({ cls := "TownBandModel", name := "programme", desc := "(II)I" } : MethodName)) ∈ tblG := tG5 (i := 189) rfl rfl
theorem tw_1150 : (Cond.code ({ cls := "TownBandModel", name := "programme", desc := "(II)I" } : MethodName) prog_12_method_31_code (10 : Nat) (Option.some FieldType.int)) ∈ tblG := tG5 (i := 190) rfl rfl
theorem tw_1151 : (Cond.methodLink "TownBandModel" (162 : Nat) ({ cls := "TownBandModel", name := "sumOf", desc := "(I)I" } : MethodName)) ∈ tblG := tG5 (i := 191) rfl rfl
theorem tw_1153 : (Cond.instanceMethod ({ cls := "TownBandModel", name := "sumOf", desc := "(I)I" } : MethodName)) ∈ tblG := tG5 (i := 193) rfl rfl
theorem tw_1154 : (Cond.code ({ cls := "TownBandModel", name := "sumOf", desc := "(I)I" } : MethodName) prog_12_method_28_code (4 : Nat) (Option.some FieldType.int)) ∈ tblG := tG5 (i := 194) rfl rfl
theorem tw_1155 : (Cond.methodLink "TownBandModel" (165 : Nat) ({ cls := "TownBandModel", name := "goes", desc := "(IIII)Z" } : MethodName)) ∈ tblG := tG5 (i := 195) rfl rfl
theorem tw_1157 : (Cond.instanceMethod ({ cls := "TownBandModel", name := "goes", desc := "(IIII)Z" } : MethodName)) ∈ tblG := tG5 (i := 197) rfl rfl
theorem tw_1158 : (Cond.code ({ cls := "TownBandModel", name := "goes", desc := "(IIII)Z" } : MethodName) prog_12_method_30_code (5 : Nat) (Option.some FieldType.boolean)) ∈ tblG := tG5 (i := 198) rfl rfl
theorem tw_1159 : (Cond.methodLink "TownBandModel" (169 : Nat) ({ cls := "TownBandModel", name := "strainOf", desc := "(II)I" } : MethodName)) ∈ tblG := tG5 (i := 199) rfl rfl
theorem tw_1161 : (Cond.instanceMethod ({ cls := "TownBandModel", name := "strainOf", desc := "(II)I" } : MethodName)) ∈ tblG := tG5 (i := 201) rfl rfl
theorem tw_1162 : (Cond.code ({ cls := "TownBandModel", name := "strainOf", desc := "(II)I" } : MethodName) prog_12_method_29_code (4 : Nat) (Option.some FieldType.int)) ∈ tblG := tG5 (i := 202) rfl rfl
theorem tw_1163 : (Cond.methodLink "TownBandLaw" (94 : Nat) ({ cls := "TownBandModel", name := "plan", desc := "(I)I" } : MethodName)) ∈ tblG := tG5 (i := 203) rfl rfl
theorem tw_1164 : (Cond.instanceMethod ({ cls := "TownBandModel", name := "plan", desc := "(I)I" } : MethodName)) ∈ tblG := tG5 (i := 204) rfl rfl
theorem tw_1165 : (Cond.selects "TownBandModel" ({ cls := "TownBandModel", name := "plan", desc := "(I)I" } : MethodName) ({ cls := "TownBandModel", name := "plan", desc := "(I)I" } : MethodName)) ∈ tblG := tG5 (i := 205) rfl rfl
theorem tw_1166 : (Cond.code ({ cls := "TownBandModel", name := "plan", desc := "(I)I" } : MethodName) prog_12_method_32_code (2 : Nat) (Option.some FieldType.int)) ∈ tblG := tG5 (i := 206) rfl rfl
theorem tw_1167 : (Cond.methodLink "TownBandLaw" (98 : Nat) ({ cls := "TownBandModel", name := "strain", desc := "()I" } : MethodName)) ∈ tblG := tG5 (i := 207) rfl rfl
theorem tw_1168 : (Cond.instanceMethod ({ cls := "TownBandModel", name := "strain", desc := "()I" } : MethodName)) ∈ tblG := tG5 (i := 208) rfl rfl
theorem tw_1169 : (Cond.selects "TownBandModel" ({ cls := "TownBandModel", name := "strain", desc := "()I" } : MethodName) ({ cls := "TownBandModel", name := "strain", desc := "()I" } : MethodName)) ∈ tblG := tG5 (i := 209) rfl rfl
theorem tw_1170 : (Cond.code ({ cls := "TownBandModel", name := "strain", desc := "()I" } : MethodName) prog_12_method_33_code (1 : Nat) (Option.some FieldType.int)) ∈ tblG := tG5 (i := 210) rfl rfl
theorem tw_1171 : (Cond.methodLink "TownBandLaw" (103 : Nat) ({ cls := "TownBandModel", name := "tell", desc := "(III)I" } : MethodName)) ∈ tblG := tG5 (i := 211) rfl rfl
theorem tw_1172 : (Cond.instanceMethod ({ cls := "TownBandModel", name := "tell", desc := "(III)I" } : MethodName)) ∈ tblG := tG5 (i := 212) rfl rfl
theorem tw_1173 : (Cond.selects "TownBandModel" ({ cls := "TownBandModel", name := "tell", desc := "(III)I" } : MethodName) ({ cls := "TownBandModel", name := "tell", desc := "(III)I" } : MethodName)) ∈ tblG := tG5 (i := 213) rfl rfl
theorem tw_1174 : (Cond.code ({ cls := "TownBandModel", name := "tell", desc := "(III)I" } : MethodName) prog_12_method_36_code (4 : Nat) (Option.some FieldType.int)) ∈ tblG := tG5 (i := 214) rfl rfl
theorem tw_1175 : (Cond.methodLink "TownBandModel" (179 : Nat) ({ cls := "TownBandModel", name := "isDay", desc := "(I)Z" } : MethodName)) ∈ tblG := tG5 (i := 215) rfl rfl
theorem tw_1177 : (Cond.instanceMethod ({ cls := "TownBandModel", name := "isDay", desc := "(I)Z" } : MethodName)) ∈ tblG := tG5 (i := 217) rfl rfl
theorem tw_1178 : (Cond.code ({ cls := "TownBandModel", name := "isDay", desc := "(I)Z" } : MethodName) prog_12_method_34_code (2 : Nat) (Option.some FieldType.boolean)) ∈ tblG := tG5 (i := 218) rfl rfl
theorem tw_1179 : (Cond.methodLink "TownBandModel" (182 : Nat) ({ cls := "TownBandModel", name := "isThere", desc := "(I)Z" } : MethodName)) ∈ tblG := tG5 (i := 219) rfl rfl
theorem tw_1181 : (Cond.instanceMethod ({ cls := "TownBandModel", name := "isThere", desc := "(I)Z" } : MethodName)) ∈ tblG := tG5 (i := 221) rfl rfl
theorem tw_1182 : (Cond.code ({ cls := "TownBandModel", name := "isThere", desc := "(I)Z" } : MethodName) prog_12_method_35_code (2 : Nat) (Option.some FieldType.boolean)) ∈ tblG := tG5 (i := 222) rfl rfl
theorem tw_1183 : (Cond.methodLink "TownBandLaw" (107 : Nat) ({ cls := "TownBandModel", name := "where", desc := "(III)I" } : MethodName)) ∈ tblG := tG5 (i := 223) rfl rfl
theorem tw_1184 : (Cond.instanceMethod ({ cls := "TownBandModel", name := "where", desc := "(III)I" } : MethodName)) ∈ tblG := tG5 (i := 224) rfl rfl
theorem tw_1185 : (Cond.selects "TownBandModel" ({ cls := "TownBandModel", name := "where", desc := "(III)I" } : MethodName) ({ cls := "TownBandModel", name := "where", desc := "(III)I" } : MethodName)) ∈ tblG := tG5 (i := 225) rfl rfl
theorem tw_1186 : (Cond.code ({ cls := "TownBandModel", name := "where", desc := "(III)I" } : MethodName) prog_12_method_38_code (4 : Nat) (Option.some FieldType.int)) ∈ tblG := tG5 (i := 226) rfl rfl
theorem tw_1187 : (Cond.methodLink "TownBandModel" (188 : Nat) ({ cls := "TownBandModel", name := "whereIs", desc := "(III)I" } : MethodName)) ∈ tblG := tG5 (i := 227) rfl rfl
theorem tw_1189 : (Cond.instanceMethod ({ cls := "TownBandModel", name := "whereIs", desc := "(III)I" } : MethodName)) ∈ tblG := tG5 (i := 229) rfl rfl
theorem tw_1190 : (Cond.code ({ cls := "TownBandModel", name := "whereIs", desc := "(III)I" } : MethodName) prog_12_method_37_code (7 : Nat) (Option.some FieldType.int)) ∈ tblG := tG5 (i := 230) rfl rfl
theorem tw_1191 : (Cond.methodLink "TownBandLaw" (111 : Nat) ({ cls := "TownBandModel", name := "copies", desc := "(III)I" } : MethodName)) ∈ tblG := tG5 (i := 231) rfl rfl
theorem tw_1192 : (Cond.instanceMethod ({ cls := "TownBandModel", name := "copies", desc := "(III)I" } : MethodName)) ∈ tblG := tG5 (i := 232) rfl rfl
theorem tw_1193 : (Cond.selects "TownBandModel" ({ cls := "TownBandModel", name := "copies", desc := "(III)I" } : MethodName) ({ cls := "TownBandModel", name := "copies", desc := "(III)I" } : MethodName)) ∈ tblG := tG5 (i := 233) rfl rfl
theorem tw_1194 : (Cond.code ({ cls := "TownBandModel", name := "copies", desc := "(III)I" } : MethodName) prog_12_method_40_code (4 : Nat) (Option.some FieldType.int)) ∈ tblG := tG5 (i := 234) rfl rfl
theorem tw_1195 : (Cond.methodLink "TownBandModel" (191 : Nat) ({ cls := "TownBandModel", name := "copiesAt", desc := "(III)I" } : MethodName)) ∈ tblG := tG5 (i := 235) rfl rfl
theorem tw_1197 : (Cond.instanceMethod ({ cls := "TownBandModel", name := "copiesAt", desc := "(III)I" } : MethodName)) ∈ tblG := tG5 (i := 237) rfl rfl
theorem tw_1198 : (Cond.code ({ cls := "TownBandModel", name := "copiesAt", desc := "(III)I" } : MethodName) prog_12_method_39_code (6 : Nat) (Option.some FieldType.int)) ∈ tblG := tG5 (i := 238) rfl rfl
theorem tw_1199 : (Cond.methodLink "TownBandLaw" (115 : Nat) ({ cls := "TownBandModel", name := "contest", desc := "(I)I" } : MethodName)) ∈ tblG := tG5 (i := 239) rfl rfl
theorem tw_1200 : (Cond.instanceMethod ({ cls := "TownBandModel", name := "contest", desc := "(I)I" } : MethodName)) ∈ tblG := tG6 (i := 0) rfl rfl
theorem tw_1201 : (Cond.selects "TownBandModel" ({ cls := "TownBandModel", name := "contest", desc := "(I)I" } : MethodName) ({ cls := "TownBandModel", name := "contest", desc := "(I)I" } : MethodName)) ∈ tblG := tG6 (i := 1) rfl rfl
theorem tw_1202 : (Cond.code ({ cls := "TownBandModel", name := "contest", desc := "(I)I" } : MethodName) prog_12_method_41_code (2 : Nat) (Option.some FieldType.int)) ∈ tblG := tG6 (i := 2) rfl rfl
theorem tw_1203 : (Cond.methodLink "TownBandLaw" (123 : Nat) ({ cls := "TownBandModel", name := "count", desc := "(I)I" } : MethodName)) ∈ tblG := tG6 (i := 3) rfl rfl
theorem tw_1204 : (Cond.instanceMethod ({ cls := "TownBandModel", name := "count", desc := "(I)I" } : MethodName)) ∈ tblG := tG6 (i := 4) rfl rfl
theorem tw_1205 : (Cond.selects "TownBandModel" ({ cls := "TownBandModel", name := "count", desc := "(I)I" } : MethodName) ({ cls := "TownBandModel", name := "count", desc := "(I)I" } : MethodName)) ∈ tblG := tG6 (i := 5) rfl rfl
theorem tw_1206 : (Cond.code ({ cls := "TownBandModel", name := "count", desc := "(I)I" } : MethodName) prog_12_method_42_code (4 : Nat) (Option.some FieldType.int)) ∈ tblG := tG6 (i := 6) rfl rfl
theorem tw_1207 : (Cond.methodLink "TownBandLaw" (36 : Nat) ({ cls := "TownBandModel", name := "feed", desc := "(IIIII)I" } : MethodName)) ∈ tblG := tG6 (i := 7) rfl rfl
theorem tw_1208 : (Cond.instanceMethod ({ cls := "TownBandModel", name := "feed", desc := "(IIIII)I" } : MethodName)) ∈ tblG := tG6 (i := 8) rfl rfl
theorem tw_1209 : (Cond.selects "TownBandModel" ({ cls := "TownBandModel", name := "feed", desc := "(IIIII)I" } : MethodName) ({ cls := "TownBandModel", name := "feed", desc := "(IIIII)I" } : MethodName)) ∈ tblG := tG6 (i := 9) rfl rfl
theorem tw_1210 : (Cond.code ({ cls := "TownBandModel", name := "feed", desc := "(IIIII)I" } : MethodName) prog_12_method_44_code (6 : Nat) (Option.some FieldType.int)) ∈ tblG := tG6 (i := 10) rfl rfl
theorem tw_1211 : (Cond.methodLink "TownBandModel" (197 : Nat) ({ cls := "TownBandModel", name := "lay", desc := "(I)V" } : MethodName)) ∈ tblG := tG6 (i := 11) rfl rfl
theorem tw_1213 : (Cond.instanceMethod ({ cls := "TownBandModel", name := "lay", desc := "(I)V" } : MethodName)) ∈ tblG := tG6 (i := 13) rfl rfl
theorem tw_1214 : (Cond.code ({ cls := "TownBandModel", name := "lay", desc := "(I)V" } : MethodName) prog_12_method_43_code (3 : Nat) (Option.none : Option FieldType)) ∈ tblG := tG6 (i := 14) rfl rfl
theorem tw_1215 : (Cond.methodLink "TownBandLaw" (41 : Nat) ({ cls := "TownBandModel", name := "end", desc := "(I)I" } : MethodName)) ∈ tblG := tG6 (i := 15) rfl rfl
theorem tw_1216 : (Cond.instanceMethod ({ cls := "TownBandModel", name := "end", desc := "(I)I" } : MethodName)) ∈ tblG := tG6 (i := 16) rfl rfl
theorem tw_1217 : (Cond.selects "TownBandModel" ({ cls := "TownBandModel", name := "end", desc := "(I)I" } : MethodName) ({ cls := "TownBandModel", name := "end", desc := "(I)I" } : MethodName)) ∈ tblG := tG6 (i := 17) rfl rfl
theorem tw_1218 : (Cond.code ({ cls := "TownBandModel", name := "end", desc := "(I)I" } : MethodName) prog_12_method_45_code (2 : Nat) (Option.some FieldType.int)) ∈ tblG := tG6 (i := 18) rfl rfl
theorem tw_1219 : (Cond.methodLink "TownBandLaw" (54 : Nat) ({ cls := "TownBandModel", name := "fault", desc := "(I)I" } : MethodName)) ∈ tblG := tG6 (i := 19) rfl rfl
theorem tw_1220 : (Cond.instanceMethod ({ cls := "TownBandModel", name := "fault", desc := "(I)I" } : MethodName)) ∈ tblG := tG6 (i := 20) rfl rfl
theorem tw_1221 : (Cond.selects "TownBandModel" ({ cls := "TownBandModel", name := "fault", desc := "(I)I" } : MethodName) ({ cls := "TownBandModel", name := "fault", desc := "(I)I" } : MethodName)) ∈ tblG := tG6 (i := 21) rfl rfl
theorem tw_1222 : (Cond.code ({ cls := "TownBandModel", name := "fault", desc := "(I)I" } : MethodName) prog_12_method_46_code (2 : Nat) (Option.some FieldType.int)) ∈ tblG := tG6 (i := 22) rfl rfl
theorem tw_1223 : (Cond.methodLink "TownBandLaw" (46 : Nat) ({ cls := "TownBandModel", name := "load", desc := "()I" } : MethodName)) ∈ tblG := tG6 (i := 23) rfl rfl
theorem tw_1224 : (Cond.instanceMethod ({ cls := "TownBandModel", name := "load", desc := "()I" } : MethodName)) ∈ tblG := tG6 (i := 24) rfl rfl
theorem tw_1225 : (Cond.selects "TownBandModel" ({ cls := "TownBandModel", name := "load", desc := "()I" } : MethodName) ({ cls := "TownBandModel", name := "load", desc := "()I" } : MethodName)) ∈ tblG := tG6 (i := 25) rfl rfl
theorem tw_1226 : (Cond.code ({ cls := "TownBandModel", name := "load", desc := "()I" } : MethodName) prog_12_method_61_code (2 : Nat) (Option.some FieldType.int)) ∈ tblG := tG6 (i := 26) rfl rfl
theorem tw_1227 : (Cond.methodLink "TownBandModel" (269 : Nat) ({ cls := "TownBandModel", name := "readText", desc := "()Z" } : MethodName)) ∈ tblG := tG6 (i := 27) rfl rfl
theorem tw_1229 : (Cond.instanceMethod ({ cls := "TownBandModel", name := "readText", desc := "()Z" } : MethodName)) ∈ tblG := tG6 (i := 29) rfl rfl
theorem tw_1230 : (Cond.code ({ cls := "TownBandModel", name := "readText", desc := "()Z" } : MethodName) prog_12_method_60_code (1 : Nat) (Option.some FieldType.boolean)) ∈ tblG := tG6 (i := 30) rfl rfl
theorem tw_1231 : (Cond.methodLink "TownBandModel" (248 : Nat) ({ cls := "TownBandModel", name := "next", desc := "(Z)V" } : MethodName)) ∈ tblG := tG6 (i := 31) rfl rfl
theorem tw_1233 : (Cond.instanceMethod ({ cls := "TownBandModel", name := "next", desc := "(Z)V" } : MethodName)) ∈ tblG := tG6 (i := 33) rfl rfl
theorem tw_1234 : (Cond.code ({ cls := "TownBandModel", name := "next", desc := "(Z)V" } : MethodName) prog_12_method_53_code (5 : Nat) (Option.none : Option FieldType)) ∈ tblG := tG6 (i := 34) rfl rfl
theorem tw_1235 : (Cond.methodLink "TownBandModel" (215 : Nat) ({ cls := "TownBandModel", name := "raw", desc := "()I" } : MethodName)) ∈ tblG := tG6 (i := 35) rfl rfl
theorem tw_1237 : (Cond.instanceMethod ({ cls := "TownBandModel", name := "raw", desc := "()I" } : MethodName)) ∈ tblG := tG6 (i := 37) rfl rfl
theorem tw_1238 : (Cond.code ({ cls := "TownBandModel", name := "raw", desc := "()I" } : MethodName) prog_12_method_47_code (1 : Nat) (Option.some FieldType.int)) ∈ tblG := tG6 (i := 38) rfl rfl
theorem tw_1239 : (Cond.methodLink "TownBandModel" (225 : Nat) ({ cls := "TownBandModel", name := "isSmall", desc := "(I)Z" } : MethodName)) ∈ tblG := tG6 (i := 39) rfl rfl
theorem tw_1241 : (Cond.instanceMethod ({ cls := "TownBandModel", name := "isSmall", desc := "(I)Z" } : MethodName)) ∈ tblG := tG6 (i := 41) rfl rfl
theorem tw_1242 : (Cond.code ({ cls := "TownBandModel", name := "isSmall", desc := "(I)Z" } : MethodName) prog_12_method_48_code (2 : Nat) (Option.some FieldType.boolean)) ∈ tblG := tG6 (i := 42) rfl rfl
theorem tw_1243 : (Cond.methodLink "TownBandModel" (228 : Nat) ({ cls := "TownBandModel", name := "isWordOf", desc := "(Z)Z" } : MethodName)) ∈ tblG := tG6 (i := 43) rfl rfl
theorem tw_1245 : (Cond.instanceMethod ({ cls := "TownBandModel", name := "isWordOf", desc := "(Z)Z" } : MethodName)) ∈ tblG := tG6 (i := 45) rfl rfl
theorem tw_1246 : (Cond.code ({ cls := "TownBandModel", name := "isWordOf", desc := "(Z)Z" } : MethodName) prog_12_method_51_code (2 : Nat) (Option.some FieldType.boolean)) ∈ tblG := tG6 (i := 46) rfl rfl
theorem tw_1247 : (Cond.methodLink "TownBandModel" (211 : Nat) ({ cls := "TownBandModel", name := "word", desc := "(IIIII)J" } : MethodName)) ∈ tblG := tG6 (i := 47) rfl rfl
theorem tw_1249 : (Cond.instanceMethod ({ cls := "TownBandModel", name := "word", desc := "(IIIII)J" } : MethodName)) ∈ tblG := tG6 (i := 49) rfl rfl
theorem tw_1250 : (Cond.code ({ cls := "TownBandModel", name := "word", desc := "(IIIII)J" } : MethodName) prog_12_method_50_code (8 : Nat) (Option.some FieldType.long)) ∈ tblG := tG6 (i := 50) rfl rfl
theorem tw_1251 : (Cond.methodLink "TownBandModel" (232 : Nat) ({ cls := "TownBandModel", name := "isDigit", desc := "(I)Z" } : MethodName)) ∈ tblG := tG6 (i := 51) rfl rfl
theorem tw_1253 : (Cond.instanceMethod ({ cls := "TownBandModel", name := "isDigit", desc := "(I)Z" } : MethodName)) ∈ tblG := tG6 (i := 53) rfl rfl
theorem tw_1254 : (Cond.code ({ cls := "TownBandModel", name := "isDigit", desc := "(I)Z" } : MethodName) prog_12_method_49_code (2 : Nat) (Option.some FieldType.boolean)) ∈ tblG := tG6 (i := 54) rfl rfl
theorem tw_1255 : (Cond.methodLink "TownBandModel" (238 : Nat) ({ cls := "TownBandModel", name := "isSignOf", desc := "(IZ)Z" } : MethodName)) ∈ tblG := tG6 (i := 55) rfl rfl
theorem tw_1257 : (Cond.instanceMethod ({ cls := "TownBandModel", name := "isSignOf", desc := "(IZ)Z" } : MethodName)) ∈ tblG := tG6 (i := 57) rfl rfl
theorem tw_1258 : (Cond.code ({ cls := "TownBandModel", name := "isSignOf", desc := "(IZ)Z" } : MethodName) prog_12_method_52_code (3 : Nat) (Option.some FieldType.boolean)) ∈ tblG := tG6 (i := 58) rfl rfl
theorem tw_1259 : (Cond.methodLink "TownBandModel" (261 : Nat) ({ cls := "TownBandModel", name := "isWord", desc := "(IIIII)Z" } : MethodName)) ∈ tblG := tG6 (i := 59) rfl rfl
theorem tw_1261 : (Cond.instanceMethod ({ cls := "TownBandModel", name := "isWord", desc := "(IIIII)Z" } : MethodName)) ∈ tblG := tG6 (i := 61) rfl rfl
theorem tw_1262 : (Cond.code ({ cls := "TownBandModel", name := "isWord", desc := "(IIIII)Z" } : MethodName) prog_12_method_55_code (6 : Nat) (Option.some FieldType.boolean)) ∈ tblG := tG6 (i := 62) rfl rfl
theorem tw_1263 : (Cond.methodLink "TownBandModel" (265 : Nat) ({ cls := "TownBandModel", name := "readPiece", desc := "()Z" } : MethodName)) ∈ tblG := tG6 (i := 63) rfl rfl
theorem tw_1265 : (Cond.instanceMethod ({ cls := "TownBandModel", name := "readPiece", desc := "()Z" } : MethodName)) ∈ tblG := tG6 (i := 65) rfl rfl
theorem tw_1266 : (Cond.code ({ cls := "TownBandModel", name := "readPiece", desc := "()Z" } : MethodName) prog_12_method_58_code (3 : Nat) (Option.some FieldType.boolean)) ∈ tblG := tG6 (i := 66) rfl rfl
theorem tw_1267 : (Cond.methodLink "TownBandModel" (242 : Nat) ({ cls := "TownBandModel", name := "fails", desc := "(I)Z" } : MethodName)) ∈ tblG := tG6 (i := 67) rfl rfl
theorem tw_1269 : (Cond.instanceMethod ({ cls := "TownBandModel", name := "fails", desc := "(I)Z" } : MethodName)) ∈ tblG := tG6 (i := 69) rfl rfl
theorem tw_1270 : (Cond.code ({ cls := "TownBandModel", name := "fails", desc := "(I)Z" } : MethodName) prog_12_method_54_code (2 : Nat) (Option.some FieldType.boolean)) ∈ tblG := tG6 (i := 70) rfl rfl
theorem tw_1271 : (Cond.methodLink "TownBandModel" (252 : Nat) ({ cls := "TownBandModel", name := "isSign", desc := "(I)Z" } : MethodName)) ∈ tblG := tG6 (i := 71) rfl rfl
theorem tw_1273 : (Cond.instanceMethod ({ cls := "TownBandModel", name := "isSign", desc := "(I)Z" } : MethodName)) ∈ tblG := tG6 (i := 73) rfl rfl
theorem tw_1274 : (Cond.code ({ cls := "TownBandModel", name := "isSign", desc := "(I)Z" } : MethodName) prog_12_method_56_code (2 : Nat) (Option.some FieldType.boolean)) ∈ tblG := tG6 (i := 74) rfl rfl
theorem tw_1275 : (Cond.methodLink "TownBandModel" (255 : Nat) ({ cls := "TownBandModel", name := "takes", desc := "(II)Z" } : MethodName)) ∈ tblG := tG6 (i := 75) rfl rfl
theorem tw_1277 : (Cond.instanceMethod ({ cls := "TownBandModel", name := "takes", desc := "(II)Z" } : MethodName)) ∈ tblG := tG6 (i := 77) rfl rfl
theorem tw_1278 : (Cond.code ({ cls := "TownBandModel", name := "takes", desc := "(II)Z" } : MethodName) prog_12_method_57_code (3 : Nat) (Option.some FieldType.boolean)) ∈ tblG := tG6 (i := 78) rfl rfl
theorem tw_1279 : (Cond.methodLink "TownBandModel" (258 : Nat) ({ cls := "TownBandModel", name := "readPart", desc := "(I)Z" } : MethodName)) ∈ tblG := tG6 (i := 79) rfl rfl
theorem tw_1281 : (Cond.instanceMethod ({ cls := "TownBandModel", name := "readPart", desc := "(I)Z" } : MethodName)) ∈ tblG := tG6 (i := 81) rfl rfl
theorem tw_1282 : (Cond.code ({ cls := "TownBandModel", name := "readPart", desc := "(I)Z" } : MethodName) prog_12_method_59_code (6 : Nat) (Option.some FieldType.boolean)) ∈ tblG := tG6 (i := 82) rfl rfl
theorem tw_1283 : (Cond.methodLink "TownBandLaw" (50 : Nat) ({ cls := "TownBandModel", name := "rule", desc := "()I" } : MethodName)) ∈ tblG := tG6 (i := 83) rfl rfl
theorem tw_1284 : (Cond.instanceMethod ({ cls := "TownBandModel", name := "rule", desc := "()I" } : MethodName)) ∈ tblG := tG6 (i := 84) rfl rfl
theorem tw_1285 : (Cond.selects "TownBandModel" ({ cls := "TownBandModel", name := "rule", desc := "()I" } : MethodName) ({ cls := "TownBandModel", name := "rule", desc := "()I" } : MethodName)) ∈ tblG := tG6 (i := 85) rfl rfl
theorem tw_1286 : (Cond.code ({ cls := "TownBandModel", name := "rule", desc := "()I" } : MethodName) prog_12_method_70_code (3 : Nat) (Option.some FieldType.int)) ∈ tblG := tG6 (i := 86) rfl rfl
theorem tw_1287 : (Cond.methodLink "TownBandModel" (303 : Nat) ({ cls := "TownBandModel", name := "readRule", desc := "()Z" } : MethodName)) ∈ tblG := tG6 (i := 87) rfl rfl
theorem tw_1289 : (Cond.instanceMethod ({ cls := "TownBandModel", name := "readRule", desc := "()Z" } : MethodName)) ∈ tblG := tG6 (i := 89) rfl rfl
theorem tw_1290 : (Cond.code ({ cls := "TownBandModel", name := "readRule", desc := "()Z" } : MethodName) prog_12_method_69_code (2 : Nat) (Option.some FieldType.boolean)) ∈ tblG := tG6 (i := 90) rfl rfl
theorem tw_1291 : (Cond.methodLink "TownBandModel" (297 : Nat) ({ cls := "TownBandModel", name := "open", desc := "()I" } : MethodName)) ∈ tblG := tG6 (i := 91) rfl rfl
theorem tw_1293 : (Cond.instanceMethod ({ cls := "TownBandModel", name := "open", desc := "()I" } : MethodName)) ∈ tblG := tG6 (i := 93) rfl rfl
theorem tw_1294 : (Cond.code ({ cls := "TownBandModel", name := "open", desc := "()I" } : MethodName) prog_12_method_65_code (3 : Nat) (Option.some FieldType.int)) ∈ tblG := tG6 (i := 94) rfl rfl
theorem tw_1295 : (Cond.methodLink "TownBandModel" (291 : Nat) ({ cls := "TownBandModel", name := "step", desc := "()V" } : MethodName)) ∈ tblG := tG6 (i := 95) rfl rfl
theorem tw_1297 : (Cond.instanceMethod ({ cls := "TownBandModel", name := "step", desc := "()V" } : MethodName)) ∈ tblG := tG6 (i := 97) rfl rfl
theorem tw_1298 : (Cond.code ({ cls := "TownBandModel", name := "step", desc := "()V" } : MethodName) prog_12_method_67_code (1 : Nat) (Option.none : Option FieldType)) ∈ tblG := tG6 (i := 98) rfl rfl
theorem tw_1299 : (Cond.methodLink "TownBandModel" (300 : Nat) ({ cls := "TownBandModel", name := "readSums", desc := "()Z" } : MethodName)) ∈ tblG := tG6 (i := 99) rfl rfl
theorem tw_1301 : (Cond.instanceMethod ({ cls := "TownBandModel", name := "readSums", desc := "()Z" } : MethodName)) ∈ tblG := tG6 (i := 101) rfl rfl
theorem tw_1302 : (Cond.code ({ cls := "TownBandModel", name := "readSums", desc := "()Z" } : MethodName) prog_12_method_68_code (2 : Nat) (Option.some FieldType.boolean)) ∈ tblG := tG6 (i := 102) rfl rfl
theorem tw_1303 : (Cond.methodLink "TownBandModel" (288 : Nat) ({ cls := "TownBandModel", name := "value", desc := "()Z" } : MethodName)) ∈ tblG := tG6 (i := 103) rfl rfl
theorem tw_1305 : (Cond.instanceMethod ({ cls := "TownBandModel", name := "value", desc := "()Z" } : MethodName)) ∈ tblG := tG6 (i := 105) rfl rfl
theorem tw_1306 : (Cond.code ({ cls := "TownBandModel", name := "value", desc := "()Z" } : MethodName) prog_12_method_66_code (1 : Nat) (Option.some FieldType.boolean)) ∈ tblG := tG6 (i := 106) rfl rfl
theorem tw_1307 : (Cond.methodLink "TownBandModel" (281 : Nat) ({ cls := "TownBandModel", name := "does", desc := "(II)V" } : MethodName)) ∈ tblG := tG6 (i := 107) rfl rfl
theorem tw_1309 : (Cond.instanceMethod ({ cls := "TownBandModel", name := "does", desc := "(II)V" } : MethodName)) ∈ tblG := tG6 (i := 109) rfl rfl
theorem tw_1310 : (Cond.code ({ cls := "TownBandModel", name := "does", desc := "(II)V" } : MethodName) prog_12_method_62_code (3 : Nat) (Option.none : Option FieldType)) ∈ tblG := tG6 (i := 110) rfl rfl
theorem tw_1311 : (Cond.methodLink "TownBandModel" (294 : Nat) ({ cls := "TownBandModel", name := "settles", desc := "(I)V" } : MethodName)) ∈ tblG := tG6 (i := 111) rfl rfl
theorem tw_1313 : (Cond.instanceMethod ({ cls := "TownBandModel", name := "settles", desc := "(I)V" } : MethodName)) ∈ tblG := tG6 (i := 113) rfl rfl
theorem tw_1314 : (Cond.code ({ cls := "TownBandModel", name := "settles", desc := "(I)V" } : MethodName) prog_12_method_64_code (2 : Nat) (Option.none : Option FieldType)) ∈ tblG := tG6 (i := 114) rfl rfl
theorem tw_1315 : (Cond.methodLink "TownBandModel" (278 : Nat) ({ cls := "TownBandModel", name := "rank", desc := "(I)I" } : MethodName)) ∈ tblG := tG6 (i := 115) rfl rfl
theorem tw_1317 : (Cond.instanceMethod ({ cls := "TownBandModel", name := "rank", desc := "(I)I" } : MethodName)) ∈ tblG := tG6 (i := 117) rfl rfl
theorem tw_1318 : (Cond.code ({ cls := "TownBandModel", name := "rank", desc := "(I)I" } : MethodName) prog_12_method_63_code (2 : Nat) (Option.some FieldType.int)) ∈ tblG := tG6 (i := 118) rfl rfl
theorem tw_1319 : (Cond.methodLink "TownBandLaw" (119 : Nat) ({ cls := "TownBandModel", name := "may", desc := "(II)I" } : MethodName)) ∈ tblG := tG6 (i := 119) rfl rfl
theorem tw_1320 : (Cond.instanceMethod ({ cls := "TownBandModel", name := "may", desc := "(II)I" } : MethodName)) ∈ tblG := tG6 (i := 120) rfl rfl
theorem tw_1321 : (Cond.selects "TownBandModel" ({ cls := "TownBandModel", name := "may", desc := "(II)I" } : MethodName) ({ cls := "TownBandModel", name := "may", desc := "(II)I" } : MethodName)) ∈ tblG := tG6 (i := 121) rfl rfl
theorem tw_1322 : (Cond.code ({ cls := "TownBandModel", name := "may", desc := "(II)I" } : MethodName) prog_12_method_72_code (6 : Nat) (Option.some FieldType.int)) ∈ tblG := tG6 (i := 122) rfl rfl
theorem tw_1323 : (Cond.methodLink "TownBandModel" (309 : Nat) ({ cls := "TownBandModel", name := "done", desc := "(III)I" } : MethodName)) ∈ tblG := tG6 (i := 123) rfl rfl
theorem tw_1325 : (Cond.instanceMethod ({ cls := "TownBandModel", name := "done", desc := "(III)I" } : MethodName)) ∈ tblG := tG6 (i := 125) rfl rfl
theorem tw_1326 : (Cond.code ({ cls := "TownBandModel", name := "done", desc := "(III)I" } : MethodName) prog_12_method_71_code (5 : Nat) (Option.some FieldType.int)) ∈ tblG := tG6 (i := 126) rfl rfl
theorem tw_1327 : (Cond.fieldLink "java/lang/String" (9 : Nat) "java/lang/String" "value" "[B") ∈ tblG := tG6 (i := 127) rfl rfl
theorem tw_1328 : (Cond.fieldLink "java/lang/String" (15 : Nat) "java/lang/String" "coder" "B") ∈ tblG := tG6 (i := 128) rfl rfl
theorem ts_0 : Cond.selects "TownBand$Players" ⟨"TownBand$Players", "join", "(II)I"⟩ ⟨"TownBand$Players", "join", "(II)I"⟩ ∈ tblG := tS (i := 0) (q := (⟨"TownBand$Players", "join", "(II)I"⟩, 6)) rfl
theorem ts_1 : Cond.selects "TownBand$Players" ⟨"TownBand$Players", "has", "(I)Z"⟩ ⟨"TownBand$Players", "has", "(I)Z"⟩ ∈ tblG := tS (i := 1) (q := (⟨"TownBand$Players", "has", "(I)Z"⟩, 6)) rfl
theorem ts_2 : Cond.selects "TownBand$Players" ⟨"TownBand$Players", "learn", "(III)V"⟩ ⟨"TownBand$Players", "learn", "(III)V"⟩ ∈ tblG := tS (i := 2) (q := (⟨"TownBand$Players", "learn", "(III)V"⟩, 6)) rfl
theorem ts_3 : Cond.selects "TownBand$Players" ⟨"TownBand$Players", "costOf", "(II)I"⟩ ⟨"TownBand$Players", "costOf", "(II)I"⟩ ∈ tblG := tS (i := 3) (q := (⟨"TownBand$Players", "costOf", "(II)I"⟩, 6)) rfl
theorem ts_4 : Cond.selects "TownBand$Players" ⟨"TownBand$Players", "mark", "(IZ)V"⟩ ⟨"TownBand$Players", "mark", "(IZ)V"⟩ ∈ tblG := tS (i := 4) (q := (⟨"TownBand$Players", "mark", "(IZ)V"⟩, 6)) rfl
theorem ts_5 : Cond.selects "TownBand$Tape" ⟨"TownBand$Tape", "hasRoom", "()Z"⟩ ⟨"TownBand$Tape", "hasRoom", "()Z"⟩ ∈ tblG := tS (i := 5) (q := (⟨"TownBand$Tape", "hasRoom", "()Z"⟩, 10)) rfl
theorem ts_6 : Cond.selects "TownBand$Tape" ⟨"TownBand$Tape", "append", "(I)V"⟩ ⟨"TownBand$Tape", "append", "(I)V"⟩ ∈ tblG := tS (i := 6) (q := (⟨"TownBand$Tape", "append", "(I)V"⟩, 10)) rfl
theorem ts_7 : Cond.selects "TownBand$Library" ⟨"TownBand$Library", "readText", "(LTownBand$Tape;)Z"⟩ ⟨"TownBand$Library", "readText", "(LTownBand$Tape;)Z"⟩ ∈ tblG := tS (i := 7) (q := (⟨"TownBand$Library", "readText", "(LTownBand$Tape;)Z"⟩, 3)) rfl
theorem ts_8 : Cond.selects "TownBand$Tape" ⟨"TownBand$Tape", "begin", "(I)V"⟩ ⟨"TownBand$Tape", "begin", "(I)V"⟩ ∈ tblG := tS (i := 8) (q := (⟨"TownBand$Tape", "begin", "(I)V"⟩, 10)) rfl
theorem ts_9 : Cond.selects "TownBand$Tape" ⟨"TownBand$Tape", "advance", "()V"⟩ ⟨"TownBand$Tape", "advance", "()V"⟩ ∈ tblG := tS (i := 9) (q := (⟨"TownBand$Tape", "advance", "()V"⟩, 10)) rfl
theorem ts_10 : Cond.selects "TownBand$Tape" ⟨"TownBand$Tape", "reads", "(Ljava/lang/String;)Z"⟩ ⟨"TownBand$Tape", "reads", "(Ljava/lang/String;)Z"⟩ ∈ tblG := tS (i := 10) (q := (⟨"TownBand$Tape", "reads", "(Ljava/lang/String;)Z"⟩, 10)) rfl
theorem ts_11 : Cond.selects "TownBand$Library" ⟨"TownBand$Library", "readPiece", "(LTownBand$Tape;)V"⟩ ⟨"TownBand$Library", "readPiece", "(LTownBand$Tape;)V"⟩ ∈ tblG := tS (i := 11) (q := (⟨"TownBand$Library", "readPiece", "(LTownBand$Tape;)V"⟩, 3)) rfl
theorem ts_12 : Cond.selects "TownBand$Tape" ⟨"TownBand$Tape", "fail", "(I)V"⟩ ⟨"TownBand$Tape", "fail", "(I)V"⟩ ∈ tblG := tS (i := 12) (q := (⟨"TownBand$Tape", "fail", "(I)V"⟩, 10)) rfl
theorem ts_13 : Cond.selects "TownBand$Piece" ⟨"TownBand$Piece", "clear", "()V"⟩ ⟨"TownBand$Piece", "clear", "()V"⟩ ∈ tblG := tS (i := 13) (q := (⟨"TownBand$Piece", "clear", "()V"⟩, 9)) rfl
theorem ts_14 : Cond.selects "TownBand$Library" ⟨"TownBand$Library", "readName", "(LTownBand$Tape;)I"⟩ ⟨"TownBand$Library", "readName", "(LTownBand$Tape;)I"⟩ ∈ tblG := tS (i := 14) (q := (⟨"TownBand$Library", "readName", "(LTownBand$Tape;)I"⟩, 3)) rfl
theorem ts_15 : Cond.selects "TownBand$Library" ⟨"TownBand$Library", "hasName", "(I)Z"⟩ ⟨"TownBand$Library", "hasName", "(I)Z"⟩ ∈ tblG := tS (i := 15) (q := (⟨"TownBand$Library", "hasName", "(I)Z"⟩, 3)) rfl
theorem ts_16 : Cond.selects "TownBand$Tape" ⟨"TownBand$Tape", "take", "(I)V"⟩ ⟨"TownBand$Tape", "take", "(I)V"⟩ ∈ tblG := tS (i := 16) (q := (⟨"TownBand$Tape", "take", "(I)V"⟩, 10)) rfl
theorem ts_17 : Cond.selects "TownBand$Piece" ⟨"TownBand$Piece", "addPart", "(Z)V"⟩ ⟨"TownBand$Piece", "addPart", "(Z)V"⟩ ∈ tblG := tS (i := 17) (q := (⟨"TownBand$Piece", "addPart", "(Z)V"⟩, 9)) rfl
theorem ts_18 : Cond.selects "TownBand$Piece" ⟨"TownBand$Piece", "hasInstrument", "(II)Z"⟩ ⟨"TownBand$Piece", "hasInstrument", "(II)Z"⟩ ∈ tblG := tS (i := 18) (q := (⟨"TownBand$Piece", "hasInstrument", "(II)Z"⟩, 9)) rfl
theorem ts_19 : Cond.selects "TownBand$Piece" ⟨"TownBand$Piece", "instrument", "(II)I"⟩ ⟨"TownBand$Piece", "instrument", "(II)I"⟩ ∈ tblG := tS (i := 19) (q := (⟨"TownBand$Piece", "instrument", "(II)I"⟩, 9)) rfl
theorem ts_20 : Cond.selects "TownBand$Piece" ⟨"TownBand$Piece", "addInstrument", "(II)V"⟩ ⟨"TownBand$Piece", "addInstrument", "(II)V"⟩ ∈ tblG := tS (i := 20) (q := (⟨"TownBand$Piece", "addInstrument", "(II)V"⟩, 9)) rfl
theorem ts_21 : Cond.selects "TownBand$Tape" ⟨"TownBand$Tape", "finish", "()Z"⟩ ⟨"TownBand$Tape", "finish", "()Z"⟩ ∈ tblG := tS (i := 21) (q := (⟨"TownBand$Tape", "finish", "()Z"⟩, 10)) rfl
theorem ts_22 : Cond.selects "TownBand$Rule" ⟨"TownBand$Rule", "beginDraft", "()V"⟩ ⟨"TownBand$Rule", "beginDraft", "()V"⟩ ∈ tblG := tS (i := 22) (q := (⟨"TownBand$Rule", "beginDraft", "()V"⟩, 7)) rfl
theorem ts_23 : Cond.selects "TownBand$Rule" ⟨"TownBand$Rule", "readEither", "(LTownBand$Tape;I)V"⟩ ⟨"TownBand$Rule", "readEither", "(LTownBand$Tape;I)V"⟩ ∈ tblG := tS (i := 23) (q := (⟨"TownBand$Rule", "readEither", "(LTownBand$Tape;I)V"⟩, 7)) rfl
theorem ts_24 : Cond.selects "TownBand$Rule" ⟨"TownBand$Rule", "readBoth", "(LTownBand$Tape;I)V"⟩ ⟨"TownBand$Rule", "readBoth", "(LTownBand$Tape;I)V"⟩ ∈ tblG := tS (i := 24) (q := (⟨"TownBand$Rule", "readBoth", "(LTownBand$Tape;I)V"⟩, 7)) rfl
theorem ts_25 : Cond.selects "TownBand$Rule" ⟨"TownBand$Rule", "readOne", "(LTownBand$Tape;I)V"⟩ ⟨"TownBand$Rule", "readOne", "(LTownBand$Tape;I)V"⟩ ∈ tblG := tS (i := 25) (q := (⟨"TownBand$Rule", "readOne", "(LTownBand$Tape;I)V"⟩, 7)) rfl
theorem ts_26 : Cond.selects "TownBand$Rule" ⟨"TownBand$Rule", "readComparison", "(LTownBand$Tape;)V"⟩ ⟨"TownBand$Rule", "readComparison", "(LTownBand$Tape;)V"⟩ ∈ tblG := tS (i := 26) (q := (⟨"TownBand$Rule", "readComparison", "(LTownBand$Tape;)V"⟩, 7)) rfl
theorem ts_27 : Cond.selects "TownBand$Rule" ⟨"TownBand$Rule", "readSum", "(LTownBand$Tape;)V"⟩ ⟨"TownBand$Rule", "readSum", "(LTownBand$Tape;)V"⟩ ∈ tblG := tS (i := 27) (q := (⟨"TownBand$Rule", "readSum", "(LTownBand$Tape;)V"⟩, 7)) rfl
theorem ts_28 : Cond.selects "TownBand$Rule" ⟨"TownBand$Rule", "readValue", "(LTownBand$Tape;)V"⟩ ⟨"TownBand$Rule", "readValue", "(LTownBand$Tape;)V"⟩ ∈ tblG := tS (i := 28) (q := (⟨"TownBand$Rule", "readValue", "(LTownBand$Tape;)V"⟩, 7)) rfl
theorem ts_29 : Cond.selects "TownBand$Rule" ⟨"TownBand$Rule", "write", "(I)V"⟩ ⟨"TownBand$Rule", "write", "(I)V"⟩ ∈ tblG := tS (i := 29) (q := (⟨"TownBand$Rule", "write", "(I)V"⟩, 7)) rfl
theorem ts_30 : Cond.selects "TownBand$Rule" ⟨"TownBand$Rule", "adoptDraft", "()V"⟩ ⟨"TownBand$Rule", "adoptDraft", "()V"⟩ ∈ tblG := tS (i := 30) (q := (⟨"TownBand$Rule", "adoptDraft", "()V"⟩, 7)) rfl
theorem ts_31 : Cond.selects "TownBand$Library" ⟨"TownBand$Library", "find", "(I)LTownBand$Piece;"⟩ ⟨"TownBand$Library", "find", "(I)LTownBand$Piece;"⟩ ∈ tblG := tS (i := 31) (q := (⟨"TownBand$Library", "find", "(I)LTownBand$Piece;"⟩, 3)) rfl
theorem ts_32 : Cond.selects "TownBand$Piece" ⟨"TownBand$Piece", "detail", "(I)I"⟩ ⟨"TownBand$Piece", "detail", "(I)I"⟩ ∈ tblG := tS (i := 32) (q := (⟨"TownBand$Piece", "detail", "(I)I"⟩, 9)) rfl
theorem ts_33 : Cond.selects "TownBand$Piece" ⟨"TownBand$Piece", "partDetail", "(I)I"⟩ ⟨"TownBand$Piece", "partDetail", "(I)I"⟩ ∈ tblG := tS (i := 33) (q := (⟨"TownBand$Piece", "partDetail", "(I)I"⟩, 9)) rfl
theorem ts_34 : Cond.selects "TownBand$Piece" ⟨"TownBand$Piece", "hasPart", "(I)Z"⟩ ⟨"TownBand$Piece", "hasPart", "(I)Z"⟩ ∈ tblG := tS (i := 34) (q := (⟨"TownBand$Piece", "hasPart", "(I)Z"⟩, 9)) rfl
theorem ts_35 : Cond.selects "TownBand$Cover" ⟨"TownBand$Cover", "coversMust", "(LTownBand$Piece;LTownBand$Players;)Z"⟩ ⟨"TownBand$Cover", "coversMust", "(LTownBand$Piece;LTownBand$Players;)Z"⟩ ∈ tblG := tS (i := 35) (q := (⟨"TownBand$Cover", "coversMust", "(LTownBand$Piece;LTownBand$Players;)Z"⟩, 4)) rfl
theorem ts_36 : Cond.selects "TownBand$Cover" ⟨"TownBand$Cover", "findAble", "(LTownBand$Piece;LTownBand$Players;)V"⟩ ⟨"TownBand$Cover", "findAble", "(LTownBand$Piece;LTownBand$Players;)V"⟩ ∈ tblG := tS (i := 36) (q := (⟨"TownBand$Cover", "findAble", "(LTownBand$Piece;LTownBand$Players;)V"⟩, 4)) rfl
theorem ts_37 : Cond.selects "TownBand$Piece" ⟨"TownBand$Piece", "isMust", "(I)Z"⟩ ⟨"TownBand$Piece", "isMust", "(I)Z"⟩ ∈ tblG := tS (i := 37) (q := (⟨"TownBand$Piece", "isMust", "(I)Z"⟩, 9)) rfl
theorem ts_38 : Cond.selects "TownBand$Players" ⟨"TownBand$Players", "presentFor", "(LTownBand$Piece;I)I"⟩ ⟨"TownBand$Players", "presentFor", "(LTownBand$Piece;I)I"⟩ ∈ tblG := tS (i := 38) (q := (⟨"TownBand$Players", "presentFor", "(LTownBand$Piece;I)I"⟩, 6)) rfl
theorem ts_39 : Cond.selects "TownBand$Players" ⟨"TownBand$Players", "isPresent", "(I)Z"⟩ ⟨"TownBand$Players", "isPresent", "(I)Z"⟩ ∈ tblG := tS (i := 39) (q := (⟨"TownBand$Players", "isPresent", "(I)Z"⟩, 6)) rfl
theorem ts_40 : Cond.selects "TownBand$Players" ⟨"TownBand$Players", "partCost", "(ILTownBand$Piece;I)I"⟩ ⟨"TownBand$Players", "partCost", "(ILTownBand$Piece;I)I"⟩ ∈ tblG := tS (i := 40) (q := (⟨"TownBand$Players", "partCost", "(ILTownBand$Piece;I)I"⟩, 6)) rfl
theorem ts_41 : Cond.selects "TownBand$Cover" ⟨"TownBand$Cover", "findPlayer", "(II)Z"⟩ ⟨"TownBand$Cover", "findPlayer", "(II)Z"⟩ ∈ tblG := tS (i := 41) (q := (⟨"TownBand$Cover", "findPlayer", "(II)Z"⟩, 4)) rfl
theorem ts_42 : Cond.selects "TownBand$Cover" ⟨"TownBand$Cover", "leastLack", "(LTownBand$Piece;LTownBand$Players;)I"⟩ ⟨"TownBand$Cover", "leastLack", "(LTownBand$Piece;LTownBand$Players;)I"⟩ ∈ tblG := tS (i := 42) (q := (⟨"TownBand$Cover", "leastLack", "(LTownBand$Piece;LTownBand$Players;)I"⟩, 4)) rfl
theorem ts_43 : Cond.selects "TownBand$Seater" ⟨"TownBand$Seater", "seatAnew", "(LTownBand$Piece;LTownBand$Players;)V"⟩ ⟨"TownBand$Seater", "seatAnew", "(LTownBand$Piece;LTownBand$Players;)V"⟩ ∈ tblG := tS (i := 43) (q := (⟨"TownBand$Seater", "seatAnew", "(LTownBand$Piece;LTownBand$Players;)V"⟩, 7)) rfl
theorem ts_44 : Cond.selects "TownBand$Seater" ⟨"TownBand$Seater", "weigh", "(IIJ)V"⟩ ⟨"TownBand$Seater", "weigh", "(IIJ)V"⟩ ∈ tblG := tS (i := 44) (q := (⟨"TownBand$Seater", "weigh", "(IIJ)V"⟩, 7)) rfl
theorem ts_45 : Cond.selects "TownBand$Seater" ⟨"TownBand$Seater", "weighEmpty", "(LTownBand$Piece;LTownBand$Players;IJ)V"⟩ ⟨"TownBand$Seater", "weighEmpty", "(LTownBand$Piece;LTownBand$Players;IJ)V"⟩ ∈ tblG := tS (i := 45) (q := (⟨"TownBand$Seater", "weighEmpty", "(LTownBand$Piece;LTownBand$Players;IJ)V"⟩, 7)) rfl
theorem ts_46 : Cond.selects "TownBand$Seater" ⟨"TownBand$Seater", "match", "(II)V"⟩ ⟨"TownBand$Seater", "match", "(II)V"⟩ ∈ tblG := tS (i := 46) (q := (⟨"TownBand$Seater", "match", "(II)V"⟩, 7)) rfl
theorem ts_47 : Cond.selects "TownBand$Seater" ⟨"TownBand$Seater", "placeRow", "(I)V"⟩ ⟨"TownBand$Seater", "placeRow", "(I)V"⟩ ∈ tblG := tS (i := 47) (q := (⟨"TownBand$Seater", "placeRow", "(I)V"⟩, 7)) rfl
theorem ts_48 : Cond.selects "TownBand$Seater" ⟨"TownBand$Seater", "nearestColumn", "(II)I"⟩ ⟨"TownBand$Seater", "nearestColumn", "(II)I"⟩ ∈ tblG := tS (i := 48) (q := (⟨"TownBand$Seater", "nearestColumn", "(II)I"⟩, 7)) rfl
theorem ts_49 : Cond.selects "TownBand$Seater" ⟨"TownBand$Seater", "shiftPrices", "(IJ)V"⟩ ⟨"TownBand$Seater", "shiftPrices", "(IJ)V"⟩ ∈ tblG := tS (i := 49) (q := (⟨"TownBand$Seater", "shiftPrices", "(IJ)V"⟩, 7)) rfl
theorem ts_50 : Cond.selects "TownBand$Seater" ⟨"TownBand$Seater", "takeChairs", "(LTownBand$Piece;I)I"⟩ ⟨"TownBand$Seater", "takeChairs", "(LTownBand$Piece;I)I"⟩ ∈ tblG := tS (i := 50) (q := (⟨"TownBand$Seater", "takeChairs", "(LTownBand$Piece;I)I"⟩, 7)) rfl
theorem ts_51 : Cond.selects "TownBand$Piece" ⟨"TownBand$Piece", "seated", "()I"⟩ ⟨"TownBand$Piece", "seated", "()I"⟩ ∈ tblG := tS (i := 51) (q := (⟨"TownBand$Piece", "seated", "()I"⟩, 9)) rfl
theorem ts_52 : Cond.selects "TownBand$Seater" ⟨"TownBand$Seater", "seatWithFewestChanges", "(LTownBand$Piece;LTownBand$Players;)I"⟩ ⟨"TownBand$Seater", "seatWithFewestChanges", "(LTownBand$Piece;LTownBand$Players;)I"⟩ ∈ tblG := tS (i := 52) (q := (⟨"TownBand$Seater", "seatWithFewestChanges", "(LTownBand$Piece;LTownBand$Players;)I"⟩, 7)) rfl
theorem ts_53 : Cond.selects "TownBand$Piece" ⟨"TownBand$Piece", "seatsElsewhere", "(II)Z"⟩ ⟨"TownBand$Piece", "seatsElsewhere", "(II)Z"⟩ ∈ tblG := tS (i := 53) (q := (⟨"TownBand$Piece", "seatsElsewhere", "(II)Z"⟩, 9)) rfl
theorem ts_54 : Cond.selects "TownBand$Players" ⟨"TownBand$Players", "seatingCost", "(LTownBand$Piece;)I"⟩ ⟨"TownBand$Players", "seatingCost", "(LTownBand$Piece;)I"⟩ ∈ tblG := tS (i := 54) (q := (⟨"TownBand$Players", "seatingCost", "(LTownBand$Piece;)I"⟩, 6)) rfl
theorem ts_55 : Cond.selects "TownBand$Players" ⟨"TownBand$Players", "seatedButAway", "(LTownBand$Piece;)I"⟩ ⟨"TownBand$Players", "seatedButAway", "(LTownBand$Piece;)I"⟩ ∈ tblG := tS (i := 55) (q := (⟨"TownBand$Players", "seatedButAway", "(LTownBand$Piece;)I"⟩, 6)) rfl
theorem ts_56 : Cond.selects "TownBand$Planner" ⟨"TownBand$Planner", "forgetChoices", "()V"⟩ ⟨"TownBand$Planner", "forgetChoices", "()V"⟩ ∈ tblG := tS (i := 56) (q := (⟨"TownBand$Planner", "forgetChoices", "()V"⟩, 9)) rfl
theorem ts_57 : Cond.selects "TownBand$Planner" ⟨"TownBand$Planner", "offer", "(ILTownBand$Piece;)V"⟩ ⟨"TownBand$Planner", "offer", "(ILTownBand$Piece;)V"⟩ ∈ tblG := tS (i := 57) (q := (⟨"TownBand$Planner", "offer", "(ILTownBand$Piece;)V"⟩, 9)) rfl
theorem ts_58 : Cond.selects "TownBand$Planner" ⟨"TownBand$Planner", "arrange", "(II)I"⟩ ⟨"TownBand$Planner", "arrange", "(II)I"⟩ ∈ tblG := tS (i := 58) (q := (⟨"TownBand$Planner", "arrange", "(II)I"⟩, 9)) rfl
theorem ts_59 : Cond.selects "TownBand$Planner" ⟨"TownBand$Planner", "minutesOf", "(I)I"⟩ ⟨"TownBand$Planner", "minutesOf", "(I)I"⟩ ∈ tblG := tS (i := 59) (q := (⟨"TownBand$Planner", "minutesOf", "(I)I"⟩, 9)) rfl
theorem ts_60 : Cond.selects "TownBand$Planner" ⟨"TownBand$Planner", "fillSet", "(IZI)J"⟩ ⟨"TownBand$Planner", "fillSet", "(IZI)J"⟩ ∈ tblG := tS (i := 60) (q := (⟨"TownBand$Planner", "fillSet", "(IZI)J"⟩, 9)) rfl
theorem ts_61 : Cond.selects "TownBand$Planner" ⟨"TownBand$Planner", "bestEndingWith", "(III)J"⟩ ⟨"TownBand$Planner", "bestEndingWith", "(III)J"⟩ ∈ tblG := tS (i := 61) (q := (⟨"TownBand$Planner", "bestEndingWith", "(III)J"⟩, 9)) rfl
theorem ts_62 : Cond.selects "TownBand$Planner" ⟨"TownBand$Planner", "keyGap", "(II)I"⟩ ⟨"TownBand$Planner", "keyGap", "(II)I"⟩ ∈ tblG := tS (i := 62) (q := (⟨"TownBand$Planner", "keyGap", "(II)I"⟩, 9)) rfl
theorem ts_63 : Cond.selects "TownBand$Planner" ⟨"TownBand$Planner", "keepRow", "(IJ)V"⟩ ⟨"TownBand$Planner", "keepRow", "(IJ)V"⟩ ∈ tblG := tS (i := 63) (q := (⟨"TownBand$Planner", "keepRow", "(IJ)V"⟩, 9)) rfl
theorem ts_64 : Cond.selects "TownBand" ⟨"TownBand", "isPlace", "(I)Z"⟩ ⟨"TownBand", "isPlace", "(I)Z"⟩ ∈ tblG := tS (i := 64) (q := (⟨"TownBand", "isPlace", "(I)Z"⟩, 8)) rfl
theorem ts_65 : Cond.selects "TownBand$Loans" ⟨"TownBand$Loans", "note", "(III)I"⟩ ⟨"TownBand$Loans", "note", "(III)I"⟩ ∈ tblG := tS (i := 65) (q := (⟨"TownBand$Loans", "note", "(III)I"⟩, 6)) rfl
theorem ts_66 : Cond.selects "TownBand$Loans" ⟨"TownBand$Loans", "placeOf", "(III)I"⟩ ⟨"TownBand$Loans", "placeOf", "(III)I"⟩ ∈ tblG := tS (i := 66) (q := (⟨"TownBand$Loans", "placeOf", "(III)I"⟩, 6)) rfl
theorem ts_67 : Cond.selects "TownBand$Loans" ⟨"TownBand$Loans", "settle", "(II)V"⟩ ⟨"TownBand$Loans", "settle", "(II)V"⟩ ∈ tblG := tS (i := 67) (q := (⟨"TownBand$Loans", "settle", "(II)V"⟩, 6)) rfl
theorem ts_68 : Cond.selects "TownBand$Loans" ⟨"TownBand$Loans", "copiesAt", "(III)I"⟩ ⟨"TownBand$Loans", "copiesAt", "(III)I"⟩ ∈ tblG := tS (i := 68) (q := (⟨"TownBand$Loans", "copiesAt", "(III)I"⟩, 6)) rfl
theorem ts_69 : Cond.selects "TownBand$Players" ⟨"TownBand$Players", "compete", "(I)I"⟩ ⟨"TownBand$Players", "compete", "(I)I"⟩ ∈ tblG := tS (i := 69) (q := (⟨"TownBand$Players", "compete", "(I)I"⟩, 6)) rfl
theorem ts_70 : Cond.selects "TownBand$Rule" ⟨"TownBand$Rule", "setPlayer", "(III)V"⟩ ⟨"TownBand$Rule", "setPlayer", "(III)V"⟩ ∈ tblG := tS (i := 70) (q := (⟨"TownBand$Rule", "setPlayer", "(III)V"⟩, 7)) rfl
theorem ts_71 : Cond.selects "TownBand$Rule" ⟨"TownBand$Rule", "setDay", "(II)V"⟩ ⟨"TownBand$Rule", "setDay", "(II)V"⟩ ∈ tblG := tS (i := 71) (q := (⟨"TownBand$Rule", "setDay", "(II)V"⟩, 7)) rfl
theorem ts_72 : Cond.selects "TownBand$Rule" ⟨"TownBand$Rule", "allows", "()Z"⟩ ⟨"TownBand$Rule", "allows", "()Z"⟩ ∈ tblG := tS (i := 72) (q := (⟨"TownBand$Rule", "allows", "()Z"⟩, 7)) rfl
theorem ts_73 : Cond.selects "TownBand$Rule" ⟨"TownBand$Rule", "work", "(I)V"⟩ ⟨"TownBand$Rule", "work", "(I)V"⟩ ∈ tblG := tS (i := 73) (q := (⟨"TownBand$Rule", "work", "(I)V"⟩, 7)) rfl
theorem ts_74 : Cond.selects "TownBand$Rule" ⟨"TownBand$Rule", "push", "(I)V"⟩ ⟨"TownBand$Rule", "push", "(I)V"⟩ ∈ tblG := tS (i := 74) (q := (⟨"TownBand$Rule", "push", "(I)V"⟩, 7)) rfl
theorem ts_75 : Cond.selects "TownBand$Rule" ⟨"TownBand$Rule", "pop", "()I"⟩ ⟨"TownBand$Rule", "pop", "()I"⟩ ∈ tblG := tS (i := 75) (q := (⟨"TownBand$Rule", "pop", "()I"⟩, 7)) rfl
theorem ts_76 : Cond.selects "TownBand" ⟨"TownBand", "playablePieces", "()I"⟩ ⟨"TownBand", "playablePieces", "()I"⟩ ∈ tblG := tS (i := 76) (q := (⟨"TownBand", "playablePieces", "()I"⟩, 8)) rfl
theorem ts_77 : Cond.selects "TownBandModel" ⟨"TownBandModel", "isPlayer", "(I)Z"⟩ ⟨"TownBandModel", "isPlayer", "(I)Z"⟩ ∈ tblG := tS (i := 77) (q := (⟨"TownBandModel", "isPlayer", "(I)Z"⟩, 48)) rfl
theorem ts_78 : Cond.selects "TownBandModel" ⟨"TownBandModel", "isInstrument", "(I)Z"⟩ ⟨"TownBandModel", "isInstrument", "(I)Z"⟩ ∈ tblG := tS (i := 78) (q := (⟨"TownBandModel", "isInstrument", "(I)Z"⟩, 48)) rfl
theorem ts_79 : Cond.selects "TownBandModel" ⟨"TownBandModel", "isPiece", "(I)Z"⟩ ⟨"TownBandModel", "isPiece", "(I)Z"⟩ ∈ tblG := tS (i := 79) (q := (⟨"TownBandModel", "isPiece", "(I)Z"⟩, 48)) rfl
theorem ts_80 : Cond.selects "TownBandModel" ⟨"TownBandModel", "lacking", "(I)I"⟩ ⟨"TownBandModel", "lacking", "(I)I"⟩ ∈ tblG := tS (i := 80) (q := (⟨"TownBandModel", "lacking", "(I)I"⟩, 48)) rfl
theorem ts_81 : Cond.selects "TownBandModel" ⟨"TownBandModel", "costOf", "(III)I"⟩ ⟨"TownBandModel", "costOf", "(III)I"⟩ ∈ tblG := tS (i := 81) (q := (⟨"TownBandModel", "costOf", "(III)I"⟩, 48)) rfl
theorem ts_82 : Cond.selects "TownBandModel" ⟨"TownBandModel", "ones", "(I)I"⟩ ⟨"TownBandModel", "ones", "(I)I"⟩ ∈ tblG := tS (i := 82) (q := (⟨"TownBandModel", "ones", "(I)I"⟩, 48)) rfl
theorem ts_83 : Cond.selects "TownBandModel" ⟨"TownBandModel", "seats", "(IZ)I"⟩ ⟨"TownBandModel", "seats", "(IZ)I"⟩ ∈ tblG := tS (i := 83) (q := (⟨"TownBandModel", "seats", "(IZ)I"⟩, 48)) rfl
theorem ts_84 : Cond.selects "TownBandModel" ⟨"TownBandModel", "finds", "(IZ)V"⟩ ⟨"TownBandModel", "finds", "(IZ)V"⟩ ∈ tblG := tS (i := 84) (q := (⟨"TownBandModel", "finds", "(IZ)V"⟩, 48)) rfl
theorem ts_85 : Cond.selects "TownBandModel" ⟨"TownBandModel", "mayBe", "(III)Z"⟩ ⟨"TownBandModel", "mayBe", "(III)Z"⟩ ∈ tblG := tS (i := 85) (q := (⟨"TownBandModel", "mayBe", "(III)Z"⟩, 48)) rfl
theorem ts_86 : Cond.selects "TownBandModel" ⟨"TownBandModel", "isMust", "(II)Z"⟩ ⟨"TownBandModel", "isMust", "(II)Z"⟩ ∈ tblG := tS (i := 86) (q := (⟨"TownBandModel", "isMust", "(II)Z"⟩, 48)) rfl
theorem ts_87 : Cond.selects "TownBandModel" ⟨"TownBandModel", "counts", "(IIIZ)I"⟩ ⟨"TownBandModel", "counts", "(IIIZ)I"⟩ ∈ tblG := tS (i := 87) (q := (⟨"TownBandModel", "counts", "(IIIZ)I"⟩, 48)) rfl
theorem ts_88 : Cond.selects "TownBandModel" ⟨"TownBandModel", "fits", "(IIIIZ)Z"⟩ ⟨"TownBandModel", "fits", "(IIIIZ)Z"⟩ ∈ tblG := tS (i := 88) (q := (⟨"TownBandModel", "fits", "(IIIIZ)Z"⟩, 48)) rfl
theorem ts_89 : Cond.selects "TownBandModel" ⟨"TownBandModel", "isPart", "(II)Z"⟩ ⟨"TownBandModel", "isPart", "(II)Z"⟩ ∈ tblG := tS (i := 89) (q := (⟨"TownBandModel", "isPart", "(II)Z"⟩, 48)) rfl
theorem ts_90 : Cond.selects "TownBandModel" ⟨"TownBandModel", "sumOf", "(I)I"⟩ ⟨"TownBandModel", "sumOf", "(I)I"⟩ ∈ tblG := tS (i := 90) (q := (⟨"TownBandModel", "sumOf", "(I)I"⟩, 48)) rfl
theorem ts_91 : Cond.selects "TownBandModel" ⟨"TownBandModel", "goes", "(IIII)Z"⟩ ⟨"TownBandModel", "goes", "(IIII)Z"⟩ ∈ tblG := tS (i := 91) (q := (⟨"TownBandModel", "goes", "(IIII)Z"⟩, 48)) rfl
theorem ts_92 : Cond.selects "TownBandModel" ⟨"TownBandModel", "strainOf", "(II)I"⟩ ⟨"TownBandModel", "strainOf", "(II)I"⟩ ∈ tblG := tS (i := 92) (q := (⟨"TownBandModel", "strainOf", "(II)I"⟩, 48)) rfl
theorem ts_93 : Cond.selects "TownBandModel" ⟨"TownBandModel", "isDay", "(I)Z"⟩ ⟨"TownBandModel", "isDay", "(I)Z"⟩ ∈ tblG := tS (i := 93) (q := (⟨"TownBandModel", "isDay", "(I)Z"⟩, 48)) rfl
theorem ts_94 : Cond.selects "TownBandModel" ⟨"TownBandModel", "isThere", "(I)Z"⟩ ⟨"TownBandModel", "isThere", "(I)Z"⟩ ∈ tblG := tS (i := 94) (q := (⟨"TownBandModel", "isThere", "(I)Z"⟩, 48)) rfl
theorem ts_95 : Cond.selects "TownBandModel" ⟨"TownBandModel", "whereIs", "(III)I"⟩ ⟨"TownBandModel", "whereIs", "(III)I"⟩ ∈ tblG := tS (i := 95) (q := (⟨"TownBandModel", "whereIs", "(III)I"⟩, 48)) rfl
theorem ts_96 : Cond.selects "TownBandModel" ⟨"TownBandModel", "copiesAt", "(III)I"⟩ ⟨"TownBandModel", "copiesAt", "(III)I"⟩ ∈ tblG := tS (i := 96) (q := (⟨"TownBandModel", "copiesAt", "(III)I"⟩, 48)) rfl
theorem ts_97 : Cond.selects "TownBandModel" ⟨"TownBandModel", "lay", "(I)V"⟩ ⟨"TownBandModel", "lay", "(I)V"⟩ ∈ tblG := tS (i := 97) (q := (⟨"TownBandModel", "lay", "(I)V"⟩, 48)) rfl
theorem ts_98 : Cond.selects "TownBandModel" ⟨"TownBandModel", "readText", "()Z"⟩ ⟨"TownBandModel", "readText", "()Z"⟩ ∈ tblG := tS (i := 98) (q := (⟨"TownBandModel", "readText", "()Z"⟩, 48)) rfl
theorem ts_99 : Cond.selects "TownBandModel" ⟨"TownBandModel", "next", "(Z)V"⟩ ⟨"TownBandModel", "next", "(Z)V"⟩ ∈ tblG := tS (i := 99) (q := (⟨"TownBandModel", "next", "(Z)V"⟩, 48)) rfl
theorem ts_100 : Cond.selects "TownBandModel" ⟨"TownBandModel", "raw", "()I"⟩ ⟨"TownBandModel", "raw", "()I"⟩ ∈ tblG := tS (i := 100) (q := (⟨"TownBandModel", "raw", "()I"⟩, 48)) rfl
theorem ts_101 : Cond.selects "TownBandModel" ⟨"TownBandModel", "isSmall", "(I)Z"⟩ ⟨"TownBandModel", "isSmall", "(I)Z"⟩ ∈ tblG := tS (i := 101) (q := (⟨"TownBandModel", "isSmall", "(I)Z"⟩, 48)) rfl
theorem ts_102 : Cond.selects "TownBandModel" ⟨"TownBandModel", "isWordOf", "(Z)Z"⟩ ⟨"TownBandModel", "isWordOf", "(Z)Z"⟩ ∈ tblG := tS (i := 102) (q := (⟨"TownBandModel", "isWordOf", "(Z)Z"⟩, 48)) rfl
theorem ts_103 : Cond.selects "TownBandModel" ⟨"TownBandModel", "word", "(IIIII)J"⟩ ⟨"TownBandModel", "word", "(IIIII)J"⟩ ∈ tblG := tS (i := 103) (q := (⟨"TownBandModel", "word", "(IIIII)J"⟩, 48)) rfl
theorem ts_104 : Cond.selects "TownBandModel" ⟨"TownBandModel", "isDigit", "(I)Z"⟩ ⟨"TownBandModel", "isDigit", "(I)Z"⟩ ∈ tblG := tS (i := 104) (q := (⟨"TownBandModel", "isDigit", "(I)Z"⟩, 48)) rfl
theorem ts_105 : Cond.selects "TownBandModel" ⟨"TownBandModel", "isSignOf", "(IZ)Z"⟩ ⟨"TownBandModel", "isSignOf", "(IZ)Z"⟩ ∈ tblG := tS (i := 105) (q := (⟨"TownBandModel", "isSignOf", "(IZ)Z"⟩, 48)) rfl
theorem ts_106 : Cond.selects "TownBandModel" ⟨"TownBandModel", "isWord", "(IIIII)Z"⟩ ⟨"TownBandModel", "isWord", "(IIIII)Z"⟩ ∈ tblG := tS (i := 106) (q := (⟨"TownBandModel", "isWord", "(IIIII)Z"⟩, 48)) rfl
theorem ts_107 : Cond.selects "TownBandModel" ⟨"TownBandModel", "readPiece", "()Z"⟩ ⟨"TownBandModel", "readPiece", "()Z"⟩ ∈ tblG := tS (i := 107) (q := (⟨"TownBandModel", "readPiece", "()Z"⟩, 48)) rfl
theorem ts_108 : Cond.selects "TownBandModel" ⟨"TownBandModel", "fails", "(I)Z"⟩ ⟨"TownBandModel", "fails", "(I)Z"⟩ ∈ tblG := tS (i := 108) (q := (⟨"TownBandModel", "fails", "(I)Z"⟩, 48)) rfl
theorem ts_109 : Cond.selects "TownBandModel" ⟨"TownBandModel", "isSign", "(I)Z"⟩ ⟨"TownBandModel", "isSign", "(I)Z"⟩ ∈ tblG := tS (i := 109) (q := (⟨"TownBandModel", "isSign", "(I)Z"⟩, 48)) rfl
theorem ts_110 : Cond.selects "TownBandModel" ⟨"TownBandModel", "takes", "(II)Z"⟩ ⟨"TownBandModel", "takes", "(II)Z"⟩ ∈ tblG := tS (i := 110) (q := (⟨"TownBandModel", "takes", "(II)Z"⟩, 48)) rfl
theorem ts_111 : Cond.selects "TownBandModel" ⟨"TownBandModel", "readPart", "(I)Z"⟩ ⟨"TownBandModel", "readPart", "(I)Z"⟩ ∈ tblG := tS (i := 111) (q := (⟨"TownBandModel", "readPart", "(I)Z"⟩, 48)) rfl
theorem ts_112 : Cond.selects "TownBandModel" ⟨"TownBandModel", "readRule", "()Z"⟩ ⟨"TownBandModel", "readRule", "()Z"⟩ ∈ tblG := tS (i := 112) (q := (⟨"TownBandModel", "readRule", "()Z"⟩, 48)) rfl
theorem ts_113 : Cond.selects "TownBandModel" ⟨"TownBandModel", "open", "()I"⟩ ⟨"TownBandModel", "open", "()I"⟩ ∈ tblG := tS (i := 113) (q := (⟨"TownBandModel", "open", "()I"⟩, 48)) rfl
theorem ts_114 : Cond.selects "TownBandModel" ⟨"TownBandModel", "step", "()V"⟩ ⟨"TownBandModel", "step", "()V"⟩ ∈ tblG := tS (i := 114) (q := (⟨"TownBandModel", "step", "()V"⟩, 48)) rfl
theorem ts_115 : Cond.selects "TownBandModel" ⟨"TownBandModel", "readSums", "()Z"⟩ ⟨"TownBandModel", "readSums", "()Z"⟩ ∈ tblG := tS (i := 115) (q := (⟨"TownBandModel", "readSums", "()Z"⟩, 48)) rfl
theorem ts_116 : Cond.selects "TownBandModel" ⟨"TownBandModel", "value", "()Z"⟩ ⟨"TownBandModel", "value", "()Z"⟩ ∈ tblG := tS (i := 116) (q := (⟨"TownBandModel", "value", "()Z"⟩, 48)) rfl
theorem ts_117 : Cond.selects "TownBandModel" ⟨"TownBandModel", "does", "(II)V"⟩ ⟨"TownBandModel", "does", "(II)V"⟩ ∈ tblG := tS (i := 117) (q := (⟨"TownBandModel", "does", "(II)V"⟩, 48)) rfl
theorem ts_118 : Cond.selects "TownBandModel" ⟨"TownBandModel", "settles", "(I)V"⟩ ⟨"TownBandModel", "settles", "(I)V"⟩ ∈ tblG := tS (i := 118) (q := (⟨"TownBandModel", "settles", "(I)V"⟩, 48)) rfl
theorem ts_119 : Cond.selects "TownBandModel" ⟨"TownBandModel", "rank", "(I)I"⟩ ⟨"TownBandModel", "rank", "(I)I"⟩ ∈ tblG := tS (i := 119) (q := (⟨"TownBandModel", "rank", "(I)I"⟩, 48)) rfl
theorem ts_120 : Cond.selects "TownBandModel" ⟨"TownBandModel", "done", "(III)I"⟩ ⟨"TownBandModel", "done", "(III)I"⟩ ∈ tblG := tS (i := 120) (q := (⟨"TownBandModel", "done", "(III)I"⟩, 48)) rfl
theorem i_Cover : ∀ w ∈ u_ws R_Cover F_Cover 4, w ∈ tblG := tU [238, 240, 242, 244] (by decide +kernel) (by decide +kernel)
theorem i_Library : ∀ w ∈ u_ws R_Library F_Library 3, w ∈ tblG := tU [122, 124, 126] (by decide +kernel) (by decide +kernel)
theorem i_Loans : ∀ w ∈ u_ws R_Loans F_Loans 6, w ∈ tblG := tU [215, 217, 219, 221, 223, 225] (by decide +kernel) (by decide +kernel)
theorem i_Piece : ∀ w ∈ u_ws R_Piece F_Piece 9, w ∈ tblG := tU [99, 101, 103, 105, 107, 109, 111, 113, 115] (by decide +kernel) (by decide +kernel)
theorem i_Planner : ∀ w ∈ u_ws R_Planner F_Planner 9, w ∈ tblG := tU [294, 296, 298, 300, 302, 304, 306, 308, 310] (by decide +kernel) (by decide +kernel)
theorem i_Players : ∀ w ∈ u_ws R_Players F_Players 6, w ∈ tblG := tU [48, 50, 52, 54, 56, 58] (by decide +kernel) (by decide +kernel)
theorem i_Rule : ∀ w ∈ u_ws R_Rule F_Rule 7, w ∈ tblG := tU [187, 189, 191, 193, 195, 197, 199] (by decide +kernel) (by decide +kernel)
theorem i_Seater : ∀ w ∈ u_ws R_Seater F_Seater 7, w ∈ tblG := tU [260, 262, 264, 266, 268, 270, 272] (by decide +kernel) (by decide +kernel)
theorem i_Tape : ∀ w ∈ u_ws R_Tape F_Tape 10, w ∈ tblG := tU [153, 155, 157, 159, 161, 163, 165, 167, 169, 171] (by decide +kernel) (by decide +kernel)
theorem i_Band : ∀ w ∈ u_ws R_Band F_Band 8, w ∈ tblG := tU [321, 323, 325, 327, 329, 331, 333, 335] (by decide +kernel) (by decide +kernel)
theorem i_Model : ∀ w ∈ u_ws R_Model F_Model 48, w ∈ tblG := tU [948, 950, 952, 954, 956, 958, 960, 962, 964, 966, 968, 970, 972, 974, 976, 978, 980, 982, 984, 986, 988, 990, 992, 994, 996, 998, 1000, 1002, 1004, 1006, 1008, 1010, 1012, 1014, 1016, 1018, 1020, 1022, 1024, 1026, 1028, 1030, 1032, 1034, 1036, 1038, 1040, 1042] (by decide +kernel) (by decide +kernel)
abbrev m_Cover_init : MI := (y_Cover_init, b_Cover_init, 1, none, R_Cover)
theorem k_Cover_init : CalOk m_Cover_init 0 := ⟨tw_232, tw_9, ⟨by decide, by decide⟩, by decide +kernel, by decide⟩
abbrev m_Cover_coversMust : MI := (y_Cover_coversMust, b_Cover_coversMust, 4, (some .boolean), R_Cover)
theorem k_Cover_coversMust : CalOk m_Cover_coversMust 2 := ⟨tw_615, tw_9, ⟨by decide, by decide⟩, by decide +kernel, by decide⟩
abbrev m_Cover_findAble : MI := (y_Cover_findAble, b_Cover_findAble, 4, none, R_Cover)
theorem k_Cover_findAble : CalOk m_Cover_findAble 2 := ⟨tw_619, tw_9, ⟨by decide, by decide⟩, by decide +kernel, by decide⟩
abbrev m_Cover_findPlayer : MI := (y_Cover_findPlayer, b_Cover_findPlayer, 5, (some .boolean), R_Cover)
theorem k_Cover_findPlayer : CalOk m_Cover_findPlayer 2 := ⟨tw_642, tw_9, ⟨by decide, by decide⟩, by decide +kernel, by decide⟩
abbrev m_Cover_leastLack : MI := (y_Cover_leastLack, b_Cover_leastLack, 10, (some .int), R_Cover)
theorem k_Cover_leastLack : CalOk m_Cover_leastLack 2 := ⟨tw_650, tw_9, ⟨by decide, by decide⟩, by decide +kernel, by decide⟩
abbrev m_Library_init : MI := (y_Library_init, b_Library_init, 2, none, R_Library)
theorem k_Library_init : CalOk m_Library_init 0 := ⟨tw_66, tw_4, ⟨by decide, by decide⟩, by decide +kernel, by decide⟩
abbrev m_Library_find : MI := (y_Library_find, b_Library_find, 2, (some (.object "TownBand$Piece")), R_Library)
theorem k_Library_find : CalOk m_Library_find 1 := ⟨tw_595, tw_4, ⟨by decide, by decide⟩, by decide +kernel, by decide⟩
abbrev m_Library_readText : MI := (y_Library_readText, b_Library_readText, 3, (some .boolean), R_Library)
theorem k_Library_readText : CalOk m_Library_readText 1 := ⟨tw_406, tw_4, ⟨by decide, by decide⟩, by decide +kernel, by decide⟩
abbrev m_Library_readPiece : MI := (y_Library_readPiece, b_Library_readPiece, 4, none, R_Library)
theorem k_Library_readPiece : CalOk m_Library_readPiece 1 := ⟨tw_471, tw_4, ⟨by decide, by decide⟩, by decide +kernel, by decide⟩
abbrev m_Library_readName : MI := (y_Library_readName, b_Library_readName, 3, (some .int), R_Library)
theorem k_Library_readName : CalOk m_Library_readName 1 := ⟨tw_485, tw_4, ⟨by decide, by decide⟩, by decide +kernel, by decide⟩
abbrev m_Library_isWord : MI := (y_Library_isWord, b_Library_isWord, 1, (some .boolean), R_Library)
theorem k_Library_isWord : CalOk m_Library_isWord 1 := ⟨tw_488, tw_4, ⟨by decide, by decide⟩, by decide +kernel, by decide⟩
abbrev m_Library_hasName : MI := (y_Library_hasName, b_Library_hasName, 3, (some .boolean), R_Library)
theorem k_Library_hasName : CalOk m_Library_hasName 1 := ⟨tw_495, tw_4, ⟨by decide, by decide⟩, by decide +kernel, by decide⟩
abbrev m_Library_readNumber : MI := (y_Library_readNumber, b_Library_readNumber, 4, (some .int), R_Library)
theorem k_Library_readNumber : CalOk m_Library_readNumber 3 := ⟨tw_503, tw_4, ⟨by decide, by decide⟩, by decide +kernel, by decide⟩
abbrev m_Library_readPart : MI := (y_Library_readPart, b_Library_readPart, 4, none, R_Library)
theorem k_Library_readPart : CalOk m_Library_readPart 2 := ⟨tw_507, tw_4, ⟨by decide, by decide⟩, by decide +kernel, by decide⟩
abbrev m_Library_readInstrument : MI := (y_Library_readInstrument, b_Library_readInstrument, 3, none, R_Library)
theorem k_Library_readInstrument : CalOk m_Library_readInstrument 3 := ⟨tw_514, tw_4, ⟨by decide, by decide⟩, by decide +kernel, by decide⟩
abbrev m_Loans_init : MI := (y_Loans_init, b_Loans_init, 1, none, R_Loans)
theorem k_Loans_init : CalOk m_Loans_init 0 := ⟨tw_206, tw_8, ⟨by decide, by decide⟩, by decide +kernel, by decide⟩
abbrev m_Loans_note : MI := (y_Loans_note, b_Loans_note, 4, (some .int), R_Loans)
theorem k_Loans_note : CalOk m_Loans_note 3 := ⟨tw_823, tw_8, ⟨by decide, by decide⟩, by decide +kernel, by decide⟩
abbrev m_Loans_placeOf : MI := (y_Loans_placeOf, b_Loans_placeOf, 4, (some .int), R_Loans)
theorem k_Loans_placeOf : CalOk m_Loans_placeOf 3 := ⟨tw_831, tw_8, ⟨by decide, by decide⟩, by decide +kernel, by decide⟩
abbrev m_Loans_copiesAt : MI := (y_Loans_copiesAt, b_Loans_copiesAt, 6, (some .int), R_Loans)
theorem k_Loans_copiesAt : CalOk m_Loans_copiesAt 3 := ⟨tw_844, tw_8, ⟨by decide, by decide⟩, by decide +kernel, by decide⟩
abbrev m_Loans_settle : MI := (y_Loans_settle, b_Loans_settle, 5, none, R_Loans)
theorem k_Loans_settle : CalOk m_Loans_settle 2 := ⟨tw_835, tw_8, ⟨by decide, by decide⟩, by decide +kernel, by decide⟩
abbrev m_Piece_init : MI := (y_Piece_init, b_Piece_init, 1, none, R_Piece)
theorem k_Piece_init : CalOk m_Piece_init 0 := ⟨tw_73, tw_5, ⟨by decide, by decide⟩, by decide +kernel, by decide⟩
abbrev m_Piece_clear : MI := (y_Piece_clear, b_Piece_clear, 1, none, R_Piece)
theorem k_Piece_clear : CalOk m_Piece_clear 0 := ⟨tw_479, tw_5, ⟨by decide, by decide⟩, by decide +kernel, by decide⟩
abbrev m_Piece_hasPart : MI := (y_Piece_hasPart, b_Piece_hasPart, 2, (some .boolean), R_Piece)
theorem k_Piece_hasPart : CalOk m_Piece_hasPart 1 := ⟨tw_607, tw_5, ⟨by decide, by decide⟩, by decide +kernel, by decide⟩
abbrev m_Piece_isMust : MI := (y_Piece_isMust, b_Piece_isMust, 2, (some .boolean), R_Piece)
theorem k_Piece_isMust : CalOk m_Piece_isMust 1 := ⟨tw_623, tw_5, ⟨by decide, by decide⟩, by decide +kernel, by decide⟩
abbrev m_Piece_addPart : MI := (y_Piece_addPart, b_Piece_addPart, 2, none, R_Piece)
theorem k_Piece_addPart : CalOk m_Piece_addPart 1 := ⟨tw_511, tw_5, ⟨by decide, by decide⟩, by decide +kernel, by decide⟩
abbrev m_Piece_instrument : MI := (y_Piece_instrument, b_Piece_instrument, 3, (some .int), R_Piece)
theorem k_Piece_instrument : CalOk m_Piece_instrument 2 := ⟨tw_522, tw_5, ⟨by decide, by decide⟩, by decide +kernel, by decide⟩
abbrev m_Piece_hasInstrument : MI := (y_Piece_hasInstrument, b_Piece_hasInstrument, 4, (some .boolean), R_Piece)
theorem k_Piece_hasInstrument : CalOk m_Piece_hasInstrument 2 := ⟨tw_518, tw_5, ⟨by decide, by decide⟩, by decide +kernel, by decide⟩
abbrev m_Piece_addInstrument : MI := (y_Piece_addInstrument, b_Piece_addInstrument, 3, none, R_Piece)
theorem k_Piece_addInstrument : CalOk m_Piece_addInstrument 2 := ⟨tw_526, tw_5, ⟨by decide, by decide⟩, by decide +kernel, by decide⟩
abbrev m_Piece_detail : MI := (y_Piece_detail, b_Piece_detail, 2, (some .int), R_Piece)
theorem k_Piece_detail : CalOk m_Piece_detail 1 := ⟨tw_599, tw_5, ⟨by decide, by decide⟩, by decide +kernel, by decide⟩
abbrev m_Piece_partDetail : MI := (y_Piece_partDetail, b_Piece_partDetail, 4, (some .int), R_Piece)
theorem k_Piece_partDetail : CalOk m_Piece_partDetail 1 := ⟨tw_603, tw_5, ⟨by decide, by decide⟩, by decide +kernel, by decide⟩
abbrev m_Piece_seated : MI := (y_Piece_seated, b_Piece_seated, 3, (some .int), R_Piece)
theorem k_Piece_seated : CalOk m_Piece_seated 0 := ⟨tw_711, tw_5, ⟨by decide, by decide⟩, by decide +kernel, by decide⟩
abbrev m_Piece_seatsElsewhere : MI := (y_Piece_seatsElsewhere, b_Piece_seatsElsewhere, 4, (some .boolean), R_Piece)
theorem k_Piece_seatsElsewhere : CalOk m_Piece_seatsElsewhere 2 := ⟨tw_733, tw_5, ⟨by decide, by decide⟩, by decide +kernel, by decide⟩
abbrev m_Planner_init : MI := (y_Planner_init, b_Planner_init, 1, none, R_Planner)
theorem k_Planner_init : CalOk m_Planner_init 0 := ⟨tw_280, tw_11, ⟨by decide, by decide⟩, by decide +kernel, by decide⟩
abbrev m_Planner_forgetChoices : MI := (y_Planner_forgetChoices, b_Planner_forgetChoices, 1, none, R_Planner)
theorem k_Planner_forgetChoices : CalOk m_Planner_forgetChoices 0 := ⟨tw_757, tw_11, ⟨by decide, by decide⟩, by decide +kernel, by decide⟩
abbrev m_Planner_offer : MI := (y_Planner_offer, b_Planner_offer, 3, none, R_Planner)
theorem k_Planner_offer : CalOk m_Planner_offer 2 := ⟨tw_761, tw_11, ⟨by decide, by decide⟩, by decide +kernel, by decide⟩
abbrev m_Planner_arrange : MI := (y_Planner_arrange, b_Planner_arrange, 12, (some .int), R_Planner)
theorem k_Planner_arrange : CalOk m_Planner_arrange 2 := ⟨tw_765, tw_11, ⟨by decide, by decide⟩, by decide +kernel, by decide⟩
abbrev m_Planner_minutesOf : MI := (y_Planner_minutesOf, b_Planner_minutesOf, 4, (some .int), R_Planner)
theorem k_Planner_minutesOf : CalOk m_Planner_minutesOf 1 := ⟨tw_769, tw_11, ⟨by decide, by decide⟩, by decide +kernel, by decide⟩
abbrev m_Planner_fillSet : MI := (y_Planner_fillSet, b_Planner_fillSet, 10, (some .long), R_Planner)
theorem k_Planner_fillSet : CalOk m_Planner_fillSet 3 := ⟨tw_773, tw_11, ⟨by decide, by decide⟩, by decide +kernel, by decide⟩
abbrev m_Planner_bestEndingWith : MI := (y_Planner_bestEndingWith, b_Planner_bestEndingWith, 12, (some .long), R_Planner)
theorem k_Planner_bestEndingWith : CalOk m_Planner_bestEndingWith 3 := ⟨tw_778, tw_11, ⟨by decide, by decide⟩, by decide +kernel, by decide⟩
abbrev m_Planner_keyGap : MI := (y_Planner_keyGap, b_Planner_keyGap, 4, (some .int), R_Planner)
theorem k_Planner_keyGap : CalOk m_Planner_keyGap 2 := ⟨tw_785, tw_11, ⟨by decide, by decide⟩, by decide +kernel, by decide⟩
abbrev m_Planner_keepRow : MI := (y_Planner_keepRow, b_Planner_keepRow, 5, none, R_Planner)
theorem k_Planner_keepRow : CalOk m_Planner_keepRow 2 := ⟨tw_799, tw_11, ⟨by decide, by decide⟩, by decide +kernel, by decide⟩
abbrev m_Players_init : MI := (y_Players_init, b_Players_init, 1, none, R_Players)
theorem k_Players_init : CalOk m_Players_init 0 := ⟨tw_31, tw_2, ⟨by decide, by decide⟩, by decide +kernel, by decide⟩
abbrev m_Players_has : MI := (y_Players_has, b_Players_has, 2, (some .boolean), R_Players)
theorem k_Players_has : CalOk m_Players_has 1 := ⟨tw_359, tw_2, ⟨by decide, by decide⟩, by decide +kernel, by decide⟩
abbrev m_Players_join : MI := (y_Players_join, b_Players_join, 3, (some .int), R_Players)
theorem k_Players_join : CalOk m_Players_join 2 := ⟨tw_351, tw_2, ⟨by decide, by decide⟩, by decide +kernel, by decide⟩
abbrev m_Players_learn : MI := (y_Players_learn, b_Players_learn, 4, none, R_Players)
theorem k_Players_learn : CalOk m_Players_learn 3 := ⟨tw_366, tw_2, ⟨by decide, by decide⟩, by decide +kernel, by decide⟩
abbrev m_Players_costOf : MI := (y_Players_costOf, b_Players_costOf, 3, (some .int), R_Players)
theorem k_Players_costOf : CalOk m_Players_costOf 2 := ⟨tw_374, tw_2, ⟨by decide, by decide⟩, by decide +kernel, by decide⟩
abbrev m_Players_mark : MI := (y_Players_mark, b_Players_mark, 4, none, R_Players)
theorem k_Players_mark : CalOk m_Players_mark 2 := ⟨tw_382, tw_2, ⟨by decide, by decide⟩, by decide +kernel, by decide⟩
abbrev m_Players_isPresent : MI := (y_Players_isPresent, b_Players_isPresent, 2, (some .boolean), R_Players)
theorem k_Players_isPresent : CalOk m_Players_isPresent 1 := ⟨tw_631, tw_2, ⟨by decide, by decide⟩, by decide +kernel, by decide⟩
abbrev m_Players_compete : MI := (y_Players_compete, b_Players_compete, 2, (some .int), R_Players)
theorem k_Players_compete : CalOk m_Players_compete 1 := ⟨tw_852, tw_2, ⟨by decide, by decide⟩, by decide +kernel, by decide⟩
abbrev m_Players_partCost : MI := (y_Players_partCost, b_Players_partCost, 7, (some .int), R_Players)
theorem k_Players_partCost : CalOk m_Players_partCost 3 := ⟨tw_635, tw_2, ⟨by decide, by decide⟩, by decide +kernel, by decide⟩
abbrev m_Players_presentFor : MI := (y_Players_presentFor, b_Players_presentFor, 5, (some .int), R_Players)
theorem k_Players_presentFor : CalOk m_Players_presentFor 2 := ⟨tw_627, tw_2, ⟨by decide, by decide⟩, by decide +kernel, by decide⟩
abbrev m_Players_seatingCost : MI := (y_Players_seatingCost, b_Players_seatingCost, 5, (some .int), R_Players)
theorem k_Players_seatingCost : CalOk m_Players_seatingCost 1 := ⟨tw_741, tw_2, ⟨by decide, by decide⟩, by decide +kernel, by decide⟩
abbrev m_Players_seatedButAway : MI := (y_Players_seatedButAway, b_Players_seatedButAway, 5, (some .int), R_Players)
theorem k_Players_seatedButAway : CalOk m_Players_seatedButAway 1 := ⟨tw_749, tw_2, ⟨by decide, by decide⟩, by decide +kernel, by decide⟩
abbrev m_Rule_init : MI := (y_Rule_init, b_Rule_init, 1, none, R_Rule)
theorem k_Rule_init : CalOk m_Rule_init 0 := ⟨tw_178, tw_7, ⟨by decide, by decide⟩, by decide +kernel, by decide⟩
abbrev m_Rule_beginDraft : MI := (y_Rule_beginDraft, b_Rule_beginDraft, 1, none, R_Rule)
theorem k_Rule_beginDraft : CalOk m_Rule_beginDraft 0 := ⟨tw_539, tw_7, ⟨by decide, by decide⟩, by decide +kernel, by decide⟩
abbrev m_Rule_adoptDraft : MI := (y_Rule_adoptDraft, b_Rule_adoptDraft, 2, none, R_Rule)
theorem k_Rule_adoptDraft : CalOk m_Rule_adoptDraft 0 := ⟨tw_583, tw_7, ⟨by decide, by decide⟩, by decide +kernel, by decide⟩
abbrev m_Rule_readEither : MI := (y_Rule_readEither, b_Rule_readEither, 4, none, R_Rule)
theorem k_Rule_readEither : CalOk m_Rule_readEither 2 := ⟨tw_544, tw_7, ⟨by decide, by decide⟩, by decide +kernel, by decide⟩
abbrev m_Rule_readBoth : MI := (y_Rule_readBoth, b_Rule_readBoth, 4, none, R_Rule)
theorem k_Rule_readBoth : CalOk m_Rule_readBoth 2 := ⟨tw_548, tw_7, ⟨by decide, by decide⟩, by decide +kernel, by decide⟩
abbrev m_Rule_readOne : MI := (y_Rule_readOne, b_Rule_readOne, 4, none, R_Rule)
theorem k_Rule_readOne : CalOk m_Rule_readOne 2 := ⟨tw_552, tw_7, ⟨by decide, by decide⟩, by decide +kernel, by decide⟩
abbrev m_Rule_readComparison : MI := (y_Rule_readComparison, b_Rule_readComparison, 3, none, R_Rule)
theorem k_Rule_readComparison : CalOk m_Rule_readComparison 1 := ⟨tw_556, tw_7, ⟨by decide, by decide⟩, by decide +kernel, by decide⟩
abbrev m_Rule_readSum : MI := (y_Rule_readSum, b_Rule_readSum, 4, none, R_Rule)
theorem k_Rule_readSum : CalOk m_Rule_readSum 1 := ⟨tw_560, tw_7, ⟨by decide, by decide⟩, by decide +kernel, by decide⟩
abbrev m_Rule_readValue : MI := (y_Rule_readValue, b_Rule_readValue, 2, none, R_Rule)
theorem k_Rule_readValue : CalOk m_Rule_readValue 1 := ⟨tw_564, tw_7, ⟨by decide, by decide⟩, by decide +kernel, by decide⟩
abbrev m_Rule_write : MI := (y_Rule_write, b_Rule_write, 2, none, R_Rule)
theorem k_Rule_write : CalOk m_Rule_write 1 := ⟨tw_568, tw_7, ⟨by decide, by decide⟩, by decide +kernel, by decide⟩
abbrev m_Rule_setPlayer : MI := (y_Rule_setPlayer, b_Rule_setPlayer, 4, none, R_Rule)
theorem k_Rule_setPlayer : CalOk m_Rule_setPlayer 3 := ⟨tw_860, tw_7, ⟨by decide, by decide⟩, by decide +kernel, by decide⟩
abbrev m_Rule_setDay : MI := (y_Rule_setDay, b_Rule_setDay, 3, none, R_Rule)
theorem k_Rule_setDay : CalOk m_Rule_setDay 2 := ⟨tw_864, tw_7, ⟨by decide, by decide⟩, by decide +kernel, by decide⟩
abbrev m_Rule_allows : MI := (y_Rule_allows, b_Rule_allows, 2, (some .boolean), R_Rule)
theorem k_Rule_allows : CalOk m_Rule_allows 0 := ⟨tw_868, tw_7, ⟨by decide, by decide⟩, by decide +kernel, by decide⟩
abbrev m_Rule_work : MI := (y_Rule_work, b_Rule_work, 4, none, R_Rule)
theorem k_Rule_work : CalOk m_Rule_work 1 := ⟨tw_872, tw_7, ⟨by decide, by decide⟩, by decide +kernel, by decide⟩
abbrev m_Rule_join : MI := (y_Rule_join, b_Rule_join, 3, (some .int), R_Rule)
theorem k_Rule_join : CalOk m_Rule_join 3 := ⟨tw_883, tw_7, ⟨by decide, by decide⟩, by decide +kernel, by decide⟩
abbrev m_Rule_push : MI := (y_Rule_push, b_Rule_push, 2, none, R_Rule)
theorem k_Rule_push : CalOk m_Rule_push 1 := ⟨tw_876, tw_7, ⟨by decide, by decide⟩, by decide +kernel, by decide⟩
abbrev m_Rule_pop : MI := (y_Rule_pop, b_Rule_pop, 1, (some .int), R_Rule)
theorem k_Rule_pop : CalOk m_Rule_pop 0 := ⟨tw_880, tw_7, ⟨by decide, by decide⟩, by decide +kernel, by decide⟩
abbrev m_Seater_init : MI := (y_Seater_init, b_Seater_init, 1, none, R_Seater)
theorem k_Seater_init : CalOk m_Seater_init 0 := ⟨tw_251, tw_10, ⟨by decide, by decide⟩, by decide +kernel, by decide⟩
abbrev m_Seater_seatAnew : MI := (y_Seater_seatAnew, b_Seater_seatAnew, 6, none, R_Seater)
theorem k_Seater_seatAnew : CalOk m_Seater_seatAnew 2 := ⟨tw_664, tw_10, ⟨by decide, by decide⟩, by decide +kernel, by decide⟩
abbrev m_Seater_seatWithFewestChanges : MI := (y_Seater_seatWithFewestChanges, b_Seater_seatWithFewestChanges, 8, (some .int), R_Seater)
theorem k_Seater_seatWithFewestChanges : CalOk m_Seater_seatWithFewestChanges 2 := ⟨tw_719, tw_10, ⟨by decide, by decide⟩, by decide +kernel, by decide⟩
abbrev m_Seater_weigh : MI := (y_Seater_weigh, b_Seater_weigh, 5, none, R_Seater)
theorem k_Seater_weigh : CalOk m_Seater_weigh 3 := ⟨tw_674, tw_10, ⟨by decide, by decide⟩, by decide +kernel, by decide⟩
abbrev m_Seater_weighEmpty : MI := (y_Seater_weighEmpty, b_Seater_weighEmpty, 9, none, R_Seater)
theorem k_Seater_weighEmpty : CalOk m_Seater_weighEmpty 4 := ⟨tw_679, tw_10, ⟨by decide, by decide⟩, by decide +kernel, by decide⟩
abbrev m_Seater_match : MI := (y_Seater_match, b_Seater_match, 4, none, R_Seater)
theorem k_Seater_match : CalOk m_Seater_match 2 := ⟨tw_685, tw_10, ⟨by decide, by decide⟩, by decide +kernel, by decide⟩
abbrev m_Seater_placeRow : MI := (y_Seater_placeRow, b_Seater_placeRow, 6, none, R_Seater)
theorem k_Seater_placeRow : CalOk m_Seater_placeRow 1 := ⟨tw_693, tw_10, ⟨by decide, by decide⟩, by decide +kernel, by decide⟩
abbrev m_Seater_nearestColumn : MI := (y_Seater_nearestColumn, b_Seater_nearestColumn, 10, (some .int), R_Seater)
theorem k_Seater_nearestColumn : CalOk m_Seater_nearestColumn 2 := ⟨tw_698, tw_10, ⟨by decide, by decide⟩, by decide +kernel, by decide⟩
abbrev m_Seater_shiftPrices : MI := (y_Seater_shiftPrices, b_Seater_shiftPrices, 5, none, R_Seater)
theorem k_Seater_shiftPrices : CalOk m_Seater_shiftPrices 2 := ⟨tw_702, tw_10, ⟨by decide, by decide⟩, by decide +kernel, by decide⟩
abbrev m_Seater_takeChairs : MI := (y_Seater_takeChairs, b_Seater_takeChairs, 7, (some .int), R_Seater)
theorem k_Seater_takeChairs : CalOk m_Seater_takeChairs 2 := ⟨tw_706, tw_10, ⟨by decide, by decide⟩, by decide +kernel, by decide⟩
abbrev m_Tape_init : MI := (y_Tape_init, b_Tape_init, 1, none, R_Tape)
theorem k_Tape_init : CalOk m_Tape_init 0 := ⟨tw_133, tw_6, ⟨by decide, by decide⟩, by decide +kernel, by decide⟩
abbrev m_Tape_hasRoom : MI := (y_Tape_hasRoom, b_Tape_hasRoom, 1, (some .boolean), R_Tape)
theorem k_Tape_hasRoom : CalOk m_Tape_hasRoom 0 := ⟨tw_390, tw_6, ⟨by decide, by decide⟩, by decide +kernel, by decide⟩
abbrev m_Tape_append : MI := (y_Tape_append, b_Tape_append, 3, none, R_Tape)
theorem k_Tape_append : CalOk m_Tape_append 1 := ⟨tw_394, tw_6, ⟨by decide, by decide⟩, by decide +kernel, by decide⟩
abbrev m_Tape_begin : MI := (y_Tape_begin, b_Tape_begin, 2, none, R_Tape)
theorem k_Tape_begin : CalOk m_Tape_begin 1 := ⟨tw_410, tw_6, ⟨by decide, by decide⟩, by decide +kernel, by decide⟩
abbrev m_Tape_finish : MI := (y_Tape_finish, b_Tape_finish, 1, (some .boolean), R_Tape)
theorem k_Tape_finish : CalOk m_Tape_finish 0 := ⟨tw_530, tw_6, ⟨by decide, by decide⟩, by decide +kernel, by decide⟩
abbrev m_Tape_fail : MI := (y_Tape_fail, b_Tape_fail, 2, none, R_Tape)
theorem k_Tape_fail : CalOk m_Tape_fail 1 := ⟨tw_475, tw_6, ⟨by decide, by decide⟩, by decide +kernel, by decide⟩
abbrev m_Tape_advance : MI := (y_Tape_advance, b_Tape_advance, 1, none, R_Tape)
theorem k_Tape_advance : CalOk m_Tape_advance 0 := ⟨tw_414, tw_6, ⟨by decide, by decide⟩, by decide +kernel, by decide⟩
abbrev m_Tape_take : MI := (y_Tape_take, b_Tape_take, 2, none, R_Tape)
theorem k_Tape_take : CalOk m_Tape_take 1 := ⟨tw_499, tw_6, ⟨by decide, by decide⟩, by decide +kernel, by decide⟩
abbrev m_Tape_reads : MI := (y_Tape_reads, b_Tape_reads, 3, (some .boolean), R_Tape)
theorem k_Tape_reads : CalOk m_Tape_reads 1 := ⟨tw_419, tw_6, ⟨by decide, by decide⟩, by decide +kernel, by decide⟩
abbrev m_Band_init : MI := (y_Band_init, b_Band_init, 1, none, R_Band)
theorem k_Band_init : CalOk m_Band_init 0 := ⟨tw_23, tw_1, ⟨by decide, by decide⟩, by decide +kernel, by decide⟩
abbrev m_Band_player : MI := (y_Band_player, b_Band_player, 3, (some .int), R_Band)
theorem k_Band_player : CalOk m_Band_player 2 := ⟨tw_341, tw_1, ⟨by decide, by decide⟩, by decide +kernel, by decide⟩
abbrev m_Band_plays : MI := (y_Band_plays, b_Band_plays, 4, (some .boolean), R_Band)
theorem k_Band_plays : CalOk m_Band_plays 3 := ⟨tw_355, tw_1, ⟨by decide, by decide⟩, by decide +kernel, by decide⟩
abbrev m_Band_cost : MI := (y_Band_cost, b_Band_cost, 3, (some .int), R_Band)
theorem k_Band_cost : CalOk m_Band_cost 2 := ⟨tw_370, tw_1, ⟨by decide, by decide⟩, by decide +kernel, by decide⟩
abbrev m_Band_here : MI := (y_Band_here, b_Band_here, 3, (some .boolean), R_Band)
theorem k_Band_here : CalOk m_Band_here 2 := ⟨tw_378, tw_1, ⟨by decide, by decide⟩, by decide +kernel, by decide⟩
abbrev m_Band_feed : MI := (y_Band_feed, b_Band_feed, 6, (some .int), R_Band)
theorem k_Band_feed : CalOk m_Band_feed 5 := ⟨tw_386, tw_1, ⟨by decide, by decide⟩, by decide +kernel, by decide⟩
abbrev m_Band_end : MI := (y_Band_end, b_Band_end, 2, (some .int), R_Band)
theorem k_Band_end : CalOk m_Band_end 1 := ⟨tw_398, tw_1, ⟨by decide, by decide⟩, by decide +kernel, by decide⟩
abbrev m_Band_load : MI := (y_Band_load, b_Band_load, 1, (some .int), R_Band)
theorem k_Band_load : CalOk m_Band_load 0 := ⟨tw_402, tw_1, ⟨by decide, by decide⟩, by decide +kernel, by decide⟩
abbrev m_Band_rule : MI := (y_Band_rule, b_Band_rule, 1, (some .int), R_Band)
theorem k_Band_rule : CalOk m_Band_rule 0 := ⟨tw_535, tw_1, ⟨by decide, by decide⟩, by decide +kernel, by decide⟩
abbrev m_Band_fault : MI := (y_Band_fault, b_Band_fault, 2, (some .int), R_Band)
theorem k_Band_fault : CalOk m_Band_fault 1 := ⟨tw_587, tw_1, ⟨by decide, by decide⟩, by decide +kernel, by decide⟩
abbrev m_Band_piece : MI := (y_Band_piece, b_Band_piece, 4, (some .int), R_Band)
theorem k_Band_piece : CalOk m_Band_piece 2 := ⟨tw_591, tw_1, ⟨by decide, by decide⟩, by decide +kernel, by decide⟩
abbrev m_Band_playable : MI := (y_Band_playable, b_Band_playable, 3, (some .int), R_Band)
theorem k_Band_playable : CalOk m_Band_playable 1 := ⟨tw_611, tw_1, ⟨by decide, by decide⟩, by decide +kernel, by decide⟩
abbrev m_Band_lacks : MI := (y_Band_lacks, b_Band_lacks, 3, (some .int), R_Band)
theorem k_Band_lacks : CalOk m_Band_lacks 1 := ⟨tw_646, tw_1, ⟨by decide, by decide⟩, by decide +kernel, by decide⟩
abbrev m_Band_seat : MI := (y_Band_seat, b_Band_seat, 3, (some .int), R_Band)
theorem k_Band_seat : CalOk m_Band_seat 1 := ⟨tw_660, tw_1, ⟨by decide, by decide⟩, by decide +kernel, by decide⟩
abbrev m_Band_again : MI := (y_Band_again, b_Band_again, 3, (some .int), R_Band)
theorem k_Band_again : CalOk m_Band_again 1 := ⟨tw_715, tw_1, ⟨by decide, by decide⟩, by decide +kernel, by decide⟩
abbrev m_Band_chair : MI := (y_Band_chair, b_Band_chair, 4, (some .int), R_Band)
theorem k_Band_chair : CalOk m_Band_chair 2 := ⟨tw_723, tw_1, ⟨by decide, by decide⟩, by decide +kernel, by decide⟩
abbrev m_Band_sit : MI := (y_Band_sit, b_Band_sit, 5, (some .boolean), R_Band)
theorem k_Band_sit : CalOk m_Band_sit 3 := ⟨tw_728, tw_1, ⟨by decide, by decide⟩, by decide +kernel, by decide⟩
abbrev m_Band_seating : MI := (y_Band_seating, b_Band_seating, 4, (some .int), R_Band)
theorem k_Band_seating : CalOk m_Band_seating 2 := ⟨tw_737, tw_1, ⟨by decide, by decide⟩, by decide +kernel, by decide⟩
abbrev m_Band_programme : MI := (y_Band_programme, b_Band_programme, 5, (some .int), R_Band)
theorem k_Band_programme : CalOk m_Band_programme 2 := ⟨tw_753, tw_1, ⟨by decide, by decide⟩, by decide +kernel, by decide⟩
abbrev m_Band_plan : MI := (y_Band_plan, b_Band_plan, 2, (some .int), R_Band)
theorem k_Band_plan : CalOk m_Band_plan 1 := ⟨tw_804, tw_1, ⟨by decide, by decide⟩, by decide +kernel, by decide⟩
abbrev m_Band_strain : MI := (y_Band_strain, b_Band_strain, 1, (some .int), R_Band)
theorem k_Band_strain : CalOk m_Band_strain 0 := ⟨tw_808, tw_1, ⟨by decide, by decide⟩, by decide +kernel, by decide⟩
abbrev m_Band_tell : MI := (y_Band_tell, b_Band_tell, 4, (some .int), R_Band)
theorem k_Band_tell : CalOk m_Band_tell 3 := ⟨tw_812, tw_1, ⟨by decide, by decide⟩, by decide +kernel, by decide⟩
abbrev m_Band_where : MI := (y_Band_where, b_Band_where, 4, (some .int), R_Band)
theorem k_Band_where : CalOk m_Band_where 3 := ⟨tw_827, tw_1, ⟨by decide, by decide⟩, by decide +kernel, by decide⟩
abbrev m_Band_copies : MI := (y_Band_copies, b_Band_copies, 4, (some .int), R_Band)
theorem k_Band_copies : CalOk m_Band_copies 3 := ⟨tw_840, tw_1, ⟨by decide, by decide⟩, by decide +kernel, by decide⟩
abbrev m_Band_contest : MI := (y_Band_contest, b_Band_contest, 2, (some .int), R_Band)
theorem k_Band_contest : CalOk m_Band_contest 1 := ⟨tw_848, tw_1, ⟨by decide, by decide⟩, by decide +kernel, by decide⟩
abbrev m_Band_may : MI := (y_Band_may, b_Band_may, 3, (some .int), R_Band)
theorem k_Band_may : CalOk m_Band_may 2 := ⟨tw_856, tw_1, ⟨by decide, by decide⟩, by decide +kernel, by decide⟩
abbrev m_Band_count : MI := (y_Band_count, b_Band_count, 2, (some .int), R_Band)
theorem k_Band_count : CalOk m_Band_count 1 := ⟨tw_887, tw_1, ⟨by decide, by decide⟩, by decide +kernel, by decide⟩
abbrev m_Band_playablePieces : MI := (y_Band_playablePieces, b_Band_playablePieces, 4, (some .int), R_Band)
theorem k_Band_playablePieces : CalOk m_Band_playablePieces 0 := ⟨tw_892, tw_1, ⟨by decide, by decide⟩, by decide +kernel, by decide⟩
abbrev m_Band_isPlace : MI := (y_Band_isPlace, b_Band_isPlace, 2, (some .boolean), R_Band)
theorem k_Band_isPlace : CalOk m_Band_isPlace 1 := ⟨tw_819, tw_1, ⟨by decide, by decide⟩, by decide +kernel, by decide⟩
abbrev m_Band_isWithin : MI := (y_Band_isWithin, b_Band_isWithin, 3, (some .boolean), R_Band)
theorem k_Band_isWithin : CalOk m_Band_isWithin 3 := ⟨tw_344, tw_1, ⟨by decide, by decide⟩, by decide +kernel, by decide⟩
abbrev m_Band_isDay : MI := (y_Band_isDay, b_Band_isDay, 1, (some .boolean), R_Band)
theorem k_Band_isDay : CalOk m_Band_isDay 1 := ⟨tw_347, tw_1, ⟨by decide, by decide⟩, by decide +kernel, by decide⟩
abbrev m_Band_isInstrument : MI := (y_Band_isInstrument, b_Band_isInstrument, 1, (some .boolean), R_Band)
theorem k_Band_isInstrument : CalOk m_Band_isInstrument 1 := ⟨tw_362, tw_1, ⟨by decide, by decide⟩, by decide +kernel, by decide⟩
abbrev m_Band_isCopy : MI := (y_Band_isCopy, b_Band_isCopy, 1, (some .boolean), R_Band)
theorem k_Band_isCopy : CalOk m_Band_isCopy 1 := ⟨tw_815, tw_1, ⟨by decide, by decide⟩, by decide +kernel, by decide⟩
abbrev m_Model_init : MI := (y_Model_init, b_Model_init, 1, none, R_Model)
theorem k_Model_init : CalOk m_Model_init 0 := ⟨tw_897, tw_12, ⟨by decide, by decide⟩, by decide +kernel, by decide⟩
abbrev m_Model_isPlayer : MI := (y_Model_isPlayer, b_Model_isPlayer, 2, (some .boolean), R_Model)
theorem k_Model_isPlayer : CalOk m_Model_isPlayer 1 := ⟨tw_1057, tw_12, ⟨by decide, by decide⟩, by decide +kernel, by decide⟩
abbrev m_Model_player : MI := (y_Model_player, b_Model_player, 3, (some .int), R_Model)
theorem k_Model_player : CalOk m_Model_player 2 := ⟨tw_1049, tw_12, ⟨by decide, by decide⟩, by decide +kernel, by decide⟩
abbrev m_Model_isInstrument : MI := (y_Model_isInstrument, b_Model_isInstrument, 2, (some .boolean), R_Model)
theorem k_Model_isInstrument : CalOk m_Model_isInstrument 1 := ⟨tw_1061, tw_12, ⟨by decide, by decide⟩, by decide +kernel, by decide⟩
abbrev m_Model_plays : MI := (y_Model_plays, b_Model_plays, 4, (some .boolean), R_Model)
theorem k_Model_plays : CalOk m_Model_plays 3 := ⟨tw_1053, tw_12, ⟨by decide, by decide⟩, by decide +kernel, by decide⟩
abbrev m_Model_cost : MI := (y_Model_cost, b_Model_cost, 3, (some .int), R_Model)
theorem k_Model_cost : CalOk m_Model_cost 2 := ⟨tw_1065, tw_12, ⟨by decide, by decide⟩, by decide +kernel, by decide⟩
abbrev m_Model_here : MI := (y_Model_here, b_Model_here, 3, (some .boolean), R_Model)
theorem k_Model_here : CalOk m_Model_here 2 := ⟨tw_1069, tw_12, ⟨by decide, by decide⟩, by decide +kernel, by decide⟩
abbrev m_Model_isPiece : MI := (y_Model_isPiece, b_Model_isPiece, 2, (some .boolean), R_Model)
theorem k_Model_isPiece : CalOk m_Model_isPiece 1 := ⟨tw_1077, tw_12, ⟨by decide, by decide⟩, by decide +kernel, by decide⟩
abbrev m_Model_costOf : MI := (y_Model_costOf, b_Model_costOf, 7, (some .int), R_Model)
theorem k_Model_costOf : CalOk m_Model_costOf 3 := ⟨tw_1089, tw_12, ⟨by decide, by decide⟩, by decide +kernel, by decide⟩
abbrev m_Model_isMust : MI := (y_Model_isMust, b_Model_isMust, 3, (some .boolean), R_Model)
theorem k_Model_isMust : CalOk m_Model_isMust 2 := ⟨tw_1118, tw_12, ⟨by decide, by decide⟩, by decide +kernel, by decide⟩
abbrev m_Model_piece : MI := (y_Model_piece, b_Model_piece, 5, (some .int), R_Model)
theorem k_Model_piece : CalOk m_Model_piece 2 := ⟨tw_1073, tw_12, ⟨by decide, by decide⟩, by decide +kernel, by decide⟩
abbrev m_Model_ones : MI := (y_Model_ones, b_Model_ones, 4, (some .int), R_Model)
theorem k_Model_ones : CalOk m_Model_ones 1 := ⟨tw_1093, tw_12, ⟨by decide, by decide⟩, by decide +kernel, by decide⟩
abbrev m_Model_lacking : MI := (y_Model_lacking, b_Model_lacking, 8, (some .int), R_Model)
theorem k_Model_lacking : CalOk m_Model_lacking 1 := ⟨tw_1085, tw_12, ⟨by decide, by decide⟩, by decide +kernel, by decide⟩
abbrev m_Model_playable : MI := (y_Model_playable, b_Model_playable, 2, (some .int), R_Model)
theorem k_Model_playable : CalOk m_Model_playable 1 := ⟨tw_1081, tw_12, ⟨by decide, by decide⟩, by decide +kernel, by decide⟩
abbrev m_Model_lacks : MI := (y_Model_lacks, b_Model_lacks, 2, (some .int), R_Model)
theorem k_Model_lacks : CalOk m_Model_lacks 1 := ⟨tw_1097, tw_12, ⟨by decide, by decide⟩, by decide +kernel, by decide⟩
abbrev m_Model_counts : MI := (y_Model_counts, b_Model_counts, 5, (some .int), R_Model)
theorem k_Model_counts : CalOk m_Model_counts 4 := ⟨tw_1122, tw_12, ⟨by decide, by decide⟩, by decide +kernel, by decide⟩
abbrev m_Model_mayBe : MI := (y_Model_mayBe, b_Model_mayBe, 4, (some .boolean), R_Model)
theorem k_Model_mayBe : CalOk m_Model_mayBe 3 := ⟨tw_1114, tw_12, ⟨by decide, by decide⟩, by decide +kernel, by decide⟩
abbrev m_Model_finds : MI := (y_Model_finds, b_Model_finds, 10, none, R_Model)
theorem k_Model_finds : CalOk m_Model_finds 2 := ⟨tw_1109, tw_12, ⟨by decide, by decide⟩, by decide +kernel, by decide⟩
abbrev m_Model_seats : MI := (y_Model_seats, b_Model_seats, 8, (some .int), R_Model)
theorem k_Model_seats : CalOk m_Model_seats 2 := ⟨tw_1105, tw_12, ⟨by decide, by decide⟩, by decide +kernel, by decide⟩
abbrev m_Model_fits : MI := (y_Model_fits, b_Model_fits, 7, (some .boolean), R_Model)
theorem k_Model_fits : CalOk m_Model_fits 5 := ⟨tw_1126, tw_12, ⟨by decide, by decide⟩, by decide +kernel, by decide⟩
abbrev m_Model_seat : MI := (y_Model_seat, b_Model_seat, 2, (some .int), R_Model)
theorem k_Model_seat : CalOk m_Model_seat 1 := ⟨tw_1101, tw_12, ⟨by decide, by decide⟩, by decide +kernel, by decide⟩
abbrev m_Model_again : MI := (y_Model_again, b_Model_again, 2, (some .int), R_Model)
theorem k_Model_again : CalOk m_Model_again 1 := ⟨tw_1130, tw_12, ⟨by decide, by decide⟩, by decide +kernel, by decide⟩
abbrev m_Model_isPart : MI := (y_Model_isPart, b_Model_isPart, 3, (some .boolean), R_Model)
theorem k_Model_isPart : CalOk m_Model_isPart 2 := ⟨tw_1138, tw_12, ⟨by decide, by decide⟩, by decide +kernel, by decide⟩
abbrev m_Model_chair : MI := (y_Model_chair, b_Model_chair, 3, (some .int), R_Model)
theorem k_Model_chair : CalOk m_Model_chair 2 := ⟨tw_1134, tw_12, ⟨by decide, by decide⟩, by decide +kernel, by decide⟩
abbrev m_Model_sit : MI := (y_Model_sit, b_Model_sit, 5, (some .boolean), R_Model)
theorem k_Model_sit : CalOk m_Model_sit 3 := ⟨tw_1142, tw_12, ⟨by decide, by decide⟩, by decide +kernel, by decide⟩
abbrev m_Model_seating : MI := (y_Model_seating, b_Model_seating, 9, (some .int), R_Model)
theorem k_Model_seating : CalOk m_Model_seating 2 := ⟨tw_1146, tw_12, ⟨by decide, by decide⟩, by decide +kernel, by decide⟩
abbrev m_Model_sumOf : MI := (y_Model_sumOf, b_Model_sumOf, 4, (some .int), R_Model)
theorem k_Model_sumOf : CalOk m_Model_sumOf 1 := ⟨tw_1154, tw_12, ⟨by decide, by decide⟩, by decide +kernel, by decide⟩
abbrev m_Model_strainOf : MI := (y_Model_strainOf, b_Model_strainOf, 4, (some .int), R_Model)
theorem k_Model_strainOf : CalOk m_Model_strainOf 2 := ⟨tw_1162, tw_12, ⟨by decide, by decide⟩, by decide +kernel, by decide⟩
abbrev m_Model_goes : MI := (y_Model_goes, b_Model_goes, 5, (some .boolean), R_Model)
theorem k_Model_goes : CalOk m_Model_goes 4 := ⟨tw_1158, tw_12, ⟨by decide, by decide⟩, by decide +kernel, by decide⟩
abbrev m_Model_programme : MI := (y_Model_programme, b_Model_programme, 10, (some .int), R_Model)
theorem k_Model_programme : CalOk m_Model_programme 2 := ⟨tw_1150, tw_12, ⟨by decide, by decide⟩, by decide +kernel, by decide⟩
abbrev m_Model_plan : MI := (y_Model_plan, b_Model_plan, 2, (some .int), R_Model)
theorem k_Model_plan : CalOk m_Model_plan 1 := ⟨tw_1166, tw_12, ⟨by decide, by decide⟩, by decide +kernel, by decide⟩
abbrev m_Model_strain : MI := (y_Model_strain, b_Model_strain, 1, (some .int), R_Model)
theorem k_Model_strain : CalOk m_Model_strain 0 := ⟨tw_1170, tw_12, ⟨by decide, by decide⟩, by decide +kernel, by decide⟩
abbrev m_Model_isDay : MI := (y_Model_isDay, b_Model_isDay, 2, (some .boolean), R_Model)
theorem k_Model_isDay : CalOk m_Model_isDay 1 := ⟨tw_1178, tw_12, ⟨by decide, by decide⟩, by decide +kernel, by decide⟩
abbrev m_Model_isThere : MI := (y_Model_isThere, b_Model_isThere, 2, (some .boolean), R_Model)
theorem k_Model_isThere : CalOk m_Model_isThere 1 := ⟨tw_1182, tw_12, ⟨by decide, by decide⟩, by decide +kernel, by decide⟩
abbrev m_Model_tell : MI := (y_Model_tell, b_Model_tell, 4, (some .int), R_Model)
theorem k_Model_tell : CalOk m_Model_tell 3 := ⟨tw_1174, tw_12, ⟨by decide, by decide⟩, by decide +kernel, by decide⟩
abbrev m_Model_whereIs : MI := (y_Model_whereIs, b_Model_whereIs, 7, (some .int), R_Model)
theorem k_Model_whereIs : CalOk m_Model_whereIs 3 := ⟨tw_1190, tw_12, ⟨by decide, by decide⟩, by decide +kernel, by decide⟩
abbrev m_Model_where : MI := (y_Model_where, b_Model_where, 4, (some .int), R_Model)
theorem k_Model_where : CalOk m_Model_where 3 := ⟨tw_1186, tw_12, ⟨by decide, by decide⟩, by decide +kernel, by decide⟩
abbrev m_Model_copiesAt : MI := (y_Model_copiesAt, b_Model_copiesAt, 6, (some .int), R_Model)
theorem k_Model_copiesAt : CalOk m_Model_copiesAt 3 := ⟨tw_1198, tw_12, ⟨by decide, by decide⟩, by decide +kernel, by decide⟩
abbrev m_Model_copies : MI := (y_Model_copies, b_Model_copies, 4, (some .int), R_Model)
theorem k_Model_copies : CalOk m_Model_copies 3 := ⟨tw_1194, tw_12, ⟨by decide, by decide⟩, by decide +kernel, by decide⟩
abbrev m_Model_contest : MI := (y_Model_contest, b_Model_contest, 2, (some .int), R_Model)
theorem k_Model_contest : CalOk m_Model_contest 1 := ⟨tw_1202, tw_12, ⟨by decide, by decide⟩, by decide +kernel, by decide⟩
abbrev m_Model_count : MI := (y_Model_count, b_Model_count, 4, (some .int), R_Model)
theorem k_Model_count : CalOk m_Model_count 1 := ⟨tw_1206, tw_12, ⟨by decide, by decide⟩, by decide +kernel, by decide⟩
abbrev m_Model_lay : MI := (y_Model_lay, b_Model_lay, 3, none, R_Model)
theorem k_Model_lay : CalOk m_Model_lay 1 := ⟨tw_1214, tw_12, ⟨by decide, by decide⟩, by decide +kernel, by decide⟩
abbrev m_Model_feed : MI := (y_Model_feed, b_Model_feed, 6, (some .int), R_Model)
theorem k_Model_feed : CalOk m_Model_feed 5 := ⟨tw_1210, tw_12, ⟨by decide, by decide⟩, by decide +kernel, by decide⟩
abbrev m_Model_end : MI := (y_Model_end, b_Model_end, 2, (some .int), R_Model)
theorem k_Model_end : CalOk m_Model_end 1 := ⟨tw_1218, tw_12, ⟨by decide, by decide⟩, by decide +kernel, by decide⟩
abbrev m_Model_fault : MI := (y_Model_fault, b_Model_fault, 2, (some .int), R_Model)
theorem k_Model_fault : CalOk m_Model_fault 1 := ⟨tw_1222, tw_12, ⟨by decide, by decide⟩, by decide +kernel, by decide⟩
abbrev m_Model_raw : MI := (y_Model_raw, b_Model_raw, 1, (some .int), R_Model)
theorem k_Model_raw : CalOk m_Model_raw 0 := ⟨tw_1238, tw_12, ⟨by decide, by decide⟩, by decide +kernel, by decide⟩
abbrev m_Model_isSmall : MI := (y_Model_isSmall, b_Model_isSmall, 2, (some .boolean), R_Model)
theorem k_Model_isSmall : CalOk m_Model_isSmall 1 := ⟨tw_1242, tw_12, ⟨by decide, by decide⟩, by decide +kernel, by decide⟩
abbrev m_Model_isDigit : MI := (y_Model_isDigit, b_Model_isDigit, 2, (some .boolean), R_Model)
theorem k_Model_isDigit : CalOk m_Model_isDigit 1 := ⟨tw_1254, tw_12, ⟨by decide, by decide⟩, by decide +kernel, by decide⟩
abbrev m_Model_word : MI := (y_Model_word, b_Model_word, 8, (some .long), R_Model)
theorem k_Model_word : CalOk m_Model_word 5 := ⟨tw_1250, tw_12, ⟨by decide, by decide⟩, by decide +kernel, by decide⟩
abbrev m_Model_isWordOf : MI := (y_Model_isWordOf, b_Model_isWordOf, 2, (some .boolean), R_Model)
theorem k_Model_isWordOf : CalOk m_Model_isWordOf 1 := ⟨tw_1246, tw_12, ⟨by decide, by decide⟩, by decide +kernel, by decide⟩
abbrev m_Model_isSignOf : MI := (y_Model_isSignOf, b_Model_isSignOf, 3, (some .boolean), R_Model)
theorem k_Model_isSignOf : CalOk m_Model_isSignOf 2 := ⟨tw_1258, tw_12, ⟨by decide, by decide⟩, by decide +kernel, by decide⟩
abbrev m_Model_next : MI := (y_Model_next, b_Model_next, 5, none, R_Model)
theorem k_Model_next : CalOk m_Model_next 1 := ⟨tw_1234, tw_12, ⟨by decide, by decide⟩, by decide +kernel, by decide⟩
abbrev m_Model_fails : MI := (y_Model_fails, b_Model_fails, 2, (some .boolean), R_Model)
theorem k_Model_fails : CalOk m_Model_fails 1 := ⟨tw_1270, tw_12, ⟨by decide, by decide⟩, by decide +kernel, by decide⟩
abbrev m_Model_isWord : MI := (y_Model_isWord, b_Model_isWord, 6, (some .boolean), R_Model)
theorem k_Model_isWord : CalOk m_Model_isWord 5 := ⟨tw_1262, tw_12, ⟨by decide, by decide⟩, by decide +kernel, by decide⟩
abbrev m_Model_isSign : MI := (y_Model_isSign, b_Model_isSign, 2, (some .boolean), R_Model)
theorem k_Model_isSign : CalOk m_Model_isSign 1 := ⟨tw_1274, tw_12, ⟨by decide, by decide⟩, by decide +kernel, by decide⟩
abbrev m_Model_takes : MI := (y_Model_takes, b_Model_takes, 3, (some .boolean), R_Model)
theorem k_Model_takes : CalOk m_Model_takes 2 := ⟨tw_1278, tw_12, ⟨by decide, by decide⟩, by decide +kernel, by decide⟩
abbrev m_Model_readPiece : MI := (y_Model_readPiece, b_Model_readPiece, 3, (some .boolean), R_Model)
theorem k_Model_readPiece : CalOk m_Model_readPiece 0 := ⟨tw_1266, tw_12, ⟨by decide, by decide⟩, by decide +kernel, by decide⟩
abbrev m_Model_readPart : MI := (y_Model_readPart, b_Model_readPart, 6, (some .boolean), R_Model)
theorem k_Model_readPart : CalOk m_Model_readPart 1 := ⟨tw_1282, tw_12, ⟨by decide, by decide⟩, by decide +kernel, by decide⟩
abbrev m_Model_readText : MI := (y_Model_readText, b_Model_readText, 1, (some .boolean), R_Model)
theorem k_Model_readText : CalOk m_Model_readText 0 := ⟨tw_1230, tw_12, ⟨by decide, by decide⟩, by decide +kernel, by decide⟩
abbrev m_Model_load : MI := (y_Model_load, b_Model_load, 2, (some .int), R_Model)
theorem k_Model_load : CalOk m_Model_load 0 := ⟨tw_1226, tw_12, ⟨by decide, by decide⟩, by decide +kernel, by decide⟩
abbrev m_Model_does : MI := (y_Model_does, b_Model_does, 3, none, R_Model)
theorem k_Model_does : CalOk m_Model_does 2 := ⟨tw_1310, tw_12, ⟨by decide, by decide⟩, by decide +kernel, by decide⟩
abbrev m_Model_rank : MI := (y_Model_rank, b_Model_rank, 2, (some .int), R_Model)
theorem k_Model_rank : CalOk m_Model_rank 1 := ⟨tw_1318, tw_12, ⟨by decide, by decide⟩, by decide +kernel, by decide⟩
abbrev m_Model_settles : MI := (y_Model_settles, b_Model_settles, 2, none, R_Model)
theorem k_Model_settles : CalOk m_Model_settles 1 := ⟨tw_1314, tw_12, ⟨by decide, by decide⟩, by decide +kernel, by decide⟩
abbrev m_Model_open : MI := (y_Model_open, b_Model_open, 3, (some .int), R_Model)
theorem k_Model_open : CalOk m_Model_open 0 := ⟨tw_1294, tw_12, ⟨by decide, by decide⟩, by decide +kernel, by decide⟩
abbrev m_Model_value : MI := (y_Model_value, b_Model_value, 1, (some .boolean), R_Model)
theorem k_Model_value : CalOk m_Model_value 0 := ⟨tw_1306, tw_12, ⟨by decide, by decide⟩, by decide +kernel, by decide⟩
abbrev m_Model_step : MI := (y_Model_step, b_Model_step, 1, none, R_Model)
theorem k_Model_step : CalOk m_Model_step 0 := ⟨tw_1298, tw_12, ⟨by decide, by decide⟩, by decide +kernel, by decide⟩
abbrev m_Model_readSums : MI := (y_Model_readSums, b_Model_readSums, 2, (some .boolean), R_Model)
theorem k_Model_readSums : CalOk m_Model_readSums 0 := ⟨tw_1302, tw_12, ⟨by decide, by decide⟩, by decide +kernel, by decide⟩
abbrev m_Model_readRule : MI := (y_Model_readRule, b_Model_readRule, 2, (some .boolean), R_Model)
theorem k_Model_readRule : CalOk m_Model_readRule 0 := ⟨tw_1290, tw_12, ⟨by decide, by decide⟩, by decide +kernel, by decide⟩
abbrev m_Model_rule : MI := (y_Model_rule, b_Model_rule, 3, (some .int), R_Model)
theorem k_Model_rule : CalOk m_Model_rule 0 := ⟨tw_1286, tw_12, ⟨by decide, by decide⟩, by decide +kernel, by decide⟩
abbrev m_Model_done : MI := (y_Model_done, b_Model_done, 5, (some .int), R_Model)
theorem k_Model_done : CalOk m_Model_done 3 := ⟨tw_1326, tw_12, ⟨by decide, by decide⟩, by decide +kernel, by decide⟩
abbrev m_Model_may : MI := (y_Model_may, b_Model_may, 6, (some .int), R_Model)
theorem k_Model_may : CalOk m_Model_may 2 := ⟨tw_1322, tw_12, ⟨by decide, by decide⟩, by decide +kernel, by decide⟩
abbrev m_Integer_bitCount : MI := (y_Integer_bitCount, b_Integer_bitCount, 1, (some .int), R_Integer)
theorem k_Integer_bitCount : CalOk m_Integer_bitCount 1 := ⟨tw_653, tw_17, ⟨by decide, by decide⟩, by decide +kernel, by decide⟩
abbrev m_Math_abs : MI := (y_Math_abs, b_Math_abs, 1, (some .int), R_Math)
theorem k_Math_abs : CalOk m_Math_abs 1 := ⟨tw_788, tw_18, ⟨by decide, by decide⟩, by decide +kernel, by decide⟩
abbrev m_Math_max : MI := (y_Math_max, b_Math_max, 2, (some .int), R_Math)
theorem k_Math_max : CalOk m_Math_max 2 := ⟨tw_745, tw_18, ⟨by decide, by decide⟩, by decide +kernel, by decide⟩
abbrev m_Math_min : MI := (y_Math_min, b_Math_min, 2, (some .int), R_Math)
theorem k_Math_min : CalOk m_Math_min 2 := ⟨tw_791, tw_18, ⟨by decide, by decide⟩, by decide +kernel, by decide⟩
abbrev m_Math_minL : MI := (y_Math_minL, b_Math_minL, 4, (some .long), R_Math)
theorem k_Math_minL : CalOk m_Math_minL 2 := ⟨tw_795, tw_18, ⟨by decide, by decide⟩, by decide +kernel, by decide⟩
abbrev m_String_length : MI := (y_String_length, b_String_length, 1, (some .int), R_String)
theorem k_String_length : CalOk m_String_length 0 := ⟨tw_423, tw_13, ⟨by decide, by decide⟩, by decide +kernel, by decide⟩
abbrev m_String_charAt : MI := (y_String_charAt, b_String_charAt, 2, (some .char), R_String)
theorem k_String_charAt : CalOk m_String_charAt 1 := ⟨tw_433, tw_13, ⟨by decide, by decide⟩, by decide +kernel, by decide⟩
abbrev m_String_coder : MI := (y_String_coder, b_String_coder, 1, (some .byte), R_String)
theorem k_String_coder : CalOk m_String_coder 0 := ⟨tw_427, tw_13, ⟨by decide, by decide⟩, by decide +kernel, by decide⟩
abbrev m_String_isLatin1 : MI := (y_String_isLatin1, b_String_isLatin1, 1, (some .boolean), R_String)
theorem k_String_isLatin1 : CalOk m_String_isLatin1 0 := ⟨tw_437, tw_13, ⟨by decide, by decide⟩, by decide +kernel, by decide⟩
abbrev m_String_checkIndex : MI := (y_String_checkIndex, b_String_checkIndex, 2, none, R_String)
theorem k_String_checkIndex : CalOk m_String_checkIndex 2 := ⟨tw_443, tw_13, ⟨by decide, by decide⟩, by decide +kernel, by decide⟩
abbrev m_Latin_charAt : MI := (y_Latin_charAt, b_Latin_charAt, 2, (some .char), R_Latin)
theorem k_Latin_charAt : CalOk m_Latin_charAt 2 := ⟨tw_440, tw_14, ⟨by decide, by decide⟩, by decide +kernel, by decide⟩
abbrev m_Utf_getChar : MI := (y_Utf_getChar, b_Utf_getChar, 2, (some .char), R_Utf)
theorem k_Utf_getChar : CalOk m_Utf_getChar 2 := ⟨tw_461, tw_16, ⟨by decide, by decide⟩, by decide +kernel, by decide⟩
abbrev m_Utf_length : MI := (y_Utf_length, b_Utf_length, 1, (some .int), R_Utf)
theorem k_Utf_length : CalOk m_Utf_length 1 := ⟨tw_457, tw_16, ⟨by decide, by decide⟩, by decide +kernel, by decide⟩
abbrev m_Utf_charAt : MI := (y_Utf_charAt, b_Utf_charAt, 2, (some .char), R_Utf)
theorem k_Utf_charAt : CalOk m_Utf_charAt 2 := ⟨tw_451, tw_16, ⟨by decide, by decide⟩, by decide +kernel, by decide⟩
abbrev m_Utf_checkIndex : MI := (y_Utf_checkIndex, b_Utf_checkIndex, 2, none, R_Utf)
theorem k_Utf_checkIndex : CalOk m_Utf_checkIndex 2 := ⟨tw_454, tw_16, ⟨by decide, by decide⟩, by decide +kernel, by decide⟩
abbrev m_Arrays_fillL : MI := (y_Arrays_fillL, b_Arrays_fillL, 5, none, R_Arrays)
theorem k_Arrays_fillL : CalOk m_Arrays_fillL 2 := ⟨tw_688, tw_3, ⟨by decide, by decide⟩, by decide +kernel, by decide⟩
abbrev m_Arrays_fillI : MI := (y_Arrays_fillI, b_Arrays_fillI, 4, none, R_Arrays)
theorem k_Arrays_fillI : CalOk m_Arrays_fillI 2 := ⟨tw_35, tw_3, ⟨by decide, by decide⟩, by decide +kernel, by decide⟩
abbrev m_Pre_checkIndex : MI := (y_Pre_checkIndex, b_Pre_checkIndex, 3, (some .int), R_Pre)
theorem k_Pre_checkIndex : CalOk m_Pre_checkIndex 3 := ⟨tw_448, tw_15, ⟨by decide, by decide⟩, by decide +kernel, by decide⟩
abbrev m_Law_law : MI := (y_Law_law, b_Law_law, 4, (some .boolean), R_Law)
end
