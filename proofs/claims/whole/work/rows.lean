section
-- ===== PART A: goes FIRST, ahead of the names: the tables' words, and 'selects' of the private methods out of them =====
/-- a private method of a class that the tables say can be made, by its rows of tables_1 -/
def lw_okq (q : MethodName × Nat) : Prop := (q.1.cls ≠ "java/lang/invoke/MethodHandle" ∧ q.1.cls ≠ "java/lang/invoke/VarHandle") ∧ Cond.instantiable q.1.cls q.2 ∈ tables_1 ∧ Cond.privateMethod q.1 ∈ tables_1 ∧ Cond.instanceMethod q.1 ∈ tables_1
theorem lw_p0 : lw_okq (⟨"TorchPlate$Reader", "readToken", "([II)V"⟩, 9) := ⟨⟨by decide +kernel, by decide +kernel⟩, List.mem_of_getElem? (i := 111) (by decide +kernel), List.mem_of_getElem? (i := 385) (by decide +kernel), List.mem_of_getElem? (i := 386) (by decide +kernel)⟩
theorem lw_p1 : lw_okq (⟨"TorchPlate$Reader", "readNumber", "([II)V"⟩, 9) := ⟨⟨by decide +kernel, by decide +kernel⟩, List.mem_of_getElem? (i := 111) (by decide +kernel), List.mem_of_getElem? (i := 395) (by decide +kernel), List.mem_of_getElem? (i := 396) (by decide +kernel)⟩
theorem lw_p2 : lw_okq (⟨"TorchPlate$Reader", "takesToken", "(LTorchPlate$Plate;)Z"⟩, 9) := ⟨⟨by decide +kernel, by decide +kernel⟩, List.mem_of_getElem? (i := 111) (by decide +kernel), List.mem_of_getElem? (i := 399) (by decide +kernel), List.mem_of_getElem? (i := 400) (by decide +kernel)⟩
theorem lw_p3 : lw_okq (⟨"TorchPlate$Reader", "beginsItem", "(LTorchPlate$Plate;)Z"⟩, 9) := ⟨⟨by decide +kernel, by decide +kernel⟩, List.mem_of_getElem? (i := 111) (by decide +kernel), List.mem_of_getElem? (i := 403) (by decide +kernel), List.mem_of_getElem? (i := 404) (by decide +kernel)⟩
theorem lw_p4 : lw_okq (⟨"TorchPlate$Reader", "endsItem", "(LTorchPlate$Plate;)Z"⟩, 9) := ⟨⟨by decide +kernel, by decide +kernel⟩, List.mem_of_getElem? (i := 111) (by decide +kernel), List.mem_of_getElem? (i := 407) (by decide +kernel), List.mem_of_getElem? (i := 408) (by decide +kernel)⟩
theorem lw_p5 : lw_okq (⟨"TorchPlate$Reader", "endsRing", "(LTorchPlate$Plate;)Z"⟩, 9) := ⟨⟨by decide +kernel, by decide +kernel⟩, List.mem_of_getElem? (i := 111) (by decide +kernel), List.mem_of_getElem? (i := 411) (by decide +kernel), List.mem_of_getElem? (i := 412) (by decide +kernel)⟩
theorem lw_p6 : lw_okq (⟨"TorchPlate$Reader", "takesNumber", "(LTorchPlate$Plate;)Z"⟩, 9) := ⟨⟨by decide +kernel, by decide +kernel⟩, List.mem_of_getElem? (i := 111) (by decide +kernel), List.mem_of_getElem? (i := 426) (by decide +kernel), List.mem_of_getElem? (i := 427) (by decide +kernel)⟩
theorem lw_p7 : lw_okq (⟨"TorchPlate$Reader", "takesHeat", "(LTorchPlate$Plate;)Z"⟩, 9) := ⟨⟨by decide +kernel, by decide +kernel⟩, List.mem_of_getElem? (i := 111) (by decide +kernel), List.mem_of_getElem? (i := 430) (by decide +kernel), List.mem_of_getElem? (i := 431) (by decide +kernel)⟩
theorem lw_p8 : lw_okq (⟨"TorchPlate$Reader", "takesPlace", "(LTorchPlate$Plate;)Z"⟩, 9) := ⟨⟨by decide +kernel, by decide +kernel⟩, List.mem_of_getElem? (i := 111) (by decide +kernel), List.mem_of_getElem? (i := 434) (by decide +kernel), List.mem_of_getElem? (i := 435) (by decide +kernel)⟩
theorem lw_p9 : lw_okq (⟨"TorchPlate$Reader", "takesRingCorner", "(LTorchPlate$Plate;)Z"⟩, 9) := ⟨⟨by decide +kernel, by decide +kernel⟩, List.mem_of_getElem? (i := 111) (by decide +kernel), List.mem_of_getElem? (i := 442) (by decide +kernel), List.mem_of_getElem? (i := 443) (by decide +kernel)⟩
theorem lw_p10 : lw_okq (⟨"TorchPlate$Reader", "takesSeamCorner", "(LTorchPlate$Plate;)Z"⟩, 9) := ⟨⟨by decide +kernel, by decide +kernel⟩, List.mem_of_getElem? (i := 111) (by decide +kernel), List.mem_of_getElem? (i := 447) (by decide +kernel), List.mem_of_getElem? (i := 448) (by decide +kernel)⟩
theorem lw_p11 : lw_okq (⟨"TorchPlate$Plate", "numberCuts", "()V"⟩, 14) := ⟨⟨by decide +kernel, by decide +kernel⟩, List.mem_of_getElem? (i := 24) (by decide +kernel), List.mem_of_getElem? (i := 455) (by decide +kernel), List.mem_of_getElem? (i := 456) (by decide +kernel)⟩
theorem lw_p12 : lw_okq (⟨"TorchPlate$Plate", "cutsOfRing", "(I)I"⟩, 14) := ⟨⟨by decide +kernel, by decide +kernel⟩, List.mem_of_getElem? (i := 24) (by decide +kernel), List.mem_of_getElem? (i := 459) (by decide +kernel), List.mem_of_getElem? (i := 460) (by decide +kernel)⟩
theorem lw_p13 : lw_okq (⟨"TorchPlate$Plate", "nextInRing", "(II)I"⟩, 14) := ⟨⟨by decide +kernel, by decide +kernel⟩, List.mem_of_getElem? (i := 24) (by decide +kernel), List.mem_of_getElem? (i := 463) (by decide +kernel), List.mem_of_getElem? (i := 464) (by decide +kernel)⟩
theorem lw_p14 : lw_okq (⟨"TorchPlate$Plate", "partsAround", "(I)I"⟩, 14) := ⟨⟨by decide +kernel, by decide +kernel⟩, List.mem_of_getElem? (i := 24) (by decide +kernel), List.mem_of_getElem? (i := 475) (by decide +kernel), List.mem_of_getElem? (i := 476) (by decide +kernel)⟩
theorem lw_p15 : lw_okq (⟨"TorchPlate$Plate", "goesRound", "(II)Z"⟩, 14) := ⟨⟨by decide +kernel, by decide +kernel⟩, List.mem_of_getElem? (i := 24) (by decide +kernel), List.mem_of_getElem? (i := 479) (by decide +kernel), List.mem_of_getElem? (i := 480) (by decide +kernel)⟩
def lw_privs_1 : List (MethodName × Nat) := [(⟨"TorchPlate$Reader", "readToken", "([II)V"⟩, 9), (⟨"TorchPlate$Reader", "readNumber", "([II)V"⟩, 9), (⟨"TorchPlate$Reader", "takesToken", "(LTorchPlate$Plate;)Z"⟩, 9), (⟨"TorchPlate$Reader", "beginsItem", "(LTorchPlate$Plate;)Z"⟩, 9), (⟨"TorchPlate$Reader", "endsItem", "(LTorchPlate$Plate;)Z"⟩, 9), (⟨"TorchPlate$Reader", "endsRing", "(LTorchPlate$Plate;)Z"⟩, 9), (⟨"TorchPlate$Reader", "takesNumber", "(LTorchPlate$Plate;)Z"⟩, 9), (⟨"TorchPlate$Reader", "takesHeat", "(LTorchPlate$Plate;)Z"⟩, 9), (⟨"TorchPlate$Reader", "takesPlace", "(LTorchPlate$Plate;)Z"⟩, 9), (⟨"TorchPlate$Reader", "takesRingCorner", "(LTorchPlate$Plate;)Z"⟩, 9), (⟨"TorchPlate$Reader", "takesSeamCorner", "(LTorchPlate$Plate;)Z"⟩, 9), (⟨"TorchPlate$Plate", "numberCuts", "()V"⟩, 14), (⟨"TorchPlate$Plate", "cutsOfRing", "(I)I"⟩, 14), (⟨"TorchPlate$Plate", "nextInRing", "(II)I"⟩, 14), (⟨"TorchPlate$Plate", "partsAround", "(I)I"⟩, 14), (⟨"TorchPlate$Plate", "goesRound", "(II)Z"⟩, 14)]
theorem lw_r1 : ∀ q ∈ lw_privs_1, lw_okq q := List.forall_mem_cons.mpr ⟨lw_p0, List.forall_mem_cons.mpr ⟨lw_p1, List.forall_mem_cons.mpr ⟨lw_p2, List.forall_mem_cons.mpr ⟨lw_p3, List.forall_mem_cons.mpr ⟨lw_p4, List.forall_mem_cons.mpr ⟨lw_p5, List.forall_mem_cons.mpr ⟨lw_p6, List.forall_mem_cons.mpr ⟨lw_p7, List.forall_mem_cons.mpr ⟨lw_p8, List.forall_mem_cons.mpr ⟨lw_p9, List.forall_mem_cons.mpr ⟨lw_p10, List.forall_mem_cons.mpr ⟨lw_p11, List.forall_mem_cons.mpr ⟨lw_p12, List.forall_mem_cons.mpr ⟨lw_p13, List.forall_mem_cons.mpr ⟨lw_p14, List.forall_mem_cons.mpr ⟨lw_p15, fun _ h => absurd h List.not_mem_nil⟩⟩⟩⟩⟩⟩⟩⟩⟩⟩⟩⟩⟩⟩⟩⟩
theorem lw_p16 : lw_okq (⟨"TorchPlate$Plate", "liesOn", "(III)Z"⟩, 14) := ⟨⟨by decide +kernel, by decide +kernel⟩, List.mem_of_getElem? (i := 24) (by decide +kernel), List.mem_of_getElem? (i := 483) (by decide +kernel), List.mem_of_getElem? (i := 484) (by decide +kernel)⟩
theorem lw_p17 : lw_okq (⟨"TorchPlate$Plate", "side", "(III)I"⟩, 14) := ⟨⟨by decide +kernel, by decide +kernel⟩, List.mem_of_getElem? (i := 24) (by decide +kernel), List.mem_of_getElem? (i := 487) (by decide +kernel), List.mem_of_getElem? (i := 488) (by decide +kernel)⟩
theorem lw_p18 : lw_okq (⟨"TorchPlate$Plate", "crossing", "(III)I"⟩, 14) := ⟨⟨by decide +kernel, by decide +kernel⟩, List.mem_of_getElem? (i := 24) (by decide +kernel), List.mem_of_getElem? (i := 491) (by decide +kernel), List.mem_of_getElem? (i := 492) (by decide +kernel)⟩
theorem lw_p19 : lw_okq (⟨"TorchPlate", "outdate", "()V"⟩, 12) := ⟨⟨by decide +kernel, by decide +kernel⟩, List.mem_of_getElem? (i := 16) (by decide +kernel), List.mem_of_getElem? (i := 503) (by decide +kernel), List.mem_of_getElem? (i := 504) (by decide +kernel)⟩
theorem lw_p20 : lw_okq (⟨"TorchPlate", "surveyed", "()LTorchPlate$Survey;"⟩, 12) := ⟨⟨by decide +kernel, by decide +kernel⟩, List.mem_of_getElem? (i := 16) (by decide +kernel), List.mem_of_getElem? (i := 521) (by decide +kernel), List.mem_of_getElem? (i := 522) (by decide +kernel)⟩
theorem lw_p21 : lw_okq (⟨"TorchPlate$Survey", "findPieces", "(LTorchPlate$Plate;LTorchPlate$Plight;)V"⟩, 12) := ⟨⟨by decide +kernel, by decide +kernel⟩, List.mem_of_getElem? (i := 193) (by decide +kernel), List.mem_of_getElem? (i := 529) (by decide +kernel), List.mem_of_getElem? (i := 530) (by decide +kernel)⟩
theorem lw_p22 : lw_okq (⟨"TorchPlate$Survey", "oddAmong", "(I)I"⟩, 12) := ⟨⟨by decide +kernel, by decide +kernel⟩, List.mem_of_getElem? (i := 193) (by decide +kernel), List.mem_of_getElem? (i := 550) (by decide +kernel), List.mem_of_getElem? (i := 551) (by decide +kernel)⟩
theorem lw_p23 : lw_okq (⟨"TorchPlate$Survey", "pairUp", "(LTorchPlate$Plate;II)V"⟩, 12) := ⟨⟨by decide +kernel, by decide +kernel⟩, List.mem_of_getElem? (i := 193) (by decide +kernel), List.mem_of_getElem? (i := 577) (by decide +kernel), List.mem_of_getElem? (i := 578) (by decide +kernel)⟩
theorem lw_p24 : lw_okq (⟨"TorchPlate$Survey", "piecesAhead", "(LTorchPlate$Plate;I)I"⟩, 12) := ⟨⟨by decide +kernel, by decide +kernel⟩, List.mem_of_getElem? (i := 193) (by decide +kernel), List.mem_of_getElem? (i := 581) (by decide +kernel), List.mem_of_getElem? (i := 582) (by decide +kernel)⟩
theorem lw_p25 : lw_okq (⟨"TorchPlate$Survey", "partsIn", "(LTorchPlate$Plate;I)I"⟩, 12) := ⟨⟨by decide +kernel, by decide +kernel⟩, List.mem_of_getElem? (i := 193) (by decide +kernel), List.mem_of_getElem? (i := 585) (by decide +kernel), List.mem_of_getElem? (i := 586) (by decide +kernel)⟩
theorem lw_p26 : lw_okq (⟨"TorchPlate$Survey", "findTour", "(LTorchPlate$Plate;I)V"⟩, 12) := ⟨⟨by decide +kernel, by decide +kernel⟩, List.mem_of_getElem? (i := 193) (by decide +kernel), List.mem_of_getElem? (i := 592) (by decide +kernel), List.mem_of_getElem? (i := 593) (by decide +kernel)⟩
theorem lw_p27 : lw_okq (⟨"TorchPlate$Survey", "mayBeNext", "(II)Z"⟩, 12) := ⟨⟨by decide +kernel, by decide +kernel⟩, List.mem_of_getElem? (i := 193) (by decide +kernel), List.mem_of_getElem? (i := 599) (by decide +kernel), List.mem_of_getElem? (i := 600) (by decide +kernel)⟩
theorem lw_p28 : lw_okq (⟨"TorchPlate", "burnTo", "(I)Z"⟩, 12) := ⟨⟨by decide +kernel, by decide +kernel⟩, List.mem_of_getElem? (i := 16) (by decide +kernel), List.mem_of_getElem? (i := 617) (by decide +kernel), List.mem_of_getElem? (i := 618) (by decide +kernel)⟩
theorem lw_p29 : lw_okq (⟨"TorchPlate$Plight", "beginOfBurn", "(ILTorchPlate$Plate;)I"⟩, 5) := ⟨⟨by decide +kernel, by decide +kernel⟩, List.mem_of_getElem? (i := 145) (by decide +kernel), List.mem_of_getElem? (i := 644) (by decide +kernel), List.mem_of_getElem? (i := 645) (by decide +kernel)⟩
theorem lw_p30 : lw_okq (⟨"TorchPlate$Plight", "coolAt", "(II)I"⟩, 5) := ⟨⟨by decide +kernel, by decide +kernel⟩, List.mem_of_getElem? (i := 145) (by decide +kernel), List.mem_of_getElem? (i := 648) (by decide +kernel), List.mem_of_getElem? (i := 649) (by decide +kernel)⟩
theorem lw_p31 : lw_okq (⟨"TorchPlate", "moveTo", "(I)V"⟩, 12) := ⟨⟨by decide +kernel, by decide +kernel⟩, List.mem_of_getElem? (i := 16) (by decide +kernel), List.mem_of_getElem? (i := 658) (by decide +kernel), List.mem_of_getElem? (i := 659) (by decide +kernel)⟩
def lw_privs_2 : List (MethodName × Nat) := [(⟨"TorchPlate$Plate", "liesOn", "(III)Z"⟩, 14), (⟨"TorchPlate$Plate", "side", "(III)I"⟩, 14), (⟨"TorchPlate$Plate", "crossing", "(III)I"⟩, 14), (⟨"TorchPlate", "outdate", "()V"⟩, 12), (⟨"TorchPlate", "surveyed", "()LTorchPlate$Survey;"⟩, 12), (⟨"TorchPlate$Survey", "findPieces", "(LTorchPlate$Plate;LTorchPlate$Plight;)V"⟩, 12), (⟨"TorchPlate$Survey", "oddAmong", "(I)I"⟩, 12), (⟨"TorchPlate$Survey", "pairUp", "(LTorchPlate$Plate;II)V"⟩, 12), (⟨"TorchPlate$Survey", "piecesAhead", "(LTorchPlate$Plate;I)I"⟩, 12), (⟨"TorchPlate$Survey", "partsIn", "(LTorchPlate$Plate;I)I"⟩, 12), (⟨"TorchPlate$Survey", "findTour", "(LTorchPlate$Plate;I)V"⟩, 12), (⟨"TorchPlate$Survey", "mayBeNext", "(II)Z"⟩, 12), (⟨"TorchPlate", "burnTo", "(I)Z"⟩, 12), (⟨"TorchPlate$Plight", "beginOfBurn", "(ILTorchPlate$Plate;)I"⟩, 5), (⟨"TorchPlate$Plight", "coolAt", "(II)I"⟩, 5), (⟨"TorchPlate", "moveTo", "(I)V"⟩, 12)]
theorem lw_r2 : ∀ q ∈ lw_privs_2, lw_okq q := List.forall_mem_cons.mpr ⟨lw_p16, List.forall_mem_cons.mpr ⟨lw_p17, List.forall_mem_cons.mpr ⟨lw_p18, List.forall_mem_cons.mpr ⟨lw_p19, List.forall_mem_cons.mpr ⟨lw_p20, List.forall_mem_cons.mpr ⟨lw_p21, List.forall_mem_cons.mpr ⟨lw_p22, List.forall_mem_cons.mpr ⟨lw_p23, List.forall_mem_cons.mpr ⟨lw_p24, List.forall_mem_cons.mpr ⟨lw_p25, List.forall_mem_cons.mpr ⟨lw_p26, List.forall_mem_cons.mpr ⟨lw_p27, List.forall_mem_cons.mpr ⟨lw_p28, List.forall_mem_cons.mpr ⟨lw_p29, List.forall_mem_cons.mpr ⟨lw_p30, List.forall_mem_cons.mpr ⟨lw_p31, fun _ h => absurd h List.not_mem_nil⟩⟩⟩⟩⟩⟩⟩⟩⟩⟩⟩⟩⟩⟩⟩⟩
theorem lw_p32 : lw_okq (⟨"TorchPlate$Walk", "layOut", "(LTorchPlate$Plate;LTorchPlate$Survey;I)V"⟩, 5) := ⟨⟨by decide +kernel, by decide +kernel⟩, List.mem_of_getElem? (i := 264) (by decide +kernel), List.mem_of_getElem? (i := 684) (by decide +kernel), List.mem_of_getElem? (i := 685) (by decide +kernel)⟩
theorem lw_p33 : lw_okq (⟨"TorchPlate$Walk", "takesStep", "(I)Z"⟩, 5) := ⟨⟨by decide +kernel, by decide +kernel⟩, List.mem_of_getElem? (i := 264) (by decide +kernel), List.mem_of_getElem? (i := 697) (by decide +kernel), List.mem_of_getElem? (i := 698) (by decide +kernel)⟩
theorem lw_p34 : lw_okq (⟨"TorchPlate$Walk", "takesTie", "([III)Z"⟩, 5) := ⟨⟨by decide +kernel, by decide +kernel⟩, List.mem_of_getElem? (i := 264) (by decide +kernel), List.mem_of_getElem? (i := 701) (by decide +kernel), List.mem_of_getElem? (i := 702) (by decide +kernel)⟩
theorem lw_p35 : lw_okq (⟨"TorchPlate$Walk", "notes", "(II)Z"⟩, 5) := ⟨⟨by decide +kernel, by decide +kernel⟩, List.mem_of_getElem? (i := 264) (by decide +kernel), List.mem_of_getElem? (i := 710) (by decide +kernel), List.mem_of_getElem? (i := 711) (by decide +kernel)⟩
theorem lw_p36 : lw_okq (⟨"TorchPlate$Witness", "allIsAsSeen", "()Z"⟩, 6) := ⟨⟨by decide +kernel, by decide +kernel⟩, List.mem_of_getElem? (i := 292) (by decide +kernel), List.mem_of_getElem? (i := 766) (by decide +kernel), List.mem_of_getElem? (i := 767) (by decide +kernel)⟩
theorem lw_p37 : lw_okq (⟨"TorchPlate$Witness", "tallyPairs", "(LTorchPlate$Plate;II)V"⟩, 6) := ⟨⟨by decide +kernel, by decide +kernel⟩, List.mem_of_getElem? (i := 292) (by decide +kernel), List.mem_of_getElem? (i := 781) (by decide +kernel), List.mem_of_getElem? (i := 782) (by decide +kernel)⟩
theorem lw_p38 : lw_okq (⟨"TorchPlate$Witness", "countReached", "(II)V"⟩, 6) := ⟨⟨by decide +kernel, by decide +kernel⟩, List.mem_of_getElem? (i := 292) (by decide +kernel), List.mem_of_getElem? (i := 786) (by decide +kernel), List.mem_of_getElem? (i := 787) (by decide +kernel)⟩
theorem lw_p39 : lw_okq (⟨"TorchPlateModel", "begins", "()V"⟩, 34) := ⟨⟨by decide +kernel, by decide +kernel⟩, List.mem_of_getElem? (i := 805) (by decide +kernel), List.mem_of_getElem? (i := 811) (by decide +kernel), List.mem_of_getElem? (i := 812) (by decide +kernel)⟩
theorem lw_p40 : lw_okq (⟨"TorchPlateModel", "settles", "()V"⟩, 34) := ⟨⟨by decide +kernel, by decide +kernel⟩, List.mem_of_getElem? (i := 805) (by decide +kernel), List.mem_of_getElem? (i := 815) (by decide +kernel), List.mem_of_getElem? (i := 816) (by decide +kernel)⟩
theorem lw_p41 : lw_okq (⟨"TorchPlateModel", "isWithin", "(II)Z"⟩, 34) := ⟨⟨by decide +kernel, by decide +kernel⟩, List.mem_of_getElem? (i := 805) (by decide +kernel), List.mem_of_getElem? (i := 819) (by decide +kernel), List.mem_of_getElem? (i := 820) (by decide +kernel)⟩
theorem lw_p42 : lw_okq (⟨"TorchPlateModel", "ringAt", "(II)I"⟩, 34) := ⟨⟨by decide +kernel, by decide +kernel⟩, List.mem_of_getElem? (i := 805) (by decide +kernel), List.mem_of_getElem? (i := 823) (by decide +kernel), List.mem_of_getElem? (i := 824) (by decide +kernel)⟩
theorem lw_p43 : lw_okq (⟨"TorchPlateModel", "isOn", "(III)Z"⟩, 34) := ⟨⟨by decide +kernel, by decide +kernel⟩, List.mem_of_getElem? (i := 805) (by decide +kernel), List.mem_of_getElem? (i := 827) (by decide +kernel), List.mem_of_getElem? (i := 828) (by decide +kernel)⟩
theorem lw_p44 : lw_okq (⟨"TorchPlateModel", "side", "(III)I"⟩, 34) := ⟨⟨by decide +kernel, by decide +kernel⟩, List.mem_of_getElem? (i := 805) (by decide +kernel), List.mem_of_getElem? (i := 834) (by decide +kernel), List.mem_of_getElem? (i := 835) (by decide +kernel)⟩
theorem lw_p45 : lw_okq (⟨"TorchPlateModel", "advances", "()V"⟩, 34) := ⟨⟨by decide +kernel, by decide +kernel⟩, List.mem_of_getElem? (i := 805) (by decide +kernel), List.mem_of_getElem? (i := 954) (by decide +kernel), List.mem_of_getElem? (i := 955) (by decide +kernel)⟩
theorem lw_p46 : lw_okq (⟨"TorchPlateModel", "letterAt", "(I)I"⟩, 34) := ⟨⟨by decide +kernel, by decide +kernel⟩, List.mem_of_getElem? (i := 805) (by decide +kernel), List.mem_of_getElem? (i := 958) (by decide +kernel), List.mem_of_getElem? (i := 959) (by decide +kernel)⟩
theorem lw_p47 : lw_okq (⟨"TorchPlateModel", "isWell", "()Z"⟩, 34) := ⟨⟨by decide +kernel, by decide +kernel⟩, List.mem_of_getElem? (i := 805) (by decide +kernel), List.mem_of_getElem? (i := 962) (by decide +kernel), List.mem_of_getElem? (i := 963) (by decide +kernel)⟩
def lw_privs_3 : List (MethodName × Nat) := [(⟨"TorchPlate$Walk", "layOut", "(LTorchPlate$Plate;LTorchPlate$Survey;I)V"⟩, 5), (⟨"TorchPlate$Walk", "takesStep", "(I)Z"⟩, 5), (⟨"TorchPlate$Walk", "takesTie", "([III)Z"⟩, 5), (⟨"TorchPlate$Walk", "notes", "(II)Z"⟩, 5), (⟨"TorchPlate$Witness", "allIsAsSeen", "()Z"⟩, 6), (⟨"TorchPlate$Witness", "tallyPairs", "(LTorchPlate$Plate;II)V"⟩, 6), (⟨"TorchPlate$Witness", "countReached", "(II)V"⟩, 6), (⟨"TorchPlateModel", "begins", "()V"⟩, 34), (⟨"TorchPlateModel", "settles", "()V"⟩, 34), (⟨"TorchPlateModel", "isWithin", "(II)Z"⟩, 34), (⟨"TorchPlateModel", "ringAt", "(II)I"⟩, 34), (⟨"TorchPlateModel", "isOn", "(III)Z"⟩, 34), (⟨"TorchPlateModel", "side", "(III)I"⟩, 34), (⟨"TorchPlateModel", "advances", "()V"⟩, 34), (⟨"TorchPlateModel", "letterAt", "(I)I"⟩, 34), (⟨"TorchPlateModel", "isWell", "()Z"⟩, 34)]
theorem lw_r3 : ∀ q ∈ lw_privs_3, lw_okq q := List.forall_mem_cons.mpr ⟨lw_p32, List.forall_mem_cons.mpr ⟨lw_p33, List.forall_mem_cons.mpr ⟨lw_p34, List.forall_mem_cons.mpr ⟨lw_p35, List.forall_mem_cons.mpr ⟨lw_p36, List.forall_mem_cons.mpr ⟨lw_p37, List.forall_mem_cons.mpr ⟨lw_p38, List.forall_mem_cons.mpr ⟨lw_p39, List.forall_mem_cons.mpr ⟨lw_p40, List.forall_mem_cons.mpr ⟨lw_p41, List.forall_mem_cons.mpr ⟨lw_p42, List.forall_mem_cons.mpr ⟨lw_p43, List.forall_mem_cons.mpr ⟨lw_p44, List.forall_mem_cons.mpr ⟨lw_p45, List.forall_mem_cons.mpr ⟨lw_p46, List.forall_mem_cons.mpr ⟨lw_p47, fun _ h => absurd h List.not_mem_nil⟩⟩⟩⟩⟩⟩⟩⟩⟩⟩⟩⟩⟩⟩⟩⟩
theorem lw_p48 : lw_okq (⟨"TorchPlateModel", "mayBegin", "()Z"⟩, 34) := ⟨⟨by decide +kernel, by decide +kernel⟩, List.mem_of_getElem? (i := 805) (by decide +kernel), List.mem_of_getElem? (i := 966) (by decide +kernel), List.mem_of_getElem? (i := 967) (by decide +kernel)⟩
theorem lw_p49 : lw_okq (⟨"TorchPlateModel", "takes", "(Z)I"⟩, 34) := ⟨⟨by decide +kernel, by decide +kernel⟩, List.mem_of_getElem? (i := 805) (by decide +kernel), List.mem_of_getElem? (i := 970) (by decide +kernel), List.mem_of_getElem? (i := 971) (by decide +kernel)⟩
theorem lw_p50 : lw_okq (⟨"TorchPlateModel", "readsItem", "(I)V"⟩, 34) := ⟨⟨by decide +kernel, by decide +kernel⟩, List.mem_of_getElem? (i := 805) (by decide +kernel), List.mem_of_getElem? (i := 974) (by decide +kernel), List.mem_of_getElem? (i := 975) (by decide +kernel)⟩
theorem lw_p51 : lw_okq (⟨"TorchPlateModel", "isNumber", "(II)Z"⟩, 34) := ⟨⟨by decide +kernel, by decide +kernel⟩, List.mem_of_getElem? (i := 805) (by decide +kernel), List.mem_of_getElem? (i := 978) (by decide +kernel), List.mem_of_getElem? (i := 979) (by decide +kernel)⟩
theorem lw_p52 : lw_okq (⟨"TorchPlateModel", "readsCorner", "()V"⟩, 34) := ⟨⟨by decide +kernel, by decide +kernel⟩, List.mem_of_getElem? (i := 805) (by decide +kernel), List.mem_of_getElem? (i := 982) (by decide +kernel), List.mem_of_getElem? (i := 983) (by decide +kernel)⟩
theorem lw_p53 : lw_okq (⟨"TorchPlateModel", "isFreeAt", "(II)Z"⟩, 34) := ⟨⟨by decide +kernel, by decide +kernel⟩, List.mem_of_getElem? (i := 805) (by decide +kernel), List.mem_of_getElem? (i := 986) (by decide +kernel), List.mem_of_getElem? (i := 987) (by decide +kernel)⟩
theorem lw_p54 : lw_okq (⟨"TorchPlateModel", "readsPart", "()V"⟩, 34) := ⟨⟨by decide +kernel, by decide +kernel⟩, List.mem_of_getElem? (i := 805) (by decide +kernel), List.mem_of_getElem? (i := 990) (by decide +kernel), List.mem_of_getElem? (i := 991) (by decide +kernel)⟩
theorem lw_p55 : lw_okq (⟨"TorchPlateModel", "isCorner", "()Z"⟩, 34) := ⟨⟨by decide +kernel, by decide +kernel⟩, List.mem_of_getElem? (i := 805) (by decide +kernel), List.mem_of_getElem? (i := 994) (by decide +kernel), List.mem_of_getElem? (i := 995) (by decide +kernel)⟩
theorem lw_p56 : lw_okq (⟨"TorchPlateModel", "hasRoom", "(II)Z"⟩, 34) := ⟨⟨by decide +kernel, by decide +kernel⟩, List.mem_of_getElem? (i := 805) (by decide +kernel), List.mem_of_getElem? (i := 1001) (by decide +kernel), List.mem_of_getElem? (i := 1002) (by decide +kernel)⟩
theorem lw_p57 : lw_okq (⟨"TorchPlateModel", "cuts", "(II)V"⟩, 34) := ⟨⟨by decide +kernel, by decide +kernel⟩, List.mem_of_getElem? (i := 805) (by decide +kernel), List.mem_of_getElem? (i := 1008) (by decide +kernel), List.mem_of_getElem? (i := 1009) (by decide +kernel)⟩
theorem lw_p58 : lw_okq (⟨"TorchPlateModel", "readsSeam", "()V"⟩, 34) := ⟨⟨by decide +kernel, by decide +kernel⟩, List.mem_of_getElem? (i := 805) (by decide +kernel), List.mem_of_getElem? (i := 1012) (by decide +kernel), List.mem_of_getElem? (i := 1013) (by decide +kernel)⟩
theorem lw_p59 : lw_okq (⟨"TorchPlateModel", "sorts", "()V"⟩, 34) := ⟨⟨by decide +kernel, by decide +kernel⟩, List.mem_of_getElem? (i := 805) (by decide +kernel), List.mem_of_getElem? (i := 1016) (by decide +kernel), List.mem_of_getElem? (i := 1017) (by decide +kernel)⟩
theorem lw_p60 : lw_okq (⟨"TorchPlateModel", "isCornerNow", "(I)Z"⟩, 34) := ⟨⟨by decide +kernel, by decide +kernel⟩, List.mem_of_getElem? (i := 805) (by decide +kernel), List.mem_of_getElem? (i := 1024) (by decide +kernel), List.mem_of_getElem? (i := 1025) (by decide +kernel)⟩
theorem lw_p61 : lw_okq (⟨"TorchPlateModel", "pieces", "()V"⟩, 34) := ⟨⟨by decide +kernel, by decide +kernel⟩, List.mem_of_getElem? (i := 805) (by decide +kernel), List.mem_of_getElem? (i := 1035) (by decide +kernel), List.mem_of_getElem? (i := 1036) (by decide +kernel)⟩
theorem lw_p62 : lw_okq (⟨"TorchPlateModel", "roots", "(I)V"⟩, 34) := ⟨⟨by decide +kernel, by decide +kernel⟩, List.mem_of_getElem? (i := 805) (by decide +kernel), List.mem_of_getElem? (i := 1039) (by decide +kernel), List.mem_of_getElem? (i := 1040) (by decide +kernel)⟩
theorem lw_p63 : lw_okq (⟨"TorchPlateModel", "way", "(II)I"⟩, 34) := ⟨⟨by decide +kernel, by decide +kernel⟩, List.mem_of_getElem? (i := 805) (by decide +kernel), List.mem_of_getElem? (i := 1043) (by decide +kernel), List.mem_of_getElem? (i := 1044) (by decide +kernel)⟩
def lw_privs_4 : List (MethodName × Nat) := [(⟨"TorchPlateModel", "mayBegin", "()Z"⟩, 34), (⟨"TorchPlateModel", "takes", "(Z)I"⟩, 34), (⟨"TorchPlateModel", "readsItem", "(I)V"⟩, 34), (⟨"TorchPlateModel", "isNumber", "(II)Z"⟩, 34), (⟨"TorchPlateModel", "readsCorner", "()V"⟩, 34), (⟨"TorchPlateModel", "isFreeAt", "(II)Z"⟩, 34), (⟨"TorchPlateModel", "readsPart", "()V"⟩, 34), (⟨"TorchPlateModel", "isCorner", "()Z"⟩, 34), (⟨"TorchPlateModel", "hasRoom", "(II)Z"⟩, 34), (⟨"TorchPlateModel", "cuts", "(II)V"⟩, 34), (⟨"TorchPlateModel", "readsSeam", "()V"⟩, 34), (⟨"TorchPlateModel", "sorts", "()V"⟩, 34), (⟨"TorchPlateModel", "isCornerNow", "(I)Z"⟩, 34), (⟨"TorchPlateModel", "pieces", "()V"⟩, 34), (⟨"TorchPlateModel", "roots", "(I)V"⟩, 34), (⟨"TorchPlateModel", "way", "(II)I"⟩, 34)]
theorem lw_r4 : ∀ q ∈ lw_privs_4, lw_okq q := List.forall_mem_cons.mpr ⟨lw_p48, List.forall_mem_cons.mpr ⟨lw_p49, List.forall_mem_cons.mpr ⟨lw_p50, List.forall_mem_cons.mpr ⟨lw_p51, List.forall_mem_cons.mpr ⟨lw_p52, List.forall_mem_cons.mpr ⟨lw_p53, List.forall_mem_cons.mpr ⟨lw_p54, List.forall_mem_cons.mpr ⟨lw_p55, List.forall_mem_cons.mpr ⟨lw_p56, List.forall_mem_cons.mpr ⟨lw_p57, List.forall_mem_cons.mpr ⟨lw_p58, List.forall_mem_cons.mpr ⟨lw_p59, List.forall_mem_cons.mpr ⟨lw_p60, List.forall_mem_cons.mpr ⟨lw_p61, List.forall_mem_cons.mpr ⟨lw_p62, List.forall_mem_cons.mpr ⟨lw_p63, fun _ h => absurd h List.not_mem_nil⟩⟩⟩⟩⟩⟩⟩⟩⟩⟩⟩⟩⟩⟩⟩⟩
theorem lw_p64 : lw_okq (⟨"TorchPlateModel", "pieceOf", "(I)I"⟩, 34) := ⟨⟨by decide +kernel, by decide +kernel⟩, List.mem_of_getElem? (i := 805) (by decide +kernel), List.mem_of_getElem? (i := 1047) (by decide +kernel), List.mem_of_getElem? (i := 1048) (by decide +kernel)⟩
theorem lw_p65 : lw_okq (⟨"TorchPlateModel", "cutsOfPart", "(I)I"⟩, 34) := ⟨⟨by decide +kernel, by decide +kernel⟩, List.mem_of_getElem? (i := 805) (by decide +kernel), List.mem_of_getElem? (i := 1055) (by decide +kernel), List.mem_of_getElem? (i := 1056) (by decide +kernel)⟩
theorem lw_p66 : lw_okq (⟨"TorchPlateModel", "mayBurn", "(I)Z"⟩, 34) := ⟨⟨by decide +kernel, by decide +kernel⟩, List.mem_of_getElem? (i := 805) (by decide +kernel), List.mem_of_getElem? (i := 1066) (by decide +kernel), List.mem_of_getElem? (i := 1067) (by decide +kernel)⟩
theorem lw_p67 : lw_okq (⟨"TorchPlateModel", "wouldFall", "(I)Z"⟩, 34) := ⟨⟨by decide +kernel, by decide +kernel⟩, List.mem_of_getElem? (i := 805) (by decide +kernel), List.mem_of_getElem? (i := 1070) (by decide +kernel), List.mem_of_getElem? (i := 1071) (by decide +kernel)⟩
theorem lw_p68 : lw_okq (⟨"TorchPlateModel", "burn", "(I)I"⟩, 34) := ⟨⟨by decide +kernel, by decide +kernel⟩, List.mem_of_getElem? (i := 805) (by decide +kernel), List.mem_of_getElem? (i := 1074) (by decide +kernel), List.mem_of_getElem? (i := 1075) (by decide +kernel)⟩
theorem lw_p69 : lw_okq (⟨"TorchPlateModel", "notes", "()V"⟩, 34) := ⟨⟨by decide +kernel, by decide +kernel⟩, List.mem_of_getElem? (i := 805) (by decide +kernel), List.mem_of_getElem? (i := 1078) (by decide +kernel), List.mem_of_getElem? (i := 1079) (by decide +kernel)⟩
theorem lw_p70 : lw_okq (⟨"TorchPlateModel", "beginsAt", "(II)I"⟩, 34) := ⟨⟨by decide +kernel, by decide +kernel⟩, List.mem_of_getElem? (i := 805) (by decide +kernel), List.mem_of_getElem? (i := 1082) (by decide +kernel), List.mem_of_getElem? (i := 1083) (by decide +kernel)⟩
theorem lw_p71 : lw_okq (⟨"TorchPlateModel", "isCool", "(II)Z"⟩, 34) := ⟨⟨by decide +kernel, by decide +kernel⟩, List.mem_of_getElem? (i := 805) (by decide +kernel), List.mem_of_getElem? (i := 1086) (by decide +kernel), List.mem_of_getElem? (i := 1087) (by decide +kernel)⟩
theorem lw_p72 : lw_okq (⟨"TorchPlateModel", "move", "(I)I"⟩, 34) := ⟨⟨by decide +kernel, by decide +kernel⟩, List.mem_of_getElem? (i := 805) (by decide +kernel), List.mem_of_getElem? (i := 1094) (by decide +kernel), List.mem_of_getElem? (i := 1095) (by decide +kernel)⟩
theorem lw_p73 : lw_okq (⟨"TorchPlateModel", "tours", "()Z"⟩, 34) := ⟨⟨by decide +kernel, by decide +kernel⟩, List.mem_of_getElem? (i := 805) (by decide +kernel), List.mem_of_getElem? (i := 1102) (by decide +kernel), List.mem_of_getElem? (i := 1103) (by decide +kernel)⟩
theorem lw_p74 : lw_okq (⟨"TorchPlateModel", "aheadOf", "(I)I"⟩, 34) := ⟨⟨by decide +kernel, by decide +kernel⟩, List.mem_of_getElem? (i := 805) (by decide +kernel), List.mem_of_getElem? (i := 1107) (by decide +kernel), List.mem_of_getElem? (i := 1108) (by decide +kernel)⟩
theorem lw_p75 : lw_okq (⟨"TorchPlateModel", "cutsOf", "(I)I"⟩, 34) := ⟨⟨by decide +kernel, by decide +kernel⟩, List.mem_of_getElem? (i := 805) (by decide +kernel), List.mem_of_getElem? (i := 1111) (by decide +kernel), List.mem_of_getElem? (i := 1112) (by decide +kernel)⟩
theorem lw_p76 : lw_okq (⟨"TorchPlateModel", "startOf", "(I)I"⟩, 34) := ⟨⟨by decide +kernel, by decide +kernel⟩, List.mem_of_getElem? (i := 805) (by decide +kernel), List.mem_of_getElem? (i := 1115) (by decide +kernel), List.mem_of_getElem? (i := 1116) (by decide +kernel)⟩
theorem lw_p77 : lw_okq (⟨"TorchPlateModel", "rounds", "(I)I"⟩, 34) := ⟨⟨by decide +kernel, by decide +kernel⟩, List.mem_of_getElem? (i := 805) (by decide +kernel), List.mem_of_getElem? (i := 1119) (by decide +kernel), List.mem_of_getElem? (i := 1120) (by decide +kernel)⟩
theorem lw_p78 : lw_okq (⟨"TorchPlateModel", "links", "(I)I"⟩, 34) := ⟨⟨by decide +kernel, by decide +kernel⟩, List.mem_of_getElem? (i := 805) (by decide +kernel), List.mem_of_getElem? (i := 1123) (by decide +kernel), List.mem_of_getElem? (i := 1124) (by decide +kernel)⟩
theorem lw_p79 : lw_okq (⟨"TorchPlateModel", "oddOf", "(I)I"⟩, 34) := ⟨⟨by decide +kernel, by decide +kernel⟩, List.mem_of_getElem? (i := 805) (by decide +kernel), List.mem_of_getElem? (i := 1127) (by decide +kernel), List.mem_of_getElem? (i := 1128) (by decide +kernel)⟩
def lw_privs_5 : List (MethodName × Nat) := [(⟨"TorchPlateModel", "pieceOf", "(I)I"⟩, 34), (⟨"TorchPlateModel", "cutsOfPart", "(I)I"⟩, 34), (⟨"TorchPlateModel", "mayBurn", "(I)Z"⟩, 34), (⟨"TorchPlateModel", "wouldFall", "(I)Z"⟩, 34), (⟨"TorchPlateModel", "burn", "(I)I"⟩, 34), (⟨"TorchPlateModel", "notes", "()V"⟩, 34), (⟨"TorchPlateModel", "beginsAt", "(II)I"⟩, 34), (⟨"TorchPlateModel", "isCool", "(II)Z"⟩, 34), (⟨"TorchPlateModel", "move", "(I)I"⟩, 34), (⟨"TorchPlateModel", "tours", "()Z"⟩, 34), (⟨"TorchPlateModel", "aheadOf", "(I)I"⟩, 34), (⟨"TorchPlateModel", "cutsOf", "(I)I"⟩, 34), (⟨"TorchPlateModel", "startOf", "(I)I"⟩, 34), (⟨"TorchPlateModel", "rounds", "(I)I"⟩, 34), (⟨"TorchPlateModel", "links", "(I)I"⟩, 34), (⟨"TorchPlateModel", "oddOf", "(I)I"⟩, 34)]
theorem lw_r5 : ∀ q ∈ lw_privs_5, lw_okq q := List.forall_mem_cons.mpr ⟨lw_p64, List.forall_mem_cons.mpr ⟨lw_p65, List.forall_mem_cons.mpr ⟨lw_p66, List.forall_mem_cons.mpr ⟨lw_p67, List.forall_mem_cons.mpr ⟨lw_p68, List.forall_mem_cons.mpr ⟨lw_p69, List.forall_mem_cons.mpr ⟨lw_p70, List.forall_mem_cons.mpr ⟨lw_p71, List.forall_mem_cons.mpr ⟨lw_p72, List.forall_mem_cons.mpr ⟨lw_p73, List.forall_mem_cons.mpr ⟨lw_p74, List.forall_mem_cons.mpr ⟨lw_p75, List.forall_mem_cons.mpr ⟨lw_p76, List.forall_mem_cons.mpr ⟨lw_p77, List.forall_mem_cons.mpr ⟨lw_p78, List.forall_mem_cons.mpr ⟨lw_p79, fun _ h => absurd h List.not_mem_nil⟩⟩⟩⟩⟩⟩⟩⟩⟩⟩⟩⟩⟩⟩⟩⟩
theorem lw_p80 : lw_okq (⟨"TorchPlateModel", "pairs", "(I)V"⟩, 34) := ⟨⟨by decide +kernel, by decide +kernel⟩, List.mem_of_getElem? (i := 805) (by decide +kernel), List.mem_of_getElem? (i := 1131) (by decide +kernel), List.mem_of_getElem? (i := 1132) (by decide +kernel)⟩
theorem lw_p81 : lw_okq (⟨"TorchPlateModel", "opens", "(III)V"⟩, 34) := ⟨⟨by decide +kernel, by decide +kernel⟩, List.mem_of_getElem? (i := 805) (by decide +kernel), List.mem_of_getElem? (i := 1138) (by decide +kernel), List.mem_of_getElem? (i := 1139) (by decide +kernel)⟩
theorem lw_p82 : lw_okq (⟨"TorchPlateModel", "goesOn", "(III)Z"⟩, 34) := ⟨⟨by decide +kernel, by decide +kernel⟩, List.mem_of_getElem? (i := 805) (by decide +kernel), List.mem_of_getElem? (i := 1142) (by decide +kernel), List.mem_of_getElem? (i := 1143) (by decide +kernel)⟩
theorem lw_p83 : lw_okq (⟨"TorchPlateModel", "isOpen", "(III)Z"⟩, 34) := ⟨⟨by decide +kernel, by decide +kernel⟩, List.mem_of_getElem? (i := 805) (by decide +kernel), List.mem_of_getElem? (i := 1146) (by decide +kernel), List.mem_of_getElem? (i := 1147) (by decide +kernel)⟩
theorem lw_p84 : lw_okq (⟨"TorchPlateModel", "shuts", "(III)V"⟩, 34) := ⟨⟨by decide +kernel, by decide +kernel⟩, List.mem_of_getElem? (i := 805) (by decide +kernel), List.mem_of_getElem? (i := 1150) (by decide +kernel), List.mem_of_getElem? (i := 1151) (by decide +kernel)⟩
theorem lw_p85 : lw_okq (⟨"TorchPlateModel", "isAllFrom", "(I)Z"⟩, 34) := ⟨⟨by decide +kernel, by decide +kernel⟩, List.mem_of_getElem? (i := 805) (by decide +kernel), List.mem_of_getElem? (i := 1154) (by decide +kernel), List.mem_of_getElem? (i := 1155) (by decide +kernel)⟩
theorem lw_p86 : lw_okq (⟨"TorchPlateModel", "unseenSet", "()I"⟩, 34) := ⟨⟨by decide +kernel, by decide +kernel⟩, List.mem_of_getElem? (i := 805) (by decide +kernel), List.mem_of_getElem? (i := 1190) (by decide +kernel), List.mem_of_getElem? (i := 1191) (by decide +kernel)⟩
def lw_privs_6 : List (MethodName × Nat) := [(⟨"TorchPlateModel", "pairs", "(I)V"⟩, 34), (⟨"TorchPlateModel", "opens", "(III)V"⟩, 34), (⟨"TorchPlateModel", "goesOn", "(III)Z"⟩, 34), (⟨"TorchPlateModel", "isOpen", "(III)Z"⟩, 34), (⟨"TorchPlateModel", "shuts", "(III)V"⟩, 34), (⟨"TorchPlateModel", "isAllFrom", "(I)Z"⟩, 34), (⟨"TorchPlateModel", "unseenSet", "()I"⟩, 34)]
theorem lw_r6 : ∀ q ∈ lw_privs_6, lw_okq q := List.forall_mem_cons.mpr ⟨lw_p80, List.forall_mem_cons.mpr ⟨lw_p81, List.forall_mem_cons.mpr ⟨lw_p82, List.forall_mem_cons.mpr ⟨lw_p83, List.forall_mem_cons.mpr ⟨lw_p84, List.forall_mem_cons.mpr ⟨lw_p85, List.forall_mem_cons.mpr ⟨lw_p86, fun _ h => absurd h List.not_mem_nil⟩⟩⟩⟩⟩⟩⟩
def lw_privs : List (MethodName × Nat) := lw_privs_1 ++ (lw_privs_2 ++ (lw_privs_3 ++ (lw_privs_4 ++ (lw_privs_5 ++ (lw_privs_6)))))
def lw_tbl : List Cond := k2_sels lw_privs ++ tables_1
theorem lw_privs_ok : ∀ q ∈ lw_privs, lw_okq q := by
  show ∀ q ∈ lw_privs_1 ++ (lw_privs_2 ++ (lw_privs_3 ++ (lw_privs_4 ++ (lw_privs_5 ++ (lw_privs_6))))), lw_okq q
  exact List.forall_mem_append.mpr ⟨lw_r1, List.forall_mem_append.mpr ⟨lw_r2, List.forall_mem_append.mpr ⟨lw_r3, List.forall_mem_append.mpr ⟨lw_r4, List.forall_mem_append.mpr ⟨lw_r5, lw_r6⟩⟩⟩⟩⟩
-- ===== end of PART A; then your names; then what follows =====
end
section
def RX0 : String := "TorchPlate$Past"
def TX0 : u_T := fun k => match k with
  | 0 => ("TorchPlate$Past", "rows", "[LTorchPlate$Plight;", true)
  | 1 => ("TorchPlate$Past", "next", "I", false)
  | _ => ("TorchPlate$Past", "size", "I", false)
def tyX0 : Nat → FieldType := fun k => match k with
  | 0 => .array (.object "TorchPlate$Plight")
  | 1 => .int
  | _ => .int
abbrev wsX00 : List Cond := u_ws RX0 TX0 3
theorem nmX0 : ∀ a, a < 3 → ∀ b, b < 3 → a ≠ b → (TX0 a).2.1 ≠ (TX0 b).2.1 := by decide +kernel
theorem tyX0_ok : ∀ k, k < 3 → parseFieldDescriptor (TX0 k).2.2.1 = some (tyX0 k) := by decide +kernel
abbrev cX0_init : ByteArray := prog_2_method_1_code
def yX0_init : MethodName := ⟨RX0, "<init>", "()V"⟩
abbrev cX0_lose : ByteArray := prog_2_method_2_code
def yX0_lose : MethodName := ⟨RX0, "lose", "()V"⟩
abbrev cX0_remember : ByteArray := prog_2_method_3_code
def yX0_remember : MethodName := ⟨RX0, "remember", "(LTorchPlate$Plight;)V"⟩
abbrev cX0_restore : ByteArray := prog_2_method_4_code
def yX0_restore : MethodName := ⟨RX0, "restore", "(LTorchPlate$Plight;)Z"⟩
def RX1 : String := "TorchPlate$Plate"
def TX1 : u_T := fun k => match k with
  | 0 => ("TorchPlate$Plate", "corners", "I", false)
  | 1 => ("TorchPlate$Plate", "x", "[I", true)
  | 2 => ("TorchPlate$Plate", "y", "[I", true)
  | 3 => ("TorchPlate$Plate", "joined", "[I", true)
  | 4 => ("TorchPlate$Plate", "cuts", "I", false)
  | 5 => ("TorchPlate$Plate", "low", "[I", true)
  | 6 => ("TorchPlate$Plate", "high", "[I", true)
  | 7 => ("TorchPlate$Plate", "parts", "I", false)
  | 8 => ("TorchPlate$Plate", "ringSize", "[I", true)
  | 9 => ("TorchPlate$Plate", "ring", "[[I", true)
  | 10 => ("TorchPlate$Plate", "ringCuts", "[I", true)
  | 11 => ("TorchPlate$Plate", "within", "[I", true)
  | 12 => ("TorchPlate$Plate", "heat", "I", false)
  | _ => ("TorchPlate$Plate", "items", "I", false)
def tyX1 : Nat → FieldType := fun k => match k with
  | 0 => .int
  | 1 => .array .int
  | 2 => .array .int
  | 3 => .array .int
  | 4 => .int
  | 5 => .array .int
  | 6 => .array .int
  | 7 => .int
  | 8 => .array .int
  | 9 => .array (.array .int)
  | 10 => .array .int
  | 11 => .array .int
  | 12 => .int
  | _ => .int
abbrev wsX10 : List Cond := u_ws RX1 TX1 14
theorem nmX1 : ∀ a, a < 14 → ∀ b, b < 14 → a ≠ b → (TX1 a).2.1 ≠ (TX1 b).2.1 := by decide +kernel
theorem tyX1_ok : ∀ k, k < 14 → parseFieldDescriptor (TX1 k).2.2.1 = some (tyX1 k) := by decide +kernel
abbrev cX1_init : ByteArray := prog_3_method_1_code
def yX1_init : MethodName := ⟨RX1, "<init>", "()V"⟩
abbrev cX1_wipe : ByteArray := prog_3_method_2_code
def yX1_wipe : MethodName := ⟨RX1, "wipe", "()V"⟩
abbrev cX1_hasCorner : ByteArray := prog_3_method_3_code
def yX1_hasCorner : MethodName := ⟨RX1, "hasCorner", "(I)Z"⟩
abbrev cX1_way : ByteArray := prog_3_method_4_code
def yX1_way : MethodName := ⟨RX1, "way", "(II)I"⟩
abbrev cX1_addCorner : ByteArray := prog_3_method_5_code
def yX1_addCorner : MethodName := ⟨RX1, "addCorner", "(II)Z"⟩
abbrev cX1_join : ByteArray := prog_3_method_6_code
def yX1_join : MethodName := ⟨RX1, "join", "(II)Z"⟩
abbrev cX1_settle : ByteArray := prog_3_method_7_code
def yX1_settle : MethodName := ⟨RX1, "settle", "()V"⟩
abbrev cX1_numberCuts : ByteArray := prog_3_method_8_code
def yX1_numberCuts : MethodName := ⟨RX1, "numberCuts", "()V"⟩
abbrev cX1_cutsOfRing : ByteArray := prog_3_method_9_code
def yX1_cutsOfRing : MethodName := ⟨RX1, "cutsOfRing", "(I)I"⟩
abbrev cX1_nextInRing : ByteArray := prog_3_method_10_code
def yX1_nextInRing : MethodName := ⟨RX1, "nextInRing", "(II)I"⟩
abbrev cX1_cutBetween : ByteArray := prog_3_method_11_code
def yX1_cutBetween : MethodName := ⟨RX1, "cutBetween", "(II)I"⟩
abbrev cX1_partsAround : ByteArray := prog_3_method_12_code
def yX1_partsAround : MethodName := ⟨RX1, "partsAround", "(I)I"⟩
abbrev cX1_goesRound : ByteArray := prog_3_method_13_code
def yX1_goesRound : MethodName := ⟨RX1, "goesRound", "(II)Z"⟩
abbrev cX1_liesOn : ByteArray := prog_3_method_14_code
def yX1_liesOn : MethodName := ⟨RX1, "liesOn", "(III)Z"⟩
abbrev cX1_crossing : ByteArray := prog_3_method_15_code
def yX1_crossing : MethodName := ⟨RX1, "crossing", "(III)I"⟩
abbrev cX1_side : ByteArray := prog_3_method_16_code
def yX1_side : MethodName := ⟨RX1, "side", "(III)I"⟩
abbrev cX1_cutsAt : ByteArray := prog_3_method_17_code
def yX1_cutsAt : MethodName := ⟨RX1, "cutsAt", "(II)I"⟩
def RX2 : String := "TorchPlate$Plight"
def TX2 : u_T := fun k => match k with
  | 0 => ("TorchPlate$Plight", "left", "I", false)
  | 1 => ("TorchPlate$Plight", "torch", "I", false)
  | 2 => ("TorchPlate$Plight", "time", "I", false)
  | 3 => ("TorchPlate$Plight", "justEnded", "Z", false)
  | _ => ("TorchPlate$Plight", "burntAt", "[I", true)
def tyX2 : Nat → FieldType := fun k => match k with
  | 0 => .int
  | 1 => .int
  | 2 => .int
  | 3 => .boolean
  | _ => .array .int
abbrev wsX20 : List Cond := u_ws RX2 TX2 5
theorem nmX2 : ∀ a, a < 5 → ∀ b, b < 5 → a ≠ b → (TX2 a).2.1 ≠ (TX2 b).2.1 := by decide +kernel
theorem tyX2_ok : ∀ k, k < 5 → parseFieldDescriptor (TX2 k).2.2.1 = some (tyX2 k) := by decide +kernel
abbrev cX2_init : ByteArray := prog_4_method_1_code
def yX2_init : MethodName := ⟨RX2, "<init>", "()V"⟩
abbrev cX2_beginOn : ByteArray := prog_4_method_2_code
def yX2_beginOn : MethodName := ⟨RX2, "beginOn", "(LTorchPlate$Plate;)V"⟩
abbrev cX2_become : ByteArray := prog_4_method_3_code
def yX2_become : MethodName := ⟨RX2, "become", "(LTorchPlate$Plight;)V"⟩
abbrev cX2_move : ByteArray := prog_4_method_4_code
def yX2_move : MethodName := ⟨RX2, "move", "(ILTorchPlate$Plate;)V"⟩
abbrev cX2_burn : ByteArray := prog_4_method_5_code
def yX2_burn : MethodName := ⟨RX2, "burn", "(IILTorchPlate$Plate;)V"⟩
abbrev cX2_beginOfBurn : ByteArray := prog_4_method_6_code
def yX2_beginOfBurn : MethodName := ⟨RX2, "beginOfBurn", "(ILTorchPlate$Plate;)I"⟩
abbrev cX2_coolAt : ByteArray := prog_4_method_7_code
def yX2_coolAt : MethodName := ⟨RX2, "coolAt", "(II)I"⟩
abbrev cX2_mayLose : ByteArray := prog_4_method_8_code
def yX2_mayLose : MethodName := ⟨RX2, "mayLose", "(ILTorchPlate$Plate;)Z"⟩
def RX3 : String := "TorchPlate$Reader"
def TX3 : u_T := fun k => match k with
  | 0 => ("TorchPlate$Reader", "place", "I", false)
  | 1 => ("TorchPlate$Reader", "next", "I", false)
  | 2 => ("TorchPlate$Reader", "token", "I", false)
  | 3 => ("TorchPlate$Reader", "value", "I", false)
  | 4 => ("TorchPlate$Reader", "item", "I", false)
  | 5 => ("TorchPlate$Reader", "told", "I", false)
  | 6 => ("TorchPlate$Reader", "first", "I", false)
  | 7 => ("TorchPlate$Reader", "last", "I", false)
  | _ => ("TorchPlate$Reader", "heatTold", "Z", false)
def tyX3 : Nat → FieldType := fun k => match k with
  | 0 => .int
  | 1 => .int
  | 2 => .int
  | 3 => .int
  | 4 => .int
  | 5 => .int
  | 6 => .int
  | 7 => .int
  | _ => .boolean
abbrev wsX30 : List Cond := u_ws RX3 TX3 9
theorem nmX3 : ∀ a, a < 9 → ∀ b, b < 9 → a ≠ b → (TX3 a).2.1 ≠ (TX3 b).2.1 := by decide +kernel
theorem tyX3_ok : ∀ k, k < 9 → parseFieldDescriptor (TX3 k).2.2.1 = some (tyX3 k) := by decide +kernel
abbrev cX3_init : ByteArray := prog_5_method_1_code
def yX3_init : MethodName := ⟨RX3, "<init>", "()V"⟩
abbrev cX3_read : ByteArray := prog_5_method_2_code
def yX3_read : MethodName := ⟨RX3, "read", "([IILTorchPlate$Plate;)I"⟩
abbrev cX3_readToken : ByteArray := prog_5_method_3_code
def yX3_readToken : MethodName := ⟨RX3, "readToken", "([II)V"⟩
abbrev cX3_readNumber : ByteArray := prog_5_method_4_code
def yX3_readNumber : MethodName := ⟨RX3, "readNumber", "([II)V"⟩
abbrev cX3_isDigit : ByteArray := prog_5_method_5_code
def yX3_isDigit : MethodName := ⟨RX3, "isDigit", "(I)Z"⟩
abbrev cX3_takesToken : ByteArray := prog_5_method_6_code
def yX3_takesToken : MethodName := ⟨RX3, "takesToken", "(LTorchPlate$Plate;)Z"⟩
abbrev cX3_beginsItem : ByteArray := prog_5_method_7_code
def yX3_beginsItem : MethodName := ⟨RX3, "beginsItem", "(LTorchPlate$Plate;)Z"⟩
abbrev cX3_takesNumber : ByteArray := prog_5_method_8_code
def yX3_takesNumber : MethodName := ⟨RX3, "takesNumber", "(LTorchPlate$Plate;)Z"⟩
abbrev cX3_takesHeat : ByteArray := prog_5_method_9_code
def yX3_takesHeat : MethodName := ⟨RX3, "takesHeat", "(LTorchPlate$Plate;)Z"⟩
abbrev cX3_takesPlace : ByteArray := prog_5_method_10_code
def yX3_takesPlace : MethodName := ⟨RX3, "takesPlace", "(LTorchPlate$Plate;)Z"⟩
abbrev cX3_takesRingCorner : ByteArray := prog_5_method_11_code
def yX3_takesRingCorner : MethodName := ⟨RX3, "takesRingCorner", "(LTorchPlate$Plate;)Z"⟩
abbrev cX3_takesSeamCorner : ByteArray := prog_5_method_12_code
def yX3_takesSeamCorner : MethodName := ⟨RX3, "takesSeamCorner", "(LTorchPlate$Plate;)Z"⟩
abbrev cX3_endsItem : ByteArray := prog_5_method_13_code
def yX3_endsItem : MethodName := ⟨RX3, "endsItem", "(LTorchPlate$Plate;)Z"⟩
abbrev cX3_endsRing : ByteArray := prog_5_method_14_code
def yX3_endsRing : MethodName := ⟨RX3, "endsRing", "(LTorchPlate$Plate;)Z"⟩
def RX4 : String := "TorchPlate$Survey"
def TX4 : u_T := fun k => match k with
  | 0 => ("TorchPlate$Survey", "fresh", "Z", false)
  | 1 => ("TorchPlate$Survey", "pieces", "I", false)
  | 2 => ("TorchPlate$Survey", "cuts", "[I", true)
  | 3 => ("TorchPlate$Survey", "corners", "[I", true)
  | 4 => ("TorchPlate$Survey", "odd", "[I", true)
  | 5 => ("TorchPlate$Survey", "start", "[I", true)
  | 6 => ("TorchPlate$Survey", "linkWay", "[I", true)
  | 7 => ("TorchPlate$Survey", "ahead", "[I", true)
  | 8 => ("TorchPlate$Survey", "partner", "[I", true)
  | 9 => ("TorchPlate$Survey", "order", "[I", true)
  | 10 => ("TorchPlate$Survey", "tourWay", "I", false)
  | _ => ("TorchPlate$Survey", "web", "LTorchPlate$Web;", true)
def tyX4 : Nat → FieldType := fun k => match k with
  | 0 => .boolean
  | 1 => .int
  | 2 => .array .int
  | 3 => .array .int
  | 4 => .array .int
  | 5 => .array .int
  | 6 => .array .int
  | 7 => .array .int
  | 8 => .array .int
  | 9 => .array .int
  | 10 => .int
  | _ => .object "TorchPlate$Web"
abbrev wsX40 : List Cond := u_ws RX4 TX4 12
theorem nmX4 : ∀ a, a < 12 → ∀ b, b < 12 → a ≠ b → (TX4 a).2.1 ≠ (TX4 b).2.1 := by decide +kernel
theorem tyX4_ok : ∀ k, k < 12 → parseFieldDescriptor (TX4 k).2.2.1 = some (tyX4 k) := by decide +kernel
abbrev cX4_init : ByteArray := prog_6_method_1_code
def yX4_init : MethodName := ⟨RX4, "<init>", "()V"⟩
abbrev cX4_look : ByteArray := prog_6_method_2_code
def yX4_look : MethodName := ⟨RX4, "look", "(LTorchPlate$Plate;LTorchPlate$Plight;)V"⟩
abbrev cX4_hasPiece : ByteArray := prog_6_method_3_code
def yX4_hasPiece : MethodName := ⟨RX4, "hasPiece", "(I)Z"⟩
abbrev cX4_startOf : ByteArray := prog_6_method_4_code
def yX4_startOf : MethodName := ⟨RX4, "startOf", "(I)I"⟩
abbrev cX4_stepsOf : ByteArray := prog_6_method_5_code
def yX4_stepsOf : MethodName := ⟨RX4, "stepsOf", "(I)I"⟩
abbrev cX4_pieceOf : ByteArray := prog_6_method_6_code
def yX4_pieceOf : MethodName := ⟨RX4, "pieceOf", "(I)I"⟩
abbrev cX4_idle : ByteArray := prog_6_method_7_code
def yX4_idle : MethodName := ⟨RX4, "idle", "()I"⟩
abbrev cX4_findPieces : ByteArray := prog_6_method_8_code
def yX4_findPieces : MethodName := ⟨RX4, "findPieces", "(LTorchPlate$Plate;LTorchPlate$Plight;)V"⟩
abbrev cX4_cutsAmong : ByteArray := prog_6_method_9_code
def yX4_cutsAmong : MethodName := ⟨RX4, "cutsAmong", "(LTorchPlate$Plate;II)I"⟩
abbrev cX4_oddAmong : ByteArray := prog_6_method_10_code
def yX4_oddAmong : MethodName := ⟨RX4, "oddAmong", "(I)I"⟩
abbrev cX4_leastPairs : ByteArray := prog_6_method_11_code
def yX4_leastPairs : MethodName := ⟨RX4, "leastPairs", "(LTorchPlate$Plate;II)I"⟩
abbrev cX4_pairUp : ByteArray := prog_6_method_12_code
def yX4_pairUp : MethodName := ⟨RX4, "pairUp", "(LTorchPlate$Plate;II)V"⟩
abbrev cX4_piecesAhead : ByteArray := prog_6_method_13_code
def yX4_piecesAhead : MethodName := ⟨RX4, "piecesAhead", "(LTorchPlate$Plate;I)I"⟩
abbrev cX4_partsIn : ByteArray := prog_6_method_14_code
def yX4_partsIn : MethodName := ⟨RX4, "partsIn", "(LTorchPlate$Plate;I)I"⟩
abbrev cX4_isAnyWithin : ByteArray := prog_6_method_15_code
def yX4_isAnyWithin : MethodName := ⟨RX4, "isAnyWithin", "(LTorchPlate$Plate;II)Z"⟩
abbrev cX4_findTour : ByteArray := prog_6_method_16_code
def yX4_findTour : MethodName := ⟨RX4, "findTour", "(LTorchPlate$Plate;I)V"⟩
abbrev cX4_mayBeNext : ByteArray := prog_6_method_17_code
def yX4_mayBeNext : MethodName := ⟨RX4, "mayBeNext", "(II)Z"⟩
abbrev cX4_leastTour : ByteArray := prog_6_method_18_code
def yX4_leastTour : MethodName := ⟨RX4, "leastTour", "(LTorchPlate$Plate;LTorchPlate$Survey;III)I"⟩
def RX5 : String := "TorchPlate$Walk"
def TX5 : u_T := fun k => match k with
  | 0 => ("TorchPlate$Walk", "piece", "I", false)
  | 1 => ("TorchPlate$Walk", "steps", "I", false)
  | 2 => ("TorchPlate$Walk", "to", "[I", true)
  | 3 => ("TorchPlate$Walk", "byCut", "[I", true)
  | _ => ("TorchPlate$Walk", "web", "LTorchPlate$Web;", true)
def tyX5 : Nat → FieldType := fun k => match k with
  | 0 => .int
  | 1 => .int
  | 2 => .array .int
  | 3 => .array .int
  | _ => .object "TorchPlate$Web"
abbrev wsX50 : List Cond := u_ws RX5 TX5 5
theorem nmX5 : ∀ a, a < 5 → ∀ b, b < 5 → a ≠ b → (TX5 a).2.1 ≠ (TX5 b).2.1 := by decide +kernel
theorem tyX5_ok : ∀ k, k < 5 → parseFieldDescriptor (TX5 k).2.2.1 = some (tyX5 k) := by decide +kernel
abbrev cX5_init : ByteArray := prog_7_method_1_code
def yX5_init : MethodName := ⟨RX5, "<init>", "()V"⟩
abbrev cX5_go : ByteArray := prog_7_method_2_code
def yX5_go : MethodName := ⟨RX5, "go", "(LTorchPlate$Plate;LTorchPlate$Survey;I)V"⟩
abbrev cX5_layOut : ByteArray := prog_7_method_3_code
def yX5_layOut : MethodName := ⟨RX5, "layOut", "(LTorchPlate$Plate;LTorchPlate$Survey;I)V"⟩
abbrev cX5_takesStep : ByteArray := prog_7_method_4_code
def yX5_takesStep : MethodName := ⟨RX5, "takesStep", "(I)Z"⟩
abbrev cX5_takesTie : ByteArray := prog_7_method_5_code
def yX5_takesTie : MethodName := ⟨RX5, "takesTie", "([III)Z"⟩
abbrev cX5_notes : ByteArray := prog_7_method_6_code
def yX5_notes : MethodName := ⟨RX5, "notes", "(II)Z"⟩
def RX6 : String := "TorchPlate$Web"
def TX6 : u_T := fun k => match k with
  | 0 => ("TorchPlate$Web", "cuts", "[I", true)
  | _ => ("TorchPlate$Web", "links", "[I", true)
def tyX6 : Nat → FieldType := fun k => match k with
  | 0 => .array .int
  | _ => .array .int
abbrev wsX60 : List Cond := u_ws RX6 TX6 2
theorem nmX6 : ∀ a, a < 2 → ∀ b, b < 2 → a ≠ b → (TX6 a).2.1 ≠ (TX6 b).2.1 := by decide +kernel
theorem tyX6_ok : ∀ k, k < 2 → parseFieldDescriptor (TX6 k).2.2.1 = some (tyX6 k) := by decide +kernel
abbrev cX6_init : ByteArray := prog_8_method_1_code
def yX6_init : MethodName := ⟨RX6, "<init>", "()V"⟩
abbrev cX6_lay : ByteArray := prog_8_method_2_code
def yX6_lay : MethodName := ⟨RX6, "lay", "(LTorchPlate$Plate;I)V"⟩
abbrev cX6_turn : ByteArray := prog_8_method_3_code
def yX6_turn : MethodName := ⟨RX6, "turn", "([III)V"⟩
abbrev cX6_reach : ByteArray := prog_8_method_4_code
def yX6_reach : MethodName := ⟨RX6, "reach", "(I)I"⟩
abbrev cX6_allReachedFrom : ByteArray := prog_8_method_5_code
def yX6_allReachedFrom : MethodName := ⟨RX6, "allReachedFrom", "(I)Z"⟩
def RX7 : String := "TorchPlate$Witness"
def TX7 : u_T := fun k => match k with
  | 0 => ("TorchPlate$Witness", "size", "I", false)
  | 1 => ("TorchPlate$Witness", "one", "[I", true)
  | 2 => ("TorchPlate$Witness", "other", "[I", true)
  | 3 => ("TorchPlate$Witness", "together", "[I", true)
  | 4 => ("TorchPlate$Witness", "tally", "[I", true)
  | _ => ("TorchPlate$Witness", "web", "LTorchPlate$Web;", true)
def tyX7 : Nat → FieldType := fun k => match k with
  | 0 => .int
  | 1 => .array .int
  | 2 => .array .int
  | 3 => .array .int
  | 4 => .array .int
  | _ => .object "TorchPlate$Web"
abbrev wsX70 : List Cond := u_ws RX7 TX7 6
theorem nmX7 : ∀ a, a < 6 → ∀ b, b < 6 → a ≠ b → (TX7 a).2.1 ≠ (TX7 b).2.1 := by decide +kernel
theorem tyX7_ok : ∀ k, k < 6 → parseFieldDescriptor (TX7 k).2.2.1 = some (tyX7 k) := by decide +kernel
abbrev cX7_init : ByteArray := prog_9_method_1_code
def yX7_init : MethodName := ⟨RX7, "<init>", "()V"⟩
abbrev cX7_lose : ByteArray := prog_9_method_2_code
def yX7_lose : MethodName := ⟨RX7, "lose", "()V"⟩
abbrev cX7_add : ByteArray := prog_9_method_3_code
def yX7_add : MethodName := ⟨RX7, "add", "(III)Z"⟩
abbrev cX7_suspects : ByteArray := prog_9_method_4_code
def yX7_suspects : MethodName := ⟨RX7, "suspects", "(LTorchPlate$Plate;I)I"⟩
abbrev cX7_allIsAsSeen : ByteArray := prog_9_method_5_code
def yX7_allIsAsSeen : MethodName := ⟨RX7, "allIsAsSeen", "()Z"⟩
abbrev cX7_bestQuestion : ByteArray := prog_9_method_6_code
def yX7_bestQuestion : MethodName := ⟨RX7, "bestQuestion", "(LTorchPlate$Plate;I)I"⟩
abbrev cX7_tallyPairs : ByteArray := prog_9_method_7_code
def yX7_tallyPairs : MethodName := ⟨RX7, "tallyPairs", "(LTorchPlate$Plate;II)V"⟩
abbrev cX7_countReached : ByteArray := prog_9_method_8_code
def yX7_countReached : MethodName := ⟨RX7, "countReached", "(II)V"⟩
def RX8 : String := "TorchPlate"
def TX8 : u_T := fun k => match k with
  | 0 => ("TorchPlate", "letters", "[I", true)
  | 1 => ("TorchPlate", "length", "I", false)
  | 2 => ("TorchPlate", "plate", "LTorchPlate$Plate;", false)
  | 3 => ("TorchPlate", "draft", "LTorchPlate$Plate;", false)
  | 4 => ("TorchPlate", "reader", "LTorchPlate$Reader;", true)
  | 5 => ("TorchPlate", "now", "LTorchPlate$Plight;", true)
  | 6 => ("TorchPlate", "past", "LTorchPlate$Past;", true)
  | 7 => ("TorchPlate", "images", "[LTorchPlate$Plight;", true)
  | 8 => ("TorchPlate", "keptImages", "I", false)
  | 9 => ("TorchPlate", "survey", "LTorchPlate$Survey;", true)
  | 10 => ("TorchPlate", "walk", "LTorchPlate$Walk;", true)
  | _ => ("TorchPlate", "witness", "LTorchPlate$Witness;", true)
def tyX8 : Nat → FieldType := fun k => match k with
  | 0 => .array .int
  | 1 => .int
  | 2 => .object "TorchPlate$Plate"
  | 3 => .object "TorchPlate$Plate"
  | 4 => .object "TorchPlate$Reader"
  | 5 => .object "TorchPlate$Plight"
  | 6 => .object "TorchPlate$Past"
  | 7 => .array (.object "TorchPlate$Plight")
  | 8 => .int
  | 9 => .object "TorchPlate$Survey"
  | 10 => .object "TorchPlate$Walk"
  | _ => .object "TorchPlate$Witness"
abbrev wsX80 : List Cond := u_ws RX8 TX8 12
theorem nmX8 : ∀ a, a < 12 → ∀ b, b < 12 → a ≠ b → (TX8 a).2.1 ≠ (TX8 b).2.1 := by decide +kernel
theorem tyX8_ok : ∀ k, k < 12 → parseFieldDescriptor (TX8 k).2.2.1 = some (tyX8 k) := by decide +kernel
abbrev cX8_init : ByteArray := prog_1_method_1_code
def yX8_init : MethodName := ⟨RX8, "<init>", "()V"⟩
abbrev cX8_type : ByteArray := prog_1_method_2_code
def yX8_type : MethodName := ⟨RX8, "type", "(I)I"⟩
abbrev cX8_clear : ByteArray := prog_1_method_3_code
def yX8_clear : MethodName := ⟨RX8, "clear", "()I"⟩
abbrev cX8_plate : ByteArray := prog_1_method_4_code
def yX8_plate : MethodName := ⟨RX8, "plate", "()I"⟩
abbrev cX8_corner : ByteArray := prog_1_method_5_code
def yX8_corner : MethodName := ⟨RX8, "corner", "(II)I"⟩
abbrev cX8_cut : ByteArray := prog_1_method_6_code
def yX8_cut : MethodName := ⟨RX8, "cut", "(II)I"⟩
abbrev cX8_part : ByteArray := prog_1_method_7_code
def yX8_part : MethodName := ⟨RX8, "part", "(II)I"⟩
abbrev cX8_burns : ByteArray := prog_1_method_8_code
def yX8_burns : MethodName := ⟨RX8, "burns", "(I)I"⟩
abbrev cX8_moves : ByteArray := prog_1_method_9_code
def yX8_moves : MethodName := ⟨RX8, "moves", "(I)I"⟩
abbrev cX8_follows : ByteArray := prog_1_method_10_code
def yX8_follows : MethodName := ⟨RX8, "follows", "()I"⟩
abbrev cX8_undo : ByteArray := prog_1_method_11_code
def yX8_undo : MethodName := ⟨RX8, "undo", "()I"⟩
abbrev cX8_piece : ByteArray := prog_1_method_12_code
def yX8_piece : MethodName := ⟨RX8, "piece", "(II)I"⟩
abbrev cX8_link : ByteArray := prog_1_method_13_code
def yX8_link : MethodName := ⟨RX8, "link", "(I)I"⟩
abbrev cX8_round : ByteArray := prog_1_method_14_code
def yX8_round : MethodName := ⟨RX8, "round", "(III)I"⟩
abbrev cX8_tour : ByteArray := prog_1_method_15_code
def yX8_tour : MethodName := ⟨RX8, "tour", "(I)I"⟩
abbrev cX8_sees : ByteArray := prog_1_method_16_code
def yX8_sees : MethodName := ⟨RX8, "sees", "(III)I"⟩
abbrev cX8_forget : ByteArray := prog_1_method_17_code
def yX8_forget : MethodName := ⟨RX8, "forget", "()I"⟩
abbrev cX8_unseen : ByteArray := prog_1_method_18_code
def yX8_unseen : MethodName := ⟨RX8, "unseen", "()I"⟩
abbrev cX8_ask : ByteArray := prog_1_method_19_code
def yX8_ask : MethodName := ⟨RX8, "ask", "()I"⟩
abbrev cX8_keep : ByteArray := prog_1_method_20_code
def yX8_keep : MethodName := ⟨RX8, "keep", "(I)I"⟩
abbrev cX8_back : ByteArray := prog_1_method_21_code
def yX8_back : MethodName := ⟨RX8, "back", "(I)I"⟩
abbrev cX8_count : ByteArray := prog_1_method_22_code
def yX8_count : MethodName := ⟨RX8, "count", "(I)I"⟩
abbrev cX8_burnTo : ByteArray := prog_1_method_23_code
def yX8_burnTo : MethodName := ⟨RX8, "burnTo", "(I)Z"⟩
abbrev cX8_moveTo : ByteArray := prog_1_method_24_code
def yX8_moveTo : MethodName := ⟨RX8, "moveTo", "(I)V"⟩
abbrev cX8_surveyed : ByteArray := prog_1_method_25_code
def yX8_surveyed : MethodName := ⟨RX8, "surveyed", "()LTorchPlate$Survey;"⟩
abbrev cX8_outdate : ByteArray := prog_1_method_26_code
def yX8_outdate : MethodName := ⟨RX8, "outdate", "()V"⟩
abbrev cX8_has : ByteArray := prog_1_method_27_code
def yX8_has : MethodName := ⟨RX8, "has", "(II)Z"⟩
def RX9 : String := "TorchPlateModel"
def TX9 : u_T := fun k => match k with
  | 0 => ("TorchPlateModel", "thrown", "I", false)
  | 1 => ("TorchPlateModel", "text", "[I", true)
  | 2 => ("TorchPlateModel", "typed", "I", false)
  | 3 => ("TorchPlateModel", "at", "I", false)
  | 4 => ("TorchPlateModel", "token", "I", false)
  | 5 => ("TorchPlateModel", "start", "I", false)
  | 6 => ("TorchPlateModel", "value", "I", false)
  | 7 => ("TorchPlateModel", "fault", "I", false)
  | 8 => ("TorchPlateModel", "heated", "Z", false)
  | 9 => ("TorchPlateModel", "told", "[I", true)
  | 10 => ("TorchPlateModel", "draft", "[I", true)
  | 11 => ("TorchPlateModel", "s", "[I", true)
  | 12 => ("TorchPlateModel", "undos", "[I", true)
  | 13 => ("TorchPlateModel", "undoMany", "I", false)
  | 14 => ("TorchPlateModel", "kept", "[I", true)
  | 15 => ("TorchPlateModel", "isKept", "[Z", true)
  | 16 => ("TorchPlateModel", "seenA", "[I", true)
  | 17 => ("TorchPlateModel", "seenB", "[I", true)
  | 18 => ("TorchPlateModel", "seenIs", "[I", true)
  | 19 => ("TorchPlateModel", "seenMany", "I", false)
  | 20 => ("TorchPlateModel", "inside", "[I", true)
  | 21 => ("TorchPlateModel", "root", "[I", true)
  | 22 => ("TorchPlateModel", "pieceRoot", "[I", true)
  | 23 => ("TorchPlateModel", "pieceMany", "I", false)
  | 24 => ("TorchPlateModel", "mate", "[I", true)
  | 25 => ("TorchPlateModel", "least", "[I", true)
  | 26 => ("TorchPlateModel", "steps", "[I", true)
  | 27 => ("TorchPlateModel", "stepCut", "[Z", true)
  | 28 => ("TorchPlateModel", "stepMany", "I", false)
  | 29 => ("TorchPlateModel", "open", "[I", true)
  | 30 => ("TorchPlateModel", "order", "[I", true)
  | 31 => ("TorchPlateModel", "bestOrder", "[I", true)
  | 32 => ("TorchPlateModel", "tourWay", "I", false)
  | _ => ("TorchPlateModel", "by", "[I", true)
def tyX9 : Nat → FieldType := fun k => match k with
  | 0 => .int
  | 1 => .array .int
  | 2 => .int
  | 3 => .int
  | 4 => .int
  | 5 => .int
  | 6 => .int
  | 7 => .int
  | 8 => .boolean
  | 9 => .array .int
  | 10 => .array .int
  | 11 => .array .int
  | 12 => .array .int
  | 13 => .int
  | 14 => .array .int
  | 15 => .array .boolean
  | 16 => .array .int
  | 17 => .array .int
  | 18 => .array .int
  | 19 => .int
  | 20 => .array .int
  | 21 => .array .int
  | 22 => .array .int
  | 23 => .int
  | 24 => .array .int
  | 25 => .array .int
  | 26 => .array .int
  | 27 => .array .boolean
  | 28 => .int
  | 29 => .array .int
  | 30 => .array .int
  | 31 => .array .int
  | 32 => .int
  | _ => .array .int
abbrev wsX90 : List Cond := u_ws RX9 TX9 34
theorem nmX9 : ∀ a, a < 34 → ∀ b, b < 34 → a ≠ b → (TX9 a).2.1 ≠ (TX9 b).2.1 := by decide +kernel
theorem tyX9_ok : ∀ k, k < 34 → parseFieldDescriptor (TX9 k).2.2.1 = some (tyX9 k) := by decide +kernel
abbrev cX9_init : ByteArray := prog_11_method_1_code
def yX9_init : MethodName := ⟨RX9, "<init>", "()V"⟩
abbrev cX9_in : ByteArray := prog_11_method_3_code
def yX9_in : MethodName := ⟨RX9, "in", "(III)Z"⟩
abbrev cX9_has : ByteArray := prog_11_method_4_code
def yX9_has : MethodName := ⟨RX9, "has", "(II)Z"⟩
abbrev cX9_ones : ByteArray := prog_11_method_5_code
def yX9_ones : MethodName := ⟨RX9, "ones", "(I)I"⟩
abbrev cX9_lowest : ByteArray := prog_11_method_6_code
def yX9_lowest : MethodName := ⟨RX9, "lowest", "(I)I"⟩
abbrev cX9_type : ByteArray := prog_11_method_7_code
def yX9_type : MethodName := ⟨RX9, "type", "(I)I"⟩
abbrev cX9_clear : ByteArray := prog_11_method_8_code
def yX9_clear : MethodName := ⟨RX9, "clear", "()I"⟩
abbrev cX9_letterAt : ByteArray := prog_11_method_9_code
def yX9_letterAt : MethodName := ⟨RX9, "letterAt", "(I)I"⟩
abbrev cX9_advances : ByteArray := prog_11_method_10_code
def yX9_advances : MethodName := ⟨RX9, "advances", "()V"⟩
abbrev cX9_isWell : ByteArray := prog_11_method_11_code
def yX9_isWell : MethodName := ⟨RX9, "isWell", "()Z"⟩
abbrev cX9_takes : ByteArray := prog_11_method_12_code
def yX9_takes : MethodName := ⟨RX9, "takes", "(Z)I"⟩
abbrev cX9_isNumber : ByteArray := prog_11_method_13_code
def yX9_isNumber : MethodName := ⟨RX9, "isNumber", "(II)Z"⟩
abbrev cX9_begins : ByteArray := prog_11_method_14_code
def yX9_begins : MethodName := ⟨RX9, "begins", "()V"⟩
abbrev cX9_cutOf : ByteArray := prog_11_method_15_code
def yX9_cutOf : MethodName := ⟨RX9, "cutOf", "([III)I"⟩
abbrev cX9_hasRoom : ByteArray := prog_11_method_16_code
def yX9_hasRoom : MethodName := ⟨RX9, "hasRoom", "(II)Z"⟩
abbrev cX9_cuts : ByteArray := prog_11_method_17_code
def yX9_cuts : MethodName := ⟨RX9, "cuts", "(II)V"⟩
abbrev cX9_isFreeAt : ByteArray := prog_11_method_18_code
def yX9_isFreeAt : MethodName := ⟨RX9, "isFreeAt", "(II)Z"⟩
abbrev cX9_readsCorner : ByteArray := prog_11_method_19_code
def yX9_readsCorner : MethodName := ⟨RX9, "readsCorner", "()V"⟩
abbrev cX9_isCorner : ByteArray := prog_11_method_20_code
def yX9_isCorner : MethodName := ⟨RX9, "isCorner", "()Z"⟩
abbrev cX9_readsPart : ByteArray := prog_11_method_21_code
def yX9_readsPart : MethodName := ⟨RX9, "readsPart", "()V"⟩
abbrev cX9_readsSeam : ByteArray := prog_11_method_22_code
def yX9_readsSeam : MethodName := ⟨RX9, "readsSeam", "()V"⟩
abbrev cX9_mayBegin : ByteArray := prog_11_method_23_code
def yX9_mayBegin : MethodName := ⟨RX9, "mayBegin", "()Z"⟩
abbrev cX9_readsItem : ByteArray := prog_11_method_24_code
def yX9_readsItem : MethodName := ⟨RX9, "readsItem", "(I)V"⟩
abbrev cX9_sorts : ByteArray := prog_11_method_25_code
def yX9_sorts : MethodName := ⟨RX9, "sorts", "()V"⟩
abbrev cX9_plate : ByteArray := prog_11_method_26_code
def yX9_plate : MethodName := ⟨RX9, "plate", "()I"⟩
abbrev cX9_settles : ByteArray := prog_11_method_27_code
def yX9_settles : MethodName := ⟨RX9, "settles", "()V"⟩
abbrev cX9_ringAt : ByteArray := prog_11_method_28_code
def yX9_ringAt : MethodName := ⟨RX9, "ringAt", "(II)I"⟩
abbrev cX9_side : ByteArray := prog_11_method_29_code
def yX9_side : MethodName := ⟨RX9, "side", "(III)I"⟩
abbrev cX9_isOn : ByteArray := prog_11_method_30_code
def yX9_isOn : MethodName := ⟨RX9, "isOn", "(III)Z"⟩
abbrev cX9_isWithin : ByteArray := prog_11_method_31_code
def yX9_isWithin : MethodName := ⟨RX9, "isWithin", "(II)Z"⟩
abbrev cX9_isCornerNow : ByteArray := prog_11_method_32_code
def yX9_isCornerNow : MethodName := ⟨RX9, "isCornerNow", "(I)Z"⟩
abbrev cX9_way : ByteArray := prog_11_method_33_code
def yX9_way : MethodName := ⟨RX9, "way", "(II)I"⟩
abbrev cX9_endsAt : ByteArray := prog_11_method_34_code
def yX9_endsAt : MethodName := ⟨RX9, "endsAt", "([III)I"⟩
abbrev cX9_corner : ByteArray := prog_11_method_35_code
def yX9_corner : MethodName := ⟨RX9, "corner", "(II)I"⟩
abbrev cX9_roots : ByteArray := prog_11_method_36_code
def yX9_roots : MethodName := ⟨RX9, "roots", "(I)V"⟩
abbrev cX9_pieces : ByteArray := prog_11_method_37_code
def yX9_pieces : MethodName := ⟨RX9, "pieces", "()V"⟩
abbrev cX9_pieceOf : ByteArray := prog_11_method_38_code
def yX9_pieceOf : MethodName := ⟨RX9, "pieceOf", "(I)I"⟩
abbrev cX9_cutsOf : ByteArray := prog_11_method_39_code
def yX9_cutsOf : MethodName := ⟨RX9, "cutsOf", "(I)I"⟩
abbrev cX9_oddOf : ByteArray := prog_11_method_40_code
def yX9_oddOf : MethodName := ⟨RX9, "oddOf", "(I)I"⟩
abbrev cX9_cut : ByteArray := prog_11_method_41_code
def yX9_cut : MethodName := ⟨RX9, "cut", "(II)I"⟩
abbrev cX9_cutsOfPart : ByteArray := prog_11_method_42_code
def yX9_cutsOfPart : MethodName := ⟨RX9, "cutsOfPart", "(I)I"⟩
abbrev cX9_part : ByteArray := prog_11_method_43_code
def yX9_part : MethodName := ⟨RX9, "part", "(II)I"⟩
abbrev cX9_notes : ByteArray := prog_11_method_44_code
def yX9_notes : MethodName := ⟨RX9, "notes", "()V"⟩
abbrev cX9_wouldFall : ByteArray := prog_11_method_45_code
def yX9_wouldFall : MethodName := ⟨RX9, "wouldFall", "(I)Z"⟩
abbrev cX9_isCool : ByteArray := prog_11_method_46_code
def yX9_isCool : MethodName := ⟨RX9, "isCool", "(II)Z"⟩
abbrev cX9_beginsAt : ByteArray := prog_11_method_47_code
def yX9_beginsAt : MethodName := ⟨RX9, "beginsAt", "(II)I"⟩
abbrev cX9_mayBurn : ByteArray := prog_11_method_48_code
def yX9_mayBurn : MethodName := ⟨RX9, "mayBurn", "(I)Z"⟩
abbrev cX9_burn : ByteArray := prog_11_method_49_code
def yX9_burn : MethodName := ⟨RX9, "burn", "(I)I"⟩
abbrev cX9_move : ByteArray := prog_11_method_50_code
def yX9_move : MethodName := ⟨RX9, "move", "(I)I"⟩
abbrev cX9_burns : ByteArray := prog_11_method_51_code
def yX9_burns : MethodName := ⟨RX9, "burns", "(I)I"⟩
abbrev cX9_moves : ByteArray := prog_11_method_52_code
def yX9_moves : MethodName := ⟨RX9, "moves", "(I)I"⟩
abbrev cX9_follows : ByteArray := prog_11_method_53_code
def yX9_follows : MethodName := ⟨RX9, "follows", "()I"⟩
abbrev cX9_undo : ByteArray := prog_11_method_54_code
def yX9_undo : MethodName := ⟨RX9, "undo", "()I"⟩
abbrev cX9_pairs : ByteArray := prog_11_method_55_code
def yX9_pairs : MethodName := ⟨RX9, "pairs", "(I)V"⟩
abbrev cX9_links : ByteArray := prog_11_method_56_code
def yX9_links : MethodName := ⟨RX9, "links", "(I)I"⟩
abbrev cX9_link : ByteArray := prog_11_method_57_code
def yX9_link : MethodName := ⟨RX9, "link", "(I)I"⟩
abbrev cX9_startOf : ByteArray := prog_11_method_58_code
def yX9_startOf : MethodName := ⟨RX9, "startOf", "(I)I"⟩
abbrev cX9_opens : ByteArray := prog_11_method_59_code
def yX9_opens : MethodName := ⟨RX9, "opens", "(III)V"⟩
abbrev cX9_shuts : ByteArray := prog_11_method_60_code
def yX9_shuts : MethodName := ⟨RX9, "shuts", "(III)V"⟩
abbrev cX9_isOpen : ByteArray := prog_11_method_61_code
def yX9_isOpen : MethodName := ⟨RX9, "isOpen", "(III)Z"⟩
abbrev cX9_isAllFrom : ByteArray := prog_11_method_62_code
def yX9_isAllFrom : MethodName := ⟨RX9, "isAllFrom", "(I)Z"⟩
abbrev cX9_goesOn : ByteArray := prog_11_method_63_code
def yX9_goesOn : MethodName := ⟨RX9, "goesOn", "(III)Z"⟩
abbrev cX9_rounds : ByteArray := prog_11_method_64_code
def yX9_rounds : MethodName := ⟨RX9, "rounds", "(I)I"⟩
abbrev cX9_aheadOf : ByteArray := prog_11_method_65_code
def yX9_aheadOf : MethodName := ⟨RX9, "aheadOf", "(I)I"⟩
abbrev cX9_tours : ByteArray := prog_11_method_66_code
def yX9_tours : MethodName := ⟨RX9, "tours", "()Z"⟩
abbrev cX9_piece : ByteArray := prog_11_method_67_code
def yX9_piece : MethodName := ⟨RX9, "piece", "(II)I"⟩
abbrev cX9_round : ByteArray := prog_11_method_68_code
def yX9_round : MethodName := ⟨RX9, "round", "(III)I"⟩
abbrev cX9_tour : ByteArray := prog_11_method_69_code
def yX9_tour : MethodName := ⟨RX9, "tour", "(I)I"⟩
abbrev cX9_sees : ByteArray := prog_11_method_70_code
def yX9_sees : MethodName := ⟨RX9, "sees", "(III)I"⟩
abbrev cX9_forget : ByteArray := prog_11_method_71_code
def yX9_forget : MethodName := ⟨RX9, "forget", "()I"⟩
abbrev cX9_unseenSet : ByteArray := prog_11_method_72_code
def yX9_unseenSet : MethodName := ⟨RX9, "unseenSet", "()I"⟩
abbrev cX9_unseen : ByteArray := prog_11_method_73_code
def yX9_unseen : MethodName := ⟨RX9, "unseen", "()I"⟩
abbrev cX9_ask : ByteArray := prog_11_method_74_code
def yX9_ask : MethodName := ⟨RX9, "ask", "()I"⟩
abbrev cX9_keep : ByteArray := prog_11_method_75_code
def yX9_keep : MethodName := ⟨RX9, "keep", "(I)I"⟩
abbrev cX9_back : ByteArray := prog_11_method_76_code
def yX9_back : MethodName := ⟨RX9, "back", "(I)I"⟩
abbrev cX9_count : ByteArray := prog_11_method_77_code
def yX9_count : MethodName := ⟨RX9, "count", "(I)I"⟩
def RJ6 : String := "java/lang/Integer"
def TJ6 : u_T := fun k => match k with
  | _ => ("", "", "", false)
def tyJ6 : Nat → FieldType := fun k => match k with
  | _ => .int
abbrev wsJ60 : List Cond := u_ws RJ6 TJ6 0
theorem nmJ6 : ∀ a, a < 0 → ∀ b, b < 0 → a ≠ b → (TJ6 a).2.1 ≠ (TJ6 b).2.1 := by decide +kernel
theorem tyJ6_ok : ∀ k, k < 0 → parseFieldDescriptor (TJ6 k).2.2.1 = some (tyJ6 k) := by decide +kernel
abbrev cJ6_numberOfTrailingZeros_0f7a4 : ByteArray := prog_12_method_48_code
def yJ6_numberOfTrailingZeros_0f7a4 : MethodName := ⟨RJ6, "numberOfTrailingZeros", "(I)I"⟩
abbrev cJ6_bitCount_0f7a4 : ByteArray := prog_12_method_49_code
def yJ6_bitCount_0f7a4 : MethodName := ⟨RJ6, "bitCount", "(I)I"⟩
def RJ9 : String := "java/lang/Math"
def TJ9 : u_T := fun k => match k with
  | _ => ("", "", "", false)
def tyJ9 : Nat → FieldType := fun k => match k with
  | _ => .int
abbrev wsJ90 : List Cond := u_ws RJ9 TJ9 0
theorem nmJ9 : ∀ a, a < 0 → ∀ b, b < 0 → a ≠ b → (TJ9 a).2.1 ≠ (TJ9 b).2.1 := by decide +kernel
theorem tyJ9_ok : ∀ k, k < 0 → parseFieldDescriptor (TJ9 k).2.2.1 = some (tyJ9 k) := by decide +kernel
abbrev cJ9_abs_0f7a4 : ByteArray := prog_13_method_59_code
def yJ9_abs_0f7a4 : MethodName := ⟨RJ9, "abs", "(I)I"⟩
abbrev cJ9_max_7cf53 : ByteArray := prog_13_method_65_code
def yJ9_max_7cf53 : MethodName := ⟨RJ9, "max", "(II)I"⟩
abbrev cJ9_min_7cf53 : ByteArray := prog_13_method_69_code
def yJ9_min_7cf53 : MethodName := ⟨RJ9, "min", "(II)I"⟩
def RJ10 : String := "java/lang/System"
def TJ10 : u_T := fun k => match k with
  | _ => ("", "", "", false)
def tyJ10 : Nat → FieldType := fun k => match k with
  | _ => .int
abbrev wsJ100 : List Cond := u_ws RJ10 TJ10 0
theorem nmJ10 : ∀ a, a < 0 → ∀ b, b < 0 → a ≠ b → (TJ10 a).2.1 ≠ (TJ10 b).2.1 := by decide +kernel
theorem tyJ10_ok : ∀ k, k < 0 → parseFieldDescriptor (TJ10 k).2.2.1 = some (tyJ10 k) := by decide +kernel
def RJ7 : String := "java/util/Arrays"
def TJ7 : u_T := fun k => match k with
  | _ => ("", "", "", false)
def tyJ7 : Nat → FieldType := fun k => match k with
  | _ => .int
abbrev wsJ70 : List Cond := u_ws RJ7 TJ7 0
theorem nmJ7 : ∀ a, a < 0 → ∀ b, b < 0 → a ≠ b → (TJ7 a).2.1 ≠ (TJ7 b).2.1 := by decide +kernel
theorem tyJ7_ok : ∀ k, k < 0 → parseFieldDescriptor (TJ7 k).2.2.1 = some (tyJ7 k) := by decide +kernel
abbrev cJ7_fill_53178 : ByteArray := prog_15_method_103_code
def yJ7_fill_53178 : MethodName := ⟨RJ7, "fill", "([II)V"⟩
def RL : String := "TorchPlateLaw"
abbrev cL_law : ByteArray := code
def yL_law : MethodName := ⟨RL, "law", "([I)Z"⟩
def wsL_law : List Cond := lw_tbl.filter goodWord
theorem wsL_law_in : ∀ w ∈ wsL_law, w ∈ lw_tbl := fun w h => (List.mem_filter.mp h).1
theorem z_good : GoodIn wsL_law wsL_law := fun w h => ⟨h, good_of_word (List.mem_filter.mp h).2⟩
theorem z_in0 {w : Cond} (h : w ∈ tables_1) (g : goodWord w = true) : w ∈ wsL_law := List.mem_filter.mpr ⟨List.mem_append_right _ h, g⟩
theorem z_inS {w : Cond} (h : w ∈ k2_sels lw_privs) (g : goodWord w = true) : w ∈ wsL_law := List.mem_filter.mpr ⟨List.mem_append_left _ h, g⟩
theorem z_in1 {w : Cond} (h : w ∈ tables_1_1) (g : goodWord w = true) : w ∈ wsL_law := z_in0 (List.mem_append_left _ h) g
theorem z_in2 {w : Cond} (h : w ∈ tables_1_2) (g : goodWord w = true) : w ∈ wsL_law := z_in0 (List.mem_append_right _ (List.mem_append_left _ h)) g
theorem z_in3 {w : Cond} (h : w ∈ tables_1_3) (g : goodWord w = true) : w ∈ wsL_law := z_in0 (List.mem_append_right _ (List.mem_append_right _ (List.mem_append_left _ h))) g
theorem z_in4 {w : Cond} (h : w ∈ tables_1_4) (g : goodWord w = true) : w ∈ wsL_law := z_in0 (List.mem_append_right _ (List.mem_append_right _ (List.mem_append_right _ (List.mem_append_left _ h)))) g
theorem z_in5 {w : Cond} (h : w ∈ tables_1_5) (g : goodWord w = true) : w ∈ wsL_law := z_in0 (List.mem_append_right _ (List.mem_append_right _ (List.mem_append_right _ (List.mem_append_right _ (List.mem_append_left _ h))))) g
theorem z_in6 {w : Cond} (h : w ∈ tables_1_6) (g : goodWord w = true) : w ∈ wsL_law := z_in0 (List.mem_append_right _ (List.mem_append_right _ (List.mem_append_right _ (List.mem_append_right _ (List.mem_append_right _ (h)))))) g
abbrev vwCl : List vw_C := [(RX0, TX0, 3), (RX1, TX1, 14), (RX2, TX2, 5), (RX3, TX3, 9), (RX4, TX4, 12), (RX5, TX5, 5), (RX6, TX6, 2), (RX7, TX7, 6), (RX8, TX8, 12), (RX9, TX9, 34)]
end
section
/-! ===== the small machine: cells by places, their ints and their references apart ===== -/
abbrev zHP : Type := List (Nat × Nat) × (Nat → Nat → Int32) × (Nat → Nat → Option Nat)
/-- the world's names: slots and classes, the script's address, the first own address, array classes, the script -/
abbrev zV : Type := va_G × Nat × Nat × (ClassId × ClassId × ClassId × ClassId) × Nat × (Nat → Int32)
abbrev zM : Type := MethodName × ByteArray × Nat × Option FieldType
def z_ad (V : zV) : Nat → Nat
  | 0 => V.2.1
  | k + 1 => V.2.2.1 + k
def z_rl (V : zV) : Value → Value
  | .ref k => .ref (z_ad V k)
  | v => v
def z_tyR : FieldType → Bool
  | .object _ => true
  | .array _ => true
  | _ => false
def z_ty (ci : Nat) : Nat → FieldType := match ci with
  | 0 => tyX0
  | 1 => tyX1
  | 2 => tyX2
  | 3 => tyX3
  | 4 => tyX4
  | 5 => tyX5
  | 6 => tyX6
  | 7 => tyX7
  | 8 => tyX8
  | _ => tyX9
def z_val (V : zV) (h : zHP) (ci k j : Nat) : Value := if z_tyR (z_ty ci j) = true then va_rf ((h.2.2 k j).map (z_ad V)) else .int (h.2.1 k j)
def z_cell (V : zV) (h : zHP) (k : Nat) (t : Nat × Nat) : va_E :=
  if t.1 = 100 then .inl (V.2.2.2.1.1, t.2, .inl (h.2.1 k))
  else if t.1 = 101 then .inl (V.2.2.2.1.2.1, t.2, .inl (h.2.1 k))
  else if t.1 = 102 then .inl (V.2.2.2.1.2.2.1, t.2, .inr (.inr (.inr (.inr (fun j => (h.2.2 k j).map (z_ad V))))))
  else if t.1 = 103 then .inl (V.2.2.2.1.2.2.2, t.2, .inr (.inr (.inr (.inr (fun j => (h.2.2 k j).map (z_ad V))))))
  else .inr (t.1, (List.range t.2).map (z_val V h t.1 k))
def z_ws (V : zV) (h : zHP) : va_W := (List.range (h.1.length - 1)).map (fun q => (z_ad V (q + 1), z_cell V h (q + 1) (h.1.getD (q + 1) (0, 0))))
def z_ui (f : Nat → Nat → Int32) (k : Nat) (g : Nat → Int32) : Nat → Nat → Int32 := fun q => if q = k then g else f q
def z_ur (f : Nat → Nat → Option Nat) (k : Nat) (g : Nat → Option Nat) : Nat → Nat → Option Nat := fun q => if q = k then g else f q
theorem z_cell_kept {V : zV} {h h' : zHP} {k : Nat} {t : Nat × Nat} (h1 : h'.2.1 k = h.2.1 k) (h2 : h'.2.2 k = h.2.2 k) : z_cell V h' k t = z_cell V h k t := by
  unfold z_cell z_val
  rw [h1, h2]
theorem z_get {V : zV} {h : zHP} {k : Nat} {t : Nat × Nat} (hk : h.1[k + 1]? = some t) : (z_ws V h)[k]? = some (z_ad V (k + 1), z_cell V h (k + 1) t) := by
  have hl : k + 1 < h.1.length := (List.getElem?_eq_some_iff.mp hk).1
  unfold z_ws
  rw [List.getElem?_map, List.getElem?_range (by omega)]
  simp [List.getD, hk]
theorem z_len (V : zV) (h : zHP) : (z_ws V h).length = h.1.length - 1 := by simp [z_ws]
theorem z_at_of {V : zV} {h : zHP} {k : Nat} {q : Nat × va_E} (hk : (z_ws V h)[k]? = some q) : ∃ t, h.1[k + 1]? = some t ∧ q = (z_ad V (k + 1), z_cell V h (k + 1) t) := by
  have hl : k < (z_ws V h).length := (List.getElem?_eq_some_iff.mp hk).1
  rw [z_len] at hl
  have hg : h.1[k + 1]? = some (h.1[k + 1]'(by omega)) := List.getElem?_eq_getElem (by omega)
  refine ⟨_, hg, ?_⟩
  have := z_get (V := V) hg
  rw [hk] at this
  exact Option.some.inj this
theorem z_set_gen {V : zV} {h h' : zHP} {k : Nat} {t : Nat × Nat} (hk : h.1[k + 1]? = some t) (h0 : h'.1 = h.1) (h1 : ∀ q, q ≠ k + 1 → h'.2.1 q = h.2.1 q) (h2 : ∀ q, q ≠ k + 1 → h'.2.2 q = h.2.2 q) : z_ws V h' = (z_ws V h).set k (z_ad V (k + 1), z_cell V h' (k + 1) t) := by
  apply List.ext_getElem?
  intro i
  by_cases hi : i < h.1.length - 1
  · have hg : h.1[i + 1]? = some (h.1[i + 1]'(by omega)) := List.getElem?_eq_getElem (by omega)
    rw [z_get (V := V) (h := h') (t := h.1[i + 1]'(by omega)) (by rw [h0]; exact hg)]
    by_cases e : i = k
    · subst e
      rw [List.getElem?_set_self (by rw [z_len]; exact hi)]
      rw [hg] at hk
      rw [Option.some.inj hk]
    · rw [List.getElem?_set_ne (Ne.symm e), z_get hg]
      rw [z_cell_kept (h1 _ (by omega)) (h2 _ (by omega))]
  · rw [List.getElem?_eq_none (by rw [z_len, h0]; omega), List.getElem?_eq_none (by rw [List.length_set, z_len]; omega)]
theorem z_push {V : zV} {h h' : zHP} {t : Nat × Nat} (hl : 1 ≤ h.1.length) (h0 : h'.1 = h.1 ++ [t]) (h1 : ∀ q, q < h.1.length → h'.2.1 q = h.2.1 q) (h2 : ∀ q, q < h.1.length → h'.2.2 q = h.2.2 q) : z_ws V h' = z_ws V h ++ [(z_ad V h.1.length, z_cell V h' h.1.length t)] := by
  obtain ⟨n, hn⟩ : ∃ n, h.1.length = n + 1 := ⟨h.1.length - 1, by omega⟩
  apply List.ext_getElem?
  intro i
  by_cases hi : i < h.1.length - 1
  · have hg : h.1[i + 1]? = some (h.1[i + 1]'(by omega)) := List.getElem?_eq_getElem (by omega)
    rw [List.getElem?_append_left (by rw [z_len]; exact hi), z_get hg, z_get (V := V) (h := h') (t := h.1[i + 1]'(by omega)) (by rw [h0, List.getElem?_append_left (by omega)]; exact hg)]
    rw [z_cell_kept (h1 _ (by omega)) (h2 _ (by omega))]
  · by_cases e : i = n
    · subst e
      rw [List.getElem?_append_right (by rw [z_len]; omega), z_len, z_get (V := V) (h := h') (t := t) (by rw [h0, List.getElem?_append_right (by omega)]; simp [hn])]
      simp [hn]
    · rw [List.getElem?_eq_none (by rw [z_len, h0]; simp; omega), List.getElem?_eq_none (by simp [z_len]; omega)]
theorem z_D (V : zV) (h : zHP) : va_D (fun q => V.2.2.1 ≤ q) (z_ws V h) := by
  refine ⟨fun i j p q hi hj e => ?_, fun k q hk => ?_⟩
  · obtain ⟨t, -, rfl⟩ := z_at_of hi
    obtain ⟨u, -, rfl⟩ := z_at_of hj
    have : V.2.2.1 + i = V.2.2.1 + j := e
    omega
  · obtain ⟨t, -, rfl⟩ := z_at_of hk
    exact Nat.le_add_right _ _
/-- the heap holds the world -/
def z_W (V : zV) (h : zHP) (H : Heap) : Prop := va_P V.1 vwCl (z_ws V h) H ∧ H.size + 1 = V.2.2.1 + h.1.length ∧ 1 ≤ h.1.length ∧ h.1[0]? = some (100, V.2.2.2.2.1) ∧ h.2.1 0 = V.2.2.2.2.2
def z_tys (V : zV) : List (ClassId × FieldType) := [(V.2.2.2.1.1, .int), (V.2.2.2.1.2.1, .boolean), (V.2.2.2.1.2.2.1, .array .int), (V.2.2.2.1.2.2.2, .object "TorchPlate$Plight")]
def z_L (V : zV) (LS : Array Slot) (ls : List Value) : Prop := LS.size = ls.length ∧ lv_wf LS ∧ ∀ (i : Nat) (v : Value), ls[i]? = some v → v ≠ .null → LS[i]? = some (.val (z_rl V v))
def z_nest : List Cond := [.methodLinkNest RX8 19 yX1_init RX8, .methodLinkNest RX8 29 yX3_init RX8, .methodLinkNest RX8 36 yX2_init RX8, .methodLinkNest RX0 24 yX2_init RX8, .methodLinkNest RX8 57 yX4_init RX8, .methodLinkNest RX4 49 yX6_init RX8, .methodLinkNest RX8 64 yX5_init RX8, .methodLinkNest RX5 27 yX6_init RX8, .methodLinkNest RX8 71 yX7_init RX8, .methodLinkNest RX7 30 yX6_init RX8, .methodLinkNest RX1 73 yX8_has RX8, .methodLinkNest RX6 29 yX8_has RX8, .methodLinkNest RX4 95 yX8_has RX8, .methodLinkNest RX2 81 yX8_has RX8, .methodLinkNest RX5 68 yX8_has RX8, .methodLinkNest RX7 40 yX8_has RX8]
def z_N (s : State) : Prop := ∀ w ∈ z_nest, va_Nw w s
def z_C (V : zV) (M : zM) (d : Nat) (p : Program) (l : Launch) (e : Env) (R : Room) (s : State) (m : MethodId) (args : Array Value) (below : List Frame) (meth : Method) (c : Code) : Prop :=
  p.tables.exec = Jvm.exec ∧ c.code = M.2.1 ∧ meth.sig.returnType = M.2.2.2 ∧ c.maxLocals = M.2.2.1 ∧ s.vm.findClass M.1.cls = some m.cls ∧ meth.locks = false ∧ (∀ w ∈ wsL_law, w.before args s = true) ∧ z_N s ∧ va_K V.1 vwCl (z_tys V) s ∧ d ≤ R.frames ∧ 100 * d ≤ R.locals ∧ va_X V.2.1 V.2.2.2.2.1 V.2.2.2.2.2 s s.heap ∧ V.2.1 < V.2.2.1 ∧ V.2.2.1 ≤ s.heap.size ∧ meth.name = M.1.name
def z_R (M : zM) (v : Option Value) (i : Instr) : Prop := match v with
  | none => i = .return_ ∧ M.2.2.2 = none
  | some (.int x) => i = .ireturn ∧ ∃ ty, M.2.2.2 = some ty ∧ narrow ty (.int x) = .int x
  | some (.ref _) => i = .areturn ∧ ∃ rt, M.2.2.2 = some rt ∧ ((∃ n, rt = .object n) ∨ ∃ t, rt = .array t)
  | _ => False
/-- the judgement: from this frame, with this world, the method comes to a return with Φ -/
def z_G (V : zV) (M : zM) (d bc bs pc : Nat) (ls st : List Value) (h : zHP) (Φ : Option Value → zHP → Prop) : Prop :=
  ∀ (p : Program) (l : Launch) (e : Env) (R : Room) (s : State) (m : MethodId) (args : Array Value) (below : List Frame) (meth : Method) (c : Code) (H : Heap) (locs : List Loc) (cells slots : Nat) (LS : Array Slot) (QQ : State → Prop),
    z_C V M d p l e R s m args below meth c → z_W V h H → va_S (fun q => V.2.2.1 ≤ q) s.heap H locs → z_L V LS ls → M.2.2.1 = ls.length → cells + bc ≤ R.cells → slots + bs ≤ R.slots →
    (∀ (v : Option Value) (h' : zHP) (H' : Heap) (locs' : List Loc) (pc' : Nat) (LS' : Array Slot) (i : Instr), Φ v h' → z_W V h' H' → va_S (fun q => V.2.2.1 ≤ q) s.heap H' locs' → z_R M v i → decode M.2.1 pc' = .ok (i, 1) → W p l e R s m args below meth c H' locs' (cells + bc) (slots + bs) QQ (F0 m pc' LS' (v.toList.map (z_rl V)))) →
    W p l e R s m args below meth c H locs cells slots QQ (F0 m pc LS (st.map (z_rl V)))
theorem z_G.mono {V : zV} {M : zM} {d bc bs pc : Nat} {ls st : List Value} {h : zHP} {Φ Ψ : Option Value → zHP → Prop} (k : z_G V M d bc bs pc ls st h Φ) (hm : ∀ v h', Φ v h' → Ψ v h') : z_G V M d bc bs pc ls st h Ψ :=
  fun p l e R s m args below meth c H locs cells slots LS QQ C hw hS hL hn hc hs ret => k p l e R s m args below meth c H locs cells slots LS QQ C hw hS hL hn hc hs (fun v h' H' locs' pc' LS' i f => ret v h' H' locs' pc' LS' i (hm v h' f))
section ZG
variable {V : zV} {M : zM} {d bc bs pc : Nat} {ls st : List Value} {h : zHP} {Φ : Option Value → zHP → Prop}
/-- an instruction of the stack alone -/
theorem zg_go {pc' : Nat} {st st' : List Value} (hstep : ∀ (p : Program) (l : Launch) (e : Env) (R : Room) (s : State) (m : MethodId) (args : Array Value) (below : List Frame) (meth : Method) (c : Code) (H : Heap) (locs : List Loc) (cells slots : Nat) (LS : Array Slot) (QQ : State → Prop), z_C V M d p l e R s m args below meth c → z_L V LS ls → W p l e R s m args below meth c H locs cells slots QQ (F0 m pc' LS (st'.map (z_rl V))) → W p l e R s m args below meth c H locs cells slots QQ (F0 m pc LS (st.map (z_rl V))))
    (k : z_G V M d bc bs pc' ls st' h Φ) : z_G V M d bc bs pc ls st h Φ :=
  fun p l e R s m args below meth c H locs cells slots LS QQ C hw hS hL hn hc hs ret => hstep p l e R s m args below meth c H locs cells slots LS QQ C hL (k p l e R s m args below meth c H locs cells slots LS QQ C hw hS hL hn hc hs ret)
def z_at : List Value → Nat → Option Value
  | [], _ => none
  | v :: _, 0 => some v
  | _ :: l, n + 1 => z_at l n
def z_st : List Value → Nat → Value → List Value
  | [], _, _ => []
  | _ :: l, 0, x => x :: l
  | v :: l, n + 1, x => v :: z_st l n x
theorem z_at_eq : ∀ (l : List Value) (i : Nat), z_at l i = l[i]?
  | [], _ => rfl
  | _ :: _, 0 => rfl
  | _ :: l, n + 1 => by rw [List.getElem?_cons_succ]; exact z_at_eq l n
theorem z_st_eq : ∀ (l : List Value) (i : Nat) (x : Value), z_st l i x = l.set i x
  | [], _, _ => rfl
  | _ :: _, 0, _ => rfl
  | v :: l, n + 1, x => by rw [List.set_cons_succ, ← z_st_eq l n x]; rfl
theorem zg_iconst {n : Int} (v : Int32) (hd : decode M.2.1 pc = .ok (.iconst n, 1)) (hv : Int32.ofInt n = v) (k : z_G V M d bc bs (pc + 1) ls (.int v :: st) h Φ) : z_G V M d bc bs pc ls st h Φ :=
  zg_go (fun _ _ _ _ _ _ _ _ _ _ _ _ _ _ _ _ C _ w => lv_iconst C.1 C.2.1 hd hv w) k
theorem zg_bipush {n : Int} (v : Int32) (hd : decode M.2.1 pc = .ok (.bipush n, 2)) (hv : (Int8.ofInt n).toInt32 = v) (k : z_G V M d bc bs (pc + 2) ls (.int v :: st) h Φ) : z_G V M d bc bs pc ls st h Φ :=
  zg_go (fun _ _ _ _ _ _ _ _ _ _ _ _ _ _ _ _ C _ w => lv_bipush C.1 C.2.1 hd hv w) k
theorem zg_sipush {n : Int} (v : Int32) (hd : decode M.2.1 pc = .ok (.sipush n, 3)) (hv : (Int16.ofInt n).toInt32 = v) (k : z_G V M d bc bs (pc + 3) ls (.int v :: st) h Φ) : z_G V M d bc bs pc ls st h Φ :=
  zg_go (fun _ _ _ _ _ _ _ _ _ _ _ _ _ _ _ _ C _ w => lv_sipush C.1 C.2.1 hd hv w) k
theorem zg_ldc {i : Nat} (v : Int32) (hd : decode M.2.1 pc = .ok (.ldc i, 2)) (hw : Cond.constant M.1.cls i v ∈ wsL_law) (k : z_G V M d bc bs (pc + 2) ls (.int v :: st) h Φ) : z_G V M d bc bs pc ls st h Φ :=
  zg_go (fun _ _ _ _ _ _ _ _ _ _ _ _ _ _ _ _ C _ w => lv_ldc C.1 C.2.1 C.2.2.2.2.1 (C.2.2.2.2.2.2.1 _ hw) hd w) k
theorem zg_ldcw {i : Nat} (v : Int32) (hd : decode M.2.1 pc = .ok (.ldc_w i, 3)) (hw : Cond.constant M.1.cls i v ∈ wsL_law) (k : z_G V M d bc bs (pc + 3) ls (.int v :: st) h Φ) : z_G V M d bc bs pc ls st h Φ :=
  zg_go (fun _ _ _ _ _ _ _ _ _ _ _ _ _ _ _ _ C _ w => lv_ldcw C.1 C.2.1 C.2.2.2.2.1 (C.2.2.2.2.2.2.1 _ hw) hd w) k
theorem z_L.at {LS : Array Slot} {i : Nat} {v : Value} (hL : z_L V LS ls) (hv : z_at ls i = some v) (hn : v ≠ .null) : LS[i]? = some (.val (z_rl V v)) := hL.2.2 i v (by rw [← z_at_eq]; exact hv) hn
theorem zg_iload {i : Nat} {x : Int32} (hd : decode M.2.1 pc = .ok (.iload i, 2)) (hv : z_at ls i = some (.int x)) (k : z_G V M d bc bs (pc + 2) ls (.int x :: st) h Φ) : z_G V M d bc bs pc ls st h Φ :=
  zg_go (fun _ _ _ _ _ _ _ _ _ _ _ _ _ _ _ _ C hL w => lv_iload C.1 C.2.1 hd (hL.at hv (fun q => by cases q)) w) k
theorem zg_iload_n {i : Fin 4} {x : Int32} (hd : decode M.2.1 pc = .ok (.iload_n i, 1)) (hv : z_at ls i = some (.int x)) (k : z_G V M d bc bs (pc + 1) ls (.int x :: st) h Φ) : z_G V M d bc bs pc ls st h Φ :=
  zg_go (fun _ _ _ _ _ _ _ _ _ _ _ _ _ _ _ _ C hL w => lv_iload_n C.1 C.2.1 hd rfl (hL.at hv (fun q => by cases q)) w) k
theorem zg_aload {i : Nat} {x : Nat} (hd : decode M.2.1 pc = .ok (.aload i, 2)) (hv : z_at ls i = some (.ref x)) (k : z_G V M d bc bs (pc + 2) ls (.ref x :: st) h Φ) : z_G V M d bc bs pc ls st h Φ :=
  zg_go (fun _ _ _ _ _ _ _ _ _ _ _ _ _ _ _ _ C hL w => lv_aload C.1 C.2.1 hd (hL.at hv (fun q => by cases q)) w) k
theorem zg_aload_n {i : Fin 4} {x : Nat} (hd : decode M.2.1 pc = .ok (.aload_n i, 1)) (hv : z_at ls i = some (.ref x)) (k : z_G V M d bc bs (pc + 1) ls (.ref x :: st) h Φ) : z_G V M d bc bs pc ls st h Φ :=
  zg_go (fun _ _ _ _ _ _ _ _ _ _ _ _ _ _ _ _ C hL w => lv_aload_n C.1 C.2.1 hd rfl (hL.at hv (fun q => by cases q)) w) k
theorem zg_iadd {x y : Int32} (hd : decode M.2.1 pc = .ok (.iadd, 1)) (k : z_G V M d bc bs (pc + 1) ls (.int (x + y) :: st) h Φ) : z_G V M d bc bs pc ls (.int y :: .int x :: st) h Φ :=
  zg_go (fun _ _ _ _ _ _ _ _ _ _ _ _ _ _ _ _ C _ w => lv_iadd C.1 C.2.1 hd w) k
theorem zg_isub {x y : Int32} (hd : decode M.2.1 pc = .ok (.isub, 1)) (k : z_G V M d bc bs (pc + 1) ls (.int (x - y) :: st) h Φ) : z_G V M d bc bs pc ls (.int y :: .int x :: st) h Φ :=
  zg_go (fun _ _ _ _ _ _ _ _ _ _ _ _ _ _ _ _ C _ w => lv_isub C.1 C.2.1 hd w) k
theorem zg_imul {x y : Int32} (hd : decode M.2.1 pc = .ok (.imul, 1)) (k : z_G V M d bc bs (pc + 1) ls (.int (x * y) :: st) h Φ) : z_G V M d bc bs pc ls (.int y :: .int x :: st) h Φ :=
  zg_go (fun _ _ _ _ _ _ _ _ _ _ _ _ _ _ _ _ C _ w => lv_imul C.1 C.2.1 hd w) k
theorem zg_iand {x y : Int32} (hd : decode M.2.1 pc = .ok (.iand, 1)) (k : z_G V M d bc bs (pc + 1) ls (.int (x &&& y) :: st) h Φ) : z_G V M d bc bs pc ls (.int y :: .int x :: st) h Φ :=
  zg_go (fun _ _ _ _ _ _ _ _ _ _ _ _ _ _ _ _ C _ w => lv_iand C.1 C.2.1 hd w) k
theorem zg_ior {x y : Int32} (hd : decode M.2.1 pc = .ok (.ior, 1)) (k : z_G V M d bc bs (pc + 1) ls (.int (x ||| y) :: st) h Φ) : z_G V M d bc bs pc ls (.int y :: .int x :: st) h Φ :=
  zg_go (fun _ _ _ _ _ _ _ _ _ _ _ _ _ _ _ _ C _ w => lv_ior C.1 C.2.1 hd w) k
theorem zg_ixor {x y : Int32} (hd : decode M.2.1 pc = .ok (.ixor, 1)) (k : z_G V M d bc bs (pc + 1) ls (.int (x ^^^ y) :: st) h Φ) : z_G V M d bc bs pc ls (.int y :: .int x :: st) h Φ :=
  zg_go (fun _ _ _ _ _ _ _ _ _ _ _ _ _ _ _ _ C _ w => lv_ixor C.1 C.2.1 hd w) k
theorem zg_ishl {x y : Int32} (hd : decode M.2.1 pc = .ok (.ishl, 1)) (k : z_G V M d bc bs (pc + 1) ls (.int (x <<< (y &&& 31)) :: st) h Φ) : z_G V M d bc bs pc ls (.int y :: .int x :: st) h Φ :=
  zg_go (fun _ _ _ _ _ _ _ _ _ _ _ _ _ _ _ _ C _ w => lv_ishl C.1 C.2.1 hd w) k
theorem zg_ishr {x y : Int32} (hd : decode M.2.1 pc = .ok (.ishr, 1)) (k : z_G V M d bc bs (pc + 1) ls (.int (x >>> (y &&& 31)) :: st) h Φ) : z_G V M d bc bs pc ls (.int y :: .int x :: st) h Φ :=
  zg_go (fun _ _ _ _ _ _ _ _ _ _ _ _ _ _ _ _ C _ w => lv_ishr C.1 C.2.1 hd w) k
theorem zg_idiv {x y : Int32} (hd : decode M.2.1 pc = .ok (.idiv, 1)) (hne : ¬ y = 0) (k : z_G V M d bc bs (pc + 1) ls (.int (x / y) :: st) h Φ) : z_G V M d bc bs pc ls (.int y :: .int x :: st) h Φ :=
  zg_go (fun _ _ _ _ _ _ _ _ _ _ _ _ _ _ _ _ C _ w => lv_idiv C.1 C.2.1 hd hne w) k
theorem zg_irem {x y : Int32} (hd : decode M.2.1 pc = .ok (.irem, 1)) (hne : ¬ y = 0) (k : z_G V M d bc bs (pc + 1) ls (.int (x - x / y * y) :: st) h Φ) : z_G V M d bc bs pc ls (.int y :: .int x :: st) h Φ :=
  zg_go (fun _ _ _ _ _ _ _ _ _ _ _ _ _ _ _ _ C _ w => lv_irem C.1 C.2.1 hd hne w) k
theorem zg_ineg {x : Int32} (hd : decode M.2.1 pc = .ok (.ineg, 1)) (k : z_G V M d bc bs (pc + 1) ls (.int (-x) :: st) h Φ) : z_G V M d bc bs pc ls (.int x :: st) h Φ :=
  zg_go (fun _ _ _ _ _ _ _ _ _ _ _ _ _ _ _ _ C _ w => lv_ineg C.1 C.2.1 hd w) k
theorem zg_iushr {x y : Int32} (hd : decode M.2.1 pc = .ok (.iushr, 1)) (k : z_G V M d bc bs (pc + 1) ls (.int ((x.toUInt32 >>> (y.toUInt32 &&& Int32.toUInt32 31)).toInt32) :: st) h Φ) : z_G V M d bc bs pc ls (.int y :: .int x :: st) h Φ :=
  zg_go (fun _ _ _ _ _ _ _ _ _ _ _ _ _ _ _ _ C _ w => lv_iushr C.1 C.2.1 hd rfl w) k
theorem zg_dupi {x : Int32} (hd : decode M.2.1 pc = .ok (.dup, 1)) (k : z_G V M d bc bs (pc + 1) ls (.int x :: .int x :: st) h Φ) : z_G V M d bc bs pc ls (.int x :: st) h Φ :=
  zg_go (fun _ _ _ _ _ _ _ _ _ _ _ _ _ _ _ _ C _ w => lv_dup C.1 C.2.1 hd rfl w) k
theorem zg_dupr {x : Nat} (hd : decode M.2.1 pc = .ok (.dup, 1)) (k : z_G V M d bc bs (pc + 1) ls (.ref x :: .ref x :: st) h Φ) : z_G V M d bc bs pc ls (.ref x :: st) h Φ :=
  zg_go (fun _ _ _ _ _ _ _ _ _ _ _ _ _ _ _ _ C _ w => lv_dup C.1 C.2.1 hd rfl w) k
theorem zg_dup2 {x : Nat} {y : Int32} (hd : decode M.2.1 pc = .ok (.dup2, 1)) (k : z_G V M d bc bs (pc + 1) ls (.int y :: .ref x :: .int y :: .ref x :: st) h Φ) : z_G V M d bc bs pc ls (.int y :: .ref x :: st) h Φ :=
  zg_go (fun _ _ _ _ _ _ _ _ _ _ _ _ _ _ _ _ C _ w => lv_dup2_11 C.1 C.2.1 hd rfl rfl w) k
theorem zg_popi {x : Int32} (hd : decode M.2.1 pc = .ok (.pop, 1)) (k : z_G V M d bc bs (pc + 1) ls st h Φ) : z_G V M d bc bs pc ls (.int x :: st) h Φ :=
  zg_go (fun _ _ _ _ _ _ _ _ _ _ _ _ _ _ _ _ C _ w => lv_pop C.1 C.2.1 hd rfl w) k
theorem zg_goto {off : Int} (tgt : Nat) (hd : decode M.2.1 pc = .ok (.goto off, 3)) (ht : (pc : Int) + off = (tgt : Int)) (k : z_G V M d bc bs tgt ls st h Φ) : z_G V M d bc bs pc ls st h Φ :=
  zg_go (fun _ _ _ _ _ _ _ _ _ _ _ _ _ _ _ _ C _ w => lv_goto C.1 C.2.1 hd ht w) k
/-- a branch -/
theorem zg_br {P : Prop} {pc1 pc2 : Nat} {st' : List Value} (hstep : ∀ (p : Program) (l : Launch) (e : Env) (R : Room) (s : State) (m : MethodId) (args : Array Value) (below : List Frame) (meth : Method) (c : Code) (H : Heap) (locs : List Loc) (cells slots : Nat) (LS : Array Slot) (QQ : State → Prop), z_C V M d p l e R s m args below meth c → (P → W p l e R s m args below meth c H locs cells slots QQ (F0 m pc1 LS (st'.map (z_rl V)))) → (¬ P → W p l e R s m args below meth c H locs cells slots QQ (F0 m pc2 LS (st'.map (z_rl V)))) → W p l e R s m args below meth c H locs cells slots QQ (F0 m pc LS (st.map (z_rl V))))
    (kt : P → z_G V M d bc bs pc1 ls st' h Φ) (kf : ¬ P → z_G V M d bc bs pc2 ls st' h Φ) : z_G V M d bc bs pc ls st h Φ :=
  fun p l e R s m args below meth c H locs cells slots LS QQ C hw hS hL hn hc hs ret => hstep p l e R s m args below meth c H locs cells slots LS QQ C (fun q => kt q p l e R s m args below meth c H locs cells slots LS QQ C hw hS hL hn hc hs ret) (fun q => kf q p l e R s m args below meth c H locs cells slots LS QQ C hw hS hL hn hc hs ret)
theorem zg_if_eq {x : Int32} {off : Int} (tgt : Nat) (hd : decode M.2.1 pc = .ok (.ifCond .eq off, 3)) (ht : (pc : Int) + off = (tgt : Int)) (kt : x = 0 → z_G V M d bc bs tgt ls st h Φ) (kf : ¬ (x = 0) → z_G V M d bc bs (pc + 3) ls st h Φ) : z_G V M d bc bs pc ls (.int x :: st) h Φ :=
  zg_br (fun _ _ _ _ _ _ _ _ _ _ _ _ _ _ _ _ C a b => lv_if_eq C.1 C.2.1 hd ht a b) kt kf
theorem zg_icmp_eq {x y : Int32} {off : Int} (tgt : Nat) (hd : decode M.2.1 pc = .ok (.if_icmp .eq off, 3)) (ht : (pc : Int) + off = (tgt : Int)) (kt : x = y → z_G V M d bc bs tgt ls st h Φ) (kf : ¬ (x = y) → z_G V M d bc bs (pc + 3) ls st h Φ) : z_G V M d bc bs pc ls (.int y :: .int x :: st) h Φ :=
  zg_br (fun _ _ _ _ _ _ _ _ _ _ _ _ _ _ _ _ C a b => lv_icmp_eq C.1 C.2.1 hd ht a b) kt kf
theorem zg_if_ne {x : Int32} {off : Int} (tgt : Nat) (hd : decode M.2.1 pc = .ok (.ifCond .ne off, 3)) (ht : (pc : Int) + off = (tgt : Int)) (kt : x = 0 → z_G V M d bc bs (pc + 3) ls st h Φ) (kf : ¬ (x = 0) → z_G V M d bc bs tgt ls st h Φ) : z_G V M d bc bs pc ls (.int x :: st) h Φ :=
  zg_br (fun _ _ _ _ _ _ _ _ _ _ _ _ _ _ _ _ C a b => lv_if_ne C.1 C.2.1 hd ht b a) kt kf
theorem zg_icmp_ne {x y : Int32} {off : Int} (tgt : Nat) (hd : decode M.2.1 pc = .ok (.if_icmp .ne off, 3)) (ht : (pc : Int) + off = (tgt : Int)) (kt : x = y → z_G V M d bc bs (pc + 3) ls st h Φ) (kf : ¬ (x = y) → z_G V M d bc bs tgt ls st h Φ) : z_G V M d bc bs pc ls (.int y :: .int x :: st) h Φ :=
  zg_br (fun _ _ _ _ _ _ _ _ _ _ _ _ _ _ _ _ C a b => lv_icmp_ne C.1 C.2.1 hd ht b a) kt kf
theorem zg_if_lt {x : Int32} {off : Int} (tgt : Nat) (hd : decode M.2.1 pc = .ok (.ifCond .lt off, 3)) (ht : (pc : Int) + off = (tgt : Int)) (kt : x < 0 → z_G V M d bc bs tgt ls st h Φ) (kf : ¬ (x < 0) → z_G V M d bc bs (pc + 3) ls st h Φ) : z_G V M d bc bs pc ls (.int x :: st) h Φ :=
  zg_br (fun _ _ _ _ _ _ _ _ _ _ _ _ _ _ _ _ C a b => lv_if_lt C.1 C.2.1 hd ht a b) kt kf
theorem zg_icmp_lt {x y : Int32} {off : Int} (tgt : Nat) (hd : decode M.2.1 pc = .ok (.if_icmp .lt off, 3)) (ht : (pc : Int) + off = (tgt : Int)) (kt : x < y → z_G V M d bc bs tgt ls st h Φ) (kf : ¬ (x < y) → z_G V M d bc bs (pc + 3) ls st h Φ) : z_G V M d bc bs pc ls (.int y :: .int x :: st) h Φ :=
  zg_br (fun _ _ _ _ _ _ _ _ _ _ _ _ _ _ _ _ C a b => lv_icmp_lt C.1 C.2.1 hd ht a b) kt kf
theorem zg_if_ge {x : Int32} {off : Int} (tgt : Nat) (hd : decode M.2.1 pc = .ok (.ifCond .ge off, 3)) (ht : (pc : Int) + off = (tgt : Int)) (kt : 0 ≤ x → z_G V M d bc bs tgt ls st h Φ) (kf : ¬ (0 ≤ x) → z_G V M d bc bs (pc + 3) ls st h Φ) : z_G V M d bc bs pc ls (.int x :: st) h Φ :=
  zg_br (fun _ _ _ _ _ _ _ _ _ _ _ _ _ _ _ _ C a b => lv_if_ge C.1 C.2.1 hd ht a b) kt kf
theorem zg_icmp_ge {x y : Int32} {off : Int} (tgt : Nat) (hd : decode M.2.1 pc = .ok (.if_icmp .ge off, 3)) (ht : (pc : Int) + off = (tgt : Int)) (kt : y ≤ x → z_G V M d bc bs tgt ls st h Φ) (kf : ¬ (y ≤ x) → z_G V M d bc bs (pc + 3) ls st h Φ) : z_G V M d bc bs pc ls (.int y :: .int x :: st) h Φ :=
  zg_br (fun _ _ _ _ _ _ _ _ _ _ _ _ _ _ _ _ C a b => lv_icmp_ge C.1 C.2.1 hd ht a b) kt kf
theorem zg_if_gt {x : Int32} {off : Int} (tgt : Nat) (hd : decode M.2.1 pc = .ok (.ifCond .gt off, 3)) (ht : (pc : Int) + off = (tgt : Int)) (kt : 0 < x → z_G V M d bc bs tgt ls st h Φ) (kf : ¬ (0 < x) → z_G V M d bc bs (pc + 3) ls st h Φ) : z_G V M d bc bs pc ls (.int x :: st) h Φ :=
  zg_br (fun _ _ _ _ _ _ _ _ _ _ _ _ _ _ _ _ C a b => lv_if_gt C.1 C.2.1 hd ht a b) kt kf
theorem zg_icmp_gt {x y : Int32} {off : Int} (tgt : Nat) (hd : decode M.2.1 pc = .ok (.if_icmp .gt off, 3)) (ht : (pc : Int) + off = (tgt : Int)) (kt : y < x → z_G V M d bc bs tgt ls st h Φ) (kf : ¬ (y < x) → z_G V M d bc bs (pc + 3) ls st h Φ) : z_G V M d bc bs pc ls (.int y :: .int x :: st) h Φ :=
  zg_br (fun _ _ _ _ _ _ _ _ _ _ _ _ _ _ _ _ C a b => lv_icmp_gt C.1 C.2.1 hd ht a b) kt kf
theorem zg_if_le {x : Int32} {off : Int} (tgt : Nat) (hd : decode M.2.1 pc = .ok (.ifCond .le off, 3)) (ht : (pc : Int) + off = (tgt : Int)) (kt : x ≤ 0 → z_G V M d bc bs tgt ls st h Φ) (kf : ¬ (x ≤ 0) → z_G V M d bc bs (pc + 3) ls st h Φ) : z_G V M d bc bs pc ls (.int x :: st) h Φ :=
  zg_br (fun _ _ _ _ _ _ _ _ _ _ _ _ _ _ _ _ C a b => lv_if_le C.1 C.2.1 hd ht a b) kt kf
theorem zg_icmp_le {x y : Int32} {off : Int} (tgt : Nat) (hd : decode M.2.1 pc = .ok (.if_icmp .le off, 3)) (ht : (pc : Int) + off = (tgt : Int)) (kt : x ≤ y → z_G V M d bc bs tgt ls st h Φ) (kf : ¬ (x ≤ y) → z_G V M d bc bs (pc + 3) ls st h Φ) : z_G V M d bc bs pc ls (.int y :: .int x :: st) h Φ :=
  zg_br (fun _ _ _ _ _ _ _ _ _ _ _ _ _ _ _ _ C a b => lv_icmp_le C.1 C.2.1 hd ht a b) kt kf
theorem zg_lookup {dflt : Int} {ps : Array (Int × Int)} {len : Nat} {x : Int32} {off : Int} (tgt : Nat) (hd : decode M.2.1 pc = .ok (.lookupswitch dflt ps, len)) (hp : (ps.toList.zip (ps.toList.drop 1)).all (fun (a, next) => a.1 < next.1) = true) (ho : Op.lookupswitch.offset ps.toList dflt x.toInt = off) (ht : (pc : Int) + off = (tgt : Int)) (k : z_G V M d bc bs tgt ls st h Φ) : z_G V M d bc bs pc ls (.int x :: st) h Φ :=
  zg_go (fun _ _ _ _ _ _ _ _ _ _ _ _ _ _ _ _ C _ w => lv_lookup C.1 C.2.1 hd hp ho ht w) k
theorem zg_tableOut {dflt lo hi : Int} {offs : Array Int} {len : Nat} {x : Int32} (tgt : Nat) (hd : decode M.2.1 pc = .ok (.tableswitch dflt lo hi offs, len)) (hx : x.toInt < lo ∨ hi < x.toInt) (ht : (pc : Int) + dflt = (tgt : Int)) (k : z_G V M d bc bs tgt ls st h Φ) : z_G V M d bc bs pc ls (.int x :: st) h Φ :=
  zg_go (fun _ _ _ _ _ _ _ _ _ _ _ _ _ _ _ _ C _ w => lv_tableOut C.1 C.2.1 hd hx ht w) k
theorem zg_tableIn {dflt lo hi : Int} {offs : Array Int} {len : Nat} {x : Int32} {off : Int} (tgt : Nat) (hd : decode M.2.1 pc = .ok (.tableswitch dflt lo hi offs, len)) (h1 : ¬ x.toInt < lo) (h2 : ¬ hi < x.toInt) (ho : offs[(x.toInt - lo).toNat]? = some off) (ht : (pc : Int) + off = (tgt : Int)) (k : z_G V M d bc bs tgt ls st h Φ) : z_G V M d bc bs pc ls (.int x :: st) h Φ :=
  zg_go (fun _ _ _ _ _ _ _ _ _ _ _ _ _ _ _ _ C _ w => lv_tableIn C.1 C.2.1 hd h1 h2 ho ht w) k
/-- stores to locals -/
theorem z_store {LS : Array Slot} {i : Nat} {v : Value} (hL : z_L V LS ls) (hi : i < ls.length) (hc : ∀ w ∈ ls, w.category = 1) (hv : v.category = 1) : ∃ lv : List (Nat × Value), lv_has LS ls.length lv ∧ ∀ ls', lv_has ls' ls.length ((i, z_rl V v) :: lv.filter (fun q => !(q.1 == i) && !(q.1 + 1 == i && q.2.category == 2))) → z_L V ls' (ls.set i v) := by
  have hcr : ∀ w : Value, (z_rl V w).category = w.category := fun w => by cases w <;> rfl
  refine ⟨(List.range ls.length).filterMap (fun j => match ls[j]? with | some w => if w = .null then none else some (j, z_rl V w) | none => none), ⟨hL.1, hL.2.1, fun q hq => ?_⟩, fun ls' h' => ⟨by rw [h'.1, List.length_set], h'.2.1, fun j w hj hw => ?_⟩⟩
  · obtain ⟨j, -, hj⟩ := List.mem_filterMap.mp hq
    cases e : ls[j]? with
    | none => rw [e] at hj; cases hj
    | some w =>
      rw [e] at hj
      dsimp only at hj
      by_cases hw : w = .null
      · rw [if_pos hw] at hj; cases hj
      · rw [if_neg hw] at hj; cases hj
        exact hL.2.2 j w e hw
  · by_cases e : j = i
    · subst e
      rw [List.getElem?_set_self hi] at hj
      cases hj
      exact h'.2.2 (j, z_rl V v) List.mem_cons_self
    · rw [List.getElem?_set_ne (Ne.symm e)] at hj
      refine h'.2.2 (j, z_rl V w) (List.mem_cons_of_mem _ (List.mem_filter.mpr ⟨List.mem_filterMap.mpr ⟨j, List.mem_range.mpr (List.getElem?_eq_some_iff.mp hj).1, by rw [hj]; exact if_neg hw⟩, ?_⟩))
      have h2 : (z_rl V w).category = 1 := by rw [hcr]; exact hc w (List.mem_of_getElem? hj)
      simp [e, h2]
theorem zg_sto {pc' : Nat} {ls' st' : List Value} {i : Nat} {v : Value} (hi : i < ls.length) (hc : ls.all (fun w => w.category == 1) = true) (hv : v.category = 1) (he : z_st ls i v = ls') (hstep : ∀ (p : Program) (l : Launch) (e : Env) (R : Room) (s : State) (m : MethodId) (args : Array Value) (below : List Frame) (meth : Method) (c : Code) (H : Heap) (locs : List Loc) (cells slots : Nat) (LS : Array Slot) (QQ : State → Prop) (lv : List (Nat × Value)), z_C V M d p l e R s m args below meth c → z_L V LS ls → lv_has LS ls.length lv → (∀ LS', lv_has LS' ls.length ((i, z_rl V v) :: lv.filter (fun q => !(q.1 == i) && !(q.1 + 1 == i && q.2.category == 2))) → W p l e R s m args below meth c H locs cells slots QQ (F0 m pc' LS' (st'.map (z_rl V)))) → W p l e R s m args below meth c H locs cells slots QQ (F0 m pc LS (st.map (z_rl V))))
    (k : z_G V M d bc bs pc' ls' st' h Φ) : z_G V M d bc bs pc ls st h Φ := by
  intro p l e R s m args below meth c H locs cells slots LS QQ C hw hS hL hn hc9 hs ret
  obtain ⟨lv, h1, h2⟩ := z_store (V := V) (v := v) hL hi (fun w hw => by have := List.all_eq_true.mp hc w hw; simpa using this) hv
  rw [z_st_eq] at he
  subst he
  exact hstep p l e R s m args below meth c H locs cells slots LS QQ lv C hL h1 (fun LS' h' => k p l e R s m args below meth c H locs cells slots LS' QQ C hw hS (h2 LS' h') (by rw [List.length_set]; exact hn) hc9 hs ret)
theorem zg_istore {i : Nat} {x : Int32} {ls' : List Value} (hd : decode M.2.1 pc = .ok (.istore i, 2)) (hi : i < ls.length) (hc : ls.all (fun w => w.category == 1) = true) (he : z_st ls i (.int x) = ls') (k : z_G V M d bc bs (pc + 2) ls' st h Φ) : z_G V M d bc bs pc ls (.int x :: st) h Φ :=
  zg_sto (v := .int x) hi hc rfl he (fun _ _ _ _ _ _ _ _ _ _ _ _ _ _ _ _ _ C _ h1 w => lv_istore C.1 C.2.1 hd h1 hi rfl w) k
theorem zg_istore_n {i : Fin 4} {x : Int32} {ls' : List Value} (hd : decode M.2.1 pc = .ok (.istore_n i, 1)) (hi : i.val < ls.length) (hc : ls.all (fun w => w.category == 1) = true) (he : z_st ls i (.int x) = ls') (k : z_G V M d bc bs (pc + 1) ls' st h Φ) : z_G V M d bc bs pc ls (.int x :: st) h Φ :=
  zg_sto (v := .int x) hi hc rfl he (fun _ _ _ _ _ _ _ _ _ _ _ _ _ _ _ _ _ C _ h1 w => lv_istore_n C.1 C.2.1 hd rfl h1 hi rfl w) k
theorem zg_astore {i x : Nat} {ls' : List Value} (hd : decode M.2.1 pc = .ok (.astore i, 2)) (hi : i < ls.length) (hc : ls.all (fun w => w.category == 1) = true) (he : z_st ls i (.ref x) = ls') (k : z_G V M d bc bs (pc + 2) ls' st h Φ) : z_G V M d bc bs pc ls (.ref x :: st) h Φ :=
  zg_sto (v := .ref x) hi hc rfl he (fun _ _ _ _ _ _ _ _ _ _ _ _ _ _ _ _ _ C _ h1 w => lv_astore C.1 C.2.1 hd h1 hi rfl w) k
theorem zg_astore_n {i : Fin 4} {x : Nat} {ls' : List Value} (hd : decode M.2.1 pc = .ok (.astore_n i, 1)) (hi : i.val < ls.length) (hc : ls.all (fun w => w.category == 1) = true) (he : z_st ls i (.ref x) = ls') (k : z_G V M d bc bs (pc + 1) ls' st h Φ) : z_G V M d bc bs pc ls (.ref x :: st) h Φ :=
  zg_sto (v := .ref x) hi hc rfl he (fun _ _ _ _ _ _ _ _ _ _ _ _ _ _ _ _ _ C _ h1 w => lv_astore_n C.1 C.2.1 hd rfl h1 hi rfl w) k
theorem z_iinc_k {lv : List (Nat × Value)} {LS : Array Slot} {n i : Nat} {v : Value} (h : lv_has LS n lv) (hv : LS[i]? = some (.val v)) : lv_has LS n ((i, v) :: lv) := ⟨h.1, h.2.1, fun q hq => by
  rcases List.mem_cons.mp hq with rfl | hq
  · exact hv
  · exact h.2.2 q hq⟩
theorem zg_iinc {i : Nat} {n : Int} {x : Int32} {ls' : List Value} (w : Int32) (hd : decode M.2.1 pc = .ok (.iinc i n, 3)) (hv : z_at ls i = some (.int x)) (hn : Int32.ofInt n = w) (hi : i < ls.length) (hc : ls.all (fun w => w.category == 1) = true) (he : z_st ls i (.int (x + w)) = ls') (k : z_G V M d bc bs (pc + 3) ls' st h Φ) : z_G V M d bc bs pc ls st h Φ :=
  zg_sto (v := .int (x + w)) hi hc rfl he (fun p l e R s m args below meth c H locs cells slots LS QQ lv C hL h1 w9 => by
    refine lv_iinc C.1 C.2.1 hd (z_iinc_k h1 (hL.at hv (fun q => by cases q))) (k := 0) rfl (by rw [hn]) hi ?_ (fun LS' h' => w9 LS' h')
    simp [z_rl]) k
end ZG
end
section
/-! ===== fields, arrays, calls and returns of the small machine ===== -/
def z_F (own : String) (idx ci j : Nat) (fin : Bool) : Prop := ∃ (C : String) (T : u_T) (N : Nat), vwCl[ci]? = some (C, T, N) ∧ j < N ∧ Cond.fieldLink own idx (T j).1 (T j).2.1 (T j).2.2.1 ∈ wsL_law ∧ (∀ w ∈ u_ws C T N, w ∈ wsL_law) ∧ (∀ k, k < N → parseFieldDescriptor (T k).2.2.1 = some (z_ty ci k)) ∧ (∀ a, a < N → ∀ b, b < N → a ≠ b → (T a).2.1 ≠ (T b).2.1) ∧ (T j).2.2.2 = fin
theorem z_cell_o {V : zV} {h : zHP} {k ci n : Nat} (hci : ci < 100) : z_cell V h k (ci, n) = .inr (ci, (List.range n).map (z_val V h ci k)) := by
  unfold z_cell
  rw [if_neg (by show ¬ ci = 100; omega), if_neg (by show ¬ ci = 101; omega), if_neg (by show ¬ ci = 102; omega), if_neg (by show ¬ ci = 103; omega)]
theorem z_map_set {V : zV} {h h' : zHP} {ci k j n : Nat} {v : Value} (hj : j < n) (h1 : z_val V h' ci k j = v) (h2 : ∀ i, i ≠ j → z_val V h' ci k i = z_val V h ci k i) : (List.range n).map (z_val V h' ci k) = ((List.range n).map (z_val V h ci k)).set j v := by
  apply List.ext_getElem?
  intro i
  by_cases hi : i < n
  · rw [List.getElem?_map, List.getElem?_range hi]
    by_cases e : i = j
    · subst e
      rw [List.getElem?_set_self (by simpa using hi), ← h1]
      rfl
    · rw [List.getElem?_set_ne (Ne.symm e), List.getElem?_map, List.getElem?_range hi]
      show some _ = some _
      rw [h2 i e]
  · rw [List.getElem?_eq_none (by simp; omega), List.getElem?_eq_none (by simp; omega)]
section ZG2
variable {V : zV} {M : zM} {d bc bs pc : Nat} {ls st : List Value} {h : zHP} {Φ : Option Value → zHP → Prop}
theorem z_W.pos {H : Heap} {q ci n : Nat} (hw : z_W V h H) (hsh : h.1[q]? = some (ci, n)) (hci : ci < 100) : ∃ k, q = k + 1 := by
  cases q with
  | zero =>
    rw [hw.2.2.2.1] at hsh
    cases hsh
    omega
  | succ k => exact ⟨k, rfl⟩
theorem zg_getv {idx ci j n q : Nat} {fin : Bool} (hd : decode M.2.1 pc = .ok (.getfield idx, 3)) (hf : z_F M.1.cls idx ci j fin) (hsh : h.1[q]? = some (ci, n)) (hci : ci < 100) (hj : j < n) {w : Value} (hw9 : z_rl V w = z_val V h ci q j)
    (k : z_G V M d bc bs (pc + 3) ls (w :: st) h Φ) : z_G V M d bc bs pc ls (.ref q :: st) h Φ := by
  intro p l e R s m args below meth c H locs cells slots LS QQ C hw hS hL hn hc hs ret
  obtain ⟨CC, T, N, f1, f2, f3, f4, f5, f6, f7⟩ := hf
  obtain ⟨q', rfl⟩ := hw.pos hsh hci
  have k9 := k p l e R s m args below meth c H locs cells slots LS QQ C hw hS hL hn hc hs ret
  obtain ⟨hx, hb, hr, hml, hown, hlk, hts, hN, hK, hfr, hlo, hX, hbB, hBs, hnm⟩ := C
  have he : (z_ws V h)[q']? = some (z_ad V (q' + 1), .inr (ci, (List.range n).map (z_val V h ci (q' + 1)))) := by rw [z_get hsh, z_cell_o hci]
  refine va_get (D := V.1) (ci := ci) (C := CC) (T := T) (N := N) hx hb hts f4 hown hK hw.1 q' he f1 j f2 (hts _ f3) (fun _ h9 => h9) (v := z_rl V w) ?_ hd k9
  rw [List.getElem?_map, List.getElem?_range hj, hw9]
  rfl
theorem zg_getI {idx ci j n q : Nat} {fin : Bool} (hd : decode M.2.1 pc = .ok (.getfield idx, 3)) (hf : z_F M.1.cls idx ci j fin) (hty : z_tyR (z_ty ci j) = false) (hsh : h.1[q]? = some (ci, n)) (hci : ci < 100) (hj : j < n)
    (k : z_G V M d bc bs (pc + 3) ls (.int (h.2.1 q j) :: st) h Φ) : z_G V M d bc bs pc ls (.ref q :: st) h Φ :=
  zg_getv hd hf hsh hci hj (w := .int (h.2.1 q j)) (by unfold z_val; rw [hty]; rfl) k
theorem zg_getR {idx ci j n q r : Nat} {fin : Bool} (hd : decode M.2.1 pc = .ok (.getfield idx, 3)) (hf : z_F M.1.cls idx ci j fin) (hty : z_tyR (z_ty ci j) = true) (hsh : h.1[q]? = some (ci, n)) (hci : ci < 100) (hj : j < n) (hr : h.2.2 q j = some r)
    (k : z_G V M d bc bs (pc + 3) ls (.ref r :: st) h Φ) : z_G V M d bc bs pc ls (.ref q :: st) h Φ :=
  zg_getv hd hf hsh hci hj (w := .ref r) (by unfold z_val; rw [hty, hr]; rfl) k
theorem z_W.upd_i {H H1 : Heap} {q : Nat} {g : Nat → Int32} (hw : z_W V h H) (hP : va_P V.1 vwCl (z_ws V (h.1, z_ui h.2.1 (q + 1) g, h.2.2)) H1) (hz : H1.size = H.size) : z_W V (h.1, z_ui h.2.1 (q + 1) g, h.2.2) H1 := by
  refine ⟨hP, by rw [hz]; exact hw.2.1, hw.2.2.1, hw.2.2.2.1, ?_⟩
  show z_ui h.2.1 (q + 1) g 0 = _
  unfold z_ui
  rw [if_neg (by omega)]
  exact hw.2.2.2.2
theorem z_W.upd_r {H H1 : Heap} {q : Nat} {g : Nat → Option Nat} (hw : z_W V h H) (hP : va_P V.1 vwCl (z_ws V (h.1, h.2.1, z_ur h.2.2 (q + 1) g)) H1) (hz : H1.size = H.size) : z_W V (h.1, h.2.1, z_ur h.2.2 (q + 1) g) H1 :=
  ⟨hP, by rw [hz]; exact hw.2.1, hw.2.2.1, hw.2.2.2.1, hw.2.2.2.2⟩
theorem z_put_core {idx ci j n q : Nat} {fin : Bool} {h' : zHP} {v : Value} (hd : decode M.2.1 pc = .ok (.putfield idx, 3)) (hf : z_F M.1.cls idx ci j fin) (hfin : fin = false ∨ (fin = true ∧ M.1.name = "<init>" ∧ ∀ C T N, vwCl[ci]? = some (C, T, N) → (T j).1 = M.1.cls)) (hsh : h.1[q]? = some (ci, n)) (hci : ci < 100) (hj : j < n)
    (hnar : narrow (z_ty ci j) v = v) (hfit : fits (z_ty ci j) v = true) (h0 : h'.1 = h.1) (h1 : ∀ i, i ≠ q → h'.2.1 i = h.2.1 i) (h2 : ∀ i, i ≠ q → h'.2.2 i = h.2.2 i) (hv : z_val V h' ci q j = v) (ho : ∀ i, i ≠ j → z_val V h' ci q i = z_val V h ci q i) (h3 : q ≠ 0 → h'.2.1 0 = h.2.1 0) {w : Value} (hwv : z_rl V w = v)
    (k : z_G V M d bc bs (pc + 3) ls st h' Φ) : z_G V M d bc bs pc ls (w :: .ref q :: st) h Φ := by
  intro p l e R s m args below meth c H locs cells slots LS QQ C hw hS hL hn hc hs ret
  have C0 := C
  obtain ⟨CC, T, N, f1, f2, f3, f4, f5, f6, f7⟩ := hf
  obtain ⟨q', rfl⟩ := hw.pos hsh hci
  obtain ⟨hx, hb, hr, hml, hown, hlk, hts, hN, hK, hfr, hlo, hX, hbB, hBs, hnm⟩ := C
  have he : (z_ws V h)[q']? = some (z_ad V (q' + 1), .inr (ci, (List.range n).map (z_val V h ci (q' + 1)))) := by rw [z_get hsh, z_cell_o hci]
  have hset : z_ws V h' = (z_ws V h).set q' (z_ad V (q' + 1), .inr (ci, ((List.range n).map (z_val V h ci (q' + 1))).set j v)) := by
    rw [z_set_gen hsh h0 h1 h2, z_cell_o hci, z_map_set hj hv ho]
  have fin9 : ∀ (H1 : Heap) (locs1 : List Loc), va_P V.1 vwCl ((z_ws V h).set q' (z_ad V (q' + 1), .inr (ci, ((List.range n).map (z_val V h ci (q' + 1))).set j v))) H1 → va_S (fun q => V.2.2.1 ≤ q) s.heap H1 locs1 → H1.size = H.size → W p l e R s m args below meth c H1 locs1 cells slots QQ (F0 m (pc + 3) LS (st.map (z_rl V))) := by
    intro H1 locs1 hP1 hS1 hz
    rw [← hset] at hP1
    exact k p l e R s m args below meth c H1 locs1 cells slots LS QQ C0 ⟨hP1, by rw [hz, h0]; exact hw.2.1, by rw [h0]; exact hw.2.2.1, by rw [h0]; exact hw.2.2.2.1, by rw [h3 (by omega)]; exact hw.2.2.2.2⟩ hS1 hL hn hc hs ret
  show W p l e R s m args below meth c H locs cells slots QQ (F0 m pc LS (z_rl V w :: .ref (z_ad V (q' + 1)) :: st.map (z_rl V)))
  rw [hwv]
  obtain ⟨r, g1, cell, q1, q2, q3, q4⟩ := hw.1 q' _ he
  have hr9 : r = (CC, T, N) := Option.some.inj (g1.symm.trans f1)
  subst hr9
  have hap := va_apart (own := M.1.cls) hts f4 (z_ty ci) f5 f6 hK f1
  obtain ⟨hSl, hfc, kC, hkC, hkind⟩ := hK.1 ci _ f1
  obtain ⟨cf, kf, fi, f, hi, hsl⟩ := hSl j f2
  have hst := (u_facts hfc hkC (u_lays hts f4 f2) hi).1
  have hfl := u_fits hfc hkC hkind (u_lays hts f4 f2) hi (f5 j f2) hnar hfit
  have hlt : f.slot < cell.slots.size := by rw [hsl]; exact (Array.getElem?_eq_some_iff.mp (q4 j f2)).1
  have hlay := hts _ (f4 _ (u_in_lay f2))
  unfold u_lay at hlay
  have hfinal : hasFlag f.accessFlags Acc.final = false ∨ (m.cls = cf ∧ meth.name = "<init>") := by
    rcases hfin with hfin | ⟨hfin, hnm2, hdc⟩
    · rw [if_neg (by rw [f7, hfin]; decide)] at hlay
      obtain ⟨c9, k9, cf9, kf9, fi9, fd9, r1, r2, hi9, hst9, hfin9, -⟩ := Cond.lays_spec hlay
      cases hi.symm.trans hi9
      exact Or.inl hfin9
    · refine Or.inr ⟨?_, hnm.trans hnm2⟩
      rw [if_pos (by rw [f7, hfin])] at hlay
      obtain ⟨_, _, c', _, _, _, -, -, hf', -, -, -, hown2, -⟩ := Cond.laysFinal_spec hlay
      have e1 : c' = cf := by have := hi.symm.trans hf'; simp at this; exact this.1.symm
      rw [hdc CC T N f1] at hown2
      rw [← e1]; exact Option.some.inj (hown.symm.trans hown2)
  refine W.putf hx hb hown (hts _ f3) hi hst hfinal q1 (by rw [q3]; exact fun h => by cases h) hlt hfl.1 (by rw [q2, q3]; exact hfl.2) rfl rfl hd ?_
  have hal : z_ad V (q' + 1) < H.size := (hw.1 q' _ he).lt
  have e1 : (H.setIfInBounds (z_ad V (q' + 1)) (cell.setSlot f.slot v))[z_ad V (q' + 1)]? = some (cell.setSlot f.slot v) := by simp [Array.getElem?_setIfInBounds, hal]
  have e2 : (H.setIfInBounds (z_ad V (q' + 1)) (cell.setSlot f.slot v)).size = H.size := by simp
  have e3 : ∀ x : Nat, x ≠ z_ad V (q' + 1) → (H.setIfInBounds (z_ad V (q' + 1)) (cell.setSlot f.slot v))[x]? = H[x]? := fun x hx9 => by simp [Array.getElem?_setIfInBounds, Ne.symm hx9]
  rw [hsl] at e1 e2 e3 ⊢
  exact fin9 _ _ (hw.1.set (z_D V h) he ⟨_, f1, t_OB.to (V := updV (vp_V ((List.range n).map (z_val V h ci (q' + 1)))) j v) ⟨_, e1, q2, q3, t_set q4 hap f2 v⟩ (fun i _ => vp_updV_set (by simpa using hj) v i)⟩ e3) (hS.put e2 e3 ((z_D V h).2 q' _ he)) e2
theorem z_val_i {h : zHP} {ci q j : Nat} (hty : z_tyR (z_ty ci j) = false) : z_val V h ci q j = .int (h.2.1 q j) := by unfold z_val; rw [hty]; rfl
theorem z_val_r {h : zHP} {ci q j : Nat} (hty : z_tyR (z_ty ci j) = true) : z_val V h ci q j = va_rf ((h.2.2 q j).map (z_ad V)) := by unfold z_val; rw [hty]; rfl
theorem z_val_eq {h h' : zHP} {ci q j : Nat} (h1 : h'.2.1 q j = h.2.1 q j) (h2 : h'.2.2 q j = h.2.2 q j) : z_val V h' ci q j = z_val V h ci q j := by unfold z_val; rw [h1, h2]
theorem z_putI {idx ci j n q : Nat} {x : Int32} (hd : decode M.2.1 pc = .ok (.putfield idx, 3)) (hf : z_F M.1.cls idx ci j false) (hty : z_tyR (z_ty ci j) = false) (hnar : narrow (z_ty ci j) (.int x) = .int x) (hfit : fits (z_ty ci j) (.int x) = true) (hsh : h.1[q]? = some (ci, n)) (hci : ci < 100) (hj : j < n)
    (k : z_G V M d bc bs (pc + 3) ls st (h.1, z_ui h.2.1 q (upd (h.2.1 q) j x), h.2.2) Φ) : z_G V M d bc bs pc ls (.int x :: .ref q :: st) h Φ := by
  refine z_put_core (V := V) (h' := (h.1, z_ui h.2.1 q (upd (h.2.1 q) j x), h.2.2)) (v := .int x) (w := .int x) hd hf (Or.inl rfl) hsh hci hj hnar hfit rfl (fun i hi => ?_) (fun _ _ => rfl) ?_ (fun i hi => ?_) (fun hq => ?_) rfl k
  · show z_ui h.2.1 q _ i = _
    unfold z_ui; rw [if_neg hi]
  · rw [z_val_i hty]
    show Value.int (z_ui h.2.1 q _ q j) = _
    unfold z_ui upd; rw [if_pos rfl, if_pos rfl]
  · refine z_val_eq ?_ rfl
    show z_ui h.2.1 q _ q i = _
    unfold z_ui upd; rw [if_pos rfl, if_neg hi]
  · show z_ui h.2.1 q _ 0 = _
    unfold z_ui; rw [if_neg (Ne.symm hq)]
theorem zg_putI {idx ci j n q : Nat} {x : Int32} (hd : decode M.2.1 pc = .ok (.putfield idx, 3)) (hf : z_F M.1.cls idx ci j false) (hty : z_ty ci j = .int) (hsh : h.1[q]? = some (ci, n)) (hci : ci < 100) (hj : j < n)
    (k : z_G V M d bc bs (pc + 3) ls st (h.1, z_ui h.2.1 q (upd (h.2.1 q) j x), h.2.2) Φ) : z_G V M d bc bs pc ls (.int x :: .ref q :: st) h Φ :=
  z_putI hd hf (by rw [hty]; rfl) (by rw [hty]; rfl) (by rw [hty]; rfl) hsh hci hj k
theorem z_nar_z {x : Int32} (hx : x = 0 ∨ x = 1) : narrow .boolean (.int x) = .int x ∧ fits .boolean (.int x) = true := by
  rcases hx with rfl | rfl <;> exact ⟨by decide, by decide⟩
theorem zg_putZ {idx ci j n q : Nat} {x : Int32} (hd : decode M.2.1 pc = .ok (.putfield idx, 3)) (hf : z_F M.1.cls idx ci j false) (hty : z_ty ci j = .boolean) (hx : x = 0 ∨ x = 1) (hsh : h.1[q]? = some (ci, n)) (hci : ci < 100) (hj : j < n)
    (k : z_G V M d bc bs (pc + 3) ls st (h.1, z_ui h.2.1 q (upd (h.2.1 q) j x), h.2.2) Φ) : z_G V M d bc bs pc ls (.int x :: .ref q :: st) h Φ :=
  z_putI hd hf (by rw [hty]; rfl) (by rw [hty]; exact (z_nar_z hx).1) (by rw [hty]; exact (z_nar_z hx).2) hsh hci hj k
theorem z_nar_r {ty : FieldType} {a : Nat} (h : z_tyR ty = true) : narrow ty (.ref a) = .ref a ∧ fits ty (.ref a) = true := by
  cases ty <;> first | exact ⟨rfl, rfl⟩ | cases h
theorem zg_putR {idx ci j n q r : Nat} {fin : Bool} (hd : decode M.2.1 pc = .ok (.putfield idx, 3)) (hf : z_F M.1.cls idx ci j fin) (hfin : fin = false ∨ (fin = true ∧ M.1.name = "<init>" ∧ ∀ C T N, vwCl[ci]? = some (C, T, N) → (T j).1 = M.1.cls)) (hty : z_tyR (z_ty ci j) = true) (hsh : h.1[q]? = some (ci, n)) (hci : ci < 100) (hj : j < n)
    (k : z_G V M d bc bs (pc + 3) ls st (h.1, h.2.1, z_ur h.2.2 q (fun i => if i = j then some r else h.2.2 q i)) Φ) : z_G V M d bc bs pc ls (.ref r :: .ref q :: st) h Φ := by
  refine z_put_core (V := V) (h' := (h.1, h.2.1, z_ur h.2.2 q (fun i => if i = j then some r else h.2.2 q i))) (v := .ref (z_ad V r)) (w := .ref r) hd hf hfin hsh hci hj (z_nar_r hty).1 (z_nar_r hty).2 rfl (fun _ _ => rfl) (fun i hi => ?_) ?_ (fun i hi => ?_) (fun hq => rfl) rfl k
  · show z_ur h.2.2 q _ i = _
    unfold z_ur; rw [if_neg hi]
  · rw [z_val_r hty]
    show va_rf ((z_ur h.2.2 q _ q j).map (z_ad V)) = _
    unfold z_ur; rw [if_pos rfl, if_pos rfl]; rfl
  · refine z_val_eq rfl ?_
    show z_ur h.2.2 q _ q i = _
    unfold z_ur; rw [if_pos rfl, if_neg hi]
/-- arrays -/
theorem z_get_a {q n : Nat} (hsh : h.1[q + 1]? = some (100, n)) : (z_ws V h)[q]? = some (z_ad V (q + 1), .inl (V.2.2.2.1.1, n, .inl (h.2.1 (q + 1)))) := z_get hsh
theorem z_get_z {q n : Nat} (hsh : h.1[q + 1]? = some (101, n)) : (z_ws V h)[q]? = some (z_ad V (q + 1), .inl (V.2.2.2.1.2.1, n, .inl (h.2.1 (q + 1)))) := z_get hsh
theorem zg_iald {q n : Nat} {i : Int32} (hd : decode M.2.1 pc = .ok (.iaload, 1)) (hq : 0 < q) (hsh : h.1[q]? = some (100, n)) (hin : vp_in i n) (k : z_G V M d bc bs (pc + 1) ls (.int (h.2.1 q i.toNatClampNeg) :: st) h Φ) : z_G V M d bc bs pc ls (.int i :: .ref q :: st) h Φ := by
  intro p l e R s m args below meth c H locs cells slots LS QQ C hw hS hL hn hc hs ret
  obtain ⟨q', rfl⟩ : ∃ q', q = q' + 1 := ⟨q - 1, by omega⟩
  exact va_iald C.1 C.2.1 C.2.2.2.2.2.2.2.2.1 hw.1 q' 0 (z_get_a hsh) rfl hin hd (k p l e R s m args below meth c H locs cells slots LS QQ C hw hS hL hn hc hs ret)
theorem zg_zald {q n : Nat} {i : Int32} (hd : decode M.2.1 pc = .ok (.baload, 1)) (hq : 0 < q) (hsh : h.1[q]? = some (101, n)) (hin : vp_in i n) (k : z_G V M d bc bs (pc + 1) ls (.int (h.2.1 q i.toNatClampNeg) :: st) h Φ) : z_G V M d bc bs pc ls (.int i :: .ref q :: st) h Φ := by
  intro p l e R s m args below meth c H locs cells slots LS QQ C hw hS hL hn hc hs ret
  obtain ⟨q', rfl⟩ : ∃ q', q = q' + 1 := ⟨q - 1, by omega⟩
  exact va_zald C.1 C.2.1 C.2.2.2.2.2.2.2.2.1 hw.1 q' 1 (z_get_z hsh) rfl hin hd (k p l e R s m args below meth c H locs cells slots LS QQ C hw hS hL hn hc hs ret)
theorem zg_sld {i : Int32} (hd : decode M.2.1 pc = .ok (.iaload, 1)) (hin : vp_in i V.2.2.2.2.1) (k : z_G V M d bc bs (pc + 1) ls (.int (V.2.2.2.2.2 i.toNatClampNeg) :: st) h Φ) : z_G V M d bc bs pc ls (.int i :: .ref 0 :: st) h Φ := by
  intro p l e R s m args below meth c H locs cells slots LS QQ C hw hS hL hn hc hs ret
  have k9 := k p l e R s m args below meth c H locs cells slots LS QQ C hw hS hL hn hc hs ret
  obtain ⟨hx, hb, hr, hml, hown, hlk, hts, hN, hK, hfr, hlo, hX, hbB, hBs, hnm⟩ := C
  exact va_sld (b := V.2.1) hx hb hX (by omega) (A := fun q => V.2.2.1 ≤ q) (by show ¬ V.2.2.1 ≤ V.2.1; omega) hS hin hd k9
theorem zg_slen (hd : decode M.2.1 pc = .ok (.arraylength, 1)) (k : z_G V M d bc bs (pc + 1) ls (.int (Int32.ofNat V.2.2.2.2.1) :: st) h Φ) : z_G V M d bc bs pc ls (.ref 0 :: st) h Φ := by
  intro p l e R s m args below meth c H locs cells slots LS QQ C hw hS hL hn hc hs ret
  have k9 := k p l e R s m args below meth c H locs cells slots LS QQ C hw hS hL hn hc hs ret
  obtain ⟨hx, hb, hr, hml, hown, hlk, hts, hN, hK, hfr, hlo, hX, hbB, hBs, hnm⟩ := C
  exact va_slen (b := V.2.1) hx hb hX (by omega) (A := fun q => V.2.2.1 ≤ q) (by show ¬ V.2.2.1 ≤ V.2.1; omega) hS hd k9
theorem zg_alen {q n : Nat} (v : Int32) (hd : decode M.2.1 pc = .ok (.arraylength, 1)) (hq : 0 < q) (hsh : h.1[q]? = some (100, n)) (hv : Int32.ofNat n = v) (k : z_G V M d bc bs (pc + 1) ls (.int v :: st) h Φ) : z_G V M d bc bs pc ls (.ref q :: st) h Φ := by
  intro p l e R s m args below meth c H locs cells slots LS QQ C hw hS hL hn hc hs ret
  obtain ⟨q', rfl⟩ : ∃ q', q = q' + 1 := ⟨q - 1, by omega⟩
  exact va_alen C.1 C.2.1 C.2.2.2.2.2.2.2.2.1 hw.1 q' 0 (z_get_a hsh) rfl hv hd (k p l e R s m args below meth c H locs cells slots LS QQ C hw hS hL hn hc hs ret)
/-- after a store into an int array: the world -/
theorem z_arr_set {H H1 : Heap} {q n t : Nat} {cA : ClassId} {g : Nat → Int32} {locs : List Loc} {s : State} {i : Nat} (hw : z_W V h H) (hS : va_S (fun q => V.2.2.1 ≤ q) s.heap H locs) (ht : t = 100 ∨ t = 101) (hsh : h.1[q + 1]? = some (t, n)) (hcell : z_cell V (h.1, z_ui h.2.1 (q + 1) g, h.2.2) (q + 1) (t, n) = .inl (cA, n, .inl g)) (e : H1[z_ad V (q + 1)]? = some (vp_cell cA (n, .inl g))) (hz : H1.size = H.size) (oq : ∀ x : Nat, x ≠ z_ad V (q + 1) → H1[x]? = H[x]?) :
    z_W V (h.1, z_ui h.2.1 (q + 1) g, h.2.2) H1 ∧ va_S (fun q => V.2.2.1 ≤ q) s.heap H1 (locs ++ [⟨z_ad V (q + 1), i⟩]) := by
  have he := z_get (V := V) hsh
  have hset : z_ws V (h.1, z_ui h.2.1 (q + 1) g, h.2.2) = (z_ws V h).set q (z_ad V (q + 1), .inl (cA, n, .inl g)) := by
    rw [z_set_gen (h := h) (h' := (h.1, z_ui h.2.1 (q + 1) g, h.2.2)) hsh rfl (fun x hx => by show z_ui h.2.1 (q + 1) g x = _; unfold z_ui; rw [if_neg hx]) (fun _ _ => rfl), hcell]
  refine ⟨hw.upd_i (by rw [hset]; exact hw.1.set (z_D V h) he e oq) hz, hS.put hz oq ((z_D V h).2 q _ he)⟩
theorem zg_iast {q n : Nat} {i x : Int32} (hd : decode M.2.1 pc = .ok (.iastore, 1)) (hq : 0 < q) (hsh : h.1[q]? = some (100, n)) (hin : vp_in i n) (k : z_G V M d bc bs (pc + 1) ls st (h.1, z_ui h.2.1 q (upd (h.2.1 q) i.toNatClampNeg x), h.2.2) Φ) : z_G V M d bc bs pc ls (.int x :: .int i :: .ref q :: st) h Φ := by
  intro p l e R s m args below meth c H locs cells slots LS QQ C hw hS hL hn hc hs ret
  obtain ⟨q', rfl⟩ : ∃ q', q = q' + 1 := ⟨q - 1, by omega⟩
  refine W.iast C.1 C.2.1 (hw.1 q' _ (z_get_a hsh)) ((C.2.2.2.2.2.2.2.2.1.2 0 _ rfl).1 n (fun j => .int (h.2.1 (q' + 1) j))) (fun z => by cases z) (by show ¬ (i < 0 ∨ (arrV _ _ _).slots.size ≤ _); rw [arrV_size]; exact hin) rfl rfl hd fun H1 e9 z oq => ?_
  obtain ⟨hw1, hS1⟩ := z_arr_set (V := V) (h := h) (g := upd (h.2.1 (q' + 1)) i.toNatClampNeg x) (cA := V.2.2.2.1.1) (i := i.toNatClampNeg) hw hS (Or.inl rfl) hsh (by unfold z_cell; rw [if_pos rfl]; show Sum.inl (_, _, Sum.inl (z_ui _ _ _ _)) = _; unfold z_ui; rw [if_pos rfl]) (by
    rw [e9, vp_cell_i, vp_cell_i, arrV_store]
    congr 2
    funext j
    unfold updV upd
    split <;> rfl) z oq
  exact k p l e R s m args below meth c H1 _ cells slots LS QQ C hw1 hS1 hL hn hc hs ret
theorem zg_zast {q n : Nat} {i x : Int32} (hd : decode M.2.1 pc = .ok (.bastore, 1)) (hx : x = 0 ∨ x = 1) (hq : 0 < q) (hsh : h.1[q]? = some (101, n)) (hin : vp_in i n) (k : z_G V M d bc bs (pc + 1) ls st (h.1, z_ui h.2.1 q (upd (h.2.1 q) i.toNatClampNeg x), h.2.2) Φ) : z_G V M d bc bs pc ls (.int x :: .int i :: .ref q :: st) h Φ := by
  intro p l e R s m args below meth c H locs cells slots LS QQ C hw hS hL hn hc hs ret
  obtain ⟨q', rfl⟩ : ∃ q', q = q' + 1 := ⟨q - 1, by omega⟩
  refine W.zast C.1 C.2.1 (hw.1 q' _ (z_get_z hsh)) ((C.2.2.2.2.2.2.2.2.1.2 1 _ rfl).1 n (fun j => .int (h.2.1 (q' + 1) j))) (fun z => by cases z) (by show ¬ (i < 0 ∨ (arrV _ _ _).slots.size ≤ _); rw [arrV_size]; exact hin) rfl rfl hd fun H1 e9 z oq => ?_
  have hb9 : narrow .boolean (.int x) = .int x := (z_nar_z hx).1
  obtain ⟨hw1, hS1⟩ := z_arr_set (V := V) (h := h) (g := upd (h.2.1 (q' + 1)) i.toNatClampNeg x) (cA := V.2.2.2.1.2.1) (i := i.toNatClampNeg) hw hS (Or.inr rfl) hsh (by unfold z_cell; rw [if_neg (by show ¬ (101 : Nat) = 100; decide), if_pos rfl]; show Sum.inl (_, _, Sum.inl (z_ui _ _ _ _)) = _; unfold z_ui; rw [if_pos rfl]) (by
    rw [e9, vp_cell_i, vp_cell_i]
    try rw [hb9]
    rw [arrV_store]
    congr 2
    funext j
    unfold updV upd
    split <;> rfl) z oq
  exact k p l e R s m args below meth c H1 _ cells slots LS QQ C hw1 hS1 hL hn hc hs ret
theorem zg_aald {q n t r : Nat} {i : Int32} (hd : decode M.2.1 pc = .ok (.aaload, 1)) (ht : t = 102 ∨ t = 103) (hsh : h.1[q]? = some (t, n)) (hin : vp_in i n) (hr : h.2.2 q i.toNatClampNeg = some r) (k : z_G V M d bc bs (pc + 1) ls (.ref r :: st) h Φ) : z_G V M d bc bs pc ls (.int i :: .ref q :: st) h Φ := by
  intro p l e R s m args below meth c H locs cells slots LS QQ C hw hS hL hn hc hs ret
  have hlt : i.toNatClampNeg < n := Nat.not_le.mp fun z => hin (Or.inr z)
  obtain ⟨q', rfl⟩ : ∃ q', q = q' + 1 := by
    cases q with
    | zero =>
      rw [hw.2.2.2.1] at hsh
      cases hsh
      rcases ht with ht | ht <;> cases ht
    | succ k => exact ⟨k, rfl⟩
  have k9 := k p l e R s m args below meth c H locs cells slots LS QQ C hw hS hL hn hc hs ret
  have hK := C.2.2.2.2.2.2.2.2.1
  rcases ht with rfl | rfl
  · have hg := hw.1 q' _ (z_get hsh)
    refine W.aald (v := va_rf ((h.2.2 (q' + 1) i.toNatClampNeg).map (z_ad V))) (ty := .array .int) C.1 C.2.1 (cell := vp_cell V.2.2.2.1.2.2.1 (n, .inr (.inr (.inr (.inr (fun j => (h.2.2 (q' + 1) j).map (z_ad V))))))) hg ((hK.2 2 _ rfl).1 n (fun j => va_rf ((h.2.2 (q' + 1) j).map (z_ad V)))) rfl (fun z => by cases z) (by show ¬ (i < 0 ∨ (arrV _ _ _).slots.size ≤ _); rw [arrV_size]; exact hin) (by show (arrV _ _ _).slots[_]? = _; rw [arrV_read _ _ hlt]) rfl rfl hd ?_
    rw [hr]
    exact k9
  · have hg := hw.1 q' _ (z_get hsh)
    refine W.aald (v := va_rf ((h.2.2 (q' + 1) i.toNatClampNeg).map (z_ad V))) (ty := .object "TorchPlate$Plight") C.1 C.2.1 (cell := vp_cell V.2.2.2.1.2.2.2 (n, .inr (.inr (.inr (.inr (fun j => (h.2.2 (q' + 1) j).map (z_ad V))))))) hg ((hK.2 3 _ rfl).1 n (fun j => va_rf ((h.2.2 (q' + 1) j).map (z_ad V)))) rfl (fun z => by cases z) (by show ¬ (i < 0 ∨ (arrV _ _ _).slots.size ≤ _); rw [arrV_size]; exact hin) (by show (arrV _ _ _).slots[_]? = _; rw [arrV_read _ _ hlt]) rfl rfl hd ?_
    rw [hr]
    exact k9
end ZG2
end
section
/-! ===== returns, contracts, calls ===== -/
def z_Pc (V : zV) (as : List Value) (h : zHP) : Array Value → State → Prop := fun a U => a = (as.map (z_rl V)).toArray ∧ z_W V h U.heap ∧ va_K V.1 vwCl (z_tys V) U ∧ z_N U ∧ va_X V.2.1 V.2.2.2.2.1 V.2.2.2.2.2 U U.heap ∧ V.2.1 < V.2.2.1 ∧ V.2.2.1 ≤ U.heap.size
def z_Qc (V : zV) (Φ : Option Value → zHP → Prop) : Array Value → State → Outcome → State → Prop := fun _ st oc t => ∃ (v : Option Value) (h' : zHP), Φ v h' ∧ oc = .returned (v.map (z_rl V)) ∧ z_W V h' t.heap ∧ va_F (fun q => V.2.2.1 ≤ q) st t
def z_rm (d mc ms : Nat) : Room := { frames := d, cells := mc, slots := ms, locals := 100 * d }
def z_wsM (M : zM) : List Cond := Cond.code M.1 M.2.1 M.2.2.1 M.2.2.2 :: wsL_law
def z_ent (M : zM) (as : List Value) : List Value := as ++ List.replicate (M.2.2.1 - as.length) .null
def z_ok (v : Value) : Bool := match v with
  | .int _ => true
  | .ref _ => true
  | _ => false
theorem z_ok_cat {v : Value} (h : z_ok v = true) : v.category = 1 := by cases v <;> first | rfl | cases h
theorem z_N.moved {u U : State} (h : z_N u) (hW : u.WarmedH U.vm) : z_N U := by
  intro w hw
  have hz := h w hw
  obtain ⟨a, i, x, y, rfl⟩ : ∃ a i x y, w = .methodLinkNest a i x y := by
    unfold z_nest at hw
    simp only [List.mem_cons, List.not_mem_nil, or_false] at hw
    rcases hw with h | h | h | h | h | h | h | h | h | h | h | h | h | h | h | h <;> exact ⟨_, _, _, _, h⟩
  exact va_Nw.warmM hW hz
theorem z_Pc.blind {V : zV} {as : List Value} {h : zHP} : FrameBlind (z_Pc V as h) := by
  intro a U g mk hp
  obtain ⟨h1, h2, h3, h4, h5, h6, h7⟩ := hp
  refine ⟨h1, h2, va_K.moved (u := U) (U := U.calling g mk a) (Vm.Alike.refl U.vm) h3, fun w hw => ?_, va_X.moved (u := U) (U := U.calling g mk a) (Vm.Alike.refl U.vm) h5, h6, h7⟩
  have hz := h4 w hw
  obtain ⟨a9, i, x, y, rfl⟩ : ∃ a i x y, w = .methodLinkNest a i x y := by
    unfold z_nest at hw
    simp only [List.mem_cons, List.not_mem_nil, or_false] at hw
    rcases hw with h | h | h | h | h | h | h | h | h | h | h | h | h | h | h | h <;> exact ⟨_, _, _, _, h⟩
  exact va_Nw.same rfl (u := U) (U := U.calling g mk a) rfl hz
theorem z_lg : ∀ (vs : List Value), (∀ v ∈ vs, v.category = 1) → lg_sl vs = vs.map Slot.val
  | [], _ => rfl
  | v :: vs, h => by
    have h1 : v.category = 1 := h v List.mem_cons_self
    have ih := z_lg vs (fun w hw => h w (List.mem_cons_of_mem _ hw))
    have e : lg_sl (v :: vs) = [.val v] ++ lg_sl vs := by simp [lg_sl, h1]
    rw [e, ih]
    rfl
theorem z_entL {V : zV} {M : zM} {as : List Value} (hl : as.length ≤ M.2.2.1) (ha : ∀ v ∈ as, z_ok v = true) : z_L V ((lg_sl (as.map (z_rl V)) ++ List.replicate (M.2.2.1 - (lg_sl (as.map (z_rl V))).length) Slot.unset).toArray) (z_ent M as) := by
  have hc : ∀ v ∈ as.map (z_rl V), v.category = 1 := fun v hv => by
    obtain ⟨w, hw, rfl⟩ := List.mem_map.mp hv
    have := z_ok_cat (ha w hw)
    cases w <;> first | rfl | exact this
  have hle := lv_entry (as.map (z_rl V)) (n := M.2.2.1) (by rw [z_lg _ hc]; simpa using hl)
  have hg := z_lg _ hc
  refine ⟨by rw [hle.1]; unfold z_ent; simp; omega, hle.2.1, fun i v hv hnn => ?_⟩
  unfold z_ent at hv
  by_cases hi : i < as.length
  · rw [List.getElem?_append_left hi] at hv
    rw [hg, List.getElem?_toArray, List.getElem?_append_left (by simpa using hi), List.getElem?_map, List.getElem?_map, hv]
    rfl
  · rw [List.getElem?_append_right (by omega), List.getElem?_replicate] at hv
    split at hv
    · cases hv; exact absurd rfl hnn
    · cases hv
theorem z_met {V : zV} {M : zM} {d mc ms : Nat} {as : List Value} {h : zHP} {Φ : Option Value → zHP → Prop} (hp : plainName M.1.cls = true) (hl : as.length ≤ M.2.2.1) (ha : ∀ v ∈ as, z_ok v = true)
    (k : z_G V M d mc ms 0 (z_ent M as) [] h Φ) (l : Launch) : Met l M.1 (z_wsM M) (z_rm d mc ms) (z_Pc V as h) (z_Qc V Φ) mc ms (fun q => V.2.2.1 ≤ q) := by
  refine Met.ofW (cc := M.2.1) (maxL := M.2.2.1) (ret := M.2.2.2) hp rfl ?_
  intro p e s m args below meth c s₁ B hml hv
  obtain ⟨rfl, h2, h3, h4, h5, h6, h7⟩ := hv
  have hts := atoms_spec (ws := z_wsM M) B.pre
  rw [lg_entry_eq]
  have C : z_C V M d p l e (z_rm d mc ms) s m (as.map (z_rl V)).toArray below meth c := ⟨B.exec, B.bytes, B.returns, hml, findClass_of_methodNamed B.named, B.notSynchronized, fun w hw => hts w (List.mem_cons_of_mem _ hw), h4, h3, Nat.le_refl _, Nat.le_refl _, h5, h6, h7, (name_of_methodNamed B.named B.method).1⟩
  refine k p l e (z_rm d mc ms) s m _ below meth c s.heap [] 0 0 _ _ C h2 va_S.rf (z_entL hl ha) (by unfold z_ent; simp; omega) (by rw [Nat.zero_add]; exact Nat.le_refl _) (by rw [Nat.zero_add]; exact Nat.le_refl _) ?_
  intro v h' H' locs' pc' LS' i hΦ hw hS hR hd
  rw [Nat.zero_add, Nat.zero_add]
  have hlk := B.notSynchronized
  cases v with
  | none =>
    obtain ⟨rfl, hr⟩ := hR
    exact W.vret B.exec B.bytes (B.returns.trans hr) (fun t ht hW => ⟨none, h', hΦ, rfl, by rw [ht]; exact hw, hS.F ht⟩) hS.2.2 hd
  | some v =>
    cases v with
    | int x =>
      obtain ⟨rfl, ty, hr, hn⟩ := hR
      exact W.zret (v := x) B.exec B.bytes (B.returns.trans hr) hn (fun t ht hW => ⟨some (.int x), h', hΦ, rfl, by rw [ht]; exact hw, hS.F ht⟩) hS.2.2 hd
    | ref x =>
      obtain ⟨rfl, ty, hr, hn⟩ := hR
      exact W.aret (v := .ref (z_ad V x)) B.exec B.bytes (B.returns.trans hr) hn (Or.inr ⟨_, rfl⟩) (fun t ht hW => ⟨some (.ref x), h', hΦ, rfl, by rw [ht]; exact hw, hS.F ht⟩) hS.2.2 hd
    | _ => exact hR.elim
section ZG3
variable {V : zV} {M M' : zM} {d bc bs pc mc ms idx : Nat} {ls st rest : List Value} {h : zHP} {Φ Ψ : Option Value → zHP → Prop}
theorem zg_ret {v : Option Value} {i : Instr} (hd : decode M.2.1 pc = .ok (i, 1)) (hR : z_R M v i) (hst : st = v.toList) (k : Φ v h) : z_G V M d bc bs pc ls st h Φ := by
  intro p l e R s m args below meth c H locs cells slots LS QQ C hw hS hL hn hc hs ret
  subst hst
  exact W.widen (Nat.le_add_right _ _) (Nat.le_add_right _ _) (ret v h H locs pc LS i k hw hS hR hd)
theorem z_Pc.of {as : List Value} {p : Program} {l : Launch} {e : Env} {R : Room} {s U : State} {m : MethodId} {args : Array Value} {below : List Frame} {meth : Method} {c : Code} {H : Heap} {locs : List Loc} (C : z_C V M d p l e R s m args below meth c) (hw : z_W V h H) (hS : va_S (fun q => V.2.2.1 ≤ q) s.heap H locs) (hU : U.heap = H) (hW : s.WarmedH U.vm) : z_Pc V as h (as.map (z_rl V)).toArray U := by
  obtain ⟨hx, hb, hr, hml, hown, hlk, hts, hN, hK, hfr, hlo, hX, hbB, hBs, hnm⟩ := C
  refine ⟨rfl, by rw [hU]; exact hw, va_K.moved hW.alike hK, hN.moved hW, ?_, hbB, by rw [hU]; exact Nat.le_trans hBs hS.1⟩
  rw [hU]
  exact va_X.moved hW.alike (hX.kept (hS.2.1 V.2.1 (by omega) (by show ¬ V.2.2.1 ≤ V.2.1; omega)))
/-- behind a call -/
theorem z_behind {p : Program} {l : Launch} {e : Env} {R : Room} {s : State} {m : MethodId} {args : Array Value} {below : List Frame} {meth : Method} {c : Code} {H : Heap} {locs : List Loc} {cells slots : Nat} {LS : Array Slot} {QQ : State → Prop} {st0 : List Value} {a : Array Value}
    (C : z_C V M d p l e R s m args below meth c) (hS : va_S (fun q => V.2.2.1 ≤ q) s.heap H locs) (hL : z_L V LS ls) (hn : M.2.2.1 = ls.length) (hc : cells + (mc + bc) ≤ R.cells) (hs : slots + (ms + bs) ≤ R.slots)
    (hrun : va_Run p l e R s m args below meth c H locs cells slots mc ms (F0 m pc LS st0) (rest.map (z_rl V)) (z_Qc V Ψ a) (fun q => V.2.2.1 ≤ q))
    (ret : ∀ (v : Option Value) (h' : zHP) (H' : Heap) (locs' : List Loc) (pc' : Nat) (LS' : Array Slot) (i : Instr), Φ v h' → z_W V h' H' → va_S (fun q => V.2.2.1 ≤ q) s.heap H' locs' → z_R M v i → decode M.2.1 pc' = .ok (i, 1) → W p l e R s m args below meth c H' locs' (cells + (mc + bc)) (slots + (ms + bs)) QQ (F0 m pc' LS' (v.toList.map (z_rl V))))
    (k : ∀ v h', Ψ v h' → z_G V M d bc bs (pc + 3) ls (v.toList ++ rest) h' Φ) : W p l e R s m args below meth c H locs cells slots QQ (F0 m pc LS st0) := by
  intro T hT X
  obtain ⟨v, st₀, t, T', L, h0, X', hLo, e1, e2, ⟨v', h', hΨ, hv, hw', hF⟩, step⟩ := hrun T hT X
  cases hv
  have hS' : va_S (fun q => V.2.2.1 ≤ q) s.heap T'.heap (locs ++ L) := by
    rw [e1]
    refine ⟨Nat.le_trans hS.1 (by have := hF.1; rw [h0] at this; exact this), fun q h1 h2 => ?_, fun q hq => ?_⟩
    · have := hF.2 q (by rw [h0]; exact Nat.lt_of_lt_of_le h1 hS.1) h2
      rw [this, h0]
      exact hS.2.1 q h1 h2
    · rcases List.mem_append.mp hq with h9 | h9
      · exact hS.2.2 q h9
      · exact hLo q h9
  have k9 := k v' h' hΨ p l e R s m args below meth c T'.heap (locs ++ L) (cells + mc) (slots + ms) LS QQ C (by rw [e1]; exact hw') hS' hL hn (by omega) (by omega) (by
    intro v9 h9 H9 locs9 pc9 LS9 i9 a1 a2 a3 a4 a5
    have := ret v9 h9 H9 locs9 pc9 LS9 i9 a1 a2 a3 a4 a5
    rw [Nat.add_assoc, Nat.add_assoc]
    exact this)
  obtain ⟨t2, a1, b1⟩ := k9 T' rfl X'
  refine ⟨t2, step t2 ?_, b1⟩
  have e9 : (v'.toList ++ rest).map (z_rl V) = (v'.map (z_rl V)).toList ++ rest.map (z_rl V) := by cases v' <;> rfl
  rw [← e9]
  exact a1
/-- what the tables say of a method that is called -/
def z_K0 (M' : zM) (n : Nat) : Prop := Cond.code M'.1 M'.2.1 M'.2.2.1 M'.2.2.2 ∈ wsL_law ∧ Cond.initialized M'.1.cls ∈ wsL_law ∧ (M'.1.cls ≠ "java/lang/invoke/MethodHandle" ∧ M'.1.cls ≠ "java/lang/invoke/VarHandle") ∧ (parseMethodDescriptor M'.1.desc).map (fun d => d.parameters.length) = some n ∧ plainName M'.1.cls = true ∧ M'.2.2.1 ≤ 81
def z_KV (own : String) (idx : Nat) (M' : zM) (n : Nat) : Prop := z_K0 M' n ∧ Cond.methodLink own idx M'.1 ∈ wsL_law ∧ Cond.instanceMethod M'.1 ∈ wsL_law ∧ Cond.selects M'.1.cls M'.1 M'.1 ∈ wsL_law
def z_KS (own : String) (idx : Nat) (M' : zM) (n : Nat) : Prop := z_K0 M' n ∧ Cond.methodLink own idx M'.1 ∈ wsL_law ∧ Cond.static M'.1 ∈ wsL_law
def z_KT (own : String) (idx : Nat) (M' : zM) (n : Nat) : Prop := z_K0 M' n ∧ (∃ host, Cond.methodLinkNest own idx M'.1 host ∈ z_nest) ∧ Cond.static M'.1 ∈ wsL_law
def z_KI (own : String) (idx : Nat) (M' : zM) (n : Nat) : Prop := z_K0 M' n ∧ Cond.methodLink own idx M'.1 ∈ wsL_law ∧ Cond.instanceMethod M'.1 ∈ wsL_law ∧ M'.1.name = "<init>" ∧ M'.2.2.2 = none
def z_KJ (own : String) (idx : Nat) (M' : zM) (n : Nat) : Prop := z_K0 M' n ∧ (∃ host, Cond.methodLinkNest own idx M'.1 host ∈ z_nest) ∧ Cond.instanceMethod M'.1 ∈ wsL_law ∧ M'.1.name = "<init>" ∧ M'.2.2.2 = none
theorem z_gw {M' : zM} {n : Nat} (h : z_K0 M' n) : GoodIn wsL_law (z_wsM M') := by
  intro w hw
  rcases List.mem_cons.mp hw with rfl | hw
  · exact z_good _ h.1
  · exact z_good _ hw
theorem z_cat {l : List Value} : ((l.map (z_rl V)).map fun v => v.category) = l.map fun v => v.category := by
  rw [List.map_map]
  apply List.map_congr_left
  intro v _
  cases v <;> rfl
theorem z_hlen {M' : zM} {n : Nat} (h : z_K0 M' n) : ∀ sig, parseMethodDescriptor M'.1.desc = some sig → n = sig.parameters.length := by
  intro sig hs
  have h2 := h.2.2.2.1
  rw [hs] at h2
  exact (Option.some.inj h2).symm
theorem zg_callS {As : List Value} {n : Nat} (hd : decode M.2.1 pc = .ok (.invokestatic idx, 3)) (hk : z_KS M.1.cls idx M' n) (hn9 : As.length = n) (hst : st = As.reverse ++ rest) (hr : (rest.map fun v => v.category).sum ≤ 8) (hal : As.length ≤ M'.2.2.1) (ha : As.all z_ok = true)
    (kc : z_G V M' d mc ms 0 (z_ent M' As) [] h Ψ) (k : ∀ v h', Ψ v h' → z_G V M (d + 1) bc bs (pc + 3) ls (v.toList ++ rest) h' Φ) : z_G V M (d + 1) (mc + bc) (ms + bs) pc ls st h Φ := by
  intro p l e R s m args below meth c H locs cells slots LS QQ C hw hS hL hn hc hs ret
  have hM := z_met (V := V) hk.1.2.2.2.2.1 hal (List.all_eq_true.mp ha) kc l
  have C0 := C
  obtain ⟨hx, hb, hr9, hml, hown, hlk, hts, hN, hK, hfr, hlo, hX, hbB, hBs, hnm⟩ := C
  have h81 := hk.1.2.2.2.2.2
  refine z_behind (rest := rest) (a := (As.map (z_rl V)).toArray) C0 hS hL hn hc hs (va_runS (n := n) (As := As.map (z_rl V)) ⟨hx, hb, hml, hown, hts⟩ hM ⟨⟨rfl, rfl, by show d + 1 ≤ _; omega, by show 8 + (M'.2.2.1 + 11) + 100 * d ≤ _; omega, pay_in hts (z_gw hk.1), List.mem_cons_self, hts _ hk.1.1, hts _ hk.1.2.1, hk.1.2.2.1, z_hlen hk.1, hts _ hk.2.1⟩, hts _ hk.2.2⟩ ⟨z_Pc.blind, fun U hU hW => z_Pc.of C0 hw hS hU hW⟩ rfl (by rw [List.length_map]; exact hn9) (hL.1.trans hn.symm) (by subst hst; simp) (by rw [z_cat]; exact lv_room (m := m) (pc := 0) (ls := LS) (rest := []) hr) hd ⟨by omega, by omega⟩) ret k
theorem zg_callT {As : List Value} {n : Nat} (hd : decode M.2.1 pc = .ok (.invokestatic idx, 3)) (hk : z_KT M.1.cls idx M' n) (hn9 : As.length = n) (hst : st = As.reverse ++ rest) (hr : (rest.map fun v => v.category).sum ≤ 8) (hal : As.length ≤ M'.2.2.1) (ha : As.all z_ok = true)
    (kc : z_G V M' d mc ms 0 (z_ent M' As) [] h Ψ) (k : ∀ v h', Ψ v h' → z_G V M (d + 1) bc bs (pc + 3) ls (v.toList ++ rest) h' Φ) : z_G V M (d + 1) (mc + bc) (ms + bs) pc ls st h Φ := by
  intro p l e R s m args below meth c H locs cells slots LS QQ C hw hS hL hn hc hs ret
  have hM := z_met (V := V) hk.1.2.2.2.2.1 hal (List.all_eq_true.mp ha) kc l
  have C0 := C
  obtain ⟨hx, hb, hr9, hml, hown, hlk, hts, hN, hK, hfr, hlo, hX, hbB, hBs, hnm⟩ := C
  have h81 := hk.1.2.2.2.2.2
  obtain ⟨hk0, ⟨host, hkn⟩, hkst⟩ := hk
  refine z_behind (rest := rest) (a := (As.map (z_rl V)).toArray) C0 hS hL hn hc hs (va_runSN (n := n) (As := As.map (z_rl V)) (host := host) ⟨hx, hb, hml, hown, hts⟩ hM ⟨⟨⟨rfl, rfl, by show d + 1 ≤ _; omega, by show 8 + (M'.2.2.1 + 11) + 100 * d ≤ _; omega, pay_in hts (z_gw hk0), List.mem_cons_self⟩, hts _ hk0.1, hts _ hk0.2.1, hk0.2.2.1, z_hlen hk0, va_Nw.use rfl (hN _ hkn)⟩, hts _ hkst, trivial⟩ ⟨z_Pc.blind, fun U hU hW => z_Pc.of C0 hw hS hU hW⟩ rfl (by rw [List.length_map]; exact hn9) (hL.1.trans hn.symm) (by subst hst; simp) (by rw [z_cat]; exact lv_room (m := m) (pc := 0) (ls := LS) (rest := []) hr) hd ⟨by omega, by omega⟩) ret k
theorem zg_callV {As : List Value} {n q ci nf : Nat} (hd : decode M.2.1 pc = .ok (.invokevirtual idx, 3)) (hk : z_KV M.1.cls idx M' n) (hsh : h.1[q]? = some (ci, nf)) (hci : ci < 100) (hcn : ∃ T N, vwCl[ci]? = some (M'.1.cls, T, N)) (hn9 : As.length = n) (hst : st = As.reverse ++ .ref q :: rest) (hr : (rest.map fun v => v.category).sum ≤ 8) (hal : As.length + 1 ≤ M'.2.2.1) (ha : As.all z_ok = true)
    (kc : z_G V M' d mc ms 0 (z_ent M' (.ref q :: As)) [] h Ψ) (k : ∀ v h', Ψ v h' → z_G V M (d + 1) bc bs (pc + 3) ls (v.toList ++ rest) h' Φ) : z_G V M (d + 1) (mc + bc) (ms + bs) pc ls st h Φ := by
  intro p l e R s m args below meth c H locs cells slots LS QQ C hw hS hL hn hc hs ret
  have hM := z_met (V := V) (as := .ref q :: As) hk.1.2.2.2.2.1 (by simpa using hal) (List.all_eq_true.mp (by rw [List.all_cons, ha]; rfl)) kc l
  have C0 := C
  obtain ⟨hx, hb, hr9, hml, hown, hlk, hts, hN, hK, hfr, hlo, hX, hbB, hBs, hnm⟩ := C
  have h81 := hk.1.2.2.2.2.2
  obtain ⟨T, N, hcn⟩ := hcn
  obtain ⟨q', rfl⟩ := hw.pos hsh hci
  have he : (z_ws V h)[q']? = some (z_ad V (q' + 1), .inr (ci, (List.range nf).map (z_val V h ci (q' + 1)))) := by rw [z_get hsh, z_cell_o hci]
  refine z_behind (rest := rest) (a := ((Value.ref (q' + 1) :: As).map (z_rl V)).toArray) C0 hS hL hn hc hs (va_runV (n := n) (As := As.map (z_rl V)) (b := z_ad V (q' + 1)) ⟨hx, hb, hml, hown, hts⟩ hM ⟨⟨rfl, rfl, by show d + 1 ≤ _; omega, by show 8 + (M'.2.2.1 + 11) + 100 * d ≤ _; omega, pay_in hts (z_gw hk.1), List.mem_cons_self, hts _ hk.1.1, hts _ hk.1.2.1, hk.1.2.2.1, z_hlen hk.1, hts _ hk.2.1⟩, hts _ hk.2.2.1, hts _ hk.2.2.2⟩ ⟨z_Pc.blind, va_recv hK hw.1 hcn he, fun U hU hW => z_Pc.of C0 hw hS hU hW⟩ rfl (by rw [List.length_map]; exact hn9) (hL.1.trans hn.symm) (by subst hst; simp [z_rl]) (by rw [z_cat]; exact lv_room (m := m) (pc := 0) (ls := LS) (rest := []) hr) hd ⟨by omega, by omega⟩) ret k
theorem zg_callI {As : List Value} {n q : Nat} (hd : decode M.2.1 pc = .ok (.invokespecial idx, 3)) (hk : z_KI M.1.cls idx M' n) (hn9 : As.length = n) (hst : st = As.reverse ++ .ref q :: rest) (hr : (rest.map fun v => v.category).sum ≤ 8) (hal : As.length + 1 ≤ M'.2.2.1) (ha : As.all z_ok = true)
    (kc : z_G V M' d mc ms 0 (z_ent M' (.ref q :: As)) [] h Ψ) (k : ∀ v h', Ψ v h' → z_G V M (d + 1) bc bs (pc + 3) ls (v.toList ++ rest) h' Φ) : z_G V M (d + 1) (mc + bc) (ms + bs) pc ls st h Φ := by
  intro p l e R s m args below meth c H locs cells slots LS QQ C hw hS hL hn hc hs ret
  have hM := z_met (V := V) (as := .ref q :: As) hk.1.2.2.2.2.1 (by simpa using hal) (List.all_eq_true.mp (by rw [List.all_cons, ha]; rfl)) kc l
  have C0 := C
  obtain ⟨hx, hb, hr9, hml, hown, hlk, hts, hN, hK, hfr, hlo, hX, hbB, hBs, hnm⟩ := C
  obtain ⟨hk0, hkl, hki, hkn, hkr⟩ := hk
  have h81 := hk0.2.2.2.2.2
  have hcd := hk0.1
  have hwm : z_wsM M' = Cond.code M'.1 M'.2.1 M'.2.2.1 none :: wsL_law := by unfold z_wsM; rw [hkr]
  refine z_behind (rest := rest) (a := ((Value.ref q :: As).map (z_rl V)).toArray) C0 hS hL hn hc hs (va_runI (n := n) (As := As.map (z_rl V)) (b := z_ad V q) (bytes := M'.2.1) (maxL := M'.2.2.1) ⟨hx, hb, hml, hown, hts⟩ hM ⟨⟨rfl, rfl, by show d + 1 ≤ _; omega, by show 8 + (M'.2.2.1 + 11) + 100 * d ≤ _; omega, pay_in hts (z_gw hk0), by rw [hwm]; exact List.mem_cons_self, hts _ (hkr ▸ hcd), hts _ hk0.2.1, hk0.2.2.1, z_hlen hk0, hts _ hkl⟩, hkn, hts _ hki⟩ ⟨z_Pc.blind, fun U hU hW => z_Pc.of C0 hw hS hU hW⟩ rfl (by rw [List.length_map]; exact hn9) (hL.1.trans hn.symm) (by subst hst; simp [z_rl]) (by rw [z_cat]; exact lv_room (m := m) (pc := 0) (ls := LS) (rest := []) hr) hd ⟨by omega, by omega⟩) ret k
theorem zg_callJ {As : List Value} {n q : Nat} (hd : decode M.2.1 pc = .ok (.invokespecial idx, 3)) (hk : z_KJ M.1.cls idx M' n) (hn9 : As.length = n) (hst : st = As.reverse ++ .ref q :: rest) (hr : (rest.map fun v => v.category).sum ≤ 8) (hal : As.length + 1 ≤ M'.2.2.1) (ha : As.all z_ok = true)
    (kc : z_G V M' d mc ms 0 (z_ent M' (.ref q :: As)) [] h Ψ) (k : ∀ v h', Ψ v h' → z_G V M (d + 1) bc bs (pc + 3) ls (v.toList ++ rest) h' Φ) : z_G V M (d + 1) (mc + bc) (ms + bs) pc ls st h Φ := by
  intro p l e R s m args below meth c H locs cells slots LS QQ C hw hS hL hn hc hs ret
  have hM := z_met (V := V) (as := .ref q :: As) hk.1.2.2.2.2.1 (by simpa using hal) (List.all_eq_true.mp (by rw [List.all_cons, ha]; rfl)) kc l
  have C0 := C
  obtain ⟨hx, hb, hr9, hml, hown, hlk, hts, hN, hK, hfr, hlo, hX, hbB, hBs, hnm⟩ := C
  obtain ⟨hk0, ⟨host, hkl⟩, hki, hkn, hkr⟩ := hk
  have h81 := hk0.2.2.2.2.2
  have hcd := hk0.1
  have hwm : z_wsM M' = Cond.code M'.1 M'.2.1 M'.2.2.1 none :: wsL_law := by unfold z_wsM; rw [hkr]
  refine z_behind (rest := rest) (a := ((Value.ref q :: As).map (z_rl V)).toArray) C0 hS hL hn hc hs (va_runIN (n := n) (As := As.map (z_rl V)) (host := host) (b := z_ad V q) (bytes := M'.2.1) (maxL := M'.2.2.1) ⟨hx, hb, hml, hown, hts⟩ hM ⟨⟨⟨rfl, rfl, by show d + 1 ≤ _; omega, by show 8 + (M'.2.2.1 + 11) + 100 * d ≤ _; omega, pay_in hts (z_gw hk0), by rw [hwm]; exact List.mem_cons_self⟩, hts _ (hkr ▸ hcd), hts _ hk0.2.1, hk0.2.2.1, z_hlen hk0, va_Nw.use rfl (hN _ hkl)⟩, hkn, hts _ hki⟩ ⟨z_Pc.blind, fun U hU hW => z_Pc.of C0 hw hS hU hW⟩ rfl (by rw [List.length_map]; exact hn9) (hL.1.trans hn.symm) (by subst hst; simp [z_rl]) (by rw [z_cat]; exact lv_room (m := m) (pc := 0) (ls := LS) (rest := []) hr) hd ⟨by omega, by omega⟩) ret k
/-- Math's three -/
theorem zg_mmax {x y : Int32} (hd : decode M.2.1 pc = .ok (.invokestatic idx, 3)) (hk : Cond.methodLink M.1.cls idx Lib.Math.max.name ∈ wsL_law) (h1 : Cond.static Lib.Math.max.name ∈ wsL_law) (h2 : Cond.initialized "java/lang/Math" ∈ wsL_law) (h3 : Cond.code Lib.Math.max.name Lib.Math.max.code 2 (some .int) ∈ wsL_law) (hr : (rest.map fun v => v.category).sum ≤ 8) (k : z_G V M (d + 1) bc bs (pc + 3) ls (.int (if x < y then y else x) :: rest) h Φ) : z_G V M (d + 1) bc bs pc ls (.int y :: .int x :: rest) h Φ := by
  intro p l e R s m args below meth c H locs cells slots LS QQ C hw hS hL hn hc hs ret
  have k9 := k p l e R s m args below meth c H locs cells slots LS QQ C hw hS hL hn hc hs ret
  obtain ⟨hx, hb, hr9, hml, hown, hlk, hts, hN, hK, hfr, hlo, hX, hbB, hBs, hnm⟩ := C
  exact va_mmax hx hb (by rw [hml, hn]; exact hL.1.symm) hown (hts _ hk) (hts _ h1) (hts _ h2) (hts _ h3) (by omega) (by rw [z_cat]; omega) (by omega) (by omega) hd k9
theorem zg_mmin {x y : Int32} (hd : decode M.2.1 pc = .ok (.invokestatic idx, 3)) (hk : Cond.methodLink M.1.cls idx Lib.Math.min.name ∈ wsL_law) (h1 : Cond.static Lib.Math.min.name ∈ wsL_law) (h2 : Cond.initialized "java/lang/Math" ∈ wsL_law) (h3 : Cond.code Lib.Math.min.name Lib.Math.min.code 2 (some .int) ∈ wsL_law) (hr : (rest.map fun v => v.category).sum ≤ 8) (k : z_G V M (d + 1) bc bs (pc + 3) ls (.int (if y < x then y else x) :: rest) h Φ) : z_G V M (d + 1) bc bs pc ls (.int y :: .int x :: rest) h Φ := by
  intro p l e R s m args below meth c H locs cells slots LS QQ C hw hS hL hn hc hs ret
  have k9 := k p l e R s m args below meth c H locs cells slots LS QQ C hw hS hL hn hc hs ret
  obtain ⟨hx, hb, hr9, hml, hown, hlk, hts, hN, hK, hfr, hlo, hX, hbB, hBs, hnm⟩ := C
  exact va_mmin hx hb (by rw [hml, hn]; exact hL.1.symm) hown (hts _ hk) (hts _ h1) (hts _ h2) (hts _ h3) (by omega) (by rw [z_cat]; omega) (by omega) (by omega) hd k9
theorem zg_mabs {x : Int32} (hd : decode M.2.1 pc = .ok (.invokestatic idx, 3)) (hk : Cond.methodLink M.1.cls idx Lib.Math.abs.name ∈ wsL_law) (h1 : Cond.static Lib.Math.abs.name ∈ wsL_law) (h2 : Cond.initialized "java/lang/Math" ∈ wsL_law) (h3 : Cond.code Lib.Math.abs.name Lib.Math.abs.code 1 (some .int) ∈ wsL_law) (hr : (rest.map fun v => v.category).sum ≤ 8) (k : z_G V M (d + 1) bc bs (pc + 3) ls (.int (if 0 ≤ x then x else 0 - x) :: rest) h Φ) : z_G V M (d + 1) bc bs pc ls (.int x :: rest) h Φ := by
  intro p l e R s m args below meth c H locs cells slots LS QQ C hw hS hL hn hc hs ret
  have k9 := k p l e R s m args below meth c H locs cells slots LS QQ C hw hS hL hn hc hs ret
  obtain ⟨hx, hb, hr9, hml, hown, hlk, hts, hN, hK, hfr, hlo, hX, hbB, hBs, hnm⟩ := C
  exact va_mabs hx hb (by rw [hml, hn]; exact hL.1.symm) hown (hts _ hk) (hts _ h1) (hts _ h2) (hts _ h3) (by omega) (by rw [z_cat]; omega) (by omega) (by omega) hd k9
end ZG3
end
