section
-- ===== PART A: goes FIRST, ahead of the names: the tables' words, and 'selects' of the private methods out of them =====
/-- a private method of a class that the tables say can be made, by its rows of tables_1 -/
def lw_okq (q : MethodName × Nat) : Prop := (q.1.cls ≠ "java/lang/invoke/MethodHandle" ∧ q.1.cls ≠ "java/lang/invoke/VarHandle") ∧ Cond.instantiable q.1.cls q.2 ∈ tables_1 ∧ Cond.privateMethod q.1 ∈ tables_1 ∧ Cond.instanceMethod q.1 ∈ tables_1
theorem lw_p0 : lw_okq (⟨"TorchPlate$Reader", "readToken", "([II)V"⟩, 9) := ⟨⟨by decide +kernel, by decide +kernel⟩, List.mem_of_getElem? (i := 111) (by decide +kernel), List.mem_of_getElem? (i := 385) (by decide +kernel), List.mem_of_getElem? (i := 386) (by decide +kernel)⟩
theorem lw_p1 : lw_okq (⟨"TorchPlate$Reader", "readNumber", "([II)V"⟩, 9) := ⟨⟨by decide +kernel, by decide +kernel⟩, List.mem_of_getElem? (i := 111) (by decide +kernel), List.mem_of_getElem? (i := 395) (by decide +kernel), List.mem_of_getElem? (i := 396) (by decide +kernel)⟩
theorem lw_p2 : lw_okq (⟨"TorchPlate$Reader", "takesToken", "(LTorchPlate$Plate;)Z"⟩, 9) := ⟨⟨by decide +kernel, by decide +kernel⟩, List.mem_of_getElem? (i := 111) (by decide +kernel), List.mem_of_getElem? (i := 399) (by decide +kernel), List.mem_of_getElem? (i := 400) (by decide +kernel)⟩
theorem lw_p3 : lw_okq (⟨"TorchPlate$Reader", "beginsItem", "(LTorchPlate$Plate;)Z"⟩, 9) := ⟨⟨by decide +kernel, by decide +kernel⟩, List.mem_of_getElem? (i := 111) (by decide +kernel), List.mem_of_getElem? (i := 403) (by decide +kernel), List.mem_of_getElem? (i := 404) (by decide +kernel)⟩
theorem lw_p4 : lw_okq (⟨"TorchPlate$Reader", "endsItem", "(LTorchPlate$Plate;)Z"⟩, 9) := ⟨⟨by decide +kernel, by decide +kernel⟩, List.mem_of_getElem? (i := 111) (by decide +kernel), List.mem_of_getElem? (i := 407) (by decide +kernel), List.mem_of_getElem? (i := 408) (by decide +kernel)⟩
theorem lw_p5 : lw_okq (⟨"TorchPlate$Reader", "endsRing", "(LTorchPlate$Plate;)Z"⟩, 9) := ⟨⟨by decide +kernel, by decide +kernel⟩, List.mem_of_getElem? (i := 111) (by decide +kernel), List.mem_of_getElem? (i := 411) (by decide +kernel), List.mem_of_getElem? (i := 412) (by decide +kernel)⟩
theorem lw_p6 : lw_okq (⟨"TorchPlate$Reader", "takesNumber", "(LTorchPlate$Plate;)Z"⟩, 9) := ⟨⟨by decide +kernel, by decide +kernel⟩, List.mem_of_getElem? (i := 111) (by decide +kernel), List.mem_of_getElem? (i := 426) (by decide +kernel), List.mem_of_getElem? (i := 427) (by decide +kernel)⟩
theorem lw_p7 : lw_okq (⟨"TorchPlate$Reader", "takesHeat", "(LTorchPlate$Plate;)Z"⟩, 9) := ⟨⟨by decide +kernel, by decide +kernel⟩, List.mem_of_getElem? (i := 111) (by decide +kernel), List.mem_of_getElem? (i := 430) (by decide +kernel), List.mem_of_getElem? (i := 431) (by decide +kernel)⟩
theorem lw_p8 : lw_okq (⟨"TorchPlate$Reader", "takesPlace", "(LTorchPlate$Plate;)Z"⟩, 9) := ⟨⟨by decide +kernel, by decide +kernel⟩, List.mem_of_getElem? (i := 111) (by decide +kernel), List.mem_of_getElem? (i := 434) (by decide +kernel), List.mem_of_getElem? (i := 435) (by decide +kernel)⟩
theorem lw_p9 : lw_okq (⟨"TorchPlate$Reader", "takesRingCorner", "(LTorchPlate$Plate;)Z"⟩, 9) := ⟨⟨by decide +kernel, by decide +kernel⟩, List.mem_of_getElem? (i := 111) (by decide +kernel), List.mem_of_getElem? (i := 442) (by decide +kernel), List.mem_of_getElem? (i := 443) (by decide +kernel)⟩
theorem lw_p10 : lw_okq (⟨"TorchPlate$Reader", "takesSeamCorner", "(LTorchPlate$Plate;)Z"⟩, 9) := ⟨⟨by decide +kernel, by decide +kernel⟩, List.mem_of_getElem? (i := 111) (by decide +kernel), List.mem_of_getElem? (i := 447) (by decide +kernel), List.mem_of_getElem? (i := 448) (by decide +kernel)⟩
theorem lw_p11 : lw_okq (⟨"TorchPlate$Plate", "numberCuts", "()V"⟩, 14) := ⟨⟨by decide +kernel, by decide +kernel⟩, List.mem_of_getElem? (i := 24) (by decide +kernel), List.mem_of_getElem? (i := 455) (by decide +kernel), List.mem_of_getElem? (i := 456) (by decide +kernel)⟩
theorem lw_p12 : lw_okq (⟨"TorchPlate$Plate", "cutsOfRing", "(I)I"⟩, 14) := ⟨⟨by decide +kernel, by decide +kernel⟩, List.mem_of_getElem? (i := 24) (by decide +kernel), List.mem_of_getElem? (i := 459) (by decide +kernel), List.mem_of_getElem? (i := 460) (by decide +kernel)⟩
theorem lw_p13 : lw_okq (⟨"TorchPlate$Plate", "nextInRing", "(II)I"⟩, 14) := ⟨⟨by decide +kernel, by decide +kernel⟩, List.mem_of_getElem? (i := 24) (by decide +kernel), List.mem_of_getElem? (i := 463) (by decide +kernel), List.mem_of_getElem? (i := 464) (by decide +kernel)⟩
theorem lw_p14 : lw_okq (⟨"TorchPlate$Plate", "partsAround", "(I)I"⟩, 14) := ⟨⟨by decide +kernel, by decide +kernel⟩, List.mem_of_getElem? (i := 24) (by decide +kernel), List.mem_of_getElem? (i := 475) (by decide +kernel), List.mem_of_getElem? (i := 476) (by decide +kernel)⟩
theorem lw_p15 : lw_okq (⟨"TorchPlate$Plate", "goesRound", "(II)Z"⟩, 14) := ⟨⟨by decide +kernel, by decide +kernel⟩, List.mem_of_getElem? (i := 24) (by decide +kernel), List.mem_of_getElem? (i := 479) (by decide +kernel), List.mem_of_getElem? (i := 480) (by decide +kernel)⟩
def lw_privs_1 : List (MethodName × Nat) := [(⟨"TorchPlate$Reader", "readToken", "([II)V"⟩, 9), (⟨"TorchPlate$Reader", "readNumber", "([II)V"⟩, 9), (⟨"TorchPlate$Reader", "takesToken", "(LTorchPlate$Plate;)Z"⟩, 9), (⟨"TorchPlate$Reader", "beginsItem", "(LTorchPlate$Plate;)Z"⟩, 9), (⟨"TorchPlate$Reader", "endsItem", "(LTorchPlate$Plate;)Z"⟩, 9), (⟨"TorchPlate$Reader", "endsRing", "(LTorchPlate$Plate;)Z"⟩, 9), (⟨"TorchPlate$Reader", "takesNumber", "(LTorchPlate$Plate;)Z"⟩, 9), (⟨"TorchPlate$Reader", "takesHeat", "(LTorchPlate$Plate;)Z"⟩, 9), (⟨"TorchPlate$Reader", "takesPlace", "(LTorchPlate$Plate;)Z"⟩, 9), (⟨"TorchPlate$Reader", "takesRingCorner", "(LTorchPlate$Plate;)Z"⟩, 9), (⟨"TorchPlate$Reader", "takesSeamCorner", "(LTorchPlate$Plate;)Z"⟩, 9), (⟨"TorchPlate$Plate", "numberCuts", "()V"⟩, 14), (⟨"TorchPlate$Plate", "cutsOfRing", "(I)I"⟩, 14), (⟨"TorchPlate$Plate", "nextInRing", "(II)I"⟩, 14), (⟨"TorchPlate$Plate", "partsAround", "(I)I"⟩, 14), (⟨"TorchPlate$Plate", "goesRound", "(II)Z"⟩, 14)]
theorem lw_r1 : ∀ q ∈ lw_privs_1, lw_okq q := List.forall_mem_cons.mpr ⟨lw_p0, List.forall_mem_cons.mpr ⟨lw_p1, List.forall_mem_cons.mpr ⟨lw_p2, List.forall_mem_cons.mpr ⟨lw_p3, List.forall_mem_cons.mpr ⟨lw_p4, List.forall_mem_cons.mpr ⟨lw_p5, List.forall_mem_cons.mpr ⟨lw_p6, List.forall_mem_cons.mpr ⟨lw_p7, List.forall_mem_cons.mpr ⟨lw_p8, List.forall_mem_cons.mpr ⟨lw_p9, List.forall_mem_cons.mpr ⟨lw_p10, List.forall_mem_cons.mpr ⟨lw_p11, List.forall_mem_cons.mpr ⟨lw_p12, List.forall_mem_cons.mpr ⟨lw_p13, List.forall_mem_cons.mpr ⟨lw_p14, List.forall_mem_cons.mpr ⟨lw_p15, fun _ h => absurd h List.not_mem_nil⟩⟩⟩⟩⟩⟩⟩⟩⟩⟩⟩⟩⟩⟩⟩⟩
theorem lw_p16 : lw_okq (⟨"TorchPlate$Plate", "liesOn", "(III)Z"⟩, 14) := ⟨⟨by decide +kernel, by decide +kernel⟩, List.mem_of_getElem? (i := 24) (by decide +kernel), List.mem_of_getElem? (i := 483) (by decide +kernel), List.mem_of_getElem? (i := 484) (by decide +kernel)⟩
theorem lw_p17 : lw_okq (⟨"TorchPlate$Plate", "side", "(III)I"⟩, 14) := ⟨⟨by decide +kernel, by decide +kernel⟩, List.mem_of_getElem? (i := 24) (by decide +kernel), List.mem_of_getElem? (i := 487) (by decide +kernel), List.mem_of_getElem? (i := 488) (by decide +kernel)⟩
theorem lw_p18 : lw_okq (⟨"TorchPlate$Plate", "crossing", "(III)I"⟩, 14) := ⟨⟨by decide +kernel, by decide +kernel⟩, List.mem_of_getElem? (i := 24) (by decide +kernel), List.mem_of_getElem? (i := 491) (by decide +kernel), List.mem_of_getElem? (i := 492) (by decide +kernel)⟩
theorem lw_p19 : lw_okq (⟨"TorchPlate", "outdate", "()V"⟩, 12) := ⟨⟨by decide +kernel, by decide +kernel⟩, List.mem_of_getElem? (i := 16) (by decide +kernel), List.mem_of_getElem? (i := 503) (by decide +kernel), List.mem_of_getElem? (i := 504) (by decide +kernel)⟩
theorem lw_p20 : lw_okq (⟨"TorchPlate", "surveyed", "()LTorchPlate$Survey;"⟩, 12) := ⟨⟨by decide +kernel, by decide +kernel⟩, List.mem_of_getElem? (i := 16) (by decide +kernel), List.mem_of_getElem? (i := 521) (by decide +kernel), List.mem_of_getElem? (i := 522) (by decide +kernel)⟩
theorem lw_p21 : lw_okq (⟨"TorchPlate$Survey", "findPieces", "(LTorchPlate$Plate;LTorchPlate$Plight;)V"⟩, 12) := ⟨⟨by decide +kernel, by decide +kernel⟩, List.mem_of_getElem? (i := 193) (by decide +kernel), List.mem_of_getElem? (i := 529) (by decide +kernel), List.mem_of_getElem? (i := 530) (by decide +kernel)⟩
theorem lw_p22 : lw_okq (⟨"TorchPlate$Survey", "oddAmong", "(I)I"⟩, 12) := ⟨⟨by decide +kernel, by decide +kernel⟩, List.mem_of_getElem? (i := 193) (by decide +kernel), List.mem_of_getElem? (i := 550) (by decide +kernel), List.mem_of_getElem? (i := 551) (by decide +kernel)⟩
theorem lw_p23 : lw_okq (⟨"TorchPlate$Survey", "pairUp", "(LTorchPlate$Plate;II)V"⟩, 12) := ⟨⟨by decide +kernel, by decide +kernel⟩, List.mem_of_getElem? (i := 193) (by decide +kernel), List.mem_of_getElem? (i := 577) (by decide +kernel), List.mem_of_getElem? (i := 578) (by decide +kernel)⟩
theorem lw_p24 : lw_okq (⟨"TorchPlate$Survey", "piecesAhead", "(LTorchPlate$Plate;I)I"⟩, 12) := ⟨⟨by decide +kernel, by decide +kernel⟩, List.mem_of_getElem? (i := 193) (by decide +kernel), List.mem_of_getElem? (i := 581) (by decide +kernel), List.mem_of_getElem? (i := 582) (by decide +kernel)⟩
theorem lw_p25 : lw_okq (⟨"TorchPlate$Survey", "partsIn", "(LTorchPlate$Plate;I)I"⟩, 12) := ⟨⟨by decide +kernel, by decide +kernel⟩, List.mem_of_getElem? (i := 193) (by decide +kernel), List.mem_of_getElem? (i := 585) (by decide +kernel), List.mem_of_getElem? (i := 586) (by decide +kernel)⟩
theorem lw_p26 : lw_okq (⟨"TorchPlate$Survey", "findTour", "(LTorchPlate$Plate;I)V"⟩, 12) := ⟨⟨by decide +kernel, by decide +kernel⟩, List.mem_of_getElem? (i := 193) (by decide +kernel), List.mem_of_getElem? (i := 592) (by decide +kernel), List.mem_of_getElem? (i := 593) (by decide +kernel)⟩
theorem lw_p27 : lw_okq (⟨"TorchPlate$Survey", "mayBeNext", "(II)Z"⟩, 12) := ⟨⟨by decide +kernel, by decide +kernel⟩, List.mem_of_getElem? (i := 193) (by decide +kernel), List.mem_of_getElem? (i := 599) (by decide +kernel), List.mem_of_getElem? (i := 600) (by decide +kernel)⟩
theorem lw_p28 : lw_okq (⟨"TorchPlate", "burnTo", "(I)Z"⟩, 12) := ⟨⟨by decide +kernel, by decide +kernel⟩, List.mem_of_getElem? (i := 16) (by decide +kernel), List.mem_of_getElem? (i := 617) (by decide +kernel), List.mem_of_getElem? (i := 618) (by decide +kernel)⟩
theorem lw_p29 : lw_okq (⟨"TorchPlate$Plight", "beginOfBurn", "(ILTorchPlate$Plate;)I"⟩, 5) := ⟨⟨by decide +kernel, by decide +kernel⟩, List.mem_of_getElem? (i := 145) (by decide +kernel), List.mem_of_getElem? (i := 644) (by decide +kernel), List.mem_of_getElem? (i := 645) (by decide +kernel)⟩
theorem lw_p30 : lw_okq (⟨"TorchPlate$Plight", "coolAt", "(II)I"⟩, 5) := ⟨⟨by decide +kernel, by decide +kernel⟩, List.mem_of_getElem? (i := 145) (by decide +kernel), List.mem_of_getElem? (i := 648) (by decide +kernel), List.mem_of_getElem? (i := 649) (by decide +kernel)⟩
theorem lw_p31 : lw_okq (⟨"TorchPlate", "moveTo", "(I)V"⟩, 12) := ⟨⟨by decide +kernel, by decide +kernel⟩, List.mem_of_getElem? (i := 16) (by decide +kernel), List.mem_of_getElem? (i := 658) (by decide +kernel), List.mem_of_getElem? (i := 659) (by decide +kernel)⟩
def lw_privs_2 : List (MethodName × Nat) := [(⟨"TorchPlate$Plate", "liesOn", "(III)Z"⟩, 14), (⟨"TorchPlate$Plate", "side", "(III)I"⟩, 14), (⟨"TorchPlate$Plate", "crossing", "(III)I"⟩, 14), (⟨"TorchPlate", "outdate", "()V"⟩, 12), (⟨"TorchPlate", "surveyed", "()LTorchPlate$Survey;"⟩, 12), (⟨"TorchPlate$Survey", "findPieces", "(LTorchPlate$Plate;LTorchPlate$Plight;)V"⟩, 12), (⟨"TorchPlate$Survey", "oddAmong", "(I)I"⟩, 12), (⟨"TorchPlate$Survey", "pairUp", "(LTorchPlate$Plate;II)V"⟩, 12), (⟨"TorchPlate$Survey", "piecesAhead", "(LTorchPlate$Plate;I)I"⟩, 12), (⟨"TorchPlate$Survey", "partsIn", "(LTorchPlate$Plate;I)I"⟩, 12), (⟨"TorchPlate$Survey", "findTour", "(LTorchPlate$Plate;I)V"⟩, 12), (⟨"TorchPlate$Survey", "mayBeNext", "(II)Z"⟩, 12), (⟨"TorchPlate", "burnTo", "(I)Z"⟩, 12), (⟨"TorchPlate$Plight", "beginOfBurn", "(ILTorchPlate$Plate;)I"⟩, 5), (⟨"TorchPlate$Plight", "coolAt", "(II)I"⟩, 5), (⟨"TorchPlate", "moveTo", "(I)V"⟩, 12)]
theorem lw_r2 : ∀ q ∈ lw_privs_2, lw_okq q := List.forall_mem_cons.mpr ⟨lw_p16, List.forall_mem_cons.mpr ⟨lw_p17, List.forall_mem_cons.mpr ⟨lw_p18, List.forall_mem_cons.mpr ⟨lw_p19, List.forall_mem_cons.mpr ⟨lw_p20, List.forall_mem_cons.mpr ⟨lw_p21, List.forall_mem_cons.mpr ⟨lw_p22, List.forall_mem_cons.mpr ⟨lw_p23, List.forall_mem_cons.mpr ⟨lw_p24, List.forall_mem_cons.mpr ⟨lw_p25, List.forall_mem_cons.mpr ⟨lw_p26, List.forall_mem_cons.mpr ⟨lw_p27, List.forall_mem_cons.mpr ⟨lw_p28, List.forall_mem_cons.mpr ⟨lw_p29, List.forall_mem_cons.mpr ⟨lw_p30, List.forall_mem_cons.mpr ⟨lw_p31, fun _ h => absurd h List.not_mem_nil⟩⟩⟩⟩⟩⟩⟩⟩⟩⟩⟩⟩⟩⟩⟩⟩
theorem lw_p32 : lw_okq (⟨"TorchPlate$Walk", "layOut", "(LTorchPlate$Plate;LTorchPlate$Survey;I)V"⟩, 5) := ⟨⟨by decide +kernel, by decide +kernel⟩, List.mem_of_getElem? (i := 264) (by decide +kernel), List.mem_of_getElem? (i := 684) (by decide +kernel), List.mem_of_getElem? (i := 685) (by decide +kernel)⟩
theorem lw_p33 : lw_okq (⟨"TorchPlate$Walk", "takesStep", "(I)Z"⟩, 5) := ⟨⟨by decide +kernel, by decide +kernel⟩, List.mem_of_getElem? (i := 264) (by decide +kernel), List.mem_of_getElem? (i := 697) (by decide +kernel), List.mem_of_getElem? (i := 698) (by decide +kernel)⟩
theorem lw_p34 : lw_okq (⟨"TorchPlate$Walk", "takesTie", "([III)Z"⟩, 5) := ⟨⟨by decide +kernel, by decide +kernel⟩, List.mem_of_getElem? (i := 264) (by decide +kernel), List.mem_of_getElem? (i := 701) (by decide +kernel), List.mem_of_getElem? (i := 702) (by decide +kernel)⟩
theorem lw_p35 : lw_okq (⟨"TorchPlate$Walk", "notes", "(II)Z"⟩, 5) := ⟨⟨by decide +kernel, by decide +kernel⟩, List.mem_of_getElem? (i := 264) (by decide +kernel), List.mem_of_getElem? (i := 710) (by decide +kernel), List.mem_of_getElem? (i := 711) (by decide +kernel)⟩
theorem lw_p36 : lw_okq (⟨"TorchPlate$Witness", "allIsAsSeen", "()Z"⟩, 6) := ⟨⟨by decide +kernel, by decide +kernel⟩, List.mem_of_getElem? (i := 292) (by decide +kernel), List.mem_of_getElem? (i := 766) (by decide +kernel), List.mem_of_getElem? (i := 767) (by decide +kernel)⟩
theorem lw_p37 : lw_okq (⟨"TorchPlate$Witness", "tallyPairs", "(LTorchPlate$Plate;II)V"⟩, 6) := ⟨⟨by decide +kernel, by decide +kernel⟩, List.mem_of_getElem? (i := 292) (by decide +kernel), List.mem_of_getElem? (i := 781) (by decide +kernel), List.mem_of_getElem? (i := 782) (by decide +kernel)⟩
theorem lw_p38 : lw_okq (⟨"TorchPlate$Witness", "countReached", "(II)V"⟩, 6) := ⟨⟨by decide +kernel, by decide +kernel⟩, List.mem_of_getElem? (i := 292) (by decide +kernel), List.mem_of_getElem? (i := 786) (by decide +kernel), List.mem_of_getElem? (i := 787) (by decide +kernel)⟩
theorem lw_p39 : lw_okq (⟨"TorchPlateModel", "begins", "()V"⟩, 34) := ⟨⟨by decide +kernel, by decide +kernel⟩, List.mem_of_getElem? (i := 805) (by decide +kernel), List.mem_of_getElem? (i := 811) (by decide +kernel), List.mem_of_getElem? (i := 812) (by decide +kernel)⟩
theorem lw_p40 : lw_okq (⟨"TorchPlateModel", "settles", "()V"⟩, 34) := ⟨⟨by decide +kernel, by decide +kernel⟩, List.mem_of_getElem? (i := 805) (by decide +kernel), List.mem_of_getElem? (i := 815) (by decide +kernel), List.mem_of_getElem? (i := 816) (by decide +kernel)⟩
theorem lw_p41 : lw_okq (⟨"TorchPlateModel", "isWithin", "(II)Z"⟩, 34) := ⟨⟨by decide +kernel, by decide +kernel⟩, List.mem_of_getElem? (i := 805) (by decide +kernel), List.mem_of_getElem? (i := 819) (by decide +kernel), List.mem_of_getElem? (i := 820) (by decide +kernel)⟩
theorem lw_p42 : lw_okq (⟨"TorchPlateModel", "ringAt", "(II)I"⟩, 34) := ⟨⟨by decide +kernel, by decide +kernel⟩, List.mem_of_getElem? (i := 805) (by decide +kernel), List.mem_of_getElem? (i := 823) (by decide +kernel), List.mem_of_getElem? (i := 824) (by decide +kernel)⟩
theorem lw_p43 : lw_okq (⟨"TorchPlateModel", "isOn", "(III)Z"⟩, 34) := ⟨⟨by decide +kernel, by decide +kernel⟩, List.mem_of_getElem? (i := 805) (by decide +kernel), List.mem_of_getElem? (i := 827) (by decide +kernel), List.mem_of_getElem? (i := 828) (by decide +kernel)⟩
theorem lw_p44 : lw_okq (⟨"TorchPlateModel", "side", "(III)I"⟩, 34) := ⟨⟨by decide +kernel, by decide +kernel⟩, List.mem_of_getElem? (i := 805) (by decide +kernel), List.mem_of_getElem? (i := 834) (by decide +kernel), List.mem_of_getElem? (i := 835) (by decide +kernel)⟩
theorem lw_p45 : lw_okq (⟨"TorchPlateModel", "advances", "()V"⟩, 34) := ⟨⟨by decide +kernel, by decide +kernel⟩, List.mem_of_getElem? (i := 805) (by decide +kernel), List.mem_of_getElem? (i := 954) (by decide +kernel), List.mem_of_getElem? (i := 955) (by decide +kernel)⟩
theorem lw_p46 : lw_okq (⟨"TorchPlateModel", "letterAt", "(I)I"⟩, 34) := ⟨⟨by decide +kernel, by decide +kernel⟩, List.mem_of_getElem? (i := 805) (by decide +kernel), List.mem_of_getElem? (i := 958) (by decide +kernel), List.mem_of_getElem? (i := 959) (by decide +kernel)⟩
theorem lw_p47 : lw_okq (⟨"TorchPlateModel", "isWell", "()Z"⟩, 34) := ⟨⟨by decide +kernel, by decide +kernel⟩, List.mem_of_getElem? (i := 805) (by decide +kernel), List.mem_of_getElem? (i := 962) (by decide +kernel), List.mem_of_getElem? (i := 963) (by decide +kernel)⟩
def lw_privs_3 : List (MethodName × Nat) := [(⟨"TorchPlate$Walk", "layOut", "(LTorchPlate$Plate;LTorchPlate$Survey;I)V"⟩, 5), (⟨"TorchPlate$Walk", "takesStep", "(I)Z"⟩, 5), (⟨"TorchPlate$Walk", "takesTie", "([III)Z"⟩, 5), (⟨"TorchPlate$Walk", "notes", "(II)Z"⟩, 5), (⟨"TorchPlate$Witness", "allIsAsSeen", "()Z"⟩, 6), (⟨"TorchPlate$Witness", "tallyPairs", "(LTorchPlate$Plate;II)V"⟩, 6), (⟨"TorchPlate$Witness", "countReached", "(II)V"⟩, 6), (⟨"TorchPlateModel", "begins", "()V"⟩, 34), (⟨"TorchPlateModel", "settles", "()V"⟩, 34), (⟨"TorchPlateModel", "isWithin", "(II)Z"⟩, 34), (⟨"TorchPlateModel", "ringAt", "(II)I"⟩, 34), (⟨"TorchPlateModel", "isOn", "(III)Z"⟩, 34), (⟨"TorchPlateModel", "side", "(III)I"⟩, 34), (⟨"TorchPlateModel", "advances", "()V"⟩, 34), (⟨"TorchPlateModel", "letterAt", "(I)I"⟩, 34), (⟨"TorchPlateModel", "isWell", "()Z"⟩, 34)]
theorem lw_r3 : ∀ q ∈ lw_privs_3, lw_okq q := List.forall_mem_cons.mpr ⟨lw_p32, List.forall_mem_cons.mpr ⟨lw_p33, List.forall_mem_cons.mpr ⟨lw_p34, List.forall_mem_cons.mpr ⟨lw_p35, List.forall_mem_cons.mpr ⟨lw_p36, List.forall_mem_cons.mpr ⟨lw_p37, List.forall_mem_cons.mpr ⟨lw_p38, List.forall_mem_cons.mpr ⟨lw_p39, List.forall_mem_cons.mpr ⟨lw_p40, List.forall_mem_cons.mpr ⟨lw_p41, List.forall_mem_cons.mpr ⟨lw_p42, List.forall_mem_cons.mpr ⟨lw_p43, List.forall_mem_cons.mpr ⟨lw_p44, List.forall_mem_cons.mpr ⟨lw_p45, List.forall_mem_cons.mpr ⟨lw_p46, List.forall_mem_cons.mpr ⟨lw_p47, fun _ h => absurd h List.not_mem_nil⟩⟩⟩⟩⟩⟩⟩⟩⟩⟩⟩⟩⟩⟩⟩⟩
theorem lw_p48 : lw_okq (⟨"TorchPlateModel", "mayBegin", "()Z"⟩, 34) := ⟨⟨by decide +kernel, by decide +kernel⟩, List.mem_of_getElem? (i := 805) (by decide +kernel), List.mem_of_getElem? (i := 966) (by decide +kernel), List.mem_of_getElem? (i := 967) (by decide +kernel)⟩
theorem lw_p49 : lw_okq (⟨"TorchPlateModel", "takes", "(Z)I"⟩, 34) := ⟨⟨by decide +kernel, by decide +kernel⟩, List.mem_of_getElem? (i := 805) (by decide +kernel), List.mem_of_getElem? (i := 970) (by decide +kernel), List.mem_of_getElem? (i := 971) (by decide +kernel)⟩
theorem lw_p50 : lw_okq (⟨"TorchPlateModel", "readsItem", "(I)V"⟩, 34) := ⟨⟨by decide +kernel, by decide +kernel⟩, List.mem_of_getElem? (i := 805) (by decide +kernel), List.mem_of_getElem? (i := 974) (by decide +kernel), List.mem_of_getElem? (i := 975) (by decide +kernel)⟩
theorem lw_p51 : lw_okq (⟨"TorchPlateModel", "isNumber", "(II)Z"⟩, 34) := ⟨⟨by decide +kernel, by decide +kernel⟩, List.mem_of_getElem? (i := 805) (by decide +kernel), List.mem_of_getElem? (i := 978) (by decide +kernel), List.mem_of_getElem? (i := 979) (by decide +kernel)⟩
theorem lw_p52 : lw_okq (⟨"TorchPlateModel", "readsCorner", "()V"⟩, 34) := ⟨⟨by decide +kernel, by decide +kernel⟩, List.mem_of_getElem? (i := 805) (by decide +kernel), List.mem_of_getElem? (i := 982) (by decide +kernel), List.mem_of_getElem? (i := 983) (by decide +kernel)⟩
theorem lw_p53 : lw_okq (⟨"TorchPlateModel", "isFreeAt", "(II)Z"⟩, 34) := ⟨⟨by decide +kernel, by decide +kernel⟩, List.mem_of_getElem? (i := 805) (by decide +kernel), List.mem_of_getElem? (i := 986) (by decide +kernel), List.mem_of_getElem? (i := 987) (by decide +kernel)⟩
theorem lw_p54 : lw_okq (⟨"TorchPlateModel", "readsPart", "()V"⟩, 34) := ⟨⟨by decide +kernel, by decide +kernel⟩, List.mem_of_getElem? (i := 805) (by decide +kernel), List.mem_of_getElem? (i := 990) (by decide +kernel), List.mem_of_getElem? (i := 991) (by decide +kernel)⟩
theorem lw_p55 : lw_okq (⟨"TorchPlateModel", "isCorner", "()Z"⟩, 34) := ⟨⟨by decide +kernel, by decide +kernel⟩, List.mem_of_getElem? (i := 805) (by decide +kernel), List.mem_of_getElem? (i := 994) (by decide +kernel), List.mem_of_getElem? (i := 995) (by decide +kernel)⟩
theorem lw_p56 : lw_okq (⟨"TorchPlateModel", "hasRoom", "(II)Z"⟩, 34) := ⟨⟨by decide +kernel, by decide +kernel⟩, List.mem_of_getElem? (i := 805) (by decide +kernel), List.mem_of_getElem? (i := 1001) (by decide +kernel), List.mem_of_getElem? (i := 1002) (by decide +kernel)⟩
theorem lw_p57 : lw_okq (⟨"TorchPlateModel", "cuts", "(II)V"⟩, 34) := ⟨⟨by decide +kernel, by decide +kernel⟩, List.mem_of_getElem? (i := 805) (by decide +kernel), List.mem_of_getElem? (i := 1008) (by decide +kernel), List.mem_of_getElem? (i := 1009) (by decide +kernel)⟩
theorem lw_p58 : lw_okq (⟨"TorchPlateModel", "readsSeam", "()V"⟩, 34) := ⟨⟨by decide +kernel, by decide +kernel⟩, List.mem_of_getElem? (i := 805) (by decide +kernel), List.mem_of_getElem? (i := 1012) (by decide +kernel), List.mem_of_getElem? (i := 1013) (by decide +kernel)⟩
theorem lw_p59 : lw_okq (⟨"TorchPlateModel", "sorts", "()V"⟩, 34) := ⟨⟨by decide +kernel, by decide +kernel⟩, List.mem_of_getElem? (i := 805) (by decide +kernel), List.mem_of_getElem? (i := 1016) (by decide +kernel), List.mem_of_getElem? (i := 1017) (by decide +kernel)⟩
theorem lw_p60 : lw_okq (⟨"TorchPlateModel", "isCornerNow", "(I)Z"⟩, 34) := ⟨⟨by decide +kernel, by decide +kernel⟩, List.mem_of_getElem? (i := 805) (by decide +kernel), List.mem_of_getElem? (i := 1024) (by decide +kernel), List.mem_of_getElem? (i := 1025) (by decide +kernel)⟩
theorem lw_p61 : lw_okq (⟨"TorchPlateModel", "pieces", "()V"⟩, 34) := ⟨⟨by decide +kernel, by decide +kernel⟩, List.mem_of_getElem? (i := 805) (by decide +kernel), List.mem_of_getElem? (i := 1035) (by decide +kernel), List.mem_of_getElem? (i := 1036) (by decide +kernel)⟩
theorem lw_p62 : lw_okq (⟨"TorchPlateModel", "roots", "(I)V"⟩, 34) := ⟨⟨by decide +kernel, by decide +kernel⟩, List.mem_of_getElem? (i := 805) (by decide +kernel), List.mem_of_getElem? (i := 1039) (by decide +kernel), List.mem_of_getElem? (i := 1040) (by decide +kernel)⟩
theorem lw_p63 : lw_okq (⟨"TorchPlateModel", "way", "(II)I"⟩, 34) := ⟨⟨by decide +kernel, by decide +kernel⟩, List.mem_of_getElem? (i := 805) (by decide +kernel), List.mem_of_getElem? (i := 1043) (by decide +kernel), List.mem_of_getElem? (i := 1044) (by decide +kernel)⟩
def lw_privs_4 : List (MethodName × Nat) := [(⟨"TorchPlateModel", "mayBegin", "()Z"⟩, 34), (⟨"TorchPlateModel", "takes", "(Z)I"⟩, 34), (⟨"TorchPlateModel", "readsItem", "(I)V"⟩, 34), (⟨"TorchPlateModel", "isNumber", "(II)Z"⟩, 34), (⟨"TorchPlateModel", "readsCorner", "()V"⟩, 34), (⟨"TorchPlateModel", "isFreeAt", "(II)Z"⟩, 34), (⟨"TorchPlateModel", "readsPart", "()V"⟩, 34), (⟨"TorchPlateModel", "isCorner", "()Z"⟩, 34), (⟨"TorchPlateModel", "hasRoom", "(II)Z"⟩, 34), (⟨"TorchPlateModel", "cuts", "(II)V"⟩, 34), (⟨"TorchPlateModel", "readsSeam", "()V"⟩, 34), (⟨"TorchPlateModel", "sorts", "()V"⟩, 34), (⟨"TorchPlateModel", "isCornerNow", "(I)Z"⟩, 34), (⟨"TorchPlateModel", "pieces", "()V"⟩, 34), (⟨"TorchPlateModel", "roots", "(I)V"⟩, 34), (⟨"TorchPlateModel", "way", "(II)I"⟩, 34)]
theorem lw_r4 : ∀ q ∈ lw_privs_4, lw_okq q := List.forall_mem_cons.mpr ⟨lw_p48, List.forall_mem_cons.mpr ⟨lw_p49, List.forall_mem_cons.mpr ⟨lw_p50, List.forall_mem_cons.mpr ⟨lw_p51, List.forall_mem_cons.mpr ⟨lw_p52, List.forall_mem_cons.mpr ⟨lw_p53, List.forall_mem_cons.mpr ⟨lw_p54, List.forall_mem_cons.mpr ⟨lw_p55, List.forall_mem_cons.mpr ⟨lw_p56, List.forall_mem_cons.mpr ⟨lw_p57, List.forall_mem_cons.mpr ⟨lw_p58, List.forall_mem_cons.mpr ⟨lw_p59, List.forall_mem_cons.mpr ⟨lw_p60, List.forall_mem_cons.mpr ⟨lw_p61, List.forall_mem_cons.mpr ⟨lw_p62, List.forall_mem_cons.mpr ⟨lw_p63, fun _ h => absurd h List.not_mem_nil⟩⟩⟩⟩⟩⟩⟩⟩⟩⟩⟩⟩⟩⟩⟩⟩
theorem lw_p64 : lw_okq (⟨"TorchPlateModel", "pieceOf", "(I)I"⟩, 34) := ⟨⟨by decide +kernel, by decide +kernel⟩, List.mem_of_getElem? (i := 805) (by decide +kernel), List.mem_of_getElem? (i := 1047) (by decide +kernel), List.mem_of_getElem? (i := 1048) (by decide +kernel)⟩
theorem lw_p65 : lw_okq (⟨"TorchPlateModel", "cutsOfPart", "(I)I"⟩, 34) := ⟨⟨by decide +kernel, by decide +kernel⟩, List.mem_of_getElem? (i := 805) (by decide +kernel), List.mem_of_getElem? (i := 1055) (by decide +kernel), List.mem_of_getElem? (i := 1056) (by decide +kernel)⟩
theorem lw_p66 : lw_okq (⟨"TorchPlateModel", "mayBurn", "(I)Z"⟩, 34) := ⟨⟨by decide +kernel, by decide +kernel⟩, List.mem_of_getElem? (i := 805) (by decide +kernel), List.mem_of_getElem? (i := 1066) (by decide +kernel), List.mem_of_getElem? (i := 1067) (by decide +kernel)⟩
theorem lw_p67 : lw_okq (⟨"TorchPlateModel", "wouldFall", "(I)Z"⟩, 34) := ⟨⟨by decide +kernel, by decide +kernel⟩, List.mem_of_getElem? (i := 805) (by decide +kernel), List.mem_of_getElem? (i := 1070) (by decide +kernel), List.mem_of_getElem? (i := 1071) (by decide +kernel)⟩
theorem lw_p68 : lw_okq (⟨"TorchPlateModel", "burn", "(I)I"⟩, 34) := ⟨⟨by decide +kernel, by decide +kernel⟩, List.mem_of_getElem? (i := 805) (by decide +kernel), List.mem_of_getElem? (i := 1074) (by decide +kernel), List.mem_of_getElem? (i := 1075) (by decide +kernel)⟩
theorem lw_p69 : lw_okq (⟨"TorchPlateModel", "notes", "()V"⟩, 34) := ⟨⟨by decide +kernel, by decide +kernel⟩, List.mem_of_getElem? (i := 805) (by decide +kernel), List.mem_of_getElem? (i := 1078) (by decide +kernel), List.mem_of_getElem? (i := 1079) (by decide +kernel)⟩
theorem lw_p70 : lw_okq (⟨"TorchPlateModel", "beginsAt", "(II)I"⟩, 34) := ⟨⟨by decide +kernel, by decide +kernel⟩, List.mem_of_getElem? (i := 805) (by decide +kernel), List.mem_of_getElem? (i := 1082) (by decide +kernel), List.mem_of_getElem? (i := 1083) (by decide +kernel)⟩
theorem lw_p71 : lw_okq (⟨"TorchPlateModel", "isCool", "(II)Z"⟩, 34) := ⟨⟨by decide +kernel, by decide +kernel⟩, List.mem_of_getElem? (i := 805) (by decide +kernel), List.mem_of_getElem? (i := 1086) (by decide +kernel), List.mem_of_getElem? (i := 1087) (by decide +kernel)⟩
theorem lw_p72 : lw_okq (⟨"TorchPlateModel", "move", "(I)I"⟩, 34) := ⟨⟨by decide +kernel, by decide +kernel⟩, List.mem_of_getElem? (i := 805) (by decide +kernel), List.mem_of_getElem? (i := 1094) (by decide +kernel), List.mem_of_getElem? (i := 1095) (by decide +kernel)⟩
theorem lw_p73 : lw_okq (⟨"TorchPlateModel", "tours", "()Z"⟩, 34) := ⟨⟨by decide +kernel, by decide +kernel⟩, List.mem_of_getElem? (i := 805) (by decide +kernel), List.mem_of_getElem? (i := 1102) (by decide +kernel), List.mem_of_getElem? (i := 1103) (by decide +kernel)⟩
theorem lw_p74 : lw_okq (⟨"TorchPlateModel", "aheadOf", "(I)I"⟩, 34) := ⟨⟨by decide +kernel, by decide +kernel⟩, List.mem_of_getElem? (i := 805) (by decide +kernel), List.mem_of_getElem? (i := 1107) (by decide +kernel), List.mem_of_getElem? (i := 1108) (by decide +kernel)⟩
theorem lw_p75 : lw_okq (⟨"TorchPlateModel", "cutsOf", "(I)I"⟩, 34) := ⟨⟨by decide +kernel, by decide +kernel⟩, List.mem_of_getElem? (i := 805) (by decide +kernel), List.mem_of_getElem? (i := 1111) (by decide +kernel), List.mem_of_getElem? (i := 1112) (by decide +kernel)⟩
theorem lw_p76 : lw_okq (⟨"TorchPlateModel", "startOf", "(I)I"⟩, 34) := ⟨⟨by decide +kernel, by decide +kernel⟩, List.mem_of_getElem? (i := 805) (by decide +kernel), List.mem_of_getElem? (i := 1115) (by decide +kernel), List.mem_of_getElem? (i := 1116) (by decide +kernel)⟩
theorem lw_p77 : lw_okq (⟨"TorchPlateModel", "rounds", "(I)I"⟩, 34) := ⟨⟨by decide +kernel, by decide +kernel⟩, List.mem_of_getElem? (i := 805) (by decide +kernel), List.mem_of_getElem? (i := 1119) (by decide +kernel), List.mem_of_getElem? (i := 1120) (by decide +kernel)⟩
theorem lw_p78 : lw_okq (⟨"TorchPlateModel", "links", "(I)I"⟩, 34) := ⟨⟨by decide +kernel, by decide +kernel⟩, List.mem_of_getElem? (i := 805) (by decide +kernel), List.mem_of_getElem? (i := 1123) (by decide +kernel), List.mem_of_getElem? (i := 1124) (by decide +kernel)⟩
theorem lw_p79 : lw_okq (⟨"TorchPlateModel", "oddOf", "(I)I"⟩, 34) := ⟨⟨by decide +kernel, by decide +kernel⟩, List.mem_of_getElem? (i := 805) (by decide +kernel), List.mem_of_getElem? (i := 1127) (by decide +kernel), List.mem_of_getElem? (i := 1128) (by decide +kernel)⟩
def lw_privs_5 : List (MethodName × Nat) := [(⟨"TorchPlateModel", "pieceOf", "(I)I"⟩, 34), (⟨"TorchPlateModel", "cutsOfPart", "(I)I"⟩, 34), (⟨"TorchPlateModel", "mayBurn", "(I)Z"⟩, 34), (⟨"TorchPlateModel", "wouldFall", "(I)Z"⟩, 34), (⟨"TorchPlateModel", "burn", "(I)I"⟩, 34), (⟨"TorchPlateModel", "notes", "()V"⟩, 34), (⟨"TorchPlateModel", "beginsAt", "(II)I"⟩, 34), (⟨"TorchPlateModel", "isCool", "(II)Z"⟩, 34), (⟨"TorchPlateModel", "move", "(I)I"⟩, 34), (⟨"TorchPlateModel", "tours", "()Z"⟩, 34), (⟨"TorchPlateModel", "aheadOf", "(I)I"⟩, 34), (⟨"TorchPlateModel", "cutsOf", "(I)I"⟩, 34), (⟨"TorchPlateModel", "startOf", "(I)I"⟩, 34), (⟨"TorchPlateModel", "rounds", "(I)I"⟩, 34), (⟨"TorchPlateModel", "links", "(I)I"⟩, 34), (⟨"TorchPlateModel", "oddOf", "(I)I"⟩, 34)]
theorem lw_r5 : ∀ q ∈ lw_privs_5, lw_okq q := List.forall_mem_cons.mpr ⟨lw_p64, List.forall_mem_cons.mpr ⟨lw_p65, List.forall_mem_cons.mpr ⟨lw_p66, List.forall_mem_cons.mpr ⟨lw_p67, List.forall_mem_cons.mpr ⟨lw_p68, List.forall_mem_cons.mpr ⟨lw_p69, List.forall_mem_cons.mpr ⟨lw_p70, List.forall_mem_cons.mpr ⟨lw_p71, List.forall_mem_cons.mpr ⟨lw_p72, List.forall_mem_cons.mpr ⟨lw_p73, List.forall_mem_cons.mpr ⟨lw_p74, List.forall_mem_cons.mpr ⟨lw_p75, List.forall_mem_cons.mpr ⟨lw_p76, List.forall_mem_cons.mpr ⟨lw_p77, List.forall_mem_cons.mpr ⟨lw_p78, List.forall_mem_cons.mpr ⟨lw_p79, fun _ h => absurd h List.not_mem_nil⟩⟩⟩⟩⟩⟩⟩⟩⟩⟩⟩⟩⟩⟩⟩⟩
theorem lw_p80 : lw_okq (⟨"TorchPlateModel", "pairs", "(I)V"⟩, 34) := ⟨⟨by decide +kernel, by decide +kernel⟩, List.mem_of_getElem? (i := 805) (by decide +kernel), List.mem_of_getElem? (i := 1131) (by decide +kernel), List.mem_of_getElem? (i := 1132) (by decide +kernel)⟩
theorem lw_p81 : lw_okq (⟨"TorchPlateModel", "opens", "(III)V"⟩, 34) := ⟨⟨by decide +kernel, by decide +kernel⟩, List.mem_of_getElem? (i := 805) (by decide +kernel), List.mem_of_getElem? (i := 1138) (by decide +kernel), List.mem_of_getElem? (i := 1139) (by decide +kernel)⟩
theorem lw_p82 : lw_okq (⟨"TorchPlateModel", "goesOn", "(III)Z"⟩, 34) := ⟨⟨by decide +kernel, by decide +kernel⟩, List.mem_of_getElem? (i := 805) (by decide +kernel), List.mem_of_getElem? (i := 1142) (by decide +kernel), List.mem_of_getElem? (i := 1143) (by decide +kernel)⟩
theorem lw_p83 : lw_okq (⟨"TorchPlateModel", "isOpen", "(III)Z"⟩, 34) := ⟨⟨by decide +kernel, by decide +kernel⟩, List.mem_of_getElem? (i := 805) (by decide +kernel), List.mem_of_getElem? (i := 1146) (by decide +kernel), List.mem_of_getElem? (i := 1147) (by decide +kernel)⟩
theorem lw_p84 : lw_okq (⟨"TorchPlateModel", "shuts", "(III)V"⟩, 34) := ⟨⟨by decide +kernel, by decide +kernel⟩, List.mem_of_getElem? (i := 805) (by decide +kernel), List.mem_of_getElem? (i := 1150) (by decide +kernel), List.mem_of_getElem? (i := 1151) (by decide +kernel)⟩
theorem lw_p85 : lw_okq (⟨"TorchPlateModel", "isAllFrom", "(I)Z"⟩, 34) := ⟨⟨by decide +kernel, by decide +kernel⟩, List.mem_of_getElem? (i := 805) (by decide +kernel), List.mem_of_getElem? (i := 1154) (by decide +kernel), List.mem_of_getElem? (i := 1155) (by decide +kernel)⟩
theorem lw_p86 : lw_okq (⟨"TorchPlateModel", "unseenSet", "()I"⟩, 34) := ⟨⟨by decide +kernel, by decide +kernel⟩, List.mem_of_getElem? (i := 805) (by decide +kernel), List.mem_of_getElem? (i := 1190) (by decide +kernel), List.mem_of_getElem? (i := 1191) (by decide +kernel)⟩
def lw_privs_6 : List (MethodName × Nat) := [(⟨"TorchPlateModel", "pairs", "(I)V"⟩, 34), (⟨"TorchPlateModel", "opens", "(III)V"⟩, 34), (⟨"TorchPlateModel", "goesOn", "(III)Z"⟩, 34), (⟨"TorchPlateModel", "isOpen", "(III)Z"⟩, 34), (⟨"TorchPlateModel", "shuts", "(III)V"⟩, 34), (⟨"TorchPlateModel", "isAllFrom", "(I)Z"⟩, 34), (⟨"TorchPlateModel", "unseenSet", "()I"⟩, 34)]
theorem lw_r6 : ∀ q ∈ lw_privs_6, lw_okq q := List.forall_mem_cons.mpr ⟨lw_p80, List.forall_mem_cons.mpr ⟨lw_p81, List.forall_mem_cons.mpr ⟨lw_p82, List.forall_mem_cons.mpr ⟨lw_p83, List.forall_mem_cons.mpr ⟨lw_p84, List.forall_mem_cons.mpr ⟨lw_p85, List.forall_mem_cons.mpr ⟨lw_p86, fun _ h => absurd h List.not_mem_nil⟩⟩⟩⟩⟩⟩⟩
def lw_privs : List (MethodName × Nat) := lw_privs_1 ++ (lw_privs_2 ++ (lw_privs_3 ++ (lw_privs_4 ++ (lw_privs_5 ++ (lw_privs_6)))))
def lw_tbl : List Cond := k2_sels lw_privs ++ tables_1
theorem lw_privs_ok : ∀ q ∈ lw_privs, lw_okq q := by
  show ∀ q ∈ lw_privs_1 ++ (lw_privs_2 ++ (lw_privs_3 ++ (lw_privs_4 ++ (lw_privs_5 ++ (lw_privs_6))))), lw_okq q
  exact List.forall_mem_append.mpr ⟨lw_r1, List.forall_mem_append.mpr ⟨lw_r2, List.forall_mem_append.mpr ⟨lw_r3, List.forall_mem_append.mpr ⟨lw_r4, List.forall_mem_append.mpr ⟨lw_r5, lw_r6⟩⟩⟩⟩⟩
-- ===== end of PART A; then your names; then what follows =====
end
section
def RX0 : String := "TorchPlate$Past"
def TX0 : u_T := fun k => match k with
  | 0 => ("TorchPlate$Past", "rows", "[LTorchPlate$Plight;", true)
  | 1 => ("TorchPlate$Past", "next", "I", false)
  | _ => ("TorchPlate$Past", "size", "I", false)
def tyX0 : Nat → FieldType := fun k => match k with
  | 0 => .array (.object "TorchPlate$Plight")
  | 1 => .int
  | _ => .int
abbrev wsX00 : List Cond := u_ws RX0 TX0 3
theorem nmX0 : ∀ a, a < 3 → ∀ b, b < 3 → a ≠ b → (TX0 a).2.1 ≠ (TX0 b).2.1 := by decide +kernel
theorem tyX0_ok : ∀ k, k < 3 → parseFieldDescriptor (TX0 k).2.2.1 = some (tyX0 k) := by decide +kernel
abbrev cX0_init : ByteArray := prog_2_method_1_code
def yX0_init : MethodName := ⟨RX0, "<init>", "()V"⟩
abbrev cX0_lose : ByteArray := prog_2_method_2_code
def yX0_lose : MethodName := ⟨RX0, "lose", "()V"⟩
abbrev cX0_remember : ByteArray := prog_2_method_3_code
def yX0_remember : MethodName := ⟨RX0, "remember", "(LTorchPlate$Plight;)V"⟩
abbrev cX0_restore : ByteArray := prog_2_method_4_code
def yX0_restore : MethodName := ⟨RX0, "restore", "(LTorchPlate$Plight;)Z"⟩
def RX1 : String := "TorchPlate$Plate"
def TX1 : u_T := fun k => match k with
  | 0 => ("TorchPlate$Plate", "corners", "I", false)
  | 1 => ("TorchPlate$Plate", "x", "[I", true)
  | 2 => ("TorchPlate$Plate", "y", "[I", true)
  | 3 => ("TorchPlate$Plate", "joined", "[I", true)
  | 4 => ("TorchPlate$Plate", "cuts", "I", false)
  | 5 => ("TorchPlate$Plate", "low", "[I", true)
  | 6 => ("TorchPlate$Plate", "high", "[I", true)
  | 7 => ("TorchPlate$Plate", "parts", "I", false)
  | 8 => ("TorchPlate$Plate", "ringSize", "[I", true)
  | 9 => ("TorchPlate$Plate", "ring", "[[I", true)
  | 10 => ("TorchPlate$Plate", "ringCuts", "[I", true)
  | 11 => ("TorchPlate$Plate", "within", "[I", true)
  | 12 => ("TorchPlate$Plate", "heat", "I", false)
  | _ => ("TorchPlate$Plate", "items", "I", false)
def tyX1 : Nat → FieldType := fun k => match k with
  | 0 => .int
  | 1 => .array .int
  | 2 => .array .int
  | 3 => .array .int
  | 4 => .int
  | 5 => .array .int
  | 6 => .array .int
  | 7 => .int
  | 8 => .array .int
  | 9 => .array (.array .int)
  | 10 => .array .int
  | 11 => .array .int
  | 12 => .int
  | _ => .int
abbrev wsX10 : List Cond := u_ws RX1 TX1 14
theorem nmX1 : ∀ a, a < 14 → ∀ b, b < 14 → a ≠ b → (TX1 a).2.1 ≠ (TX1 b).2.1 := by decide +kernel
theorem tyX1_ok : ∀ k, k < 14 → parseFieldDescriptor (TX1 k).2.2.1 = some (tyX1 k) := by decide +kernel
abbrev cX1_init : ByteArray := prog_3_method_1_code
def yX1_init : MethodName := ⟨RX1, "<init>", "()V"⟩
abbrev cX1_wipe : ByteArray := prog_3_method_2_code
def yX1_wipe : MethodName := ⟨RX1, "wipe", "()V"⟩
abbrev cX1_hasCorner : ByteArray := prog_3_method_3_code
def yX1_hasCorner : MethodName := ⟨RX1, "hasCorner", "(I)Z"⟩
abbrev cX1_way : ByteArray := prog_3_method_4_code
def yX1_way : MethodName := ⟨RX1, "way", "(II)I"⟩
abbrev cX1_addCorner : ByteArray := prog_3_method_5_code
def yX1_addCorner : MethodName := ⟨RX1, "addCorner", "(II)Z"⟩
abbrev cX1_join : ByteArray := prog_3_method_6_code
def yX1_join : MethodName := ⟨RX1, "join", "(II)Z"⟩
abbrev cX1_settle : ByteArray := prog_3_method_7_code
def yX1_settle : MethodName := ⟨RX1, "settle", "()V"⟩
abbrev cX1_numberCuts : ByteArray := prog_3_method_8_code
def yX1_numberCuts : MethodName := ⟨RX1, "numberCuts", "()V"⟩
abbrev cX1_cutsOfRing : ByteArray := prog_3_method_9_code
def yX1_cutsOfRing : MethodName := ⟨RX1, "cutsOfRing", "(I)I"⟩
abbrev cX1_nextInRing : ByteArray := prog_3_method_10_code
def yX1_nextInRing : MethodName := ⟨RX1, "nextInRing", "(II)I"⟩
abbrev cX1_cutBetween : ByteArray := prog_3_method_11_code
def yX1_cutBetween : MethodName := ⟨RX1, "cutBetween", "(II)I"⟩
abbrev cX1_partsAround : ByteArray := prog_3_method_12_code
def yX1_partsAround : MethodName := ⟨RX1, "partsAround", "(I)I"⟩
abbrev cX1_goesRound : ByteArray := prog_3_method_13_code
def yX1_goesRound : MethodName := ⟨RX1, "goesRound", "(II)Z"⟩
abbrev cX1_liesOn : ByteArray := prog_3_method_14_code
def yX1_liesOn : MethodName := ⟨RX1, "liesOn", "(III)Z"⟩
abbrev cX1_crossing : ByteArray := prog_3_method_15_code
def yX1_crossing : MethodName := ⟨RX1, "crossing", "(III)I"⟩
abbrev cX1_side : ByteArray := prog_3_method_16_code
def yX1_side : MethodName := ⟨RX1, "side", "(III)I"⟩
abbrev cX1_cutsAt : ByteArray := prog_3_method_17_code
def yX1_cutsAt : MethodName := ⟨RX1, "cutsAt", "(II)I"⟩
def RX2 : String := "TorchPlate$Plight"
def TX2 : u_T := fun k => match k with
  | 0 => ("TorchPlate$Plight", "left", "I", false)
  | 1 => ("TorchPlate$Plight", "torch", "I", false)
  | 2 => ("TorchPlate$Plight", "time", "I", false)
  | 3 => ("TorchPlate$Plight", "justEnded", "Z", false)
  | _ => ("TorchPlate$Plight", "burntAt", "[I", true)
def tyX2 : Nat → FieldType := fun k => match k with
  | 0 => .int
  | 1 => .int
  | 2 => .int
  | 3 => .boolean
  | _ => .array .int
abbrev wsX20 : List Cond := u_ws RX2 TX2 5
theorem nmX2 : ∀ a, a < 5 → ∀ b, b < 5 → a ≠ b → (TX2 a).2.1 ≠ (TX2 b).2.1 := by decide +kernel
theorem tyX2_ok : ∀ k, k < 5 → parseFieldDescriptor (TX2 k).2.2.1 = some (tyX2 k) := by decide +kernel
abbrev cX2_init : ByteArray := prog_4_method_1_code
def yX2_init : MethodName := ⟨RX2, "<init>", "()V"⟩
abbrev cX2_beginOn : ByteArray := prog_4_method_2_code
def yX2_beginOn : MethodName := ⟨RX2, "beginOn", "(LTorchPlate$Plate;)V"⟩
abbrev cX2_become : ByteArray := prog_4_method_3_code
def yX2_become : MethodName := ⟨RX2, "become", "(LTorchPlate$Plight;)V"⟩
abbrev cX2_move : ByteArray := prog_4_method_4_code
def yX2_move : MethodName := ⟨RX2, "move", "(ILTorchPlate$Plate;)V"⟩
abbrev cX2_burn : ByteArray := prog_4_method_5_code
def yX2_burn : MethodName := ⟨RX2, "burn", "(IILTorchPlate$Plate;)V"⟩
abbrev cX2_beginOfBurn : ByteArray := prog_4_method_6_code
def yX2_beginOfBurn : MethodName := ⟨RX2, "beginOfBurn", "(ILTorchPlate$Plate;)I"⟩
abbrev cX2_coolAt : ByteArray := prog_4_method_7_code
def yX2_coolAt : MethodName := ⟨RX2, "coolAt", "(II)I"⟩
abbrev cX2_mayLose : ByteArray := prog_4_method_8_code
def yX2_mayLose : MethodName := ⟨RX2, "mayLose", "(ILTorchPlate$Plate;)Z"⟩
def RX3 : String := "TorchPlate$Reader"
def TX3 : u_T := fun k => match k with
  | 0 => ("TorchPlate$Reader", "place", "I", false)
  | 1 => ("TorchPlate$Reader", "next", "I", false)
  | 2 => ("TorchPlate$Reader", "token", "I", false)
  | 3 => ("TorchPlate$Reader", "value", "I", false)
  | 4 => ("TorchPlate$Reader", "item", "I", false)
  | 5 => ("TorchPlate$Reader", "told", "I", false)
  | 6 => ("TorchPlate$Reader", "first", "I", false)
  | 7 => ("TorchPlate$Reader", "last", "I", false)
  | _ => ("TorchPlate$Reader", "heatTold", "Z", false)
def tyX3 : Nat → FieldType := fun k => match k with
  | 0 => .int
  | 1 => .int
  | 2 => .int
  | 3 => .int
  | 4 => .int
  | 5 => .int
  | 6 => .int
  | 7 => .int
  | _ => .boolean
abbrev wsX30 : List Cond := u_ws RX3 TX3 9
theorem nmX3 : ∀ a, a < 9 → ∀ b, b < 9 → a ≠ b → (TX3 a).2.1 ≠ (TX3 b).2.1 := by decide +kernel
theorem tyX3_ok : ∀ k, k < 9 → parseFieldDescriptor (TX3 k).2.2.1 = some (tyX3 k) := by decide +kernel
abbrev cX3_init : ByteArray := prog_5_method_1_code
def yX3_init : MethodName := ⟨RX3, "<init>", "()V"⟩
abbrev cX3_read : ByteArray := prog_5_method_2_code
def yX3_read : MethodName := ⟨RX3, "read", "([IILTorchPlate$Plate;)I"⟩
abbrev cX3_readToken : ByteArray := prog_5_method_3_code
def yX3_readToken : MethodName := ⟨RX3, "readToken", "([II)V"⟩
abbrev cX3_readNumber : ByteArray := prog_5_method_4_code
def yX3_readNumber : MethodName := ⟨RX3, "readNumber", "([II)V"⟩
abbrev cX3_isDigit : ByteArray := prog_5_method_5_code
def yX3_isDigit : MethodName := ⟨RX3, "isDigit", "(I)Z"⟩
abbrev cX3_takesToken : ByteArray := prog_5_method_6_code
def yX3_takesToken : MethodName := ⟨RX3, "takesToken", "(LTorchPlate$Plate;)Z"⟩
abbrev cX3_beginsItem : ByteArray := prog_5_method_7_code
def yX3_beginsItem : MethodName := ⟨RX3, "beginsItem", "(LTorchPlate$Plate;)Z"⟩
abbrev cX3_takesNumber : ByteArray := prog_5_method_8_code
def yX3_takesNumber : MethodName := ⟨RX3, "takesNumber", "(LTorchPlate$Plate;)Z"⟩
abbrev cX3_takesHeat : ByteArray := prog_5_method_9_code
def yX3_takesHeat : MethodName := ⟨RX3, "takesHeat", "(LTorchPlate$Plate;)Z"⟩
abbrev cX3_takesPlace : ByteArray := prog_5_method_10_code
def yX3_takesPlace : MethodName := ⟨RX3, "takesPlace", "(LTorchPlate$Plate;)Z"⟩
abbrev cX3_takesRingCorner : ByteArray := prog_5_method_11_code
def yX3_takesRingCorner : MethodName := ⟨RX3, "takesRingCorner", "(LTorchPlate$Plate;)Z"⟩
abbrev cX3_takesSeamCorner : ByteArray := prog_5_method_12_code
def yX3_takesSeamCorner : MethodName := ⟨RX3, "takesSeamCorner", "(LTorchPlate$Plate;)Z"⟩
abbrev cX3_endsItem : ByteArray := prog_5_method_13_code
def yX3_endsItem : MethodName := ⟨RX3, "endsItem", "(LTorchPlate$Plate;)Z"⟩
abbrev cX3_endsRing : ByteArray := prog_5_method_14_code
def yX3_endsRing : MethodName := ⟨RX3, "endsRing", "(LTorchPlate$Plate;)Z"⟩
def RX4 : String := "TorchPlate$Survey"
def TX4 : u_T := fun k => match k with
  | 0 => ("TorchPlate$Survey", "fresh", "Z", false)
  | 1 => ("TorchPlate$Survey", "pieces", "I", false)
  | 2 => ("TorchPlate$Survey", "cuts", "[I", true)
  | 3 => ("TorchPlate$Survey", "corners", "[I", true)
  | 4 => ("TorchPlate$Survey", "odd", "[I", true)
  | 5 => ("TorchPlate$Survey", "start", "[I", true)
  | 6 => ("TorchPlate$Survey", "linkWay", "[I", true)
  | 7 => ("TorchPlate$Survey", "ahead", "[I", true)
  | 8 => ("TorchPlate$Survey", "partner", "[I", true)
  | 9 => ("TorchPlate$Survey", "order", "[I", true)
  | 10 => ("TorchPlate$Survey", "tourWay", "I", false)
  | _ => ("TorchPlate$Survey", "web", "LTorchPlate$Web;", true)
def tyX4 : Nat → FieldType := fun k => match k with
  | 0 => .boolean
  | 1 => .int
  | 2 => .array .int
  | 3 => .array .int
  | 4 => .array .int
  | 5 => .array .int
  | 6 => .array .int
  | 7 => .array .int
  | 8 => .array .int
  | 9 => .array .int
  | 10 => .int
  | _ => .object "TorchPlate$Web"
abbrev wsX40 : List Cond := u_ws RX4 TX4 12
theorem nmX4 : ∀ a, a < 12 → ∀ b, b < 12 → a ≠ b → (TX4 a).2.1 ≠ (TX4 b).2.1 := by decide +kernel
theorem tyX4_ok : ∀ k, k < 12 → parseFieldDescriptor (TX4 k).2.2.1 = some (tyX4 k) := by decide +kernel
abbrev cX4_init : ByteArray := prog_6_method_1_code
def yX4_init : MethodName := ⟨RX4, "<init>", "()V"⟩
abbrev cX4_look : ByteArray := prog_6_method_2_code
def yX4_look : MethodName := ⟨RX4, "look", "(LTorchPlate$Plate;LTorchPlate$Plight;)V"⟩
abbrev cX4_hasPiece : ByteArray := prog_6_method_3_code
def yX4_hasPiece : MethodName := ⟨RX4, "hasPiece", "(I)Z"⟩
abbrev cX4_startOf : ByteArray := prog_6_method_4_code
def yX4_startOf : MethodName := ⟨RX4, "startOf", "(I)I"⟩
abbrev cX4_stepsOf : ByteArray := prog_6_method_5_code
def yX4_stepsOf : MethodName := ⟨RX4, "stepsOf", "(I)I"⟩
abbrev cX4_pieceOf : ByteArray := prog_6_method_6_code
def yX4_pieceOf : MethodName := ⟨RX4, "pieceOf", "(I)I"⟩
abbrev cX4_idle : ByteArray := prog_6_method_7_code
def yX4_idle : MethodName := ⟨RX4, "idle", "()I"⟩
abbrev cX4_findPieces : ByteArray := prog_6_method_8_code
def yX4_findPieces : MethodName := ⟨RX4, "findPieces", "(LTorchPlate$Plate;LTorchPlate$Plight;)V"⟩
abbrev cX4_cutsAmong : ByteArray := prog_6_method_9_code
def yX4_cutsAmong : MethodName := ⟨RX4, "cutsAmong", "(LTorchPlate$Plate;II)I"⟩
abbrev cX4_oddAmong : ByteArray := prog_6_method_10_code
def yX4_oddAmong : MethodName := ⟨RX4, "oddAmong", "(I)I"⟩
abbrev cX4_leastPairs : ByteArray := prog_6_method_11_code
def yX4_leastPairs : MethodName := ⟨RX4, "leastPairs", "(LTorchPlate$Plate;II)I"⟩
abbrev cX4_pairUp : ByteArray := prog_6_method_12_code
def yX4_pairUp : MethodName := ⟨RX4, "pairUp", "(LTorchPlate$Plate;II)V"⟩
abbrev cX4_piecesAhead : ByteArray := prog_6_method_13_code
def yX4_piecesAhead : MethodName := ⟨RX4, "piecesAhead", "(LTorchPlate$Plate;I)I"⟩
abbrev cX4_partsIn : ByteArray := prog_6_method_14_code
def yX4_partsIn : MethodName := ⟨RX4, "partsIn", "(LTorchPlate$Plate;I)I"⟩
abbrev cX4_isAnyWithin : ByteArray := prog_6_method_15_code
def yX4_isAnyWithin : MethodName := ⟨RX4, "isAnyWithin", "(LTorchPlate$Plate;II)Z"⟩
abbrev cX4_findTour : ByteArray := prog_6_method_16_code
def yX4_findTour : MethodName := ⟨RX4, "findTour", "(LTorchPlate$Plate;I)V"⟩
abbrev cX4_mayBeNext : ByteArray := prog_6_method_17_code
def yX4_mayBeNext : MethodName := ⟨RX4, "mayBeNext", "(II)Z"⟩
abbrev cX4_leastTour : ByteArray := prog_6_method_18_code
def yX4_leastTour : MethodName := ⟨RX4, "leastTour", "(LTorchPlate$Plate;LTorchPlate$Survey;III)I"⟩
def RX5 : String := "TorchPlate$Walk"
def TX5 : u_T := fun k => match k with
  | 0 => ("TorchPlate$Walk", "piece", "I", false)
  | 1 => ("TorchPlate$Walk", "steps", "I", false)
  | 2 => ("TorchPlate$Walk", "to", "[I", true)
  | 3 => ("TorchPlate$Walk", "byCut", "[I", true)
  | _ => ("TorchPlate$Walk", "web", "LTorchPlate$Web;", true)
def tyX5 : Nat → FieldType := fun k => match k with
  | 0 => .int
  | 1 => .int
  | 2 => .array .int
  | 3 => .array .int
  | _ => .object "TorchPlate$Web"
abbrev wsX50 : List Cond := u_ws RX5 TX5 5
theorem nmX5 : ∀ a, a < 5 → ∀ b, b < 5 → a ≠ b → (TX5 a).2.1 ≠ (TX5 b).2.1 := by decide +kernel
theorem tyX5_ok : ∀ k, k < 5 → parseFieldDescriptor (TX5 k).2.2.1 = some (tyX5 k) := by decide +kernel
abbrev cX5_init : ByteArray := prog_7_method_1_code
def yX5_init : MethodName := ⟨RX5, "<init>", "()V"⟩
abbrev cX5_go : ByteArray := prog_7_method_2_code
def yX5_go : MethodName := ⟨RX5, "go", "(LTorchPlate$Plate;LTorchPlate$Survey;I)V"⟩
abbrev cX5_layOut : ByteArray := prog_7_method_3_code
def yX5_layOut : MethodName := ⟨RX5, "layOut", "(LTorchPlate$Plate;LTorchPlate$Survey;I)V"⟩
abbrev cX5_takesStep : ByteArray := prog_7_method_4_code
def yX5_takesStep : MethodName := ⟨RX5, "takesStep", "(I)Z"⟩
abbrev cX5_takesTie : ByteArray := prog_7_method_5_code
def yX5_takesTie : MethodName := ⟨RX5, "takesTie", "([III)Z"⟩
abbrev cX5_notes : ByteArray := prog_7_method_6_code
def yX5_notes : MethodName := ⟨RX5, "notes", "(II)Z"⟩
def RX6 : String := "TorchPlate$Web"
def TX6 : u_T := fun k => match k with
  | 0 => ("TorchPlate$Web", "cuts", "[I", true)
  | _ => ("TorchPlate$Web", "links", "[I", true)
def tyX6 : Nat → FieldType := fun k => match k with
  | 0 => .array .int
  | _ => .array .int
abbrev wsX60 : List Cond := u_ws RX6 TX6 2
theorem nmX6 : ∀ a, a < 2 → ∀ b, b < 2 → a ≠ b → (TX6 a).2.1 ≠ (TX6 b).2.1 := by decide +kernel
theorem tyX6_ok : ∀ k, k < 2 → parseFieldDescriptor (TX6 k).2.2.1 = some (tyX6 k) := by decide +kernel
abbrev cX6_init : ByteArray := prog_8_method_1_code
def yX6_init : MethodName := ⟨RX6, "<init>", "()V"⟩
abbrev cX6_lay : ByteArray := prog_8_method_2_code
def yX6_lay : MethodName := ⟨RX6, "lay", "(LTorchPlate$Plate;I)V"⟩
abbrev cX6_turn : ByteArray := prog_8_method_3_code
def yX6_turn : MethodName := ⟨RX6, "turn", "([III)V"⟩
abbrev cX6_reach : ByteArray := prog_8_method_4_code
def yX6_reach : MethodName := ⟨RX6, "reach", "(I)I"⟩
abbrev cX6_allReachedFrom : ByteArray := prog_8_method_5_code
def yX6_allReachedFrom : MethodName := ⟨RX6, "allReachedFrom", "(I)Z"⟩
def RX7 : String := "TorchPlate$Witness"
def TX7 : u_T := fun k => match k with
  | 0 => ("TorchPlate$Witness", "size", "I", false)
  | 1 => ("TorchPlate$Witness", "one", "[I", true)
  | 2 => ("TorchPlate$Witness", "other", "[I", true)
  | 3 => ("TorchPlate$Witness", "together", "[I", true)
  | 4 => ("TorchPlate$Witness", "tally", "[I", true)
  | _ => ("TorchPlate$Witness", "web", "LTorchPlate$Web;", true)
def tyX7 : Nat → FieldType := fun k => match k with
  | 0 => .int
  | 1 => .array .int
  | 2 => .array .int
  | 3 => .array .int
  | 4 => .array .int
  | _ => .object "TorchPlate$Web"
abbrev wsX70 : List Cond := u_ws RX7 TX7 6
theorem nmX7 : ∀ a, a < 6 → ∀ b, b < 6 → a ≠ b → (TX7 a).2.1 ≠ (TX7 b).2.1 := by decide +kernel
theorem tyX7_ok : ∀ k, k < 6 → parseFieldDescriptor (TX7 k).2.2.1 = some (tyX7 k) := by decide +kernel
abbrev cX7_init : ByteArray := prog_9_method_1_code
def yX7_init : MethodName := ⟨RX7, "<init>", "()V"⟩
abbrev cX7_lose : ByteArray := prog_9_method_2_code
def yX7_lose : MethodName := ⟨RX7, "lose", "()V"⟩
abbrev cX7_add : ByteArray := prog_9_method_3_code
def yX7_add : MethodName := ⟨RX7, "add", "(III)Z"⟩
abbrev cX7_suspects : ByteArray := prog_9_method_4_code
def yX7_suspects : MethodName := ⟨RX7, "suspects", "(LTorchPlate$Plate;I)I"⟩
abbrev cX7_allIsAsSeen : ByteArray := prog_9_method_5_code
def yX7_allIsAsSeen : MethodName := ⟨RX7, "allIsAsSeen", "()Z"⟩
abbrev cX7_bestQuestion : ByteArray := prog_9_method_6_code
def yX7_bestQuestion : MethodName := ⟨RX7, "bestQuestion", "(LTorchPlate$Plate;I)I"⟩
abbrev cX7_tallyPairs : ByteArray := prog_9_method_7_code
def yX7_tallyPairs : MethodName := ⟨RX7, "tallyPairs", "(LTorchPlate$Plate;II)V"⟩
abbrev cX7_countReached : ByteArray := prog_9_method_8_code
def yX7_countReached : MethodName := ⟨RX7, "countReached", "(II)V"⟩
def RX8 : String := "TorchPlate"
def TX8 : u_T := fun k => match k with
  | 0 => ("TorchPlate", "letters", "[I", true)
  | 1 => ("TorchPlate", "length", "I", false)
  | 2 => ("TorchPlate", "plate", "LTorchPlate$Plate;", false)
  | 3 => ("TorchPlate", "draft", "LTorchPlate$Plate;", false)
  | 4 => ("TorchPlate", "reader", "LTorchPlate$Reader;", true)
  | 5 => ("TorchPlate", "now", "LTorchPlate$Plight;", true)
  | 6 => ("TorchPlate", "past", "LTorchPlate$Past;", true)
  | 7 => ("TorchPlate", "images", "[LTorchPlate$Plight;", true)
  | 8 => ("TorchPlate", "keptImages", "I", false)
  | 9 => ("TorchPlate", "survey", "LTorchPlate$Survey;", true)
  | 10 => ("TorchPlate", "walk", "LTorchPlate$Walk;", true)
  | _ => ("TorchPlate", "witness", "LTorchPlate$Witness;", true)
def tyX8 : Nat → FieldType := fun k => match k with
  | 0 => .array .int
  | 1 => .int
  | 2 => .object "TorchPlate$Plate"
  | 3 => .object "TorchPlate$Plate"
  | 4 => .object "TorchPlate$Reader"
  | 5 => .object "TorchPlate$Plight"
  | 6 => .object "TorchPlate$Past"
  | 7 => .array (.object "TorchPlate$Plight")
  | 8 => .int
  | 9 => .object "TorchPlate$Survey"
  | 10 => .object "TorchPlate$Walk"
  | _ => .object "TorchPlate$Witness"
abbrev wsX80 : List Cond := u_ws RX8 TX8 12
theorem nmX8 : ∀ a, a < 12 → ∀ b, b < 12 → a ≠ b → (TX8 a).2.1 ≠ (TX8 b).2.1 := by decide +kernel
theorem tyX8_ok : ∀ k, k < 12 → parseFieldDescriptor (TX8 k).2.2.1 = some (tyX8 k) := by decide +kernel
abbrev cX8_init : ByteArray := prog_1_method_1_code
def yX8_init : MethodName := ⟨RX8, "<init>", "()V"⟩
abbrev cX8_type : ByteArray := prog_1_method_2_code
def yX8_type : MethodName := ⟨RX8, "type", "(I)I"⟩
abbrev cX8_clear : ByteArray := prog_1_method_3_code
def yX8_clear : MethodName := ⟨RX8, "clear", "()I"⟩
abbrev cX8_plate : ByteArray := prog_1_method_4_code
def yX8_plate : MethodName := ⟨RX8, "plate", "()I"⟩
abbrev cX8_corner : ByteArray := prog_1_method_5_code
def yX8_corner : MethodName := ⟨RX8, "corner", "(II)I"⟩
abbrev cX8_cut : ByteArray := prog_1_method_6_code
def yX8_cut : MethodName := ⟨RX8, "cut", "(II)I"⟩
abbrev cX8_part : ByteArray := prog_1_method_7_code
def yX8_part : MethodName := ⟨RX8, "part", "(II)I"⟩
abbrev cX8_burns : ByteArray := prog_1_method_8_code
def yX8_burns : MethodName := ⟨RX8, "burns", "(I)I"⟩
abbrev cX8_moves : ByteArray := prog_1_method_9_code
def yX8_moves : MethodName := ⟨RX8, "moves", "(I)I"⟩
abbrev cX8_follows : ByteArray := prog_1_method_10_code
def yX8_follows : MethodName := ⟨RX8, "follows", "()I"⟩
abbrev cX8_undo : ByteArray := prog_1_method_11_code
def yX8_undo : MethodName := ⟨RX8, "undo", "()I"⟩
abbrev cX8_piece : ByteArray := prog_1_method_12_code
def yX8_piece : MethodName := ⟨RX8, "piece", "(II)I"⟩
abbrev cX8_link : ByteArray := prog_1_method_13_code
def yX8_link : MethodName := ⟨RX8, "link", "(I)I"⟩
abbrev cX8_round : ByteArray := prog_1_method_14_code
def yX8_round : MethodName := ⟨RX8, "round", "(III)I"⟩
abbrev cX8_tour : ByteArray := prog_1_method_15_code
def yX8_tour : MethodName := ⟨RX8, "tour", "(I)I"⟩
abbrev cX8_sees : ByteArray := prog_1_method_16_code
def yX8_sees : MethodName := ⟨RX8, "sees", "(III)I"⟩
abbrev cX8_forget : ByteArray := prog_1_method_17_code
def yX8_forget : MethodName := ⟨RX8, "forget", "()I"⟩
abbrev cX8_unseen : ByteArray := prog_1_method_18_code
def yX8_unseen : MethodName := ⟨RX8, "unseen", "()I"⟩
abbrev cX8_ask : ByteArray := prog_1_method_19_code
def yX8_ask : MethodName := ⟨RX8, "ask", "()I"⟩
abbrev cX8_keep : ByteArray := prog_1_method_20_code
def yX8_keep : MethodName := ⟨RX8, "keep", "(I)I"⟩
abbrev cX8_back : ByteArray := prog_1_method_21_code
def yX8_back : MethodName := ⟨RX8, "back", "(I)I"⟩
abbrev cX8_count : ByteArray := prog_1_method_22_code
def yX8_count : MethodName := ⟨RX8, "count", "(I)I"⟩
abbrev cX8_burnTo : ByteArray := prog_1_method_23_code
def yX8_burnTo : MethodName := ⟨RX8, "burnTo", "(I)Z"⟩
abbrev cX8_moveTo : ByteArray := prog_1_method_24_code
def yX8_moveTo : MethodName := ⟨RX8, "moveTo", "(I)V"⟩
abbrev cX8_surveyed : ByteArray := prog_1_method_25_code
def yX8_surveyed : MethodName := ⟨RX8, "surveyed", "()LTorchPlate$Survey;"⟩
abbrev cX8_outdate : ByteArray := prog_1_method_26_code
def yX8_outdate : MethodName := ⟨RX8, "outdate", "()V"⟩
abbrev cX8_has : ByteArray := prog_1_method_27_code
def yX8_has : MethodName := ⟨RX8, "has", "(II)Z"⟩
def RX9 : String := "TorchPlateModel"
def TX9 : u_T := fun k => match k with
  | 0 => ("TorchPlateModel", "thrown", "I", false)
  | 1 => ("TorchPlateModel", "text", "[I", true)
  | 2 => ("TorchPlateModel", "typed", "I", false)
  | 3 => ("TorchPlateModel", "at", "I", false)
  | 4 => ("TorchPlateModel", "token", "I", false)
  | 5 => ("TorchPlateModel", "start", "I", false)
  | 6 => ("TorchPlateModel", "value", "I", false)
  | 7 => ("TorchPlateModel", "fault", "I", false)
  | 8 => ("TorchPlateModel", "heated", "Z", false)
  | 9 => ("TorchPlateModel", "told", "[I", true)
  | 10 => ("TorchPlateModel", "draft", "[I", true)
  | 11 => ("TorchPlateModel", "s", "[I", true)
  | 12 => ("TorchPlateModel", "undos", "[I", true)
  | 13 => ("TorchPlateModel", "undoMany", "I", false)
  | 14 => ("TorchPlateModel", "kept", "[I", true)
  | 15 => ("TorchPlateModel", "isKept", "[Z", true)
  | 16 => ("TorchPlateModel", "seenA", "[I", true)
  | 17 => ("TorchPlateModel", "seenB", "[I", true)
  | 18 => ("TorchPlateModel", "seenIs", "[I", true)
  | 19 => ("TorchPlateModel", "seenMany", "I", false)
  | 20 => ("TorchPlateModel", "inside", "[I", true)
  | 21 => ("TorchPlateModel", "root", "[I", true)
  | 22 => ("TorchPlateModel", "pieceRoot", "[I", true)
  | 23 => ("TorchPlateModel", "pieceMany", "I", false)
  | 24 => ("TorchPlateModel", "mate", "[I", true)
  | 25 => ("TorchPlateModel", "least", "[I", true)
  | 26 => ("TorchPlateModel", "steps", "[I", true)
  | 27 => ("TorchPlateModel", "stepCut", "[Z", true)
  | 28 => ("TorchPlateModel", "stepMany", "I", false)
  | 29 => ("TorchPlateModel", "open", "[I", true)
  | 30 => ("TorchPlateModel", "order", "[I", true)
  | 31 => ("TorchPlateModel", "bestOrder", "[I", true)
  | 32 => ("TorchPlateModel", "tourWay", "I", false)
  | _ => ("TorchPlateModel", "by", "[I", true)
def tyX9 : Nat → FieldType := fun k => match k with
  | 0 => .int
  | 1 => .array .int
  | 2 => .int
  | 3 => .int
  | 4 => .int
  | 5 => .int
  | 6 => .int
  | 7 => .int
  | 8 => .boolean
  | 9 => .array .int
  | 10 => .array .int
  | 11 => .array .int
  | 12 => .array .int
  | 13 => .int
  | 14 => .array .int
  | 15 => .array .boolean
  | 16 => .array .int
  | 17 => .array .int
  | 18 => .array .int
  | 19 => .int
  | 20 => .array .int
  | 21 => .array .int
  | 22 => .array .int
  | 23 => .int
  | 24 => .array .int
  | 25 => .array .int
  | 26 => .array .int
  | 27 => .array .boolean
  | 28 => .int
  | 29 => .array .int
  | 30 => .array .int
  | 31 => .array .int
  | 32 => .int
  | _ => .array .int
abbrev wsX90 : List Cond := u_ws RX9 TX9 34
theorem nmX9 : ∀ a, a < 34 → ∀ b, b < 34 → a ≠ b → (TX9 a).2.1 ≠ (TX9 b).2.1 := by decide +kernel
theorem tyX9_ok : ∀ k, k < 34 → parseFieldDescriptor (TX9 k).2.2.1 = some (tyX9 k) := by decide +kernel
abbrev cX9_init : ByteArray := prog_11_method_1_code
def yX9_init : MethodName := ⟨RX9, "<init>", "()V"⟩
abbrev cX9_in : ByteArray := prog_11_method_3_code
def yX9_in : MethodName := ⟨RX9, "in", "(III)Z"⟩
abbrev cX9_has : ByteArray := prog_11_method_4_code
def yX9_has : MethodName := ⟨RX9, "has", "(II)Z"⟩
abbrev cX9_ones : ByteArray := prog_11_method_5_code
def yX9_ones : MethodName := ⟨RX9, "ones", "(I)I"⟩
abbrev cX9_lowest : ByteArray := prog_11_method_6_code
def yX9_lowest : MethodName := ⟨RX9, "lowest", "(I)I"⟩
abbrev cX9_type : ByteArray := prog_11_method_7_code
def yX9_type : MethodName := ⟨RX9, "type", "(I)I"⟩
abbrev cX9_clear : ByteArray := prog_11_method_8_code
def yX9_clear : MethodName := ⟨RX9, "clear", "()I"⟩
abbrev cX9_letterAt : ByteArray := prog_11_method_9_code
def yX9_letterAt : MethodName := ⟨RX9, "letterAt", "(I)I"⟩
abbrev cX9_advances : ByteArray := prog_11_method_10_code
def yX9_advances : MethodName := ⟨RX9, "advances", "()V"⟩
abbrev cX9_isWell : ByteArray := prog_11_method_11_code
def yX9_isWell : MethodName := ⟨RX9, "isWell", "()Z"⟩
abbrev cX9_takes : ByteArray := prog_11_method_12_code
def yX9_takes : MethodName := ⟨RX9, "takes", "(Z)I"⟩
abbrev cX9_isNumber : ByteArray := prog_11_method_13_code
def yX9_isNumber : MethodName := ⟨RX9, "isNumber", "(II)Z"⟩
abbrev cX9_begins : ByteArray := prog_11_method_14_code
def yX9_begins : MethodName := ⟨RX9, "begins", "()V"⟩
abbrev cX9_cutOf : ByteArray := prog_11_method_15_code
def yX9_cutOf : MethodName := ⟨RX9, "cutOf", "([III)I"⟩
abbrev cX9_hasRoom : ByteArray := prog_11_method_16_code
def yX9_hasRoom : MethodName := ⟨RX9, "hasRoom", "(II)Z"⟩
abbrev cX9_cuts : ByteArray := prog_11_method_17_code
def yX9_cuts : MethodName := ⟨RX9, "cuts", "(II)V"⟩
abbrev cX9_isFreeAt : ByteArray := prog_11_method_18_code
def yX9_isFreeAt : MethodName := ⟨RX9, "isFreeAt", "(II)Z"⟩
abbrev cX9_readsCorner : ByteArray := prog_11_method_19_code
def yX9_readsCorner : MethodName := ⟨RX9, "readsCorner", "()V"⟩
abbrev cX9_isCorner : ByteArray := prog_11_method_20_code
def yX9_isCorner : MethodName := ⟨RX9, "isCorner", "()Z"⟩
abbrev cX9_readsPart : ByteArray := prog_11_method_21_code
def yX9_readsPart : MethodName := ⟨RX9, "readsPart", "()V"⟩
abbrev cX9_readsSeam : ByteArray := prog_11_method_22_code
def yX9_readsSeam : MethodName := ⟨RX9, "readsSeam", "()V"⟩
abbrev cX9_mayBegin : ByteArray := prog_11_method_23_code
def yX9_mayBegin : MethodName := ⟨RX9, "mayBegin", "()Z"⟩
abbrev cX9_readsItem : ByteArray := prog_11_method_24_code
def yX9_readsItem : MethodName := ⟨RX9, "readsItem", "(I)V"⟩
abbrev cX9_sorts : ByteArray := prog_11_method_25_code
def yX9_sorts : MethodName := ⟨RX9, "sorts", "()V"⟩
abbrev cX9_plate : ByteArray := prog_11_method_26_code
def yX9_plate : MethodName := ⟨RX9, "plate", "()I"⟩
abbrev cX9_settles : ByteArray := prog_11_method_27_code
def yX9_settles : MethodName := ⟨RX9, "settles", "()V"⟩
abbrev cX9_ringAt : ByteArray := prog_11_method_28_code
def yX9_ringAt : MethodName := ⟨RX9, "ringAt", "(II)I"⟩
abbrev cX9_side : ByteArray := prog_11_method_29_code
def yX9_side : MethodName := ⟨RX9, "side", "(III)I"⟩
abbrev cX9_isOn : ByteArray := prog_11_method_30_code
def yX9_isOn : MethodName := ⟨RX9, "isOn", "(III)Z"⟩
abbrev cX9_isWithin : ByteArray := prog_11_method_31_code
def yX9_isWithin : MethodName := ⟨RX9, "isWithin", "(II)Z"⟩
abbrev cX9_isCornerNow : ByteArray := prog_11_method_32_code
def yX9_isCornerNow : MethodName := ⟨RX9, "isCornerNow", "(I)Z"⟩
abbrev cX9_way : ByteArray := prog_11_method_33_code
def yX9_way : MethodName := ⟨RX9, "way", "(II)I"⟩
abbrev cX9_endsAt : ByteArray := prog_11_method_34_code
def yX9_endsAt : MethodName := ⟨RX9, "endsAt", "([III)I"⟩
abbrev cX9_corner : ByteArray := prog_11_method_35_code
def yX9_corner : MethodName := ⟨RX9, "corner", "(II)I"⟩
abbrev cX9_roots : ByteArray := prog_11_method_36_code
def yX9_roots : MethodName := ⟨RX9, "roots", "(I)V"⟩
abbrev cX9_pieces : ByteArray := prog_11_method_37_code
def yX9_pieces : MethodName := ⟨RX9, "pieces", "()V"⟩
abbrev cX9_pieceOf : ByteArray := prog_11_method_38_code
def yX9_pieceOf : MethodName := ⟨RX9, "pieceOf", "(I)I"⟩
abbrev cX9_cutsOf : ByteArray := prog_11_method_39_code
def yX9_cutsOf : MethodName := ⟨RX9, "cutsOf", "(I)I"⟩
abbrev cX9_oddOf : ByteArray := prog_11_method_40_code
def yX9_oddOf : MethodName := ⟨RX9, "oddOf", "(I)I"⟩
abbrev cX9_cut : ByteArray := prog_11_method_41_code
def yX9_cut : MethodName := ⟨RX9, "cut", "(II)I"⟩
abbrev cX9_cutsOfPart : ByteArray := prog_11_method_42_code
def yX9_cutsOfPart : MethodName := ⟨RX9, "cutsOfPart", "(I)I"⟩
abbrev cX9_part : ByteArray := prog_11_method_43_code
def yX9_part : MethodName := ⟨RX9, "part", "(II)I"⟩
abbrev cX9_notes : ByteArray := prog_11_method_44_code
def yX9_notes : MethodName := ⟨RX9, "notes", "()V"⟩
abbrev cX9_wouldFall : ByteArray := prog_11_method_45_code
def yX9_wouldFall : MethodName := ⟨RX9, "wouldFall", "(I)Z"⟩
abbrev cX9_isCool : ByteArray := prog_11_method_46_code
def yX9_isCool : MethodName := ⟨RX9, "isCool", "(II)Z"⟩
abbrev cX9_beginsAt : ByteArray := prog_11_method_47_code
def yX9_beginsAt : MethodName := ⟨RX9, "beginsAt", "(II)I"⟩
abbrev cX9_mayBurn : ByteArray := prog_11_method_48_code
def yX9_mayBurn : MethodName := ⟨RX9, "mayBurn", "(I)Z"⟩
abbrev cX9_burn : ByteArray := prog_11_method_49_code
def yX9_burn : MethodName := ⟨RX9, "burn", "(I)I"⟩
abbrev cX9_move : ByteArray := prog_11_method_50_code
def yX9_move : MethodName := ⟨RX9, "move", "(I)I"⟩
abbrev cX9_burns : ByteArray := prog_11_method_51_code
def yX9_burns : MethodName := ⟨RX9, "burns", "(I)I"⟩
abbrev cX9_moves : ByteArray := prog_11_method_52_code
def yX9_moves : MethodName := ⟨RX9, "moves", "(I)I"⟩
abbrev cX9_follows : ByteArray := prog_11_method_53_code
def yX9_follows : MethodName := ⟨RX9, "follows", "()I"⟩
abbrev cX9_undo : ByteArray := prog_11_method_54_code
def yX9_undo : MethodName := ⟨RX9, "undo", "()I"⟩
abbrev cX9_pairs : ByteArray := prog_11_method_55_code
def yX9_pairs : MethodName := ⟨RX9, "pairs", "(I)V"⟩
abbrev cX9_links : ByteArray := prog_11_method_56_code
def yX9_links : MethodName := ⟨RX9, "links", "(I)I"⟩
abbrev cX9_link : ByteArray := prog_11_method_57_code
def yX9_link : MethodName := ⟨RX9, "link", "(I)I"⟩
abbrev cX9_startOf : ByteArray := prog_11_method_58_code
def yX9_startOf : MethodName := ⟨RX9, "startOf", "(I)I"⟩
abbrev cX9_opens : ByteArray := prog_11_method_59_code
def yX9_opens : MethodName := ⟨RX9, "opens", "(III)V"⟩
abbrev cX9_shuts : ByteArray := prog_11_method_60_code
def yX9_shuts : MethodName := ⟨RX9, "shuts", "(III)V"⟩
abbrev cX9_isOpen : ByteArray := prog_11_method_61_code
def yX9_isOpen : MethodName := ⟨RX9, "isOpen", "(III)Z"⟩
abbrev cX9_isAllFrom : ByteArray := prog_11_method_62_code
def yX9_isAllFrom : MethodName := ⟨RX9, "isAllFrom", "(I)Z"⟩
abbrev cX9_goesOn : ByteArray := prog_11_method_63_code
def yX9_goesOn : MethodName := ⟨RX9, "goesOn", "(III)Z"⟩
abbrev cX9_rounds : ByteArray := prog_11_method_64_code
def yX9_rounds : MethodName := ⟨RX9, "rounds", "(I)I"⟩
abbrev cX9_aheadOf : ByteArray := prog_11_method_65_code
def yX9_aheadOf : MethodName := ⟨RX9, "aheadOf", "(I)I"⟩
abbrev cX9_tours : ByteArray := prog_11_method_66_code
def yX9_tours : MethodName := ⟨RX9, "tours", "()Z"⟩
abbrev cX9_piece : ByteArray := prog_11_method_67_code
def yX9_piece : MethodName := ⟨RX9, "piece", "(II)I"⟩
abbrev cX9_round : ByteArray := prog_11_method_68_code
def yX9_round : MethodName := ⟨RX9, "round", "(III)I"⟩
abbrev cX9_tour : ByteArray := prog_11_method_69_code
def yX9_tour : MethodName := ⟨RX9, "tour", "(I)I"⟩
abbrev cX9_sees : ByteArray := prog_11_method_70_code
def yX9_sees : MethodName := ⟨RX9, "sees", "(III)I"⟩
abbrev cX9_forget : ByteArray := prog_11_method_71_code
def yX9_forget : MethodName := ⟨RX9, "forget", "()I"⟩
abbrev cX9_unseenSet : ByteArray := prog_11_method_72_code
def yX9_unseenSet : MethodName := ⟨RX9, "unseenSet", "()I"⟩
abbrev cX9_unseen : ByteArray := prog_11_method_73_code
def yX9_unseen : MethodName := ⟨RX9, "unseen", "()I"⟩
abbrev cX9_ask : ByteArray := prog_11_method_74_code
def yX9_ask : MethodName := ⟨RX9, "ask", "()I"⟩
abbrev cX9_keep : ByteArray := prog_11_method_75_code
def yX9_keep : MethodName := ⟨RX9, "keep", "(I)I"⟩
abbrev cX9_back : ByteArray := prog_11_method_76_code
def yX9_back : MethodName := ⟨RX9, "back", "(I)I"⟩
abbrev cX9_count : ByteArray := prog_11_method_77_code
def yX9_count : MethodName := ⟨RX9, "count", "(I)I"⟩
def RJ6 : String := "java/lang/Integer"
def TJ6 : u_T := fun k => match k with
  | _ => ("", "", "", false)
def tyJ6 : Nat → FieldType := fun k => match k with
  | _ => .int
abbrev wsJ60 : List Cond := u_ws RJ6 TJ6 0
theorem nmJ6 : ∀ a, a < 0 → ∀ b, b < 0 → a ≠ b → (TJ6 a).2.1 ≠ (TJ6 b).2.1 := by decide +kernel
theorem tyJ6_ok : ∀ k, k < 0 → parseFieldDescriptor (TJ6 k).2.2.1 = some (tyJ6 k) := by decide +kernel
abbrev cJ6_numberOfTrailingZeros_0f7a4 : ByteArray := prog_12_method_48_code
def yJ6_numberOfTrailingZeros_0f7a4 : MethodName := ⟨RJ6, "numberOfTrailingZeros", "(I)I"⟩
abbrev cJ6_bitCount_0f7a4 : ByteArray := prog_12_method_49_code
def yJ6_bitCount_0f7a4 : MethodName := ⟨RJ6, "bitCount", "(I)I"⟩
def RJ9 : String := "java/lang/Math"
def TJ9 : u_T := fun k => match k with
  | _ => ("", "", "", false)
def tyJ9 : Nat → FieldType := fun k => match k with
  | _ => .int
abbrev wsJ90 : List Cond := u_ws RJ9 TJ9 0
theorem nmJ9 : ∀ a, a < 0 → ∀ b, b < 0 → a ≠ b → (TJ9 a).2.1 ≠ (TJ9 b).2.1 := by decide +kernel
theorem tyJ9_ok : ∀ k, k < 0 → parseFieldDescriptor (TJ9 k).2.2.1 = some (tyJ9 k) := by decide +kernel
abbrev cJ9_abs_0f7a4 : ByteArray := prog_13_method_59_code
def yJ9_abs_0f7a4 : MethodName := ⟨RJ9, "abs", "(I)I"⟩
abbrev cJ9_max_7cf53 : ByteArray := prog_13_method_65_code
def yJ9_max_7cf53 : MethodName := ⟨RJ9, "max", "(II)I"⟩
abbrev cJ9_min_7cf53 : ByteArray := prog_13_method_69_code
def yJ9_min_7cf53 : MethodName := ⟨RJ9, "min", "(II)I"⟩
def RJ10 : String := "java/lang/System"
def TJ10 : u_T := fun k => match k with
  | _ => ("", "", "", false)
def tyJ10 : Nat → FieldType := fun k => match k with
  | _ => .int
abbrev wsJ100 : List Cond := u_ws RJ10 TJ10 0
theorem nmJ10 : ∀ a, a < 0 → ∀ b, b < 0 → a ≠ b → (TJ10 a).2.1 ≠ (TJ10 b).2.1 := by decide +kernel
theorem tyJ10_ok : ∀ k, k < 0 → parseFieldDescriptor (TJ10 k).2.2.1 = some (tyJ10 k) := by decide +kernel
def RJ7 : String := "java/util/Arrays"
def TJ7 : u_T := fun k => match k with
  | _ => ("", "", "", false)
def tyJ7 : Nat → FieldType := fun k => match k with
  | _ => .int
abbrev wsJ70 : List Cond := u_ws RJ7 TJ7 0
theorem nmJ7 : ∀ a, a < 0 → ∀ b, b < 0 → a ≠ b → (TJ7 a).2.1 ≠ (TJ7 b).2.1 := by decide +kernel
theorem tyJ7_ok : ∀ k, k < 0 → parseFieldDescriptor (TJ7 k).2.2.1 = some (tyJ7 k) := by decide +kernel
abbrev cJ7_fill_53178 : ByteArray := prog_15_method_103_code
def yJ7_fill_53178 : MethodName := ⟨RJ7, "fill", "([II)V"⟩
def RL : String := "TorchPlateLaw"
abbrev cL_law : ByteArray := code
def yL_law : MethodName := ⟨RL, "law", "([I)Z"⟩
def wsL_law : List Cond := lw_tbl.filter goodWord
theorem wsL_law_in : ∀ w ∈ wsL_law, w ∈ lw_tbl := fun w h => (List.mem_filter.mp h).1
theorem z_good : GoodIn wsL_law wsL_law := fun w h => ⟨h, good_of_word (List.mem_filter.mp h).2⟩
theorem z_in0 {w : Cond} (h : w ∈ tables_1) (g : goodWord w = true) : w ∈ wsL_law := List.mem_filter.mpr ⟨List.mem_append_right _ h, g⟩
theorem z_inS {w : Cond} (h : w ∈ k2_sels lw_privs) (g : goodWord w = true) : w ∈ wsL_law := List.mem_filter.mpr ⟨List.mem_append_left _ h, g⟩
theorem z_in1 {w : Cond} (h : w ∈ tables_1_1) (g : goodWord w = true) : w ∈ wsL_law := z_in0 (List.mem_append_left _ h) g
theorem z_in2 {w : Cond} (h : w ∈ tables_1_2) (g : goodWord w = true) : w ∈ wsL_law := z_in0 (List.mem_append_right _ (List.mem_append_left _ h)) g
theorem z_in3 {w : Cond} (h : w ∈ tables_1_3) (g : goodWord w = true) : w ∈ wsL_law := z_in0 (List.mem_append_right _ (List.mem_append_right _ (List.mem_append_left _ h))) g
theorem z_in4 {w : Cond} (h : w ∈ tables_1_4) (g : goodWord w = true) : w ∈ wsL_law := z_in0 (List.mem_append_right _ (List.mem_append_right _ (List.mem_append_right _ (List.mem_append_left _ h)))) g
theorem z_in5 {w : Cond} (h : w ∈ tables_1_5) (g : goodWord w = true) : w ∈ wsL_law := z_in0 (List.mem_append_right _ (List.mem_append_right _ (List.mem_append_right _ (List.mem_append_right _ (List.mem_append_left _ h))))) g
theorem z_in6 {w : Cond} (h : w ∈ tables_1_6) (g : goodWord w = true) : w ∈ wsL_law := z_in0 (List.mem_append_right _ (List.mem_append_right _ (List.mem_append_right _ (List.mem_append_right _ (List.mem_append_right _ (h)))))) g
abbrev vwCl : List vw_C := [(RX0, TX0, 3), (RX1, TX1, 14), (RX2, TX2, 5), (RX3, TX3, 9), (RX4, TX4, 12), (RX5, TX5, 5), (RX6, TX6, 2), (RX7, TX7, 6), (RX8, TX8, 12), (RX9, TX9, 34)]
end
section
/-! ===== the small machine: cells by places, their ints and their references apart ===== -/
abbrev zHP : Type := List (Nat × Nat) × (Nat → Nat → Int32) × (Nat → Nat → Option Nat)
/-- the world's names: slots and classes, the script's address, the first own address, array classes, the script -/
abbrev zV : Type := va_G × Nat × Nat × (ClassId × ClassId × ClassId × ClassId) × Nat × (Nat → Int32)
abbrev zM : Type := MethodName × ByteArray × Nat × Option FieldType
def z_ad (V : zV) : Nat → Nat
  | 0 => V.2.1
  | k + 1 => V.2.2.1 + k
def z_rl (V : zV) : Value → Value
  | .ref k => .ref (z_ad V k)
  | v => v
def z_tyR : FieldType → Bool
  | .object _ => true
  | .array _ => true
  | _ => false
def z_ty (ci : Nat) : Nat → FieldType := match ci with
  | 0 => tyX0
  | 1 => tyX1
  | 2 => tyX2
  | 3 => tyX3
  | 4 => tyX4
  | 5 => tyX5
  | 6 => tyX6
  | 7 => tyX7
  | 8 => tyX8
  | _ => tyX9
def z_val (V : zV) (h : zHP) (ci k j : Nat) : Value := if z_tyR (z_ty ci j) = true then va_rf ((h.2.2 k j).map (z_ad V)) else .int (h.2.1 k j)
def z_cell (V : zV) (h : zHP) (k : Nat) (t : Nat × Nat) : va_E :=
  if t.1 = 100 then .inl (V.2.2.2.1.1, t.2, .inl (h.2.1 k))
  else if t.1 = 101 then .inl (V.2.2.2.1.2.1, t.2, .inl (h.2.1 k))
  else if t.1 = 102 then .inl (V.2.2.2.1.2.2.1, t.2, .inr (.inr (.inr (.inr (fun j => (h.2.2 k j).map (z_ad V))))))
  else if t.1 = 103 then .inl (V.2.2.2.1.2.2.2, t.2, .inr (.inr (.inr (.inr (fun j => (h.2.2 k j).map (z_ad V))))))
  else .inr (t.1, (List.range t.2).map (z_val V h t.1 k))
def z_ws (V : zV) (h : zHP) : va_W := (List.range (h.1.length - 1)).map (fun q => (z_ad V (q + 1), z_cell V h (q + 1) (h.1.getD (q + 1) (0, 0))))
def z_ui (f : Nat → Nat → Int32) (k : Nat) (g : Nat → Int32) : Nat → Nat → Int32 := fun q => if q = k then g else f q
def z_ur (f : Nat → Nat → Option Nat) (k : Nat) (g : Nat → Option Nat) : Nat → Nat → Option Nat := fun q => if q = k then g else f q
theorem z_cell_kept {V : zV} {h h' : zHP} {k : Nat} {t : Nat × Nat} (h1 : h'.2.1 k = h.2.1 k) (h2 : h'.2.2 k = h.2.2 k) : z_cell V h' k t = z_cell V h k t := by
  unfold z_cell z_val
  rw [h1, h2]
theorem z_get {V : zV} {h : zHP} {k : Nat} {t : Nat × Nat} (hk : h.1[k + 1]? = some t) : (z_ws V h)[k]? = some (z_ad V (k + 1), z_cell V h (k + 1) t) := by
  have hl : k + 1 < h.1.length := (List.getElem?_eq_some_iff.mp hk).1
  unfold z_ws
  rw [List.getElem?_map, List.getElem?_range (by omega)]
  simp [List.getD, hk]
theorem z_len (V : zV) (h : zHP) : (z_ws V h).length = h.1.length - 1 := by simp [z_ws]
theorem z_at_of {V : zV} {h : zHP} {k : Nat} {q : Nat × va_E} (hk : (z_ws V h)[k]? = some q) : ∃ t, h.1[k + 1]? = some t ∧ q = (z_ad V (k + 1), z_cell V h (k + 1) t) := by
  have hl : k < (z_ws V h).length := (List.getElem?_eq_some_iff.mp hk).1
  rw [z_len] at hl
  have hg : h.1[k + 1]? = some (h.1[k + 1]'(by omega)) := List.getElem?_eq_getElem (by omega)
  refine ⟨_, hg, ?_⟩
  have := z_get (V := V) hg
  rw [hk] at this
  exact Option.some.inj this
theorem z_set_gen {V : zV} {h h' : zHP} {k : Nat} {t : Nat × Nat} (hk : h.1[k + 1]? = some t) (h0 : h'.1 = h.1) (h1 : ∀ q, q ≠ k + 1 → h'.2.1 q = h.2.1 q) (h2 : ∀ q, q ≠ k + 1 → h'.2.2 q = h.2.2 q) : z_ws V h' = (z_ws V h).set k (z_ad V (k + 1), z_cell V h' (k + 1) t) := by
  apply List.ext_getElem?
  intro i
  by_cases hi : i < h.1.length - 1
  · have hg : h.1[i + 1]? = some (h.1[i + 1]'(by omega)) := List.getElem?_eq_getElem (by omega)
    rw [z_get (V := V) (h := h') (t := h.1[i + 1]'(by omega)) (by rw [h0]; exact hg)]
    by_cases e : i = k
    · subst e
      rw [List.getElem?_set_self (by rw [z_len]; exact hi)]
      rw [hg] at hk
      rw [Option.some.inj hk]
    · rw [List.getElem?_set_ne (Ne.symm e), z_get hg]
      rw [z_cell_kept (h1 _ (by omega)) (h2 _ (by omega))]
  · rw [List.getElem?_eq_none (by rw [z_len, h0]; omega), List.getElem?_eq_none (by rw [List.length_set, z_len]; omega)]
theorem z_push {V : zV} {h h' : zHP} {t : Nat × Nat} (hl : 1 ≤ h.1.length) (h0 : h'.1 = h.1 ++ [t]) (h1 : ∀ q, q < h.1.length → h'.2.1 q = h.2.1 q) (h2 : ∀ q, q < h.1.length → h'.2.2 q = h.2.2 q) : z_ws V h' = z_ws V h ++ [(z_ad V h.1.length, z_cell V h' h.1.length t)] := by
  obtain ⟨n, hn⟩ : ∃ n, h.1.length = n + 1 := ⟨h.1.length - 1, by omega⟩
  apply List.ext_getElem?
  intro i
  by_cases hi : i < h.1.length - 1
  · have hg : h.1[i + 1]? = some (h.1[i + 1]'(by omega)) := List.getElem?_eq_getElem (by omega)
    rw [List.getElem?_append_left (by rw [z_len]; exact hi), z_get hg, z_get (V := V) (h := h') (t := h.1[i + 1]'(by omega)) (by rw [h0, List.getElem?_append_left (by omega)]; exact hg)]
    rw [z_cell_kept (h1 _ (by omega)) (h2 _ (by omega))]
  · by_cases e : i = n
    · subst e
      rw [List.getElem?_append_right (by rw [z_len]; omega), z_len, z_get (V := V) (h := h') (t := t) (by rw [h0, List.getElem?_append_right (by omega)]; simp [hn])]
      simp [hn]
    · rw [List.getElem?_eq_none (by rw [z_len, h0]; simp; omega), List.getElem?_eq_none (by simp [z_len]; omega)]
theorem z_D (V : zV) (h : zHP) : va_D (fun q => V.2.2.1 ≤ q) (z_ws V h) := by
  refine ⟨fun i j p q hi hj e => ?_, fun k q hk => ?_⟩
  · obtain ⟨t, -, rfl⟩ := z_at_of hi
    obtain ⟨u, -, rfl⟩ := z_at_of hj
    have : V.2.2.1 + i = V.2.2.1 + j := e
    omega
  · obtain ⟨t, -, rfl⟩ := z_at_of hk
    exact Nat.le_add_right _ _
/-- the heap holds the world -/
def z_W (V : zV) (h : zHP) (H : Heap) : Prop := va_P V.1 vwCl (z_ws V h) H ∧ H.size + 1 = V.2.2.1 + h.1.length ∧ 1 ≤ h.1.length ∧ h.1[0]? = some (100, V.2.2.2.2.1) ∧ h.2.1 0 = V.2.2.2.2.2
def z_tys (V : zV) : List (ClassId × FieldType) := [(V.2.2.2.1.1, .int), (V.2.2.2.1.2.1, .boolean), (V.2.2.2.1.2.2.1, .array .int), (V.2.2.2.1.2.2.2, .object "TorchPlate$Plight")]
def z_L (V : zV) (LS : Array Slot) (ls : List Value) : Prop := LS.size = ls.length ∧ lv_wf LS ∧ ∀ (i : Nat) (v : Value), ls[i]? = some v → v ≠ .null → LS[i]? = some (.val (z_rl V v))
def z_nest : List Cond := [.methodLinkNest RX8 19 yX1_init RX8, .methodLinkNest RX8 29 yX3_init RX8, .methodLinkNest RX8 36 yX2_init RX8, .methodLinkNest RX0 24 yX2_init RX8, .methodLinkNest RX8 57 yX4_init RX8, .methodLinkNest RX4 49 yX6_init RX8, .methodLinkNest RX8 64 yX5_init RX8, .methodLinkNest RX5 27 yX6_init RX8, .methodLinkNest RX8 71 yX7_init RX8, .methodLinkNest RX7 30 yX6_init RX8, .methodLinkNest RX1 73 yX8_has RX8, .methodLinkNest RX6 29 yX8_has RX8, .methodLinkNest RX4 95 yX8_has RX8, .methodLinkNest RX2 81 yX8_has RX8, .methodLinkNest RX5 68 yX8_has RX8, .methodLinkNest RX7 40 yX8_has RX8]
/-- the class of int[][] is there, found by its component -/
def z_AA (U : State) : Prop := (Cond.arrayOver (.array .int)).before #[] U = true
theorem z_AA.use {A : Array Value} {U : State} (h : z_AA U) : (Cond.arrayOver (.array .int)).before A U = true := h
theorem z_AA.of {A : Array Value} {U : State} (h : (Cond.arrayOver (.array .int)).before A U = true) : z_AA U := h
theorem z_AA.spec {s : State} (h : z_AA s) : ∃ comp c k, s.vm.findClass (FieldType.array .int).toString = some comp ∧ (s.vm.classes.findIdx? fun (x : Class) => match x.kind with | .array component _ => component == comp | _ => false) = some c ∧ s.vm.classes[c]? = some k ∧ k.kind = .array comp (.array .int) ∧ s.vm.findClass ("[" ++ (FieldType.array .int).toString) = some c := by
  unfold z_AA Cond.before at h
  simp only [Cond.holds, Cond.value, beq_iff_eq] at h
  cases hc : s.vm.findClass (FieldType.array .int).toString with
  | none => simp [hc] at h
  | some comp =>
    simp only [hc, Option.bind_some, Option.bind_eq_some_iff, Option.map_eq_some_iff] at h
    obtain ⟨c, hi, k, hk, hb⟩ := h
    obtain ⟨hlt, hp, -⟩ := Array.findIdx?_eq_some_iff_getElem.mp hi
    have hkk : s.vm.classes[c] = k := (Array.getElem?_eq_some_iff.mp hk).2
    rw [hkk] at hp
    cases hkind : k.kind with
    | array component ty =>
      rw [hkind] at hb hp
      simp at hb hp
      exact ⟨comp, c, k, rfl, hi, hk, by rw [hkind, hp, hb.1], hb.2⟩
    | _ => rw [hkind] at hb; simp at hb
theorem z_AA.moved {u U : State} (hvm : u.vm.Alike U.vm) (h : z_AA u) : z_AA U := by
  obtain ⟨comp, c, k, h1, h2, h3, h4, h5⟩ := h.spec
  obtain ⟨k', hk', he⟩ := hvm.2.2 _ _ h3
  have hi : (U.vm.classes.findIdx? fun (x : Class) => match x.kind with | .array component _ => component == comp | _ => false) = some c := by
    refine (va_idx_bare U.vm comp).symm.trans ?_
    refine Eq.trans ?_ ((va_idx_bare u.vm comp).trans h2)
    first | rw [hvm.bare_eq] | rw [← hvm.bare_eq]
  have hkind : k'.kind = .array comp (.array .int) := by rw [he]; exact h4
  have f1 : U.vm.findClass (FieldType.array .int).toString = some comp := by rw [hvm.findClass]; exact h1
  have f2 : U.vm.findClass ("[" ++ (FieldType.array .int).toString) = some c := by rw [hvm.findClass]; exact h5
  unfold z_AA Cond.before Cond.holds
  simp only [Cond.value]
  rw [f1, Option.bind_some]
  refine (congrArg (fun o : Option Nat => (o.bind (fun c => (U.vm.classes[c]?).map fun (k : Class) => match k.kind with | .array _ ty => decide (ty = FieldType.array .int) && decide (U.vm.findClass ("[" ++ (FieldType.array .int).toString) = some c) | _ => false) == some true)) hi).trans ?_
  simp [hk', hkind, f2]
def z_N (s : State) : Prop := (∀ w ∈ z_nest, va_Nw w s) ∧ va_AO "TorchPlate$Plight" s ∧ z_AA s
def z_C (V : zV) (M : zM) (d : Nat) (p : Program) (l : Launch) (e : Env) (R : Room) (s : State) (m : MethodId) (args : Array Value) (below : List Frame) (meth : Method) (c : Code) : Prop :=
  p.tables.exec = Jvm.exec ∧ c.code = M.2.1 ∧ meth.sig.returnType = M.2.2.2 ∧ c.maxLocals = M.2.2.1 ∧ s.vm.findClass M.1.cls = some m.cls ∧ meth.locks = false ∧ (∀ w ∈ wsL_law, w.before args s = true) ∧ z_N s ∧ va_K V.1 vwCl (z_tys V) s ∧ d ≤ R.frames ∧ 100 * d ≤ R.locals ∧ va_X V.2.1 V.2.2.2.2.1 V.2.2.2.2.2 s s.heap ∧ V.2.1 < V.2.2.1 ∧ V.2.2.1 ≤ s.heap.size ∧ meth.name = M.1.name
def z_R (M : zM) (v : Option Value) (i : Instr) : Prop := match v with
  | none => i = .return_ ∧ M.2.2.2 = none
  | some (.int x) => i = .ireturn ∧ ∃ ty, M.2.2.2 = some ty ∧ narrow ty (.int x) = .int x
  | some (.ref _) => i = .areturn ∧ ∃ rt, M.2.2.2 = some rt ∧ ((∃ n, rt = .object n) ∨ ∃ t, rt = .array t)
  | _ => False
/-- the judgement: from this frame, with this world, the method comes to a return with Φ -/
def z_G (V : zV) (M : zM) (d bc bs pc : Nat) (ls st : List Value) (h : zHP) (Φ : Option Value → zHP → Prop) : Prop :=
  ∀ (p : Program) (l : Launch) (e : Env) (R : Room) (s : State) (m : MethodId) (args : Array Value) (below : List Frame) (meth : Method) (c : Code) (H : Heap) (locs : List Loc) (cells slots : Nat) (LS : Array Slot) (QQ : State → Prop),
    z_C V M d p l e R s m args below meth c → z_W V h H → va_S (fun q => V.2.2.1 ≤ q) s.heap H locs → z_L V LS ls → M.2.2.1 = ls.length → cells + bc ≤ R.cells → slots + bs ≤ R.slots →
    (∀ (v : Option Value) (h' : zHP) (H' : Heap) (locs' : List Loc) (pc' : Nat) (LS' : Array Slot) (i : Instr), Φ v h' → z_W V h' H' → va_S (fun q => V.2.2.1 ≤ q) s.heap H' locs' → z_R M v i → decode M.2.1 pc' = .ok (i, 1) → W p l e R s m args below meth c H' locs' (cells + bc) (slots + bs) QQ (F0 m pc' LS' (v.toList.map (z_rl V)))) →
    W p l e R s m args below meth c H locs cells slots QQ (F0 m pc LS (st.map (z_rl V)))
theorem z_G.mono {V : zV} {M : zM} {d bc bs pc : Nat} {ls st : List Value} {h : zHP} {Φ Ψ : Option Value → zHP → Prop} (k : z_G V M d bc bs pc ls st h Φ) (hm : ∀ v h', Φ v h' → Ψ v h') : z_G V M d bc bs pc ls st h Ψ :=
  fun p l e R s m args below meth c H locs cells slots LS QQ C hw hS hL hn hc hs ret => k p l e R s m args below meth c H locs cells slots LS QQ C hw hS hL hn hc hs (fun v h' H' locs' pc' LS' i f => ret v h' H' locs' pc' LS' i (hm v h' f))
section ZG
variable {V : zV} {M : zM} {d bc bs pc : Nat} {ls st : List Value} {h : zHP} {Φ : Option Value → zHP → Prop}
/-- an instruction of the stack alone -/
theorem zg_go {pc' : Nat} {st st' : List Value} (hstep : ∀ (p : Program) (l : Launch) (e : Env) (R : Room) (s : State) (m : MethodId) (args : Array Value) (below : List Frame) (meth : Method) (c : Code) (H : Heap) (locs : List Loc) (cells slots : Nat) (LS : Array Slot) (QQ : State → Prop), z_C V M d p l e R s m args below meth c → z_L V LS ls → W p l e R s m args below meth c H locs cells slots QQ (F0 m pc' LS (st'.map (z_rl V))) → W p l e R s m args below meth c H locs cells slots QQ (F0 m pc LS (st.map (z_rl V))))
    (k : z_G V M d bc bs pc' ls st' h Φ) : z_G V M d bc bs pc ls st h Φ :=
  fun p l e R s m args below meth c H locs cells slots LS QQ C hw hS hL hn hc hs ret => hstep p l e R s m args below meth c H locs cells slots LS QQ C hL (k p l e R s m args below meth c H locs cells slots LS QQ C hw hS hL hn hc hs ret)
def z_at : List Value → Nat → Option Value
  | [], _ => none
  | v :: _, 0 => some v
  | _ :: l, n + 1 => z_at l n
def z_st : List Value → Nat → Value → List Value
  | [], _, _ => []
  | _ :: l, 0, x => x :: l
  | v :: l, n + 1, x => v :: z_st l n x
theorem z_at_eq : ∀ (l : List Value) (i : Nat), z_at l i = l[i]?
  | [], _ => rfl
  | _ :: _, 0 => rfl
  | _ :: l, n + 1 => by rw [List.getElem?_cons_succ]; exact z_at_eq l n
theorem z_st_eq : ∀ (l : List Value) (i : Nat) (x : Value), z_st l i x = l.set i x
  | [], _, _ => rfl
  | _ :: _, 0, _ => rfl
  | v :: l, n + 1, x => by rw [List.set_cons_succ, ← z_st_eq l n x]; rfl
theorem zg_iconst {n : Int} (v : Int32) (hd : decode M.2.1 pc = .ok (.iconst n, 1)) (hv : Int32.ofInt n = v) (k : z_G V M d bc bs (pc + 1) ls (.int v :: st) h Φ) : z_G V M d bc bs pc ls st h Φ :=
  zg_go (fun _ _ _ _ _ _ _ _ _ _ _ _ _ _ _ _ C _ w => lv_iconst C.1 C.2.1 hd hv w) k
theorem zg_bipush {n : Int} (v : Int32) (hd : decode M.2.1 pc = .ok (.bipush n, 2)) (hv : (Int8.ofInt n).toInt32 = v) (k : z_G V M d bc bs (pc + 2) ls (.int v :: st) h Φ) : z_G V M d bc bs pc ls st h Φ :=
  zg_go (fun _ _ _ _ _ _ _ _ _ _ _ _ _ _ _ _ C _ w => lv_bipush C.1 C.2.1 hd hv w) k
theorem zg_sipush {n : Int} (v : Int32) (hd : decode M.2.1 pc = .ok (.sipush n, 3)) (hv : (Int16.ofInt n).toInt32 = v) (k : z_G V M d bc bs (pc + 3) ls (.int v :: st) h Φ) : z_G V M d bc bs pc ls st h Φ :=
  zg_go (fun _ _ _ _ _ _ _ _ _ _ _ _ _ _ _ _ C _ w => lv_sipush C.1 C.2.1 hd hv w) k
theorem zg_ldc {i : Nat} (v : Int32) (hd : decode M.2.1 pc = .ok (.ldc i, 2)) (hw : Cond.constant M.1.cls i v ∈ wsL_law) (k : z_G V M d bc bs (pc + 2) ls (.int v :: st) h Φ) : z_G V M d bc bs pc ls st h Φ :=
  zg_go (fun _ _ _ _ _ _ _ _ _ _ _ _ _ _ _ _ C _ w => lv_ldc C.1 C.2.1 C.2.2.2.2.1 (C.2.2.2.2.2.2.1 _ hw) hd w) k
theorem zg_ldcw {i : Nat} (v : Int32) (hd : decode M.2.1 pc = .ok (.ldc_w i, 3)) (hw : Cond.constant M.1.cls i v ∈ wsL_law) (k : z_G V M d bc bs (pc + 3) ls (.int v :: st) h Φ) : z_G V M d bc bs pc ls st h Φ :=
  zg_go (fun _ _ _ _ _ _ _ _ _ _ _ _ _ _ _ _ C _ w => lv_ldcw C.1 C.2.1 C.2.2.2.2.1 (C.2.2.2.2.2.2.1 _ hw) hd w) k
theorem z_L.at {LS : Array Slot} {i : Nat} {v : Value} (hL : z_L V LS ls) (hv : z_at ls i = some v) (hn : v ≠ .null) : LS[i]? = some (.val (z_rl V v)) := hL.2.2 i v (by rw [← z_at_eq]; exact hv) hn
theorem zg_iload {i : Nat} {x : Int32} (hd : decode M.2.1 pc = .ok (.iload i, 2)) (hv : z_at ls i = some (.int x)) (k : z_G V M d bc bs (pc + 2) ls (.int x :: st) h Φ) : z_G V M d bc bs pc ls st h Φ :=
  zg_go (fun _ _ _ _ _ _ _ _ _ _ _ _ _ _ _ _ C hL w => lv_iload C.1 C.2.1 hd (hL.at hv (fun q => by cases q)) w) k
theorem zg_iload_n {i : Fin 4} {x : Int32} (hd : decode M.2.1 pc = .ok (.iload_n i, 1)) (hv : z_at ls i = some (.int x)) (k : z_G V M d bc bs (pc + 1) ls (.int x :: st) h Φ) : z_G V M d bc bs pc ls st h Φ :=
  zg_go (fun _ _ _ _ _ _ _ _ _ _ _ _ _ _ _ _ C hL w => lv_iload_n C.1 C.2.1 hd rfl (hL.at hv (fun q => by cases q)) w) k
theorem zg_aload {i : Nat} {x : Nat} (hd : decode M.2.1 pc = .ok (.aload i, 2)) (hv : z_at ls i = some (.ref x)) (k : z_G V M d bc bs (pc + 2) ls (.ref x :: st) h Φ) : z_G V M d bc bs pc ls st h Φ :=
  zg_go (fun _ _ _ _ _ _ _ _ _ _ _ _ _ _ _ _ C hL w => lv_aload C.1 C.2.1 hd (hL.at hv (fun q => by cases q)) w) k
theorem zg_aload_n {i : Fin 4} {x : Nat} (hd : decode M.2.1 pc = .ok (.aload_n i, 1)) (hv : z_at ls i = some (.ref x)) (k : z_G V M d bc bs (pc + 1) ls (.ref x :: st) h Φ) : z_G V M d bc bs pc ls st h Φ :=
  zg_go (fun _ _ _ _ _ _ _ _ _ _ _ _ _ _ _ _ C hL w => lv_aload_n C.1 C.2.1 hd rfl (hL.at hv (fun q => by cases q)) w) k
theorem zg_iadd {x y : Int32} (hd : decode M.2.1 pc = .ok (.iadd, 1)) (k : z_G V M d bc bs (pc + 1) ls (.int (x + y) :: st) h Φ) : z_G V M d bc bs pc ls (.int y :: .int x :: st) h Φ :=
  zg_go (fun _ _ _ _ _ _ _ _ _ _ _ _ _ _ _ _ C _ w => lv_iadd C.1 C.2.1 hd w) k
theorem zg_isub {x y : Int32} (hd : decode M.2.1 pc = .ok (.isub, 1)) (k : z_G V M d bc bs (pc + 1) ls (.int (x - y) :: st) h Φ) : z_G V M d bc bs pc ls (.int y :: .int x :: st) h Φ :=
  zg_go (fun _ _ _ _ _ _ _ _ _ _ _ _ _ _ _ _ C _ w => lv_isub C.1 C.2.1 hd w) k
theorem zg_imul {x y : Int32} (hd : decode M.2.1 pc = .ok (.imul, 1)) (k : z_G V M d bc bs (pc + 1) ls (.int (x * y) :: st) h Φ) : z_G V M d bc bs pc ls (.int y :: .int x :: st) h Φ :=
  zg_go (fun _ _ _ _ _ _ _ _ _ _ _ _ _ _ _ _ C _ w => lv_imul C.1 C.2.1 hd w) k
theorem zg_iand {x y : Int32} (hd : decode M.2.1 pc = .ok (.iand, 1)) (k : z_G V M d bc bs (pc + 1) ls (.int (x &&& y) :: st) h Φ) : z_G V M d bc bs pc ls (.int y :: .int x :: st) h Φ :=
  zg_go (fun _ _ _ _ _ _ _ _ _ _ _ _ _ _ _ _ C _ w => lv_iand C.1 C.2.1 hd w) k
theorem zg_ior {x y : Int32} (hd : decode M.2.1 pc = .ok (.ior, 1)) (k : z_G V M d bc bs (pc + 1) ls (.int (x ||| y) :: st) h Φ) : z_G V M d bc bs pc ls (.int y :: .int x :: st) h Φ :=
  zg_go (fun _ _ _ _ _ _ _ _ _ _ _ _ _ _ _ _ C _ w => lv_ior C.1 C.2.1 hd w) k
theorem zg_ixor {x y : Int32} (hd : decode M.2.1 pc = .ok (.ixor, 1)) (k : z_G V M d bc bs (pc + 1) ls (.int (x ^^^ y) :: st) h Φ) : z_G V M d bc bs pc ls (.int y :: .int x :: st) h Φ :=
  zg_go (fun _ _ _ _ _ _ _ _ _ _ _ _ _ _ _ _ C _ w => lv_ixor C.1 C.2.1 hd w) k
theorem zg_ishl {x y : Int32} (hd : decode M.2.1 pc = .ok (.ishl, 1)) (k : z_G V M d bc bs (pc + 1) ls (.int (x <<< (y &&& 31)) :: st) h Φ) : z_G V M d bc bs pc ls (.int y :: .int x :: st) h Φ :=
  zg_go (fun _ _ _ _ _ _ _ _ _ _ _ _ _ _ _ _ C _ w => lv_ishl C.1 C.2.1 hd w) k
theorem zg_ishr {x y : Int32} (hd : decode M.2.1 pc = .ok (.ishr, 1)) (k : z_G V M d bc bs (pc + 1) ls (.int (x >>> (y &&& 31)) :: st) h Φ) : z_G V M d bc bs pc ls (.int y :: .int x :: st) h Φ :=
  zg_go (fun _ _ _ _ _ _ _ _ _ _ _ _ _ _ _ _ C _ w => lv_ishr C.1 C.2.1 hd w) k
theorem zg_idiv {x y : Int32} (hd : decode M.2.1 pc = .ok (.idiv, 1)) (hne : ¬ y = 0) (k : z_G V M d bc bs (pc + 1) ls (.int (x / y) :: st) h Φ) : z_G V M d bc bs pc ls (.int y :: .int x :: st) h Φ :=
  zg_go (fun _ _ _ _ _ _ _ _ _ _ _ _ _ _ _ _ C _ w => lv_idiv C.1 C.2.1 hd hne w) k
theorem zg_irem {x y : Int32} (hd : decode M.2.1 pc = .ok (.irem, 1)) (hne : ¬ y = 0) (k : z_G V M d bc bs (pc + 1) ls (.int (x - x / y * y) :: st) h Φ) : z_G V M d bc bs pc ls (.int y :: .int x :: st) h Φ :=
  zg_go (fun _ _ _ _ _ _ _ _ _ _ _ _ _ _ _ _ C _ w => lv_irem C.1 C.2.1 hd hne w) k
theorem zg_ineg {x : Int32} (hd : decode M.2.1 pc = .ok (.ineg, 1)) (k : z_G V M d bc bs (pc + 1) ls (.int (-x) :: st) h Φ) : z_G V M d bc bs pc ls (.int x :: st) h Φ :=
  zg_go (fun _ _ _ _ _ _ _ _ _ _ _ _ _ _ _ _ C _ w => lv_ineg C.1 C.2.1 hd w) k
theorem zg_iushr {x y : Int32} (hd : decode M.2.1 pc = .ok (.iushr, 1)) (k : z_G V M d bc bs (pc + 1) ls (.int ((x.toUInt32 >>> (y.toUInt32 &&& Int32.toUInt32 31)).toInt32) :: st) h Φ) : z_G V M d bc bs pc ls (.int y :: .int x :: st) h Φ :=
  zg_go (fun _ _ _ _ _ _ _ _ _ _ _ _ _ _ _ _ C _ w => lv_iushr C.1 C.2.1 hd rfl w) k
theorem zg_dupi {x : Int32} (hd : decode M.2.1 pc = .ok (.dup, 1)) (k : z_G V M d bc bs (pc + 1) ls (.int x :: .int x :: st) h Φ) : z_G V M d bc bs pc ls (.int x :: st) h Φ :=
  zg_go (fun _ _ _ _ _ _ _ _ _ _ _ _ _ _ _ _ C _ w => lv_dup C.1 C.2.1 hd rfl w) k
theorem zg_dupr {x : Nat} (hd : decode M.2.1 pc = .ok (.dup, 1)) (k : z_G V M d bc bs (pc + 1) ls (.ref x :: .ref x :: st) h Φ) : z_G V M d bc bs pc ls (.ref x :: st) h Φ :=
  zg_go (fun _ _ _ _ _ _ _ _ _ _ _ _ _ _ _ _ C _ w => lv_dup C.1 C.2.1 hd rfl w) k
theorem zg_dup2 {x : Nat} {y : Int32} (hd : decode M.2.1 pc = .ok (.dup2, 1)) (k : z_G V M d bc bs (pc + 1) ls (.int y :: .ref x :: .int y :: .ref x :: st) h Φ) : z_G V M d bc bs pc ls (.int y :: .ref x :: st) h Φ :=
  zg_go (fun _ _ _ _ _ _ _ _ _ _ _ _ _ _ _ _ C _ w => lv_dup2_11 C.1 C.2.1 hd rfl rfl w) k
theorem zg_popi {x : Int32} (hd : decode M.2.1 pc = .ok (.pop, 1)) (k : z_G V M d bc bs (pc + 1) ls st h Φ) : z_G V M d bc bs pc ls (.int x :: st) h Φ :=
  zg_go (fun _ _ _ _ _ _ _ _ _ _ _ _ _ _ _ _ C _ w => lv_pop C.1 C.2.1 hd rfl w) k
theorem zg_goto {off : Int} (tgt : Nat) (hd : decode M.2.1 pc = .ok (.goto off, 3)) (ht : (pc : Int) + off = (tgt : Int)) (k : z_G V M d bc bs tgt ls st h Φ) : z_G V M d bc bs pc ls st h Φ :=
  zg_go (fun _ _ _ _ _ _ _ _ _ _ _ _ _ _ _ _ C _ w => lv_goto C.1 C.2.1 hd ht w) k
/-- a branch -/
theorem zg_br {P : Prop} {pc1 pc2 : Nat} {st' : List Value} (hstep : ∀ (p : Program) (l : Launch) (e : Env) (R : Room) (s : State) (m : MethodId) (args : Array Value) (below : List Frame) (meth : Method) (c : Code) (H : Heap) (locs : List Loc) (cells slots : Nat) (LS : Array Slot) (QQ : State → Prop), z_C V M d p l e R s m args below meth c → (P → W p l e R s m args below meth c H locs cells slots QQ (F0 m pc1 LS (st'.map (z_rl V)))) → (¬ P → W p l e R s m args below meth c H locs cells slots QQ (F0 m pc2 LS (st'.map (z_rl V)))) → W p l e R s m args below meth c H locs cells slots QQ (F0 m pc LS (st.map (z_rl V))))
    (kt : P → z_G V M d bc bs pc1 ls st' h Φ) (kf : ¬ P → z_G V M d bc bs pc2 ls st' h Φ) : z_G V M d bc bs pc ls st h Φ :=
  fun p l e R s m args below meth c H locs cells slots LS QQ C hw hS hL hn hc hs ret => hstep p l e R s m args below meth c H locs cells slots LS QQ C (fun q => kt q p l e R s m args below meth c H locs cells slots LS QQ C hw hS hL hn hc hs ret) (fun q => kf q p l e R s m args below meth c H locs cells slots LS QQ C hw hS hL hn hc hs ret)
theorem zg_if_eq {x : Int32} {off : Int} (tgt : Nat) (hd : decode M.2.1 pc = .ok (.ifCond .eq off, 3)) (ht : (pc : Int) + off = (tgt : Int)) (kt : x = 0 → z_G V M d bc bs tgt ls st h Φ) (kf : ¬ (x = 0) → z_G V M d bc bs (pc + 3) ls st h Φ) : z_G V M d bc bs pc ls (.int x :: st) h Φ :=
  zg_br (fun _ _ _ _ _ _ _ _ _ _ _ _ _ _ _ _ C a b => lv_if_eq C.1 C.2.1 hd ht a b) kt kf
theorem zg_icmp_eq {x y : Int32} {off : Int} (tgt : Nat) (hd : decode M.2.1 pc = .ok (.if_icmp .eq off, 3)) (ht : (pc : Int) + off = (tgt : Int)) (kt : x = y → z_G V M d bc bs tgt ls st h Φ) (kf : ¬ (x = y) → z_G V M d bc bs (pc + 3) ls st h Φ) : z_G V M d bc bs pc ls (.int y :: .int x :: st) h Φ :=
  zg_br (fun _ _ _ _ _ _ _ _ _ _ _ _ _ _ _ _ C a b => lv_icmp_eq C.1 C.2.1 hd ht a b) kt kf
theorem zg_if_ne {x : Int32} {off : Int} (tgt : Nat) (hd : decode M.2.1 pc = .ok (.ifCond .ne off, 3)) (ht : (pc : Int) + off = (tgt : Int)) (kt : x = 0 → z_G V M d bc bs (pc + 3) ls st h Φ) (kf : ¬ (x = 0) → z_G V M d bc bs tgt ls st h Φ) : z_G V M d bc bs pc ls (.int x :: st) h Φ :=
  zg_br (fun _ _ _ _ _ _ _ _ _ _ _ _ _ _ _ _ C a b => lv_if_ne C.1 C.2.1 hd ht b a) kt kf
theorem zg_icmp_ne {x y : Int32} {off : Int} (tgt : Nat) (hd : decode M.2.1 pc = .ok (.if_icmp .ne off, 3)) (ht : (pc : Int) + off = (tgt : Int)) (kt : x = y → z_G V M d bc bs (pc + 3) ls st h Φ) (kf : ¬ (x = y) → z_G V M d bc bs tgt ls st h Φ) : z_G V M d bc bs pc ls (.int y :: .int x :: st) h Φ :=
  zg_br (fun _ _ _ _ _ _ _ _ _ _ _ _ _ _ _ _ C a b => lv_icmp_ne C.1 C.2.1 hd ht b a) kt kf
theorem zg_if_lt {x : Int32} {off : Int} (tgt : Nat) (hd : decode M.2.1 pc = .ok (.ifCond .lt off, 3)) (ht : (pc : Int) + off = (tgt : Int)) (kt : x < 0 → z_G V M d bc bs tgt ls st h Φ) (kf : ¬ (x < 0) → z_G V M d bc bs (pc + 3) ls st h Φ) : z_G V M d bc bs pc ls (.int x :: st) h Φ :=
  zg_br (fun _ _ _ _ _ _ _ _ _ _ _ _ _ _ _ _ C a b => lv_if_lt C.1 C.2.1 hd ht a b) kt kf
theorem zg_icmp_lt {x y : Int32} {off : Int} (tgt : Nat) (hd : decode M.2.1 pc = .ok (.if_icmp .lt off, 3)) (ht : (pc : Int) + off = (tgt : Int)) (kt : x < y → z_G V M d bc bs tgt ls st h Φ) (kf : ¬ (x < y) → z_G V M d bc bs (pc + 3) ls st h Φ) : z_G V M d bc bs pc ls (.int y :: .int x :: st) h Φ :=
  zg_br (fun _ _ _ _ _ _ _ _ _ _ _ _ _ _ _ _ C a b => lv_icmp_lt C.1 C.2.1 hd ht a b) kt kf
theorem zg_if_ge {x : Int32} {off : Int} (tgt : Nat) (hd : decode M.2.1 pc = .ok (.ifCond .ge off, 3)) (ht : (pc : Int) + off = (tgt : Int)) (kt : 0 ≤ x → z_G V M d bc bs tgt ls st h Φ) (kf : ¬ (0 ≤ x) → z_G V M d bc bs (pc + 3) ls st h Φ) : z_G V M d bc bs pc ls (.int x :: st) h Φ :=
  zg_br (fun _ _ _ _ _ _ _ _ _ _ _ _ _ _ _ _ C a b => lv_if_ge C.1 C.2.1 hd ht a b) kt kf
theorem zg_icmp_ge {x y : Int32} {off : Int} (tgt : Nat) (hd : decode M.2.1 pc = .ok (.if_icmp .ge off, 3)) (ht : (pc : Int) + off = (tgt : Int)) (kt : y ≤ x → z_G V M d bc bs tgt ls st h Φ) (kf : ¬ (y ≤ x) → z_G V M d bc bs (pc + 3) ls st h Φ) : z_G V M d bc bs pc ls (.int y :: .int x :: st) h Φ :=
  zg_br (fun _ _ _ _ _ _ _ _ _ _ _ _ _ _ _ _ C a b => lv_icmp_ge C.1 C.2.1 hd ht a b) kt kf
theorem zg_if_gt {x : Int32} {off : Int} (tgt : Nat) (hd : decode M.2.1 pc = .ok (.ifCond .gt off, 3)) (ht : (pc : Int) + off = (tgt : Int)) (kt : 0 < x → z_G V M d bc bs tgt ls st h Φ) (kf : ¬ (0 < x) → z_G V M d bc bs (pc + 3) ls st h Φ) : z_G V M d bc bs pc ls (.int x :: st) h Φ :=
  zg_br (fun _ _ _ _ _ _ _ _ _ _ _ _ _ _ _ _ C a b => lv_if_gt C.1 C.2.1 hd ht a b) kt kf
theorem zg_icmp_gt {x y : Int32} {off : Int} (tgt : Nat) (hd : decode M.2.1 pc = .ok (.if_icmp .gt off, 3)) (ht : (pc : Int) + off = (tgt : Int)) (kt : y < x → z_G V M d bc bs tgt ls st h Φ) (kf : ¬ (y < x) → z_G V M d bc bs (pc + 3) ls st h Φ) : z_G V M d bc bs pc ls (.int y :: .int x :: st) h Φ :=
  zg_br (fun _ _ _ _ _ _ _ _ _ _ _ _ _ _ _ _ C a b => lv_icmp_gt C.1 C.2.1 hd ht a b) kt kf
theorem zg_if_le {x : Int32} {off : Int} (tgt : Nat) (hd : decode M.2.1 pc = .ok (.ifCond .le off, 3)) (ht : (pc : Int) + off = (tgt : Int)) (kt : x ≤ 0 → z_G V M d bc bs tgt ls st h Φ) (kf : ¬ (x ≤ 0) → z_G V M d bc bs (pc + 3) ls st h Φ) : z_G V M d bc bs pc ls (.int x :: st) h Φ :=
  zg_br (fun _ _ _ _ _ _ _ _ _ _ _ _ _ _ _ _ C a b => lv_if_le C.1 C.2.1 hd ht a b) kt kf
theorem zg_icmp_le {x y : Int32} {off : Int} (tgt : Nat) (hd : decode M.2.1 pc = .ok (.if_icmp .le off, 3)) (ht : (pc : Int) + off = (tgt : Int)) (kt : x ≤ y → z_G V M d bc bs tgt ls st h Φ) (kf : ¬ (x ≤ y) → z_G V M d bc bs (pc + 3) ls st h Φ) : z_G V M d bc bs pc ls (.int y :: .int x :: st) h Φ :=
  zg_br (fun _ _ _ _ _ _ _ _ _ _ _ _ _ _ _ _ C a b => lv_icmp_le C.1 C.2.1 hd ht a b) kt kf
theorem zg_lookup {dflt : Int} {ps : Array (Int × Int)} {len : Nat} {x : Int32} {off : Int} (tgt : Nat) (hd : decode M.2.1 pc = .ok (.lookupswitch dflt ps, len)) (hp : (ps.toList.zip (ps.toList.drop 1)).all (fun (a, next) => a.1 < next.1) = true) (ho : Op.lookupswitch.offset ps.toList dflt x.toInt = off) (ht : (pc : Int) + off = (tgt : Int)) (k : z_G V M d bc bs tgt ls st h Φ) : z_G V M d bc bs pc ls (.int x :: st) h Φ :=
  zg_go (fun _ _ _ _ _ _ _ _ _ _ _ _ _ _ _ _ C _ w => lv_lookup C.1 C.2.1 hd hp ho ht w) k
theorem zg_tableOut {dflt lo hi : Int} {offs : Array Int} {len : Nat} {x : Int32} (tgt : Nat) (hd : decode M.2.1 pc = .ok (.tableswitch dflt lo hi offs, len)) (hx : x.toInt < lo ∨ hi < x.toInt) (ht : (pc : Int) + dflt = (tgt : Int)) (k : z_G V M d bc bs tgt ls st h Φ) : z_G V M d bc bs pc ls (.int x :: st) h Φ :=
  zg_go (fun _ _ _ _ _ _ _ _ _ _ _ _ _ _ _ _ C _ w => lv_tableOut C.1 C.2.1 hd hx ht w) k
theorem zg_tableIn {dflt lo hi : Int} {offs : Array Int} {len : Nat} {x : Int32} {off : Int} (tgt : Nat) (hd : decode M.2.1 pc = .ok (.tableswitch dflt lo hi offs, len)) (h1 : ¬ x.toInt < lo) (h2 : ¬ hi < x.toInt) (ho : offs[(x.toInt - lo).toNat]? = some off) (ht : (pc : Int) + off = (tgt : Int)) (k : z_G V M d bc bs tgt ls st h Φ) : z_G V M d bc bs pc ls (.int x :: st) h Φ :=
  zg_go (fun _ _ _ _ _ _ _ _ _ _ _ _ _ _ _ _ C _ w => lv_tableIn C.1 C.2.1 hd h1 h2 ho ht w) k
/-- stores to locals -/
theorem z_store {LS : Array Slot} {i : Nat} {v : Value} (hL : z_L V LS ls) (hi : i < ls.length) (hc : ∀ w ∈ ls, w.category = 1) (hv : v.category = 1) : ∃ lv : List (Nat × Value), lv_has LS ls.length lv ∧ ∀ ls', lv_has ls' ls.length ((i, z_rl V v) :: lv.filter (fun q => !(q.1 == i) && !(q.1 + 1 == i && q.2.category == 2))) → z_L V ls' (ls.set i v) := by
  have hcr : ∀ w : Value, (z_rl V w).category = w.category := fun w => by cases w <;> rfl
  refine ⟨(List.range ls.length).filterMap (fun j => match ls[j]? with | some w => if w = .null then none else some (j, z_rl V w) | none => none), ⟨hL.1, hL.2.1, fun q hq => ?_⟩, fun ls' h' => ⟨by rw [h'.1, List.length_set], h'.2.1, fun j w hj hw => ?_⟩⟩
  · obtain ⟨j, -, hj⟩ := List.mem_filterMap.mp hq
    cases e : ls[j]? with
    | none => rw [e] at hj; cases hj
    | some w =>
      rw [e] at hj
      dsimp only at hj
      by_cases hw : w = .null
      · rw [if_pos hw] at hj; cases hj
      · rw [if_neg hw] at hj; cases hj
        exact hL.2.2 j w e hw
  · by_cases e : j = i
    · subst e
      rw [List.getElem?_set_self hi] at hj
      cases hj
      exact h'.2.2 (j, z_rl V v) List.mem_cons_self
    · rw [List.getElem?_set_ne (Ne.symm e)] at hj
      refine h'.2.2 (j, z_rl V w) (List.mem_cons_of_mem _ (List.mem_filter.mpr ⟨List.mem_filterMap.mpr ⟨j, List.mem_range.mpr (List.getElem?_eq_some_iff.mp hj).1, by rw [hj]; exact if_neg hw⟩, ?_⟩))
      have h2 : (z_rl V w).category = 1 := by rw [hcr]; exact hc w (List.mem_of_getElem? hj)
      simp [e, h2]
theorem zg_sto {pc' : Nat} {ls' st' : List Value} {i : Nat} {v : Value} (hi : i < ls.length) (hc : ls.all (fun w => w.category == 1) = true) (hv : v.category = 1) (he : z_st ls i v = ls') (hstep : ∀ (p : Program) (l : Launch) (e : Env) (R : Room) (s : State) (m : MethodId) (args : Array Value) (below : List Frame) (meth : Method) (c : Code) (H : Heap) (locs : List Loc) (cells slots : Nat) (LS : Array Slot) (QQ : State → Prop) (lv : List (Nat × Value)), z_C V M d p l e R s m args below meth c → z_L V LS ls → lv_has LS ls.length lv → (∀ LS', lv_has LS' ls.length ((i, z_rl V v) :: lv.filter (fun q => !(q.1 == i) && !(q.1 + 1 == i && q.2.category == 2))) → W p l e R s m args below meth c H locs cells slots QQ (F0 m pc' LS' (st'.map (z_rl V)))) → W p l e R s m args below meth c H locs cells slots QQ (F0 m pc LS (st.map (z_rl V))))
    (k : z_G V M d bc bs pc' ls' st' h Φ) : z_G V M d bc bs pc ls st h Φ := by
  intro p l e R s m args below meth c H locs cells slots LS QQ C hw hS hL hn hc9 hs ret
  obtain ⟨lv, h1, h2⟩ := z_store (V := V) (v := v) hL hi (fun w hw => by have := List.all_eq_true.mp hc w hw; simpa using this) hv
  rw [z_st_eq] at he
  subst he
  exact hstep p l e R s m args below meth c H locs cells slots LS QQ lv C hL h1 (fun LS' h' => k p l e R s m args below meth c H locs cells slots LS' QQ C hw hS (h2 LS' h') (by rw [List.length_set]; exact hn) hc9 hs ret)
theorem zg_istore {i : Nat} {x : Int32} {ls' : List Value} (hd : decode M.2.1 pc = .ok (.istore i, 2)) (hi : i < ls.length) (hc : ls.all (fun w => w.category == 1) = true) (he : z_st ls i (.int x) = ls') (k : z_G V M d bc bs (pc + 2) ls' st h Φ) : z_G V M d bc bs pc ls (.int x :: st) h Φ :=
  zg_sto (v := .int x) hi hc rfl he (fun _ _ _ _ _ _ _ _ _ _ _ _ _ _ _ _ _ C _ h1 w => lv_istore C.1 C.2.1 hd h1 hi rfl w) k
theorem zg_istore_n {i : Fin 4} {x : Int32} {ls' : List Value} (hd : decode M.2.1 pc = .ok (.istore_n i, 1)) (hi : i.val < ls.length) (hc : ls.all (fun w => w.category == 1) = true) (he : z_st ls i (.int x) = ls') (k : z_G V M d bc bs (pc + 1) ls' st h Φ) : z_G V M d bc bs pc ls (.int x :: st) h Φ :=
  zg_sto (v := .int x) hi hc rfl he (fun _ _ _ _ _ _ _ _ _ _ _ _ _ _ _ _ _ C _ h1 w => lv_istore_n C.1 C.2.1 hd rfl h1 hi rfl w) k
theorem zg_astore {i x : Nat} {ls' : List Value} (hd : decode M.2.1 pc = .ok (.astore i, 2)) (hi : i < ls.length) (hc : ls.all (fun w => w.category == 1) = true) (he : z_st ls i (.ref x) = ls') (k : z_G V M d bc bs (pc + 2) ls' st h Φ) : z_G V M d bc bs pc ls (.ref x :: st) h Φ :=
  zg_sto (v := .ref x) hi hc rfl he (fun _ _ _ _ _ _ _ _ _ _ _ _ _ _ _ _ _ C _ h1 w => lv_astore C.1 C.2.1 hd h1 hi rfl w) k
theorem zg_astore_n {i : Fin 4} {x : Nat} {ls' : List Value} (hd : decode M.2.1 pc = .ok (.astore_n i, 1)) (hi : i.val < ls.length) (hc : ls.all (fun w => w.category == 1) = true) (he : z_st ls i (.ref x) = ls') (k : z_G V M d bc bs (pc + 1) ls' st h Φ) : z_G V M d bc bs pc ls (.ref x :: st) h Φ :=
  zg_sto (v := .ref x) hi hc rfl he (fun _ _ _ _ _ _ _ _ _ _ _ _ _ _ _ _ _ C _ h1 w => lv_astore_n C.1 C.2.1 hd rfl h1 hi rfl w) k
theorem z_iinc_k {lv : List (Nat × Value)} {LS : Array Slot} {n i : Nat} {v : Value} (h : lv_has LS n lv) (hv : LS[i]? = some (.val v)) : lv_has LS n ((i, v) :: lv) := ⟨h.1, h.2.1, fun q hq => by
  rcases List.mem_cons.mp hq with rfl | hq
  · exact hv
  · exact h.2.2 q hq⟩
theorem zg_iinc {i : Nat} {n : Int} {x : Int32} {ls' : List Value} (w : Int32) (hd : decode M.2.1 pc = .ok (.iinc i n, 3)) (hv : z_at ls i = some (.int x)) (hn : Int32.ofInt n = w) (hi : i < ls.length) (hc : ls.all (fun w => w.category == 1) = true) (he : z_st ls i (.int (x + w)) = ls') (k : z_G V M d bc bs (pc + 3) ls' st h Φ) : z_G V M d bc bs pc ls st h Φ :=
  zg_sto (v := .int (x + w)) hi hc rfl he (fun p l e R s m args below meth c H locs cells slots LS QQ lv C hL h1 w9 => by
    refine lv_iinc C.1 C.2.1 hd (z_iinc_k h1 (hL.at hv (fun q => by cases q))) (k := 0) rfl (by rw [hn]) hi ?_ (fun LS' h' => w9 LS' h')
    simp [z_rl]) k
end ZG
end
section
/-! ===== fields, arrays, calls and returns of the small machine ===== -/
def z_F (own : String) (idx ci j : Nat) (fin : Bool) : Prop := ∃ (C : String) (T : u_T) (N : Nat), vwCl[ci]? = some (C, T, N) ∧ j < N ∧ Cond.fieldLink own idx (T j).1 (T j).2.1 (T j).2.2.1 ∈ wsL_law ∧ (∀ w ∈ u_ws C T N, w ∈ wsL_law) ∧ (∀ k, k < N → parseFieldDescriptor (T k).2.2.1 = some (z_ty ci k)) ∧ (∀ a, a < N → ∀ b, b < N → a ≠ b → (T a).2.1 ≠ (T b).2.1) ∧ (T j).2.2.2 = fin
theorem z_cell_o {V : zV} {h : zHP} {k ci n : Nat} (hci : ci < 100) : z_cell V h k (ci, n) = .inr (ci, (List.range n).map (z_val V h ci k)) := by
  unfold z_cell
  rw [if_neg (by show ¬ ci = 100; omega), if_neg (by show ¬ ci = 101; omega), if_neg (by show ¬ ci = 102; omega), if_neg (by show ¬ ci = 103; omega)]
theorem z_map_set {V : zV} {h h' : zHP} {ci k j n : Nat} {v : Value} (hj : j < n) (h1 : z_val V h' ci k j = v) (h2 : ∀ i, i ≠ j → z_val V h' ci k i = z_val V h ci k i) : (List.range n).map (z_val V h' ci k) = ((List.range n).map (z_val V h ci k)).set j v := by
  apply List.ext_getElem?
  intro i
  by_cases hi : i < n
  · rw [List.getElem?_map, List.getElem?_range hi]
    by_cases e : i = j
    · subst e
      rw [List.getElem?_set_self (by simpa using hi), ← h1]
      rfl
    · rw [List.getElem?_set_ne (Ne.symm e), List.getElem?_map, List.getElem?_range hi]
      show some _ = some _
      rw [h2 i e]
  · rw [List.getElem?_eq_none (by simp; omega), List.getElem?_eq_none (by simp; omega)]
section ZG2
variable {V : zV} {M : zM} {d bc bs pc : Nat} {ls st : List Value} {h : zHP} {Φ : Option Value → zHP → Prop}
theorem z_W.pos {H : Heap} {q ci n : Nat} (hw : z_W V h H) (hsh : h.1[q]? = some (ci, n)) (hci : ci < 100) : ∃ k, q = k + 1 := by
  cases q with
  | zero =>
    rw [hw.2.2.2.1] at hsh
    cases hsh
    omega
  | succ k => exact ⟨k, rfl⟩
theorem zg_getv {idx ci j n q : Nat} {fin : Bool} (hd : decode M.2.1 pc = .ok (.getfield idx, 3)) (hf : z_F M.1.cls idx ci j fin) (hsh : h.1[q]? = some (ci, n)) (hci : ci < 100) (hj : j < n) {w : Value} (hw9 : z_rl V w = z_val V h ci q j)
    (k : z_G V M d bc bs (pc + 3) ls (w :: st) h Φ) : z_G V M d bc bs pc ls (.ref q :: st) h Φ := by
  intro p l e R s m args below meth c H locs cells slots LS QQ C hw hS hL hn hc hs ret
  obtain ⟨CC, T, N, f1, f2, f3, f4, f5, f6, f7⟩ := hf
  obtain ⟨q', rfl⟩ := hw.pos hsh hci
  have k9 := k p l e R s m args below meth c H locs cells slots LS QQ C hw hS hL hn hc hs ret
  obtain ⟨hx, hb, hr, hml, hown, hlk, hts, hN, hK, hfr, hlo, hX, hbB, hBs, hnm⟩ := C
  have he : (z_ws V h)[q']? = some (z_ad V (q' + 1), .inr (ci, (List.range n).map (z_val V h ci (q' + 1)))) := by rw [z_get hsh, z_cell_o hci]
  refine va_get (D := V.1) (ci := ci) (C := CC) (T := T) (N := N) hx hb hts f4 hown hK hw.1 q' he f1 j f2 (hts _ f3) (fun _ h9 => h9) (v := z_rl V w) ?_ hd k9
  rw [List.getElem?_map, List.getElem?_range hj, hw9]
  rfl
theorem zg_getI {idx ci j n q : Nat} {fin : Bool} (hd : decode M.2.1 pc = .ok (.getfield idx, 3)) (hf : z_F M.1.cls idx ci j fin) (hty : z_tyR (z_ty ci j) = false) (hsh : h.1[q]? = some (ci, n)) (hci : ci < 100) (hj : j < n)
    (k : z_G V M d bc bs (pc + 3) ls (.int (h.2.1 q j) :: st) h Φ) : z_G V M d bc bs pc ls (.ref q :: st) h Φ :=
  zg_getv hd hf hsh hci hj (w := .int (h.2.1 q j)) (by unfold z_val; rw [hty]; rfl) k
theorem zg_getR {idx ci j n q r : Nat} {fin : Bool} (hd : decode M.2.1 pc = .ok (.getfield idx, 3)) (hf : z_F M.1.cls idx ci j fin) (hty : z_tyR (z_ty ci j) = true) (hsh : h.1[q]? = some (ci, n)) (hci : ci < 100) (hj : j < n) (hr : h.2.2 q j = some r)
    (k : z_G V M d bc bs (pc + 3) ls (.ref r :: st) h Φ) : z_G V M d bc bs pc ls (.ref q :: st) h Φ :=
  zg_getv hd hf hsh hci hj (w := .ref r) (by unfold z_val; rw [hty, hr]; rfl) k
theorem z_W.upd_i {H H1 : Heap} {q : Nat} {g : Nat → Int32} (hw : z_W V h H) (hP : va_P V.1 vwCl (z_ws V (h.1, z_ui h.2.1 (q + 1) g, h.2.2)) H1) (hz : H1.size = H.size) : z_W V (h.1, z_ui h.2.1 (q + 1) g, h.2.2) H1 := by
  refine ⟨hP, by rw [hz]; exact hw.2.1, hw.2.2.1, hw.2.2.2.1, ?_⟩
  show z_ui h.2.1 (q + 1) g 0 = _
  unfold z_ui
  rw [if_neg (by omega)]
  exact hw.2.2.2.2
theorem z_W.upd_r {H H1 : Heap} {q : Nat} {g : Nat → Option Nat} (hw : z_W V h H) (hP : va_P V.1 vwCl (z_ws V (h.1, h.2.1, z_ur h.2.2 (q + 1) g)) H1) (hz : H1.size = H.size) : z_W V (h.1, h.2.1, z_ur h.2.2 (q + 1) g) H1 :=
  ⟨hP, by rw [hz]; exact hw.2.1, hw.2.2.1, hw.2.2.2.1, hw.2.2.2.2⟩
theorem z_put_core {idx ci j n q : Nat} {fin : Bool} {h' : zHP} {v : Value} (hd : decode M.2.1 pc = .ok (.putfield idx, 3)) (hf : z_F M.1.cls idx ci j fin) (hfin : fin = false ∨ (fin = true ∧ M.1.name = "<init>" ∧ ∀ C T N, vwCl[ci]? = some (C, T, N) → (T j).1 = M.1.cls)) (hsh : h.1[q]? = some (ci, n)) (hci : ci < 100) (hj : j < n)
    (hnar : narrow (z_ty ci j) v = v) (hfit : fits (z_ty ci j) v = true) (h0 : h'.1 = h.1) (h1 : ∀ i, i ≠ q → h'.2.1 i = h.2.1 i) (h2 : ∀ i, i ≠ q → h'.2.2 i = h.2.2 i) (hv : z_val V h' ci q j = v) (ho : ∀ i, i ≠ j → z_val V h' ci q i = z_val V h ci q i) (h3 : q ≠ 0 → h'.2.1 0 = h.2.1 0) {w : Value} (hwv : z_rl V w = v)
    (k : z_G V M d bc bs (pc + 3) ls st h' Φ) : z_G V M d bc bs pc ls (w :: .ref q :: st) h Φ := by
  intro p l e R s m args below meth c H locs cells slots LS QQ C hw hS hL hn hc hs ret
  have C0 := C
  obtain ⟨CC, T, N, f1, f2, f3, f4, f5, f6, f7⟩ := hf
  obtain ⟨q', rfl⟩ := hw.pos hsh hci
  obtain ⟨hx, hb, hr, hml, hown, hlk, hts, hN, hK, hfr, hlo, hX, hbB, hBs, hnm⟩ := C
  have he : (z_ws V h)[q']? = some (z_ad V (q' + 1), .inr (ci, (List.range n).map (z_val V h ci (q' + 1)))) := by rw [z_get hsh, z_cell_o hci]
  have hset : z_ws V h' = (z_ws V h).set q' (z_ad V (q' + 1), .inr (ci, ((List.range n).map (z_val V h ci (q' + 1))).set j v)) := by
    rw [z_set_gen hsh h0 h1 h2, z_cell_o hci, z_map_set hj hv ho]
  have fin9 : ∀ (H1 : Heap) (locs1 : List Loc), va_P V.1 vwCl ((z_ws V h).set q' (z_ad V (q' + 1), .inr (ci, ((List.range n).map (z_val V h ci (q' + 1))).set j v))) H1 → va_S (fun q => V.2.2.1 ≤ q) s.heap H1 locs1 → H1.size = H.size → W p l e R s m args below meth c H1 locs1 cells slots QQ (F0 m (pc + 3) LS (st.map (z_rl V))) := by
    intro H1 locs1 hP1 hS1 hz
    rw [← hset] at hP1
    exact k p l e R s m args below meth c H1 locs1 cells slots LS QQ C0 ⟨hP1, by rw [hz, h0]; exact hw.2.1, by rw [h0]; exact hw.2.2.1, by rw [h0]; exact hw.2.2.2.1, by rw [h3 (by omega)]; exact hw.2.2.2.2⟩ hS1 hL hn hc hs ret
  show W p l e R s m args below meth c H locs cells slots QQ (F0 m pc LS (z_rl V w :: .ref (z_ad V (q' + 1)) :: st.map (z_rl V)))
  rw [hwv]
  obtain ⟨r, g1, cell, q1, q2, q3, q4⟩ := hw.1 q' _ he
  have hr9 : r = (CC, T, N) := Option.some.inj (g1.symm.trans f1)
  subst hr9
  have hap := va_apart (own := M.1.cls) hts f4 (z_ty ci) f5 f6 hK f1
  obtain ⟨hSl, hfc, kC, hkC, hkind⟩ := hK.1 ci _ f1
  obtain ⟨cf, kf, fi, f, hi, hsl⟩ := hSl j f2
  have hst := (u_facts hfc hkC (u_lays hts f4 f2) hi).1
  have hfl := u_fits hfc hkC hkind (u_lays hts f4 f2) hi (f5 j f2) hnar hfit
  have hlt : f.slot < cell.slots.size := by rw [hsl]; exact (Array.getElem?_eq_some_iff.mp (q4 j f2)).1
  have hlay := hts _ (f4 _ (u_in_lay f2))
  unfold u_lay at hlay
  have hfinal : hasFlag f.accessFlags Acc.final = false ∨ (m.cls = cf ∧ meth.name = "<init>") := by
    rcases hfin with hfin | ⟨hfin, hnm2, hdc⟩
    · rw [if_neg (by rw [f7, hfin]; decide)] at hlay
      obtain ⟨c9, k9, cf9, kf9, fi9, fd9, r1, r2, hi9, hst9, hfin9, -⟩ := Cond.lays_spec hlay
      cases hi.symm.trans hi9
      exact Or.inl hfin9
    · refine Or.inr ⟨?_, hnm.trans hnm2⟩
      rw [if_pos (by rw [f7, hfin])] at hlay
      obtain ⟨_, _, c', _, _, _, -, -, hf', -, -, -, hown2, -⟩ := Cond.laysFinal_spec hlay
      have e1 : c' = cf := by have := hi.symm.trans hf'; simp at this; exact this.1.symm
      rw [hdc CC T N f1] at hown2
      rw [← e1]; exact Option.some.inj (hown.symm.trans hown2)
  refine W.putf hx hb hown (hts _ f3) hi hst hfinal q1 (by rw [q3]; exact fun h => by cases h) hlt hfl.1 (by rw [q2, q3]; exact hfl.2) rfl rfl hd ?_
  have hal : z_ad V (q' + 1) < H.size := (hw.1 q' _ he).lt
  have e1 : (H.setIfInBounds (z_ad V (q' + 1)) (cell.setSlot f.slot v))[z_ad V (q' + 1)]? = some (cell.setSlot f.slot v) := by simp [Array.getElem?_setIfInBounds, hal]
  have e2 : (H.setIfInBounds (z_ad V (q' + 1)) (cell.setSlot f.slot v)).size = H.size := by simp
  have e3 : ∀ x : Nat, x ≠ z_ad V (q' + 1) → (H.setIfInBounds (z_ad V (q' + 1)) (cell.setSlot f.slot v))[x]? = H[x]? := fun x hx9 => by simp [Array.getElem?_setIfInBounds, Ne.symm hx9]
  rw [hsl] at e1 e2 e3 ⊢
  exact fin9 _ _ (hw.1.set (z_D V h) he ⟨_, f1, t_OB.to (V := updV (vp_V ((List.range n).map (z_val V h ci (q' + 1)))) j v) ⟨_, e1, q2, q3, t_set q4 hap f2 v⟩ (fun i _ => vp_updV_set (by simpa using hj) v i)⟩ e3) (hS.put e2 e3 ((z_D V h).2 q' _ he)) e2
theorem z_val_i {h : zHP} {ci q j : Nat} (hty : z_tyR (z_ty ci j) = false) : z_val V h ci q j = .int (h.2.1 q j) := by unfold z_val; rw [hty]; rfl
theorem z_val_r {h : zHP} {ci q j : Nat} (hty : z_tyR (z_ty ci j) = true) : z_val V h ci q j = va_rf ((h.2.2 q j).map (z_ad V)) := by unfold z_val; rw [hty]; rfl
theorem z_val_eq {h h' : zHP} {ci q j : Nat} (h1 : h'.2.1 q j = h.2.1 q j) (h2 : h'.2.2 q j = h.2.2 q j) : z_val V h' ci q j = z_val V h ci q j := by unfold z_val; rw [h1, h2]
theorem z_putI {idx ci j n q : Nat} {x : Int32} (hd : decode M.2.1 pc = .ok (.putfield idx, 3)) (hf : z_F M.1.cls idx ci j false) (hty : z_tyR (z_ty ci j) = false) (hnar : narrow (z_ty ci j) (.int x) = .int x) (hfit : fits (z_ty ci j) (.int x) = true) (hsh : h.1[q]? = some (ci, n)) (hci : ci < 100) (hj : j < n)
    (k : z_G V M d bc bs (pc + 3) ls st (h.1, z_ui h.2.1 q (upd (h.2.1 q) j x), h.2.2) Φ) : z_G V M d bc bs pc ls (.int x :: .ref q :: st) h Φ := by
  refine z_put_core (V := V) (h' := (h.1, z_ui h.2.1 q (upd (h.2.1 q) j x), h.2.2)) (v := .int x) (w := .int x) hd hf (Or.inl rfl) hsh hci hj hnar hfit rfl (fun i hi => ?_) (fun _ _ => rfl) ?_ (fun i hi => ?_) (fun hq => ?_) rfl k
  · show z_ui h.2.1 q _ i = _
    unfold z_ui; rw [if_neg hi]
  · rw [z_val_i hty]
    show Value.int (z_ui h.2.1 q _ q j) = _
    unfold z_ui upd; rw [if_pos rfl, if_pos rfl]
  · refine z_val_eq ?_ rfl
    show z_ui h.2.1 q _ q i = _
    unfold z_ui upd; rw [if_pos rfl, if_neg hi]
  · show z_ui h.2.1 q _ 0 = _
    unfold z_ui; rw [if_neg (Ne.symm hq)]
theorem zg_putI {idx ci j n q : Nat} {x : Int32} (hd : decode M.2.1 pc = .ok (.putfield idx, 3)) (hf : z_F M.1.cls idx ci j false) (hty : z_ty ci j = .int) (hsh : h.1[q]? = some (ci, n)) (hci : ci < 100) (hj : j < n)
    (k : z_G V M d bc bs (pc + 3) ls st (h.1, z_ui h.2.1 q (upd (h.2.1 q) j x), h.2.2) Φ) : z_G V M d bc bs pc ls (.int x :: .ref q :: st) h Φ :=
  z_putI hd hf (by rw [hty]; rfl) (by rw [hty]; rfl) (by rw [hty]; rfl) hsh hci hj k
theorem z_nar_z {x : Int32} (hx : x = 0 ∨ x = 1) : narrow .boolean (.int x) = .int x ∧ fits .boolean (.int x) = true := by
  rcases hx with rfl | rfl <;> exact ⟨by decide, by decide⟩
theorem zg_putZ {idx ci j n q : Nat} {x : Int32} (hd : decode M.2.1 pc = .ok (.putfield idx, 3)) (hf : z_F M.1.cls idx ci j false) (hty : z_ty ci j = .boolean) (hx : x = 0 ∨ x = 1) (hsh : h.1[q]? = some (ci, n)) (hci : ci < 100) (hj : j < n)
    (k : z_G V M d bc bs (pc + 3) ls st (h.1, z_ui h.2.1 q (upd (h.2.1 q) j x), h.2.2) Φ) : z_G V M d bc bs pc ls (.int x :: .ref q :: st) h Φ :=
  z_putI hd hf (by rw [hty]; rfl) (by rw [hty]; exact (z_nar_z hx).1) (by rw [hty]; exact (z_nar_z hx).2) hsh hci hj k
theorem z_nar_r {ty : FieldType} {a : Nat} (h : z_tyR ty = true) : narrow ty (.ref a) = .ref a ∧ fits ty (.ref a) = true := by
  cases ty <;> first | exact ⟨rfl, rfl⟩ | cases h
theorem zg_putR {idx ci j n q r : Nat} {fin : Bool} (hd : decode M.2.1 pc = .ok (.putfield idx, 3)) (hf : z_F M.1.cls idx ci j fin) (hfin : fin = false ∨ (fin = true ∧ M.1.name = "<init>" ∧ ∀ C T N, vwCl[ci]? = some (C, T, N) → (T j).1 = M.1.cls)) (hty : z_tyR (z_ty ci j) = true) (hsh : h.1[q]? = some (ci, n)) (hci : ci < 100) (hj : j < n)
    (k : z_G V M d bc bs (pc + 3) ls st (h.1, h.2.1, z_ur h.2.2 q (fun i => if i = j then some r else h.2.2 q i)) Φ) : z_G V M d bc bs pc ls (.ref r :: .ref q :: st) h Φ := by
  refine z_put_core (V := V) (h' := (h.1, h.2.1, z_ur h.2.2 q (fun i => if i = j then some r else h.2.2 q i))) (v := .ref (z_ad V r)) (w := .ref r) hd hf hfin hsh hci hj (z_nar_r hty).1 (z_nar_r hty).2 rfl (fun _ _ => rfl) (fun i hi => ?_) ?_ (fun i hi => ?_) (fun hq => rfl) rfl k
  · show z_ur h.2.2 q _ i = _
    unfold z_ur; rw [if_neg hi]
  · rw [z_val_r hty]
    show va_rf ((z_ur h.2.2 q _ q j).map (z_ad V)) = _
    unfold z_ur; rw [if_pos rfl, if_pos rfl]; rfl
  · refine z_val_eq rfl ?_
    show z_ur h.2.2 q _ q i = _
    unfold z_ur; rw [if_pos rfl, if_neg hi]
/-- arrays -/
theorem z_get_a {q n : Nat} (hsh : h.1[q + 1]? = some (100, n)) : (z_ws V h)[q]? = some (z_ad V (q + 1), .inl (V.2.2.2.1.1, n, .inl (h.2.1 (q + 1)))) := z_get hsh
theorem z_get_z {q n : Nat} (hsh : h.1[q + 1]? = some (101, n)) : (z_ws V h)[q]? = some (z_ad V (q + 1), .inl (V.2.2.2.1.2.1, n, .inl (h.2.1 (q + 1)))) := z_get hsh
theorem zg_iald {q n : Nat} {i : Int32} (hd : decode M.2.1 pc = .ok (.iaload, 1)) (hq : 0 < q) (hsh : h.1[q]? = some (100, n)) (hin : vp_in i n) (k : z_G V M d bc bs (pc + 1) ls (.int (h.2.1 q i.toNatClampNeg) :: st) h Φ) : z_G V M d bc bs pc ls (.int i :: .ref q :: st) h Φ := by
  intro p l e R s m args below meth c H locs cells slots LS QQ C hw hS hL hn hc hs ret
  obtain ⟨q', rfl⟩ : ∃ q', q = q' + 1 := ⟨q - 1, by omega⟩
  exact va_iald C.1 C.2.1 C.2.2.2.2.2.2.2.2.1 hw.1 q' 0 (z_get_a hsh) rfl hin hd (k p l e R s m args below meth c H locs cells slots LS QQ C hw hS hL hn hc hs ret)
theorem zg_zald {q n : Nat} {i : Int32} (hd : decode M.2.1 pc = .ok (.baload, 1)) (hq : 0 < q) (hsh : h.1[q]? = some (101, n)) (hin : vp_in i n) (k : z_G V M d bc bs (pc + 1) ls (.int (h.2.1 q i.toNatClampNeg) :: st) h Φ) : z_G V M d bc bs pc ls (.int i :: .ref q :: st) h Φ := by
  intro p l e R s m args below meth c H locs cells slots LS QQ C hw hS hL hn hc hs ret
  obtain ⟨q', rfl⟩ : ∃ q', q = q' + 1 := ⟨q - 1, by omega⟩
  exact va_zald C.1 C.2.1 C.2.2.2.2.2.2.2.2.1 hw.1 q' 1 (z_get_z hsh) rfl hin hd (k p l e R s m args below meth c H locs cells slots LS QQ C hw hS hL hn hc hs ret)
theorem zg_sld {i : Int32} (hd : decode M.2.1 pc = .ok (.iaload, 1)) (hin : vp_in i V.2.2.2.2.1) (k : z_G V M d bc bs (pc + 1) ls (.int (V.2.2.2.2.2 i.toNatClampNeg) :: st) h Φ) : z_G V M d bc bs pc ls (.int i :: .ref 0 :: st) h Φ := by
  intro p l e R s m args below meth c H locs cells slots LS QQ C hw hS hL hn hc hs ret
  have k9 := k p l e R s m args below meth c H locs cells slots LS QQ C hw hS hL hn hc hs ret
  obtain ⟨hx, hb, hr, hml, hown, hlk, hts, hN, hK, hfr, hlo, hX, hbB, hBs, hnm⟩ := C
  exact va_sld (b := V.2.1) hx hb hX (by omega) (A := fun q => V.2.2.1 ≤ q) (by show ¬ V.2.2.1 ≤ V.2.1; omega) hS hin hd k9
theorem zg_slen (hd : decode M.2.1 pc = .ok (.arraylength, 1)) (k : z_G V M d bc bs (pc + 1) ls (.int (Int32.ofNat V.2.2.2.2.1) :: st) h Φ) : z_G V M d bc bs pc ls (.ref 0 :: st) h Φ := by
  intro p l e R s m args below meth c H locs cells slots LS QQ C hw hS hL hn hc hs ret
  have k9 := k p l e R s m args below meth c H locs cells slots LS QQ C hw hS hL hn hc hs ret
  obtain ⟨hx, hb, hr, hml, hown, hlk, hts, hN, hK, hfr, hlo, hX, hbB, hBs, hnm⟩ := C
  exact va_slen (b := V.2.1) hx hb hX (by omega) (A := fun q => V.2.2.1 ≤ q) (by show ¬ V.2.2.1 ≤ V.2.1; omega) hS hd k9
theorem zg_alen {q n : Nat} (v : Int32) (hd : decode M.2.1 pc = .ok (.arraylength, 1)) (hq : 0 < q) (hsh : h.1[q]? = some (100, n)) (hv : Int32.ofNat n = v) (k : z_G V M d bc bs (pc + 1) ls (.int v :: st) h Φ) : z_G V M d bc bs pc ls (.ref q :: st) h Φ := by
  intro p l e R s m args below meth c H locs cells slots LS QQ C hw hS hL hn hc hs ret
  obtain ⟨q', rfl⟩ : ∃ q', q = q' + 1 := ⟨q - 1, by omega⟩
  exact va_alen C.1 C.2.1 C.2.2.2.2.2.2.2.2.1 hw.1 q' 0 (z_get_a hsh) rfl hv hd (k p l e R s m args below meth c H locs cells slots LS QQ C hw hS hL hn hc hs ret)
/-- after a store into an int array: the world -/
theorem z_arr_set {H H1 : Heap} {q n t : Nat} {cA : ClassId} {g : Nat → Int32} {locs : List Loc} {s : State} {i : Nat} (hw : z_W V h H) (hS : va_S (fun q => V.2.2.1 ≤ q) s.heap H locs) (ht : t = 100 ∨ t = 101) (hsh : h.1[q + 1]? = some (t, n)) (hcell : z_cell V (h.1, z_ui h.2.1 (q + 1) g, h.2.2) (q + 1) (t, n) = .inl (cA, n, .inl g)) (e : H1[z_ad V (q + 1)]? = some (vp_cell cA (n, .inl g))) (hz : H1.size = H.size) (oq : ∀ x : Nat, x ≠ z_ad V (q + 1) → H1[x]? = H[x]?) :
    z_W V (h.1, z_ui h.2.1 (q + 1) g, h.2.2) H1 ∧ va_S (fun q => V.2.2.1 ≤ q) s.heap H1 (locs ++ [⟨z_ad V (q + 1), i⟩]) := by
  have he := z_get (V := V) hsh
  have hset : z_ws V (h.1, z_ui h.2.1 (q + 1) g, h.2.2) = (z_ws V h).set q (z_ad V (q + 1), .inl (cA, n, .inl g)) := by
    rw [z_set_gen (h := h) (h' := (h.1, z_ui h.2.1 (q + 1) g, h.2.2)) hsh rfl (fun x hx => by show z_ui h.2.1 (q + 1) g x = _; unfold z_ui; rw [if_neg hx]) (fun _ _ => rfl), hcell]
  refine ⟨hw.upd_i (by rw [hset]; exact hw.1.set (z_D V h) he e oq) hz, hS.put hz oq ((z_D V h).2 q _ he)⟩
theorem zg_iast {q n : Nat} {i x : Int32} (hd : decode M.2.1 pc = .ok (.iastore, 1)) (hq : 0 < q) (hsh : h.1[q]? = some (100, n)) (hin : vp_in i n) (k : z_G V M d bc bs (pc + 1) ls st (h.1, z_ui h.2.1 q (upd (h.2.1 q) i.toNatClampNeg x), h.2.2) Φ) : z_G V M d bc bs pc ls (.int x :: .int i :: .ref q :: st) h Φ := by
  intro p l e R s m args below meth c H locs cells slots LS QQ C hw hS hL hn hc hs ret
  obtain ⟨q', rfl⟩ : ∃ q', q = q' + 1 := ⟨q - 1, by omega⟩
  refine W.iast C.1 C.2.1 (hw.1 q' _ (z_get_a hsh)) ((C.2.2.2.2.2.2.2.2.1.2 0 _ rfl).1 n (fun j => .int (h.2.1 (q' + 1) j))) (fun z => by cases z) (by show ¬ (i < 0 ∨ (arrV _ _ _).slots.size ≤ _); rw [arrV_size]; exact hin) rfl rfl hd fun H1 e9 z oq => ?_
  obtain ⟨hw1, hS1⟩ := z_arr_set (V := V) (h := h) (g := upd (h.2.1 (q' + 1)) i.toNatClampNeg x) (cA := V.2.2.2.1.1) (i := i.toNatClampNeg) hw hS (Or.inl rfl) hsh (by unfold z_cell; rw [if_pos rfl]; show Sum.inl (_, _, Sum.inl (z_ui _ _ _ _)) = _; unfold z_ui; rw [if_pos rfl]) (by
    rw [e9, vp_cell_i, vp_cell_i, arrV_store]
    congr 2
    funext j
    unfold updV upd
    split <;> rfl) z oq
  exact k p l e R s m args below meth c H1 _ cells slots LS QQ C hw1 hS1 hL hn hc hs ret
theorem zg_zast {q n : Nat} {i x : Int32} (hd : decode M.2.1 pc = .ok (.bastore, 1)) (hx : x = 0 ∨ x = 1) (hq : 0 < q) (hsh : h.1[q]? = some (101, n)) (hin : vp_in i n) (k : z_G V M d bc bs (pc + 1) ls st (h.1, z_ui h.2.1 q (upd (h.2.1 q) i.toNatClampNeg x), h.2.2) Φ) : z_G V M d bc bs pc ls (.int x :: .int i :: .ref q :: st) h Φ := by
  intro p l e R s m args below meth c H locs cells slots LS QQ C hw hS hL hn hc hs ret
  obtain ⟨q', rfl⟩ : ∃ q', q = q' + 1 := ⟨q - 1, by omega⟩
  refine W.zast C.1 C.2.1 (hw.1 q' _ (z_get_z hsh)) ((C.2.2.2.2.2.2.2.2.1.2 1 _ rfl).1 n (fun j => .int (h.2.1 (q' + 1) j))) (fun z => by cases z) (by show ¬ (i < 0 ∨ (arrV _ _ _).slots.size ≤ _); rw [arrV_size]; exact hin) rfl rfl hd fun H1 e9 z oq => ?_
  have hb9 : narrow .boolean (.int x) = .int x := (z_nar_z hx).1
  obtain ⟨hw1, hS1⟩ := z_arr_set (V := V) (h := h) (g := upd (h.2.1 (q' + 1)) i.toNatClampNeg x) (cA := V.2.2.2.1.2.1) (i := i.toNatClampNeg) hw hS (Or.inr rfl) hsh (by unfold z_cell; rw [if_neg (by show ¬ (101 : Nat) = 100; decide), if_pos rfl]; show Sum.inl (_, _, Sum.inl (z_ui _ _ _ _)) = _; unfold z_ui; rw [if_pos rfl]) (by
    rw [e9, vp_cell_i, vp_cell_i]
    try rw [hb9]
    rw [arrV_store]
    congr 2
    funext j
    unfold updV upd
    split <;> rfl) z oq
  exact k p l e R s m args below meth c H1 _ cells slots LS QQ C hw1 hS1 hL hn hc hs ret
theorem zg_aald {q n t r : Nat} {i : Int32} (hd : decode M.2.1 pc = .ok (.aaload, 1)) (ht : t = 102 ∨ t = 103) (hsh : h.1[q]? = some (t, n)) (hin : vp_in i n) (hr : h.2.2 q i.toNatClampNeg = some r) (k : z_G V M d bc bs (pc + 1) ls (.ref r :: st) h Φ) : z_G V M d bc bs pc ls (.int i :: .ref q :: st) h Φ := by
  intro p l e R s m args below meth c H locs cells slots LS QQ C hw hS hL hn hc hs ret
  have hlt : i.toNatClampNeg < n := Nat.not_le.mp fun z => hin (Or.inr z)
  obtain ⟨q', rfl⟩ : ∃ q', q = q' + 1 := by
    cases q with
    | zero =>
      rw [hw.2.2.2.1] at hsh
      cases hsh
      rcases ht with ht | ht <;> cases ht
    | succ k => exact ⟨k, rfl⟩
  have k9 := k p l e R s m args below meth c H locs cells slots LS QQ C hw hS hL hn hc hs ret
  have hK := C.2.2.2.2.2.2.2.2.1
  rcases ht with rfl | rfl
  · have hg := hw.1 q' _ (z_get hsh)
    refine W.aald (v := va_rf ((h.2.2 (q' + 1) i.toNatClampNeg).map (z_ad V))) (ty := .array .int) C.1 C.2.1 (cell := vp_cell V.2.2.2.1.2.2.1 (n, .inr (.inr (.inr (.inr (fun j => (h.2.2 (q' + 1) j).map (z_ad V))))))) hg ((hK.2 2 _ rfl).1 n (fun j => va_rf ((h.2.2 (q' + 1) j).map (z_ad V)))) rfl (fun z => by cases z) (by show ¬ (i < 0 ∨ (arrV _ _ _).slots.size ≤ _); rw [arrV_size]; exact hin) (by show (arrV _ _ _).slots[_]? = _; rw [arrV_read _ _ hlt]) rfl rfl hd ?_
    rw [hr]
    exact k9
  · have hg := hw.1 q' _ (z_get hsh)
    refine W.aald (v := va_rf ((h.2.2 (q' + 1) i.toNatClampNeg).map (z_ad V))) (ty := .object "TorchPlate$Plight") C.1 C.2.1 (cell := vp_cell V.2.2.2.1.2.2.2 (n, .inr (.inr (.inr (.inr (fun j => (h.2.2 (q' + 1) j).map (z_ad V))))))) hg ((hK.2 3 _ rfl).1 n (fun j => va_rf ((h.2.2 (q' + 1) j).map (z_ad V)))) rfl (fun z => by cases z) (by show ¬ (i < 0 ∨ (arrV _ _ _).slots.size ≤ _); rw [arrV_size]; exact hin) (by show (arrV _ _ _).slots[_]? = _; rw [arrV_read _ _ hlt]) rfl rfl hd ?_
    rw [hr]
    exact k9
end ZG2
end
section
/-! ===== returns, contracts, calls ===== -/
def z_Pc (V : zV) (as : List Value) (h : zHP) : Array Value → State → Prop := fun a U => a = (as.map (z_rl V)).toArray ∧ z_W V h U.heap ∧ va_K V.1 vwCl (z_tys V) U ∧ z_N U ∧ va_X V.2.1 V.2.2.2.2.1 V.2.2.2.2.2 U U.heap ∧ V.2.1 < V.2.2.1 ∧ V.2.2.1 ≤ U.heap.size
def z_Qc (V : zV) (Φ : Option Value → zHP → Prop) : Array Value → State → Outcome → State → Prop := fun _ st oc t => ∃ (v : Option Value) (h' : zHP), Φ v h' ∧ oc = .returned (v.map (z_rl V)) ∧ z_W V h' t.heap ∧ va_F (fun q => V.2.2.1 ≤ q) st t
def z_rm (d mc ms : Nat) : Room := { frames := d, cells := mc, slots := ms, locals := 100 * d }
def z_wsM (M : zM) : List Cond := Cond.code M.1 M.2.1 M.2.2.1 M.2.2.2 :: wsL_law
def z_ent (M : zM) (as : List Value) : List Value := as ++ List.replicate (M.2.2.1 - as.length) .null
def z_ok (v : Value) : Bool := match v with
  | .int _ => true
  | .ref _ => true
  | _ => false
theorem z_ok_cat {v : Value} (h : z_ok v = true) : v.category = 1 := by cases v <;> first | rfl | cases h
theorem z_N.moved {u U : State} (h : z_N u) (hW : u.WarmedH U.vm) : z_N U := by
  refine ⟨fun w hw => ?_, h.2.1.moved hW.alike, h.2.2.moved hW.alike⟩
  have hz := h.1 w hw
  obtain ⟨a, i, x, y, rfl⟩ : ∃ a i x y, w = .methodLinkNest a i x y := by
    unfold z_nest at hw
    simp only [List.mem_cons, List.not_mem_nil, or_false] at hw
    rcases hw with h | h | h | h | h | h | h | h | h | h | h | h | h | h | h | h <;> exact ⟨_, _, _, _, h⟩
  exact va_Nw.warmM hW hz
theorem z_Pc.blind {V : zV} {as : List Value} {h : zHP} : FrameBlind (z_Pc V as h) := by
  intro a U g mk hp
  obtain ⟨h1, h2, h3, h4, h5, h6, h7⟩ := hp
  refine ⟨h1, h2, va_K.moved (u := U) (U := U.calling g mk a) (Vm.Alike.refl U.vm) h3, ⟨fun w hw => ?_, h4.2.1.moved (u := U) (U := U.calling g mk a) (Vm.Alike.refl U.vm), h4.2.2.moved (u := U) (U := U.calling g mk a) (Vm.Alike.refl U.vm)⟩, va_X.moved (u := U) (U := U.calling g mk a) (Vm.Alike.refl U.vm) h5, h6, h7⟩
  have hz := h4.1 w hw
  obtain ⟨a9, i, x, y, rfl⟩ : ∃ a i x y, w = .methodLinkNest a i x y := by
    unfold z_nest at hw
    simp only [List.mem_cons, List.not_mem_nil, or_false] at hw
    rcases hw with h | h | h | h | h | h | h | h | h | h | h | h | h | h | h | h <;> exact ⟨_, _, _, _, h⟩
  exact va_Nw.same rfl (u := U) (U := U.calling g mk a) rfl hz
theorem z_lg : ∀ (vs : List Value), (∀ v ∈ vs, v.category = 1) → lg_sl vs = vs.map Slot.val
  | [], _ => rfl
  | v :: vs, h => by
    have h1 : v.category = 1 := h v List.mem_cons_self
    have ih := z_lg vs (fun w hw => h w (List.mem_cons_of_mem _ hw))
    have e : lg_sl (v :: vs) = [.val v] ++ lg_sl vs := by simp [lg_sl, h1]
    rw [e, ih]
    rfl
theorem z_entL {V : zV} {M : zM} {as : List Value} (hl : as.length ≤ M.2.2.1) (ha : ∀ v ∈ as, z_ok v = true) : z_L V ((lg_sl (as.map (z_rl V)) ++ List.replicate (M.2.2.1 - (lg_sl (as.map (z_rl V))).length) Slot.unset).toArray) (z_ent M as) := by
  have hc : ∀ v ∈ as.map (z_rl V), v.category = 1 := fun v hv => by
    obtain ⟨w, hw, rfl⟩ := List.mem_map.mp hv
    have := z_ok_cat (ha w hw)
    cases w <;> first | rfl | exact this
  have hle := lv_entry (as.map (z_rl V)) (n := M.2.2.1) (by rw [z_lg _ hc]; simpa using hl)
  have hg := z_lg _ hc
  refine ⟨by rw [hle.1]; unfold z_ent; simp; omega, hle.2.1, fun i v hv hnn => ?_⟩
  unfold z_ent at hv
  by_cases hi : i < as.length
  · rw [List.getElem?_append_left hi] at hv
    rw [hg, List.getElem?_toArray, List.getElem?_append_left (by simpa using hi), List.getElem?_map, List.getElem?_map, hv]
    rfl
  · rw [List.getElem?_append_right (by omega), List.getElem?_replicate] at hv
    split at hv
    · cases hv; exact absurd rfl hnn
    · cases hv
theorem z_met {V : zV} {M : zM} {d mc ms : Nat} {as : List Value} {h : zHP} {Φ : Option Value → zHP → Prop} (hp : plainName M.1.cls = true) (hl : as.length ≤ M.2.2.1) (ha : ∀ v ∈ as, z_ok v = true)
    (k : z_G V M d mc ms 0 (z_ent M as) [] h Φ) (l : Launch) : Met l M.1 (z_wsM M) (z_rm d mc ms) (z_Pc V as h) (z_Qc V Φ) mc ms (fun q => V.2.2.1 ≤ q) := by
  refine Met.ofW (cc := M.2.1) (maxL := M.2.2.1) (ret := M.2.2.2) hp rfl ?_
  intro p e s m args below meth c s₁ B hml hv
  obtain ⟨rfl, h2, h3, h4, h5, h6, h7⟩ := hv
  have hts := atoms_spec (ws := z_wsM M) B.pre
  rw [lg_entry_eq]
  have C : z_C V M d p l e (z_rm d mc ms) s m (as.map (z_rl V)).toArray below meth c := ⟨B.exec, B.bytes, B.returns, hml, findClass_of_methodNamed B.named, B.notSynchronized, fun w hw => hts w (List.mem_cons_of_mem _ hw), h4, h3, Nat.le_refl _, Nat.le_refl _, h5, h6, h7, (name_of_methodNamed B.named B.method).1⟩
  refine k p l e (z_rm d mc ms) s m _ below meth c s.heap [] 0 0 _ _ C h2 va_S.rf (z_entL hl ha) (by unfold z_ent; simp; omega) (by rw [Nat.zero_add]; exact Nat.le_refl _) (by rw [Nat.zero_add]; exact Nat.le_refl _) ?_
  intro v h' H' locs' pc' LS' i hΦ hw hS hR hd
  rw [Nat.zero_add, Nat.zero_add]
  have hlk := B.notSynchronized
  cases v with
  | none =>
    obtain ⟨rfl, hr⟩ := hR
    exact W.vret B.exec B.bytes (B.returns.trans hr) (fun t ht hW => ⟨none, h', hΦ, rfl, by rw [ht]; exact hw, hS.F ht⟩) hS.2.2 hd
  | some v =>
    cases v with
    | int x =>
      obtain ⟨rfl, ty, hr, hn⟩ := hR
      exact W.zret (v := x) B.exec B.bytes (B.returns.trans hr) hn (fun t ht hW => ⟨some (.int x), h', hΦ, rfl, by rw [ht]; exact hw, hS.F ht⟩) hS.2.2 hd
    | ref x =>
      obtain ⟨rfl, ty, hr, hn⟩ := hR
      exact W.aret (v := .ref (z_ad V x)) B.exec B.bytes (B.returns.trans hr) hn (Or.inr ⟨_, rfl⟩) (fun t ht hW => ⟨some (.ref x), h', hΦ, rfl, by rw [ht]; exact hw, hS.F ht⟩) hS.2.2 hd
    | _ => exact hR.elim
section ZG3
variable {V : zV} {M M' : zM} {d bc bs pc mc ms idx : Nat} {ls st rest : List Value} {h : zHP} {Φ Ψ : Option Value → zHP → Prop}
theorem zg_ret {v : Option Value} {i : Instr} (hd : decode M.2.1 pc = .ok (i, 1)) (hR : z_R M v i) (hst : st = v.toList) (k : Φ v h) : z_G V M d bc bs pc ls st h Φ := by
  intro p l e R s m args below meth c H locs cells slots LS QQ C hw hS hL hn hc hs ret
  subst hst
  exact W.widen (Nat.le_add_right _ _) (Nat.le_add_right _ _) (ret v h H locs pc LS i k hw hS hR hd)
theorem z_Pc.of {as : List Value} {p : Program} {l : Launch} {e : Env} {R : Room} {s U : State} {m : MethodId} {args : Array Value} {below : List Frame} {meth : Method} {c : Code} {H : Heap} {locs : List Loc} (C : z_C V M d p l e R s m args below meth c) (hw : z_W V h H) (hS : va_S (fun q => V.2.2.1 ≤ q) s.heap H locs) (hU : U.heap = H) (hW : s.WarmedH U.vm) : z_Pc V as h (as.map (z_rl V)).toArray U := by
  obtain ⟨hx, hb, hr, hml, hown, hlk, hts, hN, hK, hfr, hlo, hX, hbB, hBs, hnm⟩ := C
  refine ⟨rfl, by rw [hU]; exact hw, va_K.moved hW.alike hK, hN.moved hW, ?_, hbB, by rw [hU]; exact Nat.le_trans hBs hS.1⟩
  rw [hU]
  exact va_X.moved hW.alike (hX.kept (hS.2.1 V.2.1 (by omega) (by show ¬ V.2.2.1 ≤ V.2.1; omega)))
/-- behind a call -/
theorem z_behind {p : Program} {l : Launch} {e : Env} {R : Room} {s : State} {m : MethodId} {args : Array Value} {below : List Frame} {meth : Method} {c : Code} {H : Heap} {locs : List Loc} {cells slots : Nat} {LS : Array Slot} {QQ : State → Prop} {st0 : List Value} {a : Array Value}
    (C : z_C V M d p l e R s m args below meth c) (hS : va_S (fun q => V.2.2.1 ≤ q) s.heap H locs) (hL : z_L V LS ls) (hn : M.2.2.1 = ls.length) (hc : cells + (mc + bc) ≤ R.cells) (hs : slots + (ms + bs) ≤ R.slots)
    (hrun : va_Run p l e R s m args below meth c H locs cells slots mc ms (F0 m pc LS st0) (rest.map (z_rl V)) (z_Qc V Ψ a) (fun q => V.2.2.1 ≤ q))
    (ret : ∀ (v : Option Value) (h' : zHP) (H' : Heap) (locs' : List Loc) (pc' : Nat) (LS' : Array Slot) (i : Instr), Φ v h' → z_W V h' H' → va_S (fun q => V.2.2.1 ≤ q) s.heap H' locs' → z_R M v i → decode M.2.1 pc' = .ok (i, 1) → W p l e R s m args below meth c H' locs' (cells + (mc + bc)) (slots + (ms + bs)) QQ (F0 m pc' LS' (v.toList.map (z_rl V))))
    (k : ∀ v h', Ψ v h' → z_G V M d bc bs (pc + 3) ls (v.toList ++ rest) h' Φ) : W p l e R s m args below meth c H locs cells slots QQ (F0 m pc LS st0) := by
  intro T hT X
  obtain ⟨v, st₀, t, T', L, h0, X', hLo, e1, e2, ⟨v', h', hΨ, hv, hw', hF⟩, step⟩ := hrun T hT X
  cases hv
  have hS' : va_S (fun q => V.2.2.1 ≤ q) s.heap T'.heap (locs ++ L) := by
    rw [e1]
    refine ⟨Nat.le_trans hS.1 (by have := hF.1; rw [h0] at this; exact this), fun q h1 h2 => ?_, fun q hq => ?_⟩
    · have := hF.2 q (by rw [h0]; exact Nat.lt_of_lt_of_le h1 hS.1) h2
      rw [this, h0]
      exact hS.2.1 q h1 h2
    · rcases List.mem_append.mp hq with h9 | h9
      · exact hS.2.2 q h9
      · exact hLo q h9
  have k9 := k v' h' hΨ p l e R s m args below meth c T'.heap (locs ++ L) (cells + mc) (slots + ms) LS QQ C (by rw [e1]; exact hw') hS' hL hn (by omega) (by omega) (by
    intro v9 h9 H9 locs9 pc9 LS9 i9 a1 a2 a3 a4 a5
    have := ret v9 h9 H9 locs9 pc9 LS9 i9 a1 a2 a3 a4 a5
    rw [Nat.add_assoc, Nat.add_assoc]
    exact this)
  obtain ⟨t2, a1, b1⟩ := k9 T' rfl X'
  refine ⟨t2, step t2 ?_, b1⟩
  have e9 : (v'.toList ++ rest).map (z_rl V) = (v'.map (z_rl V)).toList ++ rest.map (z_rl V) := by cases v' <;> rfl
  rw [← e9]
  exact a1
/-- what the tables say of a method that is called -/
def z_K0 (M' : zM) (n : Nat) : Prop := Cond.code M'.1 M'.2.1 M'.2.2.1 M'.2.2.2 ∈ wsL_law ∧ Cond.initialized M'.1.cls ∈ wsL_law ∧ (M'.1.cls ≠ "java/lang/invoke/MethodHandle" ∧ M'.1.cls ≠ "java/lang/invoke/VarHandle") ∧ (parseMethodDescriptor M'.1.desc).map (fun d => d.parameters.length) = some n ∧ plainName M'.1.cls = true ∧ M'.2.2.1 ≤ 81
def z_KV (own : String) (idx : Nat) (M' : zM) (n : Nat) : Prop := z_K0 M' n ∧ Cond.methodLink own idx M'.1 ∈ wsL_law ∧ Cond.instanceMethod M'.1 ∈ wsL_law ∧ Cond.selects M'.1.cls M'.1 M'.1 ∈ wsL_law
def z_KS (own : String) (idx : Nat) (M' : zM) (n : Nat) : Prop := z_K0 M' n ∧ Cond.methodLink own idx M'.1 ∈ wsL_law ∧ Cond.static M'.1 ∈ wsL_law
def z_KT (own : String) (idx : Nat) (M' : zM) (n : Nat) : Prop := z_K0 M' n ∧ (∃ host, Cond.methodLinkNest own idx M'.1 host ∈ z_nest) ∧ Cond.static M'.1 ∈ wsL_law
def z_KI (own : String) (idx : Nat) (M' : zM) (n : Nat) : Prop := z_K0 M' n ∧ Cond.methodLink own idx M'.1 ∈ wsL_law ∧ Cond.instanceMethod M'.1 ∈ wsL_law ∧ M'.1.name = "<init>" ∧ M'.2.2.2 = none
def z_KJ (own : String) (idx : Nat) (M' : zM) (n : Nat) : Prop := z_K0 M' n ∧ (∃ host, Cond.methodLinkNest own idx M'.1 host ∈ z_nest) ∧ Cond.instanceMethod M'.1 ∈ wsL_law ∧ M'.1.name = "<init>" ∧ M'.2.2.2 = none
theorem z_gw {M' : zM} {n : Nat} (h : z_K0 M' n) : GoodIn wsL_law (z_wsM M') := by
  intro w hw
  rcases List.mem_cons.mp hw with rfl | hw
  · exact z_good _ h.1
  · exact z_good _ hw
theorem z_cat {l : List Value} : ((l.map (z_rl V)).map fun v => v.category) = l.map fun v => v.category := by
  rw [List.map_map]
  apply List.map_congr_left
  intro v _
  cases v <;> rfl
theorem z_hlen {M' : zM} {n : Nat} (h : z_K0 M' n) : ∀ sig, parseMethodDescriptor M'.1.desc = some sig → n = sig.parameters.length := by
  intro sig hs
  have h2 := h.2.2.2.1
  rw [hs] at h2
  exact (Option.some.inj h2).symm
theorem zg_callS {As : List Value} {n : Nat} (hd : decode M.2.1 pc = .ok (.invokestatic idx, 3)) (hk : z_KS M.1.cls idx M' n) (hn9 : As.length = n) (hst : st = As.reverse ++ rest) (hr : (rest.map fun v => v.category).sum ≤ 8) (hal : As.length ≤ M'.2.2.1) (ha : As.all z_ok = true)
    (kc : z_G V M' d mc ms 0 (z_ent M' As) [] h Ψ) (k : ∀ v h', Ψ v h' → z_G V M (d + 1) bc bs (pc + 3) ls (v.toList ++ rest) h' Φ) : z_G V M (d + 1) (mc + bc) (ms + bs) pc ls st h Φ := by
  intro p l e R s m args below meth c H locs cells slots LS QQ C hw hS hL hn hc hs ret
  have hM := z_met (V := V) hk.1.2.2.2.2.1 hal (List.all_eq_true.mp ha) kc l
  have C0 := C
  obtain ⟨hx, hb, hr9, hml, hown, hlk, hts, hN, hK, hfr, hlo, hX, hbB, hBs, hnm⟩ := C
  have h81 := hk.1.2.2.2.2.2
  refine z_behind (rest := rest) (a := (As.map (z_rl V)).toArray) C0 hS hL hn hc hs (va_runS (n := n) (As := As.map (z_rl V)) ⟨hx, hb, hml, hown, hts⟩ hM ⟨⟨rfl, rfl, by show d + 1 ≤ _; omega, by show 8 + (M'.2.2.1 + 11) + 100 * d ≤ _; omega, pay_in hts (z_gw hk.1), List.mem_cons_self, hts _ hk.1.1, hts _ hk.1.2.1, hk.1.2.2.1, z_hlen hk.1, hts _ hk.2.1⟩, hts _ hk.2.2⟩ ⟨z_Pc.blind, fun U hU hW => z_Pc.of C0 hw hS hU hW⟩ rfl (by rw [List.length_map]; exact hn9) (hL.1.trans hn.symm) (by subst hst; simp) (by rw [z_cat]; exact lv_room (m := m) (pc := 0) (ls := LS) (rest := []) hr) hd ⟨by omega, by omega⟩) ret k
theorem zg_callT {As : List Value} {n : Nat} (hd : decode M.2.1 pc = .ok (.invokestatic idx, 3)) (hk : z_KT M.1.cls idx M' n) (hn9 : As.length = n) (hst : st = As.reverse ++ rest) (hr : (rest.map fun v => v.category).sum ≤ 8) (hal : As.length ≤ M'.2.2.1) (ha : As.all z_ok = true)
    (kc : z_G V M' d mc ms 0 (z_ent M' As) [] h Ψ) (k : ∀ v h', Ψ v h' → z_G V M (d + 1) bc bs (pc + 3) ls (v.toList ++ rest) h' Φ) : z_G V M (d + 1) (mc + bc) (ms + bs) pc ls st h Φ := by
  intro p l e R s m args below meth c H locs cells slots LS QQ C hw hS hL hn hc hs ret
  have hM := z_met (V := V) hk.1.2.2.2.2.1 hal (List.all_eq_true.mp ha) kc l
  have C0 := C
  obtain ⟨hx, hb, hr9, hml, hown, hlk, hts, hN, hK, hfr, hlo, hX, hbB, hBs, hnm⟩ := C
  have h81 := hk.1.2.2.2.2.2
  obtain ⟨hk0, ⟨host, hkn⟩, hkst⟩ := hk
  refine z_behind (rest := rest) (a := (As.map (z_rl V)).toArray) C0 hS hL hn hc hs (va_runSN (n := n) (As := As.map (z_rl V)) (host := host) ⟨hx, hb, hml, hown, hts⟩ hM ⟨⟨⟨rfl, rfl, by show d + 1 ≤ _; omega, by show 8 + (M'.2.2.1 + 11) + 100 * d ≤ _; omega, pay_in hts (z_gw hk0), List.mem_cons_self⟩, hts _ hk0.1, hts _ hk0.2.1, hk0.2.2.1, z_hlen hk0, va_Nw.use rfl (hN.1 _ hkn)⟩, hts _ hkst, trivial⟩ ⟨z_Pc.blind, fun U hU hW => z_Pc.of C0 hw hS hU hW⟩ rfl (by rw [List.length_map]; exact hn9) (hL.1.trans hn.symm) (by subst hst; simp) (by rw [z_cat]; exact lv_room (m := m) (pc := 0) (ls := LS) (rest := []) hr) hd ⟨by omega, by omega⟩) ret k
theorem zg_callV {As : List Value} {n q ci nf : Nat} (hd : decode M.2.1 pc = .ok (.invokevirtual idx, 3)) (hk : z_KV M.1.cls idx M' n) (hsh : h.1[q]? = some (ci, nf)) (hci : ci < 100) (hcn : ∃ T N, vwCl[ci]? = some (M'.1.cls, T, N)) (hn9 : As.length = n) (hst : st = As.reverse ++ .ref q :: rest) (hr : (rest.map fun v => v.category).sum ≤ 8) (hal : As.length + 1 ≤ M'.2.2.1) (ha : As.all z_ok = true)
    (kc : z_G V M' d mc ms 0 (z_ent M' (.ref q :: As)) [] h Ψ) (k : ∀ v h', Ψ v h' → z_G V M (d + 1) bc bs (pc + 3) ls (v.toList ++ rest) h' Φ) : z_G V M (d + 1) (mc + bc) (ms + bs) pc ls st h Φ := by
  intro p l e R s m args below meth c H locs cells slots LS QQ C hw hS hL hn hc hs ret
  have hM := z_met (V := V) (as := .ref q :: As) hk.1.2.2.2.2.1 (by simpa using hal) (List.all_eq_true.mp (by rw [List.all_cons, ha]; rfl)) kc l
  have C0 := C
  obtain ⟨hx, hb, hr9, hml, hown, hlk, hts, hN, hK, hfr, hlo, hX, hbB, hBs, hnm⟩ := C
  have h81 := hk.1.2.2.2.2.2
  obtain ⟨T, N, hcn⟩ := hcn
  obtain ⟨q', rfl⟩ := hw.pos hsh hci
  have he : (z_ws V h)[q']? = some (z_ad V (q' + 1), .inr (ci, (List.range nf).map (z_val V h ci (q' + 1)))) := by rw [z_get hsh, z_cell_o hci]
  refine z_behind (rest := rest) (a := ((Value.ref (q' + 1) :: As).map (z_rl V)).toArray) C0 hS hL hn hc hs (va_runV (n := n) (As := As.map (z_rl V)) (b := z_ad V (q' + 1)) ⟨hx, hb, hml, hown, hts⟩ hM ⟨⟨rfl, rfl, by show d + 1 ≤ _; omega, by show 8 + (M'.2.2.1 + 11) + 100 * d ≤ _; omega, pay_in hts (z_gw hk.1), List.mem_cons_self, hts _ hk.1.1, hts _ hk.1.2.1, hk.1.2.2.1, z_hlen hk.1, hts _ hk.2.1⟩, hts _ hk.2.2.1, hts _ hk.2.2.2⟩ ⟨z_Pc.blind, va_recv hK hw.1 hcn he, fun U hU hW => z_Pc.of C0 hw hS hU hW⟩ rfl (by rw [List.length_map]; exact hn9) (hL.1.trans hn.symm) (by subst hst; simp [z_rl]) (by rw [z_cat]; exact lv_room (m := m) (pc := 0) (ls := LS) (rest := []) hr) hd ⟨by omega, by omega⟩) ret k
theorem zg_callI {As : List Value} {n q : Nat} (hd : decode M.2.1 pc = .ok (.invokespecial idx, 3)) (hk : z_KI M.1.cls idx M' n) (hn9 : As.length = n) (hst : st = As.reverse ++ .ref q :: rest) (hr : (rest.map fun v => v.category).sum ≤ 8) (hal : As.length + 1 ≤ M'.2.2.1) (ha : As.all z_ok = true)
    (kc : z_G V M' d mc ms 0 (z_ent M' (.ref q :: As)) [] h Ψ) (k : ∀ v h', Ψ v h' → z_G V M (d + 1) bc bs (pc + 3) ls (v.toList ++ rest) h' Φ) : z_G V M (d + 1) (mc + bc) (ms + bs) pc ls st h Φ := by
  intro p l e R s m args below meth c H locs cells slots LS QQ C hw hS hL hn hc hs ret
  have hM := z_met (V := V) (as := .ref q :: As) hk.1.2.2.2.2.1 (by simpa using hal) (List.all_eq_true.mp (by rw [List.all_cons, ha]; rfl)) kc l
  have C0 := C
  obtain ⟨hx, hb, hr9, hml, hown, hlk, hts, hN, hK, hfr, hlo, hX, hbB, hBs, hnm⟩ := C
  obtain ⟨hk0, hkl, hki, hkn, hkr⟩ := hk
  have h81 := hk0.2.2.2.2.2
  have hcd := hk0.1
  have hwm : z_wsM M' = Cond.code M'.1 M'.2.1 M'.2.2.1 none :: wsL_law := by unfold z_wsM; rw [hkr]
  refine z_behind (rest := rest) (a := ((Value.ref q :: As).map (z_rl V)).toArray) C0 hS hL hn hc hs (va_runI (n := n) (As := As.map (z_rl V)) (b := z_ad V q) (bytes := M'.2.1) (maxL := M'.2.2.1) ⟨hx, hb, hml, hown, hts⟩ hM ⟨⟨rfl, rfl, by show d + 1 ≤ _; omega, by show 8 + (M'.2.2.1 + 11) + 100 * d ≤ _; omega, pay_in hts (z_gw hk0), by rw [hwm]; exact List.mem_cons_self, hts _ (hkr ▸ hcd), hts _ hk0.2.1, hk0.2.2.1, z_hlen hk0, hts _ hkl⟩, hkn, hts _ hki⟩ ⟨z_Pc.blind, fun U hU hW => z_Pc.of C0 hw hS hU hW⟩ rfl (by rw [List.length_map]; exact hn9) (hL.1.trans hn.symm) (by subst hst; simp [z_rl]) (by rw [z_cat]; exact lv_room (m := m) (pc := 0) (ls := LS) (rest := []) hr) hd ⟨by omega, by omega⟩) ret k
theorem zg_callJ {As : List Value} {n q : Nat} (hd : decode M.2.1 pc = .ok (.invokespecial idx, 3)) (hk : z_KJ M.1.cls idx M' n) (hn9 : As.length = n) (hst : st = As.reverse ++ .ref q :: rest) (hr : (rest.map fun v => v.category).sum ≤ 8) (hal : As.length + 1 ≤ M'.2.2.1) (ha : As.all z_ok = true)
    (kc : z_G V M' d mc ms 0 (z_ent M' (.ref q :: As)) [] h Ψ) (k : ∀ v h', Ψ v h' → z_G V M (d + 1) bc bs (pc + 3) ls (v.toList ++ rest) h' Φ) : z_G V M (d + 1) (mc + bc) (ms + bs) pc ls st h Φ := by
  intro p l e R s m args below meth c H locs cells slots LS QQ C hw hS hL hn hc hs ret
  have hM := z_met (V := V) (as := .ref q :: As) hk.1.2.2.2.2.1 (by simpa using hal) (List.all_eq_true.mp (by rw [List.all_cons, ha]; rfl)) kc l
  have C0 := C
  obtain ⟨hx, hb, hr9, hml, hown, hlk, hts, hN, hK, hfr, hlo, hX, hbB, hBs, hnm⟩ := C
  obtain ⟨hk0, ⟨host, hkl⟩, hki, hkn, hkr⟩ := hk
  have h81 := hk0.2.2.2.2.2
  have hcd := hk0.1
  have hwm : z_wsM M' = Cond.code M'.1 M'.2.1 M'.2.2.1 none :: wsL_law := by unfold z_wsM; rw [hkr]
  refine z_behind (rest := rest) (a := ((Value.ref q :: As).map (z_rl V)).toArray) C0 hS hL hn hc hs (va_runIN (n := n) (As := As.map (z_rl V)) (host := host) (b := z_ad V q) (bytes := M'.2.1) (maxL := M'.2.2.1) ⟨hx, hb, hml, hown, hts⟩ hM ⟨⟨⟨rfl, rfl, by show d + 1 ≤ _; omega, by show 8 + (M'.2.2.1 + 11) + 100 * d ≤ _; omega, pay_in hts (z_gw hk0), by rw [hwm]; exact List.mem_cons_self⟩, hts _ (hkr ▸ hcd), hts _ hk0.2.1, hk0.2.2.1, z_hlen hk0, va_Nw.use rfl (hN.1 _ hkl)⟩, hkn, hts _ hki⟩ ⟨z_Pc.blind, fun U hU hW => z_Pc.of C0 hw hS hU hW⟩ rfl (by rw [List.length_map]; exact hn9) (hL.1.trans hn.symm) (by subst hst; simp [z_rl]) (by rw [z_cat]; exact lv_room (m := m) (pc := 0) (ls := LS) (rest := []) hr) hd ⟨by omega, by omega⟩) ret k
/-- Math's three -/
theorem zg_mmax {x y : Int32} (hd : decode M.2.1 pc = .ok (.invokestatic idx, 3)) (hk : Cond.methodLink M.1.cls idx Lib.Math.max.name ∈ wsL_law) (h1 : Cond.static Lib.Math.max.name ∈ wsL_law) (h2 : Cond.initialized "java/lang/Math" ∈ wsL_law) (h3 : Cond.code Lib.Math.max.name Lib.Math.max.code 2 (some .int) ∈ wsL_law) (hr : (rest.map fun v => v.category).sum ≤ 8) (k : z_G V M (d + 1) bc bs (pc + 3) ls (.int (if x < y then y else x) :: rest) h Φ) : z_G V M (d + 1) bc bs pc ls (.int y :: .int x :: rest) h Φ := by
  intro p l e R s m args below meth c H locs cells slots LS QQ C hw hS hL hn hc hs ret
  have k9 := k p l e R s m args below meth c H locs cells slots LS QQ C hw hS hL hn hc hs ret
  obtain ⟨hx, hb, hr9, hml, hown, hlk, hts, hN, hK, hfr, hlo, hX, hbB, hBs, hnm⟩ := C
  exact va_mmax hx hb (by rw [hml, hn]; exact hL.1.symm) hown (hts _ hk) (hts _ h1) (hts _ h2) (hts _ h3) (by omega) (by rw [z_cat]; omega) (by omega) (by omega) hd k9
theorem zg_mmin {x y : Int32} (hd : decode M.2.1 pc = .ok (.invokestatic idx, 3)) (hk : Cond.methodLink M.1.cls idx Lib.Math.min.name ∈ wsL_law) (h1 : Cond.static Lib.Math.min.name ∈ wsL_law) (h2 : Cond.initialized "java/lang/Math" ∈ wsL_law) (h3 : Cond.code Lib.Math.min.name Lib.Math.min.code 2 (some .int) ∈ wsL_law) (hr : (rest.map fun v => v.category).sum ≤ 8) (k : z_G V M (d + 1) bc bs (pc + 3) ls (.int (if y < x then y else x) :: rest) h Φ) : z_G V M (d + 1) bc bs pc ls (.int y :: .int x :: rest) h Φ := by
  intro p l e R s m args below meth c H locs cells slots LS QQ C hw hS hL hn hc hs ret
  have k9 := k p l e R s m args below meth c H locs cells slots LS QQ C hw hS hL hn hc hs ret
  obtain ⟨hx, hb, hr9, hml, hown, hlk, hts, hN, hK, hfr, hlo, hX, hbB, hBs, hnm⟩ := C
  exact va_mmin hx hb (by rw [hml, hn]; exact hL.1.symm) hown (hts _ hk) (hts _ h1) (hts _ h2) (hts _ h3) (by omega) (by rw [z_cat]; omega) (by omega) (by omega) hd k9
theorem zg_mabs {x : Int32} (hd : decode M.2.1 pc = .ok (.invokestatic idx, 3)) (hk : Cond.methodLink M.1.cls idx Lib.Math.abs.name ∈ wsL_law) (h1 : Cond.static Lib.Math.abs.name ∈ wsL_law) (h2 : Cond.initialized "java/lang/Math" ∈ wsL_law) (h3 : Cond.code Lib.Math.abs.name Lib.Math.abs.code 1 (some .int) ∈ wsL_law) (hr : (rest.map fun v => v.category).sum ≤ 8) (k : z_G V M (d + 1) bc bs (pc + 3) ls (.int (if 0 ≤ x then x else 0 - x) :: rest) h Φ) : z_G V M (d + 1) bc bs pc ls (.int x :: rest) h Φ := by
  intro p l e R s m args below meth c H locs cells slots LS QQ C hw hS hL hn hc hs ret
  have k9 := k p l e R s m args below meth c H locs cells slots LS QQ C hw hS hL hn hc hs ret
  obtain ⟨hx, hb, hr9, hml, hown, hlk, hts, hN, hK, hfr, hlo, hX, hbB, hBs, hnm⟩ := C
  exact va_mabs hx hb (by rw [hml, hn]; exact hL.1.symm) hown (hts _ hk) (hts _ h1) (hts _ h2) (hts _ h3) (by omega) (by rw [z_cat]; omega) (by omega) (by omega) hd k9
end ZG3
end
section
/-! ===== the layout after both constructors; the judgement with the pure program beside it ===== -/
abbrev zS : Type := (Nat → Nat → Int32) × Nat × Nat
def z_SH (L : Nat) : List (Nat × Nat) := [(100, L), (8, 12), (100, 110), (1, 14), (100, 9), (100, 9), (100, 9), (100, 14), (100, 14), (100, 4), (102, 4), (100, 5), (100, 5), (100, 5), (100, 5), (100, 4), (100, 4), (1, 14), (100, 9), (100, 9), (100, 9), (100, 14), (100, 14), (100, 4), (102, 4), (100, 5), (100, 5), (100, 5), (100, 5), (100, 4), (100, 4), (3, 9), (2, 5), (100, 9), (0, 3), (103, 10), (2, 5), (100, 9), (2, 5), (100, 9), (2, 5), (100, 9), (2, 5), (100, 9), (2, 5), (100, 9), (2, 5), (100, 9), (2, 5), (100, 9), (2, 5), (100, 9), (2, 5), (100, 9), (2, 5), (100, 9), (103, 2), (4, 12), (100, 4), (100, 4), (100, 4), (100, 4), (100, 4), (100, 4), (100, 9), (100, 4), (6, 2), (100, 9), (100, 9), (5, 5), (100, 18), (100, 18), (6, 2), (100, 9), (100, 9), (7, 6), (100, 6), (100, 6), (100, 6), (100, 81), (6, 2), (100, 9), (100, 9), (2, 5), (100, 9), (2, 5), (100, 9), (9, 34), (100, 110), (100, 74), (100, 74), (100, 13), (100, 130), (100, 26), (101, 2), (100, 6), (100, 6), (100, 6), (100, 4), (100, 9), (100, 9), (100, 9), (100, 512), (100, 20), (101, 20), (100, 162), (100, 4), (100, 4), (100, 81)]
def z_FRt : List ((Nat × Nat) × Nat) := [((1, 0), 2), ((1, 4), 31), ((1, 5), 32), ((1, 6), 34), ((1, 7), 56), ((1, 9), 57), ((1, 10), 69), ((1, 11), 75), ((3, 1), 4), ((3, 2), 5), ((3, 3), 6), ((3, 5), 7), ((3, 6), 8), ((3, 8), 9), ((3, 9), 10), ((3, 10), 15), ((3, 11), 16), ((10, 0), 11), ((10, 1), 12), ((10, 2), 13), ((10, 3), 14), ((17, 1), 18), ((17, 2), 19), ((17, 3), 20), ((17, 5), 21), ((17, 6), 22), ((17, 8), 23), ((17, 9), 24), ((17, 10), 29), ((17, 11), 30), ((24, 0), 25), ((24, 1), 26), ((24, 2), 27), ((24, 3), 28), ((32, 4), 33), ((34, 0), 35), ((35, 0), 36), ((35, 1), 38), ((35, 2), 40), ((35, 3), 42), ((35, 4), 44), ((35, 5), 46), ((35, 6), 48), ((35, 7), 50), ((35, 8), 52), ((35, 9), 54), ((36, 4), 37), ((38, 4), 39), ((40, 4), 41), ((42, 4), 43), ((44, 4), 45), ((46, 4), 47), ((48, 4), 49), ((50, 4), 51), ((52, 4), 53), ((54, 4), 55), ((56, 0), 83), ((56, 1), 85), ((57, 2), 58), ((57, 3), 59), ((57, 4), 60), ((57, 5), 61), ((57, 6), 62), ((57, 7), 63), ((57, 8), 64), ((57, 9), 65), ((57, 11), 66), ((66, 0), 67), ((66, 1), 68), ((69, 2), 70), ((69, 3), 71), ((69, 4), 72), ((72, 0), 73), ((72, 1), 74), ((75, 1), 76), ((75, 2), 77), ((75, 3), 78), ((75, 4), 79), ((75, 5), 80), ((80, 0), 81), ((80, 1), 82), ((83, 4), 84), ((85, 4), 86), ((87, 1), 88), ((87, 9), 89), ((87, 10), 90), ((87, 11), 91), ((87, 12), 92), ((87, 14), 93), ((87, 15), 94), ((87, 16), 95), ((87, 17), 96), ((87, 18), 97), ((87, 20), 98), ((87, 21), 99), ((87, 22), 100), ((87, 24), 101), ((87, 25), 102), ((87, 26), 103), ((87, 27), 104), ((87, 29), 105), ((87, 30), 106), ((87, 31), 107), ((87, 33), 108)]
def z_FR (pl dr : Nat) : Nat → Nat → Option Nat := fun k j => if k = 1 ∧ j = 2 then some pl else if k = 1 ∧ j = 3 then some dr else z_FRt.lookup (k, j)
def z_mk (V : zV) (S : zS) : zHP := (z_SH V.2.2.2.2.1, S.1, z_FR S.2.1 S.2.2)
def z_w (S : zS) (q j : Nat) (x : Int32) : zS := (z_ui S.1 q (upd (S.1 q) j x), S.2)
abbrev z_in (i : Int32) (n : Nat) : Prop := 0 ≤ i.toInt ∧ i.toInt < n
abbrev z_isP (P : Nat) : Prop := P = 3 ∨ P = 17
abbrev z_isQ (Q : Nat) : Prop := Q ∈ [32, 36, 38, 40, 42, 44, 46, 48, 50, 52, 54, 83, 85]
abbrev z_isW (W : Nat) : Prop := W = 66 ∨ W = 72 ∨ W = 80
def z_isA (A n : Nat) : Prop := 0 < A ∧ ∀ L, (z_SH L)[A]? = some (100, n)
theorem zq_1 (L : Nat) : (z_SH L)[1]? = some (8, 12) := rfl
theorem zq_2 (L : Nat) : (z_SH L)[2]? = some (100, 110) := rfl
theorem zq_3 (L : Nat) : (z_SH L)[3]? = some (1, 14) := rfl
theorem zq_4 (L : Nat) : (z_SH L)[4]? = some (100, 9) := rfl
theorem zq_5 (L : Nat) : (z_SH L)[5]? = some (100, 9) := rfl
theorem zq_6 (L : Nat) : (z_SH L)[6]? = some (100, 9) := rfl
theorem zq_7 (L : Nat) : (z_SH L)[7]? = some (100, 14) := rfl
theorem zq_8 (L : Nat) : (z_SH L)[8]? = some (100, 14) := rfl
theorem zq_9 (L : Nat) : (z_SH L)[9]? = some (100, 4) := rfl
theorem zq_10 (L : Nat) : (z_SH L)[10]? = some (102, 4) := rfl
theorem zq_11 (L : Nat) : (z_SH L)[11]? = some (100, 5) := rfl
theorem zq_12 (L : Nat) : (z_SH L)[12]? = some (100, 5) := rfl
theorem zq_13 (L : Nat) : (z_SH L)[13]? = some (100, 5) := rfl
theorem zq_14 (L : Nat) : (z_SH L)[14]? = some (100, 5) := rfl
theorem zq_15 (L : Nat) : (z_SH L)[15]? = some (100, 4) := rfl
theorem zq_16 (L : Nat) : (z_SH L)[16]? = some (100, 4) := rfl
theorem zq_17 (L : Nat) : (z_SH L)[17]? = some (1, 14) := rfl
theorem zq_18 (L : Nat) : (z_SH L)[18]? = some (100, 9) := rfl
theorem zq_19 (L : Nat) : (z_SH L)[19]? = some (100, 9) := rfl
theorem zq_20 (L : Nat) : (z_SH L)[20]? = some (100, 9) := rfl
theorem zq_21 (L : Nat) : (z_SH L)[21]? = some (100, 14) := rfl
theorem zq_22 (L : Nat) : (z_SH L)[22]? = some (100, 14) := rfl
theorem zq_23 (L : Nat) : (z_SH L)[23]? = some (100, 4) := rfl
theorem zq_24 (L : Nat) : (z_SH L)[24]? = some (102, 4) := rfl
theorem zq_25 (L : Nat) : (z_SH L)[25]? = some (100, 5) := rfl
theorem zq_26 (L : Nat) : (z_SH L)[26]? = some (100, 5) := rfl
theorem zq_27 (L : Nat) : (z_SH L)[27]? = some (100, 5) := rfl
theorem zq_28 (L : Nat) : (z_SH L)[28]? = some (100, 5) := rfl
theorem zq_29 (L : Nat) : (z_SH L)[29]? = some (100, 4) := rfl
theorem zq_30 (L : Nat) : (z_SH L)[30]? = some (100, 4) := rfl
theorem zq_31 (L : Nat) : (z_SH L)[31]? = some (3, 9) := rfl
theorem zq_32 (L : Nat) : (z_SH L)[32]? = some (2, 5) := rfl
theorem zq_33 (L : Nat) : (z_SH L)[33]? = some (100, 9) := rfl
theorem zq_34 (L : Nat) : (z_SH L)[34]? = some (0, 3) := rfl
theorem zq_35 (L : Nat) : (z_SH L)[35]? = some (103, 10) := rfl
theorem zq_36 (L : Nat) : (z_SH L)[36]? = some (2, 5) := rfl
theorem zq_37 (L : Nat) : (z_SH L)[37]? = some (100, 9) := rfl
theorem zq_38 (L : Nat) : (z_SH L)[38]? = some (2, 5) := rfl
theorem zq_39 (L : Nat) : (z_SH L)[39]? = some (100, 9) := rfl
theorem zq_40 (L : Nat) : (z_SH L)[40]? = some (2, 5) := rfl
theorem zq_41 (L : Nat) : (z_SH L)[41]? = some (100, 9) := rfl
theorem zq_42 (L : Nat) : (z_SH L)[42]? = some (2, 5) := rfl
theorem zq_43 (L : Nat) : (z_SH L)[43]? = some (100, 9) := rfl
theorem zq_44 (L : Nat) : (z_SH L)[44]? = some (2, 5) := rfl
theorem zq_45 (L : Nat) : (z_SH L)[45]? = some (100, 9) := rfl
theorem zq_46 (L : Nat) : (z_SH L)[46]? = some (2, 5) := rfl
theorem zq_47 (L : Nat) : (z_SH L)[47]? = some (100, 9) := rfl
theorem zq_48 (L : Nat) : (z_SH L)[48]? = some (2, 5) := rfl
theorem zq_49 (L : Nat) : (z_SH L)[49]? = some (100, 9) := rfl
theorem zq_50 (L : Nat) : (z_SH L)[50]? = some (2, 5) := rfl
theorem zq_51 (L : Nat) : (z_SH L)[51]? = some (100, 9) := rfl
theorem zq_52 (L : Nat) : (z_SH L)[52]? = some (2, 5) := rfl
theorem zq_53 (L : Nat) : (z_SH L)[53]? = some (100, 9) := rfl
theorem zq_54 (L : Nat) : (z_SH L)[54]? = some (2, 5) := rfl
theorem zq_55 (L : Nat) : (z_SH L)[55]? = some (100, 9) := rfl
theorem zq_56 (L : Nat) : (z_SH L)[56]? = some (103, 2) := rfl
theorem zq_57 (L : Nat) : (z_SH L)[57]? = some (4, 12) := rfl
theorem zq_58 (L : Nat) : (z_SH L)[58]? = some (100, 4) := rfl
theorem zq_59 (L : Nat) : (z_SH L)[59]? = some (100, 4) := rfl
theorem zq_60 (L : Nat) : (z_SH L)[60]? = some (100, 4) := rfl
theorem zq_61 (L : Nat) : (z_SH L)[61]? = some (100, 4) := rfl
theorem zq_62 (L : Nat) : (z_SH L)[62]? = some (100, 4) := rfl
theorem zq_63 (L : Nat) : (z_SH L)[63]? = some (100, 4) := rfl
theorem zq_64 (L : Nat) : (z_SH L)[64]? = some (100, 9) := rfl
theorem zq_65 (L : Nat) : (z_SH L)[65]? = some (100, 4) := rfl
theorem zq_66 (L : Nat) : (z_SH L)[66]? = some (6, 2) := rfl
theorem zq_67 (L : Nat) : (z_SH L)[67]? = some (100, 9) := rfl
theorem zq_68 (L : Nat) : (z_SH L)[68]? = some (100, 9) := rfl
theorem zq_69 (L : Nat) : (z_SH L)[69]? = some (5, 5) := rfl
theorem zq_70 (L : Nat) : (z_SH L)[70]? = some (100, 18) := rfl
theorem zq_71 (L : Nat) : (z_SH L)[71]? = some (100, 18) := rfl
theorem zq_72 (L : Nat) : (z_SH L)[72]? = some (6, 2) := rfl
theorem zq_73 (L : Nat) : (z_SH L)[73]? = some (100, 9) := rfl
theorem zq_74 (L : Nat) : (z_SH L)[74]? = some (100, 9) := rfl
theorem zq_75 (L : Nat) : (z_SH L)[75]? = some (7, 6) := rfl
theorem zq_76 (L : Nat) : (z_SH L)[76]? = some (100, 6) := rfl
theorem zq_77 (L : Nat) : (z_SH L)[77]? = some (100, 6) := rfl
theorem zq_78 (L : Nat) : (z_SH L)[78]? = some (100, 6) := rfl
theorem zq_79 (L : Nat) : (z_SH L)[79]? = some (100, 81) := rfl
theorem zq_80 (L : Nat) : (z_SH L)[80]? = some (6, 2) := rfl
theorem zq_81 (L : Nat) : (z_SH L)[81]? = some (100, 9) := rfl
theorem zq_82 (L : Nat) : (z_SH L)[82]? = some (100, 9) := rfl
theorem zq_83 (L : Nat) : (z_SH L)[83]? = some (2, 5) := rfl
theorem zq_84 (L : Nat) : (z_SH L)[84]? = some (100, 9) := rfl
theorem zq_85 (L : Nat) : (z_SH L)[85]? = some (2, 5) := rfl
theorem zq_86 (L : Nat) : (z_SH L)[86]? = some (100, 9) := rfl
theorem zq_87 (L : Nat) : (z_SH L)[87]? = some (9, 34) := rfl
theorem zq_88 (L : Nat) : (z_SH L)[88]? = some (100, 110) := rfl
theorem zq_89 (L : Nat) : (z_SH L)[89]? = some (100, 74) := rfl
theorem zq_90 (L : Nat) : (z_SH L)[90]? = some (100, 74) := rfl
theorem zq_91 (L : Nat) : (z_SH L)[91]? = some (100, 13) := rfl
theorem zq_92 (L : Nat) : (z_SH L)[92]? = some (100, 130) := rfl
theorem zq_93 (L : Nat) : (z_SH L)[93]? = some (100, 26) := rfl
theorem zq_94 (L : Nat) : (z_SH L)[94]? = some (101, 2) := rfl
theorem zq_95 (L : Nat) : (z_SH L)[95]? = some (100, 6) := rfl
theorem zq_96 (L : Nat) : (z_SH L)[96]? = some (100, 6) := rfl
theorem zq_97 (L : Nat) : (z_SH L)[97]? = some (100, 6) := rfl
theorem zq_98 (L : Nat) : (z_SH L)[98]? = some (100, 4) := rfl
theorem zq_99 (L : Nat) : (z_SH L)[99]? = some (100, 9) := rfl
theorem zq_100 (L : Nat) : (z_SH L)[100]? = some (100, 9) := rfl
theorem zq_101 (L : Nat) : (z_SH L)[101]? = some (100, 9) := rfl
theorem zq_102 (L : Nat) : (z_SH L)[102]? = some (100, 512) := rfl
theorem zq_103 (L : Nat) : (z_SH L)[103]? = some (100, 20) := rfl
theorem zq_104 (L : Nat) : (z_SH L)[104]? = some (101, 20) := rfl
theorem zq_105 (L : Nat) : (z_SH L)[105]? = some (100, 162) := rfl
theorem zq_106 (L : Nat) : (z_SH L)[106]? = some (100, 4) := rfl
theorem zq_107 (L : Nat) : (z_SH L)[107]? = some (100, 4) := rfl
theorem zq_108 (L : Nat) : (z_SH L)[108]? = some (100, 81) := rfl
theorem zr_1_0 {pl dr : Nat} : z_FR pl dr 1 0 = some 2 := by unfold z_FR; rw [if_neg (by decide), if_neg (by decide)]; rfl
theorem zr_1_4 {pl dr : Nat} : z_FR pl dr 1 4 = some 31 := by unfold z_FR; rw [if_neg (by decide), if_neg (by decide)]; rfl
theorem zr_1_5 {pl dr : Nat} : z_FR pl dr 1 5 = some 32 := by unfold z_FR; rw [if_neg (by decide), if_neg (by decide)]; rfl
theorem zr_1_6 {pl dr : Nat} : z_FR pl dr 1 6 = some 34 := by unfold z_FR; rw [if_neg (by decide), if_neg (by decide)]; rfl
theorem zr_1_7 {pl dr : Nat} : z_FR pl dr 1 7 = some 56 := by unfold z_FR; rw [if_neg (by decide), if_neg (by decide)]; rfl
theorem zr_1_9 {pl dr : Nat} : z_FR pl dr 1 9 = some 57 := by unfold z_FR; rw [if_neg (by decide), if_neg (by decide)]; rfl
theorem zr_1_10 {pl dr : Nat} : z_FR pl dr 1 10 = some 69 := by unfold z_FR; rw [if_neg (by decide), if_neg (by decide)]; rfl
theorem zr_1_11 {pl dr : Nat} : z_FR pl dr 1 11 = some 75 := by unfold z_FR; rw [if_neg (by decide), if_neg (by decide)]; rfl
theorem zr_3_1 {pl dr : Nat} : z_FR pl dr 3 1 = some 4 := by unfold z_FR; rw [if_neg (by decide), if_neg (by decide)]; rfl
theorem zr_3_2 {pl dr : Nat} : z_FR pl dr 3 2 = some 5 := by unfold z_FR; rw [if_neg (by decide), if_neg (by decide)]; rfl
theorem zr_3_3 {pl dr : Nat} : z_FR pl dr 3 3 = some 6 := by unfold z_FR; rw [if_neg (by decide), if_neg (by decide)]; rfl
theorem zr_3_5 {pl dr : Nat} : z_FR pl dr 3 5 = some 7 := by unfold z_FR; rw [if_neg (by decide), if_neg (by decide)]; rfl
theorem zr_3_6 {pl dr : Nat} : z_FR pl dr 3 6 = some 8 := by unfold z_FR; rw [if_neg (by decide), if_neg (by decide)]; rfl
theorem zr_3_8 {pl dr : Nat} : z_FR pl dr 3 8 = some 9 := by unfold z_FR; rw [if_neg (by decide), if_neg (by decide)]; rfl
theorem zr_3_9 {pl dr : Nat} : z_FR pl dr 3 9 = some 10 := by unfold z_FR; rw [if_neg (by decide), if_neg (by decide)]; rfl
theorem zr_3_10 {pl dr : Nat} : z_FR pl dr 3 10 = some 15 := by unfold z_FR; rw [if_neg (by decide), if_neg (by decide)]; rfl
theorem zr_3_11 {pl dr : Nat} : z_FR pl dr 3 11 = some 16 := by unfold z_FR; rw [if_neg (by decide), if_neg (by decide)]; rfl
theorem zr_17_1 {pl dr : Nat} : z_FR pl dr 17 1 = some 18 := by unfold z_FR; rw [if_neg (by decide), if_neg (by decide)]; rfl
theorem zr_17_2 {pl dr : Nat} : z_FR pl dr 17 2 = some 19 := by unfold z_FR; rw [if_neg (by decide), if_neg (by decide)]; rfl
theorem zr_17_3 {pl dr : Nat} : z_FR pl dr 17 3 = some 20 := by unfold z_FR; rw [if_neg (by decide), if_neg (by decide)]; rfl
theorem zr_17_5 {pl dr : Nat} : z_FR pl dr 17 5 = some 21 := by unfold z_FR; rw [if_neg (by decide), if_neg (by decide)]; rfl
theorem zr_17_6 {pl dr : Nat} : z_FR pl dr 17 6 = some 22 := by unfold z_FR; rw [if_neg (by decide), if_neg (by decide)]; rfl
theorem zr_17_8 {pl dr : Nat} : z_FR pl dr 17 8 = some 23 := by unfold z_FR; rw [if_neg (by decide), if_neg (by decide)]; rfl
theorem zr_17_9 {pl dr : Nat} : z_FR pl dr 17 9 = some 24 := by unfold z_FR; rw [if_neg (by decide), if_neg (by decide)]; rfl
theorem zr_17_10 {pl dr : Nat} : z_FR pl dr 17 10 = some 29 := by unfold z_FR; rw [if_neg (by decide), if_neg (by decide)]; rfl
theorem zr_17_11 {pl dr : Nat} : z_FR pl dr 17 11 = some 30 := by unfold z_FR; rw [if_neg (by decide), if_neg (by decide)]; rfl
theorem zr_32_4 {pl dr : Nat} : z_FR pl dr 32 4 = some 33 := by unfold z_FR; rw [if_neg (by decide), if_neg (by decide)]; rfl
theorem zr_34_0 {pl dr : Nat} : z_FR pl dr 34 0 = some 35 := by unfold z_FR; rw [if_neg (by decide), if_neg (by decide)]; rfl
theorem zr_36_4 {pl dr : Nat} : z_FR pl dr 36 4 = some 37 := by unfold z_FR; rw [if_neg (by decide), if_neg (by decide)]; rfl
theorem zr_38_4 {pl dr : Nat} : z_FR pl dr 38 4 = some 39 := by unfold z_FR; rw [if_neg (by decide), if_neg (by decide)]; rfl
theorem zr_40_4 {pl dr : Nat} : z_FR pl dr 40 4 = some 41 := by unfold z_FR; rw [if_neg (by decide), if_neg (by decide)]; rfl
theorem zr_42_4 {pl dr : Nat} : z_FR pl dr 42 4 = some 43 := by unfold z_FR; rw [if_neg (by decide), if_neg (by decide)]; rfl
theorem zr_44_4 {pl dr : Nat} : z_FR pl dr 44 4 = some 45 := by unfold z_FR; rw [if_neg (by decide), if_neg (by decide)]; rfl
theorem zr_46_4 {pl dr : Nat} : z_FR pl dr 46 4 = some 47 := by unfold z_FR; rw [if_neg (by decide), if_neg (by decide)]; rfl
theorem zr_48_4 {pl dr : Nat} : z_FR pl dr 48 4 = some 49 := by unfold z_FR; rw [if_neg (by decide), if_neg (by decide)]; rfl
theorem zr_50_4 {pl dr : Nat} : z_FR pl dr 50 4 = some 51 := by unfold z_FR; rw [if_neg (by decide), if_neg (by decide)]; rfl
theorem zr_52_4 {pl dr : Nat} : z_FR pl dr 52 4 = some 53 := by unfold z_FR; rw [if_neg (by decide), if_neg (by decide)]; rfl
theorem zr_54_4 {pl dr : Nat} : z_FR pl dr 54 4 = some 55 := by unfold z_FR; rw [if_neg (by decide), if_neg (by decide)]; rfl
theorem zr_57_2 {pl dr : Nat} : z_FR pl dr 57 2 = some 58 := by unfold z_FR; rw [if_neg (by decide), if_neg (by decide)]; rfl
theorem zr_57_3 {pl dr : Nat} : z_FR pl dr 57 3 = some 59 := by unfold z_FR; rw [if_neg (by decide), if_neg (by decide)]; rfl
theorem zr_57_4 {pl dr : Nat} : z_FR pl dr 57 4 = some 60 := by unfold z_FR; rw [if_neg (by decide), if_neg (by decide)]; rfl
theorem zr_57_5 {pl dr : Nat} : z_FR pl dr 57 5 = some 61 := by unfold z_FR; rw [if_neg (by decide), if_neg (by decide)]; rfl
theorem zr_57_6 {pl dr : Nat} : z_FR pl dr 57 6 = some 62 := by unfold z_FR; rw [if_neg (by decide), if_neg (by decide)]; rfl
theorem zr_57_7 {pl dr : Nat} : z_FR pl dr 57 7 = some 63 := by unfold z_FR; rw [if_neg (by decide), if_neg (by decide)]; rfl
theorem zr_57_8 {pl dr : Nat} : z_FR pl dr 57 8 = some 64 := by unfold z_FR; rw [if_neg (by decide), if_neg (by decide)]; rfl
theorem zr_57_9 {pl dr : Nat} : z_FR pl dr 57 9 = some 65 := by unfold z_FR; rw [if_neg (by decide), if_neg (by decide)]; rfl
theorem zr_57_11 {pl dr : Nat} : z_FR pl dr 57 11 = some 66 := by unfold z_FR; rw [if_neg (by decide), if_neg (by decide)]; rfl
theorem zr_66_0 {pl dr : Nat} : z_FR pl dr 66 0 = some 67 := by unfold z_FR; rw [if_neg (by decide), if_neg (by decide)]; rfl
theorem zr_66_1 {pl dr : Nat} : z_FR pl dr 66 1 = some 68 := by unfold z_FR; rw [if_neg (by decide), if_neg (by decide)]; rfl
theorem zr_69_2 {pl dr : Nat} : z_FR pl dr 69 2 = some 70 := by unfold z_FR; rw [if_neg (by decide), if_neg (by decide)]; rfl
theorem zr_69_3 {pl dr : Nat} : z_FR pl dr 69 3 = some 71 := by unfold z_FR; rw [if_neg (by decide), if_neg (by decide)]; rfl
theorem zr_69_4 {pl dr : Nat} : z_FR pl dr 69 4 = some 72 := by unfold z_FR; rw [if_neg (by decide), if_neg (by decide)]; rfl
theorem zr_72_0 {pl dr : Nat} : z_FR pl dr 72 0 = some 73 := by unfold z_FR; rw [if_neg (by decide), if_neg (by decide)]; rfl
theorem zr_72_1 {pl dr : Nat} : z_FR pl dr 72 1 = some 74 := by unfold z_FR; rw [if_neg (by decide), if_neg (by decide)]; rfl
theorem zr_75_1 {pl dr : Nat} : z_FR pl dr 75 1 = some 76 := by unfold z_FR; rw [if_neg (by decide), if_neg (by decide)]; rfl
theorem zr_75_2 {pl dr : Nat} : z_FR pl dr 75 2 = some 77 := by unfold z_FR; rw [if_neg (by decide), if_neg (by decide)]; rfl
theorem zr_75_3 {pl dr : Nat} : z_FR pl dr 75 3 = some 78 := by unfold z_FR; rw [if_neg (by decide), if_neg (by decide)]; rfl
theorem zr_75_4 {pl dr : Nat} : z_FR pl dr 75 4 = some 79 := by unfold z_FR; rw [if_neg (by decide), if_neg (by decide)]; rfl
theorem zr_75_5 {pl dr : Nat} : z_FR pl dr 75 5 = some 80 := by unfold z_FR; rw [if_neg (by decide), if_neg (by decide)]; rfl
theorem zr_80_0 {pl dr : Nat} : z_FR pl dr 80 0 = some 81 := by unfold z_FR; rw [if_neg (by decide), if_neg (by decide)]; rfl
theorem zr_80_1 {pl dr : Nat} : z_FR pl dr 80 1 = some 82 := by unfold z_FR; rw [if_neg (by decide), if_neg (by decide)]; rfl
theorem zr_83_4 {pl dr : Nat} : z_FR pl dr 83 4 = some 84 := by unfold z_FR; rw [if_neg (by decide), if_neg (by decide)]; rfl
theorem zr_85_4 {pl dr : Nat} : z_FR pl dr 85 4 = some 86 := by unfold z_FR; rw [if_neg (by decide), if_neg (by decide)]; rfl
theorem zr_87_1 {pl dr : Nat} : z_FR pl dr 87 1 = some 88 := by unfold z_FR; rw [if_neg (by decide), if_neg (by decide)]; rfl
theorem zr_87_9 {pl dr : Nat} : z_FR pl dr 87 9 = some 89 := by unfold z_FR; rw [if_neg (by decide), if_neg (by decide)]; rfl
theorem zr_87_10 {pl dr : Nat} : z_FR pl dr 87 10 = some 90 := by unfold z_FR; rw [if_neg (by decide), if_neg (by decide)]; rfl
theorem zr_87_11 {pl dr : Nat} : z_FR pl dr 87 11 = some 91 := by unfold z_FR; rw [if_neg (by decide), if_neg (by decide)]; rfl
theorem zr_87_12 {pl dr : Nat} : z_FR pl dr 87 12 = some 92 := by unfold z_FR; rw [if_neg (by decide), if_neg (by decide)]; rfl
theorem zr_87_14 {pl dr : Nat} : z_FR pl dr 87 14 = some 93 := by unfold z_FR; rw [if_neg (by decide), if_neg (by decide)]; rfl
theorem zr_87_15 {pl dr : Nat} : z_FR pl dr 87 15 = some 94 := by unfold z_FR; rw [if_neg (by decide), if_neg (by decide)]; rfl
theorem zr_87_16 {pl dr : Nat} : z_FR pl dr 87 16 = some 95 := by unfold z_FR; rw [if_neg (by decide), if_neg (by decide)]; rfl
theorem zr_87_17 {pl dr : Nat} : z_FR pl dr 87 17 = some 96 := by unfold z_FR; rw [if_neg (by decide), if_neg (by decide)]; rfl
theorem zr_87_18 {pl dr : Nat} : z_FR pl dr 87 18 = some 97 := by unfold z_FR; rw [if_neg (by decide), if_neg (by decide)]; rfl
theorem zr_87_20 {pl dr : Nat} : z_FR pl dr 87 20 = some 98 := by unfold z_FR; rw [if_neg (by decide), if_neg (by decide)]; rfl
theorem zr_87_21 {pl dr : Nat} : z_FR pl dr 87 21 = some 99 := by unfold z_FR; rw [if_neg (by decide), if_neg (by decide)]; rfl
theorem zr_87_22 {pl dr : Nat} : z_FR pl dr 87 22 = some 100 := by unfold z_FR; rw [if_neg (by decide), if_neg (by decide)]; rfl
theorem zr_87_24 {pl dr : Nat} : z_FR pl dr 87 24 = some 101 := by unfold z_FR; rw [if_neg (by decide), if_neg (by decide)]; rfl
theorem zr_87_25 {pl dr : Nat} : z_FR pl dr 87 25 = some 102 := by unfold z_FR; rw [if_neg (by decide), if_neg (by decide)]; rfl
theorem zr_87_26 {pl dr : Nat} : z_FR pl dr 87 26 = some 103 := by unfold z_FR; rw [if_neg (by decide), if_neg (by decide)]; rfl
theorem zr_87_27 {pl dr : Nat} : z_FR pl dr 87 27 = some 104 := by unfold z_FR; rw [if_neg (by decide), if_neg (by decide)]; rfl
theorem zr_87_29 {pl dr : Nat} : z_FR pl dr 87 29 = some 105 := by unfold z_FR; rw [if_neg (by decide), if_neg (by decide)]; rfl
theorem zr_87_30 {pl dr : Nat} : z_FR pl dr 87 30 = some 106 := by unfold z_FR; rw [if_neg (by decide), if_neg (by decide)]; rfl
theorem zr_87_31 {pl dr : Nat} : z_FR pl dr 87 31 = some 107 := by unfold z_FR; rw [if_neg (by decide), if_neg (by decide)]; rfl
theorem zr_87_33 {pl dr : Nat} : z_FR pl dr 87 33 = some 108 := by unfold z_FR; rw [if_neg (by decide), if_neg (by decide)]; rfl
theorem zr_pl {pl dr : Nat} : z_FR pl dr 1 2 = some pl := by unfold z_FR; rw [if_pos ⟨rfl, rfl⟩]
theorem zr_dr {pl dr : Nat} : z_FR pl dr 1 3 = some dr := by unfold z_FR; rw [if_neg (by decide), if_pos ⟨rfl, rfl⟩]
theorem zp_o {P : Nat} (h : z_isP P) (L : Nat) : (z_SH L)[P]? = some (1, 14) := by rcases h with rfl | rfl <;> rfl
theorem zp_1 {P : Nat} (h : z_isP P) (L : Nat) : (z_SH L)[P + 1]? = some (100, 9) := by rcases h with rfl | rfl <;> rfl
theorem zp_p1 {P : Nat} (h : z_isP P) : 0 < P + 1 := Nat.lt_of_lt_of_le (by decide) (Nat.le_add_left _ _)
theorem zp_2 {P : Nat} (h : z_isP P) (L : Nat) : (z_SH L)[P + 2]? = some (100, 9) := by rcases h with rfl | rfl <;> rfl
theorem zp_p2 {P : Nat} (h : z_isP P) : 0 < P + 2 := Nat.lt_of_lt_of_le (by decide) (Nat.le_add_left _ _)
theorem zp_3 {P : Nat} (h : z_isP P) (L : Nat) : (z_SH L)[P + 3]? = some (100, 9) := by rcases h with rfl | rfl <;> rfl
theorem zp_p3 {P : Nat} (h : z_isP P) : 0 < P + 3 := Nat.lt_of_lt_of_le (by decide) (Nat.le_add_left _ _)
theorem zp_4 {P : Nat} (h : z_isP P) (L : Nat) : (z_SH L)[P + 4]? = some (100, 14) := by rcases h with rfl | rfl <;> rfl
theorem zp_p4 {P : Nat} (h : z_isP P) : 0 < P + 4 := Nat.lt_of_lt_of_le (by decide) (Nat.le_add_left _ _)
theorem zp_5 {P : Nat} (h : z_isP P) (L : Nat) : (z_SH L)[P + 5]? = some (100, 14) := by rcases h with rfl | rfl <;> rfl
theorem zp_p5 {P : Nat} (h : z_isP P) : 0 < P + 5 := Nat.lt_of_lt_of_le (by decide) (Nat.le_add_left _ _)
theorem zp_6 {P : Nat} (h : z_isP P) (L : Nat) : (z_SH L)[P + 6]? = some (100, 4) := by rcases h with rfl | rfl <;> rfl
theorem zp_p6 {P : Nat} (h : z_isP P) : 0 < P + 6 := Nat.lt_of_lt_of_le (by decide) (Nat.le_add_left _ _)
theorem zp_7 {P : Nat} (h : z_isP P) (L : Nat) : (z_SH L)[P + 7]? = some (102, 4) := by rcases h with rfl | rfl <;> rfl
theorem zp_p7 {P : Nat} (h : z_isP P) : 0 < P + 7 := Nat.lt_of_lt_of_le (by decide) (Nat.le_add_left _ _)
theorem zp_8 {P : Nat} (h : z_isP P) (L : Nat) : (z_SH L)[P + 8]? = some (100, 5) := by rcases h with rfl | rfl <;> rfl
theorem zp_p8 {P : Nat} (h : z_isP P) : 0 < P + 8 := Nat.lt_of_lt_of_le (by decide) (Nat.le_add_left _ _)
theorem zp_9 {P : Nat} (h : z_isP P) (L : Nat) : (z_SH L)[P + 9]? = some (100, 5) := by rcases h with rfl | rfl <;> rfl
theorem zp_p9 {P : Nat} (h : z_isP P) : 0 < P + 9 := Nat.lt_of_lt_of_le (by decide) (Nat.le_add_left _ _)
theorem zp_10 {P : Nat} (h : z_isP P) (L : Nat) : (z_SH L)[P + 10]? = some (100, 5) := by rcases h with rfl | rfl <;> rfl
theorem zp_p10 {P : Nat} (h : z_isP P) : 0 < P + 10 := Nat.lt_of_lt_of_le (by decide) (Nat.le_add_left _ _)
theorem zp_11 {P : Nat} (h : z_isP P) (L : Nat) : (z_SH L)[P + 11]? = some (100, 5) := by rcases h with rfl | rfl <;> rfl
theorem zp_p11 {P : Nat} (h : z_isP P) : 0 < P + 11 := Nat.lt_of_lt_of_le (by decide) (Nat.le_add_left _ _)
theorem zp_12 {P : Nat} (h : z_isP P) (L : Nat) : (z_SH L)[P + 12]? = some (100, 4) := by rcases h with rfl | rfl <;> rfl
theorem zp_p12 {P : Nat} (h : z_isP P) : 0 < P + 12 := Nat.lt_of_lt_of_le (by decide) (Nat.le_add_left _ _)
theorem zp_13 {P : Nat} (h : z_isP P) (L : Nat) : (z_SH L)[P + 13]? = some (100, 4) := by rcases h with rfl | rfl <;> rfl
theorem zp_p13 {P : Nat} (h : z_isP P) : 0 < P + 13 := Nat.lt_of_lt_of_le (by decide) (Nat.le_add_left _ _)
theorem zp_r1 {P pl dr : Nat} (h : z_isP P) : z_FR pl dr P 1 = some (P + 1) := by
  rcases h with rfl | rfl
  · exact zr_3_1
  · exact zr_17_1
theorem zp_r2 {P pl dr : Nat} (h : z_isP P) : z_FR pl dr P 2 = some (P + 2) := by
  rcases h with rfl | rfl
  · exact zr_3_2
  · exact zr_17_2
theorem zp_r3 {P pl dr : Nat} (h : z_isP P) : z_FR pl dr P 3 = some (P + 3) := by
  rcases h with rfl | rfl
  · exact zr_3_3
  · exact zr_17_3
theorem zp_r5 {P pl dr : Nat} (h : z_isP P) : z_FR pl dr P 5 = some (P + 4) := by
  rcases h with rfl | rfl
  · exact zr_3_5
  · exact zr_17_5
theorem zp_r6 {P pl dr : Nat} (h : z_isP P) : z_FR pl dr P 6 = some (P + 5) := by
  rcases h with rfl | rfl
  · exact zr_3_6
  · exact zr_17_6
theorem zp_r8 {P pl dr : Nat} (h : z_isP P) : z_FR pl dr P 8 = some (P + 6) := by
  rcases h with rfl | rfl
  · exact zr_3_8
  · exact zr_17_8
theorem zp_r9 {P pl dr : Nat} (h : z_isP P) : z_FR pl dr P 9 = some (P + 7) := by
  rcases h with rfl | rfl
  · exact zr_3_9
  · exact zr_17_9
theorem zp_r10 {P pl dr : Nat} (h : z_isP P) : z_FR pl dr P 10 = some (P + 12) := by
  rcases h with rfl | rfl
  · exact zr_3_10
  · exact zr_17_10
theorem zp_r11 {P pl dr : Nat} (h : z_isP P) : z_FR pl dr P 11 = some (P + 13) := by
  rcases h with rfl | rfl
  · exact zr_3_11
  · exact zr_17_11
theorem zp_ring {P pl dr j : Nat} (h : z_isP P) (hj : j < 4) : z_FR pl dr (P + 7) j = some (P + 8 + j) ∧ ∀ L, (z_SH L)[P + 8 + j]? = some (100, 5) := by
  rcases h with rfl | rfl <;> (rcases (show j = 0 ∨ j = 1 ∨ j = 2 ∨ j = 3 by omega) with rfl | rfl | rfl | rfl) <;> exact ⟨by unfold z_FR; rw [if_neg (by decide), if_neg (by decide)]; rfl, fun _ => rfl⟩
theorem zl_o {Q : Nat} (h : z_isQ Q) (L : Nat) : (z_SH L)[Q]? = some (2, 5) ∧ (z_SH L)[Q + 1]? = some (100, 9) := by
  simp only [List.mem_cons, List.not_mem_nil, or_false] at h
  rcases h with rfl | rfl | rfl | rfl | rfl | rfl | rfl | rfl | rfl | rfl | rfl | rfl | rfl <;> exact ⟨rfl, rfl⟩
theorem zl_r {Q pl dr : Nat} (h : z_isQ Q) : z_FR pl dr Q 4 = some (Q + 1) := by
  simp only [List.mem_cons, List.not_mem_nil, or_false] at h
  rcases h with rfl | rfl | rfl | rfl | rfl | rfl | rfl | rfl | rfl | rfl | rfl | rfl | rfl <;> (unfold z_FR; rw [if_neg (by decide), if_neg (by decide)]; rfl)
theorem zl_rows {pl dr j : Nat} (hj : j < 10) : z_FR pl dr 35 j = some (36 + 2 * j) ∧ z_isQ (36 + 2 * j) := by
  rcases (show j = 0 ∨ j = 1 ∨ j = 2 ∨ j = 3 ∨ j = 4 ∨ j = 5 ∨ j = 6 ∨ j = 7 ∨ j = 8 ∨ j = 9 by omega) with rfl | rfl | rfl | rfl | rfl | rfl | rfl | rfl | rfl | rfl <;> exact ⟨by unfold z_FR; rw [if_neg (by decide), if_neg (by decide)]; rfl, by decide⟩
theorem zl_imgs {pl dr j : Nat} (hj : j < 2) : z_FR pl dr 56 j = some (83 + 2 * j) ∧ z_isQ (83 + 2 * j) := by
  rcases (show j = 0 ∨ j = 1 by omega) with rfl | rfl <;> exact ⟨by unfold z_FR; rw [if_neg (by decide), if_neg (by decide)]; rfl, by decide⟩
theorem zw_o {W : Nat} (h : z_isW W) (L : Nat) : (z_SH L)[W]? = some (6, 2) := by rcases h with rfl | rfl | rfl <;> rfl
theorem zw_1 {W : Nat} (h : z_isW W) (L : Nat) : (z_SH L)[W + 1]? = some (100, 9) := by rcases h with rfl | rfl | rfl <;> rfl
theorem zw_p1 {W : Nat} (h : z_isW W) : 0 < W + 1 := Nat.lt_of_lt_of_le (by decide) (Nat.le_add_left _ _)
theorem zw_r0 {W pl dr : Nat} (h : z_isW W) : z_FR pl dr W 0 = some (W + 1) := by rcases h with rfl | rfl | rfl <;> (unfold z_FR; rw [if_neg (by decide), if_neg (by decide)]; rfl)
theorem zw_2 {W : Nat} (h : z_isW W) (L : Nat) : (z_SH L)[W + 2]? = some (100, 9) := by rcases h with rfl | rfl | rfl <;> rfl
theorem zw_p2 {W : Nat} (h : z_isW W) : 0 < W + 2 := Nat.lt_of_lt_of_le (by decide) (Nat.le_add_left _ _)
theorem zw_r1 {W pl dr : Nat} (h : z_isW W) : z_FR pl dr W 1 = some (W + 2) := by rcases h with rfl | rfl | rfl <;> (unfold z_FR; rw [if_neg (by decide), if_neg (by decide)]; rfl)
theorem z_in_vp {i : Int32} {n : Nat} (h : z_in i n) : vp_in i n := vp_in_iff.mpr h
theorem z_in_lt {i : Int32} {n : Nat} (h : z_in i n) : i.toNatClampNeg < n := by
  have h1 := h.1
  have h2 := h.2
  show i.toInt.toNat < n
  omega
section ZS
variable {V : zV} {M M' : zM} {d bc bs pc idx : Nat} {ls st rest : List Value} {S : zS} {Φ : Option Value → zHP → Prop}
theorem zs_getI {ci j n q : Nat} {fin : Bool} (hd : decode M.2.1 pc = .ok (.getfield idx, 3)) (hf : z_F M.1.cls idx ci j fin) (hty : z_tyR (z_ty ci j) = false) (hsh : (z_SH V.2.2.2.2.1)[q]? = some (ci, n)) (hci : ci < 100) (hj : j < n)
    (k : z_G V M d bc bs (pc + 3) ls (.int (S.1 q j) :: st) (z_mk V S) Φ) : z_G V M d bc bs pc ls (.ref q :: st) (z_mk V S) Φ := zg_getI hd hf hty hsh hci hj k
theorem zs_getR {ci j n q r : Nat} {fin : Bool} (hd : decode M.2.1 pc = .ok (.getfield idx, 3)) (hf : z_F M.1.cls idx ci j fin) (hty : z_tyR (z_ty ci j) = true) (hsh : (z_SH V.2.2.2.2.1)[q]? = some (ci, n)) (hci : ci < 100) (hj : j < n) (hr : z_FR S.2.1 S.2.2 q j = some r)
    (k : z_G V M d bc bs (pc + 3) ls (.ref r :: st) (z_mk V S) Φ) : z_G V M d bc bs pc ls (.ref q :: st) (z_mk V S) Φ := zg_getR hd hf hty hsh hci hj hr k
theorem zs_putI {ci j n q : Nat} {x : Int32} (hd : decode M.2.1 pc = .ok (.putfield idx, 3)) (hf : z_F M.1.cls idx ci j false) (hty : z_ty ci j = .int) (hsh : (z_SH V.2.2.2.2.1)[q]? = some (ci, n)) (hci : ci < 100) (hj : j < n)
    (k : z_G V M d bc bs (pc + 3) ls st (z_mk V (z_w S q j x)) Φ) : z_G V M d bc bs pc ls (.int x :: .ref q :: st) (z_mk V S) Φ := zg_putI hd hf hty hsh hci hj k
theorem zs_putZ {ci j n q : Nat} {x : Int32} (hd : decode M.2.1 pc = .ok (.putfield idx, 3)) (hf : z_F M.1.cls idx ci j false) (hty : z_ty ci j = .boolean) (hx : x = 0 ∨ x = 1) (hsh : (z_SH V.2.2.2.2.1)[q]? = some (ci, n)) (hci : ci < 100) (hj : j < n)
    (k : z_G V M d bc bs (pc + 3) ls st (z_mk V (z_w S q j x)) Φ) : z_G V M d bc bs pc ls (.int x :: .ref q :: st) (z_mk V S) Φ := zg_putZ hd hf hty hx hsh hci hj k
theorem z_FR_pl (pl dr r : Nat) : z_ur (z_FR pl dr) 1 (fun i => if i = 2 then some r else z_FR pl dr 1 i) = z_FR r dr := by
  funext k j
  unfold z_ur
  by_cases hk : k = 1
  · subst hk
    rw [if_pos rfl]
    show (if j = 2 then some r else z_FR pl dr 1 j) = z_FR r dr 1 j
    unfold z_FR
    by_cases hj : j = 2
    · subst hj; simp
    · simp [hj]
  · rw [if_neg hk]
    unfold z_FR
    simp [hk]
theorem z_FR_dr (pl dr r : Nat) : z_ur (z_FR pl dr) 1 (fun i => if i = 3 then some r else z_FR pl dr 1 i) = z_FR pl r := by
  funext k j
  unfold z_ur
  by_cases hk : k = 1
  · subst hk
    rw [if_pos rfl]
    show (if j = 3 then some r else z_FR pl dr 1 j) = z_FR pl r 1 j
    unfold z_FR
    by_cases hj : j = 3
    · subst hj; simp
    · simp [hj]
  · rw [if_neg hk]
    unfold z_FR
    simp [hk]
theorem zs_putPl {r : Nat} (hd : decode M.2.1 pc = .ok (.putfield idx, 3)) (hf : z_F M.1.cls idx 8 2 false)
    (k : z_G V M d bc bs (pc + 3) ls st (z_mk V (S.1, r, S.2.2)) Φ) : z_G V M d bc bs pc ls (.ref r :: .ref 1 :: st) (z_mk V S) Φ := by
  refine zg_putR hd hf (Or.inl rfl) rfl (zq_1 _) (by decide) (by decide) ?_
  show z_G V M d bc bs (pc + 3) ls st (z_SH V.2.2.2.2.1, S.1, z_ur (z_FR S.2.1 S.2.2) 1 (fun i => if i = 2 then some r else z_FR S.2.1 S.2.2 1 i)) Φ
  rw [z_FR_pl]
  exact k
theorem zs_putDr {r : Nat} (hd : decode M.2.1 pc = .ok (.putfield idx, 3)) (hf : z_F M.1.cls idx 8 3 false)
    (k : z_G V M d bc bs (pc + 3) ls st (z_mk V (S.1, S.2.1, r)) Φ) : z_G V M d bc bs pc ls (.ref r :: .ref 1 :: st) (z_mk V S) Φ := by
  refine zg_putR hd hf (Or.inl rfl) rfl (zq_1 _) (by decide) (by decide) ?_
  show z_G V M d bc bs (pc + 3) ls st (z_SH V.2.2.2.2.1, S.1, z_ur (z_FR S.2.1 S.2.2) 1 (fun i => if i = 3 then some r else z_FR S.2.1 S.2.2 1 i)) Φ
  rw [z_FR_dr]
  exact k
theorem zs_iald {q n j : Nat} {i : Int32} (hd : decode M.2.1 pc = .ok (.iaload, 1)) (hq : 0 < q) (hsh : (z_SH V.2.2.2.2.1)[q]? = some (100, n)) (hin : z_in i n) (hj : i.toNatClampNeg = j) (k : z_G V M d bc bs (pc + 1) ls (.int (S.1 q j) :: st) (z_mk V S) Φ) : z_G V M d bc bs pc ls (.int i :: .ref q :: st) (z_mk V S) Φ := by
  subst hj
  exact zg_iald hd hq hsh (z_in_vp hin) k
theorem zs_zald {q n j : Nat} {i : Int32} (hd : decode M.2.1 pc = .ok (.baload, 1)) (hq : 0 < q) (hsh : (z_SH V.2.2.2.2.1)[q]? = some (101, n)) (hin : z_in i n) (hj : i.toNatClampNeg = j) (k : z_G V M d bc bs (pc + 1) ls (.int (S.1 q j) :: st) (z_mk V S) Φ) : z_G V M d bc bs pc ls (.int i :: .ref q :: st) (z_mk V S) Φ := by
  subst hj
  exact zg_zald hd hq hsh (z_in_vp hin) k
theorem zs_sld {j : Nat} {i : Int32} (hd : decode M.2.1 pc = .ok (.iaload, 1)) (hin : z_in i V.2.2.2.2.1) (hj : i.toNatClampNeg = j) (k : z_G V M d bc bs (pc + 1) ls (.int (V.2.2.2.2.2 j) :: st) (z_mk V S) Φ) : z_G V M d bc bs pc ls (.int i :: .ref 0 :: st) (z_mk V S) Φ := by
  subst hj
  exact zg_sld hd (z_in_vp hin) k
theorem zs_iast {q n j : Nat} {i x : Int32} (hd : decode M.2.1 pc = .ok (.iastore, 1)) (hq : 0 < q) (hsh : (z_SH V.2.2.2.2.1)[q]? = some (100, n)) (hin : z_in i n) (hj : i.toNatClampNeg = j) (k : z_G V M d bc bs (pc + 1) ls st (z_mk V (z_w S q j x)) Φ) : z_G V M d bc bs pc ls (.int x :: .int i :: .ref q :: st) (z_mk V S) Φ := by
  subst hj
  exact zg_iast hd hq hsh (z_in_vp hin) k
theorem zs_zast {q n j : Nat} {i x : Int32} (hd : decode M.2.1 pc = .ok (.bastore, 1)) (hx : x = 0 ∨ x = 1) (hq : 0 < q) (hsh : (z_SH V.2.2.2.2.1)[q]? = some (101, n)) (hin : z_in i n) (hj : i.toNatClampNeg = j) (k : z_G V M d bc bs (pc + 1) ls st (z_mk V (z_w S q j x)) Φ) : z_G V M d bc bs pc ls (.int x :: .int i :: .ref q :: st) (z_mk V S) Φ := by
  subst hj
  exact zg_zast hd hx hq hsh (z_in_vp hin) k
theorem zs_alen {q n : Nat} (v : Int32) (hd : decode M.2.1 pc = .ok (.arraylength, 1)) (hq : 0 < q) (hsh : (z_SH V.2.2.2.2.1)[q]? = some (100, n)) (hv : Int32.ofNat n = v) (k : z_G V M d bc bs (pc + 1) ls (.int v :: st) (z_mk V S) Φ) : z_G V M d bc bs pc ls (.ref q :: st) (z_mk V S) Φ := zg_alen v hd hq hsh hv k
theorem zs_ring {P : Nat} {i : Int32} (hd : decode M.2.1 pc = .ok (.aaload, 1)) (hP : z_isP P) (hin : z_in i 4) (k : z_G V M d bc bs (pc + 1) ls (.ref (P + 8 + i.toNatClampNeg) :: st) (z_mk V S) Φ) : z_G V M d bc bs pc ls (.int i :: .ref (P + 7) :: st) (z_mk V S) Φ :=
  zg_aald hd (Or.inl rfl) (zp_7 hP _) (z_in_vp hin) (zp_ring (pl := S.2.1) (dr := S.2.2) hP (z_in_lt hin)).1 k
theorem zs_rows {i : Int32} (hd : decode M.2.1 pc = .ok (.aaload, 1)) (hin : z_in i 10) (k : z_G V M d bc bs (pc + 1) ls (.ref (36 + 2 * i.toNatClampNeg) :: st) (z_mk V S) Φ) : z_G V M d bc bs pc ls (.int i :: .ref 35 :: st) (z_mk V S) Φ :=
  zg_aald hd (Or.inr rfl) (zq_35 _) (z_in_vp hin) (zl_rows (pl := S.2.1) (dr := S.2.2) (z_in_lt hin)).1 k
theorem zs_imgs {i : Int32} (hd : decode M.2.1 pc = .ok (.aaload, 1)) (hin : z_in i 2) (k : z_G V M d bc bs (pc + 1) ls (.ref (83 + 2 * i.toNatClampNeg) :: st) (z_mk V S) Φ) : z_G V M d bc bs pc ls (.int i :: .ref 56 :: st) (z_mk V S) Φ :=
  zg_aald hd (Or.inr rfl) (zq_56 _) (z_in_vp hin) (zl_imgs (pl := S.2.1) (dr := S.2.2) (z_in_lt hin)).1 k
end ZS
theorem z_nf {a d R : Nat} (hr : a ≤ 8) (hlo : 100 * (d + 1) ≤ R) : 2 * 0 + a + (nativeFrameWords "java/lang/System" "arraycopy" 5 + 11) ≤ R := by
  have : nativeFrameWords "java/lang/System" "arraycopy" 5 ≤ 7 := by decide
  omega
/-- arraycopy of ints -/
theorem zg_copy {V : zV} {M : zM} {d bc bs pc idx : Nat} {ls rest : List Value} {h : zHP} {Φ : Option Value → zHP → Prop} {a b n0 n1 : Nat} {sp dp n : Int32} (hd : decode M.2.1 pc = .ok (.invokestatic idx, 3)) (hk : Cond.methodLink M.1.cls idx arraycopyName ∈ wsL_law) (w1 : Cond.native arraycopyName ∈ wsL_law) (w2 : Cond.static arraycopyName ∈ wsL_law) (w3 : Cond.initialized "java/lang/System" ∈ wsL_law)
    (hq0 : 0 < a) (hq1 : 0 < b) (hs0 : h.1[a]? = some (100, n0)) (hs1 : h.1[b]? = some (100, n1)) (h1 : ¬ sp < 0) (h2 : ¬ dp < 0) (h3 : ¬ n < 0) (h4 : sp.toNatClampNeg + n.toNatClampNeg ≤ n0) (h5 : dp.toNatClampNeg + n.toNatClampNeg ≤ n1) (hr : (rest.map fun v => v.category).sum ≤ 8)
    (k : z_G V M (d + 1) bc bs (pc + 3) ls rest (h.1, z_ui h.2.1 b (va_cpy (h.2.1 a) (h.2.1 b) sp.toNatClampNeg dp.toNatClampNeg n.toNatClampNeg), h.2.2) Φ) : z_G V M (d + 1) bc bs pc ls (.int n :: .int dp :: .ref b :: .int sp :: .ref a :: rest) h Φ := by
  have nn : ∀ z : Int32, ¬ z < 0 → z.toInt = (z.toNatClampNeg : Int) := fun z hz => by
    have hz0 : (0 : Int) ≤ z.toInt := by simpa using Int32.le_iff_toInt_le.mp (Int32.not_lt.mp hz)
    show z.toInt = ((z.toInt.toNat : Nat) : Int)
    omega
  intro p l e R s m args below meth c H locs cells slots LS QQ C hw hS hL hn hc hs ret
  have C0 := C
  obtain ⟨q0, rfl⟩ : ∃ q', a = q' + 1 := ⟨a - 1, by omega⟩
  obtain ⟨q1, rfl⟩ : ∃ q', b = q' + 1 := ⟨b - 1, by omega⟩
  obtain ⟨hx, hb, hr9, hml, hown, hlk, hts, hN, hK, hfr, hlo, hX, hbB, hBs, hnm⟩ := C
  have ha0 := z_get_a (V := V) hs0
  have ha1 := z_get_a (V := V) hs1
  have hc0 : H[z_ad V (q0 + 1)]? = some (vp_cell V.2.2.2.1.1 (n0, .inl (h.2.1 (q0 + 1)))) := hw.1 q0 _ ha0
  have hc1 : H[z_ad V (q1 + 1)]? = some (vp_cell V.2.2.2.1.1 (n1, .inl (h.2.1 (q1 + 1)))) := hw.1 q1 _ ha1
  obtain ⟨-, k0, hk0, cm0, hkk0⟩ := (hK.2 0 _ rfl).1 n0 (fun j => .int (h.2.1 (q0 + 1) j))
  obtain ⟨-, k1, hk1, cm1, hkk1⟩ := (hK.2 0 _ rfl).1 n1 (fun j => .int (h.2.1 (q1 + 1) j))
  have hl : z_ad V (q1 + 1) < H.size := (Array.getElem?_eq_some_iff.mp hc1).1
  intro T hT X
  obtain ⟨vm', X', step⟩ := X.arraycopy hx hown (hts _ hk) (hts _ w1) (hts _ w2) (hts _ w3) (src := z_ad V (q0 + 1)) (dst := z_ad V (q1 + 1)) (cs := vp_cell V.2.2.2.1.1 (n0, .inl (h.2.1 (q0 + 1)))) (cd := vp_cell V.2.2.2.1.1 (n1, .inl (h.2.1 (q1 + 1)))) (srcPos := sp) (destPos := dp) (n := n) (by rw [hT]; exact hc0) (by rw [hT]; exact hc1)
    (fun _ z => by cases z) (fun _ z => by cases z) (fun z => by cases z) (fun z => by cases z) hk0 hk1 hkk0 hkk1 (by simp [refKind]) h1 h2 h3
    (by rw [nn sp h1, nn n h3]; show ¬ _ > ((arrV _ n0 _).slots.size : Int); rw [arrV_size]; omega)
    (by rw [nn dp h2, nn n h3]; show ¬ _ > ((arrV _ n1 _).slots.size : Int); rw [arrV_size]; omega)
    (fun vm₁ _ i hi => by
      have e : (vp_cell V.2.2.2.1.1 (n0, .inl (h.2.1 (q0 + 1)))).slots.getD (sp.toNatClampNeg + i) .null = .int (h.2.1 (q0 + 1) (sp.toNatClampNeg + i)) := by
        show (arrV _ n0 (fun j => .int (h.2.1 (q0 + 1) j))).slots.getD _ _ = _
        rw [Array.getD_eq_getD_getElem?, arrV_read _ _ (by omega)]
        rfl
      rw [e]
      exact ⟨rfl, trivial⟩)
    (g := F0 m pc LS (.int n :: .int dp :: .ref (z_ad V (q1 + 1)) :: .int sp :: .ref (z_ad V (q0 + 1)) :: rest.map (z_rl V))) rfl (by rw [hml, hn]; exact hL.1) (rest := rest.map (z_rl V)) rfl (by rw [hb]; exact hd) (by omega) (by show 2 * 0 + _ + _ ≤ _; rw [z_cat]; exact z_nf hr hlo)
  have e1 : copied (vp_cell V.2.2.2.1.1 (n0, .inl (h.2.1 (q0 + 1)))) (vp_cell V.2.2.2.1.1 (n1, .inl (h.2.1 (q1 + 1)))) sp dp n = vp_cell V.2.2.2.1.1 (n1, .inl (va_cpy (h.2.1 (q0 + 1)) (h.2.1 (q1 + 1)) sp.toNatClampNeg dp.toNatClampNeg n.toNatClampNeg)) := va_copied (fun z => .int z) _ _ _ _ h4
  rw [e1] at X' step
  generalize hg : va_cpy (h.2.1 (q0 + 1)) (h.2.1 (q1 + 1)) sp.toNatClampNeg dp.toNatClampNeg n.toNatClampNeg = g at X' step k
  have hheap : ((T.setVm vm').setCell (z_ad V (q1 + 1)) (vp_cell V.2.2.2.1.1 (n1, .inl g))).heap = H.setIfInBounds (z_ad V (q1 + 1)) (vp_cell V.2.2.2.1.1 (n1, .inl g)) := by rw [← hT]; rfl
  have oq : ∀ q : Nat, q ≠ z_ad V (q1 + 1) → (H.setIfInBounds (z_ad V (q1 + 1)) (vp_cell V.2.2.2.1.1 (n1, .inl g)))[q]? = H[q]? := fun q hq => by simp [Array.getElem?_setIfInBounds, Ne.symm hq]
  obtain ⟨hw1, hS1⟩ := z_arr_set (V := V) (h := h) (g := g) (cA := V.2.2.2.1.1) (i := 0) hw hS (Or.inl rfl) hs1 (by unfold z_cell; rw [if_pos rfl]; show Sum.inl (_, _, Sum.inl (z_ui _ _ _ _)) = _; unfold z_ui; rw [if_pos rfl]) (show (H.setIfInBounds _ _)[_]? = some _ by simp [Array.getElem?_setIfInBounds, hl]) (by simp) oq
  obtain ⟨t, a1, b1⟩ := k p l e R s m args below meth c _ _ cells slots LS QQ C0 hw1 ⟨hS1.1, hS1.2.1, fun q hq => by
      rcases List.mem_append.mp hq with z | z
      · exact hS.2.2 q z
      · obtain ⟨y, -, hz⟩ := List.mem_map.mp z
        rw [← hz]
        exact Nat.le_add_right _ _⟩ hL hn hc hs ret _ hheap X'
  exact ⟨t, step t a1, b1⟩
section ZD
variable {V : zV} {M M' : zM} {d pc idx : Nat} {ls st rest : List Value} {S : zS}
def z_J {α : Type} (en : α → Option Value) (V : zV) (M : zM) (d : Nat) (E : Option (α × zS)) (pc : Nat) (ls st : List Value) (S : zS) : Prop := ∀ r, E = some r → z_G V M d 0 0 pc ls st (z_mk V S) (fun v h' => v = en r.1 ∧ h' = z_mk V r.2)
def zeI (x : Int32) : Option Value := some (.int x)
def zeV (_ : Unit) : Option Value := none
def zeS (_ : Unit) : Option Value := some (.ref 57)
variable {α β : Type} {en : α → Option Value} {en2 : β → Option Value} {E E1 E2 : Option (α × zS)}
theorem d_st {pc' : Nat} {ls' st' : List Value} {S' : zS} (h : ∀ Φ, z_G V M d 0 0 pc' ls' st' (z_mk V S') Φ → z_G V M d 0 0 pc ls st (z_mk V S) Φ) (k : z_J en V M d E pc' ls' st' S') : z_J en V M d E pc ls st S := fun r hr => h _ (k r hr)
theorem d_br {c : Prop} [i : Decidable c] {pc1 pc2 : Nat} {st' : List Value} (h : ∀ Φ, (c → z_G V M d 0 0 pc1 ls st' (z_mk V S) Φ) → (¬ c → z_G V M d 0 0 pc2 ls st' (z_mk V S) Φ) → z_G V M d 0 0 pc ls st (z_mk V S) Φ) (k1 : c → z_J en V M d E1 pc1 ls st' S) (k2 : ¬ c → z_J en V M d E2 pc2 ls st' S) : z_J en V M d (if c then E1 else E2) pc ls st S :=
  fun r hr => h _ (fun hc => k1 hc r (by rw [if_pos hc] at hr; exact hr)) (fun hc => k2 hc r (by rw [if_neg hc] at hr; exact hr))
theorem d_if {c : Prop} [i : Decidable c] (k1 : c → z_J en V M d E1 pc ls st S) (k2 : ¬ c → z_J en V M d E2 pc ls st S) : z_J en V M d (if c then E1 else E2) pc ls st S := by
  by_cases hc : c
  · rw [if_pos hc]; exact k1 hc
  · rw [if_neg hc]; exact k2 hc
theorem d_gd {c : Prop} [i : Decidable c] (k1 : c → z_J en V M d E pc ls st S) : z_J en V M d (if c then E else none) pc ls st S := d_if k1 (fun _ r hr => by cases hr)
theorem d_no {c : Prop} [i : Decidable c] (k1 : ¬ c → z_J en V M d E pc ls st S) : z_J en V M d (if c then none else E) pc ls st S := d_if (fun _ r hr => by cases hr) k1
theorem d_none : z_J en V M d none pc ls st S := fun r hr => by cases hr
def z_le : List Value → List Value → Prop
  | [], [] => True
  | a :: l, b :: m => (a = .null ∨ a = b) ∧ z_le l m
  | _, _ => False
theorem z_le_len : ∀ {l m : List Value}, z_le l m → l.length = m.length
  | [], [], _ => rfl
  | _ :: _, _ :: _, h => by rw [List.length_cons, List.length_cons, z_le_len h.2]
  | [], _ :: _, h => h.elim
  | _ :: _, [], h => h.elim
theorem z_le_at : ∀ {l m : List Value}, z_le l m → ∀ (i : Nat) (v : Value), l[i]? = some v → v ≠ .null → m[i]? = some v
  | [], [], _, i, v, h, _ => by simp at h
  | a :: l, b :: m, h, 0, v, hv, hn => by
    simp only [List.getElem?_cons_zero, Option.some.injEq] at hv ⊢
    subst hv
    rcases h.1 with q | q
    · exact absurd q hn
    · exact q.symm
  | a :: l, b :: m, h, i + 1, v, hv, hn => by
    rw [List.getElem?_cons_succ] at hv ⊢
    exact z_le_at h.2 i v hv hn
  | [], _ :: _, h, _, _, _, _ => h.elim
  | _ :: _, [], h, _, _, _, _ => h.elim
theorem zg_fg {bc bs : Nat} {h : zHP} {Φ : Option Value → zHP → Prop} {ls' : List Value} (hle : z_le ls' ls) (k : z_G V M d bc bs pc ls' st h Φ) : z_G V M d bc bs pc ls st h Φ :=
  fun p l e R s m args below meth c H locs cells slots LS QQ C hw hS hL hn hc hs ret => k p l e R s m args below meth c H locs cells slots LS QQ C hw hS ⟨by rw [z_le_len hle]; exact hL.1, hL.2.1, fun i v hv hnn => hL.2.2 i v (z_le_at hle i v hv hnn) hnn⟩ (by rw [z_le_len hle]; exact hn) hc hs ret
theorem d_fg {ls' : List Value} (hle : z_le ls' ls) (k : z_J en V M d E pc ls' st S) : z_J en V M d E pc ls st S := fun r hr => zg_fg hle (k r hr)
theorem d_ret {i : Instr} {x : α} (hd : decode M.2.1 pc = .ok (i, 1)) (hR : z_R M (en x) i) (hst : st = (en x).toList) : z_J en V M d (some (x, S)) pc ls st S := fun r hr => by
  cases hr
  exact zg_ret hd hR hst ⟨rfl, rfl⟩
theorem d_retI {x : Int32} (hd : decode M.2.1 pc = .ok (.ireturn, 1)) (hr : M.2.2.2 = some .int) : z_J zeI V M d (some (x, S)) pc ls [.int x] S := d_ret (en := zeI) (x := x) hd ⟨rfl, .int, hr, rfl⟩ rfl
theorem d_retZ {x : Int32} (hd : decode M.2.1 pc = .ok (.ireturn, 1)) (hr : M.2.2.2 = some .boolean) (hx : x = 0 ∨ x = 1) : z_J zeI V M d (some (x, S)) pc ls [.int x] S := d_ret (en := zeI) (x := x) hd ⟨rfl, .boolean, hr, (z_nar_z hx).1⟩ rfl
theorem d_retV (hd : decode M.2.1 pc = .ok (.return_, 1)) (hr : M.2.2.2 = none) : z_J zeV V M d (some ((), S)) pc ls [] S := d_ret (en := zeV) (x := ()) hd ⟨rfl, hr⟩ rfl
theorem d_retS {n : String} (hd : decode M.2.1 pc = .ok (.areturn, 1)) (hr : M.2.2.2 = some (.object n)) : z_J zeS V M d (some ((), S)) pc ls [.ref 57] S := d_ret (en := zeS) (x := ()) hd ⟨rfl, .object n, hr, Or.inl ⟨n, rfl⟩⟩ rfl
variable {F : Option (α × zS)} {E' : α × zS → Option (β × zS)} {n : Nat} {As : List Value}
theorem d_cS (hd : decode M.2.1 pc = .ok (.invokestatic idx, 3)) (hk : z_KS M.1.cls idx M' n) (hn9 : As.length = n) (hst : st = As.reverse ++ rest) (hr : (rest.map fun v => v.category).sum ≤ 8) (hal : As.length ≤ M'.2.2.1) (ha : As.all z_ok = true)
    (kc : z_J en V M' d F 0 (z_ent M' As) [] S) (k : ∀ r, F = some r → z_J en2 V M (d + 1) (E' r) (pc + 3) ls ((en r.1).toList ++ rest) r.2) : z_J en2 V M (d + 1) (F.bind E') pc ls st S := by
  intro r hr9
  obtain ⟨x, hx, hr9⟩ := Option.bind_eq_some_iff.mp hr9
  exact zg_callS (mc := 0) (ms := 0) (bc := 0) (bs := 0) hd hk hn9 hst hr hal ha (kc x hx) (fun v h' q => by obtain ⟨rfl, rfl⟩ := q; exact k x hx r hr9)
theorem d_cT (hd : decode M.2.1 pc = .ok (.invokestatic idx, 3)) (hk : z_KT M.1.cls idx M' n) (hn9 : As.length = n) (hst : st = As.reverse ++ rest) (hr : (rest.map fun v => v.category).sum ≤ 8) (hal : As.length ≤ M'.2.2.1) (ha : As.all z_ok = true)
    (kc : z_J en V M' d F 0 (z_ent M' As) [] S) (k : ∀ r, F = some r → z_J en2 V M (d + 1) (E' r) (pc + 3) ls ((en r.1).toList ++ rest) r.2) : z_J en2 V M (d + 1) (F.bind E') pc ls st S := by
  intro r hr9
  obtain ⟨x, hx, hr9⟩ := Option.bind_eq_some_iff.mp hr9
  exact zg_callT (mc := 0) (ms := 0) (bc := 0) (bs := 0) hd hk hn9 hst hr hal ha (kc x hx) (fun v h' q => by obtain ⟨rfl, rfl⟩ := q; exact k x hx r hr9)
theorem d_cV {q ci nf : Nat} (hd : decode M.2.1 pc = .ok (.invokevirtual idx, 3)) (hk : z_KV M.1.cls idx M' n) (hsh : (z_SH V.2.2.2.2.1)[q]? = some (ci, nf)) (hci : ci < 100) (hcn : ∃ T N, vwCl[ci]? = some (M'.1.cls, T, N)) (hn9 : As.length = n) (hst : st = As.reverse ++ .ref q :: rest) (hr : (rest.map fun v => v.category).sum ≤ 8) (hal : As.length + 1 ≤ M'.2.2.1) (ha : As.all z_ok = true)
    (kc : z_J en V M' d F 0 (z_ent M' (.ref q :: As)) [] S) (k : ∀ r, F = some r → z_J en2 V M (d + 1) (E' r) (pc + 3) ls ((en r.1).toList ++ rest) r.2) : z_J en2 V M (d + 1) (F.bind E') pc ls st S := by
  intro r hr9
  obtain ⟨x, hx, hr9⟩ := Option.bind_eq_some_iff.mp hr9
  exact zg_callV (mc := 0) (ms := 0) (bc := 0) (bs := 0) hd hk hsh hci hcn hn9 hst hr hal ha (kc x hx) (fun v h' q => by obtain ⟨rfl, rfl⟩ := q; exact k x hx r hr9)
end ZD
theorem zs_copy {V : zV} {M : zM} {d bc bs pc idx : Nat} {ls rest : List Value} {S : zS} {Φ : Option Value → zHP → Prop} {a b n0 n1 : Nat} {sp dp n : Int32} (hd : decode M.2.1 pc = .ok (.invokestatic idx, 3)) (hk : Cond.methodLink M.1.cls idx arraycopyName ∈ wsL_law) (w1 : Cond.native arraycopyName ∈ wsL_law) (w2 : Cond.static arraycopyName ∈ wsL_law) (w3 : Cond.initialized "java/lang/System" ∈ wsL_law)
    (hq0 : 0 < a) (hq1 : 0 < b) (hs0 : (z_SH V.2.2.2.2.1)[a]? = some (100, n0)) (hs1 : (z_SH V.2.2.2.2.1)[b]? = some (100, n1)) (h1 : ¬ sp < 0) (h2 : ¬ dp < 0) (h3 : ¬ n < 0) (h4 : sp.toNatClampNeg + n.toNatClampNeg ≤ n0) (h5 : dp.toNatClampNeg + n.toNatClampNeg ≤ n1) (hr : (rest.map fun v => v.category).sum ≤ 8)
    (k : z_G V M (d + 1) bc bs (pc + 3) ls rest (z_mk V (z_ui S.1 b (va_cpy (S.1 a) (S.1 b) sp.toNatClampNeg dp.toNatClampNeg n.toNatClampNeg), S.2)) Φ) : z_G V M (d + 1) bc bs pc ls (.int n :: .int dp :: .ref b :: .int sp :: .ref a :: rest) (z_mk V S) Φ :=
  zg_copy hd hk w1 w2 w3 hq0 hq1 hs0 hs1 h1 h2 h3 h4 h5 hr k
end
section
/-! ===== new int[4][5], out of the machine's own step: an outer row of nulls, then a row made and stored, four times ===== -/
section ZM
theorem zm_ext {A : ClassId} {N : Nat} {f g : Nat → Value} (h : ∀ j, j < N → f j = g j) : arrV A N f = arrV A N g := by
  have e : (fun j : Fin N => f j.val) = fun j : Fin N => g j.val := funext fun j => h _ j.isLt
  unfold arrV
  rw [e]
def zm_O (A : ClassId) (a i : Nat) : Cell := arrV A 4 (fun j => if j < i then .ref (a + 1 + j) else .null)
def zm_I (C : ClassId) : Cell := arrV C 5 (fun _ => .int 0)
/-- the state behind one more row -/
def zm_add (A C : ClassId) (a i : Nat) (U : State) : State := (U.pushCell (zm_I C)).setCell a (zm_O A a (i + 1))
def zm_all (A C : ClassId) (U : State) : State := zm_add A C U.heap.size 3 (zm_add A C U.heap.size 2 (zm_add A C U.heap.size 1 (zm_add A C U.heap.size 0 (U.pushCell (zm_O A U.heap.size 0)))))
theorem zm_put (A : ClassId) (a i : Nat) : (zm_O A a i).setSlot i (.ref (a + 1 + i)) = zm_O A a (i + 1) := by
  unfold zm_O
  rw [arrV_store]
  refine zm_ext fun j _ => ?_
  unfold updV
  by_cases e : j = i
  · subst e
    rw [if_pos rfl, if_pos (Nat.lt_succ_self _)]
  · rw [if_neg e]
    show (if j < i then Value.ref (a + 1 + j) else Value.null) = _
    by_cases e1 : j < i
    · rw [if_pos e1, if_pos (by omega)]
    · rw [if_neg e1, if_neg (by omega)]
/-- how things stand when i rows are made: tables, heap, slots -/
def zm_K (A C : ClassId) (S : State) (i : Nat) (U : State) : Prop :=
  U.vm = S.vm ∧ U.heap.size = S.heap.size + 1 + i ∧ U.heap[S.heap.size]? = some (zm_O A S.heap.size i) ∧ (∀ x : Nat, x < S.heap.size → U.heap[x]? = S.heap[x]?) ∧ (∀ j : Nat, j < i → U.heap[S.heap.size + 1 + j]? = some (zm_I C)) ∧ U.slotsUsed = S.slotsUsed + 4 + 5 * i
theorem zm_K0 (A C : ClassId) (S : State) : zm_K A C S 0 (S.pushCell (zm_O A S.heap.size 0)) := by
  refine ⟨rfl, ?_, ?_, ?_, fun j hj => absurd hj (Nat.not_lt_zero _), ?_⟩
  · show (S.heap.push _).size = _
    rw [Array.size_push]
  · show (S.heap.push _)[S.heap.size]? = _
    rw [Array.getElem?_push, if_pos rfl]
  · intro x hx
    show (S.heap.push _)[x]? = _
    rw [Array.getElem?_push, if_neg (Nat.ne_of_lt hx)]
  · show S.slotsUsed + (zm_O A S.heap.size 0).slots.size = _
    unfold zm_O
    rw [arrV_size]
theorem zm_KS {A C : ClassId} {S U : State} {i : Nat} (h : zm_K A C S i U) : zm_K A C S (i + 1) (zm_add A C S.heap.size i U) := by
  obtain ⟨h1, h2, h3, h4, h5, h6⟩ := h
  have hz : ((U.heap.push (zm_I C)).setIfInBounds S.heap.size (zm_O A S.heap.size (i + 1))).size = S.heap.size + 1 + (i + 1) := by
    rw [Array.size_setIfInBounds, Array.size_push, h2, Nat.add_assoc]
  refine ⟨h1, hz, ?_, ?_, ?_, ?_⟩
  · show ((U.heap.push (zm_I C)).setIfInBounds S.heap.size _)[S.heap.size]? = _
    rw [Array.getElem?_setIfInBounds_self_of_lt (by rw [Array.size_push]; omega)]
  · intro x hx
    show ((U.heap.push (zm_I C)).setIfInBounds S.heap.size _)[x]? = _
    rw [Array.getElem?_setIfInBounds_ne (by omega), Array.getElem?_push, if_neg (by omega)]
    exact h4 x hx
  · intro j hj
    show ((U.heap.push (zm_I C)).setIfInBounds S.heap.size _)[S.heap.size + 1 + j]? = _
    rw [Array.getElem?_setIfInBounds_ne (by omega), Array.getElem?_push]
    by_cases e : j = i
    · subst e
      rw [if_pos h2.symm]
    · rw [if_neg (by omega)]
      exact h5 j (by omega)
  · show U.slotsUsed + (zm_I C).slots.size = _
    unfold zm_I
    rw [arrV_size, h6]
    omega
theorem zm_Kall (A C : ClassId) (S : State) : zm_K A C S 4 (zm_all A C S) := zm_KS (zm_KS (zm_KS (zm_KS (zm_K0 A C S))))
theorem zm_top (A C : ClassId) (S : State) (f : JFrame) : zm_all A C (S.setTop f) = (zm_all A C S).setTop f := by
  unfold zm_all zm_add
  simp only [State.heap_setTop, State.pushCell_setTop, State.setCell_setTop]

variable {E : CtlPost} {e : Env} {d : Bool} {acts : List Action}
theorem zm_new {S : State} {c comp : ClassId} {k : Class} {ty : FieldType} {N : Nat} {v : Value} (hk : S.vm.classes[c]? = some k) (hkind : k.kind = .array comp ty) (hl : N ≤ e.platform.arrayLengthLimit) (hh : N * componentBytes ty ≤ e.platform.maxHeapBytes)
    (hv : fits ty v = true) (h1 : S.heap.size < e.platform.maxCells) (h2 : S.slotsUsed + N ≤ e.platform.maxSlots) {Q : Addr → Pre} (hq : ∀ acts', Q S.heap.size d acts' (S.pushCell (arrV c N fun _ => v))) : wp (Jvm.newArray c N v) Q E e d acts S := by
  have g1 : ¬ N > e.platform.arrayLengthLimit := by omega
  have g2 : ¬ N * componentBytes ty > e.platform.maxHeapBytes := by omega
  have g3 : ¬ N > e.platform.maxSlots := by omega
  unfold Jvm.newArray Jvm.arrayFits
  simp only [wp_bind', W.ask, W.ite, g1, if_false, wp_pure', W.theClass, hk, hkind, g2, g3, Option.some.injEq, exists_eq_left', W.alloc, Array.size_replicate]
  refine ⟨h1, h2, fun i w hw => ?_, ?_⟩
  · rw [Array.getElem?_replicate] at hw
    by_cases hi : i < N
    · rw [if_pos hi] at hw
      cases hw
      simp [State.fitsSlot, State.slotType?, hk, hkind, hv]
    · rw [if_neg hi] at hw
      cases hw
  · rw [arrV_new]
    exact hq _
/-- one row made and stored -/
theorem zm_one {A C : ClassId} {S U : State} {i : Nat} {kA kC : Class} {cc : ClassId} {md : Mode} (K : zm_K A C S i U) (hi : i < 4) (hkA : S.vm.classes[A]? = some kA) (hA : kA.kind = .array C (.array .int)) (hkC : S.vm.classes[C]? = some kC) (hC : kC.kind = .array cc .int)
    (hl : 5 ≤ e.platform.arrayLengthLimit) (hh : 20 ≤ e.platform.maxHeapBytes) (h1 : S.heap.size + 5 ≤ e.platform.maxCells) (h2 : S.slotsUsed + 24 ≤ e.platform.maxSlots) {Q : ForInStep PUnit → Pre}
    (hq : ∀ d' acts', Q (.yield PUnit.unit) d' acts' (zm_add A C S.heap.size i U)) : wp (multianewarray.make C [5]) (fun r => wp (Jvm.writeLoc S.heap.size i (.ref r) md >>= fun _ => Pure.pure (ForInStep.yield PUnit.unit)) Q E e) E e d acts U := by
  obtain ⟨k1, k2, k3, k4, k5, k6⟩ := K
  have n5 : ¬ (5 : Int32) < 0 := by decide
  have e5 : (5 : Int32).toNatClampNeg = 5 := by decide
  rw [multianewarray.make]
  simp only [wp_bind', W.ite, n5, if_false, wp_pure', W.theClass, k1, hkC, hC, Option.some.injEq, exists_eq_left', e5]
  refine zm_new (comp := cc) (k := kC) (by rw [k1]; exact hkC) hC hl (by show 5 * 4 ≤ _; omega) rfl (by omega) (by omega) fun acts' => ?_
  rw [wp_bind', W.writeLoc]
  have hlt : S.heap.size < U.heap.size := by omega
  refine ⟨zm_O A S.heap.size i, ?_, (fun z => by cases z), ?_, ?_, ?_⟩
  · show (U.heap.push _)[S.heap.size]? = _
    rw [Array.getElem?_push, if_neg (Nat.ne_of_lt hlt)]
    exact k3
  · unfold zm_O
    rw [arrV_size]
    exact hi
  · show (U.pushCell _).fitsSlot A .none i _ = true
    have e1 : U.vm.classes[A]? = some kA := by
      rw [k1]
      exact hkA
    simp [State.fitsSlot, State.slotType?, e1, hA, fits]
  · rw [k2, zm_put, wp_pure']
    exact hq _ _
/-- all of it -/
theorem zm_make {A C : ClassId} {S : State} {kA kC : Class} {cc : ClassId} (hkA : S.vm.classes[A]? = some kA) (hA : kA.kind = .array C (.array .int)) (hkC : S.vm.classes[C]? = some kC) (hC : kC.kind = .array cc .int)
    (hl : 5 ≤ e.platform.arrayLengthLimit) (hh : 20 ≤ e.platform.maxHeapBytes) (h1 : S.heap.size + 5 ≤ e.platform.maxCells) (h2 : S.slotsUsed + 24 ≤ e.platform.maxSlots) {Q : Addr → Pre}
    (hq : ∀ d' acts', Q S.heap.size d' acts' (zm_all A C S)) : wp (multianewarray.make A [4, 5]) Q E e d acts S := by
  have n4 : ¬ (4 : Int32) < 0 := by decide
  have e4 : (4 : Int32).toNatClampNeg = 4 := by decide
  have z4 : ((4 : Int32) == 0) = false := by decide
  have K0 := zm_K0 A C S
  have K1 := zm_KS K0
  have K2 := zm_KS K1
  have K3 := zm_KS K2
  rw [multianewarray.make]
  simp only [wp_bind', W.ite, n4, if_false, wp_pure', W.theClass, hkA, hA, Option.some.injEq, exists_eq_left', e4, z4]
  refine zm_new (comp := C) (k := kA) hkA hA (by omega) (by show 4 * 4 ≤ _; omega) rfl (by omega) (by omega) fun acts' => ?_
  have e0 : (arrV A 4 fun _ => .null) = zm_O A S.heap.size 0 := zm_ext fun j _ => by rw [if_neg (Nat.not_lt_zero _)]
  rw [e0, if_neg Bool.false_ne_true]
  simp only [Std.Legacy.Range.forIn_eq_forIn_range', wp_bind']
  have hr : List.range' 0 ([:4] : Std.Legacy.Range).size 1 = [0, 1, 2, 3] := by decide
  rw [hr]
  simp only [List.forIn_cons, List.forIn_nil, wp_bind']
  refine zm_one K0 (by decide) hkA hA hkC hC hl hh h1 h2 fun d1 a1 => ?_
  simp only [wp_pure', wp_bind']
  refine zm_one K1 (by decide) hkA hA hkC hC hl hh h1 h2 fun d2 a2 => ?_
  simp only [wp_pure', wp_bind']
  refine zm_one K2 (by decide) hkA hA hkC hC hl hh h1 h2 fun d3 a3 => ?_
  simp only [wp_pure', wp_bind']
  refine zm_one K3 (by decide) hkA hA hkC hC hl hh h1 h2 fun d4 a4 => ?_
  simp only [wp_pure', wp_bind']
  exact hq _ _
variable {p : Program} {l : Launch} {R : Room} {s : State} {m : MethodId} {args : Array Value} {below : List Frame} {meth : Method} {c : Code} {T : State} {locs : List Loc} {cells slots : Nat}
theorem zm_stand1 {A C : ClassId} {S U : State} {i : Nat} (K : zm_K A C S i U) (hS : s.heap.size ≤ S.heap.size) (X : Stand p l e R s m args below meth c U locs cells slots) : Stand p l e R s m args below meth c (zm_add A C S.heap.size i U) locs (cells + 1) (slots + 5) := by
  have hlt : S.heap.size < U.heap.size := by
    have := K.2.1
    omega
  have hc : (U.pushCell (zm_I C)).heap[S.heap.size]? = some (zm_O A S.heap.size i) := by
    show (U.heap.push _)[S.heap.size]? = _
    rw [Array.getElem?_push, if_neg (Nat.ne_of_lt hlt)]
    exact K.2.2.1
  have h1 := (X.pushed (zm_I C)).stored hc i (.ref (S.heap.size + 1 + i))
  rw [zm_put] at h1
  have e5 : (zm_I C).slots.size = 5 := by
    unfold zm_I
    rw [arrV_size]
  rw [e5] at h1
  exact h1.dropFresh fun x hx => by
    obtain rfl := List.mem_singleton.mp hx
    exact hS
theorem zm_stand {A C : ClassId} {S : State} (X : Stand p l e R s m args below meth c S locs cells slots) : Stand p l e R s m args below meth c (zm_all A C S) locs (cells + 5) (slots + 24) := by
  have hS := X.heapGrown
  have X0 := X.pushed (zm_O A S.heap.size 0)
  have e4 : (zm_O A S.heap.size 0).slots.size = 4 := by
    unfold zm_O
    rw [arrV_size]
  rw [e4] at X0
  have K0 := zm_K0 A C S
  exact zm_stand1 (zm_KS (zm_KS (zm_KS K0))) hS (zm_stand1 (zm_KS (zm_KS K0)) hS (zm_stand1 (zm_KS K0) hS (zm_stand1 K0 hS X0)))
/-- THE STEP -/
theorem zm_step (X : Stand p l e R s m args below meth c T locs cells slots) (hx : p.tables.exec = Jvm.exec) {own : String} {index : Nat} (hown : s.vm.findClass own = some m.cls) (hlk : (Cond.classLink own index ("[" ++ (FieldType.array .int).toString)).before args s = true) (hAA : z_AA s) (harr : (Cond.arrayClass .int).before args s = true)
    {g : JFrame} (hg : g.method = m) (hdg : decode c.code g.pc = .ok (.multianewarray index 2, 4)) {rest : List Value} (hst : g.stack = .int 5 :: .int 4 :: rest) (hc : cells + 5 ≤ R.cells) (hs : slots + 24 ≤ R.slots) :
    ∃ (F : State) (A C : ClassId), s.vm.findClass ("[" ++ (FieldType.array .int).toString) = some A ∧ s.vm.findClass ("[" ++ FieldType.int.toString) = some C ∧ F.heap.size = T.heap.size + 5 ∧ F.heap[T.heap.size]? = some (zm_O A T.heap.size 4) ∧ (∀ x : Nat, x < T.heap.size → F.heap[x]? = T.heap[x]?) ∧ (∀ j : Nat, j < 4 → F.heap[T.heap.size + 1 + j]? = some (zm_I C)) ∧
      Stand p l e R s m args below meth c F locs (cells + 5) (slots + 24) ∧ ∀ t, Steps p.tables e below (F.setTop { g with pc := g.pc + 4, stack := .ref T.heap.size :: rest }) t → Steps p.tables e below (T.setTop g) t := by
  subst hg
  obtain ⟨C, A, kA, hfC, -, hkA, hA, hfA⟩ := hAA.spec
  obtain ⟨C', kC, cc, hfC', hkC, hC⟩ := Cond.arrayClass_spec harr
  obtain rfl : C' = C := Option.some.inj (hfC'.symm.trans hfC)
  obtain ⟨A', hfA', hL⟩ := Cond.classLink_spec hown hlk e.platform (by rw [X.admits.platform])
  obtain rfl : A' = A := Option.some.inj (hfA'.symm.trans hfA)
  obtain ⟨hgv, hwm, -⟩ := State.classEntry (e := e) X.warmed hL
  generalize T.vm.noted g.method.cls index (.cls A') = vm at hgv hwm
  obtain ⟨kA1, hkA1, eA⟩ := hwm.alike.2.2 _ _ hkA
  obtain ⟨kC1, hkC1, eC⟩ := hwm.alike.2.2 _ _ hkC
  have X1 := X.noted hwm
  have X2 := zm_stand (A := A') (C := C') X1
  obtain ⟨r1, r2⟩ := X.roomAbove hc hs
  obtain ⟨-, f1, f2, f3, f4, -⟩ := zm_Kall A' C' (T.setVm vm)
  refine ⟨zm_all A' C' (T.setVm vm), A', C', hfA, hfC, f1, f2, f3, f4, X2, fun t ht => ?_⟩
  jvm_step X.here [hx, hdg]
  simp only [multianewarray.sem, wp_bind', W.resolveClassAt_links (State.method?_setTop g X.here.top) hgv]
  rw [W.popN, if_neg (by decide)]
  refine ⟨g, State.topJava?_setTop' (s := T.setVm vm) g X.here.top, [.int 4, .int 5], rest, rfl, hst, ?_⟩
  simp only [List.mapM_cons, List.mapM_nil, wp_bind', wp_pure']
  refine zm_make (S := ((T.setTop g).setVm vm).setTop { g with stack := rest }) hkA1 (by rw [eA]; exact hA) hkC1 (by rw [eC]; exact hC) ?_ ?_ r1 r2 fun d1 a1 => ?_
  · rw [Launch.admits_arrayLengthLimit X.admits]
    decide
  · rw [Launch.admits_maxHeapBytes X.admits]
    decide
  have e1 : zm_all A' C' (((T.setTop g).setVm vm).setTop { g with stack := rest }) = (zm_all A' C' (T.setVm vm)).setTop { g with stack := rest } := by
    rw [zm_top]
    show ((zm_all A' C' ((T.setVm vm).setTop g)).setTop _) = _
    rw [zm_top, State.setTop_setTop]
  rw [e1]
  simp only [wp_bind', W.mark, W.pushRef, State.topJava?_setTop' _ X2.here.top, Option.some.injEq, exists_eq_left', State.setTop_setTop, State.heap_setTop]
  intro a2
  simp [jvm, X2.here.top]
  exact ht
end ZM
end
section
/-! ===== making cells: the rules of the constructors ===== -/
def z_lk (t : List ((Nat × Nat) × Nat)) : Nat → Nat → Option Nat := fun k j => t.lookup (k, j)
theorem z_lk_cons (t : List ((Nat × Nat) × Nat)) (q j r : Nat) : z_ur (z_lk t) q (fun i => if i = j then some r else z_lk t q i) = z_lk (((q, j), r) :: t) := by
  funext k i
  unfold z_ur z_lk
  rw [List.lookup_cons]
  by_cases hk : k = q
  · subst hk
    rw [if_pos rfl]
    by_cases hi : i = j
    · subst hi
      simp
    · have : ((k, i) == (k, j)) = false := by simp [hi]
      rw [this]
      simp [hi]
  · have : ((k, i) == (q, j)) = false := by simp [hk]
    rw [this, if_neg hk]
theorem z_lk_hit (t : List ((Nat × Nat) × Nat)) (q j r : Nat) : z_lk (((q, j), r) :: t) q j = some r := by
  unfold z_lk
  rw [List.lookup_cons]
  simp
theorem z_lk_miss {t : List ((Nat × Nat) × Nat)} {k i q j r : Nat} (h : k ≠ q ∨ i ≠ j) : z_lk (((q, j), r) :: t) k i = z_lk t k i := by
  unfold z_lk
  rw [List.lookup_cons]
  have : ((k, i) == (q, j)) = false := by
    rcases h with h | h <;> simp [h]
  rw [this]
theorem z_lk_same {t1 t2 : List ((Nat × Nat) × Nat)} (h1 : t1.all (fun e => t2.lookup e.1 == some e.2) = true) (h2 : t2.all (fun e => t1.lookup e.1 == some e.2) = true) : z_lk t1 = z_lk t2 := by
  have key : ∀ (t : List ((Nat × Nat) × Nat)) (x : Nat × Nat) (v : Nat), t.lookup x = some v → (x, v) ∈ t := by
    intro t x v
    induction t with
    | nil => intro h; simp at h
    | cons a l ih =>
      intro h
      rw [List.lookup_cons] at h
      by_cases e : x == a.1
      · rw [e] at h
        have e2 : x = a.1 := by simpa using e
        have e3 : a.2 = v := by simpa using h
        rw [e2, ← e3]
        exact List.mem_cons_self
      · have e' : (x == a.1) = false := by simpa using e
        rw [e'] at h
        exact List.mem_cons_of_mem _ (ih h)
  funext k j
  unfold z_lk
  cases e1 : t1.lookup (k, j) with
  | some v =>
    have := List.all_eq_true.mp h1 _ (key _ _ _ e1)
    have e3 : t2.lookup (k, j) = some v := by simpa using this
    exact e3.symm
  | none =>
    cases e2 : t2.lookup (k, j) with
    | none => rfl
    | some v =>
      have := List.all_eq_true.mp h2 _ (key _ _ _ e2)
      rw [e1] at this
      simp at this
section ZC
variable {V : zV} {M : zM} {d bc bs pc idx : Nat} {ls st rest : List Value} {h : zHP} {Φ : Option Value → zHP → Prop}
theorem z_grow {p : Program} {l : Launch} {e : Env} {R : Room} {s : State} {m : MethodId} {args : Array Value} {below : List Frame} {meth : Method} {c : Code} {H H1 : Heap} {locs : List Loc} {cells slots a b pc' : Nat} {LS : Array Slot} {QQ : State → Prop} {st' : List Value} {h' : zHP} {t : List (Nat × Nat)}
    (C : z_C V M d p l e R s m args below meth c) (hw : z_W V h H) (hS : va_S (fun q => V.2.2.1 ≤ q) s.heap H locs) (hL : z_L V LS ls) (hn : M.2.2.1 = ls.length) (hc : cells + (bc + a) ≤ R.cells) (hs : slots + (bs + b) ≤ R.slots)
    (ret : ∀ (v : Option Value) (h' : zHP) (H' : Heap) (locs' : List Loc) (pc' : Nat) (LS' : Array Slot) (i : Instr), Φ v h' → z_W V h' H' → va_S (fun q => V.2.2.1 ≤ q) s.heap H' locs' → z_R M v i → decode M.2.1 pc' = .ok (i, 1) → W p l e R s m args below meth c H' locs' (cells + (bc + a)) (slots + (bs + b)) QQ (F0 m pc' LS' (v.toList.map (z_rl V))))
    (h0 : h'.1 = h.1 ++ t) (h1 : ∀ q, q < h.1.length → h'.2.1 q = h.2.1 q) (h2 : ∀ q, q < h.1.length → h'.2.2 q = h.2.2 q) (hz : H1.size = H.size + t.length) (o1 : ∀ q : Nat, q < H.size → H1[q]? = H[q]?)
    (hnew : ∀ (i : Nat) (x : Nat × Nat), t[i]? = some x → va_at V.1 vwCl (z_ad V (h.1.length + i), z_cell V h' (h.1.length + i) x) H1)
    (k : z_G V M d bc bs pc' ls st' h' Φ) : W p l e R s m args below meth c H1 locs (cells + a) (slots + b) QQ (F0 m pc' LS (st'.map (z_rl V))) := by
  have hl1 := hw.2.2.1
  have hP1 : va_P V.1 vwCl (z_ws V h') H1 := by
    intro i q hq
    obtain ⟨x, hx, rfl⟩ := z_at_of hq
    rw [h0] at hx
    by_cases hi : i + 1 < h.1.length
    · rw [List.getElem?_append_left hi] at hx
      rw [z_cell_kept (h1 _ hi) (h2 _ hi)]
      have h9 := hw.1 i _ (z_get hx)
      exact h9.kept (o1 _ h9.lt)
    · rw [List.getElem?_append_right (by omega)] at hx
      have h9 := hnew _ x hx
      have e9 : h.1.length + (i + 1 - h.1.length) = i + 1 := by omega
      rw [e9] at h9
      exact h9
  have hw1 : z_W V h' H1 := ⟨hP1, by rw [hz, h0, List.length_append]; have := hw.2.1; omega, by rw [h0, List.length_append]; omega, by rw [h0, List.getElem?_append_left (by omega)]; exact hw.2.2.2.1, by rw [h1 0 (by omega)]; exact hw.2.2.2.2⟩
  have hS1 : va_S (fun q => V.2.2.1 ≤ q) s.heap H1 locs := ⟨Nat.le_trans hS.1 (by omega), fun x g1 g2 => (o1 x (Nat.lt_of_lt_of_le g1 hS.1)).trans (hS.2.1 x g1 g2), hS.2.2⟩
  refine k p l e R s m args below meth c H1 locs (cells + a) (slots + b) LS QQ C hw1 hS1 hL hn (by omega) (by omega) ?_
  intro v9 h9 H9 locs9 pc9 LS9 i9 a1 a2 a3 a4 a5
  have := ret v9 h9 H9 locs9 pc9 LS9 i9 a1 a2 a3 a4 a5
  rw [show cells + a + bc = cells + (bc + a) by omega, show slots + b + bs = slots + (bs + b) by omega]
  exact this
theorem z_adN {H : Heap} (hw : z_W V h H) : z_ad V h.1.length = H.size := by
  obtain ⟨n, hn⟩ : ∃ n, h.1.length = n + 1 := ⟨h.1.length - 1, by have := hw.2.2.1; omega⟩
  rw [hn]
  show V.2.2.1 + n = H.size
  have := hw.2.1
  omega
theorem zc_new {ci N : Nat} {CC : String} {T : u_T} (hd : decode M.2.1 pc = .ok (.new idx, 3)) (w1 : Cond.classLink M.1.cls idx CC ∈ wsL_law) (w2 : Cond.instantiable CC N ∈ wsL_law) (w3 : Cond.initialized CC ∈ wsL_law) (hcl : vwCl[ci]? = some (CC, T, N)) (hin : ∀ w ∈ u_ws CC T N, w ∈ wsL_law) (hty : ∀ k, k < N → parseFieldDescriptor (T k).2.2.1 = some (z_ty ci k)) (hci : ci < 100)
    (hdf : ∀ j, j < N → defaultValue (z_ty ci j) = if z_tyR (z_ty ci j) = true then .null else .int 0) (hz : h.2.1 h.1.length = fun _ => 0) (hzr : h.2.2 h.1.length = fun _ => none)
    (k : z_G V M d bc bs (pc + 3) ls (.ref h.1.length :: st) (h.1 ++ [(ci, N)], h.2.1, h.2.2) Φ) : z_G V M d (bc + 1) (bs + N) pc ls st h Φ := by
  intro p l e R s m args below meth c H locs cells slots LS QQ C hw hS hL hn hc hs ret
  have C0 := C
  obtain ⟨hx, hb, hr, hml, hown, hlk, hts, hN, hK, hfr, hlo, hX, hbB, hBs, hnm⟩ := C
  have hKn := hK.1 ci _ hcl
  refine W.newcK hx hb hown (hts _ w1) (hts _ w2) (hts _ w3) rfl hd (by omega) (by omega) hKn.2.1 rfl fun H1 kC hkC e1 z1 o1 => ?_
  have k9 := z_grow (H1 := H1) (h' := (h.1 ++ [(ci, N)], h.2.1, h.2.2)) (t := [(ci, N)]) C0 hw hS hL hn hc hs ret rfl (fun _ _ => rfl) (fun _ _ => rfl) z1 o1 (fun i x hi => by
    have hi0 : i < 1 := (List.getElem?_eq_some_iff.mp hi).1
    obtain rfl : i = 0 := by omega
    cases hi
    rw [Nat.add_zero, z_adN hw, z_cell_o hci]
    refine ⟨_, hcl, (u_born (z_ty ci) hts hin hKn hkC e1 hty).to (fun j hj => ?_)⟩
    rw [hdf j hj]
    unfold vp_V
    rw [List.getD_eq_getElem?_getD, List.getElem?_map, List.getElem?_range hj]
    show _ = z_val V (h.1 ++ [(ci, N)], h.2.1, h.2.2) ci h.1.length j
    unfold z_val
    show _ = if z_tyR (z_ty ci j) = true then va_rf ((h.2.2 h.1.length j).map (z_ad V)) else Value.int (h.2.1 h.1.length j)
    rw [hz, hzr]
    rfl) k
  have e9 : ((Value.ref h.1.length :: st).map (z_rl V)) = .ref H.size :: st.map (z_rl V) := by rw [← z_adN hw]; rfl
  rw [e9] at k9
  exact k9
theorem z_cls {s : State} (hK : va_K V.1 vwCl (z_tys V) s) {t : Nat} {c : ClassId} {ty : FieldType} (ht : (z_tys V)[t]? = some (c, ty)) {cA : ClassId} (hf : s.vm.findClass ("[" ++ ty.toString) = some cA) (hno : ∀ C, ty ≠ .object C) : cA = c := by
  have h1 := (hK.2 t _ ht).2
  cases ty with
  | object C => exact absurd rfl (hno C)
  | _ => exact Option.some.inj (hf.symm.trans h1)
theorem zc_newi {n : Int32} {N : Nat} (hd : decode M.2.1 pc = .ok (.newarray .int, 2)) (w1 : Cond.arrayClass .int ∈ wsL_law) (hn0 : ¬ n < 0) (hN : n.toNatClampNeg = N) (hb9 : N * 4 ≤ 536870912) (hz : h.2.1 h.1.length = fun _ => 0)
    (k : z_G V M d bc bs (pc + 2) ls (.ref h.1.length :: st) (h.1 ++ [(100, N)], h.2.1, h.2.2) Φ) : z_G V M d (bc + 1) (bs + N) pc ls (.int n :: st) h Φ := by
  intro p l e R s m args below meth c H locs cells slots LS QQ C hw hS hL hn hc hs ret
  have C0 := C
  obtain ⟨hx, hb, hr, hml, hown, hlk, hts, hN9, hK, hfr, hlo, hX, hbB, hBs, hnm⟩ := C
  refine va_newaK (atype := .int) hx hb (hts _ w1) rfl hd rfl hn0 hN hb9 (by omega) (by omega) rfl fun H1 cA e1 z1 o1 _ hf => ?_
  have ec : cA = V.2.2.2.1.1 := z_cls hK (t := 0) rfl hf (fun _ q => by cases q)
  subst ec
  have k9 := z_grow (H1 := H1) (h' := (h.1 ++ [(100, N)], h.2.1, h.2.2)) (t := [(100, N)]) C0 hw hS hL hn hc hs ret rfl (fun _ _ => rfl) (fun _ _ => rfl) z1 o1 (fun i x hi => by
    have hi0 : i < 1 := (List.getElem?_eq_some_iff.mp hi).1
    obtain rfl : i = 0 := by omega
    cases hi
    rw [Nat.add_zero, z_adN hw]
    show H1[H.size]? = some (vp_cell V.2.2.2.1.1 (N, .inl (h.2.1 h.1.length)))
    rw [hz]
    exact e1) k
  have e9 : ((Value.ref h.1.length :: st).map (z_rl V)) = .ref H.size :: st.map (z_rl V) := by rw [← z_adN hw]; rfl
  rw [e9] at k9
  exact k9
theorem zc_newz {n : Int32} {N : Nat} (hd : decode M.2.1 pc = .ok (.newarray .boolean, 2)) (w1 : Cond.arrayClass .boolean ∈ wsL_law) (hn0 : ¬ n < 0) (hN : n.toNatClampNeg = N) (hb9 : N * 1 ≤ 536870912) (hz : h.2.1 h.1.length = fun _ => 0)
    (k : z_G V M d bc bs (pc + 2) ls (.ref h.1.length :: st) (h.1 ++ [(101, N)], h.2.1, h.2.2) Φ) : z_G V M d (bc + 1) (bs + N) pc ls (.int n :: st) h Φ := by
  intro p l e R s m args below meth c H locs cells slots LS QQ C hw hS hL hn hc hs ret
  have C0 := C
  obtain ⟨hx, hb, hr, hml, hown, hlk, hts, hN9, hK, hfr, hlo, hX, hbB, hBs, hnm⟩ := C
  refine va_newaK (atype := .boolean) hx hb (hts _ w1) rfl hd rfl hn0 hN hb9 (by omega) (by omega) rfl fun H1 cA e1 z1 o1 _ hf => ?_
  have ec : cA = V.2.2.2.1.2.1 := z_cls hK (t := 1) rfl hf (fun _ q => by cases q)
  subst ec
  have k9 := z_grow (H1 := H1) (h' := (h.1 ++ [(101, N)], h.2.1, h.2.2)) (t := [(101, N)]) C0 hw hS hL hn hc hs ret rfl (fun _ _ => rfl) (fun _ _ => rfl) z1 o1 (fun i x hi => by
    have hi0 : i < 1 := (List.getElem?_eq_some_iff.mp hi).1
    obtain rfl : i = 0 := by omega
    cases hi
    rw [Nat.add_zero, z_adN hw]
    show H1[H.size]? = some (vp_cell V.2.2.2.1.2.1 (N, .inl (h.2.1 h.1.length)))
    rw [hz]
    exact e1) k
  have e9 : ((Value.ref h.1.length :: st).map (z_rl V)) = .ref H.size :: st.map (z_rl V) := by rw [← z_adN hw]; rfl
  rw [e9] at k9
  exact k9
theorem zc_newq {n : Int32} {N : Nat} (hd : decode M.2.1 pc = .ok (.anewarray idx, 3)) (w1 : Cond.classLink M.1.cls idx "TorchPlate$Plight" ∈ wsL_law) (hn0 : ¬ n < 0) (hN : n.toNatClampNeg = N) (hb9 : N * 4 ≤ 536870912) (hzr : h.2.2 h.1.length = fun _ => none)
    (k : z_G V M d bc bs (pc + 3) ls (.ref h.1.length :: st) (h.1 ++ [(103, N)], h.2.1, h.2.2) Φ) : z_G V M d (bc + 1) (bs + N) pc ls (.int n :: st) h Φ := by
  intro p l e R s m args below meth c H locs cells slots LS QQ C hw hS hL hn hc hs ret
  have C0 := C
  obtain ⟨hx, hb, hr, hml, hown, hlk, hts, hN9, hK, hfr, hlo, hX, hbB, hBs, hnm⟩ := C
  subst hN
  refine W.anew hx hb hown (hts _ w1) (va_AO.use hN9.2.1) rfl hd rfl hn0 hb9 (by omega) (by omega) fun cA kA comp f1 f2 f3 f4 => ?_
  have ec : cA = V.2.2.2.1.2.2.2 := by
    obtain ⟨kA', comp', g1, g2, g3, g4⟩ := (hK.2 3 _ rfl).2
    exact Option.some.inj (f1.symm.trans g4)
  subst ec
  have e1 : (H.push ({ cls := V.2.2.2.1.2.2.2, slots := Array.replicate n.toNatClampNeg .null, vm := .none } : Cell))[H.size]? = some (arrV V.2.2.2.1.2.2.2 n.toNatClampNeg (fun _ => .null)) := by rw [Array.getElem?_push_size, ← arrV_new]
  have k9 := z_grow (H1 := H.push ({ cls := V.2.2.2.1.2.2.2, slots := Array.replicate n.toNatClampNeg .null, vm := .none } : Cell)) (h' := (h.1 ++ [(103, n.toNatClampNeg)], h.2.1, h.2.2)) (t := [(103, n.toNatClampNeg)]) C0 hw hS hL hn hc hs ret rfl (fun _ _ => rfl) (fun _ _ => rfl) (by rw [Array.size_push]; rfl) (fun q hq => by rw [Array.getElem?_push, if_neg (Nat.ne_of_lt hq)]) (fun i x hi => by
    have hi0 : i < 1 := (List.getElem?_eq_some_iff.mp hi).1
    obtain rfl : i = 0 := by omega
    cases hi
    rw [Nat.add_zero, z_adN hw]
    show (H.push _)[H.size]? = some (vp_cell V.2.2.2.1.2.2.2 (n.toNatClampNeg, .inr (.inr (.inr (.inr (fun j => (h.2.2 h.1.length j).map (z_ad V)))))))
    rw [hzr]
    exact e1) k
  have e9 : ((Value.ref h.1.length :: st).map (z_rl V)) = .ref H.size :: st.map (z_rl V) := by rw [← z_adN hw]; rfl
  rw [e9] at k9
  exact k9
theorem zc_oinit {q : Nat} (hd : decode M.2.1 pc = .ok (.invokespecial idx, 3)) (w1 : Cond.methodLink M.1.cls idx Lib.objectInit ∈ wsL_law) (w2 : Cond.instanceMethod Lib.objectInit ∈ wsL_law) (w3 : Cond.code Lib.objectInit ⟨#[0xb1]⟩ 1 none ∈ wsL_law) (hr : (rest.map fun v => v.category).sum ≤ 8) (k : z_G V M (d + 1) bc bs (pc + 3) ls rest h Φ) : z_G V M (d + 1) bc bs pc ls (.ref q :: rest) h Φ := by
  intro p l e R s m args below meth c H locs cells slots LS QQ C hw hS hL hn hc hs ret
  have k9 := k p l e R s m args below meth c H locs cells slots LS QQ C hw hS hL hn hc hs ret
  obtain ⟨hx, hb, hr9, hml, hown, hlk, hts, hN, hK, hfr, hlo, hX, hbB, hBs, hnm⟩ := C
  refine W.objInit hx hb hown (hts _ w1) (hts _ w2) (hts _ w3) rfl (by rw [hml, hn]; exact hL.1) rfl hd (by omega) (by rw [z_cat]; show 2 * 0 + _ + 12 ≤ _; omega) ?_
  exact k9
theorem zc_aast {q r n m9 : Nat} {i : Int32} (hd : decode M.2.1 pc = .ok (.aastore, 1)) (hsh : h.1[q]? = some (103, n)) (hsr : h.1[r]? = some (2, m9)) (hin : vp_in i n) (k : z_G V M d bc bs (pc + 1) ls st (h.1, h.2.1, z_ur h.2.2 q (fun x => if x = i.toNatClampNeg then some r else h.2.2 q x)) Φ) : z_G V M d bc bs pc ls (.ref r :: .int i :: .ref q :: st) h Φ := by
  intro p l e R s m args below meth c H locs cells slots LS QQ C hw hS hL hn hc hs ret
  have C0 := C
  have hlt : i.toNatClampNeg < n := Nat.not_le.mp fun z => hin (Or.inr z)
  have h0 : ¬ i < 0 := fun z => hin (Or.inl z)
  obtain ⟨q', rfl⟩ : ∃ q', q = q' + 1 := by
    cases q with
    | zero => rw [hw.2.2.2.1] at hsh; cases hsh
    | succ q9 => exact ⟨q9, rfl⟩
  obtain ⟨r', rfl⟩ := hw.pos hsr (by decide)
  obtain ⟨hx, hb, hr9, hml, hown, hlk, hts, hN, hK, hfr, hlo, hX, hbB, hBs, hnm⟩ := C
  have ha := hw.1 q' _ (z_get hsh)
  have he : (z_ws V h)[r']? = some (z_ad V (r' + 1), .inr (2, (List.range m9).map (z_val V h 2 (r' + 1)))) := by rw [z_get hsr, z_cell_o (by decide)]
  obtain ⟨r9, hr', cellV, g1, g2, g3, -⟩ := hw.1 r' _ he
  have hcls := (hK.1 2 _ rfl).2
  obtain ⟨kA, comp, k1, k2, k3, -⟩ := (hK.2 3 _ rfl).2
  have hcomp : comp = V.1.1 2 := Option.some.inj (k3.symm.trans hcls.1)
  subst hcomp
  obtain ⟨kC, hkC, -⟩ := hcls.2
  refine W.aast hx hb (cell := vp_cell V.2.2.2.1.2.2.2 (n, .inr (.inr (.inr (.inr (fun j => (h.2.2 (q' + 1) j).map (z_ad V))))))) ha (fun z y => by cases y) (fun y => by cases y) k1 k2 rfl hkC ⟨h0, by show _ < (arrV _ _ _).slots.size; rw [arrV_size]; exact hlt⟩ g1 (fun z y => by rw [g3] at y; cases y) (by rw [g2]; exact hkC) (by rw [g2]; exact va_assign hcls) rfl rfl hd fun H1 e9 z oq => ?_
  have hset : z_ws V (h.1, h.2.1, z_ur h.2.2 (q' + 1) (fun x => if x = i.toNatClampNeg then some (r' + 1) else h.2.2 (q' + 1) x)) = (z_ws V h).set q' (z_ad V (q' + 1), z_cell V (h.1, h.2.1, z_ur h.2.2 (q' + 1) (fun x => if x = i.toNatClampNeg then some (r' + 1) else h.2.2 (q' + 1) x)) (q' + 1) (103, n)) :=
    z_set_gen (h := h) (h' := (h.1, h.2.1, z_ur h.2.2 (q' + 1) (fun x => if x = i.toNatClampNeg then some (r' + 1) else h.2.2 (q' + 1) x))) hsh rfl (fun _ _ => rfl) (fun y hy => by show z_ur h.2.2 (q' + 1) _ y = _; unfold z_ur; rw [if_neg hy])
  have hat : va_at V.1 vwCl (z_ad V (q' + 1), z_cell V (h.1, h.2.1, z_ur h.2.2 (q' + 1) (fun x => if x = i.toNatClampNeg then some (r' + 1) else h.2.2 (q' + 1) x)) (q' + 1) (103, n)) H1 := by
    show H1[z_ad V (q' + 1)]? = some (vp_cell V.2.2.2.1.2.2.2 (n, .inr (.inr (.inr (.inr (fun j => (z_ur h.2.2 (q' + 1) (fun x => if x = i.toNatClampNeg then some (r' + 1) else h.2.2 (q' + 1) x) (q' + 1) j).map (z_ad V)))))))
    rw [e9, vp_cell_q, vp_cell_q, arrV_store]
    congr 2
    funext j
    unfold z_ur
    rw [if_pos rfl]
    by_cases hq : j = i.toNatClampNeg
    · subst hq
      simp [updV, va_rf]
    · simp [updV, hq]
  exact k p l e R s m args below meth c H1 _ cells slots LS QQ C0 (hw.upd_r (by rw [hset]; exact hw.1.set (z_D V h) (z_get hsh) hat oq) z) (hS.put z oq ((z_D V h).2 q' _ (z_get hsh))) hL hn hc hs ret
/-- new int[4][5] -/
theorem zc_multi (hd : decode M.2.1 pc = .ok (.multianewarray idx 2, 4)) (w1 : Cond.classLink M.1.cls idx "[[I" ∈ wsL_law) (w2 : Cond.arrayClass .int ∈ wsL_law) (hz : ∀ j, h.1.length ≤ j → h.2.1 j = fun _ => 0) {t : List ((Nat × Nat) × Nat)} (hfr9 : h.2.2 = z_lk t) (hzr : h.2.2 h.1.length = fun _ => none)
    (k : z_G V M d bc bs (pc + 4) ls (.ref h.1.length :: st) (h.1 ++ [(102, 4), (100, 5), (100, 5), (100, 5), (100, 5)], h.2.1, z_lk (((h.1.length, 0), h.1.length + 1) :: ((h.1.length, 1), h.1.length + 2) :: ((h.1.length, 2), h.1.length + 3) :: ((h.1.length, 3), h.1.length + 4) :: t)) Φ) : z_G V M d (bc + 5) (bs + 24) pc ls (.int 5 :: .int 4 :: st) h Φ := by
  intro p l e R s m args below meth c H locs cells slots LS QQ C hw hS hL hn hc hs ret
  have C0 := C
  obtain ⟨hx, hb, hr, hml, hown, hlk, hts, hN9, hK, hfr, hlo, hX, hbB, hBs, hnm⟩ := C
  intro T hT X
  obtain ⟨F, cA, comp, fA, fC, f1, f2, hold, hrow, X', step⟩ := zm_step X hx hown (hts _ w1) hN9.2.2 (hts _ w2) (g := F0 m pc LS (.int 5 :: .int 4 :: st.map (z_rl V))) (rest := st.map (z_rl V)) rfl (by rw [hb]; exact hd) rfl (by omega) (by omega)
  have ecA : cA = V.2.2.2.1.2.2.1 := z_cls hK (t := 2) rfl fA (fun _ q => by cases q)
  have ecI : comp = V.2.2.2.1.1 := z_cls hK (t := 0) rfl fC (fun _ q => by cases q)
  subst ecA
  subst ecI
  rw [hT] at f1 f2 hold hrow
  have hin9 : zm_I V.2.2.2.1.1 = vp_cell V.2.2.2.1.1 (5, .inl (fun _ => 0)) := by
    rw [vp_cell_i]
    rfl
  have hadd : ∀ j : Nat, z_ad V (h.1.length + j) = H.size + j := fun j => by
    obtain ⟨n, hn9⟩ : ∃ n, h.1.length = n + 1 := ⟨h.1.length - 1, by have := hw.2.2.1; omega⟩
    have h8 := hw.2.1
    rw [hn9]
    show z_ad V (n + 1 + j) = _
    rw [show n + 1 + j = (n + j) + 1 by omega]
    show V.2.2.1 + (n + j) = _
    omega
  have hlkN : ∀ j : Nat, z_lk t h.1.length j = none := fun j => by rw [← hfr9, hzr]
  have hadd0 : z_ad V h.1.length = H.size := hadd 0
  have hwalk := z_grow (a := 5) (b := 24) (H1 := F.heap) (h' := (h.1 ++ [(102, 4), (100, 5), (100, 5), (100, 5), (100, 5)], h.2.1, z_lk (((h.1.length, 0), h.1.length + 1) :: ((h.1.length, 1), h.1.length + 2) :: ((h.1.length, 2), h.1.length + 3) :: ((h.1.length, 3), h.1.length + 4) :: t))) (t := [(102, 4), (100, 5), (100, 5), (100, 5), (100, 5)]) C0 hw hS hL hn hc hs ret rfl (fun _ _ => rfl) (fun q hq => by
      rw [hfr9]
      funext j
      show z_lk _ q j = z_lk t q j
      have a : q ≠ h.1.length := by omega
      rw [z_lk_miss (Or.inl a), z_lk_miss (Or.inl a), z_lk_miss (Or.inl a), z_lk_miss (Or.inl a)]) f1 hold (fun i x hi => by
    have hi0 : i < 5 := (List.getElem?_eq_some_iff.mp hi).1
    rcases (show i = 0 ∨ i = 1 ∨ i = 2 ∨ i = 3 ∨ i = 4 by omega) with rfl | rfl | rfl | rfl | rfl
    · cases hi
      rw [Nat.add_zero, hadd0]
      show F.heap[H.size]? = some (vp_cell V.2.2.2.1.2.2.1 (4, .inr (.inr (.inr (.inr (fun j => (z_lk _ h.1.length j).map (z_ad V)))))))
      rw [f2, vp_cell_q]
      refine congrArg some ?_
      refine zm_ext ?_
      · intro j hj
        rw [if_pos hj]
        symm
        rcases (show j = 0 ∨ j = 1 ∨ j = 2 ∨ j = 3 by omega) with rfl | rfl | rfl | rfl
        · rw [z_lk_hit]
          show Value.ref (z_ad V (h.1.length + 1)) = _
          rw [hadd]
        · rw [z_lk_miss (Or.inr (by decide)), z_lk_hit]
          show Value.ref (z_ad V (h.1.length + 2)) = _
          rw [hadd]
        · rw [z_lk_miss (Or.inr (by decide)), z_lk_miss (Or.inr (by decide)), z_lk_hit]
          show Value.ref (z_ad V (h.1.length + 3)) = _
          rw [hadd]
        · rw [z_lk_miss (Or.inr (by decide)), z_lk_miss (Or.inr (by decide)), z_lk_miss (Or.inr (by decide)), z_lk_hit]
          show Value.ref (z_ad V (h.1.length + 4)) = _
          rw [hadd]
    · cases hi
      rw [hadd]
      show F.heap[H.size + 1]? = some (vp_cell V.2.2.2.1.1 (5, .inl (h.2.1 (h.1.length + 1))))
      rw [hz _ (by omega), ← hin9]
      exact hrow 0 (by decide)
    · cases hi
      rw [hadd]
      show F.heap[H.size + 2]? = some (vp_cell V.2.2.2.1.1 (5, .inl (h.2.1 (h.1.length + 2))))
      rw [hz _ (by omega), ← hin9]
      exact hrow 1 (by decide)
    · cases hi
      rw [hadd]
      show F.heap[H.size + 3]? = some (vp_cell V.2.2.2.1.1 (5, .inl (h.2.1 (h.1.length + 3))))
      rw [hz _ (by omega), ← hin9]
      exact hrow 2 (by decide)
    · cases hi
      rw [hadd]
      show F.heap[H.size + 4]? = some (vp_cell V.2.2.2.1.1 (5, .inl (h.2.1 (h.1.length + 4))))
      rw [hz _ (by omega), ← hin9]
      exact hrow 3 (by decide)) k
  have e9 : ((Value.ref h.1.length :: st).map (z_rl V)) = .ref H.size :: st.map (z_rl V) := by rw [← z_adN hw]; rfl
  rw [e9] at hwalk
  obtain ⟨t9, a1, b1⟩ := hwalk F rfl X'
  refine ⟨t9, step t9 ?_, b1⟩
  rw [hT]
  exact a1
/-- a put that changes nothing -/
theorem zc_putS {ci j n q : Nat} {x : Int32} (hd : decode M.2.1 pc = .ok (.putfield idx, 3)) (hf : z_F M.1.cls idx ci j false) (hty : z_ty ci j = .int ∨ (z_ty ci j = .boolean ∧ (x = 0 ∨ x = 1))) (hsh : h.1[q]? = some (ci, n)) (hci : ci < 100) (hj : j < n) (hv : h.2.1 q j = x)
    (k : z_G V M d bc bs (pc + 3) ls st h Φ) : z_G V M d bc bs pc ls (.int x :: .ref q :: st) h Φ := by
  have e : (h.1, z_ui h.2.1 q (upd (h.2.1 q) j x), h.2.2) = h := by
    obtain ⟨a, b, c⟩ := h
    refine congrArg (fun z => (a, z, c)) ?_
    funext k i
    show z_ui b q (upd (b q) j x) k i = b k i
    unfold z_ui upd
    by_cases hk : k = q
    · subst hk
      rw [if_pos rfl]
      by_cases hi : i = j
      · subst hi
        show (if i = i then x else b k i) = b k i
        rw [if_pos rfl]
        exact hv.symm
      · show (if i = j then x else b k i) = b k i
        rw [if_neg hi]
    · rw [if_neg hk]
  rcases hty with hty | ⟨hty, hx⟩
  · refine zg_putI hd hf hty hsh hci hj ?_
    rw [e]
    exact k
  · refine zg_putZ hd hf hty hx hsh hci hj ?_
    rw [e]
    exact k
theorem zc_putR {ci j n q r : Nat} {fin : Bool} {sh : List (Nat × Nat)} {fi : Nat → Nat → Int32} {t : List ((Nat × Nat) × Nat)} (hd : decode M.2.1 pc = .ok (.putfield idx, 3)) (hf : z_F M.1.cls idx ci j fin) (hfin : fin = false ∨ (fin = true ∧ M.1.name = "<init>" ∧ ∀ C T N, vwCl[ci]? = some (C, T, N) → (T j).1 = M.1.cls)) (hty : z_tyR (z_ty ci j) = true) (hsh : sh[q]? = some (ci, n)) (hci : ci < 100) (hj : j < n)
    (k : z_G V M d bc bs (pc + 3) ls st (sh, fi, z_lk (((q, j), r) :: t)) Φ) : z_G V M d bc bs pc ls (.ref r :: .ref q :: st) (sh, fi, z_lk t) Φ := by
  refine zg_putR hd hf hfin hty hsh hci hj ?_
  show z_G V M d bc bs (pc + 3) ls st (sh, fi, z_ur (z_lk t) q (fun i => if i = j then some r else z_lk t q i)) Φ
  rw [z_lk_cons]
  exact k
end ZC
end
