section
-- ===== PART A: goes FIRST, ahead of the names: the tables' words, and 'selects' of the private methods out of them =====
/-- a private method of a class that the tables say can be made, by its rows of tables_1 -/
def lw_okq (q : MethodName × Nat) : Prop := (q.1.cls ≠ "java/lang/invoke/MethodHandle" ∧ q.1.cls ≠ "java/lang/invoke/VarHandle") ∧ Cond.instantiable q.1.cls q.2 ∈ tables_1 ∧ Cond.privateMethod q.1 ∈ tables_1 ∧ Cond.instanceMethod q.1 ∈ tables_1
theorem lw_p0 : lw_okq (⟨"PartingRoads$Survey", "findPieces", "()V"⟩, 9) := ⟨⟨by decide +kernel, by decide +kernel⟩, List.mem_of_getElem? (i := 56) (by decide +kernel), List.mem_of_getElem? (i := 66) (by decide +kernel), List.mem_of_getElem? (i := 67) (by decide +kernel)⟩
theorem lw_p1 : lw_okq (⟨"PartingRoads$Survey", "findPartingRoads", "()V"⟩, 9) := ⟨⟨by decide +kernel, by decide +kernel⟩, List.mem_of_getElem? (i := 56) (by decide +kernel), List.mem_of_getElem? (i := 86) (by decide +kernel), List.mem_of_getElem? (i := 87) (by decide +kernel)⟩
theorem lw_p2 : lw_okq (⟨"PartingRoads$Survey", "findDistricts", "()V"⟩, 9) := ⟨⟨by decide +kernel, by decide +kernel⟩, List.mem_of_getElem? (i := 56) (by decide +kernel), List.mem_of_getElem? (i := 90) (by decide +kernel), List.mem_of_getElem? (i := 91) (by decide +kernel)⟩
theorem lw_p3 : lw_okq (⟨"PartingRoads$History", "dropOldest", "()V"⟩, 2) := ⟨⟨by decide +kernel, by decide +kernel⟩, List.mem_of_getElem? (i := 152) (by decide +kernel), List.mem_of_getElem? (i := 201) (by decide +kernel), List.mem_of_getElem? (i := 202) (by decide +kernel)⟩
theorem lw_p4 : lw_okq (⟨"PartingRoads$Pad", "takes", "(C)Z"⟩, 5) := ⟨⟨by decide +kernel, by decide +kernel⟩, List.mem_of_getElem? (i := 128) (by decide +kernel), List.mem_of_getElem? (i := 251) (by decide +kernel), List.mem_of_getElem? (i := 252) (by decide +kernel)⟩
theorem lw_p5 : lw_okq (⟨"PartingRoads$Pad", "takesDigit", "(I)Z"⟩, 5) := ⟨⟨by decide +kernel, by decide +kernel⟩, List.mem_of_getElem? (i := 128) (by decide +kernel), List.mem_of_getElem? (i := 255) (by decide +kernel), List.mem_of_getElem? (i := 256) (by decide +kernel)⟩
theorem lw_p6 : lw_okq (⟨"PartingRoads$Pad", "atLength", "()Z"⟩, 5) := ⟨⟨by decide +kernel, by decide +kernel⟩, List.mem_of_getElem? (i := 128) (by decide +kernel), List.mem_of_getElem? (i := 259) (by decide +kernel), List.mem_of_getElem? (i := 260) (by decide +kernel)⟩
theorem lw_p7 : lw_okq (⟨"PartingRoads$Pad", "characterBehind", "()C"⟩, 5) := ⟨⟨by decide +kernel, by decide +kernel⟩, List.mem_of_getElem? (i := 128) (by decide +kernel), List.mem_of_getElem? (i := 263) (by decide +kernel), List.mem_of_getElem? (i := 264) (by decide +kernel)⟩
theorem lw_p8 : lw_okq (⟨"PartingRoads$Pad", "keepNumber", "()V"⟩, 5) := ⟨⟨by decide +kernel, by decide +kernel⟩, List.mem_of_getElem? (i := 128) (by decide +kernel), List.mem_of_getElem? (i := 267) (by decide +kernel), List.mem_of_getElem? (i := 268) (by decide +kernel)⟩
theorem lw_p9 : lw_okq (⟨"PartingRoads", "errorOfParsedRoads", "()I"⟩, 6) := ⟨⟨by decide +kernel, by decide +kernel⟩, List.mem_of_getElem? (i := 11) (by decide +kernel), List.mem_of_getElem? (i := 271) (by decide +kernel), List.mem_of_getElem? (i := 272) (by decide +kernel)⟩
theorem lw_p10 : lw_okq (⟨"PartingRoads$Survey", "shorten", "(III)Z"⟩, 9) := ⟨⟨by decide +kernel, by decide +kernel⟩, List.mem_of_getElem? (i := 56) (by decide +kernel), List.mem_of_getElem? (i := 376) (by decide +kernel), List.mem_of_getElem? (i := 377) (by decide +kernel)⟩
theorem lw_p11 : lw_okq (⟨"PartingRoads$Survey", "roadsAhead", "(III)I"⟩, 9) := ⟨⟨by decide +kernel, by decide +kernel⟩, List.mem_of_getElem? (i := 56) (by decide +kernel), List.mem_of_getElem? (i := 393) (by decide +kernel), List.mem_of_getElem? (i := 394) (by decide +kernel)⟩
theorem lw_p12 : lw_okq (⟨"PartingRoadsModel", "keep", "()V"⟩, 13) := ⟨⟨by decide +kernel, by decide +kernel⟩, List.mem_of_getElem? (i := 468) (by decide +kernel), List.mem_of_getElem? (i := 523) (by decide +kernel), List.mem_of_getElem? (i := 524) (by decide +kernel)⟩
theorem lw_p13 : lw_okq (⟨"PartingRoadsModel", "changed", "(I)I"⟩, 13) := ⟨⟨by decide +kernel, by decide +kernel⟩, List.mem_of_getElem? (i := 468) (by decide +kernel), List.mem_of_getElem? (i := 527) (by decide +kernel), List.mem_of_getElem? (i := 528) (by decide +kernel)⟩
theorem lw_p14 : lw_okq (⟨"PartingRoadsModel", "isSquare", "(I)Z"⟩, 13) := ⟨⟨by decide +kernel, by decide +kernel⟩, List.mem_of_getElem? (i := 468) (by decide +kernel), List.mem_of_getElem? (i := 535) (by decide +kernel), List.mem_of_getElem? (i := 536) (by decide +kernel)⟩
theorem lw_p15 : lw_okq (⟨"PartingRoadsModel", "adds", "(III)V"⟩, 13) := ⟨⟨by decide +kernel, by decide +kernel⟩, List.mem_of_getElem? (i := 468) (by decide +kernel), List.mem_of_getElem? (i := 540) (by decide +kernel), List.mem_of_getElem? (i := 541) (by decide +kernel)⟩
def lw_privs_1 : List (MethodName × Nat) := [(⟨"PartingRoads$Survey", "findPieces", "()V"⟩, 9), (⟨"PartingRoads$Survey", "findPartingRoads", "()V"⟩, 9), (⟨"PartingRoads$Survey", "findDistricts", "()V"⟩, 9), (⟨"PartingRoads$History", "dropOldest", "()V"⟩, 2), (⟨"PartingRoads$Pad", "takes", "(C)Z"⟩, 5), (⟨"PartingRoads$Pad", "takesDigit", "(I)Z"⟩, 5), (⟨"PartingRoads$Pad", "atLength", "()Z"⟩, 5), (⟨"PartingRoads$Pad", "characterBehind", "()C"⟩, 5), (⟨"PartingRoads$Pad", "keepNumber", "()V"⟩, 5), (⟨"PartingRoads", "errorOfParsedRoads", "()I"⟩, 6), (⟨"PartingRoads$Survey", "shorten", "(III)Z"⟩, 9), (⟨"PartingRoads$Survey", "roadsAhead", "(III)I"⟩, 9), (⟨"PartingRoadsModel", "keep", "()V"⟩, 13), (⟨"PartingRoadsModel", "changed", "(I)I"⟩, 13), (⟨"PartingRoadsModel", "isSquare", "(I)Z"⟩, 13), (⟨"PartingRoadsModel", "adds", "(III)V"⟩, 13)]
theorem lw_r1 : ∀ q ∈ lw_privs_1, lw_okq q := List.forall_mem_cons.mpr ⟨lw_p0, List.forall_mem_cons.mpr ⟨lw_p1, List.forall_mem_cons.mpr ⟨lw_p2, List.forall_mem_cons.mpr ⟨lw_p3, List.forall_mem_cons.mpr ⟨lw_p4, List.forall_mem_cons.mpr ⟨lw_p5, List.forall_mem_cons.mpr ⟨lw_p6, List.forall_mem_cons.mpr ⟨lw_p7, List.forall_mem_cons.mpr ⟨lw_p8, List.forall_mem_cons.mpr ⟨lw_p9, List.forall_mem_cons.mpr ⟨lw_p10, List.forall_mem_cons.mpr ⟨lw_p11, List.forall_mem_cons.mpr ⟨lw_p12, List.forall_mem_cons.mpr ⟨lw_p13, List.forall_mem_cons.mpr ⟨lw_p14, List.forall_mem_cons.mpr ⟨lw_p15, fun _ h => absurd h List.not_mem_nil⟩⟩⟩⟩⟩⟩⟩⟩⟩⟩⟩⟩⟩⟩⟩⟩
theorem lw_p16 : lw_okq (⟨"PartingRoadsModel", "pieces", "()I"⟩, 13) := ⟨⟨by decide +kernel, by decide +kernel⟩, List.mem_of_getElem? (i := 468) (by decide +kernel), List.mem_of_getElem? (i := 544) (by decide +kernel), List.mem_of_getElem? (i := 545) (by decide +kernel)⟩
theorem lw_p17 : lw_okq (⟨"PartingRoadsModel", "piecesWithout", "(II)I"⟩, 13) := ⟨⟨by decide +kernel, by decide +kernel⟩, List.mem_of_getElem? (i := 468) (by decide +kernel), List.mem_of_getElem? (i := 548) (by decide +kernel), List.mem_of_getElem? (i := 549) (by decide +kernel)⟩
theorem lw_p18 : lw_okq (⟨"PartingRoadsModel", "reach", "(III)I"⟩, 13) := ⟨⟨by decide +kernel, by decide +kernel⟩, List.mem_of_getElem? (i := 468) (by decide +kernel), List.mem_of_getElem? (i := 552) (by decide +kernel), List.mem_of_getElem? (i := 553) (by decide +kernel)⟩
theorem lw_p19 : lw_okq (⟨"PartingRoadsModel", "ends", "(I)I"⟩, 13) := ⟨⟨by decide +kernel, by decide +kernel⟩, List.mem_of_getElem? (i := 468) (by decide +kernel), List.mem_of_getElem? (i := 556) (by decide +kernel), List.mem_of_getElem? (i := 557) (by decide +kernel)⟩
theorem lw_p20 : lw_okq (⟨"PartingRoadsModel", "isRoad", "(I)Z"⟩, 13) := ⟨⟨by decide +kernel, by decide +kernel⟩, List.mem_of_getElem? (i := 468) (by decide +kernel), List.mem_of_getElem? (i := 564) (by decide +kernel), List.mem_of_getElem? (i := 565) (by decide +kernel)⟩
theorem lw_p21 : lw_okq (⟨"PartingRoadsModel", "parts", "(I)Z"⟩, 13) := ⟨⟨by decide +kernel, by decide +kernel⟩, List.mem_of_getElem? (i := 468) (by decide +kernel), List.mem_of_getElem? (i := 572) (by decide +kernel), List.mem_of_getElem? (i := 573) (by decide +kernel)⟩
theorem lw_p22 : lw_okq (⟨"PartingRoadsModel", "leastRing", "(I)I"⟩, 13) := ⟨⟨by decide +kernel, by decide +kernel⟩, List.mem_of_getElem? (i := 468) (by decide +kernel), List.mem_of_getElem? (i := 576) (by decide +kernel), List.mem_of_getElem? (i := 577) (by decide +kernel)⟩
theorem lw_p23 : lw_okq (⟨"PartingRoadsModel", "findsFar", "(IIZ)V"⟩, 13) := ⟨⟨by decide +kernel, by decide +kernel⟩, List.mem_of_getElem? (i := 468) (by decide +kernel), List.mem_of_getElem? (i := 580) (by decide +kernel), List.mem_of_getElem? (i := 581) (by decide +kernel)⟩
theorem lw_p24 : lw_okq (⟨"PartingRoadsModel", "pairsLost", "(I)I"⟩, 13) := ⟨⟨by decide +kernel, by decide +kernel⟩, List.mem_of_getElem? (i := 468) (by decide +kernel), List.mem_of_getElem? (i := 585) (by decide +kernel), List.mem_of_getElem? (i := 586) (by decide +kernel)⟩
theorem lw_p25 : lw_okq (⟨"PartingRoadsModel", "roadsOut", "(I)I"⟩, 13) := ⟨⟨by decide +kernel, by decide +kernel⟩, List.mem_of_getElem? (i := 468) (by decide +kernel), List.mem_of_getElem? (i := 596) (by decide +kernel), List.mem_of_getElem? (i := 597) (by decide +kernel)⟩
theorem lw_p26 : lw_okq (⟨"PartingRoadsModel", "morePieces", "(I)I"⟩, 13) := ⟨⟨by decide +kernel, by decide +kernel⟩, List.mem_of_getElem? (i := 468) (by decide +kernel), List.mem_of_getElem? (i := 600) (by decide +kernel), List.mem_of_getElem? (i := 601) (by decide +kernel)⟩
theorem lw_p27 : lw_okq (⟨"PartingRoadsModel", "pieceOf", "(I)I"⟩, 13) := ⟨⟨by decide +kernel, by decide +kernel⟩, List.mem_of_getElem? (i := 468) (by decide +kernel), List.mem_of_getElem? (i := 604) (by decide +kernel), List.mem_of_getElem? (i := 605) (by decide +kernel)⟩
theorem lw_p28 : lw_okq (⟨"PartingRoadsModel", "numberOf", "(I)I"⟩, 13) := ⟨⟨by decide +kernel, by decide +kernel⟩, List.mem_of_getElem? (i := 468) (by decide +kernel), List.mem_of_getElem? (i := 608) (by decide +kernel), List.mem_of_getElem? (i := 609) (by decide +kernel)⟩
theorem lw_p29 : lw_okq (⟨"PartingRoadsModel", "districtOf", "(I)I"⟩, 13) := ⟨⟨by decide +kernel, by decide +kernel⟩, List.mem_of_getElem? (i := 468) (by decide +kernel), List.mem_of_getElem? (i := 612) (by decide +kernel), List.mem_of_getElem? (i := 613) (by decide +kernel)⟩
theorem lw_p30 : lw_okq (⟨"PartingRoadsModel", "parting", "()I"⟩, 13) := ⟨⟨by decide +kernel, by decide +kernel⟩, List.mem_of_getElem? (i := 468) (by decide +kernel), List.mem_of_getElem? (i := 616) (by decide +kernel), List.mem_of_getElem? (i := 617) (by decide +kernel)⟩
theorem lw_p31 : lw_okq (⟨"PartingRoadsModel", "districtsBelow", "(I)I"⟩, 13) := ⟨⟨by decide +kernel, by decide +kernel⟩, List.mem_of_getElem? (i := 468) (by decide +kernel), List.mem_of_getElem? (i := 623) (by decide +kernel), List.mem_of_getElem? (i := 624) (by decide +kernel)⟩
def lw_privs_2 : List (MethodName × Nat) := [(⟨"PartingRoadsModel", "pieces", "()I"⟩, 13), (⟨"PartingRoadsModel", "piecesWithout", "(II)I"⟩, 13), (⟨"PartingRoadsModel", "reach", "(III)I"⟩, 13), (⟨"PartingRoadsModel", "ends", "(I)I"⟩, 13), (⟨"PartingRoadsModel", "isRoad", "(I)Z"⟩, 13), (⟨"PartingRoadsModel", "parts", "(I)Z"⟩, 13), (⟨"PartingRoadsModel", "leastRing", "(I)I"⟩, 13), (⟨"PartingRoadsModel", "findsFar", "(IIZ)V"⟩, 13), (⟨"PartingRoadsModel", "pairsLost", "(I)I"⟩, 13), (⟨"PartingRoadsModel", "roadsOut", "(I)I"⟩, 13), (⟨"PartingRoadsModel", "morePieces", "(I)I"⟩, 13), (⟨"PartingRoadsModel", "pieceOf", "(I)I"⟩, 13), (⟨"PartingRoadsModel", "numberOf", "(I)I"⟩, 13), (⟨"PartingRoadsModel", "districtOf", "(I)I"⟩, 13), (⟨"PartingRoadsModel", "parting", "()I"⟩, 13), (⟨"PartingRoadsModel", "districtsBelow", "(I)I"⟩, 13)]
theorem lw_r2 : ∀ q ∈ lw_privs_2, lw_okq q := List.forall_mem_cons.mpr ⟨lw_p16, List.forall_mem_cons.mpr ⟨lw_p17, List.forall_mem_cons.mpr ⟨lw_p18, List.forall_mem_cons.mpr ⟨lw_p19, List.forall_mem_cons.mpr ⟨lw_p20, List.forall_mem_cons.mpr ⟨lw_p21, List.forall_mem_cons.mpr ⟨lw_p22, List.forall_mem_cons.mpr ⟨lw_p23, List.forall_mem_cons.mpr ⟨lw_p24, List.forall_mem_cons.mpr ⟨lw_p25, List.forall_mem_cons.mpr ⟨lw_p26, List.forall_mem_cons.mpr ⟨lw_p27, List.forall_mem_cons.mpr ⟨lw_p28, List.forall_mem_cons.mpr ⟨lw_p29, List.forall_mem_cons.mpr ⟨lw_p30, List.forall_mem_cons.mpr ⟨lw_p31, fun _ h => absurd h List.not_mem_nil⟩⟩⟩⟩⟩⟩⟩⟩⟩⟩⟩⟩⟩⟩⟩⟩
theorem lw_p32 : lw_okq (⟨"PartingRoadsModel", "districts", "()I"⟩, 13) := ⟨⟨by decide +kernel, by decide +kernel⟩, List.mem_of_getElem? (i := 468) (by decide +kernel), List.mem_of_getElem? (i := 631) (by decide +kernel), List.mem_of_getElem? (i := 632) (by decide +kernel)⟩
theorem lw_p33 : lw_okq (⟨"PartingRoadsModel", "squaresOf", "(I)I"⟩, 13) := ⟨⟨by decide +kernel, by decide +kernel⟩, List.mem_of_getElem? (i := 468) (by decide +kernel), List.mem_of_getElem? (i := 635) (by decide +kernel), List.mem_of_getElem? (i := 636) (by decide +kernel)⟩
theorem lw_p34 : lw_okq (⟨"PartingRoadsModel", "lengthWithin", "(I)I"⟩, 13) := ⟨⟨by decide +kernel, by decide +kernel⟩, List.mem_of_getElem? (i := 468) (by decide +kernel), List.mem_of_getElem? (i := 639) (by decide +kernel), List.mem_of_getElem? (i := 640) (by decide +kernel)⟩
theorem lw_p35 : lw_okq (⟨"PartingRoadsModel", "roadsWithin", "(I)I"⟩, 13) := ⟨⟨by decide +kernel, by decide +kernel⟩, List.mem_of_getElem? (i := 468) (by decide +kernel), List.mem_of_getElem? (i := 643) (by decide +kernel), List.mem_of_getElem? (i := 644) (by decide +kernel)⟩
theorem lw_p36 : lw_okq (⟨"PartingRoadsModel", "squaresThatPart", "()I"⟩, 13) := ⟨⟨by decide +kernel, by decide +kernel⟩, List.mem_of_getElem? (i := 468) (by decide +kernel), List.mem_of_getElem? (i := 651) (by decide +kernel), List.mem_of_getElem? (i := 652) (by decide +kernel)⟩
theorem lw_p37 : lw_okq (⟨"PartingRoadsModel", "longestDistrict", "()I"⟩, 13) := ⟨⟨by decide +kernel, by decide +kernel⟩, List.mem_of_getElem? (i := 468) (by decide +kernel), List.mem_of_getElem? (i := 655) (by decide +kernel), List.mem_of_getElem? (i := 656) (by decide +kernel)⟩
theorem lw_p38 : lw_okq (⟨"PartingRoadsModel", "hang", "(II)Z"⟩, 13) := ⟨⟨by decide +kernel, by decide +kernel⟩, List.mem_of_getElem? (i := 468) (by decide +kernel), List.mem_of_getElem? (i := 664) (by decide +kernel), List.mem_of_getElem? (i := 665) (by decide +kernel)⟩
theorem lw_p39 : lw_okq (⟨"PartingRoadsModel", "musts", "(II)I"⟩, 13) := ⟨⟨by decide +kernel, by decide +kernel⟩, List.mem_of_getElem? (i := 468) (by decide +kernel), List.mem_of_getElem? (i := 668) (by decide +kernel), List.mem_of_getElem? (i := 669) (by decide +kernel)⟩
theorem lw_p40 : lw_okq (⟨"PartingRoadsModel", "readsRoad", "()Z"⟩, 13) := ⟨⟨by decide +kernel, by decide +kernel⟩, List.mem_of_getElem? (i := 468) (by decide +kernel), List.mem_of_getElem? (i := 711) (by decide +kernel), List.mem_of_getElem? (i := 712) (by decide +kernel)⟩
theorem lw_p41 : lw_okq (⟨"PartingRoadsModel", "readsNumber", "(II)Z"⟩, 13) := ⟨⟨by decide +kernel, by decide +kernel⟩, List.mem_of_getElem? (i := 468) (by decide +kernel), List.mem_of_getElem? (i := 715) (by decide +kernel), List.mem_of_getElem? (i := 716) (by decide +kernel)⟩
theorem lw_p42 : lw_okq (⟨"PartingRoadsModel", "isHere", "(II)Z"⟩, 13) := ⟨⟨by decide +kernel, by decide +kernel⟩, List.mem_of_getElem? (i := 468) (by decide +kernel), List.mem_of_getElem? (i := 719) (by decide +kernel), List.mem_of_getElem? (i := 720) (by decide +kernel)⟩
theorem lw_p43 : lw_okq (⟨"PartingRoadsModel", "takes", "(I)Z"⟩, 13) := ⟨⟨by decide +kernel, by decide +kernel⟩, List.mem_of_getElem? (i := 468) (by decide +kernel), List.mem_of_getElem? (i := 723) (by decide +kernel), List.mem_of_getElem? (i := 724) (by decide +kernel)⟩
theorem lw_p44 : lw_okq (⟨"PartingRoadsModel", "haveAllSquares", "()Z"⟩, 13) := ⟨⟨by decide +kernel, by decide +kernel⟩, List.mem_of_getElem? (i := 468) (by decide +kernel), List.mem_of_getElem? (i := 732) (by decide +kernel), List.mem_of_getElem? (i := 733) (by decide +kernel)⟩
theorem lw_p45 : lw_okq (⟨"PartingRoadsModel", "areDifferent", "()Z"⟩, 13) := ⟨⟨by decide +kernel, by decide +kernel⟩, List.mem_of_getElem? (i := 468) (by decide +kernel), List.mem_of_getElem? (i := 736) (by decide +kernel), List.mem_of_getElem? (i := 737) (by decide +kernel)⟩
def lw_privs_3 : List (MethodName × Nat) := [(⟨"PartingRoadsModel", "districts", "()I"⟩, 13), (⟨"PartingRoadsModel", "squaresOf", "(I)I"⟩, 13), (⟨"PartingRoadsModel", "lengthWithin", "(I)I"⟩, 13), (⟨"PartingRoadsModel", "roadsWithin", "(I)I"⟩, 13), (⟨"PartingRoadsModel", "squaresThatPart", "()I"⟩, 13), (⟨"PartingRoadsModel", "longestDistrict", "()I"⟩, 13), (⟨"PartingRoadsModel", "hang", "(II)Z"⟩, 13), (⟨"PartingRoadsModel", "musts", "(II)I"⟩, 13), (⟨"PartingRoadsModel", "readsRoad", "()Z"⟩, 13), (⟨"PartingRoadsModel", "readsNumber", "(II)Z"⟩, 13), (⟨"PartingRoadsModel", "isHere", "(II)Z"⟩, 13), (⟨"PartingRoadsModel", "takes", "(I)Z"⟩, 13), (⟨"PartingRoadsModel", "haveAllSquares", "()Z"⟩, 13), (⟨"PartingRoadsModel", "areDifferent", "()Z"⟩, 13)]
theorem lw_r3 : ∀ q ∈ lw_privs_3, lw_okq q := List.forall_mem_cons.mpr ⟨lw_p32, List.forall_mem_cons.mpr ⟨lw_p33, List.forall_mem_cons.mpr ⟨lw_p34, List.forall_mem_cons.mpr ⟨lw_p35, List.forall_mem_cons.mpr ⟨lw_p36, List.forall_mem_cons.mpr ⟨lw_p37, List.forall_mem_cons.mpr ⟨lw_p38, List.forall_mem_cons.mpr ⟨lw_p39, List.forall_mem_cons.mpr ⟨lw_p40, List.forall_mem_cons.mpr ⟨lw_p41, List.forall_mem_cons.mpr ⟨lw_p42, List.forall_mem_cons.mpr ⟨lw_p43, List.forall_mem_cons.mpr ⟨lw_p44, List.forall_mem_cons.mpr ⟨lw_p45, fun _ h => absurd h List.not_mem_nil⟩⟩⟩⟩⟩⟩⟩⟩⟩⟩⟩⟩⟩⟩
def lw_privs : List (MethodName × Nat) := lw_privs_1 ++ (lw_privs_2 ++ (lw_privs_3))
def lw_tbl : List Cond := k2_sels lw_privs ++ tables_1
theorem lw_privs_ok : ∀ q ∈ lw_privs, lw_okq q := by
  show ∀ q ∈ lw_privs_1 ++ (lw_privs_2 ++ (lw_privs_3)), lw_okq q
  exact List.forall_mem_append.mpr ⟨lw_r1, List.forall_mem_append.mpr ⟨lw_r2, lw_r3⟩⟩
/-! THE CLAIM OUT OF ONE WALK OF THE LAW'S BODY. Your part is whole_start (and what it stands on); all else here is the same for every law, but numbers. -/
def R_law : String := "PartingRoadsLaw"
def lw_P (b : Addr) (xs : List Int32) (args : Array Value) (s : State) : Prop := args = #[.ref b] ∧ s.IntsAt b xs ∧ xs.length ≤ 2048 ∧ (Jvm.Cond.and given_1 narrow_1).before args s = true
def lw_Q (_ : Array Value) (s : State) (o : Outcome) (t : State) : Prop := o = .returned (some (.int 1)) ∧ Framed s o t [] 600000 7302250
def lw_Z (below : List Frame) (a : Array Value) (s : State) : State → Prop := fun t => ∃ o, t.status = .running ∧ Ended t below o ∧ lw_Q a s o t
/-- the law's own end, with 1 on the stack, nothing written that was there before, its room as the claim has it -/
theorem lw_ret {p : Program} {l : Launch} {e : Env} {s : State} {m : MethodId} {below : List Frame} {meth : Method} {c : Code} {b : Nat} (hx : p.tables.exec = Jvm.exec) (hb : c.code = code) (hr : meth.sig.returnType = ret) (hlocks : meth.locks = false) {pc : Nat} {H : Heap} {ls : Array Slot} (hdg : decode code pc = .ok (.ireturn, 1)) : W p l e room_1 s m #[Value.ref b] below meth c H [] 600000 7302250 (lw_Z below #[Value.ref b] s) (F0 m pc ls [.int 1]) := by
  intro T hT X
  obtain ⟨fs, hret, hrun, hended, hW, hframe⟩ := X.leave (v := some (.int 1)) (hlocks := hlocks) (fun h => by rw [hr] at h; cases h)
  have hmeth' : T.vm.method? m = some meth := X.method'
  refine ⟨T.setFrames fs, ?_, .returned (some (.int 1)), hrun, hended, rfl, ⟨_, rfl⟩, hW, hframe⟩
  jvm_step X.here [X.here.top, hx, hb, hdg, hmeth', hr, ret, narrow_b1]
  (try refine ⟨rfl, ?_⟩); (try refine ⟨rfl, ?_⟩)
  first | (intro acts; rw [hret _ acts rfl rfl rfl]) | rw [hret _ _ rfl rfl rfl]
  exact Steps.refl _
/-- what holds at the law's entry: the machine, the code, the tables' words (any of lw_tbl by 'hts w (by decide +kernel)'), the script of L ints xs at the cell b, what the Statement gives of the start (any of its parts by flat_of_before) -/
def lw_At (p : Program) (s : State) (m : MethodId) (meth : Method) (c : Code) (b L : Nat) (xs : Nat → Int32) : Prop :=
  p.tables.exec = Jvm.exec ∧ c.code = code ∧ meth.sig.returnType = ret ∧ c.maxLocals = 4 ∧ s.vm.findClass R_law = some m.cls ∧ (∀ w ∈ lw_tbl, w.before #[Value.ref b] s = true) ∧ va_X b L xs s s.heap ∧ b < s.heap.size ∧ meth.locks = false ∧ (Jvm.Cond.and given_1 narrow_1).before #[Value.ref b] s = true
end
section
/-! ===== BEGIN words of one list among another's, by their places ===== -/
theorem goodIn_r {big : List Cond} (ws : List Cond) (ps : List Nat) (hp : ws = ps.filterMap (fun i => big[i]?)) (h : ws.all goodWord = true) : GoodIn big ws := by
  intro w hw
  have h1 := List.all_eq_true.mp h w hw
  rw [hp] at hw
  obtain ⟨i, -, hi⟩ := List.mem_filterMap.mp hw
  have hm : w ∈ big := by first | exact List.mem_of_getElem? hi | exact List.getElem?_mem hi
  exact ⟨hm, good_of_word h1⟩
theorem goodIn_app {big a b : List Cond} (ha : GoodIn big a) (hb : GoodIn big b) : GoodIn big (a ++ b) := fun w h => (List.mem_append.mp h).elim (ha w) (hb w)
theorem goodIn_ca {big a b : List Cond} {c : Cond} (ha : GoodIn big (c :: a)) (hb : GoodIn big b) : GoodIn big (c :: (a ++ b)) := fun w h => (List.mem_cons.mp h).elim (fun e => ha w (List.mem_cons.mpr (Or.inl e))) (fun h => (List.mem_append.mp h).elim (fun h => ha w (List.mem_cons.mpr (Or.inr h))) (hb w))
theorem goodIn_sub {big ws : List Cond} (hm : ∀ w ∈ ws, w ∈ big) (h : ws.all goodWord = true) : GoodIn big ws := fun w hw => ⟨hm w hw, good_of_word (List.all_eq_true.mp h w hw)⟩
/-! ===== END ===== -/

/-! ===== BEGIN printed: names, fields, word lists, decode rows ===== -/
def RX0 : String := "PartingRoads$History"
def TX0 : u_T := fun k => match k with
  | 0 => ("PartingRoads$History", "states", "[LPartingRoads$Town;", true)
  | _ => ("PartingRoads$History", "changes", "I", false)
def tyX0 : Nat → FieldType := fun k => match k with
  | 0 => .array (.object "PartingRoads$Town")
  | _ => .int
abbrev wsX00 : List Cond := u_ws RX0 TX0 2
theorem nmX0 : ∀ a, a < 2 → ∀ b, b < 2 → a ≠ b → (TX0 a).2.1 ≠ (TX0 b).2.1 := by decide +kernel
theorem tyX0_ok : ∀ k, k < 2 → parseFieldDescriptor (TX0 k).2.2.1 = some (tyX0 k) := by decide +kernel
abbrev cX0_init : ByteArray := prog_2_method_1_code
def yX0_init : MethodName := ⟨RX0, "<init>", "()V"⟩
abbrev cX0_record : ByteArray := prog_2_method_2_code
def yX0_record : MethodName := ⟨RX0, "record", "(LPartingRoads$Town;)V"⟩
abbrev cX0_dropOldest : ByteArray := prog_2_method_3_code
def yX0_dropOldest : MethodName := ⟨RX0, "dropOldest", "()V"⟩
abbrev cX0_takeBack : ByteArray := prog_2_method_4_code
def yX0_takeBack : MethodName := ⟨RX0, "takeBack", "(LPartingRoads$Town;)V"⟩
def RX1 : String := "PartingRoads$Pad"
def TX1 : u_T := fun k => match k with
  | 0 => ("PartingRoads$Pad", "characters", "[C", true)
  | 1 => ("PartingRoads$Pad", "length", "I", false)
  | 2 => ("PartingRoads$Pad", "numbers", "[I", true)
  | 3 => ("PartingRoads$Pad", "numberCount", "I", false)
  | _ => ("PartingRoads$Pad", "number", "I", false)
def tyX1 : Nat → FieldType := fun k => match k with
  | 0 => .array .char
  | 1 => .int
  | 2 => .array .int
  | 3 => .int
  | _ => .int
abbrev wsX10 : List Cond := u_ws RX1 TX1 5
theorem nmX1 : ∀ a, a < 5 → ∀ b, b < 5 → a ≠ b → (TX1 a).2.1 ≠ (TX1 b).2.1 := by decide +kernel
theorem tyX1_ok : ∀ k, k < 5 → parseFieldDescriptor (TX1 k).2.2.1 = some (tyX1 k) := by decide +kernel
abbrev cX1_init : ByteArray := prog_3_method_1_code
def yX1_init : MethodName := ⟨RX1, "<init>", "()V"⟩
abbrev cX1_append : ByteArray := prog_3_method_2_code
def yX1_append : MethodName := ⟨RX1, "append", "(JI)V"⟩
abbrev cX1_parsedRoads : ByteArray := prog_3_method_3_code
def yX1_parsedRoads : MethodName := ⟨RX1, "parsedRoads", "()I"⟩
abbrev cX1_parsedOne : ByteArray := prog_3_method_4_code
def yX1_parsedOne : MethodName := ⟨RX1, "parsedOne", "(I)I"⟩
abbrev cX1_parsedOther : ByteArray := prog_3_method_5_code
def yX1_parsedOther : MethodName := ⟨RX1, "parsedOther", "(I)I"⟩
abbrev cX1_parsedLength : ByteArray := prog_3_method_6_code
def yX1_parsedLength : MethodName := ⟨RX1, "parsedLength", "(I)I"⟩
abbrev cX1_parse : ByteArray := prog_3_method_7_code
def yX1_parse : MethodName := ⟨RX1, "parse", "()I"⟩
abbrev cX1_atLength : ByteArray := prog_3_method_8_code
def yX1_atLength : MethodName := ⟨RX1, "atLength", "()Z"⟩
abbrev cX1_takes : ByteArray := prog_3_method_9_code
def yX1_takes : MethodName := ⟨RX1, "takes", "(C)Z"⟩
abbrev cX1_takesDigit : ByteArray := prog_3_method_10_code
def yX1_takesDigit : MethodName := ⟨RX1, "takesDigit", "(I)Z"⟩
abbrev cX1_characterBehind : ByteArray := prog_3_method_11_code
def yX1_characterBehind : MethodName := ⟨RX1, "characterBehind", "()C"⟩
abbrev cX1_keepNumber : ByteArray := prog_3_method_12_code
def yX1_keepNumber : MethodName := ⟨RX1, "keepNumber", "()V"⟩
def RX2 : String := "PartingRoads$Survey"
def TX2 : u_T := fun k => match k with
  | 0 => ("PartingRoads$Survey", "town", "LPartingRoads$Town;", true)
  | 1 => ("PartingRoads$Survey", "pieceOf", "[I", true)
  | 2 => ("PartingRoads$Survey", "districtOf", "[I", true)
  | 3 => ("PartingRoads$Survey", "districtSquares", "[I", true)
  | 4 => ("PartingRoads$Survey", "lowerSide", "[I", true)
  | 5 => ("PartingRoads$Survey", "distances", "[I", true)
  | 6 => ("PartingRoads$Survey", "pieces", "I", false)
  | 7 => ("PartingRoads$Survey", "districts", "I", false)
  | _ => ("PartingRoads$Survey", "partingRoads", "I", false)
def tyX2 : Nat → FieldType := fun k => match k with
  | 0 => .object "PartingRoads$Town"
  | 1 => .array .int
  | 2 => .array .int
  | 3 => .array .int
  | 4 => .array .int
  | 5 => .array .int
  | 6 => .int
  | 7 => .int
  | _ => .int
abbrev wsX20 : List Cond := u_ws RX2 TX2 9
theorem nmX2 : ∀ a, a < 9 → ∀ b, b < 9 → a ≠ b → (TX2 a).2.1 ≠ (TX2 b).2.1 := by decide +kernel
theorem tyX2_ok : ∀ k, k < 9 → parseFieldDescriptor (TX2 k).2.2.1 = some (tyX2 k) := by decide +kernel
abbrev cX2_init : ByteArray := prog_4_method_1_code
def yX2_init : MethodName := ⟨RX2, "<init>", "(LPartingRoads$Town;)V"⟩
abbrev cX2_renew : ByteArray := prog_4_method_2_code
def yX2_renew : MethodName := ⟨RX2, "renew", "()V"⟩
abbrev cX2_findPieces : ByteArray := prog_4_method_3_code
def yX2_findPieces : MethodName := ⟨RX2, "findPieces", "()V"⟩
abbrev cX2_findPartingRoads : ByteArray := prog_4_method_4_code
def yX2_findPartingRoads : MethodName := ⟨RX2, "findPartingRoads", "()V"⟩
abbrev cX2_findDistricts : ByteArray := prog_4_method_5_code
def yX2_findDistricts : MethodName := ⟨RX2, "findDistricts", "()V"⟩
abbrev cX2_hangTogether : ByteArray := prog_4_method_6_code
def yX2_hangTogether : MethodName := ⟨RX2, "hangTogether", "(II)Z"⟩
abbrev cX2_squaresBehind : ByteArray := prog_4_method_7_code
def yX2_squaresBehind : MethodName := ⟨RX2, "squaresBehind", "(II)I"⟩
abbrev cX2_pairsParted : ByteArray := prog_4_method_8_code
def yX2_pairsParted : MethodName := ⟨RX2, "pairsParted", "(I)I"⟩
abbrev cX2_roadsBetween : ByteArray := prog_4_method_9_code
def yX2_roadsBetween : MethodName := ⟨RX2, "roadsBetween", "(II)I"⟩
abbrev cX2_roadOnWay : ByteArray := prog_4_method_10_code
def yX2_roadOnWay : MethodName := ⟨RX2, "roadOnWay", "(III)I"⟩
abbrev cX2_roadsAhead : ByteArray := prog_4_method_11_code
def yX2_roadsAhead : MethodName := ⟨RX2, "roadsAhead", "(III)I"⟩
abbrev cX2_partingRoadsAfter : ByteArray := prog_4_method_12_code
def yX2_partingRoadsAfter : MethodName := ⟨RX2, "partingRoadsAfter", "(II)I"⟩
abbrev cX2_morePiecesWithout : ByteArray := prog_4_method_13_code
def yX2_morePiecesWithout : MethodName := ⟨RX2, "morePiecesWithout", "(I)I"⟩
abbrev cX2_partingSquares : ByteArray := prog_4_method_14_code
def yX2_partingSquares : MethodName := ⟨RX2, "partingSquares", "()I"⟩
abbrev cX2_partingRoadsOut : ByteArray := prog_4_method_15_code
def yX2_partingRoadsOut : MethodName := ⟨RX2, "partingRoadsOut", "(I)I"⟩
abbrev cX2_longestDistrict : ByteArray := prog_4_method_16_code
def yX2_longestDistrict : MethodName := ⟨RX2, "longestDistrict", "()I"⟩
abbrev cX2_leafDistricts : ByteArray := prog_4_method_17_code
def yX2_leafDistricts : MethodName := ⟨RX2, "leafDistricts", "(I)I"⟩
abbrev cX2_leastRing : ByteArray := prog_4_method_18_code
def yX2_leastRing : MethodName := ⟨RX2, "leastRing", "(I)I"⟩
abbrev cX2_leastLength : ByteArray := prog_4_method_19_code
def yX2_leastLength : MethodName := ⟨RX2, "leastLength", "(II)I"⟩
abbrev cX2_shorten : ByteArray := prog_4_method_20_code
def yX2_shorten : MethodName := ⟨RX2, "shorten", "(III)Z"⟩
def RX3 : String := "PartingRoads$Town"
def TX3 : u_T := fun k => match k with
  | 0 => ("PartingRoads$Town", "squareCount", "I", false)
  | 1 => ("PartingRoads$Town", "roadCount", "I", false)
  | 2 => ("PartingRoads$Town", "lower", "[I", true)
  | 3 => ("PartingRoads$Town", "higher", "[I", true)
  | 4 => ("PartingRoads$Town", "lengths", "[I", true)
  | _ => ("PartingRoads$Town", "ends", "[I", true)
def tyX3 : Nat → FieldType := fun k => match k with
  | 0 => .int
  | 1 => .int
  | 2 => .array .int
  | 3 => .array .int
  | 4 => .array .int
  | _ => .array .int
abbrev wsX30 : List Cond := u_ws RX3 TX3 6
theorem nmX3 : ∀ a, a < 6 → ∀ b, b < 6 → a ≠ b → (TX3 a).2.1 ≠ (TX3 b).2.1 := by decide +kernel
theorem tyX3_ok : ∀ k, k < 6 → parseFieldDescriptor (TX3 k).2.2.1 = some (tyX3 k) := by decide +kernel
abbrev cX3_init : ByteArray := prog_5_method_1_code
def yX3_init : MethodName := ⟨RX3, "<init>", "()V"⟩
abbrev cX3_copyFrom : ByteArray := prog_5_method_2_code
def yX3_copyFrom : MethodName := ⟨RX3, "copyFrom", "(LPartingRoads$Town;)V"⟩
abbrev cX3_hasSquare : ByteArray := prog_5_method_3_code
def yX3_hasSquare : MethodName := ⟨RX3, "hasSquare", "(I)Z"⟩
abbrev cX3_hasRoad : ByteArray := prog_5_method_4_code
def yX3_hasRoad : MethodName := ⟨RX3, "hasRoad", "(I)Z"⟩
abbrev cX3_fitsInto : ByteArray := prog_5_method_5_code
def yX3_fitsInto : MethodName := ⟨RX3, "fitsInto", "(I)Z"⟩
abbrev cX3_addRoad : ByteArray := prog_5_method_6_code
def yX3_addRoad : MethodName := ⟨RX3, "addRoad", "(III)V"⟩
abbrev cX3_removeRoad : ByteArray := prog_5_method_7_code
def yX3_removeRoad : MethodName := ⟨RX3, "removeRoad", "(I)V"⟩
abbrev cX3_allRoads : ByteArray := prog_5_method_8_code
def yX3_allRoads : MethodName := ⟨RX3, "allRoads", "()I"⟩
abbrev cX3_roadsAt : ByteArray := prog_5_method_9_code
def yX3_roadsAt : MethodName := ⟨RX3, "roadsAt", "(I)I"⟩
abbrev cX3_roadsWithin : ByteArray := prog_5_method_10_code
def yX3_roadsWithin : MethodName := ⟨RX3, "roadsWithin", "(I)I"⟩
abbrev cX3_lengthOf : ByteArray := prog_5_method_11_code
def yX3_lengthOf : MethodName := ⟨RX3, "lengthOf", "(I)I"⟩
abbrev cX3_oneRoadFurther : ByteArray := prog_5_method_12_code
def yX3_oneRoadFurther : MethodName := ⟨RX3, "oneRoadFurther", "(II)I"⟩
abbrev cX3_reach : ByteArray := prog_5_method_13_code
def yX3_reach : MethodName := ⟨RX3, "reach", "(II)I"⟩
def RX4 : String := "PartingRoads"
def TX4 : u_T := fun k => match k with
  | 0 => ("PartingRoads", "town", "LPartingRoads$Town;", true)
  | 1 => ("PartingRoads", "survey", "LPartingRoads$Survey;", true)
  | 2 => ("PartingRoads", "pad", "LPartingRoads$Pad;", true)
  | 3 => ("PartingRoads", "history", "LPartingRoads$History;", true)
  | 4 => ("PartingRoads", "slots", "[LPartingRoads$Town;", true)
  | _ => ("PartingRoads", "saved", "[Z", true)
def tyX4 : Nat → FieldType := fun k => match k with
  | 0 => .object "PartingRoads$Town"
  | 1 => .object "PartingRoads$Survey"
  | 2 => .object "PartingRoads$Pad"
  | 3 => .object "PartingRoads$History"
  | 4 => .array (.object "PartingRoads$Town")
  | _ => .array .boolean
abbrev wsX40 : List Cond := u_ws RX4 TX4 6
theorem nmX4 : ∀ a, a < 6 → ∀ b, b < 6 → a ≠ b → (TX4 a).2.1 ≠ (TX4 b).2.1 := by decide +kernel
theorem tyX4_ok : ∀ k, k < 6 → parseFieldDescriptor (TX4 k).2.2.1 = some (tyX4 k) := by decide +kernel
abbrev cX4_init : ByteArray := prog_1_method_1_code
def yX4_init : MethodName := ⟨RX4, "<init>", "()V"⟩
abbrev cX4_squares : ByteArray := prog_1_method_2_code
def yX4_squares : MethodName := ⟨RX4, "squares", "(I)I"⟩
abbrev cX4_build : ByteArray := prog_1_method_3_code
def yX4_build : MethodName := ⟨RX4, "build", "(III)I"⟩
abbrev cX4_lose : ByteArray := prog_1_method_4_code
def yX4_lose : MethodName := ⟨RX4, "lose", "(I)I"⟩
abbrev cX4_read : ByteArray := prog_1_method_5_code
def yX4_read : MethodName := ⟨RX4, "read", "()I"⟩
abbrev cX4_errorOfParsedRoads : ByteArray := prog_1_method_6_code
def yX4_errorOfParsedRoads : MethodName := ⟨RX4, "errorOfParsedRoads", "()I"⟩
abbrev cX4_road : ByteArray := prog_1_method_7_code
def yX4_road : MethodName := ⟨RX4, "road", "(II)I"⟩
abbrev cX4_square : ByteArray := prog_1_method_8_code
def yX4_square : MethodName := ⟨RX4, "square", "(II)I"⟩
abbrev cX4_district : ByteArray := prog_1_method_9_code
def yX4_district : MethodName := ⟨RX4, "district", "(II)I"⟩
abbrev cX4_count : ByteArray := prog_1_method_10_code
def yX4_count : MethodName := ⟨RX4, "count", "(I)I"⟩
abbrev cX4_way : ByteArray := prog_1_method_11_code
def yX4_way : MethodName := ⟨RX4, "way", "(III)I"⟩
abbrev cX4_must : ByteArray := prog_1_method_12_code
def yX4_must : MethodName := ⟨RX4, "must", "(III)I"⟩
abbrev cX4_cutOff : ByteArray := prog_1_method_13_code
def yX4_cutOff : MethodName := ⟨RX4, "cutOff", "(II)I"⟩
abbrev cX4_ifBuilt : ByteArray := prog_1_method_14_code
def yX4_ifBuilt : MethodName := ⟨RX4, "ifBuilt", "(III)I"⟩
abbrev cX4_bestBuilt : ByteArray := prog_1_method_15_code
def yX4_bestBuilt : MethodName := ⟨RX4, "bestBuilt", "(I)I"⟩
abbrev cX4_worstLoss : ByteArray := prog_1_method_16_code
def yX4_worstLoss : MethodName := ⟨RX4, "worstLoss", "(I)I"⟩
abbrev cX4_needed : ByteArray := prog_1_method_17_code
def yX4_needed : MethodName := ⟨RX4, "needed", "(I)I"⟩
abbrev cX4_put : ByteArray := prog_1_method_18_code
def yX4_put : MethodName := ⟨RX4, "put", "(J)I"⟩
abbrev cX4_wipe : ByteArray := prog_1_method_19_code
def yX4_wipe : MethodName := ⟨RX4, "wipe", "()I"⟩
abbrev cX4_fault : ByteArray := prog_1_method_20_code
def yX4_fault : MethodName := ⟨RX4, "fault", "()I"⟩
abbrev cX4_charactersIn : ByteArray := prog_1_method_21_code
def yX4_charactersIn : MethodName := ⟨RX4, "charactersIn", "(J)I"⟩
abbrev cX4_undo : ByteArray := prog_1_method_22_code
def yX4_undo : MethodName := ⟨RX4, "undo", "()I"⟩
abbrev cX4_save : ByteArray := prog_1_method_23_code
def yX4_save : MethodName := ⟨RX4, "save", "(I)I"⟩
abbrev cX4_restore : ByteArray := prog_1_method_24_code
def yX4_restore : MethodName := ⟨RX4, "restore", "(I)I"⟩
abbrev cX4_contains : ByteArray := prog_1_method_25_code
def yX4_contains : MethodName := ⟨RX4, "contains", "(II)Z"⟩
abbrev cX4_setForMembers : ByteArray := prog_1_method_26_code
def yX4_setForMembers : MethodName := ⟨RX4, "setForMembers", "([III)V"⟩
def RX5 : String := "PartingRoadsModel"
def TX5 : u_T := fun k => match k with
  | 0 => ("PartingRoadsModel", "all", "[I", true)
  | 1 => ("PartingRoadsModel", "kept", "[I", true)
  | 2 => ("PartingRoadsModel", "history", "[I", true)
  | 3 => ("PartingRoadsModel", "historyLong", "I", false)
  | 4 => ("PartingRoadsModel", "slots", "[I", true)
  | 5 => ("PartingRoadsModel", "isSaved", "[I", true)
  | 6 => ("PartingRoadsModel", "far", "[I", true)
  | 7 => ("PartingRoadsModel", "pad", "[I", true)
  | 8 => ("PartingRoadsModel", "padLong", "I", false)
  | 9 => ("PartingRoadsModel", "spot", "I", false)
  | 10 => ("PartingRoadsModel", "number", "I", false)
  | 11 => ("PartingRoadsModel", "read", "[I", true)
  | _ => ("PartingRoadsModel", "readMany", "I", false)
def tyX5 : Nat → FieldType := fun k => match k with
  | 0 => .array .int
  | 1 => .array .int
  | 2 => .array .int
  | 3 => .int
  | 4 => .array .int
  | 5 => .array .int
  | 6 => .array .int
  | 7 => .array .int
  | 8 => .int
  | 9 => .int
  | 10 => .int
  | 11 => .array .int
  | _ => .int
abbrev wsX50 : List Cond := u_ws RX5 TX5 13
theorem nmX5 : ∀ a, a < 13 → ∀ b, b < 13 → a ≠ b → (TX5 a).2.1 ≠ (TX5 b).2.1 := by decide +kernel
theorem tyX5_ok : ∀ k, k < 13 → parseFieldDescriptor (TX5 k).2.2.1 = some (tyX5 k) := by decide +kernel
abbrev cX5_init : ByteArray := prog_7_method_1_code
def yX5_init : MethodName := ⟨RX5, "<init>", "()V"⟩
abbrev cX5_in : ByteArray := prog_7_method_3_code
def yX5_in : MethodName := ⟨RX5, "in", "(JJJ)Z"⟩
abbrev cX5_keep : ByteArray := prog_7_method_4_code
def yX5_keep : MethodName := ⟨RX5, "keep", "()V"⟩
abbrev cX5_changed : ByteArray := prog_7_method_5_code
def yX5_changed : MethodName := ⟨RX5, "changed", "(I)I"⟩
abbrev cX5_bits : ByteArray := prog_7_method_6_code
def yX5_bits : MethodName := ⟨RX5, "bits", "(I)I"⟩
abbrev cX5_isSquare : ByteArray := prog_7_method_7_code
def yX5_isSquare : MethodName := ⟨RX5, "isSquare", "(I)Z"⟩
abbrev cX5_isRoad : ByteArray := prog_7_method_8_code
def yX5_isRoad : MethodName := ⟨RX5, "isRoad", "(I)Z"⟩
abbrev cX5_ends : ByteArray := prog_7_method_9_code
def yX5_ends : MethodName := ⟨RX5, "ends", "(I)I"⟩
abbrev cX5_reach : ByteArray := prog_7_method_10_code
def yX5_reach : MethodName := ⟨RX5, "reach", "(III)I"⟩
abbrev cX5_pieceOf : ByteArray := prog_7_method_11_code
def yX5_pieceOf : MethodName := ⟨RX5, "pieceOf", "(I)I"⟩
abbrev cX5_piecesWithout : ByteArray := prog_7_method_12_code
def yX5_piecesWithout : MethodName := ⟨RX5, "piecesWithout", "(II)I"⟩
abbrev cX5_pieces : ByteArray := prog_7_method_13_code
def yX5_pieces : MethodName := ⟨RX5, "pieces", "()I"⟩
abbrev cX5_parts : ByteArray := prog_7_method_14_code
def yX5_parts : MethodName := ⟨RX5, "parts", "(I)Z"⟩
abbrev cX5_parting : ByteArray := prog_7_method_15_code
def yX5_parting : MethodName := ⟨RX5, "parting", "()I"⟩
abbrev cX5_pairsLost : ByteArray := prog_7_method_16_code
def yX5_pairsLost : MethodName := ⟨RX5, "pairsLost", "(I)I"⟩
abbrev cX5_morePieces : ByteArray := prog_7_method_17_code
def yX5_morePieces : MethodName := ⟨RX5, "morePieces", "(I)I"⟩
abbrev cX5_squares : ByteArray := prog_7_method_18_code
def yX5_squares : MethodName := ⟨RX5, "squares", "(I)I"⟩
abbrev cX5_adds : ByteArray := prog_7_method_19_code
def yX5_adds : MethodName := ⟨RX5, "adds", "(III)V"⟩
abbrev cX5_build : ByteArray := prog_7_method_20_code
def yX5_build : MethodName := ⟨RX5, "build", "(III)I"⟩
abbrev cX5_lose : ByteArray := prog_7_method_21_code
def yX5_lose : MethodName := ⟨RX5, "lose", "(I)I"⟩
abbrev cX5_findsFar : ByteArray := prog_7_method_22_code
def yX5_findsFar : MethodName := ⟨RX5, "findsFar", "(IIZ)V"⟩
abbrev cX5_leastRing : ByteArray := prog_7_method_23_code
def yX5_leastRing : MethodName := ⟨RX5, "leastRing", "(I)I"⟩
abbrev cX5_districtOf : ByteArray := prog_7_method_24_code
def yX5_districtOf : MethodName := ⟨RX5, "districtOf", "(I)I"⟩
abbrev cX5_districtsBelow : ByteArray := prog_7_method_25_code
def yX5_districtsBelow : MethodName := ⟨RX5, "districtsBelow", "(I)I"⟩
abbrev cX5_lowest : ByteArray := prog_7_method_26_code
def yX5_lowest : MethodName := ⟨RX5, "lowest", "(I)I"⟩
abbrev cX5_numberOf : ByteArray := prog_7_method_27_code
def yX5_numberOf : MethodName := ⟨RX5, "numberOf", "(I)I"⟩
abbrev cX5_districts : ByteArray := prog_7_method_28_code
def yX5_districts : MethodName := ⟨RX5, "districts", "()I"⟩
abbrev cX5_squaresOf : ByteArray := prog_7_method_29_code
def yX5_squaresOf : MethodName := ⟨RX5, "squaresOf", "(I)I"⟩
abbrev cX5_roadsWithin : ByteArray := prog_7_method_30_code
def yX5_roadsWithin : MethodName := ⟨RX5, "roadsWithin", "(I)I"⟩
abbrev cX5_lengthWithin : ByteArray := prog_7_method_31_code
def yX5_lengthWithin : MethodName := ⟨RX5, "lengthWithin", "(I)I"⟩
abbrev cX5_roadsOut : ByteArray := prog_7_method_32_code
def yX5_roadsOut : MethodName := ⟨RX5, "roadsOut", "(I)I"⟩
abbrev cX5_longestDistrict : ByteArray := prog_7_method_33_code
def yX5_longestDistrict : MethodName := ⟨RX5, "longestDistrict", "()I"⟩
abbrev cX5_road : ByteArray := prog_7_method_34_code
def yX5_road : MethodName := ⟨RX5, "road", "(II)I"⟩
abbrev cX5_square : ByteArray := prog_7_method_35_code
def yX5_square : MethodName := ⟨RX5, "square", "(II)I"⟩
abbrev cX5_district : ByteArray := prog_7_method_36_code
def yX5_district : MethodName := ⟨RX5, "district", "(II)I"⟩
abbrev cX5_squaresThatPart : ByteArray := prog_7_method_37_code
def yX5_squaresThatPart : MethodName := ⟨RX5, "squaresThatPart", "()I"⟩
abbrev cX5_count : ByteArray := prog_7_method_38_code
def yX5_count : MethodName := ⟨RX5, "count", "(I)I"⟩
abbrev cX5_hang : ByteArray := prog_7_method_39_code
def yX5_hang : MethodName := ⟨RX5, "hang", "(II)Z"⟩
abbrev cX5_musts : ByteArray := prog_7_method_40_code
def yX5_musts : MethodName := ⟨RX5, "musts", "(II)I"⟩
abbrev cX5_way : ByteArray := prog_7_method_41_code
def yX5_way : MethodName := ⟨RX5, "way", "(III)I"⟩
abbrev cX5_must : ByteArray := prog_7_method_42_code
def yX5_must : MethodName := ⟨RX5, "must", "(III)I"⟩
abbrev cX5_cutOff : ByteArray := prog_7_method_43_code
def yX5_cutOff : MethodName := ⟨RX5, "cutOff", "(II)I"⟩
abbrev cX5_ifBuilt : ByteArray := prog_7_method_44_code
def yX5_ifBuilt : MethodName := ⟨RX5, "ifBuilt", "(III)I"⟩
abbrev cX5_bestBuilt : ByteArray := prog_7_method_45_code
def yX5_bestBuilt : MethodName := ⟨RX5, "bestBuilt", "(I)I"⟩
abbrev cX5_worstLoss : ByteArray := prog_7_method_46_code
def yX5_worstLoss : MethodName := ⟨RX5, "worstLoss", "(I)I"⟩
abbrev cX5_needed : ByteArray := prog_7_method_47_code
def yX5_needed : MethodName := ⟨RX5, "needed", "(I)I"⟩
abbrev cX5_put : ByteArray := prog_7_method_48_code
def yX5_put : MethodName := ⟨RX5, "put", "(J)I"⟩
abbrev cX5_wipe : ByteArray := prog_7_method_49_code
def yX5_wipe : MethodName := ⟨RX5, "wipe", "()I"⟩
abbrev cX5_isHere : ByteArray := prog_7_method_50_code
def yX5_isHere : MethodName := ⟨RX5, "isHere", "(II)Z"⟩
abbrev cX5_takes : ByteArray := prog_7_method_51_code
def yX5_takes : MethodName := ⟨RX5, "takes", "(I)Z"⟩
abbrev cX5_readsNumber : ByteArray := prog_7_method_52_code
def yX5_readsNumber : MethodName := ⟨RX5, "readsNumber", "(II)Z"⟩
abbrev cX5_readsRoad : ByteArray := prog_7_method_53_code
def yX5_readsRoad : MethodName := ⟨RX5, "readsRoad", "()Z"⟩
abbrev cX5_fault : ByteArray := prog_7_method_54_code
def yX5_fault : MethodName := ⟨RX5, "fault", "()I"⟩
abbrev cX5_haveAllSquares : ByteArray := prog_7_method_55_code
def yX5_haveAllSquares : MethodName := ⟨RX5, "haveAllSquares", "()Z"⟩
abbrev cX5_areDifferent : ByteArray := prog_7_method_56_code
def yX5_areDifferent : MethodName := ⟨RX5, "areDifferent", "()Z"⟩
abbrev cX5_read : ByteArray := prog_7_method_57_code
def yX5_read : MethodName := ⟨RX5, "read", "()I"⟩
abbrev cX5_undo : ByteArray := prog_7_method_58_code
def yX5_undo : MethodName := ⟨RX5, "undo", "()I"⟩
abbrev cX5_save : ByteArray := prog_7_method_59_code
def yX5_save : MethodName := ⟨RX5, "save", "(I)I"⟩
abbrev cX5_restore : ByteArray := prog_7_method_60_code
def yX5_restore : MethodName := ⟨RX5, "restore", "(I)I"⟩
def RJ6 : String := "java/lang/Integer"
def TJ6 : u_T := fun k => match k with
  | _ => ("", "", "", false)
def tyJ6 : Nat → FieldType := fun k => match k with
  | _ => .int
abbrev wsJ60 : List Cond := u_ws RJ6 TJ6 0
theorem nmJ6 : ∀ a, a < 0 → ∀ b, b < 0 → a ≠ b → (TJ6 a).2.1 ≠ (TJ6 b).2.1 := by decide +kernel
theorem tyJ6_ok : ∀ k, k < 0 → parseFieldDescriptor (TJ6 k).2.2.1 = some (tyJ6 k) := by decide +kernel
abbrev cJ6_bitCount_0f7a4 : ByteArray := prog_8_method_49_code
def yJ6_bitCount_0f7a4 : MethodName := ⟨RJ6, "bitCount", "(I)I"⟩
def RJ9 : String := "java/lang/Math"
def TJ9 : u_T := fun k => match k with
  | _ => ("", "", "", false)
def tyJ9 : Nat → FieldType := fun k => match k with
  | _ => .int
abbrev wsJ90 : List Cond := u_ws RJ9 TJ9 0
theorem nmJ9 : ∀ a, a < 0 → ∀ b, b < 0 → a ≠ b → (TJ9 a).2.1 ≠ (TJ9 b).2.1 := by decide +kernel
theorem tyJ9_ok : ∀ k, k < 0 → parseFieldDescriptor (TJ9 k).2.2.1 = some (tyJ9 k) := by decide +kernel
abbrev cJ9_max_7cf53 : ByteArray := prog_9_method_65_code
def yJ9_max_7cf53 : MethodName := ⟨RJ9, "max", "(II)I"⟩
abbrev cJ9_min_7cf53 : ByteArray := prog_9_method_69_code
def yJ9_min_7cf53 : MethodName := ⟨RJ9, "min", "(II)I"⟩
def RJ10 : String := "java/lang/System"
def TJ10 : u_T := fun k => match k with
  | _ => ("", "", "", false)
def tyJ10 : Nat → FieldType := fun k => match k with
  | _ => .int
abbrev wsJ100 : List Cond := u_ws RJ10 TJ10 0
theorem nmJ10 : ∀ a, a < 0 → ∀ b, b < 0 → a ≠ b → (TJ10 a).2.1 ≠ (TJ10 b).2.1 := by decide +kernel
theorem tyJ10_ok : ∀ k, k < 0 → parseFieldDescriptor (TJ10 k).2.2.1 = some (tyJ10 k) := by decide +kernel
def RL : String := "PartingRoadsLaw"
abbrev cL_law : ByteArray := code
def yL_law : MethodName := ⟨RL, "law", "([I)Z"⟩
def wsX3_init : List Cond := .code yX3_init cX3_init 1 none :: ([.methodLink RX3 3 objectInit, .instanceMethod objectInit, .code objectInit ⟨#[0xb1]⟩ 1 none, .fieldLink RX3 9 "PartingRoads$Town" "squareCount" "I", .fieldLink RX3 15 "PartingRoads$Town" "roadCount" "I", .arrayClass .int, .fieldLink RX3 18 "PartingRoads$Town" "lower" "[I", .fieldLink RX3 22 "PartingRoads$Town" "higher" "[I", .fieldLink RX3 25 "PartingRoads$Town" "lengths" "[I", .fieldLink RX3 28 "PartingRoads$Town" "ends" "[I"] ++ wsX30)
def wsX0_init : List Cond := .code yX0_init cX0_init 2 none :: ([.methodLink RX0 3 objectInit, .instanceMethod objectInit, .code objectInit ⟨#[0xb1]⟩ 1 none, .classLink RX0 9 RX3, .fieldLink RX0 11 "PartingRoads$History" "states" "[LPartingRoads$Town;", .fieldLink RX0 17 "PartingRoads$History" "changes" "I", .instantiable RX3 6, .initialized RX3, .instanceMethod yX3_init, .code yX3_init cX3_init 1 none, .methodLink RX3 3 objectInit, .fieldLink RX3 9 "PartingRoads$Town" "squareCount" "I", .fieldLink RX3 15 "PartingRoads$Town" "roadCount" "I", .arrayClass .int, .fieldLink RX3 18 "PartingRoads$Town" "lower" "[I", .fieldLink RX3 22 "PartingRoads$Town" "higher" "[I", .fieldLink RX3 25 "PartingRoads$Town" "lengths" "[I", .fieldLink RX3 28 "PartingRoads$Town" "ends" "[I"] ++ wsX00 ++ wsX30)
def wsX0_dropOldest : List Cond := .code yX0_dropOldest cX0_dropOldest 3 none :: ([.fieldLink RX0 11 "PartingRoads$History" "states" "[LPartingRoads$Town;", .fieldLink RX0 17 "PartingRoads$History" "changes" "I"] ++ wsX00)
def wsX3_copyFrom : List Cond := .code yX3_copyFrom cX3_copyFrom 2 none :: ([.fieldLink RX3 9 "PartingRoads$Town" "squareCount" "I", .fieldLink RX3 15 "PartingRoads$Town" "roadCount" "I", .fieldLink RX3 18 "PartingRoads$Town" "lower" "[I", .methodLink RX3 31 arraycopyName, .native arraycopyName, .static arraycopyName, .initialized "java/lang/System", .fieldLink RX3 22 "PartingRoads$Town" "higher" "[I", .fieldLink RX3 25 "PartingRoads$Town" "lengths" "[I", .fieldLink RX3 28 "PartingRoads$Town" "ends" "[I"] ++ wsX30)
def wsX0_record : List Cond := .code yX0_record cX0_record 2 none :: ([.fieldLink RX0 17 "PartingRoads$History" "changes" "I", .fieldLink RX0 11 "PartingRoads$History" "states" "[LPartingRoads$Town;", .methodLink RX0 22 yX0_dropOldest, .instanceMethod yX0_dropOldest, .selects RX0 yX0_dropOldest yX0_dropOldest, .initialized RX0, .code yX0_dropOldest cX0_dropOldest 3 none, .methodLink RX0 25 yX3_copyFrom, .instanceMethod yX3_copyFrom, .selects RX3 yX3_copyFrom yX3_copyFrom, .initialized RX3, .code yX3_copyFrom cX3_copyFrom 2 none, .fieldLink RX3 9 "PartingRoads$Town" "squareCount" "I", .fieldLink RX3 15 "PartingRoads$Town" "roadCount" "I", .fieldLink RX3 18 "PartingRoads$Town" "lower" "[I", .methodLink RX3 31 arraycopyName, .native arraycopyName, .static arraycopyName, .initialized "java/lang/System", .fieldLink RX3 22 "PartingRoads$Town" "higher" "[I", .fieldLink RX3 25 "PartingRoads$Town" "lengths" "[I", .fieldLink RX3 28 "PartingRoads$Town" "ends" "[I"] ++ wsX00 ++ wsX30)
def wsX0_takeBack : List Cond := .code yX0_takeBack cX0_takeBack 2 none :: ([.fieldLink RX0 17 "PartingRoads$History" "changes" "I", .fieldLink RX0 11 "PartingRoads$History" "states" "[LPartingRoads$Town;", .methodLink RX0 25 yX3_copyFrom, .instanceMethod yX3_copyFrom, .selects RX3 yX3_copyFrom yX3_copyFrom, .initialized RX3, .code yX3_copyFrom cX3_copyFrom 2 none, .fieldLink RX3 9 "PartingRoads$Town" "squareCount" "I", .fieldLink RX3 15 "PartingRoads$Town" "roadCount" "I", .fieldLink RX3 18 "PartingRoads$Town" "lower" "[I", .methodLink RX3 31 arraycopyName, .native arraycopyName, .static arraycopyName, .initialized "java/lang/System", .fieldLink RX3 22 "PartingRoads$Town" "higher" "[I", .fieldLink RX3 25 "PartingRoads$Town" "lengths" "[I", .fieldLink RX3 28 "PartingRoads$Town" "ends" "[I"] ++ wsX00 ++ wsX30)
def wsX1_init : List Cond := .code yX1_init cX1_init 1 none :: ([.methodLink RX1 3 objectInit, .instanceMethod objectInit, .code objectInit ⟨#[0xb1]⟩ 1 none, .arrayClass .char, .fieldLink RX1 9 "PartingRoads$Pad" "characters" "[C", .fieldLink RX1 15 "PartingRoads$Pad" "length" "I", .arrayClass .int, .fieldLink RX1 19 "PartingRoads$Pad" "numbers" "[I", .fieldLink RX1 23 "PartingRoads$Pad" "numberCount" "I", .fieldLink RX1 26 "PartingRoads$Pad" "number" "I"] ++ wsX10)
def wsX1_append : List Cond := .code yX1_append cX1_append 5 none :: ([.fieldLink RX1 15 "PartingRoads$Pad" "length" "I", .fieldLink RX1 9 "PartingRoads$Pad" "characters" "[C", .constantLong RX1 29 (255)] ++ wsX10)
def wsX1_parsedRoads : List Cond := .code yX1_parsedRoads cX1_parsedRoads 1 (some .int) :: ([.fieldLink RX1 23 "PartingRoads$Pad" "numberCount" "I"] ++ wsX10)
def wsX1_parsedOne : List Cond := .code yX1_parsedOne cX1_parsedOne 2 (some .int) :: ([.fieldLink RX1 19 "PartingRoads$Pad" "numbers" "[I"] ++ wsX10)
def wsX1_parsedOther : List Cond := .code yX1_parsedOther cX1_parsedOther 2 (some .int) :: ([.fieldLink RX1 19 "PartingRoads$Pad" "numbers" "[I"] ++ wsX10)
def wsX1_parsedLength : List Cond := .code yX1_parsedLength cX1_parsedLength 2 (some .int) :: ([.fieldLink RX1 19 "PartingRoads$Pad" "numbers" "[I"] ++ wsX10)
def wsX1_atLength : List Cond := .code yX1_atLength cX1_atLength 1 (some .boolean) :: ([.fieldLink RX1 23 "PartingRoads$Pad" "numberCount" "I"] ++ wsX10)
def wsX1_takesDigit : List Cond := .code yX1_takesDigit cX1_takesDigit 3 (some .boolean) :: ([.fieldLink RX1 26 "PartingRoads$Pad" "number" "I", .methodLink RX1 35 yX1_atLength, .instanceMethod yX1_atLength, .selects RX1 yX1_atLength yX1_atLength, .initialized RX1, .code yX1_atLength cX1_atLength 1 (some .boolean), .fieldLink RX1 23 "PartingRoads$Pad" "numberCount" "I"] ++ wsX10)
def wsX1_characterBehind : List Cond := .code yX1_characterBehind cX1_characterBehind 1 (some .char) :: ([.fieldLink RX1 23 "PartingRoads$Pad" "numberCount" "I"] ++ wsX10)
def wsX1_keepNumber : List Cond := .code yX1_keepNumber cX1_keepNumber 1 none :: ([.fieldLink RX1 23 "PartingRoads$Pad" "numberCount" "I", .fieldLink RX1 19 "PartingRoads$Pad" "numbers" "[I", .fieldLink RX1 26 "PartingRoads$Pad" "number" "I"] ++ wsX10)
def wsX1_takes : List Cond := .code yX1_takes cX1_takes 2 (some .boolean) :: ([.fieldLink RX1 26 "PartingRoads$Pad" "number" "I", .methodLink RX1 42 yX1_takesDigit, .instanceMethod yX1_takesDigit, .selects RX1 yX1_takesDigit yX1_takesDigit, .initialized RX1, .code yX1_takesDigit cX1_takesDigit 3 (some .boolean), .methodLink RX1 35 yX1_atLength, .instanceMethod yX1_atLength, .selects RX1 yX1_atLength yX1_atLength, .code yX1_atLength cX1_atLength 1 (some .boolean), .fieldLink RX1 23 "PartingRoads$Pad" "numberCount" "I", .methodLink RX1 46 yX1_characterBehind, .instanceMethod yX1_characterBehind, .selects RX1 yX1_characterBehind yX1_characterBehind, .code yX1_characterBehind cX1_characterBehind 1 (some .char), .methodLink RX1 39 yX1_keepNumber, .instanceMethod yX1_keepNumber, .selects RX1 yX1_keepNumber yX1_keepNumber, .code yX1_keepNumber cX1_keepNumber 1 none, .fieldLink RX1 19 "PartingRoads$Pad" "numbers" "[I"] ++ wsX10)
def wsX1_parse_r1 : List Cond := [Cond.fieldLink RX1 23 "PartingRoads$Pad" "numberCount" "I", Cond.fieldLink RX1 26 "PartingRoads$Pad" "number" "I", Cond.fieldLink RX1 15 "PartingRoads$Pad" "length" "I", Cond.fieldLink RX1 9 "PartingRoads$Pad" "characters" "[C", Cond.methodLink RX1 31 yX1_takes, Cond.instanceMethod yX1_takes, Cond.selects RX1 yX1_takes yX1_takes, Cond.initialized RX1, Cond.code yX1_takes cX1_takes 2 (some .boolean), Cond.methodLink RX1 42 yX1_takesDigit, Cond.instanceMethod yX1_takesDigit, Cond.selects RX1 yX1_takesDigit yX1_takesDigit, Cond.code yX1_takesDigit cX1_takesDigit 3 (some .boolean), Cond.methodLink RX1 35 yX1_atLength, Cond.instanceMethod yX1_atLength, Cond.selects RX1 yX1_atLength yX1_atLength, Cond.code yX1_atLength cX1_atLength 1 (some .boolean), Cond.methodLink RX1 46 yX1_characterBehind, Cond.instanceMethod yX1_characterBehind, Cond.selects RX1 yX1_characterBehind yX1_characterBehind, Cond.code yX1_characterBehind cX1_characterBehind 1 (some .char), Cond.methodLink RX1 39 yX1_keepNumber, Cond.instanceMethod yX1_keepNumber, Cond.selects RX1 yX1_keepNumber yX1_keepNumber]
def wsX1_parse_r2 : List Cond := [Cond.code yX1_keepNumber cX1_keepNumber 1 none, Cond.fieldLink RX1 19 "PartingRoads$Pad" "numbers" "[I"]
def wsX1_parse : List Cond := .code yX1_parse cX1_parse 2 (some .int) :: ((wsX1_parse_r1 ++ wsX1_parse_r2) ++ wsX10)
def wsX4_contains : List Cond := .code yX4_contains cX4_contains 2 (some .boolean) :: ([])
def wsX3_allRoads : List Cond := .code yX3_allRoads cX3_allRoads 1 (some .int) :: ([.fieldLink RX3 15 "PartingRoads$Town" "roadCount" "I"] ++ wsX30)
def wsX3_reach : List Cond := .code yX3_reach cX3_reach 7 (some .int) :: ([.fieldLink RX3 15 "PartingRoads$Town" "roadCount" "I", .fieldLink RX3 28 "PartingRoads$Town" "ends" "[I", .static yX4_contains, .initialized RX4, .code yX4_contains cX4_contains 2 (some .boolean)] ++ wsX30)
def wsX4_setForMembers : List Cond := .code yX4_setForMembers cX4_setForMembers 4 none :: ([.methodLink RX4 117 yX4_contains, .static yX4_contains, .initialized RX4, .code yX4_contains cX4_contains 2 (some .boolean)])
def wsX2_findPieces : List Cond := .code yX2_findPieces cX2_findPieces 4 none :: ([.fieldLink RX2 43 "PartingRoads$Survey" "pieces" "I", .fieldLink RX2 27 "PartingRoads$Survey" "town" "LPartingRoads$Town;", .fieldLink RX2 47 "PartingRoads$Town" "squareCount" "I", .fieldLink RX2 9 "PartingRoads$Survey" "pieceOf" "[I", .static yX4_contains, .initialized RX4, .code yX4_contains cX4_contains 2 (some .boolean), .methodLink RX2 56 yX3_allRoads, .instanceMethod yX3_allRoads, .selects RX3 yX3_allRoads yX3_allRoads, .initialized RX3, .code yX3_allRoads cX3_allRoads 1 (some .int), .fieldLink RX3 15 "PartingRoads$Town" "roadCount" "I", .methodLink RX2 60 yX3_reach, .instanceMethod yX3_reach, .selects RX3 yX3_reach yX3_reach, .code yX3_reach cX3_reach 7 (some .int), .fieldLink RX3 28 "PartingRoads$Town" "ends" "[I", .static yX4_setForMembers, .code yX4_setForMembers cX4_setForMembers 4 none, .methodLink RX4 117 yX4_contains] ++ wsX20 ++ wsX30)
def wsX2_findPartingRoads : List Cond := .code yX2_findPartingRoads cX2_findPartingRoads 2 none :: ([.fieldLink RX2 68 "PartingRoads$Survey" "partingRoads" "I", .fieldLink RX2 27 "PartingRoads$Survey" "town" "LPartingRoads$Town;", .fieldLink RX2 71 "PartingRoads$Town" "roadCount" "I", .fieldLink RX2 21 "PartingRoads$Survey" "lowerSide" "[I", .fieldLink RX2 74 "PartingRoads$Town" "lower" "[I", .fieldLink RX2 77 "PartingRoads$Town" "higher" "[I", .methodLink RX2 56 yX3_allRoads, .instanceMethod yX3_allRoads, .selects RX3 yX3_allRoads yX3_allRoads, .initialized RX3, .code yX3_allRoads cX3_allRoads 1 (some .int), .fieldLink RX3 15 "PartingRoads$Town" "roadCount" "I", .methodLink RX2 60 yX3_reach, .instanceMethod yX3_reach, .selects RX3 yX3_reach yX3_reach, .code yX3_reach cX3_reach 7 (some .int), .fieldLink RX3 28 "PartingRoads$Town" "ends" "[I", .static yX4_contains, .initialized RX4, .code yX4_contains cX4_contains 2 (some .boolean)] ++ wsX20 ++ wsX30)
def wsX2_findDistricts : List Cond := .code yX2_findDistricts cX2_findDistricts 4 none :: ([.fieldLink RX2 80 "PartingRoads$Survey" "districts" "I", .fieldLink RX2 27 "PartingRoads$Survey" "town" "LPartingRoads$Town;", .fieldLink RX2 47 "PartingRoads$Town" "squareCount" "I", .fieldLink RX2 68 "PartingRoads$Survey" "partingRoads" "I", .fieldLink RX2 15 "PartingRoads$Survey" "districtOf" "[I", .fieldLink RX2 18 "PartingRoads$Survey" "districtSquares" "[I", .static yX4_contains, .initialized RX4, .code yX4_contains cX4_contains 2 (some .boolean), .methodLink RX2 56 yX3_allRoads, .instanceMethod yX3_allRoads, .selects RX3 yX3_allRoads yX3_allRoads, .initialized RX3, .code yX3_allRoads cX3_allRoads 1 (some .int), .fieldLink RX3 15 "PartingRoads$Town" "roadCount" "I", .methodLink RX2 60 yX3_reach, .instanceMethod yX3_reach, .selects RX3 yX3_reach yX3_reach, .code yX3_reach cX3_reach 7 (some .int), .fieldLink RX3 28 "PartingRoads$Town" "ends" "[I", .static yX4_setForMembers, .code yX4_setForMembers cX4_setForMembers 4 none, .methodLink RX4 117 yX4_contains] ++ wsX20 ++ wsX30)
def wsX2_renew_r1 : List Cond := [Cond.methodLink RX2 34 yX2_findPieces, Cond.instanceMethod yX2_findPieces, Cond.selects RX2 yX2_findPieces yX2_findPieces, Cond.initialized RX2, Cond.code yX2_findPieces cX2_findPieces 4 none, Cond.fieldLink RX2 43 "PartingRoads$Survey" "pieces" "I", Cond.fieldLink RX2 27 "PartingRoads$Survey" "town" "LPartingRoads$Town;", Cond.fieldLink RX2 47 "PartingRoads$Town" "squareCount" "I", Cond.fieldLink RX2 9 "PartingRoads$Survey" "pieceOf" "[I", Cond.static yX4_contains, Cond.initialized RX4, Cond.code yX4_contains cX4_contains 2 (some .boolean), Cond.methodLink RX2 56 yX3_allRoads, Cond.instanceMethod yX3_allRoads, Cond.selects RX3 yX3_allRoads yX3_allRoads, Cond.initialized RX3, Cond.code yX3_allRoads cX3_allRoads 1 (some .int), Cond.fieldLink RX3 15 "PartingRoads$Town" "roadCount" "I", Cond.methodLink RX2 60 yX3_reach, Cond.instanceMethod yX3_reach, Cond.selects RX3 yX3_reach yX3_reach, Cond.code yX3_reach cX3_reach 7 (some .int), Cond.fieldLink RX3 28 "PartingRoads$Town" "ends" "[I", Cond.static yX4_setForMembers]
def wsX2_renew_r2 : List Cond := [Cond.code yX4_setForMembers cX4_setForMembers 4 none, Cond.methodLink RX4 117 yX4_contains, Cond.methodLink RX2 37 yX2_findPartingRoads, Cond.instanceMethod yX2_findPartingRoads, Cond.selects RX2 yX2_findPartingRoads yX2_findPartingRoads, Cond.code yX2_findPartingRoads cX2_findPartingRoads 2 none, Cond.fieldLink RX2 68 "PartingRoads$Survey" "partingRoads" "I", Cond.fieldLink RX2 71 "PartingRoads$Town" "roadCount" "I", Cond.fieldLink RX2 21 "PartingRoads$Survey" "lowerSide" "[I", Cond.fieldLink RX2 74 "PartingRoads$Town" "lower" "[I", Cond.fieldLink RX2 77 "PartingRoads$Town" "higher" "[I", Cond.methodLink RX2 40 yX2_findDistricts, Cond.instanceMethod yX2_findDistricts, Cond.selects RX2 yX2_findDistricts yX2_findDistricts, Cond.code yX2_findDistricts cX2_findDistricts 4 none, Cond.fieldLink RX2 80 "PartingRoads$Survey" "districts" "I", Cond.fieldLink RX2 15 "PartingRoads$Survey" "districtOf" "[I", Cond.fieldLink RX2 18 "PartingRoads$Survey" "districtSquares" "[I"]
def wsX2_renew : List Cond := .code yX2_renew cX2_renew 1 none :: ((wsX2_renew_r1 ++ wsX2_renew_r2) ++ wsX20 ++ wsX30)
def wsX2_init_r1 : List Cond := [Cond.methodLink RX2 3 objectInit, Cond.instanceMethod objectInit, Cond.code objectInit ⟨#[0xb1]⟩ 1 none, Cond.arrayClass .int, Cond.fieldLink RX2 9 "PartingRoads$Survey" "pieceOf" "[I", Cond.fieldLink RX2 15 "PartingRoads$Survey" "districtOf" "[I", Cond.fieldLink RX2 18 "PartingRoads$Survey" "districtSquares" "[I", Cond.fieldLink RX2 21 "PartingRoads$Survey" "lowerSide" "[I", Cond.fieldLink RX2 24 "PartingRoads$Survey" "distances" "[I", Cond.fieldLink RX2 27 "PartingRoads$Survey" "town" "LPartingRoads$Town;", Cond.methodLink RX2 31 yX2_renew, Cond.instanceMethod yX2_renew, Cond.selects RX2 yX2_renew yX2_renew, Cond.initialized RX2, Cond.code yX2_renew cX2_renew 1 none, Cond.methodLink RX2 34 yX2_findPieces, Cond.instanceMethod yX2_findPieces, Cond.selects RX2 yX2_findPieces yX2_findPieces, Cond.code yX2_findPieces cX2_findPieces 4 none, Cond.fieldLink RX2 43 "PartingRoads$Survey" "pieces" "I", Cond.fieldLink RX2 47 "PartingRoads$Town" "squareCount" "I", Cond.static yX4_contains, Cond.initialized RX4, Cond.code yX4_contains cX4_contains 2 (some .boolean)]
def wsX2_init_r2 : List Cond := [Cond.methodLink RX2 56 yX3_allRoads, Cond.instanceMethod yX3_allRoads, Cond.selects RX3 yX3_allRoads yX3_allRoads, Cond.initialized RX3, Cond.code yX3_allRoads cX3_allRoads 1 (some .int), Cond.fieldLink RX3 15 "PartingRoads$Town" "roadCount" "I", Cond.methodLink RX2 60 yX3_reach, Cond.instanceMethod yX3_reach, Cond.selects RX3 yX3_reach yX3_reach, Cond.code yX3_reach cX3_reach 7 (some .int), Cond.fieldLink RX3 28 "PartingRoads$Town" "ends" "[I", Cond.static yX4_setForMembers, Cond.code yX4_setForMembers cX4_setForMembers 4 none, Cond.methodLink RX4 117 yX4_contains, Cond.methodLink RX2 37 yX2_findPartingRoads, Cond.instanceMethod yX2_findPartingRoads, Cond.selects RX2 yX2_findPartingRoads yX2_findPartingRoads, Cond.code yX2_findPartingRoads cX2_findPartingRoads 2 none, Cond.fieldLink RX2 68 "PartingRoads$Survey" "partingRoads" "I", Cond.fieldLink RX2 71 "PartingRoads$Town" "roadCount" "I", Cond.fieldLink RX2 74 "PartingRoads$Town" "lower" "[I", Cond.fieldLink RX2 77 "PartingRoads$Town" "higher" "[I", Cond.methodLink RX2 40 yX2_findDistricts, Cond.instanceMethod yX2_findDistricts]
def wsX2_init_r3 : List Cond := [Cond.selects RX2 yX2_findDistricts yX2_findDistricts, Cond.code yX2_findDistricts cX2_findDistricts 4 none, Cond.fieldLink RX2 80 "PartingRoads$Survey" "districts" "I"]
def wsX2_init : List Cond := .code yX2_init cX2_init 2 none :: ((wsX2_init_r1 ++ (wsX2_init_r2 ++ wsX2_init_r3)) ++ wsX20 ++ wsX30)
def wsX2_hangTogether : List Cond := .code yX2_hangTogether cX2_hangTogether 3 (some .boolean) :: ([.fieldLink RX2 9 "PartingRoads$Survey" "pieceOf" "[I", .static yX4_contains, .initialized RX4, .code yX4_contains cX4_contains 2 (some .boolean)] ++ wsX20)
def wsX2_squaresBehind : List Cond := .code yX2_squaresBehind cX2_squaresBehind 4 (some .int) :: ([.fieldLink RX2 21 "PartingRoads$Survey" "lowerSide" "[I", .fieldLink RX2 9 "PartingRoads$Survey" "pieceOf" "[I", .static yX4_contains, .initialized RX4, .code yX4_contains cX4_contains 2 (some .boolean)] ++ wsX20)
def wsJ6_bitCount_0f7a4 : List Cond := .code yJ6_bitCount_0f7a4 cJ6_bitCount_0f7a4 1 (some .int) :: ([.constant RJ6 265 (1431655765), .constant RJ6 266 (858993459), .constant RJ6 267 (252645135)])
def wsX2_pairsParted : List Cond := .code yX2_pairsParted cX2_pairsParted 4 (some .int) :: ([.fieldLink RX2 27 "PartingRoads$Survey" "town" "LPartingRoads$Town;", .fieldLink RX2 74 "PartingRoads$Town" "lower" "[I", .fieldLink RX2 9 "PartingRoads$Survey" "pieceOf" "[I", .methodLink RX2 83 yX2_squaresBehind, .instanceMethod yX2_squaresBehind, .selects RX2 yX2_squaresBehind yX2_squaresBehind, .initialized RX2, .code yX2_squaresBehind cX2_squaresBehind 4 (some .int), .fieldLink RX2 21 "PartingRoads$Survey" "lowerSide" "[I", .static yX4_contains, .initialized RX4, .code yX4_contains cX4_contains 2 (some .boolean), .methodLink RX2 86 yJ6_bitCount_0f7a4, .static yJ6_bitCount_0f7a4, .initialized RJ6, .code yJ6_bitCount_0f7a4 cJ6_bitCount_0f7a4 1 (some .int), .constant RJ6 265 (1431655765), .constant RJ6 266 (858993459), .constant RJ6 267 (252645135)] ++ wsX20 ++ wsX30)
def wsX2_roadsBetween : List Cond := .code yX2_roadsBetween cX2_roadsBetween 5 (some .int) :: ([.fieldLink RX2 27 "PartingRoads$Survey" "town" "LPartingRoads$Town;", .fieldLink RX2 71 "PartingRoads$Town" "roadCount" "I", .methodLink RX2 83 yX2_squaresBehind, .instanceMethod yX2_squaresBehind, .selects RX2 yX2_squaresBehind yX2_squaresBehind, .initialized RX2, .code yX2_squaresBehind cX2_squaresBehind 4 (some .int), .fieldLink RX2 21 "PartingRoads$Survey" "lowerSide" "[I", .fieldLink RX2 9 "PartingRoads$Survey" "pieceOf" "[I", .static yX4_contains, .initialized RX4, .code yX4_contains cX4_contains 2 (some .boolean)] ++ wsX20 ++ wsX30)
def wsX2_roadsAhead : List Cond := .code yX2_roadsAhead cX2_roadsAhead 7 (some .int) :: ([.fieldLink RX2 27 "PartingRoads$Survey" "town" "LPartingRoads$Town;", .fieldLink RX2 71 "PartingRoads$Town" "roadCount" "I", .methodLink RX2 83 yX2_squaresBehind, .instanceMethod yX2_squaresBehind, .selects RX2 yX2_squaresBehind yX2_squaresBehind, .initialized RX2, .code yX2_squaresBehind cX2_squaresBehind 4 (some .int), .fieldLink RX2 21 "PartingRoads$Survey" "lowerSide" "[I", .fieldLink RX2 9 "PartingRoads$Survey" "pieceOf" "[I", .static yX4_contains, .initialized RX4, .code yX4_contains cX4_contains 2 (some .boolean), .methodLink RX2 86 yJ6_bitCount_0f7a4, .static yJ6_bitCount_0f7a4, .initialized RJ6, .code yJ6_bitCount_0f7a4 cJ6_bitCount_0f7a4 1 (some .int), .constant RJ6 265 (1431655765), .constant RJ6 266 (858993459), .constant RJ6 267 (252645135)] ++ wsX20 ++ wsX30)
def wsX2_roadOnWay_r1 : List Cond := [Cond.fieldLink RX2 27 "PartingRoads$Survey" "town" "LPartingRoads$Town;", Cond.fieldLink RX2 71 "PartingRoads$Town" "roadCount" "I", Cond.methodLink RX2 92 yX2_roadsBetween, Cond.instanceMethod yX2_roadsBetween, Cond.selects RX2 yX2_roadsBetween yX2_roadsBetween, Cond.initialized RX2, Cond.code yX2_roadsBetween cX2_roadsBetween 5 (some .int), Cond.methodLink RX2 83 yX2_squaresBehind, Cond.instanceMethod yX2_squaresBehind, Cond.selects RX2 yX2_squaresBehind yX2_squaresBehind, Cond.code yX2_squaresBehind cX2_squaresBehind 4 (some .int), Cond.fieldLink RX2 21 "PartingRoads$Survey" "lowerSide" "[I", Cond.fieldLink RX2 9 "PartingRoads$Survey" "pieceOf" "[I", Cond.static yX4_contains, Cond.initialized RX4, Cond.code yX4_contains cX4_contains 2 (some .boolean), Cond.methodLink RX2 95 yX2_roadsAhead, Cond.instanceMethod yX2_roadsAhead, Cond.selects RX2 yX2_roadsAhead yX2_roadsAhead, Cond.code yX2_roadsAhead cX2_roadsAhead 7 (some .int), Cond.methodLink RX2 86 yJ6_bitCount_0f7a4, Cond.static yJ6_bitCount_0f7a4, Cond.initialized RJ6, Cond.code yJ6_bitCount_0f7a4 cJ6_bitCount_0f7a4 1 (some .int)]
def wsX2_roadOnWay_r2 : List Cond := [Cond.constant RJ6 265 (1431655765), Cond.constant RJ6 266 (858993459), Cond.constant RJ6 267 (252645135)]
def wsX2_roadOnWay : List Cond := .code yX2_roadOnWay cX2_roadOnWay 6 (some .int) :: ((wsX2_roadOnWay_r1 ++ wsX2_roadOnWay_r2) ++ wsX20 ++ wsX30)
def wsX2_partingRoadsAfter_r1 : List Cond := [Cond.fieldLink RX2 68 "PartingRoads$Survey" "partingRoads" "I", Cond.methodLink RX2 86 yJ6_bitCount_0f7a4, Cond.static yJ6_bitCount_0f7a4, Cond.initialized RJ6, Cond.code yJ6_bitCount_0f7a4 cJ6_bitCount_0f7a4 1 (some .int), Cond.constant RJ6 265 (1431655765), Cond.constant RJ6 266 (858993459), Cond.constant RJ6 267 (252645135), Cond.methodLink RX2 99 yX2_hangTogether, Cond.instanceMethod yX2_hangTogether, Cond.selects RX2 yX2_hangTogether yX2_hangTogether, Cond.initialized RX2, Cond.code yX2_hangTogether cX2_hangTogether 3 (some .boolean), Cond.fieldLink RX2 9 "PartingRoads$Survey" "pieceOf" "[I", Cond.static yX4_contains, Cond.initialized RX4, Cond.code yX4_contains cX4_contains 2 (some .boolean), Cond.methodLink RX2 92 yX2_roadsBetween, Cond.instanceMethod yX2_roadsBetween, Cond.selects RX2 yX2_roadsBetween yX2_roadsBetween, Cond.code yX2_roadsBetween cX2_roadsBetween 5 (some .int), Cond.fieldLink RX2 27 "PartingRoads$Survey" "town" "LPartingRoads$Town;", Cond.fieldLink RX2 71 "PartingRoads$Town" "roadCount" "I", Cond.methodLink RX2 83 yX2_squaresBehind]
def wsX2_partingRoadsAfter_r2 : List Cond := [Cond.instanceMethod yX2_squaresBehind, Cond.selects RX2 yX2_squaresBehind yX2_squaresBehind, Cond.code yX2_squaresBehind cX2_squaresBehind 4 (some .int), Cond.fieldLink RX2 21 "PartingRoads$Survey" "lowerSide" "[I"]
def wsX2_partingRoadsAfter : List Cond := .code yX2_partingRoadsAfter cX2_partingRoadsAfter 4 (some .int) :: ((wsX2_partingRoadsAfter_r1 ++ wsX2_partingRoadsAfter_r2) ++ wsX20 ++ wsX30)
def wsX3_roadsAt : List Cond := .code yX3_roadsAt cX3_roadsAt 4 (some .int) :: ([.fieldLink RX3 15 "PartingRoads$Town" "roadCount" "I", .fieldLink RX3 28 "PartingRoads$Town" "ends" "[I", .static yX4_contains, .initialized RX4, .code yX4_contains cX4_contains 2 (some .boolean)] ++ wsX30)
def wsX2_morePiecesWithout_r1 : List Cond := [Cond.fieldLink RX2 9 "PartingRoads$Survey" "pieceOf" "[I", Cond.fieldLink RX2 27 "PartingRoads$Survey" "town" "LPartingRoads$Town;", Cond.fieldLink RX2 47 "PartingRoads$Town" "squareCount" "I", Cond.methodLink RX2 105 Lib.Math.max.name, Cond.static Lib.Math.max.name, Cond.initialized "java/lang/Math", Cond.code Lib.Math.max.name Lib.Math.max.code 2 (some .int), Cond.methodLink RX2 56 yX3_allRoads, Cond.instanceMethod yX3_allRoads, Cond.selects RX3 yX3_allRoads yX3_allRoads, Cond.initialized RX3, Cond.code yX3_allRoads cX3_allRoads 1 (some .int), Cond.fieldLink RX3 15 "PartingRoads$Town" "roadCount" "I", Cond.methodLink RX2 102 yX3_roadsAt, Cond.instanceMethod yX3_roadsAt, Cond.selects RX3 yX3_roadsAt yX3_roadsAt, Cond.code yX3_roadsAt cX3_roadsAt 4 (some .int), Cond.fieldLink RX3 28 "PartingRoads$Town" "ends" "[I", Cond.static yX4_contains, Cond.initialized RX4, Cond.code yX4_contains cX4_contains 2 (some .boolean), Cond.methodLink RX2 60 yX3_reach, Cond.instanceMethod yX3_reach, Cond.selects RX3 yX3_reach yX3_reach]
def wsX2_morePiecesWithout_r2 : List Cond := [Cond.code yX3_reach cX3_reach 7 (some .int)]
def wsX2_morePiecesWithout : List Cond := .code yX2_morePiecesWithout cX2_morePiecesWithout 6 (some .int) :: ((wsX2_morePiecesWithout_r1 ++ wsX2_morePiecesWithout_r2) ++ wsX20 ++ wsX30)
def wsX2_partingSquares_r1 : List Cond := [Cond.fieldLink RX2 27 "PartingRoads$Survey" "town" "LPartingRoads$Town;", Cond.fieldLink RX2 47 "PartingRoads$Town" "squareCount" "I", Cond.methodLink RX2 110 yX2_morePiecesWithout, Cond.instanceMethod yX2_morePiecesWithout, Cond.selects RX2 yX2_morePiecesWithout yX2_morePiecesWithout, Cond.initialized RX2, Cond.code yX2_morePiecesWithout cX2_morePiecesWithout 6 (some .int), Cond.fieldLink RX2 9 "PartingRoads$Survey" "pieceOf" "[I", Cond.methodLink RX2 105 Lib.Math.max.name, Cond.static Lib.Math.max.name, Cond.initialized "java/lang/Math", Cond.code Lib.Math.max.name Lib.Math.max.code 2 (some .int), Cond.methodLink RX2 56 yX3_allRoads, Cond.instanceMethod yX3_allRoads, Cond.selects RX3 yX3_allRoads yX3_allRoads, Cond.initialized RX3, Cond.code yX3_allRoads cX3_allRoads 1 (some .int), Cond.fieldLink RX3 15 "PartingRoads$Town" "roadCount" "I", Cond.methodLink RX2 102 yX3_roadsAt, Cond.instanceMethod yX3_roadsAt, Cond.selects RX3 yX3_roadsAt yX3_roadsAt, Cond.code yX3_roadsAt cX3_roadsAt 4 (some .int), Cond.fieldLink RX3 28 "PartingRoads$Town" "ends" "[I", Cond.static yX4_contains]
def wsX2_partingSquares_r2 : List Cond := [Cond.initialized RX4, Cond.code yX4_contains cX4_contains 2 (some .boolean), Cond.methodLink RX2 60 yX3_reach, Cond.instanceMethod yX3_reach, Cond.selects RX3 yX3_reach yX3_reach, Cond.code yX3_reach cX3_reach 7 (some .int)]
def wsX2_partingSquares : List Cond := .code yX2_partingSquares cX2_partingSquares 3 (some .int) :: ((wsX2_partingSquares_r1 ++ wsX2_partingSquares_r2) ++ wsX20 ++ wsX30)
def wsX2_partingRoadsOut : List Cond := .code yX2_partingRoadsOut cX2_partingRoadsOut 4 (some .int) :: ([.fieldLink RX2 27 "PartingRoads$Survey" "town" "LPartingRoads$Town;", .fieldLink RX2 71 "PartingRoads$Town" "roadCount" "I", .fieldLink RX2 68 "PartingRoads$Survey" "partingRoads" "I", .fieldLink RX2 113 "PartingRoads$Town" "ends" "[I", .static yX4_contains, .initialized RX4, .code yX4_contains cX4_contains 2 (some .boolean)] ++ wsX20 ++ wsX30)
def wsX3_roadsWithin : List Cond := .code yX3_roadsWithin cX3_roadsWithin 4 (some .int) :: ([.fieldLink RX3 15 "PartingRoads$Town" "roadCount" "I", .fieldLink RX3 28 "PartingRoads$Town" "ends" "[I"] ++ wsX30)
def wsX3_lengthOf : List Cond := .code yX3_lengthOf cX3_lengthOf 4 (some .int) :: ([.fieldLink RX3 15 "PartingRoads$Town" "roadCount" "I", .fieldLink RX3 25 "PartingRoads$Town" "lengths" "[I", .static yX4_contains, .initialized RX4, .code yX4_contains cX4_contains 2 (some .boolean)] ++ wsX30)
def wsX2_longestDistrict : List Cond := .code yX2_longestDistrict cX2_longestDistrict 5 (some .int) :: ([.fieldLink RX2 27 "PartingRoads$Survey" "town" "LPartingRoads$Town;", .fieldLink RX2 18 "PartingRoads$Survey" "districtSquares" "[I", .fieldLink RX2 80 "PartingRoads$Survey" "districts" "I", .methodLink RX2 116 yX3_roadsWithin, .instanceMethod yX3_roadsWithin, .selects RX3 yX3_roadsWithin yX3_roadsWithin, .initialized RX3, .code yX3_roadsWithin cX3_roadsWithin 4 (some .int), .fieldLink RX3 15 "PartingRoads$Town" "roadCount" "I", .fieldLink RX3 28 "PartingRoads$Town" "ends" "[I", .methodLink RX2 119 yX3_lengthOf, .instanceMethod yX3_lengthOf, .selects RX3 yX3_lengthOf yX3_lengthOf, .code yX3_lengthOf cX3_lengthOf 4 (some .int), .fieldLink RX3 25 "PartingRoads$Town" "lengths" "[I", .static yX4_contains, .initialized RX4, .code yX4_contains cX4_contains 2 (some .boolean)] ++ wsX20 ++ wsX30)
def wsX2_leafDistricts : List Cond := .code yX2_leafDistricts cX2_leafDistricts 5 (some .int) :: ([.fieldLink RX2 80 "PartingRoads$Survey" "districts" "I", .fieldLink RX2 18 "PartingRoads$Survey" "districtSquares" "[I", .methodLink RX2 122 yX2_partingRoadsOut, .instanceMethod yX2_partingRoadsOut, .selects RX2 yX2_partingRoadsOut yX2_partingRoadsOut, .initialized RX2, .code yX2_partingRoadsOut cX2_partingRoadsOut 4 (some .int), .fieldLink RX2 27 "PartingRoads$Survey" "town" "LPartingRoads$Town;", .fieldLink RX2 71 "PartingRoads$Town" "roadCount" "I", .fieldLink RX2 68 "PartingRoads$Survey" "partingRoads" "I", .fieldLink RX2 113 "PartingRoads$Town" "ends" "[I", .static yX4_contains, .initialized RX4, .code yX4_contains cX4_contains 2 (some .boolean)] ++ wsX20 ++ wsX30)
def wsX3_oneRoadFurther : List Cond := .code yX3_oneRoadFurther cX3_oneRoadFurther 5 (some .int) :: ([.fieldLink RX3 15 "PartingRoads$Town" "roadCount" "I", .fieldLink RX3 28 "PartingRoads$Town" "ends" "[I", .static yX4_contains, .initialized RX4, .code yX4_contains cX4_contains 2 (some .boolean)] ++ wsX30)
def wsX2_leastRing : List Cond := .code yX2_leastRing cX2_leastRing 5 (some .int) :: ([.fieldLink RX2 27 "PartingRoads$Survey" "town" "LPartingRoads$Town;", .fieldLink RX2 74 "PartingRoads$Town" "lower" "[I", .fieldLink RX2 77 "PartingRoads$Town" "higher" "[I", .methodLink RX2 56 yX3_allRoads, .instanceMethod yX3_allRoads, .selects RX3 yX3_allRoads yX3_allRoads, .initialized RX3, .code yX3_allRoads cX3_allRoads 1 (some .int), .fieldLink RX3 15 "PartingRoads$Town" "roadCount" "I", .methodLink RX2 125 yX3_oneRoadFurther, .instanceMethod yX3_oneRoadFurther, .selects RX3 yX3_oneRoadFurther yX3_oneRoadFurther, .code yX3_oneRoadFurther cX3_oneRoadFurther 5 (some .int), .fieldLink RX3 28 "PartingRoads$Town" "ends" "[I", .static yX4_contains, .initialized RX4, .code yX4_contains cX4_contains 2 (some .boolean)] ++ wsX20 ++ wsX30)
def wsX2_shorten : List Cond := .code yX2_shorten cX2_shorten 4 (some .boolean) :: ([.fieldLink RX2 24 "PartingRoads$Survey" "distances" "[I"] ++ wsX20)
def wsX2_leastLength : List Cond := .code yX2_leastLength cX2_leastLength 6 (some .int) :: ([.fieldLink RX2 24 "PartingRoads$Survey" "distances" "[I", .fieldLink RX2 27 "PartingRoads$Survey" "town" "LPartingRoads$Town;", .fieldLink RX2 71 "PartingRoads$Town" "roadCount" "I", .fieldLink RX2 74 "PartingRoads$Town" "lower" "[I", .fieldLink RX2 77 "PartingRoads$Town" "higher" "[I", .fieldLink RX2 128 "PartingRoads$Town" "lengths" "[I", .methodLink RX2 131 yX2_shorten, .instanceMethod yX2_shorten, .selects RX2 yX2_shorten yX2_shorten, .initialized RX2, .code yX2_shorten cX2_shorten 4 (some .boolean)] ++ wsX20 ++ wsX30)
def wsX3_hasSquare : List Cond := .code yX3_hasSquare cX3_hasSquare 2 (some .boolean) :: ([.fieldLink RX3 9 "PartingRoads$Town" "squareCount" "I"] ++ wsX30)
def wsX3_hasRoad : List Cond := .code yX3_hasRoad cX3_hasRoad 2 (some .boolean) :: ([.fieldLink RX3 15 "PartingRoads$Town" "roadCount" "I"] ++ wsX30)
def wsX3_fitsInto : List Cond := .code yX3_fitsInto cX3_fitsInto 3 (some .boolean) :: ([.fieldLink RX3 15 "PartingRoads$Town" "roadCount" "I", .fieldLink RX3 22 "PartingRoads$Town" "higher" "[I"] ++ wsX30)
def wsX3_addRoad : List Cond := .code yX3_addRoad cX3_addRoad 4 none :: ([.fieldLink RX3 15 "PartingRoads$Town" "roadCount" "I", .fieldLink RX3 18 "PartingRoads$Town" "lower" "[I", .methodLink RX3 37 Lib.Math.min.name, .static Lib.Math.min.name, .initialized "java/lang/Math", .code Lib.Math.min.name Lib.Math.min.code 2 (some .int), .fieldLink RX3 22 "PartingRoads$Town" "higher" "[I", .methodLink RX3 43 Lib.Math.max.name, .static Lib.Math.max.name, .code Lib.Math.max.name Lib.Math.max.code 2 (some .int), .fieldLink RX3 25 "PartingRoads$Town" "lengths" "[I", .fieldLink RX3 28 "PartingRoads$Town" "ends" "[I"] ++ wsX30)
def wsX3_removeRoad : List Cond := .code yX3_removeRoad cX3_removeRoad 3 none :: ([.fieldLink RX3 15 "PartingRoads$Town" "roadCount" "I", .fieldLink RX3 18 "PartingRoads$Town" "lower" "[I", .fieldLink RX3 22 "PartingRoads$Town" "higher" "[I", .fieldLink RX3 25 "PartingRoads$Town" "lengths" "[I", .fieldLink RX3 28 "PartingRoads$Town" "ends" "[I"] ++ wsX30)
def wsX4_init_r1 : List Cond := [Cond.methodLink RX4 1 objectInit, Cond.instanceMethod objectInit, Cond.code objectInit ⟨#[0xb1]⟩ 1 none, Cond.classLink RX4 7 RX3, Cond.instantiable RX3 6, Cond.initialized RX3, Cond.fieldLink RX4 10 "PartingRoads" "town" "LPartingRoads$Town;", Cond.classLink RX4 16 RX2, Cond.instantiable RX2 9, Cond.initialized RX2, Cond.fieldLink RX4 21 "PartingRoads" "survey" "LPartingRoads$Survey;", Cond.classLink RX4 25 RX1, Cond.instantiable RX1 5, Cond.initialized RX1, Cond.fieldLink RX4 28 "PartingRoads" "pad" "LPartingRoads$Pad;", Cond.classLink RX4 32 RX0, Cond.instantiable RX0 2, Cond.initialized RX0, Cond.fieldLink RX4 35 "PartingRoads" "history" "LPartingRoads$History;", Cond.fieldLink RX4 39 "PartingRoads" "slots" "[LPartingRoads$Town;", Cond.arrayClass .boolean, Cond.fieldLink RX4 43 "PartingRoads" "saved" "[Z", Cond.instanceMethod yX3_init, Cond.code yX3_init cX3_init 1 none]
def wsX4_init_r2 : List Cond := [Cond.methodLink RX3 3 objectInit, Cond.fieldLink RX3 9 "PartingRoads$Town" "squareCount" "I", Cond.fieldLink RX3 15 "PartingRoads$Town" "roadCount" "I", Cond.arrayClass .int, Cond.fieldLink RX3 18 "PartingRoads$Town" "lower" "[I", Cond.fieldLink RX3 22 "PartingRoads$Town" "higher" "[I", Cond.fieldLink RX3 25 "PartingRoads$Town" "lengths" "[I", Cond.fieldLink RX3 28 "PartingRoads$Town" "ends" "[I", Cond.methodLink RX4 18 yX2_init, Cond.instanceMethod yX2_init, Cond.code yX2_init cX2_init 2 none, Cond.methodLink RX2 3 objectInit, Cond.fieldLink RX2 9 "PartingRoads$Survey" "pieceOf" "[I", Cond.fieldLink RX2 15 "PartingRoads$Survey" "districtOf" "[I", Cond.fieldLink RX2 18 "PartingRoads$Survey" "districtSquares" "[I", Cond.fieldLink RX2 21 "PartingRoads$Survey" "lowerSide" "[I", Cond.fieldLink RX2 24 "PartingRoads$Survey" "distances" "[I", Cond.fieldLink RX2 27 "PartingRoads$Survey" "town" "LPartingRoads$Town;", Cond.methodLink RX2 31 yX2_renew, Cond.instanceMethod yX2_renew, Cond.selects RX2 yX2_renew yX2_renew, Cond.code yX2_renew cX2_renew 1 none, Cond.methodLink RX2 34 yX2_findPieces, Cond.instanceMethod yX2_findPieces]
def wsX4_init_r3 : List Cond := [Cond.selects RX2 yX2_findPieces yX2_findPieces, Cond.code yX2_findPieces cX2_findPieces 4 none, Cond.fieldLink RX2 43 "PartingRoads$Survey" "pieces" "I", Cond.fieldLink RX2 47 "PartingRoads$Town" "squareCount" "I", Cond.static yX4_contains, Cond.initialized RX4, Cond.code yX4_contains cX4_contains 2 (some .boolean), Cond.methodLink RX2 56 yX3_allRoads, Cond.instanceMethod yX3_allRoads, Cond.selects RX3 yX3_allRoads yX3_allRoads, Cond.code yX3_allRoads cX3_allRoads 1 (some .int), Cond.methodLink RX2 60 yX3_reach, Cond.instanceMethod yX3_reach, Cond.selects RX3 yX3_reach yX3_reach, Cond.code yX3_reach cX3_reach 7 (some .int), Cond.static yX4_setForMembers, Cond.code yX4_setForMembers cX4_setForMembers 4 none, Cond.methodLink RX4 117 yX4_contains, Cond.methodLink RX2 37 yX2_findPartingRoads, Cond.instanceMethod yX2_findPartingRoads, Cond.selects RX2 yX2_findPartingRoads yX2_findPartingRoads, Cond.code yX2_findPartingRoads cX2_findPartingRoads 2 none, Cond.fieldLink RX2 68 "PartingRoads$Survey" "partingRoads" "I", Cond.fieldLink RX2 71 "PartingRoads$Town" "roadCount" "I"]
def wsX4_init_r4 : List Cond := [Cond.fieldLink RX2 74 "PartingRoads$Town" "lower" "[I", Cond.fieldLink RX2 77 "PartingRoads$Town" "higher" "[I", Cond.methodLink RX2 40 yX2_findDistricts, Cond.instanceMethod yX2_findDistricts, Cond.selects RX2 yX2_findDistricts yX2_findDistricts, Cond.code yX2_findDistricts cX2_findDistricts 4 none, Cond.fieldLink RX2 80 "PartingRoads$Survey" "districts" "I", Cond.instanceMethod yX1_init, Cond.code yX1_init cX1_init 1 none, Cond.methodLink RX1 3 objectInit, Cond.arrayClass .char, Cond.fieldLink RX1 9 "PartingRoads$Pad" "characters" "[C", Cond.fieldLink RX1 15 "PartingRoads$Pad" "length" "I", Cond.fieldLink RX1 19 "PartingRoads$Pad" "numbers" "[I", Cond.fieldLink RX1 23 "PartingRoads$Pad" "numberCount" "I", Cond.fieldLink RX1 26 "PartingRoads$Pad" "number" "I", Cond.methodLink RX4 34 yX0_init, Cond.instanceMethod yX0_init, Cond.code yX0_init cX0_init 2 none, Cond.methodLink RX0 3 objectInit, Cond.classLink RX0 9 RX3, Cond.fieldLink RX0 11 "PartingRoads$History" "states" "[LPartingRoads$Town;", Cond.fieldLink RX0 17 "PartingRoads$History" "changes" "I"]
def wsX4_init : List Cond := .code yX4_init cX4_init 2 none :: ((wsX4_init_r1 ++ (wsX4_init_r2 ++ (wsX4_init_r3 ++ wsX4_init_r4))) ++ wsX30 ++ wsX40 ++ wsX20 ++ wsX10 ++ wsX00)
def wsX4_squares_r1 : List Cond := [Cond.fieldLink RX4 10 "PartingRoads" "town" "LPartingRoads$Town;", Cond.fieldLink RX4 51 "PartingRoads$Town" "squareCount" "I", Cond.fieldLink RX4 35 "PartingRoads" "history" "LPartingRoads$History;", Cond.fieldLink RX4 21 "PartingRoads" "survey" "LPartingRoads$Survey;", Cond.methodLink RX4 47 yX3_fitsInto, Cond.instanceMethod yX3_fitsInto, Cond.selects RX3 yX3_fitsInto yX3_fitsInto, Cond.initialized RX3, Cond.code yX3_fitsInto cX3_fitsInto 3 (some .boolean), Cond.fieldLink RX3 15 "PartingRoads$Town" "roadCount" "I", Cond.fieldLink RX3 22 "PartingRoads$Town" "higher" "[I", Cond.methodLink RX4 55 yX0_record, Cond.instanceMethod yX0_record, Cond.selects RX0 yX0_record yX0_record, Cond.initialized RX0, Cond.code yX0_record cX0_record 2 none, Cond.fieldLink RX0 17 "PartingRoads$History" "changes" "I", Cond.fieldLink RX0 11 "PartingRoads$History" "states" "[LPartingRoads$Town;", Cond.methodLink RX0 22 yX0_dropOldest, Cond.instanceMethod yX0_dropOldest, Cond.selects RX0 yX0_dropOldest yX0_dropOldest, Cond.code yX0_dropOldest cX0_dropOldest 3 none, Cond.methodLink RX0 25 yX3_copyFrom, Cond.instanceMethod yX3_copyFrom]
def wsX4_squares_r2 : List Cond := [Cond.selects RX3 yX3_copyFrom yX3_copyFrom, Cond.code yX3_copyFrom cX3_copyFrom 2 none, Cond.fieldLink RX3 9 "PartingRoads$Town" "squareCount" "I", Cond.fieldLink RX3 18 "PartingRoads$Town" "lower" "[I", Cond.methodLink RX3 31 arraycopyName, Cond.native arraycopyName, Cond.static arraycopyName, Cond.initialized "java/lang/System", Cond.fieldLink RX3 25 "PartingRoads$Town" "lengths" "[I", Cond.fieldLink RX3 28 "PartingRoads$Town" "ends" "[I", Cond.methodLink RX4 58 yX2_renew, Cond.instanceMethod yX2_renew, Cond.selects RX2 yX2_renew yX2_renew, Cond.initialized RX2, Cond.code yX2_renew cX2_renew 1 none, Cond.methodLink RX2 34 yX2_findPieces, Cond.instanceMethod yX2_findPieces, Cond.selects RX2 yX2_findPieces yX2_findPieces, Cond.code yX2_findPieces cX2_findPieces 4 none, Cond.fieldLink RX2 43 "PartingRoads$Survey" "pieces" "I", Cond.fieldLink RX2 27 "PartingRoads$Survey" "town" "LPartingRoads$Town;", Cond.fieldLink RX2 47 "PartingRoads$Town" "squareCount" "I", Cond.fieldLink RX2 9 "PartingRoads$Survey" "pieceOf" "[I", Cond.static yX4_contains]
def wsX4_squares_r3 : List Cond := [Cond.initialized RX4, Cond.code yX4_contains cX4_contains 2 (some .boolean), Cond.methodLink RX2 56 yX3_allRoads, Cond.instanceMethod yX3_allRoads, Cond.selects RX3 yX3_allRoads yX3_allRoads, Cond.code yX3_allRoads cX3_allRoads 1 (some .int), Cond.methodLink RX2 60 yX3_reach, Cond.instanceMethod yX3_reach, Cond.selects RX3 yX3_reach yX3_reach, Cond.code yX3_reach cX3_reach 7 (some .int), Cond.static yX4_setForMembers, Cond.code yX4_setForMembers cX4_setForMembers 4 none, Cond.methodLink RX4 117 yX4_contains, Cond.methodLink RX2 37 yX2_findPartingRoads, Cond.instanceMethod yX2_findPartingRoads, Cond.selects RX2 yX2_findPartingRoads yX2_findPartingRoads, Cond.code yX2_findPartingRoads cX2_findPartingRoads 2 none, Cond.fieldLink RX2 68 "PartingRoads$Survey" "partingRoads" "I", Cond.fieldLink RX2 71 "PartingRoads$Town" "roadCount" "I", Cond.fieldLink RX2 21 "PartingRoads$Survey" "lowerSide" "[I", Cond.fieldLink RX2 74 "PartingRoads$Town" "lower" "[I", Cond.fieldLink RX2 77 "PartingRoads$Town" "higher" "[I", Cond.methodLink RX2 40 yX2_findDistricts, Cond.instanceMethod yX2_findDistricts]
def wsX4_squares_r4 : List Cond := [Cond.selects RX2 yX2_findDistricts yX2_findDistricts, Cond.code yX2_findDistricts cX2_findDistricts 4 none, Cond.fieldLink RX2 80 "PartingRoads$Survey" "districts" "I", Cond.fieldLink RX2 15 "PartingRoads$Survey" "districtOf" "[I", Cond.fieldLink RX2 18 "PartingRoads$Survey" "districtSquares" "[I"]
def wsX4_squares : List Cond := .code yX4_squares cX4_squares 3 (some .int) :: ((wsX4_squares_r1 ++ (wsX4_squares_r2 ++ (wsX4_squares_r3 ++ wsX4_squares_r4))) ++ wsX40 ++ wsX30 ++ wsX00 ++ wsX20)
def wsX4_build_r1 : List Cond := [Cond.fieldLink RX4 10 "PartingRoads" "town" "LPartingRoads$Town;", Cond.fieldLink RX4 64 "PartingRoads$Town" "roadCount" "I", Cond.fieldLink RX4 35 "PartingRoads" "history" "LPartingRoads$History;", Cond.fieldLink RX4 21 "PartingRoads" "survey" "LPartingRoads$Survey;", Cond.fieldLink RX4 71 "PartingRoads$Survey" "pieces" "I", Cond.methodLink RX4 61 yX3_hasSquare, Cond.instanceMethod yX3_hasSquare, Cond.selects RX3 yX3_hasSquare yX3_hasSquare, Cond.initialized RX3, Cond.code yX3_hasSquare cX3_hasSquare 2 (some .boolean), Cond.fieldLink RX3 9 "PartingRoads$Town" "squareCount" "I", Cond.methodLink RX4 55 yX0_record, Cond.instanceMethod yX0_record, Cond.selects RX0 yX0_record yX0_record, Cond.initialized RX0, Cond.code yX0_record cX0_record 2 none, Cond.fieldLink RX0 17 "PartingRoads$History" "changes" "I", Cond.fieldLink RX0 11 "PartingRoads$History" "states" "[LPartingRoads$Town;", Cond.methodLink RX0 22 yX0_dropOldest, Cond.instanceMethod yX0_dropOldest, Cond.selects RX0 yX0_dropOldest yX0_dropOldest, Cond.code yX0_dropOldest cX0_dropOldest 3 none, Cond.methodLink RX0 25 yX3_copyFrom, Cond.instanceMethod yX3_copyFrom]
def wsX4_build_r2 : List Cond := [Cond.selects RX3 yX3_copyFrom yX3_copyFrom, Cond.code yX3_copyFrom cX3_copyFrom 2 none, Cond.fieldLink RX3 15 "PartingRoads$Town" "roadCount" "I", Cond.fieldLink RX3 18 "PartingRoads$Town" "lower" "[I", Cond.methodLink RX3 31 arraycopyName, Cond.native arraycopyName, Cond.static arraycopyName, Cond.initialized "java/lang/System", Cond.fieldLink RX3 22 "PartingRoads$Town" "higher" "[I", Cond.fieldLink RX3 25 "PartingRoads$Town" "lengths" "[I", Cond.fieldLink RX3 28 "PartingRoads$Town" "ends" "[I", Cond.methodLink RX4 67 yX3_addRoad, Cond.instanceMethod yX3_addRoad, Cond.selects RX3 yX3_addRoad yX3_addRoad, Cond.code yX3_addRoad cX3_addRoad 4 none, Cond.methodLink RX3 37 Lib.Math.min.name, Cond.static Lib.Math.min.name, Cond.initialized "java/lang/Math", Cond.code Lib.Math.min.name Lib.Math.min.code 2 (some .int), Cond.methodLink RX3 43 Lib.Math.max.name, Cond.static Lib.Math.max.name, Cond.code Lib.Math.max.name Lib.Math.max.code 2 (some .int), Cond.methodLink RX4 58 yX2_renew, Cond.instanceMethod yX2_renew]
def wsX4_build_r3 : List Cond := [Cond.selects RX2 yX2_renew yX2_renew, Cond.initialized RX2, Cond.code yX2_renew cX2_renew 1 none, Cond.methodLink RX2 34 yX2_findPieces, Cond.instanceMethod yX2_findPieces, Cond.selects RX2 yX2_findPieces yX2_findPieces, Cond.code yX2_findPieces cX2_findPieces 4 none, Cond.fieldLink RX2 43 "PartingRoads$Survey" "pieces" "I", Cond.fieldLink RX2 27 "PartingRoads$Survey" "town" "LPartingRoads$Town;", Cond.fieldLink RX2 47 "PartingRoads$Town" "squareCount" "I", Cond.fieldLink RX2 9 "PartingRoads$Survey" "pieceOf" "[I", Cond.static yX4_contains, Cond.initialized RX4, Cond.code yX4_contains cX4_contains 2 (some .boolean), Cond.methodLink RX2 56 yX3_allRoads, Cond.instanceMethod yX3_allRoads, Cond.selects RX3 yX3_allRoads yX3_allRoads, Cond.code yX3_allRoads cX3_allRoads 1 (some .int), Cond.methodLink RX2 60 yX3_reach, Cond.instanceMethod yX3_reach, Cond.selects RX3 yX3_reach yX3_reach, Cond.code yX3_reach cX3_reach 7 (some .int), Cond.static yX4_setForMembers, Cond.code yX4_setForMembers cX4_setForMembers 4 none]
def wsX4_build_r4 : List Cond := [Cond.methodLink RX4 117 yX4_contains, Cond.methodLink RX2 37 yX2_findPartingRoads, Cond.instanceMethod yX2_findPartingRoads, Cond.selects RX2 yX2_findPartingRoads yX2_findPartingRoads, Cond.code yX2_findPartingRoads cX2_findPartingRoads 2 none, Cond.fieldLink RX2 68 "PartingRoads$Survey" "partingRoads" "I", Cond.fieldLink RX2 71 "PartingRoads$Town" "roadCount" "I", Cond.fieldLink RX2 21 "PartingRoads$Survey" "lowerSide" "[I", Cond.fieldLink RX2 74 "PartingRoads$Town" "lower" "[I", Cond.fieldLink RX2 77 "PartingRoads$Town" "higher" "[I", Cond.methodLink RX2 40 yX2_findDistricts, Cond.instanceMethod yX2_findDistricts, Cond.selects RX2 yX2_findDistricts yX2_findDistricts, Cond.code yX2_findDistricts cX2_findDistricts 4 none, Cond.fieldLink RX2 80 "PartingRoads$Survey" "districts" "I", Cond.fieldLink RX2 15 "PartingRoads$Survey" "districtOf" "[I", Cond.fieldLink RX2 18 "PartingRoads$Survey" "districtSquares" "[I"]
def wsX4_build : List Cond := .code yX4_build cX4_build 4 (some .int) :: ((wsX4_build_r1 ++ (wsX4_build_r2 ++ (wsX4_build_r3 ++ wsX4_build_r4))) ++ wsX40 ++ wsX30 ++ wsX20 ++ wsX00)
def wsX4_lose_r1 : List Cond := [Cond.fieldLink RX4 10 "PartingRoads" "town" "LPartingRoads$Town;", Cond.fieldLink RX4 35 "PartingRoads" "history" "LPartingRoads$History;", Cond.fieldLink RX4 21 "PartingRoads" "survey" "LPartingRoads$Survey;", Cond.fieldLink RX4 71 "PartingRoads$Survey" "pieces" "I", Cond.methodLink RX4 74 yX3_hasRoad, Cond.instanceMethod yX3_hasRoad, Cond.selects RX3 yX3_hasRoad yX3_hasRoad, Cond.initialized RX3, Cond.code yX3_hasRoad cX3_hasRoad 2 (some .boolean), Cond.fieldLink RX3 15 "PartingRoads$Town" "roadCount" "I", Cond.methodLink RX4 55 yX0_record, Cond.instanceMethod yX0_record, Cond.selects RX0 yX0_record yX0_record, Cond.initialized RX0, Cond.code yX0_record cX0_record 2 none, Cond.fieldLink RX0 17 "PartingRoads$History" "changes" "I", Cond.fieldLink RX0 11 "PartingRoads$History" "states" "[LPartingRoads$Town;", Cond.methodLink RX0 22 yX0_dropOldest, Cond.instanceMethod yX0_dropOldest, Cond.selects RX0 yX0_dropOldest yX0_dropOldest, Cond.code yX0_dropOldest cX0_dropOldest 3 none, Cond.methodLink RX0 25 yX3_copyFrom, Cond.instanceMethod yX3_copyFrom, Cond.selects RX3 yX3_copyFrom yX3_copyFrom]
def wsX4_lose_r2 : List Cond := [Cond.code yX3_copyFrom cX3_copyFrom 2 none, Cond.fieldLink RX3 9 "PartingRoads$Town" "squareCount" "I", Cond.fieldLink RX3 18 "PartingRoads$Town" "lower" "[I", Cond.methodLink RX3 31 arraycopyName, Cond.native arraycopyName, Cond.static arraycopyName, Cond.initialized "java/lang/System", Cond.fieldLink RX3 22 "PartingRoads$Town" "higher" "[I", Cond.fieldLink RX3 25 "PartingRoads$Town" "lengths" "[I", Cond.fieldLink RX3 28 "PartingRoads$Town" "ends" "[I", Cond.methodLink RX4 77 yX3_removeRoad, Cond.instanceMethod yX3_removeRoad, Cond.selects RX3 yX3_removeRoad yX3_removeRoad, Cond.code yX3_removeRoad cX3_removeRoad 3 none, Cond.methodLink RX4 58 yX2_renew, Cond.instanceMethod yX2_renew, Cond.selects RX2 yX2_renew yX2_renew, Cond.initialized RX2, Cond.code yX2_renew cX2_renew 1 none, Cond.methodLink RX2 34 yX2_findPieces, Cond.instanceMethod yX2_findPieces, Cond.selects RX2 yX2_findPieces yX2_findPieces, Cond.code yX2_findPieces cX2_findPieces 4 none, Cond.fieldLink RX2 43 "PartingRoads$Survey" "pieces" "I"]
def wsX4_lose_r3 : List Cond := [Cond.fieldLink RX2 27 "PartingRoads$Survey" "town" "LPartingRoads$Town;", Cond.fieldLink RX2 47 "PartingRoads$Town" "squareCount" "I", Cond.fieldLink RX2 9 "PartingRoads$Survey" "pieceOf" "[I", Cond.static yX4_contains, Cond.initialized RX4, Cond.code yX4_contains cX4_contains 2 (some .boolean), Cond.methodLink RX2 56 yX3_allRoads, Cond.instanceMethod yX3_allRoads, Cond.selects RX3 yX3_allRoads yX3_allRoads, Cond.code yX3_allRoads cX3_allRoads 1 (some .int), Cond.methodLink RX2 60 yX3_reach, Cond.instanceMethod yX3_reach, Cond.selects RX3 yX3_reach yX3_reach, Cond.code yX3_reach cX3_reach 7 (some .int), Cond.static yX4_setForMembers, Cond.code yX4_setForMembers cX4_setForMembers 4 none, Cond.methodLink RX4 117 yX4_contains, Cond.methodLink RX2 37 yX2_findPartingRoads, Cond.instanceMethod yX2_findPartingRoads, Cond.selects RX2 yX2_findPartingRoads yX2_findPartingRoads, Cond.code yX2_findPartingRoads cX2_findPartingRoads 2 none, Cond.fieldLink RX2 68 "PartingRoads$Survey" "partingRoads" "I", Cond.fieldLink RX2 71 "PartingRoads$Town" "roadCount" "I", Cond.fieldLink RX2 21 "PartingRoads$Survey" "lowerSide" "[I"]
def wsX4_lose_r4 : List Cond := [Cond.fieldLink RX2 74 "PartingRoads$Town" "lower" "[I", Cond.fieldLink RX2 77 "PartingRoads$Town" "higher" "[I", Cond.methodLink RX2 40 yX2_findDistricts, Cond.instanceMethod yX2_findDistricts, Cond.selects RX2 yX2_findDistricts yX2_findDistricts, Cond.code yX2_findDistricts cX2_findDistricts 4 none, Cond.fieldLink RX2 80 "PartingRoads$Survey" "districts" "I", Cond.fieldLink RX2 15 "PartingRoads$Survey" "districtOf" "[I", Cond.fieldLink RX2 18 "PartingRoads$Survey" "districtSquares" "[I"]
def wsX4_lose : List Cond := .code yX4_lose cX4_lose 2 (some .int) :: ((wsX4_lose_r1 ++ (wsX4_lose_r2 ++ (wsX4_lose_r3 ++ wsX4_lose_r4))) ++ wsX40 ++ wsX20 ++ wsX30 ++ wsX00)
def wsX4_errorOfParsedRoads : List Cond := .code yX4_errorOfParsedRoads cX4_errorOfParsedRoads 3 (some .int) :: ([.fieldLink RX4 28 "PartingRoads" "pad" "LPartingRoads$Pad;", .fieldLink RX4 10 "PartingRoads" "town" "LPartingRoads$Town;", .fieldLink RX4 64 "PartingRoads$Town" "roadCount" "I", .methodLink RX4 88 yX1_parsedRoads, .instanceMethod yX1_parsedRoads, .selects RX1 yX1_parsedRoads yX1_parsedRoads, .initialized RX1, .code yX1_parsedRoads cX1_parsedRoads 1 (some .int), .fieldLink RX1 23 "PartingRoads$Pad" "numberCount" "I", .methodLink RX4 91 yX1_parsedOne, .instanceMethod yX1_parsedOne, .selects RX1 yX1_parsedOne yX1_parsedOne, .code yX1_parsedOne cX1_parsedOne 2 (some .int), .fieldLink RX1 19 "PartingRoads$Pad" "numbers" "[I", .methodLink RX4 61 yX3_hasSquare, .instanceMethod yX3_hasSquare, .selects RX3 yX3_hasSquare yX3_hasSquare, .initialized RX3, .code yX3_hasSquare cX3_hasSquare 2 (some .boolean), .fieldLink RX3 9 "PartingRoads$Town" "squareCount" "I", .methodLink RX4 95 yX1_parsedOther, .instanceMethod yX1_parsedOther, .selects RX1 yX1_parsedOther yX1_parsedOther, .code yX1_parsedOther cX1_parsedOther 2 (some .int)] ++ wsX40 ++ wsX30 ++ wsX10)
def wsX4_read_r1 : List Cond := [Cond.fieldLink RX4 28 "PartingRoads" "pad" "LPartingRoads$Pad;", Cond.fieldLink RX4 35 "PartingRoads" "history" "LPartingRoads$History;", Cond.fieldLink RX4 10 "PartingRoads" "town" "LPartingRoads$Town;", Cond.fieldLink RX4 101 "PartingRoads$Pad" "length" "I", Cond.fieldLink RX4 21 "PartingRoads" "survey" "LPartingRoads$Survey;", Cond.fieldLink RX4 64 "PartingRoads$Town" "roadCount" "I", Cond.methodLink RX4 81 yX1_parse, Cond.instanceMethod yX1_parse, Cond.selects RX1 yX1_parse yX1_parse, Cond.initialized RX1, Cond.code yX1_parse cX1_parse 2 (some .int), Cond.fieldLink RX1 23 "PartingRoads$Pad" "numberCount" "I", Cond.fieldLink RX1 26 "PartingRoads$Pad" "number" "I", Cond.fieldLink RX1 15 "PartingRoads$Pad" "length" "I", Cond.fieldLink RX1 9 "PartingRoads$Pad" "characters" "[C", Cond.methodLink RX1 31 yX1_takes, Cond.instanceMethod yX1_takes, Cond.selects RX1 yX1_takes yX1_takes, Cond.code yX1_takes cX1_takes 2 (some .boolean), Cond.methodLink RX1 42 yX1_takesDigit, Cond.instanceMethod yX1_takesDigit, Cond.selects RX1 yX1_takesDigit yX1_takesDigit, Cond.code yX1_takesDigit cX1_takesDigit 3 (some .boolean), Cond.methodLink RX1 35 yX1_atLength]
def wsX4_read_r2 : List Cond := [Cond.instanceMethod yX1_atLength, Cond.selects RX1 yX1_atLength yX1_atLength, Cond.code yX1_atLength cX1_atLength 1 (some .boolean), Cond.methodLink RX1 46 yX1_characterBehind, Cond.instanceMethod yX1_characterBehind, Cond.selects RX1 yX1_characterBehind yX1_characterBehind, Cond.code yX1_characterBehind cX1_characterBehind 1 (some .char), Cond.methodLink RX1 39 yX1_keepNumber, Cond.instanceMethod yX1_keepNumber, Cond.selects RX1 yX1_keepNumber yX1_keepNumber, Cond.code yX1_keepNumber cX1_keepNumber 1 none, Cond.fieldLink RX1 19 "PartingRoads$Pad" "numbers" "[I", Cond.methodLink RX4 85 yX4_errorOfParsedRoads, Cond.instanceMethod yX4_errorOfParsedRoads, Cond.selects RX4 yX4_errorOfParsedRoads yX4_errorOfParsedRoads, Cond.initialized RX4, Cond.code yX4_errorOfParsedRoads cX4_errorOfParsedRoads 3 (some .int), Cond.methodLink RX4 88 yX1_parsedRoads, Cond.instanceMethod yX1_parsedRoads, Cond.selects RX1 yX1_parsedRoads yX1_parsedRoads, Cond.code yX1_parsedRoads cX1_parsedRoads 1 (some .int), Cond.methodLink RX4 91 yX1_parsedOne, Cond.instanceMethod yX1_parsedOne, Cond.selects RX1 yX1_parsedOne yX1_parsedOne]
def wsX4_read_r3 : List Cond := [Cond.code yX1_parsedOne cX1_parsedOne 2 (some .int), Cond.methodLink RX4 61 yX3_hasSquare, Cond.instanceMethod yX3_hasSquare, Cond.selects RX3 yX3_hasSquare yX3_hasSquare, Cond.initialized RX3, Cond.code yX3_hasSquare cX3_hasSquare 2 (some .boolean), Cond.fieldLink RX3 9 "PartingRoads$Town" "squareCount" "I", Cond.methodLink RX4 95 yX1_parsedOther, Cond.instanceMethod yX1_parsedOther, Cond.selects RX1 yX1_parsedOther yX1_parsedOther, Cond.code yX1_parsedOther cX1_parsedOther 2 (some .int), Cond.methodLink RX4 55 yX0_record, Cond.instanceMethod yX0_record, Cond.selects RX0 yX0_record yX0_record, Cond.initialized RX0, Cond.code yX0_record cX0_record 2 none, Cond.fieldLink RX0 17 "PartingRoads$History" "changes" "I", Cond.fieldLink RX0 11 "PartingRoads$History" "states" "[LPartingRoads$Town;", Cond.methodLink RX0 22 yX0_dropOldest, Cond.instanceMethod yX0_dropOldest, Cond.selects RX0 yX0_dropOldest yX0_dropOldest, Cond.code yX0_dropOldest cX0_dropOldest 3 none, Cond.methodLink RX0 25 yX3_copyFrom, Cond.instanceMethod yX3_copyFrom]
def wsX4_read_r4 : List Cond := [Cond.selects RX3 yX3_copyFrom yX3_copyFrom, Cond.code yX3_copyFrom cX3_copyFrom 2 none, Cond.fieldLink RX3 15 "PartingRoads$Town" "roadCount" "I", Cond.fieldLink RX3 18 "PartingRoads$Town" "lower" "[I", Cond.methodLink RX3 31 arraycopyName, Cond.native arraycopyName, Cond.static arraycopyName, Cond.initialized "java/lang/System", Cond.fieldLink RX3 22 "PartingRoads$Town" "higher" "[I", Cond.fieldLink RX3 25 "PartingRoads$Town" "lengths" "[I", Cond.fieldLink RX3 28 "PartingRoads$Town" "ends" "[I", Cond.methodLink RX4 98 yX1_parsedLength, Cond.instanceMethod yX1_parsedLength, Cond.selects RX1 yX1_parsedLength yX1_parsedLength, Cond.code yX1_parsedLength cX1_parsedLength 2 (some .int), Cond.methodLink RX4 67 yX3_addRoad, Cond.instanceMethod yX3_addRoad, Cond.selects RX3 yX3_addRoad yX3_addRoad, Cond.code yX3_addRoad cX3_addRoad 4 none, Cond.methodLink RX3 37 Lib.Math.min.name, Cond.static Lib.Math.min.name, Cond.initialized "java/lang/Math", Cond.code Lib.Math.min.name Lib.Math.min.code 2 (some .int), Cond.methodLink RX3 43 Lib.Math.max.name]
def wsX4_read_r5 : List Cond := [Cond.static Lib.Math.max.name, Cond.code Lib.Math.max.name Lib.Math.max.code 2 (some .int), Cond.methodLink RX4 58 yX2_renew, Cond.instanceMethod yX2_renew, Cond.selects RX2 yX2_renew yX2_renew, Cond.initialized RX2, Cond.code yX2_renew cX2_renew 1 none, Cond.methodLink RX2 34 yX2_findPieces, Cond.instanceMethod yX2_findPieces, Cond.selects RX2 yX2_findPieces yX2_findPieces, Cond.code yX2_findPieces cX2_findPieces 4 none, Cond.fieldLink RX2 43 "PartingRoads$Survey" "pieces" "I", Cond.fieldLink RX2 27 "PartingRoads$Survey" "town" "LPartingRoads$Town;", Cond.fieldLink RX2 47 "PartingRoads$Town" "squareCount" "I", Cond.fieldLink RX2 9 "PartingRoads$Survey" "pieceOf" "[I", Cond.static yX4_contains, Cond.code yX4_contains cX4_contains 2 (some .boolean), Cond.methodLink RX2 56 yX3_allRoads, Cond.instanceMethod yX3_allRoads, Cond.selects RX3 yX3_allRoads yX3_allRoads, Cond.code yX3_allRoads cX3_allRoads 1 (some .int), Cond.methodLink RX2 60 yX3_reach, Cond.instanceMethod yX3_reach, Cond.selects RX3 yX3_reach yX3_reach]
def wsX4_read_r6 : List Cond := [Cond.code yX3_reach cX3_reach 7 (some .int), Cond.static yX4_setForMembers, Cond.code yX4_setForMembers cX4_setForMembers 4 none, Cond.methodLink RX4 117 yX4_contains, Cond.methodLink RX2 37 yX2_findPartingRoads, Cond.instanceMethod yX2_findPartingRoads, Cond.selects RX2 yX2_findPartingRoads yX2_findPartingRoads, Cond.code yX2_findPartingRoads cX2_findPartingRoads 2 none, Cond.fieldLink RX2 68 "PartingRoads$Survey" "partingRoads" "I", Cond.fieldLink RX2 71 "PartingRoads$Town" "roadCount" "I", Cond.fieldLink RX2 21 "PartingRoads$Survey" "lowerSide" "[I", Cond.fieldLink RX2 74 "PartingRoads$Town" "lower" "[I", Cond.fieldLink RX2 77 "PartingRoads$Town" "higher" "[I", Cond.methodLink RX2 40 yX2_findDistricts, Cond.instanceMethod yX2_findDistricts, Cond.selects RX2 yX2_findDistricts yX2_findDistricts, Cond.code yX2_findDistricts cX2_findDistricts 4 none, Cond.fieldLink RX2 80 "PartingRoads$Survey" "districts" "I", Cond.fieldLink RX2 15 "PartingRoads$Survey" "districtOf" "[I", Cond.fieldLink RX2 18 "PartingRoads$Survey" "districtSquares" "[I"]
def wsX4_read : List Cond := .code yX4_read cX4_read 3 (some .int) :: ((wsX4_read_r1 ++ (wsX4_read_r2 ++ (wsX4_read_r3 ++ (wsX4_read_r4 ++ (wsX4_read_r5 ++ wsX4_read_r6))))) ++ wsX40 ++ wsX10 ++ wsX30 ++ wsX00 ++ wsX20)
def wsX4_road_r1 : List Cond := [Cond.fieldLink RX4 10 "PartingRoads" "town" "LPartingRoads$Town;", Cond.fieldLink RX4 104 "PartingRoads$Town" "lower" "[I", Cond.fieldLink RX4 108 "PartingRoads$Town" "higher" "[I", Cond.fieldLink RX4 111 "PartingRoads$Town" "lengths" "[I", Cond.fieldLink RX4 21 "PartingRoads" "survey" "LPartingRoads$Survey;", Cond.fieldLink RX4 114 "PartingRoads$Survey" "partingRoads" "I", Cond.methodLink RX4 74 yX3_hasRoad, Cond.instanceMethod yX3_hasRoad, Cond.selects RX3 yX3_hasRoad yX3_hasRoad, Cond.initialized RX3, Cond.code yX3_hasRoad cX3_hasRoad 2 (some .boolean), Cond.fieldLink RX3 15 "PartingRoads$Town" "roadCount" "I", Cond.methodLink RX4 117 yX4_contains, Cond.static yX4_contains, Cond.initialized RX4, Cond.code yX4_contains cX4_contains 2 (some .boolean), Cond.methodLink RX4 121 yX2_leastRing, Cond.instanceMethod yX2_leastRing, Cond.selects RX2 yX2_leastRing yX2_leastRing, Cond.initialized RX2, Cond.code yX2_leastRing cX2_leastRing 5 (some .int), Cond.fieldLink RX2 27 "PartingRoads$Survey" "town" "LPartingRoads$Town;", Cond.fieldLink RX2 74 "PartingRoads$Town" "lower" "[I", Cond.fieldLink RX2 77 "PartingRoads$Town" "higher" "[I"]
def wsX4_road_r2 : List Cond := [Cond.methodLink RX2 56 yX3_allRoads, Cond.instanceMethod yX3_allRoads, Cond.selects RX3 yX3_allRoads yX3_allRoads, Cond.code yX3_allRoads cX3_allRoads 1 (some .int), Cond.methodLink RX2 125 yX3_oneRoadFurther, Cond.instanceMethod yX3_oneRoadFurther, Cond.selects RX3 yX3_oneRoadFurther yX3_oneRoadFurther, Cond.code yX3_oneRoadFurther cX3_oneRoadFurther 5 (some .int), Cond.fieldLink RX3 28 "PartingRoads$Town" "ends" "[I", Cond.methodLink RX4 124 yX2_pairsParted, Cond.instanceMethod yX2_pairsParted, Cond.selects RX2 yX2_pairsParted yX2_pairsParted, Cond.code yX2_pairsParted cX2_pairsParted 4 (some .int), Cond.fieldLink RX2 9 "PartingRoads$Survey" "pieceOf" "[I", Cond.methodLink RX2 83 yX2_squaresBehind, Cond.instanceMethod yX2_squaresBehind, Cond.selects RX2 yX2_squaresBehind yX2_squaresBehind, Cond.code yX2_squaresBehind cX2_squaresBehind 4 (some .int), Cond.fieldLink RX2 21 "PartingRoads$Survey" "lowerSide" "[I", Cond.methodLink RX2 86 yJ6_bitCount_0f7a4, Cond.static yJ6_bitCount_0f7a4, Cond.initialized RJ6, Cond.code yJ6_bitCount_0f7a4 cJ6_bitCount_0f7a4 1 (some .int), Cond.constant RJ6 265 (1431655765)]
def wsX4_road_r3 : List Cond := [Cond.constant RJ6 266 (858993459), Cond.constant RJ6 267 (252645135)]
def wsX4_road : List Cond := .code yX4_road cX4_road 3 (some .int) :: ((wsX4_road_r1 ++ (wsX4_road_r2 ++ wsX4_road_r3)) ++ wsX40 ++ wsX30 ++ wsX20)
def wsX4_square_r1 : List Cond := [Cond.fieldLink RX4 10 "PartingRoads" "town" "LPartingRoads$Town;", Cond.fieldLink RX4 21 "PartingRoads" "survey" "LPartingRoads$Survey;", Cond.fieldLink RX4 138 "PartingRoads$Survey" "districtOf" "[I", Cond.fieldLink RX4 141 "PartingRoads$Survey" "pieceOf" "[I", Cond.methodLink RX4 61 yX3_hasSquare, Cond.instanceMethod yX3_hasSquare, Cond.selects RX3 yX3_hasSquare yX3_hasSquare, Cond.initialized RX3, Cond.code yX3_hasSquare cX3_hasSquare 2 (some .boolean), Cond.fieldLink RX3 9 "PartingRoads$Town" "squareCount" "I", Cond.methodLink RX4 127 yX3_roadsAt, Cond.instanceMethod yX3_roadsAt, Cond.selects RX3 yX3_roadsAt yX3_roadsAt, Cond.code yX3_roadsAt cX3_roadsAt 4 (some .int), Cond.fieldLink RX3 15 "PartingRoads$Town" "roadCount" "I", Cond.fieldLink RX3 28 "PartingRoads$Town" "ends" "[I", Cond.static yX4_contains, Cond.initialized RX4, Cond.code yX4_contains cX4_contains 2 (some .boolean), Cond.methodLink RX4 130 yJ6_bitCount_0f7a4, Cond.static yJ6_bitCount_0f7a4, Cond.initialized RJ6, Cond.code yJ6_bitCount_0f7a4 cJ6_bitCount_0f7a4 1 (some .int), Cond.constant RJ6 265 (1431655765)]
def wsX4_square_r2 : List Cond := [Cond.constant RJ6 266 (858993459), Cond.constant RJ6 267 (252645135), Cond.methodLink RX4 135 yX2_morePiecesWithout, Cond.instanceMethod yX2_morePiecesWithout, Cond.selects RX2 yX2_morePiecesWithout yX2_morePiecesWithout, Cond.initialized RX2, Cond.code yX2_morePiecesWithout cX2_morePiecesWithout 6 (some .int), Cond.fieldLink RX2 9 "PartingRoads$Survey" "pieceOf" "[I", Cond.fieldLink RX2 27 "PartingRoads$Survey" "town" "LPartingRoads$Town;", Cond.fieldLink RX2 47 "PartingRoads$Town" "squareCount" "I", Cond.methodLink RX2 105 Lib.Math.max.name, Cond.static Lib.Math.max.name, Cond.initialized "java/lang/Math", Cond.code Lib.Math.max.name Lib.Math.max.code 2 (some .int), Cond.methodLink RX2 56 yX3_allRoads, Cond.instanceMethod yX3_allRoads, Cond.selects RX3 yX3_allRoads yX3_allRoads, Cond.code yX3_allRoads cX3_allRoads 1 (some .int), Cond.methodLink RX2 102 yX3_roadsAt, Cond.methodLink RX2 60 yX3_reach, Cond.instanceMethod yX3_reach, Cond.selects RX3 yX3_reach yX3_reach, Cond.code yX3_reach cX3_reach 7 (some .int)]
def wsX4_square : List Cond := .code yX4_square cX4_square 3 (some .int) :: ((wsX4_square_r1 ++ wsX4_square_r2) ++ wsX40 ++ wsX20 ++ wsX30)
def wsX4_district_r1 : List Cond := [Cond.fieldLink RX4 21 "PartingRoads" "survey" "LPartingRoads$Survey;", Cond.fieldLink RX4 144 "PartingRoads$Survey" "districts" "I", Cond.fieldLink RX4 147 "PartingRoads$Survey" "districtSquares" "[I", Cond.fieldLink RX4 10 "PartingRoads" "town" "LPartingRoads$Town;", Cond.methodLink RX4 150 yX3_roadsWithin, Cond.instanceMethod yX3_roadsWithin, Cond.selects RX3 yX3_roadsWithin yX3_roadsWithin, Cond.initialized RX3, Cond.code yX3_roadsWithin cX3_roadsWithin 4 (some .int), Cond.fieldLink RX3 15 "PartingRoads$Town" "roadCount" "I", Cond.fieldLink RX3 28 "PartingRoads$Town" "ends" "[I", Cond.methodLink RX4 153 yX3_lengthOf, Cond.instanceMethod yX3_lengthOf, Cond.selects RX3 yX3_lengthOf yX3_lengthOf, Cond.code yX3_lengthOf cX3_lengthOf 4 (some .int), Cond.fieldLink RX3 25 "PartingRoads$Town" "lengths" "[I", Cond.static yX4_contains, Cond.initialized RX4, Cond.code yX4_contains cX4_contains 2 (some .boolean), Cond.methodLink RX4 156 yX2_partingRoadsOut, Cond.instanceMethod yX2_partingRoadsOut, Cond.selects RX2 yX2_partingRoadsOut yX2_partingRoadsOut, Cond.initialized RX2, Cond.code yX2_partingRoadsOut cX2_partingRoadsOut 4 (some .int)]
def wsX4_district_r2 : List Cond := [Cond.fieldLink RX2 27 "PartingRoads$Survey" "town" "LPartingRoads$Town;", Cond.fieldLink RX2 71 "PartingRoads$Town" "roadCount" "I", Cond.fieldLink RX2 68 "PartingRoads$Survey" "partingRoads" "I", Cond.fieldLink RX2 113 "PartingRoads$Town" "ends" "[I", Cond.methodLink RX4 130 yJ6_bitCount_0f7a4, Cond.static yJ6_bitCount_0f7a4, Cond.initialized RJ6, Cond.code yJ6_bitCount_0f7a4 cJ6_bitCount_0f7a4 1 (some .int), Cond.constant RJ6 265 (1431655765), Cond.constant RJ6 266 (858993459), Cond.constant RJ6 267 (252645135)]
def wsX4_district : List Cond := .code yX4_district cX4_district 4 (some .int) :: ((wsX4_district_r1 ++ wsX4_district_r2) ++ wsX40 ++ wsX20 ++ wsX30)
def wsX4_count_r1 : List Cond := [Cond.fieldLink RX4 10 "PartingRoads" "town" "LPartingRoads$Town;", Cond.fieldLink RX4 51 "PartingRoads$Town" "squareCount" "I", Cond.fieldLink RX4 64 "PartingRoads$Town" "roadCount" "I", Cond.fieldLink RX4 21 "PartingRoads" "survey" "LPartingRoads$Survey;", Cond.fieldLink RX4 71 "PartingRoads$Survey" "pieces" "I", Cond.fieldLink RX4 114 "PartingRoads$Survey" "partingRoads" "I", Cond.fieldLink RX4 144 "PartingRoads$Survey" "districts" "I", Cond.fieldLink RX4 28 "PartingRoads" "pad" "LPartingRoads$Pad;", Cond.fieldLink RX4 101 "PartingRoads$Pad" "length" "I", Cond.fieldLink RX4 35 "PartingRoads" "history" "LPartingRoads$History;", Cond.fieldLink RX4 168 "PartingRoads$History" "changes" "I", Cond.methodLink RX4 130 yJ6_bitCount_0f7a4, Cond.static yJ6_bitCount_0f7a4, Cond.initialized RJ6, Cond.code yJ6_bitCount_0f7a4 cJ6_bitCount_0f7a4 1 (some .int), Cond.constant RJ6 265 (1431655765), Cond.constant RJ6 266 (858993459), Cond.constant RJ6 267 (252645135), Cond.methodLink RX4 159 yX2_partingSquares, Cond.instanceMethod yX2_partingSquares, Cond.selects RX2 yX2_partingSquares yX2_partingSquares, Cond.initialized RX2, Cond.code yX2_partingSquares cX2_partingSquares 3 (some .int), Cond.fieldLink RX2 27 "PartingRoads$Survey" "town" "LPartingRoads$Town;"]
def wsX4_count_r2 : List Cond := [Cond.fieldLink RX2 47 "PartingRoads$Town" "squareCount" "I", Cond.methodLink RX2 110 yX2_morePiecesWithout, Cond.instanceMethod yX2_morePiecesWithout, Cond.selects RX2 yX2_morePiecesWithout yX2_morePiecesWithout, Cond.code yX2_morePiecesWithout cX2_morePiecesWithout 6 (some .int), Cond.fieldLink RX2 9 "PartingRoads$Survey" "pieceOf" "[I", Cond.methodLink RX2 105 Lib.Math.max.name, Cond.static Lib.Math.max.name, Cond.initialized "java/lang/Math", Cond.code Lib.Math.max.name Lib.Math.max.code 2 (some .int), Cond.methodLink RX2 56 yX3_allRoads, Cond.instanceMethod yX3_allRoads, Cond.selects RX3 yX3_allRoads yX3_allRoads, Cond.initialized RX3, Cond.code yX3_allRoads cX3_allRoads 1 (some .int), Cond.fieldLink RX3 15 "PartingRoads$Town" "roadCount" "I", Cond.methodLink RX2 102 yX3_roadsAt, Cond.instanceMethod yX3_roadsAt, Cond.selects RX3 yX3_roadsAt yX3_roadsAt, Cond.code yX3_roadsAt cX3_roadsAt 4 (some .int), Cond.fieldLink RX3 28 "PartingRoads$Town" "ends" "[I", Cond.static yX4_contains, Cond.initialized RX4, Cond.code yX4_contains cX4_contains 2 (some .boolean)]
def wsX4_count_r3 : List Cond := [Cond.methodLink RX2 60 yX3_reach, Cond.instanceMethod yX3_reach, Cond.selects RX3 yX3_reach yX3_reach, Cond.code yX3_reach cX3_reach 7 (some .int), Cond.methodLink RX4 162 yX2_longestDistrict, Cond.instanceMethod yX2_longestDistrict, Cond.selects RX2 yX2_longestDistrict yX2_longestDistrict, Cond.code yX2_longestDistrict cX2_longestDistrict 5 (some .int), Cond.fieldLink RX2 18 "PartingRoads$Survey" "districtSquares" "[I", Cond.fieldLink RX2 80 "PartingRoads$Survey" "districts" "I", Cond.methodLink RX2 116 yX3_roadsWithin, Cond.instanceMethod yX3_roadsWithin, Cond.selects RX3 yX3_roadsWithin yX3_roadsWithin, Cond.code yX3_roadsWithin cX3_roadsWithin 4 (some .int), Cond.methodLink RX2 119 yX3_lengthOf, Cond.instanceMethod yX3_lengthOf, Cond.selects RX3 yX3_lengthOf yX3_lengthOf, Cond.code yX3_lengthOf cX3_lengthOf 4 (some .int), Cond.fieldLink RX3 25 "PartingRoads$Town" "lengths" "[I", Cond.methodLink RX4 165 yX3_allRoads, Cond.methodLink RX4 153 yX3_lengthOf]
def wsX4_count : List Cond := .code yX4_count cX4_count 2 (some .int) :: ((wsX4_count_r1 ++ (wsX4_count_r2 ++ wsX4_count_r3)) ++ wsX40 ++ wsX30 ++ wsX20 ++ wsX10 ++ wsX00)
def wsX4_way_r1 : List Cond := [Cond.fieldLink RX4 10 "PartingRoads" "town" "LPartingRoads$Town;", Cond.fieldLink RX4 21 "PartingRoads" "survey" "LPartingRoads$Survey;", Cond.methodLink RX4 61 yX3_hasSquare, Cond.instanceMethod yX3_hasSquare, Cond.selects RX3 yX3_hasSquare yX3_hasSquare, Cond.initialized RX3, Cond.code yX3_hasSquare cX3_hasSquare 2 (some .boolean), Cond.fieldLink RX3 9 "PartingRoads$Town" "squareCount" "I", Cond.methodLink RX4 171 yX2_hangTogether, Cond.instanceMethod yX2_hangTogether, Cond.selects RX2 yX2_hangTogether yX2_hangTogether, Cond.initialized RX2, Cond.code yX2_hangTogether cX2_hangTogether 3 (some .boolean), Cond.fieldLink RX2 9 "PartingRoads$Survey" "pieceOf" "[I", Cond.static yX4_contains, Cond.initialized RX4, Cond.code yX4_contains cX4_contains 2 (some .boolean), Cond.methodLink RX4 174 yX2_leastLength, Cond.instanceMethod yX2_leastLength, Cond.selects RX2 yX2_leastLength yX2_leastLength, Cond.code yX2_leastLength cX2_leastLength 6 (some .int), Cond.fieldLink RX2 24 "PartingRoads$Survey" "distances" "[I", Cond.fieldLink RX2 27 "PartingRoads$Survey" "town" "LPartingRoads$Town;", Cond.fieldLink RX2 71 "PartingRoads$Town" "roadCount" "I"]
def wsX4_way_r2 : List Cond := [Cond.fieldLink RX2 74 "PartingRoads$Town" "lower" "[I", Cond.fieldLink RX2 77 "PartingRoads$Town" "higher" "[I", Cond.fieldLink RX2 128 "PartingRoads$Town" "lengths" "[I", Cond.methodLink RX2 131 yX2_shorten, Cond.instanceMethod yX2_shorten, Cond.selects RX2 yX2_shorten yX2_shorten, Cond.code yX2_shorten cX2_shorten 4 (some .boolean), Cond.methodLink RX4 178 yX2_roadsBetween, Cond.instanceMethod yX2_roadsBetween, Cond.selects RX2 yX2_roadsBetween yX2_roadsBetween, Cond.code yX2_roadsBetween cX2_roadsBetween 5 (some .int), Cond.methodLink RX2 83 yX2_squaresBehind, Cond.instanceMethod yX2_squaresBehind, Cond.selects RX2 yX2_squaresBehind yX2_squaresBehind, Cond.code yX2_squaresBehind cX2_squaresBehind 4 (some .int), Cond.fieldLink RX2 21 "PartingRoads$Survey" "lowerSide" "[I", Cond.methodLink RX4 130 yJ6_bitCount_0f7a4, Cond.static yJ6_bitCount_0f7a4, Cond.initialized RJ6, Cond.code yJ6_bitCount_0f7a4 cJ6_bitCount_0f7a4 1 (some .int), Cond.constant RJ6 265 (1431655765), Cond.constant RJ6 266 (858993459), Cond.constant RJ6 267 (252645135)]
def wsX4_way : List Cond := .code yX4_way cX4_way 5 (some .int) :: ((wsX4_way_r1 ++ wsX4_way_r2) ++ wsX40 ++ wsX30 ++ wsX20)
def wsX4_must_r1 : List Cond := [Cond.fieldLink RX4 10 "PartingRoads" "town" "LPartingRoads$Town;", Cond.fieldLink RX4 21 "PartingRoads" "survey" "LPartingRoads$Survey;", Cond.methodLink RX4 61 yX3_hasSquare, Cond.instanceMethod yX3_hasSquare, Cond.selects RX3 yX3_hasSquare yX3_hasSquare, Cond.initialized RX3, Cond.code yX3_hasSquare cX3_hasSquare 2 (some .boolean), Cond.fieldLink RX3 9 "PartingRoads$Town" "squareCount" "I", Cond.methodLink RX4 181 yX2_roadOnWay, Cond.instanceMethod yX2_roadOnWay, Cond.selects RX2 yX2_roadOnWay yX2_roadOnWay, Cond.initialized RX2, Cond.code yX2_roadOnWay cX2_roadOnWay 6 (some .int), Cond.fieldLink RX2 27 "PartingRoads$Survey" "town" "LPartingRoads$Town;", Cond.fieldLink RX2 71 "PartingRoads$Town" "roadCount" "I", Cond.methodLink RX2 92 yX2_roadsBetween, Cond.instanceMethod yX2_roadsBetween, Cond.selects RX2 yX2_roadsBetween yX2_roadsBetween, Cond.code yX2_roadsBetween cX2_roadsBetween 5 (some .int), Cond.methodLink RX2 83 yX2_squaresBehind, Cond.instanceMethod yX2_squaresBehind, Cond.selects RX2 yX2_squaresBehind yX2_squaresBehind, Cond.code yX2_squaresBehind cX2_squaresBehind 4 (some .int), Cond.fieldLink RX2 21 "PartingRoads$Survey" "lowerSide" "[I"]
def wsX4_must_r2 : List Cond := [Cond.fieldLink RX2 9 "PartingRoads$Survey" "pieceOf" "[I", Cond.static yX4_contains, Cond.initialized RX4, Cond.code yX4_contains cX4_contains 2 (some .boolean), Cond.methodLink RX2 95 yX2_roadsAhead, Cond.instanceMethod yX2_roadsAhead, Cond.selects RX2 yX2_roadsAhead yX2_roadsAhead, Cond.code yX2_roadsAhead cX2_roadsAhead 7 (some .int), Cond.methodLink RX2 86 yJ6_bitCount_0f7a4, Cond.static yJ6_bitCount_0f7a4, Cond.initialized RJ6, Cond.code yJ6_bitCount_0f7a4 cJ6_bitCount_0f7a4 1 (some .int), Cond.constant RJ6 265 (1431655765), Cond.constant RJ6 266 (858993459), Cond.constant RJ6 267 (252645135)]
def wsX4_must : List Cond := .code yX4_must cX4_must 4 (some .int) :: ((wsX4_must_r1 ++ wsX4_must_r2) ++ wsX40 ++ wsX30 ++ wsX20)
def wsX4_cutOff : List Cond := .code yX4_cutOff cX4_cutOff 3 (some .int) :: ([.fieldLink RX4 10 "PartingRoads" "town" "LPartingRoads$Town;", .fieldLink RX4 21 "PartingRoads" "survey" "LPartingRoads$Survey;", .methodLink RX4 61 yX3_hasSquare, .instanceMethod yX3_hasSquare, .selects RX3 yX3_hasSquare yX3_hasSquare, .initialized RX3, .code yX3_hasSquare cX3_hasSquare 2 (some .boolean), .fieldLink RX3 9 "PartingRoads$Town" "squareCount" "I", .methodLink RX4 74 yX3_hasRoad, .instanceMethod yX3_hasRoad, .selects RX3 yX3_hasRoad yX3_hasRoad, .code yX3_hasRoad cX3_hasRoad 2 (some .boolean), .fieldLink RX3 15 "PartingRoads$Town" "roadCount" "I", .methodLink RX4 185 yX2_squaresBehind, .instanceMethod yX2_squaresBehind, .selects RX2 yX2_squaresBehind yX2_squaresBehind, .initialized RX2, .code yX2_squaresBehind cX2_squaresBehind 4 (some .int), .fieldLink RX2 21 "PartingRoads$Survey" "lowerSide" "[I", .fieldLink RX2 9 "PartingRoads$Survey" "pieceOf" "[I", .static yX4_contains, .initialized RX4, .code yX4_contains cX4_contains 2 (some .boolean)] ++ wsX40 ++ wsX30 ++ wsX20)
def wsX4_ifBuilt_r1 : List Cond := [Cond.fieldLink RX4 10 "PartingRoads" "town" "LPartingRoads$Town;", Cond.fieldLink RX4 21 "PartingRoads" "survey" "LPartingRoads$Survey;", Cond.fieldLink RX4 144 "PartingRoads$Survey" "districts" "I", Cond.fieldLink RX4 71 "PartingRoads$Survey" "pieces" "I", Cond.methodLink RX4 61 yX3_hasSquare, Cond.instanceMethod yX3_hasSquare, Cond.selects RX3 yX3_hasSquare yX3_hasSquare, Cond.initialized RX3, Cond.code yX3_hasSquare cX3_hasSquare 2 (some .boolean), Cond.fieldLink RX3 9 "PartingRoads$Town" "squareCount" "I", Cond.methodLink RX4 178 yX2_roadsBetween, Cond.instanceMethod yX2_roadsBetween, Cond.selects RX2 yX2_roadsBetween yX2_roadsBetween, Cond.initialized RX2, Cond.code yX2_roadsBetween cX2_roadsBetween 5 (some .int), Cond.fieldLink RX2 27 "PartingRoads$Survey" "town" "LPartingRoads$Town;", Cond.fieldLink RX2 71 "PartingRoads$Town" "roadCount" "I", Cond.methodLink RX2 83 yX2_squaresBehind, Cond.instanceMethod yX2_squaresBehind, Cond.selects RX2 yX2_squaresBehind yX2_squaresBehind, Cond.code yX2_squaresBehind cX2_squaresBehind 4 (some .int), Cond.fieldLink RX2 21 "PartingRoads$Survey" "lowerSide" "[I", Cond.fieldLink RX2 9 "PartingRoads$Survey" "pieceOf" "[I", Cond.static yX4_contains]
def wsX4_ifBuilt_r2 : List Cond := [Cond.initialized RX4, Cond.code yX4_contains cX4_contains 2 (some .boolean), Cond.methodLink RX4 130 yJ6_bitCount_0f7a4, Cond.static yJ6_bitCount_0f7a4, Cond.initialized RJ6, Cond.code yJ6_bitCount_0f7a4 cJ6_bitCount_0f7a4 1 (some .int), Cond.constant RJ6 265 (1431655765), Cond.constant RJ6 266 (858993459), Cond.constant RJ6 267 (252645135), Cond.methodLink RX4 171 yX2_hangTogether, Cond.instanceMethod yX2_hangTogether, Cond.selects RX2 yX2_hangTogether yX2_hangTogether, Cond.code yX2_hangTogether cX2_hangTogether 3 (some .boolean)]
def wsX4_ifBuilt : List Cond := .code yX4_ifBuilt cX4_ifBuilt 5 (some .int) :: ((wsX4_ifBuilt_r1 ++ wsX4_ifBuilt_r2) ++ wsX40 ++ wsX20 ++ wsX30)
def wsX4_bestBuilt_r1 : List Cond := [Cond.fieldLink RX4 21 "PartingRoads" "survey" "LPartingRoads$Survey;", Cond.fieldLink RX4 10 "PartingRoads" "town" "LPartingRoads$Town;", Cond.fieldLink RX4 51 "PartingRoads$Town" "squareCount" "I", Cond.methodLink RX4 188 yX2_partingRoadsAfter, Cond.instanceMethod yX2_partingRoadsAfter, Cond.selects RX2 yX2_partingRoadsAfter yX2_partingRoadsAfter, Cond.initialized RX2, Cond.code yX2_partingRoadsAfter cX2_partingRoadsAfter 4 (some .int), Cond.fieldLink RX2 68 "PartingRoads$Survey" "partingRoads" "I", Cond.methodLink RX2 86 yJ6_bitCount_0f7a4, Cond.static yJ6_bitCount_0f7a4, Cond.initialized RJ6, Cond.code yJ6_bitCount_0f7a4 cJ6_bitCount_0f7a4 1 (some .int), Cond.constant RJ6 265 (1431655765), Cond.constant RJ6 266 (858993459), Cond.constant RJ6 267 (252645135), Cond.methodLink RX2 99 yX2_hangTogether, Cond.instanceMethod yX2_hangTogether, Cond.selects RX2 yX2_hangTogether yX2_hangTogether, Cond.code yX2_hangTogether cX2_hangTogether 3 (some .boolean), Cond.fieldLink RX2 9 "PartingRoads$Survey" "pieceOf" "[I", Cond.static yX4_contains, Cond.initialized RX4, Cond.code yX4_contains cX4_contains 2 (some .boolean)]
def wsX4_bestBuilt_r2 : List Cond := [Cond.methodLink RX2 92 yX2_roadsBetween, Cond.instanceMethod yX2_roadsBetween, Cond.selects RX2 yX2_roadsBetween yX2_roadsBetween, Cond.code yX2_roadsBetween cX2_roadsBetween 5 (some .int), Cond.fieldLink RX2 27 "PartingRoads$Survey" "town" "LPartingRoads$Town;", Cond.fieldLink RX2 71 "PartingRoads$Town" "roadCount" "I", Cond.methodLink RX2 83 yX2_squaresBehind, Cond.instanceMethod yX2_squaresBehind, Cond.selects RX2 yX2_squaresBehind yX2_squaresBehind, Cond.code yX2_squaresBehind cX2_squaresBehind 4 (some .int), Cond.fieldLink RX2 21 "PartingRoads$Survey" "lowerSide" "[I"]
def wsX4_bestBuilt : List Cond := .code yX4_bestBuilt cX4_bestBuilt 8 (some .int) :: ((wsX4_bestBuilt_r1 ++ wsX4_bestBuilt_r2) ++ wsX40 ++ wsX30 ++ wsX20)
def wsX4_worstLoss_r1 : List Cond := [Cond.fieldLink RX4 10 "PartingRoads" "town" "LPartingRoads$Town;", Cond.fieldLink RX4 64 "PartingRoads$Town" "roadCount" "I", Cond.fieldLink RX4 21 "PartingRoads" "survey" "LPartingRoads$Survey;", Cond.methodLink RX4 124 yX2_pairsParted, Cond.instanceMethod yX2_pairsParted, Cond.selects RX2 yX2_pairsParted yX2_pairsParted, Cond.initialized RX2, Cond.code yX2_pairsParted cX2_pairsParted 4 (some .int), Cond.fieldLink RX2 27 "PartingRoads$Survey" "town" "LPartingRoads$Town;", Cond.fieldLink RX2 74 "PartingRoads$Town" "lower" "[I", Cond.fieldLink RX2 9 "PartingRoads$Survey" "pieceOf" "[I", Cond.methodLink RX2 83 yX2_squaresBehind, Cond.instanceMethod yX2_squaresBehind, Cond.selects RX2 yX2_squaresBehind yX2_squaresBehind, Cond.code yX2_squaresBehind cX2_squaresBehind 4 (some .int), Cond.fieldLink RX2 21 "PartingRoads$Survey" "lowerSide" "[I", Cond.static yX4_contains, Cond.initialized RX4, Cond.code yX4_contains cX4_contains 2 (some .boolean), Cond.methodLink RX2 86 yJ6_bitCount_0f7a4, Cond.static yJ6_bitCount_0f7a4, Cond.initialized RJ6, Cond.code yJ6_bitCount_0f7a4 cJ6_bitCount_0f7a4 1 (some .int), Cond.constant RJ6 265 (1431655765)]
def wsX4_worstLoss_r2 : List Cond := [Cond.constant RJ6 266 (858993459), Cond.constant RJ6 267 (252645135)]
def wsX4_worstLoss : List Cond := .code yX4_worstLoss cX4_worstLoss 6 (some .int) :: ((wsX4_worstLoss_r1 ++ wsX4_worstLoss_r2) ++ wsX40 ++ wsX30 ++ wsX20)
def wsX4_needed_r1 : List Cond := [Cond.fieldLink RX4 10 "PartingRoads" "town" "LPartingRoads$Town;", Cond.fieldLink RX4 21 "PartingRoads" "survey" "LPartingRoads$Survey;", Cond.fieldLink RX4 141 "PartingRoads$Survey" "pieceOf" "[I", Cond.methodLink RX4 61 yX3_hasSquare, Cond.instanceMethod yX3_hasSquare, Cond.selects RX3 yX3_hasSquare yX3_hasSquare, Cond.initialized RX3, Cond.code yX3_hasSquare cX3_hasSquare 2 (some .boolean), Cond.fieldLink RX3 9 "PartingRoads$Town" "squareCount" "I", Cond.methodLink RX4 191 yX2_leafDistricts, Cond.instanceMethod yX2_leafDistricts, Cond.selects RX2 yX2_leafDistricts yX2_leafDistricts, Cond.initialized RX2, Cond.code yX2_leafDistricts cX2_leafDistricts 5 (some .int), Cond.fieldLink RX2 80 "PartingRoads$Survey" "districts" "I", Cond.fieldLink RX2 18 "PartingRoads$Survey" "districtSquares" "[I", Cond.methodLink RX2 122 yX2_partingRoadsOut, Cond.instanceMethod yX2_partingRoadsOut, Cond.selects RX2 yX2_partingRoadsOut yX2_partingRoadsOut, Cond.code yX2_partingRoadsOut cX2_partingRoadsOut 4 (some .int), Cond.fieldLink RX2 27 "PartingRoads$Survey" "town" "LPartingRoads$Town;", Cond.fieldLink RX2 71 "PartingRoads$Town" "roadCount" "I", Cond.fieldLink RX2 68 "PartingRoads$Survey" "partingRoads" "I", Cond.fieldLink RX2 113 "PartingRoads$Town" "ends" "[I"]
def wsX4_needed_r2 : List Cond := [Cond.static yX4_contains, Cond.initialized RX4, Cond.code yX4_contains cX4_contains 2 (some .boolean)]
def wsX4_needed : List Cond := .code yX4_needed cX4_needed 3 (some .int) :: ((wsX4_needed_r1 ++ wsX4_needed_r2) ++ wsX40 ++ wsX20 ++ wsX30)
def wsX4_charactersIn : List Cond := .code yX4_charactersIn cX4_charactersIn 8 (some .int) :: ([.constantLong RX4 202 (255), .constantLong RX4 204 (33), .constantLong RX4 206 (126)])
def wsX4_put : List Cond := .code yX4_put cX4_put 4 (some .int) :: ([.fieldLink RX4 28 "PartingRoads" "pad" "LPartingRoads$Pad;", .fieldLink RX4 101 "PartingRoads$Pad" "length" "I", .methodLink RX4 194 yX4_charactersIn, .static yX4_charactersIn, .initialized RX4, .code yX4_charactersIn cX4_charactersIn 8 (some .int), .constantLong RX4 202 (255), .constantLong RX4 204 (33), .constantLong RX4 206 (126), .methodLink RX4 198 yX1_append, .instanceMethod yX1_append, .selects RX1 yX1_append yX1_append, .initialized RX1, .code yX1_append cX1_append 5 none, .fieldLink RX1 15 "PartingRoads$Pad" "length" "I", .fieldLink RX1 9 "PartingRoads$Pad" "characters" "[C", .constantLong RX1 29 (255)] ++ wsX40 ++ wsX10)
def wsX4_wipe : List Cond := .code yX4_wipe cX4_wipe 2 (some .int) :: ([.fieldLink RX4 28 "PartingRoads" "pad" "LPartingRoads$Pad;", .fieldLink RX4 101 "PartingRoads$Pad" "length" "I"] ++ wsX40 ++ wsX10)
def wsX4_fault_r1 : List Cond := [Cond.fieldLink RX4 28 "PartingRoads" "pad" "LPartingRoads$Pad;", Cond.methodLink RX4 81 yX1_parse, Cond.instanceMethod yX1_parse, Cond.selects RX1 yX1_parse yX1_parse, Cond.initialized RX1, Cond.code yX1_parse cX1_parse 2 (some .int), Cond.fieldLink RX1 23 "PartingRoads$Pad" "numberCount" "I", Cond.fieldLink RX1 26 "PartingRoads$Pad" "number" "I", Cond.fieldLink RX1 15 "PartingRoads$Pad" "length" "I", Cond.fieldLink RX1 9 "PartingRoads$Pad" "characters" "[C", Cond.methodLink RX1 31 yX1_takes, Cond.instanceMethod yX1_takes, Cond.selects RX1 yX1_takes yX1_takes, Cond.code yX1_takes cX1_takes 2 (some .boolean), Cond.methodLink RX1 42 yX1_takesDigit, Cond.instanceMethod yX1_takesDigit, Cond.selects RX1 yX1_takesDigit yX1_takesDigit, Cond.code yX1_takesDigit cX1_takesDigit 3 (some .boolean), Cond.methodLink RX1 35 yX1_atLength, Cond.instanceMethod yX1_atLength, Cond.selects RX1 yX1_atLength yX1_atLength, Cond.code yX1_atLength cX1_atLength 1 (some .boolean), Cond.methodLink RX1 46 yX1_characterBehind, Cond.instanceMethod yX1_characterBehind]
def wsX4_fault_r2 : List Cond := [Cond.selects RX1 yX1_characterBehind yX1_characterBehind, Cond.code yX1_characterBehind cX1_characterBehind 1 (some .char), Cond.methodLink RX1 39 yX1_keepNumber, Cond.instanceMethod yX1_keepNumber, Cond.selects RX1 yX1_keepNumber yX1_keepNumber, Cond.code yX1_keepNumber cX1_keepNumber 1 none, Cond.fieldLink RX1 19 "PartingRoads$Pad" "numbers" "[I"]
def wsX4_fault : List Cond := .code yX4_fault cX4_fault 1 (some .int) :: ((wsX4_fault_r1 ++ wsX4_fault_r2) ++ wsX40 ++ wsX10)
def wsX4_undo_r1 : List Cond := [Cond.fieldLink RX4 35 "PartingRoads" "history" "LPartingRoads$History;", Cond.fieldLink RX4 168 "PartingRoads$History" "changes" "I", Cond.fieldLink RX4 10 "PartingRoads" "town" "LPartingRoads$Town;", Cond.fieldLink RX4 21 "PartingRoads" "survey" "LPartingRoads$Survey;", Cond.methodLink RX4 208 yX0_takeBack, Cond.instanceMethod yX0_takeBack, Cond.selects RX0 yX0_takeBack yX0_takeBack, Cond.initialized RX0, Cond.code yX0_takeBack cX0_takeBack 2 none, Cond.fieldLink RX0 17 "PartingRoads$History" "changes" "I", Cond.fieldLink RX0 11 "PartingRoads$History" "states" "[LPartingRoads$Town;", Cond.methodLink RX0 25 yX3_copyFrom, Cond.instanceMethod yX3_copyFrom, Cond.selects RX3 yX3_copyFrom yX3_copyFrom, Cond.initialized RX3, Cond.code yX3_copyFrom cX3_copyFrom 2 none, Cond.fieldLink RX3 9 "PartingRoads$Town" "squareCount" "I", Cond.fieldLink RX3 15 "PartingRoads$Town" "roadCount" "I", Cond.fieldLink RX3 18 "PartingRoads$Town" "lower" "[I", Cond.methodLink RX3 31 arraycopyName, Cond.native arraycopyName, Cond.static arraycopyName, Cond.initialized "java/lang/System", Cond.fieldLink RX3 22 "PartingRoads$Town" "higher" "[I"]
def wsX4_undo_r2 : List Cond := [Cond.fieldLink RX3 25 "PartingRoads$Town" "lengths" "[I", Cond.fieldLink RX3 28 "PartingRoads$Town" "ends" "[I", Cond.methodLink RX4 58 yX2_renew, Cond.instanceMethod yX2_renew, Cond.selects RX2 yX2_renew yX2_renew, Cond.initialized RX2, Cond.code yX2_renew cX2_renew 1 none, Cond.methodLink RX2 34 yX2_findPieces, Cond.instanceMethod yX2_findPieces, Cond.selects RX2 yX2_findPieces yX2_findPieces, Cond.code yX2_findPieces cX2_findPieces 4 none, Cond.fieldLink RX2 43 "PartingRoads$Survey" "pieces" "I", Cond.fieldLink RX2 27 "PartingRoads$Survey" "town" "LPartingRoads$Town;", Cond.fieldLink RX2 47 "PartingRoads$Town" "squareCount" "I", Cond.fieldLink RX2 9 "PartingRoads$Survey" "pieceOf" "[I", Cond.static yX4_contains, Cond.initialized RX4, Cond.code yX4_contains cX4_contains 2 (some .boolean), Cond.methodLink RX2 56 yX3_allRoads, Cond.instanceMethod yX3_allRoads, Cond.selects RX3 yX3_allRoads yX3_allRoads, Cond.code yX3_allRoads cX3_allRoads 1 (some .int), Cond.methodLink RX2 60 yX3_reach, Cond.instanceMethod yX3_reach]
def wsX4_undo_r3 : List Cond := [Cond.selects RX3 yX3_reach yX3_reach, Cond.code yX3_reach cX3_reach 7 (some .int), Cond.static yX4_setForMembers, Cond.code yX4_setForMembers cX4_setForMembers 4 none, Cond.methodLink RX4 117 yX4_contains, Cond.methodLink RX2 37 yX2_findPartingRoads, Cond.instanceMethod yX2_findPartingRoads, Cond.selects RX2 yX2_findPartingRoads yX2_findPartingRoads, Cond.code yX2_findPartingRoads cX2_findPartingRoads 2 none, Cond.fieldLink RX2 68 "PartingRoads$Survey" "partingRoads" "I", Cond.fieldLink RX2 71 "PartingRoads$Town" "roadCount" "I", Cond.fieldLink RX2 21 "PartingRoads$Survey" "lowerSide" "[I", Cond.fieldLink RX2 74 "PartingRoads$Town" "lower" "[I", Cond.fieldLink RX2 77 "PartingRoads$Town" "higher" "[I", Cond.methodLink RX2 40 yX2_findDistricts, Cond.instanceMethod yX2_findDistricts, Cond.selects RX2 yX2_findDistricts yX2_findDistricts, Cond.code yX2_findDistricts cX2_findDistricts 4 none, Cond.fieldLink RX2 80 "PartingRoads$Survey" "districts" "I", Cond.fieldLink RX2 15 "PartingRoads$Survey" "districtOf" "[I", Cond.fieldLink RX2 18 "PartingRoads$Survey" "districtSquares" "[I"]
def wsX4_undo : List Cond := .code yX4_undo cX4_undo 1 (some .int) :: ((wsX4_undo_r1 ++ (wsX4_undo_r2 ++ wsX4_undo_r3)) ++ wsX40 ++ wsX00 ++ wsX30 ++ wsX20)
def wsX4_save : List Cond := .code yX4_save cX4_save 2 (some .int) :: ([.fieldLink RX4 39 "PartingRoads" "slots" "[LPartingRoads$Town;", .fieldLink RX4 10 "PartingRoads" "town" "LPartingRoads$Town;", .fieldLink RX4 43 "PartingRoads" "saved" "[Z", .fieldLink RX4 64 "PartingRoads$Town" "roadCount" "I", .methodLink RX4 211 yX3_copyFrom, .instanceMethod yX3_copyFrom, .selects RX3 yX3_copyFrom yX3_copyFrom, .initialized RX3, .code yX3_copyFrom cX3_copyFrom 2 none, .fieldLink RX3 9 "PartingRoads$Town" "squareCount" "I", .fieldLink RX3 15 "PartingRoads$Town" "roadCount" "I", .fieldLink RX3 18 "PartingRoads$Town" "lower" "[I", .methodLink RX3 31 arraycopyName, .native arraycopyName, .static arraycopyName, .initialized "java/lang/System", .fieldLink RX3 22 "PartingRoads$Town" "higher" "[I", .fieldLink RX3 25 "PartingRoads$Town" "lengths" "[I", .fieldLink RX3 28 "PartingRoads$Town" "ends" "[I"] ++ wsX40 ++ wsX30)
def wsX4_restore_r1 : List Cond := [Cond.fieldLink RX4 43 "PartingRoads" "saved" "[Z", Cond.fieldLink RX4 35 "PartingRoads" "history" "LPartingRoads$History;", Cond.fieldLink RX4 10 "PartingRoads" "town" "LPartingRoads$Town;", Cond.fieldLink RX4 39 "PartingRoads" "slots" "[LPartingRoads$Town;", Cond.fieldLink RX4 21 "PartingRoads" "survey" "LPartingRoads$Survey;", Cond.fieldLink RX4 64 "PartingRoads$Town" "roadCount" "I", Cond.methodLink RX4 55 yX0_record, Cond.instanceMethod yX0_record, Cond.selects RX0 yX0_record yX0_record, Cond.initialized RX0, Cond.code yX0_record cX0_record 2 none, Cond.fieldLink RX0 17 "PartingRoads$History" "changes" "I", Cond.fieldLink RX0 11 "PartingRoads$History" "states" "[LPartingRoads$Town;", Cond.methodLink RX0 22 yX0_dropOldest, Cond.instanceMethod yX0_dropOldest, Cond.selects RX0 yX0_dropOldest yX0_dropOldest, Cond.code yX0_dropOldest cX0_dropOldest 3 none, Cond.methodLink RX0 25 yX3_copyFrom, Cond.instanceMethod yX3_copyFrom, Cond.selects RX3 yX3_copyFrom yX3_copyFrom, Cond.initialized RX3, Cond.code yX3_copyFrom cX3_copyFrom 2 none, Cond.fieldLink RX3 9 "PartingRoads$Town" "squareCount" "I", Cond.fieldLink RX3 15 "PartingRoads$Town" "roadCount" "I"]
def wsX4_restore_r2 : List Cond := [Cond.fieldLink RX3 18 "PartingRoads$Town" "lower" "[I", Cond.methodLink RX3 31 arraycopyName, Cond.native arraycopyName, Cond.static arraycopyName, Cond.initialized "java/lang/System", Cond.fieldLink RX3 22 "PartingRoads$Town" "higher" "[I", Cond.fieldLink RX3 25 "PartingRoads$Town" "lengths" "[I", Cond.fieldLink RX3 28 "PartingRoads$Town" "ends" "[I", Cond.methodLink RX4 211 yX3_copyFrom, Cond.methodLink RX4 58 yX2_renew, Cond.instanceMethod yX2_renew, Cond.selects RX2 yX2_renew yX2_renew, Cond.initialized RX2, Cond.code yX2_renew cX2_renew 1 none, Cond.methodLink RX2 34 yX2_findPieces, Cond.instanceMethod yX2_findPieces, Cond.selects RX2 yX2_findPieces yX2_findPieces, Cond.code yX2_findPieces cX2_findPieces 4 none, Cond.fieldLink RX2 43 "PartingRoads$Survey" "pieces" "I", Cond.fieldLink RX2 27 "PartingRoads$Survey" "town" "LPartingRoads$Town;", Cond.fieldLink RX2 47 "PartingRoads$Town" "squareCount" "I", Cond.fieldLink RX2 9 "PartingRoads$Survey" "pieceOf" "[I", Cond.static yX4_contains, Cond.initialized RX4]
def wsX4_restore_r3 : List Cond := [Cond.code yX4_contains cX4_contains 2 (some .boolean), Cond.methodLink RX2 56 yX3_allRoads, Cond.instanceMethod yX3_allRoads, Cond.selects RX3 yX3_allRoads yX3_allRoads, Cond.code yX3_allRoads cX3_allRoads 1 (some .int), Cond.methodLink RX2 60 yX3_reach, Cond.instanceMethod yX3_reach, Cond.selects RX3 yX3_reach yX3_reach, Cond.code yX3_reach cX3_reach 7 (some .int), Cond.static yX4_setForMembers, Cond.code yX4_setForMembers cX4_setForMembers 4 none, Cond.methodLink RX4 117 yX4_contains, Cond.methodLink RX2 37 yX2_findPartingRoads, Cond.instanceMethod yX2_findPartingRoads, Cond.selects RX2 yX2_findPartingRoads yX2_findPartingRoads, Cond.code yX2_findPartingRoads cX2_findPartingRoads 2 none, Cond.fieldLink RX2 68 "PartingRoads$Survey" "partingRoads" "I", Cond.fieldLink RX2 71 "PartingRoads$Town" "roadCount" "I", Cond.fieldLink RX2 21 "PartingRoads$Survey" "lowerSide" "[I", Cond.fieldLink RX2 74 "PartingRoads$Town" "lower" "[I", Cond.fieldLink RX2 77 "PartingRoads$Town" "higher" "[I", Cond.methodLink RX2 40 yX2_findDistricts, Cond.instanceMethod yX2_findDistricts, Cond.selects RX2 yX2_findDistricts yX2_findDistricts]
def wsX4_restore_r4 : List Cond := [Cond.code yX2_findDistricts cX2_findDistricts 4 none, Cond.fieldLink RX2 80 "PartingRoads$Survey" "districts" "I", Cond.fieldLink RX2 15 "PartingRoads$Survey" "districtOf" "[I", Cond.fieldLink RX2 18 "PartingRoads$Survey" "districtSquares" "[I"]
def wsX4_restore : List Cond := .code yX4_restore cX4_restore 2 (some .int) :: ((wsX4_restore_r1 ++ (wsX4_restore_r2 ++ (wsX4_restore_r3 ++ wsX4_restore_r4))) ++ wsX40 ++ wsX30 ++ wsX00 ++ wsX20)
def wsX5_init : List Cond := .code yX5_init cX5_init 1 none :: ([.methodLink RX5 1 objectInit, .instanceMethod objectInit, .code objectInit ⟨#[0xb1]⟩ 1 none, .arrayClass .int, .fieldLink RX5 7 "PartingRoadsModel" "all" "[I", .fieldLink RX5 13 "PartingRoadsModel" "kept" "[I", .fieldLink RX5 16 "PartingRoadsModel" "history" "[I", .fieldLink RX5 19 "PartingRoadsModel" "slots" "[I", .fieldLink RX5 22 "PartingRoadsModel" "isSaved" "[I", .fieldLink RX5 25 "PartingRoadsModel" "far" "[I", .fieldLink RX5 28 "PartingRoadsModel" "pad" "[I", .fieldLink RX5 31 "PartingRoadsModel" "read" "[I"] ++ wsX50)
def wsX5_in : List Cond := .code yX5_in cX5_in 6 (some .boolean) :: ([])
def wsX5_keep : List Cond := .code yX5_keep cX5_keep 2 none :: ([.fieldLink RX5 13 "PartingRoadsModel" "kept" "[I", .fieldLink RX5 7 "PartingRoadsModel" "all" "[I"] ++ wsX50)
def wsX5_changed : List Cond := .code yX5_changed cX5_changed 3 (some .int) :: ([.fieldLink RX5 34 "PartingRoadsModel" "historyLong" "I", .fieldLink RX5 16 "PartingRoadsModel" "history" "[I", .fieldLink RX5 13 "PartingRoadsModel" "kept" "[I"] ++ wsX50)
def wsX5_bits : List Cond := .code yX5_bits cX5_bits 3 (some .int) :: ([])
def wsX5_isSquare : List Cond := .code yX5_isSquare cX5_isSquare 2 (some .boolean) :: ([.fieldLink RX5 7 "PartingRoadsModel" "all" "[I", .methodLink RX5 38 yX5_in, .static yX5_in, .initialized RX5, .code yX5_in cX5_in 6 (some .boolean)] ++ wsX50)
def wsX5_isRoad : List Cond := .code yX5_isRoad cX5_isRoad 2 (some .boolean) :: ([.fieldLink RX5 7 "PartingRoadsModel" "all" "[I", .methodLink RX5 38 yX5_in, .static yX5_in, .initialized RX5, .code yX5_in cX5_in 6 (some .boolean)] ++ wsX50)
def wsX5_ends : List Cond := .code yX5_ends cX5_ends 2 (some .int) :: ([.fieldLink RX5 7 "PartingRoadsModel" "all" "[I"] ++ wsX50)
def wsX5_reach : List Cond := .code yX5_reach cX5_reach 9 (some .int) :: ([.fieldLink RX5 7 "PartingRoadsModel" "all" "[I", .methodLink RX5 42 yX5_ends, .instanceMethod yX5_ends, .selects RX5 yX5_ends yX5_ends, .initialized RX5, .code yX5_ends cX5_ends 2 (some .int)] ++ wsX50)
def wsX5_pieceOf : List Cond := .code yX5_pieceOf cX5_pieceOf 2 (some .int) :: ([.methodLink RX5 46 yX5_reach, .instanceMethod yX5_reach, .selects RX5 yX5_reach yX5_reach, .initialized RX5, .code yX5_reach cX5_reach 9 (some .int), .fieldLink RX5 7 "PartingRoadsModel" "all" "[I", .methodLink RX5 42 yX5_ends, .instanceMethod yX5_ends, .selects RX5 yX5_ends yX5_ends, .code yX5_ends cX5_ends 2 (some .int)] ++ wsX50)
def wsX5_piecesWithout : List Cond := .code yX5_piecesWithout cX5_piecesWithout 5 (some .int) :: ([.fieldLink RX5 7 "PartingRoadsModel" "all" "[I", .methodLink RX5 46 yX5_reach, .instanceMethod yX5_reach, .selects RX5 yX5_reach yX5_reach, .initialized RX5, .code yX5_reach cX5_reach 9 (some .int), .methodLink RX5 42 yX5_ends, .instanceMethod yX5_ends, .selects RX5 yX5_ends yX5_ends, .code yX5_ends cX5_ends 2 (some .int)] ++ wsX50)
def wsX5_pieces : List Cond := .code yX5_pieces cX5_pieces 1 (some .int) :: ([.methodLink RX5 50 yX5_piecesWithout, .instanceMethod yX5_piecesWithout, .selects RX5 yX5_piecesWithout yX5_piecesWithout, .initialized RX5, .code yX5_piecesWithout cX5_piecesWithout 5 (some .int), .fieldLink RX5 7 "PartingRoadsModel" "all" "[I", .methodLink RX5 46 yX5_reach, .instanceMethod yX5_reach, .selects RX5 yX5_reach yX5_reach, .code yX5_reach cX5_reach 9 (some .int), .methodLink RX5 42 yX5_ends, .instanceMethod yX5_ends, .selects RX5 yX5_ends yX5_ends, .code yX5_ends cX5_ends 2 (some .int)] ++ wsX50)
def wsX5_parts : List Cond := .code yX5_parts cX5_parts 2 (some .boolean) :: ([.fieldLink RX5 7 "PartingRoadsModel" "all" "[I", .methodLink RX5 46 yX5_reach, .instanceMethod yX5_reach, .selects RX5 yX5_reach yX5_reach, .initialized RX5, .code yX5_reach cX5_reach 9 (some .int), .methodLink RX5 42 yX5_ends, .instanceMethod yX5_ends, .selects RX5 yX5_ends yX5_ends, .code yX5_ends cX5_ends 2 (some .int)] ++ wsX50)
def wsX5_parting : List Cond := .code yX5_parting cX5_parting 3 (some .int) :: ([.fieldLink RX5 7 "PartingRoadsModel" "all" "[I", .methodLink RX5 54 yX5_parts, .instanceMethod yX5_parts, .selects RX5 yX5_parts yX5_parts, .initialized RX5, .code yX5_parts cX5_parts 2 (some .boolean), .methodLink RX5 46 yX5_reach, .instanceMethod yX5_reach, .selects RX5 yX5_reach yX5_reach, .code yX5_reach cX5_reach 9 (some .int), .methodLink RX5 42 yX5_ends, .instanceMethod yX5_ends, .selects RX5 yX5_ends yX5_ends, .code yX5_ends cX5_ends 2 (some .int)] ++ wsX50)
def wsX5_pairsLost : List Cond := .code yX5_pairsLost cX5_pairsLost 2 (some .int) :: ([.fieldLink RX5 7 "PartingRoadsModel" "all" "[I", .methodLink RX5 54 yX5_parts, .instanceMethod yX5_parts, .selects RX5 yX5_parts yX5_parts, .initialized RX5, .code yX5_parts cX5_parts 2 (some .boolean), .methodLink RX5 46 yX5_reach, .instanceMethod yX5_reach, .selects RX5 yX5_reach yX5_reach, .code yX5_reach cX5_reach 9 (some .int), .methodLink RX5 42 yX5_ends, .instanceMethod yX5_ends, .selects RX5 yX5_ends yX5_ends, .code yX5_ends cX5_ends 2 (some .int), .methodLink RX5 58 yX5_bits, .static yX5_bits, .code yX5_bits cX5_bits 3 (some .int)] ++ wsX50)
def wsX5_morePieces : List Cond := .code yX5_morePieces cX5_morePieces 3 (some .int) :: ([.methodLink RX5 61 yX5_pieces, .instanceMethod yX5_pieces, .selects RX5 yX5_pieces yX5_pieces, .initialized RX5, .code yX5_pieces cX5_pieces 1 (some .int), .methodLink RX5 50 yX5_piecesWithout, .instanceMethod yX5_piecesWithout, .selects RX5 yX5_piecesWithout yX5_piecesWithout, .code yX5_piecesWithout cX5_piecesWithout 5 (some .int), .fieldLink RX5 7 "PartingRoadsModel" "all" "[I", .methodLink RX5 46 yX5_reach, .instanceMethod yX5_reach, .selects RX5 yX5_reach yX5_reach, .code yX5_reach cX5_reach 9 (some .int), .methodLink RX5 42 yX5_ends, .instanceMethod yX5_ends, .selects RX5 yX5_ends yX5_ends, .code yX5_ends cX5_ends 2 (some .int), .methodLink RX5 65 yX5_pieceOf, .instanceMethod yX5_pieceOf, .selects RX5 yX5_pieceOf yX5_pieceOf, .code yX5_pieceOf cX5_pieceOf 2 (some .int)] ++ wsX50)
def wsX5_squares : List Cond := .code yX5_squares cX5_squares 3 (some .int) :: ([.constantLong RX5 68 (2), .constantLong RX5 70 (16), .fieldLink RX5 7 "PartingRoadsModel" "all" "[I", .methodLink RX5 38 yX5_in, .static yX5_in, .initialized RX5, .code yX5_in cX5_in 6 (some .boolean), .methodLink RX5 72 yX5_keep, .instanceMethod yX5_keep, .selects RX5 yX5_keep yX5_keep, .code yX5_keep cX5_keep 2 none, .fieldLink RX5 13 "PartingRoadsModel" "kept" "[I", .methodLink RX5 75 yX5_changed, .instanceMethod yX5_changed, .selects RX5 yX5_changed yX5_changed, .code yX5_changed cX5_changed 3 (some .int), .fieldLink RX5 34 "PartingRoadsModel" "historyLong" "I", .fieldLink RX5 16 "PartingRoadsModel" "history" "[I"] ++ wsX50)
def wsX5_adds : List Cond := .code yX5_adds cX5_adds 4 none :: ([.fieldLink RX5 7 "PartingRoadsModel" "all" "[I"] ++ wsX50)
def wsX5_build_r1 : List Cond := [Cond.constantLong RX5 81 (99), Cond.fieldLink RX5 7 "PartingRoadsModel" "all" "[I", Cond.methodLink RX5 78 yX5_isSquare, Cond.instanceMethod yX5_isSquare, Cond.selects RX5 yX5_isSquare yX5_isSquare, Cond.initialized RX5, Cond.code yX5_isSquare cX5_isSquare 2 (some .boolean), Cond.methodLink RX5 38 yX5_in, Cond.static yX5_in, Cond.code yX5_in cX5_in 6 (some .boolean), Cond.methodLink RX5 72 yX5_keep, Cond.instanceMethod yX5_keep, Cond.selects RX5 yX5_keep yX5_keep, Cond.code yX5_keep cX5_keep 2 none, Cond.fieldLink RX5 13 "PartingRoadsModel" "kept" "[I", Cond.methodLink RX5 83 yX5_adds, Cond.instanceMethod yX5_adds, Cond.selects RX5 yX5_adds yX5_adds, Cond.code yX5_adds cX5_adds 4 none, Cond.methodLink RX5 61 yX5_pieces, Cond.instanceMethod yX5_pieces, Cond.selects RX5 yX5_pieces yX5_pieces, Cond.code yX5_pieces cX5_pieces 1 (some .int), Cond.methodLink RX5 50 yX5_piecesWithout]
def wsX5_build_r2 : List Cond := [Cond.instanceMethod yX5_piecesWithout, Cond.selects RX5 yX5_piecesWithout yX5_piecesWithout, Cond.code yX5_piecesWithout cX5_piecesWithout 5 (some .int), Cond.methodLink RX5 46 yX5_reach, Cond.instanceMethod yX5_reach, Cond.selects RX5 yX5_reach yX5_reach, Cond.code yX5_reach cX5_reach 9 (some .int), Cond.methodLink RX5 42 yX5_ends, Cond.instanceMethod yX5_ends, Cond.selects RX5 yX5_ends yX5_ends, Cond.code yX5_ends cX5_ends 2 (some .int), Cond.methodLink RX5 75 yX5_changed, Cond.instanceMethod yX5_changed, Cond.selects RX5 yX5_changed yX5_changed, Cond.code yX5_changed cX5_changed 3 (some .int), Cond.fieldLink RX5 34 "PartingRoadsModel" "historyLong" "I", Cond.fieldLink RX5 16 "PartingRoadsModel" "history" "[I"]
def wsX5_build : List Cond := .code yX5_build cX5_build 4 (some .int) :: ((wsX5_build_r1 ++ wsX5_build_r2) ++ wsX50)
def wsX5_lose_r1 : List Cond := [Cond.fieldLink RX5 7 "PartingRoadsModel" "all" "[I", Cond.methodLink RX5 87 yX5_isRoad, Cond.instanceMethod yX5_isRoad, Cond.selects RX5 yX5_isRoad yX5_isRoad, Cond.initialized RX5, Cond.code yX5_isRoad cX5_isRoad 2 (some .boolean), Cond.methodLink RX5 38 yX5_in, Cond.static yX5_in, Cond.code yX5_in cX5_in 6 (some .boolean), Cond.methodLink RX5 72 yX5_keep, Cond.instanceMethod yX5_keep, Cond.selects RX5 yX5_keep yX5_keep, Cond.code yX5_keep cX5_keep 2 none, Cond.fieldLink RX5 13 "PartingRoadsModel" "kept" "[I", Cond.methodLink RX5 61 yX5_pieces, Cond.instanceMethod yX5_pieces, Cond.selects RX5 yX5_pieces yX5_pieces, Cond.code yX5_pieces cX5_pieces 1 (some .int), Cond.methodLink RX5 50 yX5_piecesWithout, Cond.instanceMethod yX5_piecesWithout, Cond.selects RX5 yX5_piecesWithout yX5_piecesWithout, Cond.code yX5_piecesWithout cX5_piecesWithout 5 (some .int), Cond.methodLink RX5 46 yX5_reach, Cond.instanceMethod yX5_reach]
def wsX5_lose_r2 : List Cond := [Cond.selects RX5 yX5_reach yX5_reach, Cond.code yX5_reach cX5_reach 9 (some .int), Cond.methodLink RX5 42 yX5_ends, Cond.instanceMethod yX5_ends, Cond.selects RX5 yX5_ends yX5_ends, Cond.code yX5_ends cX5_ends 2 (some .int), Cond.methodLink RX5 75 yX5_changed, Cond.instanceMethod yX5_changed, Cond.selects RX5 yX5_changed yX5_changed, Cond.code yX5_changed cX5_changed 3 (some .int), Cond.fieldLink RX5 34 "PartingRoadsModel" "historyLong" "I", Cond.fieldLink RX5 16 "PartingRoadsModel" "history" "[I"]
def wsX5_lose : List Cond := .code yX5_lose cX5_lose 3 (some .int) :: ((wsX5_lose_r1 ++ wsX5_lose_r2) ++ wsX50)
def wsX5_findsFar : List Cond := .code yX5_findsFar cX5_findsFar 9 none :: ([.fieldLink RX5 25 "PartingRoadsModel" "far" "[I", .constant RX5 90 (100000), .fieldLink RX5 7 "PartingRoadsModel" "all" "[I"] ++ wsX50)
def wsX5_leastRing : List Cond := .code yX5_leastRing cX5_leastRing 3 (some .int) :: ([.fieldLink RX5 7 "PartingRoadsModel" "all" "[I", .fieldLink RX5 25 "PartingRoadsModel" "far" "[I", .constant RX5 90 (100000), .methodLink RX5 91 yX5_findsFar, .instanceMethod yX5_findsFar, .selects RX5 yX5_findsFar yX5_findsFar, .initialized RX5, .code yX5_findsFar cX5_findsFar 9 none] ++ wsX50)
def wsX5_districtOf : List Cond := .code yX5_districtOf cX5_districtOf 2 (some .int) :: ([.methodLink RX5 95 yX5_parting, .instanceMethod yX5_parting, .selects RX5 yX5_parting yX5_parting, .initialized RX5, .code yX5_parting cX5_parting 3 (some .int), .fieldLink RX5 7 "PartingRoadsModel" "all" "[I", .methodLink RX5 54 yX5_parts, .instanceMethod yX5_parts, .selects RX5 yX5_parts yX5_parts, .code yX5_parts cX5_parts 2 (some .boolean), .methodLink RX5 46 yX5_reach, .instanceMethod yX5_reach, .selects RX5 yX5_reach yX5_reach, .code yX5_reach cX5_reach 9 (some .int), .methodLink RX5 42 yX5_ends, .instanceMethod yX5_ends, .selects RX5 yX5_ends yX5_ends, .code yX5_ends cX5_ends 2 (some .int)] ++ wsX50)
def wsX5_districtsBelow : List Cond := .code yX5_districtsBelow cX5_districtsBelow 5 (some .int) :: ([.methodLink RX5 95 yX5_parting, .instanceMethod yX5_parting, .selects RX5 yX5_parting yX5_parting, .initialized RX5, .code yX5_parting cX5_parting 3 (some .int), .fieldLink RX5 7 "PartingRoadsModel" "all" "[I", .methodLink RX5 54 yX5_parts, .instanceMethod yX5_parts, .selects RX5 yX5_parts yX5_parts, .code yX5_parts cX5_parts 2 (some .boolean), .methodLink RX5 46 yX5_reach, .instanceMethod yX5_reach, .selects RX5 yX5_reach yX5_reach, .code yX5_reach cX5_reach 9 (some .int), .methodLink RX5 42 yX5_ends, .instanceMethod yX5_ends, .selects RX5 yX5_ends yX5_ends, .code yX5_ends cX5_ends 2 (some .int)] ++ wsX50)
def wsX5_lowest : List Cond := .code yX5_lowest cX5_lowest 2 (some .int) :: ([])
def wsX5_numberOf_r1 : List Cond := [Cond.methodLink RX5 98 yX5_districtOf, Cond.instanceMethod yX5_districtOf, Cond.selects RX5 yX5_districtOf yX5_districtOf, Cond.initialized RX5, Cond.code yX5_districtOf cX5_districtOf 2 (some .int), Cond.methodLink RX5 95 yX5_parting, Cond.instanceMethod yX5_parting, Cond.selects RX5 yX5_parting yX5_parting, Cond.code yX5_parting cX5_parting 3 (some .int), Cond.fieldLink RX5 7 "PartingRoadsModel" "all" "[I", Cond.methodLink RX5 54 yX5_parts, Cond.instanceMethod yX5_parts, Cond.selects RX5 yX5_parts yX5_parts, Cond.code yX5_parts cX5_parts 2 (some .boolean), Cond.methodLink RX5 46 yX5_reach, Cond.instanceMethod yX5_reach, Cond.selects RX5 yX5_reach yX5_reach, Cond.code yX5_reach cX5_reach 9 (some .int), Cond.methodLink RX5 42 yX5_ends, Cond.instanceMethod yX5_ends, Cond.selects RX5 yX5_ends yX5_ends, Cond.code yX5_ends cX5_ends 2 (some .int), Cond.methodLink RX5 101 yX5_lowest, Cond.static yX5_lowest]
def wsX5_numberOf_r2 : List Cond := [Cond.code yX5_lowest cX5_lowest 2 (some .int), Cond.methodLink RX5 104 yX5_districtsBelow, Cond.instanceMethod yX5_districtsBelow, Cond.selects RX5 yX5_districtsBelow yX5_districtsBelow, Cond.code yX5_districtsBelow cX5_districtsBelow 5 (some .int)]
def wsX5_numberOf : List Cond := .code yX5_numberOf cX5_numberOf 2 (some .int) :: ((wsX5_numberOf_r1 ++ wsX5_numberOf_r2) ++ wsX50)
def wsX5_districts : List Cond := .code yX5_districts cX5_districts 1 (some .int) :: ([.fieldLink RX5 7 "PartingRoadsModel" "all" "[I", .methodLink RX5 104 yX5_districtsBelow, .instanceMethod yX5_districtsBelow, .selects RX5 yX5_districtsBelow yX5_districtsBelow, .initialized RX5, .code yX5_districtsBelow cX5_districtsBelow 5 (some .int), .methodLink RX5 95 yX5_parting, .instanceMethod yX5_parting, .selects RX5 yX5_parting yX5_parting, .code yX5_parting cX5_parting 3 (some .int), .methodLink RX5 54 yX5_parts, .instanceMethod yX5_parts, .selects RX5 yX5_parts yX5_parts, .code yX5_parts cX5_parts 2 (some .boolean), .methodLink RX5 46 yX5_reach, .instanceMethod yX5_reach, .selects RX5 yX5_reach yX5_reach, .code yX5_reach cX5_reach 9 (some .int), .methodLink RX5 42 yX5_ends, .instanceMethod yX5_ends, .selects RX5 yX5_ends yX5_ends, .code yX5_ends cX5_ends 2 (some .int)] ++ wsX50)
def wsX5_squaresOf : List Cond := .code yX5_squaresOf cX5_squaresOf 6 (some .int) :: ([.fieldLink RX5 7 "PartingRoadsModel" "all" "[I", .methodLink RX5 95 yX5_parting, .instanceMethod yX5_parting, .selects RX5 yX5_parting yX5_parting, .initialized RX5, .code yX5_parting cX5_parting 3 (some .int), .methodLink RX5 54 yX5_parts, .instanceMethod yX5_parts, .selects RX5 yX5_parts yX5_parts, .code yX5_parts cX5_parts 2 (some .boolean), .methodLink RX5 46 yX5_reach, .instanceMethod yX5_reach, .selects RX5 yX5_reach yX5_reach, .code yX5_reach cX5_reach 9 (some .int), .methodLink RX5 42 yX5_ends, .instanceMethod yX5_ends, .selects RX5 yX5_ends yX5_ends, .code yX5_ends cX5_ends 2 (some .int)] ++ wsX50)
def wsX5_roadsWithin : List Cond := .code yX5_roadsWithin cX5_roadsWithin 4 (some .int) :: ([.fieldLink RX5 7 "PartingRoadsModel" "all" "[I", .methodLink RX5 42 yX5_ends, .instanceMethod yX5_ends, .selects RX5 yX5_ends yX5_ends, .initialized RX5, .code yX5_ends cX5_ends 2 (some .int)] ++ wsX50)
def wsX5_lengthWithin : List Cond := .code yX5_lengthWithin cX5_lengthWithin 4 (some .int) :: ([.fieldLink RX5 7 "PartingRoadsModel" "all" "[I", .methodLink RX5 42 yX5_ends, .instanceMethod yX5_ends, .selects RX5 yX5_ends yX5_ends, .initialized RX5, .code yX5_ends cX5_ends 2 (some .int)] ++ wsX50)
def wsX5_roadsOut : List Cond := .code yX5_roadsOut cX5_roadsOut 5 (some .int) :: ([.fieldLink RX5 7 "PartingRoadsModel" "all" "[I", .methodLink RX5 42 yX5_ends, .instanceMethod yX5_ends, .selects RX5 yX5_ends yX5_ends, .initialized RX5, .code yX5_ends cX5_ends 2 (some .int)] ++ wsX50)
def wsX5_longestDistrict_r1 : List Cond := [Cond.methodLink RX5 107 yX5_districts, Cond.instanceMethod yX5_districts, Cond.selects RX5 yX5_districts yX5_districts, Cond.initialized RX5, Cond.code yX5_districts cX5_districts 1 (some .int), Cond.fieldLink RX5 7 "PartingRoadsModel" "all" "[I", Cond.methodLink RX5 104 yX5_districtsBelow, Cond.instanceMethod yX5_districtsBelow, Cond.selects RX5 yX5_districtsBelow yX5_districtsBelow, Cond.code yX5_districtsBelow cX5_districtsBelow 5 (some .int), Cond.methodLink RX5 95 yX5_parting, Cond.instanceMethod yX5_parting, Cond.selects RX5 yX5_parting yX5_parting, Cond.code yX5_parting cX5_parting 3 (some .int), Cond.methodLink RX5 54 yX5_parts, Cond.instanceMethod yX5_parts, Cond.selects RX5 yX5_parts yX5_parts, Cond.code yX5_parts cX5_parts 2 (some .boolean), Cond.methodLink RX5 46 yX5_reach, Cond.instanceMethod yX5_reach, Cond.selects RX5 yX5_reach yX5_reach, Cond.code yX5_reach cX5_reach 9 (some .int), Cond.methodLink RX5 42 yX5_ends, Cond.instanceMethod yX5_ends]
def wsX5_longestDistrict_r2 : List Cond := [Cond.selects RX5 yX5_ends yX5_ends, Cond.code yX5_ends cX5_ends 2 (some .int), Cond.methodLink RX5 110 yX5_squaresOf, Cond.instanceMethod yX5_squaresOf, Cond.selects RX5 yX5_squaresOf yX5_squaresOf, Cond.code yX5_squaresOf cX5_squaresOf 6 (some .int), Cond.methodLink RX5 113 yX5_lengthWithin, Cond.instanceMethod yX5_lengthWithin, Cond.selects RX5 yX5_lengthWithin yX5_lengthWithin, Cond.code yX5_lengthWithin cX5_lengthWithin 4 (some .int)]
def wsX5_longestDistrict : List Cond := .code yX5_longestDistrict cX5_longestDistrict 6 (some .int) :: ((wsX5_longestDistrict_r1 ++ wsX5_longestDistrict_r2) ++ wsX50)
def wsX5_road_r1 : List Cond := [Cond.fieldLink RX5 7 "PartingRoadsModel" "all" "[I", Cond.methodLink RX5 87 yX5_isRoad, Cond.instanceMethod yX5_isRoad, Cond.selects RX5 yX5_isRoad yX5_isRoad, Cond.initialized RX5, Cond.code yX5_isRoad cX5_isRoad 2 (some .boolean), Cond.methodLink RX5 38 yX5_in, Cond.static yX5_in, Cond.code yX5_in cX5_in 6 (some .boolean), Cond.methodLink RX5 54 yX5_parts, Cond.instanceMethod yX5_parts, Cond.selects RX5 yX5_parts yX5_parts, Cond.code yX5_parts cX5_parts 2 (some .boolean), Cond.methodLink RX5 46 yX5_reach, Cond.instanceMethod yX5_reach, Cond.selects RX5 yX5_reach yX5_reach, Cond.code yX5_reach cX5_reach 9 (some .int), Cond.methodLink RX5 42 yX5_ends, Cond.instanceMethod yX5_ends, Cond.selects RX5 yX5_ends yX5_ends, Cond.code yX5_ends cX5_ends 2 (some .int), Cond.methodLink RX5 116 yX5_leastRing, Cond.instanceMethod yX5_leastRing, Cond.selects RX5 yX5_leastRing yX5_leastRing]
def wsX5_road_r2 : List Cond := [Cond.code yX5_leastRing cX5_leastRing 3 (some .int), Cond.fieldLink RX5 25 "PartingRoadsModel" "far" "[I", Cond.constant RX5 90 (100000), Cond.methodLink RX5 91 yX5_findsFar, Cond.instanceMethod yX5_findsFar, Cond.selects RX5 yX5_findsFar yX5_findsFar, Cond.code yX5_findsFar cX5_findsFar 9 none, Cond.methodLink RX5 119 yX5_pairsLost, Cond.instanceMethod yX5_pairsLost, Cond.selects RX5 yX5_pairsLost yX5_pairsLost, Cond.code yX5_pairsLost cX5_pairsLost 2 (some .int), Cond.methodLink RX5 58 yX5_bits, Cond.static yX5_bits, Cond.code yX5_bits cX5_bits 3 (some .int)]
def wsX5_road : List Cond := .code yX5_road cX5_road 3 (some .int) :: ((wsX5_road_r1 ++ wsX5_road_r2) ++ wsX50)
def wsX5_square_r1 : List Cond := [Cond.methodLink RX5 78 yX5_isSquare, Cond.instanceMethod yX5_isSquare, Cond.selects RX5 yX5_isSquare yX5_isSquare, Cond.initialized RX5, Cond.code yX5_isSquare cX5_isSquare 2 (some .boolean), Cond.fieldLink RX5 7 "PartingRoadsModel" "all" "[I", Cond.methodLink RX5 38 yX5_in, Cond.static yX5_in, Cond.code yX5_in cX5_in 6 (some .boolean), Cond.methodLink RX5 122 yX5_roadsOut, Cond.instanceMethod yX5_roadsOut, Cond.selects RX5 yX5_roadsOut yX5_roadsOut, Cond.code yX5_roadsOut cX5_roadsOut 5 (some .int), Cond.methodLink RX5 42 yX5_ends, Cond.instanceMethod yX5_ends, Cond.selects RX5 yX5_ends yX5_ends, Cond.code yX5_ends cX5_ends 2 (some .int), Cond.methodLink RX5 125 yX5_morePieces, Cond.instanceMethod yX5_morePieces, Cond.selects RX5 yX5_morePieces yX5_morePieces, Cond.code yX5_morePieces cX5_morePieces 3 (some .int), Cond.methodLink RX5 61 yX5_pieces, Cond.instanceMethod yX5_pieces, Cond.selects RX5 yX5_pieces yX5_pieces]
def wsX5_square_r2 : List Cond := [Cond.code yX5_pieces cX5_pieces 1 (some .int), Cond.methodLink RX5 50 yX5_piecesWithout, Cond.instanceMethod yX5_piecesWithout, Cond.selects RX5 yX5_piecesWithout yX5_piecesWithout, Cond.code yX5_piecesWithout cX5_piecesWithout 5 (some .int), Cond.methodLink RX5 46 yX5_reach, Cond.instanceMethod yX5_reach, Cond.selects RX5 yX5_reach yX5_reach, Cond.code yX5_reach cX5_reach 9 (some .int), Cond.methodLink RX5 65 yX5_pieceOf, Cond.instanceMethod yX5_pieceOf, Cond.selects RX5 yX5_pieceOf yX5_pieceOf, Cond.code yX5_pieceOf cX5_pieceOf 2 (some .int), Cond.methodLink RX5 128 yX5_numberOf, Cond.instanceMethod yX5_numberOf, Cond.selects RX5 yX5_numberOf yX5_numberOf, Cond.code yX5_numberOf cX5_numberOf 2 (some .int), Cond.methodLink RX5 98 yX5_districtOf, Cond.instanceMethod yX5_districtOf, Cond.selects RX5 yX5_districtOf yX5_districtOf, Cond.code yX5_districtOf cX5_districtOf 2 (some .int), Cond.methodLink RX5 95 yX5_parting, Cond.instanceMethod yX5_parting, Cond.selects RX5 yX5_parting yX5_parting]
def wsX5_square_r3 : List Cond := [Cond.code yX5_parting cX5_parting 3 (some .int), Cond.methodLink RX5 54 yX5_parts, Cond.instanceMethod yX5_parts, Cond.selects RX5 yX5_parts yX5_parts, Cond.code yX5_parts cX5_parts 2 (some .boolean), Cond.methodLink RX5 101 yX5_lowest, Cond.static yX5_lowest, Cond.code yX5_lowest cX5_lowest 2 (some .int), Cond.methodLink RX5 104 yX5_districtsBelow, Cond.instanceMethod yX5_districtsBelow, Cond.selects RX5 yX5_districtsBelow yX5_districtsBelow, Cond.code yX5_districtsBelow cX5_districtsBelow 5 (some .int)]
def wsX5_square : List Cond := .code yX5_square cX5_square 3 (some .int) :: ((wsX5_square_r1 ++ (wsX5_square_r2 ++ wsX5_square_r3)) ++ wsX50)
def wsX5_district_r1 : List Cond := [Cond.methodLink RX5 107 yX5_districts, Cond.instanceMethod yX5_districts, Cond.selects RX5 yX5_districts yX5_districts, Cond.initialized RX5, Cond.code yX5_districts cX5_districts 1 (some .int), Cond.fieldLink RX5 7 "PartingRoadsModel" "all" "[I", Cond.methodLink RX5 104 yX5_districtsBelow, Cond.instanceMethod yX5_districtsBelow, Cond.selects RX5 yX5_districtsBelow yX5_districtsBelow, Cond.code yX5_districtsBelow cX5_districtsBelow 5 (some .int), Cond.methodLink RX5 95 yX5_parting, Cond.instanceMethod yX5_parting, Cond.selects RX5 yX5_parting yX5_parting, Cond.code yX5_parting cX5_parting 3 (some .int), Cond.methodLink RX5 54 yX5_parts, Cond.instanceMethod yX5_parts, Cond.selects RX5 yX5_parts yX5_parts, Cond.code yX5_parts cX5_parts 2 (some .boolean), Cond.methodLink RX5 46 yX5_reach, Cond.instanceMethod yX5_reach, Cond.selects RX5 yX5_reach yX5_reach, Cond.code yX5_reach cX5_reach 9 (some .int), Cond.methodLink RX5 42 yX5_ends, Cond.instanceMethod yX5_ends]
def wsX5_district_r2 : List Cond := [Cond.selects RX5 yX5_ends yX5_ends, Cond.code yX5_ends cX5_ends 2 (some .int), Cond.methodLink RX5 38 yX5_in, Cond.static yX5_in, Cond.code yX5_in cX5_in 6 (some .boolean), Cond.methodLink RX5 110 yX5_squaresOf, Cond.instanceMethod yX5_squaresOf, Cond.selects RX5 yX5_squaresOf yX5_squaresOf, Cond.code yX5_squaresOf cX5_squaresOf 6 (some .int), Cond.methodLink RX5 113 yX5_lengthWithin, Cond.instanceMethod yX5_lengthWithin, Cond.selects RX5 yX5_lengthWithin yX5_lengthWithin, Cond.code yX5_lengthWithin cX5_lengthWithin 4 (some .int), Cond.methodLink RX5 122 yX5_roadsOut, Cond.instanceMethod yX5_roadsOut, Cond.selects RX5 yX5_roadsOut yX5_roadsOut, Cond.code yX5_roadsOut cX5_roadsOut 5 (some .int), Cond.methodLink RX5 131 yX5_roadsWithin, Cond.instanceMethod yX5_roadsWithin, Cond.selects RX5 yX5_roadsWithin yX5_roadsWithin, Cond.code yX5_roadsWithin cX5_roadsWithin 4 (some .int), Cond.methodLink RX5 58 yX5_bits, Cond.static yX5_bits, Cond.code yX5_bits cX5_bits 3 (some .int)]
def wsX5_district : List Cond := .code yX5_district cX5_district 4 (some .int) :: ((wsX5_district_r1 ++ wsX5_district_r2) ++ wsX50)
def wsX5_squaresThatPart_r1 : List Cond := [Cond.fieldLink RX5 7 "PartingRoadsModel" "all" "[I", Cond.methodLink RX5 125 yX5_morePieces, Cond.instanceMethod yX5_morePieces, Cond.selects RX5 yX5_morePieces yX5_morePieces, Cond.initialized RX5, Cond.code yX5_morePieces cX5_morePieces 3 (some .int), Cond.methodLink RX5 61 yX5_pieces, Cond.instanceMethod yX5_pieces, Cond.selects RX5 yX5_pieces yX5_pieces, Cond.code yX5_pieces cX5_pieces 1 (some .int), Cond.methodLink RX5 50 yX5_piecesWithout, Cond.instanceMethod yX5_piecesWithout, Cond.selects RX5 yX5_piecesWithout yX5_piecesWithout, Cond.code yX5_piecesWithout cX5_piecesWithout 5 (some .int), Cond.methodLink RX5 46 yX5_reach, Cond.instanceMethod yX5_reach, Cond.selects RX5 yX5_reach yX5_reach, Cond.code yX5_reach cX5_reach 9 (some .int), Cond.methodLink RX5 42 yX5_ends, Cond.instanceMethod yX5_ends, Cond.selects RX5 yX5_ends yX5_ends, Cond.code yX5_ends cX5_ends 2 (some .int), Cond.methodLink RX5 65 yX5_pieceOf, Cond.instanceMethod yX5_pieceOf]
def wsX5_squaresThatPart_r2 : List Cond := [Cond.selects RX5 yX5_pieceOf yX5_pieceOf, Cond.code yX5_pieceOf cX5_pieceOf 2 (some .int)]
def wsX5_squaresThatPart : List Cond := .code yX5_squaresThatPart cX5_squaresThatPart 3 (some .int) :: ((wsX5_squaresThatPart_r1 ++ wsX5_squaresThatPart_r2) ++ wsX50)
def wsX5_count_r1 : List Cond := [Cond.fieldLink RX5 7 "PartingRoadsModel" "all" "[I", Cond.constant RX5 140 (65535), Cond.fieldLink RX5 141 "PartingRoadsModel" "padLong" "I", Cond.fieldLink RX5 34 "PartingRoadsModel" "historyLong" "I", Cond.methodLink RX5 61 yX5_pieces, Cond.instanceMethod yX5_pieces, Cond.selects RX5 yX5_pieces yX5_pieces, Cond.initialized RX5, Cond.code yX5_pieces cX5_pieces 1 (some .int), Cond.methodLink RX5 50 yX5_piecesWithout, Cond.instanceMethod yX5_piecesWithout, Cond.selects RX5 yX5_piecesWithout yX5_piecesWithout, Cond.code yX5_piecesWithout cX5_piecesWithout 5 (some .int), Cond.methodLink RX5 46 yX5_reach, Cond.instanceMethod yX5_reach, Cond.selects RX5 yX5_reach yX5_reach, Cond.code yX5_reach cX5_reach 9 (some .int), Cond.methodLink RX5 42 yX5_ends, Cond.instanceMethod yX5_ends, Cond.selects RX5 yX5_ends yX5_ends, Cond.code yX5_ends cX5_ends 2 (some .int), Cond.methodLink RX5 95 yX5_parting, Cond.instanceMethod yX5_parting, Cond.selects RX5 yX5_parting yX5_parting]
def wsX5_count_r2 : List Cond := [Cond.code yX5_parting cX5_parting 3 (some .int), Cond.methodLink RX5 54 yX5_parts, Cond.instanceMethod yX5_parts, Cond.selects RX5 yX5_parts yX5_parts, Cond.code yX5_parts cX5_parts 2 (some .boolean), Cond.methodLink RX5 58 yX5_bits, Cond.static yX5_bits, Cond.code yX5_bits cX5_bits 3 (some .int), Cond.methodLink RX5 134 yX5_squaresThatPart, Cond.instanceMethod yX5_squaresThatPart, Cond.selects RX5 yX5_squaresThatPart yX5_squaresThatPart, Cond.code yX5_squaresThatPart cX5_squaresThatPart 3 (some .int), Cond.methodLink RX5 125 yX5_morePieces, Cond.instanceMethod yX5_morePieces, Cond.selects RX5 yX5_morePieces yX5_morePieces, Cond.code yX5_morePieces cX5_morePieces 3 (some .int), Cond.methodLink RX5 65 yX5_pieceOf, Cond.instanceMethod yX5_pieceOf, Cond.selects RX5 yX5_pieceOf yX5_pieceOf, Cond.code yX5_pieceOf cX5_pieceOf 2 (some .int), Cond.methodLink RX5 107 yX5_districts, Cond.instanceMethod yX5_districts, Cond.selects RX5 yX5_districts yX5_districts, Cond.code yX5_districts cX5_districts 1 (some .int)]
def wsX5_count_r3 : List Cond := [Cond.methodLink RX5 104 yX5_districtsBelow, Cond.instanceMethod yX5_districtsBelow, Cond.selects RX5 yX5_districtsBelow yX5_districtsBelow, Cond.code yX5_districtsBelow cX5_districtsBelow 5 (some .int), Cond.methodLink RX5 137 yX5_longestDistrict, Cond.instanceMethod yX5_longestDistrict, Cond.selects RX5 yX5_longestDistrict yX5_longestDistrict, Cond.code yX5_longestDistrict cX5_longestDistrict 6 (some .int), Cond.methodLink RX5 110 yX5_squaresOf, Cond.instanceMethod yX5_squaresOf, Cond.selects RX5 yX5_squaresOf yX5_squaresOf, Cond.code yX5_squaresOf cX5_squaresOf 6 (some .int), Cond.methodLink RX5 113 yX5_lengthWithin, Cond.instanceMethod yX5_lengthWithin, Cond.selects RX5 yX5_lengthWithin yX5_lengthWithin, Cond.code yX5_lengthWithin cX5_lengthWithin 4 (some .int)]
def wsX5_count : List Cond := .code yX5_count cX5_count 2 (some .int) :: ((wsX5_count_r1 ++ (wsX5_count_r2 ++ wsX5_count_r3)) ++ wsX50)
def wsX5_hang : List Cond := .code yX5_hang cX5_hang 3 (some .boolean) :: ([.methodLink RX5 65 yX5_pieceOf, .instanceMethod yX5_pieceOf, .selects RX5 yX5_pieceOf yX5_pieceOf, .initialized RX5, .code yX5_pieceOf cX5_pieceOf 2 (some .int), .methodLink RX5 46 yX5_reach, .instanceMethod yX5_reach, .selects RX5 yX5_reach yX5_reach, .code yX5_reach cX5_reach 9 (some .int), .fieldLink RX5 7 "PartingRoadsModel" "all" "[I", .methodLink RX5 42 yX5_ends, .instanceMethod yX5_ends, .selects RX5 yX5_ends yX5_ends, .code yX5_ends cX5_ends 2 (some .int)] ++ wsX50)
def wsX5_musts : List Cond := .code yX5_musts cX5_musts 5 (some .int) :: ([.fieldLink RX5 7 "PartingRoadsModel" "all" "[I", .methodLink RX5 46 yX5_reach, .instanceMethod yX5_reach, .selects RX5 yX5_reach yX5_reach, .initialized RX5, .code yX5_reach cX5_reach 9 (some .int), .methodLink RX5 42 yX5_ends, .instanceMethod yX5_ends, .selects RX5 yX5_ends yX5_ends, .code yX5_ends cX5_ends 2 (some .int)] ++ wsX50)
def wsX5_way_r1 : List Cond := [Cond.constantLong RX5 68 (2), Cond.fieldLink RX5 25 "PartingRoadsModel" "far" "[I", Cond.methodLink RX5 78 yX5_isSquare, Cond.instanceMethod yX5_isSquare, Cond.selects RX5 yX5_isSquare yX5_isSquare, Cond.initialized RX5, Cond.code yX5_isSquare cX5_isSquare 2 (some .boolean), Cond.fieldLink RX5 7 "PartingRoadsModel" "all" "[I", Cond.methodLink RX5 38 yX5_in, Cond.static yX5_in, Cond.code yX5_in cX5_in 6 (some .boolean), Cond.methodLink RX5 144 yX5_hang, Cond.instanceMethod yX5_hang, Cond.selects RX5 yX5_hang yX5_hang, Cond.code yX5_hang cX5_hang 3 (some .boolean), Cond.methodLink RX5 65 yX5_pieceOf, Cond.instanceMethod yX5_pieceOf, Cond.selects RX5 yX5_pieceOf yX5_pieceOf, Cond.code yX5_pieceOf cX5_pieceOf 2 (some .int), Cond.methodLink RX5 46 yX5_reach, Cond.instanceMethod yX5_reach, Cond.selects RX5 yX5_reach yX5_reach, Cond.code yX5_reach cX5_reach 9 (some .int), Cond.methodLink RX5 42 yX5_ends]
def wsX5_way_r2 : List Cond := [Cond.instanceMethod yX5_ends, Cond.selects RX5 yX5_ends yX5_ends, Cond.code yX5_ends cX5_ends 2 (some .int), Cond.methodLink RX5 91 yX5_findsFar, Cond.instanceMethod yX5_findsFar, Cond.selects RX5 yX5_findsFar yX5_findsFar, Cond.code yX5_findsFar cX5_findsFar 9 none, Cond.constant RX5 90 (100000), Cond.methodLink RX5 148 yX5_musts, Cond.instanceMethod yX5_musts, Cond.selects RX5 yX5_musts yX5_musts, Cond.code yX5_musts cX5_musts 5 (some .int), Cond.methodLink RX5 58 yX5_bits, Cond.static yX5_bits, Cond.code yX5_bits cX5_bits 3 (some .int)]
def wsX5_way : List Cond := .code yX5_way cX5_way 4 (some .int) :: ((wsX5_way_r1 ++ wsX5_way_r2) ++ wsX50)
def wsX5_must_r1 : List Cond := [Cond.fieldLink RX5 7 "PartingRoadsModel" "all" "[I", Cond.methodLink RX5 78 yX5_isSquare, Cond.instanceMethod yX5_isSquare, Cond.selects RX5 yX5_isSquare yX5_isSquare, Cond.initialized RX5, Cond.code yX5_isSquare cX5_isSquare 2 (some .boolean), Cond.methodLink RX5 38 yX5_in, Cond.static yX5_in, Cond.code yX5_in cX5_in 6 (some .boolean), Cond.methodLink RX5 144 yX5_hang, Cond.instanceMethod yX5_hang, Cond.selects RX5 yX5_hang yX5_hang, Cond.code yX5_hang cX5_hang 3 (some .boolean), Cond.methodLink RX5 65 yX5_pieceOf, Cond.instanceMethod yX5_pieceOf, Cond.selects RX5 yX5_pieceOf yX5_pieceOf, Cond.code yX5_pieceOf cX5_pieceOf 2 (some .int), Cond.methodLink RX5 46 yX5_reach, Cond.instanceMethod yX5_reach, Cond.selects RX5 yX5_reach yX5_reach, Cond.code yX5_reach cX5_reach 9 (some .int), Cond.methodLink RX5 42 yX5_ends, Cond.instanceMethod yX5_ends, Cond.selects RX5 yX5_ends yX5_ends]
def wsX5_must_r2 : List Cond := [Cond.code yX5_ends cX5_ends 2 (some .int), Cond.methodLink RX5 148 yX5_musts, Cond.instanceMethod yX5_musts, Cond.selects RX5 yX5_musts yX5_musts, Cond.code yX5_musts cX5_musts 5 (some .int)]
def wsX5_must : List Cond := .code yX5_must cX5_must 8 (some .int) :: ((wsX5_must_r1 ++ wsX5_must_r2) ++ wsX50)
def wsX5_cutOff_r1 : List Cond := [Cond.methodLink RX5 78 yX5_isSquare, Cond.instanceMethod yX5_isSquare, Cond.selects RX5 yX5_isSquare yX5_isSquare, Cond.initialized RX5, Cond.code yX5_isSquare cX5_isSquare 2 (some .boolean), Cond.fieldLink RX5 7 "PartingRoadsModel" "all" "[I", Cond.methodLink RX5 38 yX5_in, Cond.static yX5_in, Cond.code yX5_in cX5_in 6 (some .boolean), Cond.methodLink RX5 87 yX5_isRoad, Cond.instanceMethod yX5_isRoad, Cond.selects RX5 yX5_isRoad yX5_isRoad, Cond.code yX5_isRoad cX5_isRoad 2 (some .boolean), Cond.methodLink RX5 65 yX5_pieceOf, Cond.instanceMethod yX5_pieceOf, Cond.selects RX5 yX5_pieceOf yX5_pieceOf, Cond.code yX5_pieceOf cX5_pieceOf 2 (some .int), Cond.methodLink RX5 46 yX5_reach, Cond.instanceMethod yX5_reach, Cond.selects RX5 yX5_reach yX5_reach, Cond.code yX5_reach cX5_reach 9 (some .int), Cond.methodLink RX5 42 yX5_ends, Cond.instanceMethod yX5_ends, Cond.selects RX5 yX5_ends yX5_ends]
def wsX5_cutOff_r2 : List Cond := [Cond.code yX5_ends cX5_ends 2 (some .int)]
def wsX5_cutOff : List Cond := .code yX5_cutOff cX5_cutOff 3 (some .int) :: ((wsX5_cutOff_r1 ++ wsX5_cutOff_r2) ++ wsX50)
def wsX5_ifBuilt_r1 : List Cond := [Cond.constantLong RX5 68 (2), Cond.methodLink RX5 78 yX5_isSquare, Cond.instanceMethod yX5_isSquare, Cond.selects RX5 yX5_isSquare yX5_isSquare, Cond.initialized RX5, Cond.code yX5_isSquare cX5_isSquare 2 (some .boolean), Cond.fieldLink RX5 7 "PartingRoadsModel" "all" "[I", Cond.methodLink RX5 38 yX5_in, Cond.static yX5_in, Cond.code yX5_in cX5_in 6 (some .boolean), Cond.methodLink RX5 144 yX5_hang, Cond.instanceMethod yX5_hang, Cond.selects RX5 yX5_hang yX5_hang, Cond.code yX5_hang cX5_hang 3 (some .boolean), Cond.methodLink RX5 65 yX5_pieceOf, Cond.instanceMethod yX5_pieceOf, Cond.selects RX5 yX5_pieceOf yX5_pieceOf, Cond.code yX5_pieceOf cX5_pieceOf 2 (some .int), Cond.methodLink RX5 46 yX5_reach, Cond.instanceMethod yX5_reach, Cond.selects RX5 yX5_reach yX5_reach, Cond.code yX5_reach cX5_reach 9 (some .int), Cond.methodLink RX5 42 yX5_ends, Cond.instanceMethod yX5_ends]
def wsX5_ifBuilt_r2 : List Cond := [Cond.selects RX5 yX5_ends yX5_ends, Cond.code yX5_ends cX5_ends 2 (some .int), Cond.methodLink RX5 148 yX5_musts, Cond.instanceMethod yX5_musts, Cond.selects RX5 yX5_musts yX5_musts, Cond.code yX5_musts cX5_musts 5 (some .int), Cond.methodLink RX5 58 yX5_bits, Cond.static yX5_bits, Cond.code yX5_bits cX5_bits 3 (some .int), Cond.methodLink RX5 107 yX5_districts, Cond.instanceMethod yX5_districts, Cond.selects RX5 yX5_districts yX5_districts, Cond.code yX5_districts cX5_districts 1 (some .int), Cond.methodLink RX5 104 yX5_districtsBelow, Cond.instanceMethod yX5_districtsBelow, Cond.selects RX5 yX5_districtsBelow yX5_districtsBelow, Cond.code yX5_districtsBelow cX5_districtsBelow 5 (some .int), Cond.methodLink RX5 95 yX5_parting, Cond.instanceMethod yX5_parting, Cond.selects RX5 yX5_parting yX5_parting, Cond.code yX5_parting cX5_parting 3 (some .int), Cond.methodLink RX5 54 yX5_parts, Cond.instanceMethod yX5_parts, Cond.selects RX5 yX5_parts yX5_parts]
def wsX5_ifBuilt_r3 : List Cond := [Cond.code yX5_parts cX5_parts 2 (some .boolean), Cond.methodLink RX5 61 yX5_pieces, Cond.instanceMethod yX5_pieces, Cond.selects RX5 yX5_pieces yX5_pieces, Cond.code yX5_pieces cX5_pieces 1 (some .int), Cond.methodLink RX5 50 yX5_piecesWithout, Cond.instanceMethod yX5_piecesWithout, Cond.selects RX5 yX5_piecesWithout yX5_piecesWithout, Cond.code yX5_piecesWithout cX5_piecesWithout 5 (some .int)]
def wsX5_ifBuilt : List Cond := .code yX5_ifBuilt cX5_ifBuilt 6 (some .int) :: ((wsX5_ifBuilt_r1 ++ (wsX5_ifBuilt_r2 ++ wsX5_ifBuilt_r3)) ++ wsX50)
def wsX5_bestBuilt_r1 : List Cond := [Cond.constantLong RX5 68 (2), Cond.constant RX5 90 (100000), Cond.fieldLink RX5 7 "PartingRoadsModel" "all" "[I", Cond.methodLink RX5 38 yX5_in, Cond.static yX5_in, Cond.initialized RX5, Cond.code yX5_in cX5_in 6 (some .boolean), Cond.methodLink RX5 95 yX5_parting, Cond.instanceMethod yX5_parting, Cond.selects RX5 yX5_parting yX5_parting, Cond.code yX5_parting cX5_parting 3 (some .int), Cond.methodLink RX5 54 yX5_parts, Cond.instanceMethod yX5_parts, Cond.selects RX5 yX5_parts yX5_parts, Cond.code yX5_parts cX5_parts 2 (some .boolean), Cond.methodLink RX5 46 yX5_reach, Cond.instanceMethod yX5_reach, Cond.selects RX5 yX5_reach yX5_reach, Cond.code yX5_reach cX5_reach 9 (some .int), Cond.methodLink RX5 42 yX5_ends, Cond.instanceMethod yX5_ends, Cond.selects RX5 yX5_ends yX5_ends, Cond.code yX5_ends cX5_ends 2 (some .int), Cond.methodLink RX5 58 yX5_bits]
def wsX5_bestBuilt_r2 : List Cond := [Cond.static yX5_bits, Cond.code yX5_bits cX5_bits 3 (some .int), Cond.methodLink RX5 144 yX5_hang, Cond.instanceMethod yX5_hang, Cond.selects RX5 yX5_hang yX5_hang, Cond.code yX5_hang cX5_hang 3 (some .boolean), Cond.methodLink RX5 65 yX5_pieceOf, Cond.instanceMethod yX5_pieceOf, Cond.selects RX5 yX5_pieceOf yX5_pieceOf, Cond.code yX5_pieceOf cX5_pieceOf 2 (some .int), Cond.methodLink RX5 148 yX5_musts, Cond.instanceMethod yX5_musts, Cond.selects RX5 yX5_musts yX5_musts, Cond.code yX5_musts cX5_musts 5 (some .int)]
def wsX5_bestBuilt : List Cond := .code yX5_bestBuilt cX5_bestBuilt 9 (some .int) :: ((wsX5_bestBuilt_r1 ++ wsX5_bestBuilt_r2) ++ wsX50)
def wsX5_worstLoss : List Cond := .code yX5_worstLoss cX5_worstLoss 6 (some .int) :: ([.fieldLink RX5 7 "PartingRoadsModel" "all" "[I", .methodLink RX5 38 yX5_in, .static yX5_in, .initialized RX5, .code yX5_in cX5_in 6 (some .boolean), .methodLink RX5 119 yX5_pairsLost, .instanceMethod yX5_pairsLost, .selects RX5 yX5_pairsLost yX5_pairsLost, .code yX5_pairsLost cX5_pairsLost 2 (some .int), .methodLink RX5 54 yX5_parts, .instanceMethod yX5_parts, .selects RX5 yX5_parts yX5_parts, .code yX5_parts cX5_parts 2 (some .boolean), .methodLink RX5 46 yX5_reach, .instanceMethod yX5_reach, .selects RX5 yX5_reach yX5_reach, .code yX5_reach cX5_reach 9 (some .int), .methodLink RX5 42 yX5_ends, .instanceMethod yX5_ends, .selects RX5 yX5_ends yX5_ends, .code yX5_ends cX5_ends 2 (some .int), .methodLink RX5 58 yX5_bits, .static yX5_bits, .code yX5_bits cX5_bits 3 (some .int)] ++ wsX50)
def wsX5_needed_r1 : List Cond := [Cond.methodLink RX5 78 yX5_isSquare, Cond.instanceMethod yX5_isSquare, Cond.selects RX5 yX5_isSquare yX5_isSquare, Cond.initialized RX5, Cond.code yX5_isSquare cX5_isSquare 2 (some .boolean), Cond.fieldLink RX5 7 "PartingRoadsModel" "all" "[I", Cond.methodLink RX5 38 yX5_in, Cond.static yX5_in, Cond.code yX5_in cX5_in 6 (some .boolean), Cond.methodLink RX5 65 yX5_pieceOf, Cond.instanceMethod yX5_pieceOf, Cond.selects RX5 yX5_pieceOf yX5_pieceOf, Cond.code yX5_pieceOf cX5_pieceOf 2 (some .int), Cond.methodLink RX5 46 yX5_reach, Cond.instanceMethod yX5_reach, Cond.selects RX5 yX5_reach yX5_reach, Cond.code yX5_reach cX5_reach 9 (some .int), Cond.methodLink RX5 42 yX5_ends, Cond.instanceMethod yX5_ends, Cond.selects RX5 yX5_ends yX5_ends, Cond.code yX5_ends cX5_ends 2 (some .int), Cond.methodLink RX5 107 yX5_districts, Cond.instanceMethod yX5_districts, Cond.selects RX5 yX5_districts yX5_districts]
def wsX5_needed_r2 : List Cond := [Cond.code yX5_districts cX5_districts 1 (some .int), Cond.methodLink RX5 104 yX5_districtsBelow, Cond.instanceMethod yX5_districtsBelow, Cond.selects RX5 yX5_districtsBelow yX5_districtsBelow, Cond.code yX5_districtsBelow cX5_districtsBelow 5 (some .int), Cond.methodLink RX5 95 yX5_parting, Cond.instanceMethod yX5_parting, Cond.selects RX5 yX5_parting yX5_parting, Cond.code yX5_parting cX5_parting 3 (some .int), Cond.methodLink RX5 54 yX5_parts, Cond.instanceMethod yX5_parts, Cond.selects RX5 yX5_parts yX5_parts, Cond.code yX5_parts cX5_parts 2 (some .boolean), Cond.methodLink RX5 110 yX5_squaresOf, Cond.instanceMethod yX5_squaresOf, Cond.selects RX5 yX5_squaresOf yX5_squaresOf, Cond.code yX5_squaresOf cX5_squaresOf 6 (some .int), Cond.methodLink RX5 122 yX5_roadsOut, Cond.instanceMethod yX5_roadsOut, Cond.selects RX5 yX5_roadsOut yX5_roadsOut, Cond.code yX5_roadsOut cX5_roadsOut 5 (some .int)]
def wsX5_needed : List Cond := .code yX5_needed cX5_needed 7 (some .int) :: ((wsX5_needed_r1 ++ wsX5_needed_r2) ++ wsX50)
def wsX5_put : List Cond := .code yX5_put cX5_put 8 (some .int) :: ([.constantLong RX5 151 (255), .constantLong RX5 153 (33), .constantLong RX5 155 (126), .fieldLink RX5 141 "PartingRoadsModel" "padLong" "I", .fieldLink RX5 28 "PartingRoadsModel" "pad" "[I", .methodLink RX5 38 yX5_in, .static yX5_in, .initialized RX5, .code yX5_in cX5_in 6 (some .boolean)] ++ wsX50)
def wsX5_wipe : List Cond := .code yX5_wipe cX5_wipe 2 (some .int) :: ([.fieldLink RX5 141 "PartingRoadsModel" "padLong" "I"] ++ wsX50)
def wsX5_isHere : List Cond := .code yX5_isHere cX5_isHere 3 (some .boolean) :: ([.fieldLink RX5 157 "PartingRoadsModel" "spot" "I", .fieldLink RX5 141 "PartingRoadsModel" "padLong" "I", .fieldLink RX5 28 "PartingRoadsModel" "pad" "[I", .methodLink RX5 38 yX5_in, .static yX5_in, .initialized RX5, .code yX5_in cX5_in 6 (some .boolean)] ++ wsX50)
def wsX5_takes : List Cond := .code yX5_takes cX5_takes 3 (some .boolean) :: ([.fieldLink RX5 157 "PartingRoadsModel" "spot" "I", .methodLink RX5 160 yX5_isHere, .instanceMethod yX5_isHere, .selects RX5 yX5_isHere yX5_isHere, .initialized RX5, .code yX5_isHere cX5_isHere 3 (some .boolean), .fieldLink RX5 141 "PartingRoadsModel" "padLong" "I", .fieldLink RX5 28 "PartingRoadsModel" "pad" "[I", .methodLink RX5 38 yX5_in, .static yX5_in, .code yX5_in cX5_in 6 (some .boolean)] ++ wsX50)
def wsX5_readsNumber : List Cond := .code yX5_readsNumber cX5_readsNumber 3 (some .boolean) :: ([.fieldLink RX5 28 "PartingRoadsModel" "pad" "[I", .fieldLink RX5 157 "PartingRoadsModel" "spot" "I", .fieldLink RX5 163 "PartingRoadsModel" "number" "I", .methodLink RX5 160 yX5_isHere, .instanceMethod yX5_isHere, .selects RX5 yX5_isHere yX5_isHere, .initialized RX5, .code yX5_isHere cX5_isHere 3 (some .boolean), .fieldLink RX5 141 "PartingRoadsModel" "padLong" "I", .methodLink RX5 38 yX5_in, .static yX5_in, .code yX5_in cX5_in 6 (some .boolean)] ++ wsX50)
def wsX5_readsRoad : List Cond := .code yX5_readsRoad cX5_readsRoad 3 (some .boolean) :: ([.fieldLink RX5 163 "PartingRoadsModel" "number" "I", .fieldLink RX5 31 "PartingRoadsModel" "read" "[I", .fieldLink RX5 172 "PartingRoadsModel" "readMany" "I", .methodLink RX5 166 yX5_readsNumber, .instanceMethod yX5_readsNumber, .selects RX5 yX5_readsNumber yX5_readsNumber, .initialized RX5, .code yX5_readsNumber cX5_readsNumber 3 (some .boolean), .fieldLink RX5 28 "PartingRoadsModel" "pad" "[I", .fieldLink RX5 157 "PartingRoadsModel" "spot" "I", .methodLink RX5 160 yX5_isHere, .instanceMethod yX5_isHere, .selects RX5 yX5_isHere yX5_isHere, .code yX5_isHere cX5_isHere 3 (some .boolean), .fieldLink RX5 141 "PartingRoadsModel" "padLong" "I", .methodLink RX5 38 yX5_in, .static yX5_in, .code yX5_in cX5_in 6 (some .boolean), .methodLink RX5 169 yX5_takes, .instanceMethod yX5_takes, .selects RX5 yX5_takes yX5_takes, .code yX5_takes cX5_takes 3 (some .boolean)] ++ wsX50)
def wsX5_fault_r1 : List Cond := [Cond.fieldLink RX5 157 "PartingRoadsModel" "spot" "I", Cond.fieldLink RX5 172 "PartingRoadsModel" "readMany" "I", Cond.fieldLink RX5 141 "PartingRoadsModel" "padLong" "I", Cond.methodLink RX5 175 yX5_readsRoad, Cond.instanceMethod yX5_readsRoad, Cond.selects RX5 yX5_readsRoad yX5_readsRoad, Cond.initialized RX5, Cond.code yX5_readsRoad cX5_readsRoad 3 (some .boolean), Cond.fieldLink RX5 163 "PartingRoadsModel" "number" "I", Cond.fieldLink RX5 31 "PartingRoadsModel" "read" "[I", Cond.methodLink RX5 166 yX5_readsNumber, Cond.instanceMethod yX5_readsNumber, Cond.selects RX5 yX5_readsNumber yX5_readsNumber, Cond.code yX5_readsNumber cX5_readsNumber 3 (some .boolean), Cond.fieldLink RX5 28 "PartingRoadsModel" "pad" "[I", Cond.methodLink RX5 160 yX5_isHere, Cond.instanceMethod yX5_isHere, Cond.selects RX5 yX5_isHere yX5_isHere, Cond.code yX5_isHere cX5_isHere 3 (some .boolean), Cond.methodLink RX5 38 yX5_in, Cond.static yX5_in, Cond.code yX5_in cX5_in 6 (some .boolean), Cond.methodLink RX5 169 yX5_takes, Cond.instanceMethod yX5_takes]
def wsX5_fault_r2 : List Cond := [Cond.selects RX5 yX5_takes yX5_takes, Cond.code yX5_takes cX5_takes 3 (some .boolean)]
def wsX5_fault : List Cond := .code yX5_fault cX5_fault 2 (some .int) :: ((wsX5_fault_r1 ++ wsX5_fault_r2) ++ wsX50)
def wsX5_haveAllSquares : List Cond := .code yX5_haveAllSquares cX5_haveAllSquares 3 (some .boolean) :: ([.fieldLink RX5 172 "PartingRoadsModel" "readMany" "I", .fieldLink RX5 31 "PartingRoadsModel" "read" "[I", .methodLink RX5 78 yX5_isSquare, .instanceMethod yX5_isSquare, .selects RX5 yX5_isSquare yX5_isSquare, .initialized RX5, .code yX5_isSquare cX5_isSquare 2 (some .boolean), .fieldLink RX5 7 "PartingRoadsModel" "all" "[I", .methodLink RX5 38 yX5_in, .static yX5_in, .code yX5_in cX5_in 6 (some .boolean)] ++ wsX50)
def wsX5_areDifferent : List Cond := .code yX5_areDifferent cX5_areDifferent 3 (some .boolean) :: ([.fieldLink RX5 172 "PartingRoadsModel" "readMany" "I", .fieldLink RX5 31 "PartingRoadsModel" "read" "[I"] ++ wsX50)
def wsX5_read_r1 : List Cond := [Cond.fieldLink RX5 7 "PartingRoadsModel" "all" "[I", Cond.fieldLink RX5 172 "PartingRoadsModel" "readMany" "I", Cond.fieldLink RX5 31 "PartingRoadsModel" "read" "[I", Cond.fieldLink RX5 141 "PartingRoadsModel" "padLong" "I", Cond.methodLink RX5 179 yX5_fault, Cond.instanceMethod yX5_fault, Cond.selects RX5 yX5_fault yX5_fault, Cond.initialized RX5, Cond.code yX5_fault cX5_fault 2 (some .int), Cond.fieldLink RX5 157 "PartingRoadsModel" "spot" "I", Cond.methodLink RX5 175 yX5_readsRoad, Cond.instanceMethod yX5_readsRoad, Cond.selects RX5 yX5_readsRoad yX5_readsRoad, Cond.code yX5_readsRoad cX5_readsRoad 3 (some .boolean), Cond.fieldLink RX5 163 "PartingRoadsModel" "number" "I", Cond.methodLink RX5 166 yX5_readsNumber, Cond.instanceMethod yX5_readsNumber, Cond.selects RX5 yX5_readsNumber yX5_readsNumber, Cond.code yX5_readsNumber cX5_readsNumber 3 (some .boolean), Cond.fieldLink RX5 28 "PartingRoadsModel" "pad" "[I", Cond.methodLink RX5 160 yX5_isHere, Cond.instanceMethod yX5_isHere, Cond.selects RX5 yX5_isHere yX5_isHere, Cond.code yX5_isHere cX5_isHere 3 (some .boolean)]
def wsX5_read_r2 : List Cond := [Cond.methodLink RX5 38 yX5_in, Cond.static yX5_in, Cond.code yX5_in cX5_in 6 (some .boolean), Cond.methodLink RX5 169 yX5_takes, Cond.instanceMethod yX5_takes, Cond.selects RX5 yX5_takes yX5_takes, Cond.code yX5_takes cX5_takes 3 (some .boolean), Cond.methodLink RX5 182 yX5_haveAllSquares, Cond.instanceMethod yX5_haveAllSquares, Cond.selects RX5 yX5_haveAllSquares yX5_haveAllSquares, Cond.code yX5_haveAllSquares cX5_haveAllSquares 3 (some .boolean), Cond.methodLink RX5 78 yX5_isSquare, Cond.instanceMethod yX5_isSquare, Cond.selects RX5 yX5_isSquare yX5_isSquare, Cond.code yX5_isSquare cX5_isSquare 2 (some .boolean), Cond.methodLink RX5 185 yX5_areDifferent, Cond.instanceMethod yX5_areDifferent, Cond.selects RX5 yX5_areDifferent yX5_areDifferent, Cond.code yX5_areDifferent cX5_areDifferent 3 (some .boolean), Cond.methodLink RX5 72 yX5_keep, Cond.instanceMethod yX5_keep, Cond.selects RX5 yX5_keep yX5_keep, Cond.code yX5_keep cX5_keep 2 none, Cond.fieldLink RX5 13 "PartingRoadsModel" "kept" "[I"]
def wsX5_read_r3 : List Cond := [Cond.methodLink RX5 83 yX5_adds, Cond.instanceMethod yX5_adds, Cond.selects RX5 yX5_adds yX5_adds, Cond.code yX5_adds cX5_adds 4 none, Cond.methodLink RX5 75 yX5_changed, Cond.instanceMethod yX5_changed, Cond.selects RX5 yX5_changed yX5_changed, Cond.code yX5_changed cX5_changed 3 (some .int), Cond.fieldLink RX5 34 "PartingRoadsModel" "historyLong" "I", Cond.fieldLink RX5 16 "PartingRoadsModel" "history" "[I"]
def wsX5_read : List Cond := .code yX5_read cX5_read 2 (some .int) :: ((wsX5_read_r1 ++ (wsX5_read_r2 ++ wsX5_read_r3)) ++ wsX50)
def wsX5_undo : List Cond := .code yX5_undo cX5_undo 2 (some .int) :: ([.fieldLink RX5 34 "PartingRoadsModel" "historyLong" "I", .fieldLink RX5 7 "PartingRoadsModel" "all" "[I", .fieldLink RX5 16 "PartingRoadsModel" "history" "[I"] ++ wsX50)
def wsX5_save : List Cond := .code yX5_save cX5_save 3 (some .int) :: ([.fieldLink RX5 19 "PartingRoadsModel" "slots" "[I", .fieldLink RX5 7 "PartingRoadsModel" "all" "[I", .fieldLink RX5 22 "PartingRoadsModel" "isSaved" "[I", .methodLink RX5 38 yX5_in, .static yX5_in, .initialized RX5, .code yX5_in cX5_in 6 (some .boolean)] ++ wsX50)
def wsX5_restore : List Cond := .code yX5_restore cX5_restore 3 (some .int) :: ([.fieldLink RX5 22 "PartingRoadsModel" "isSaved" "[I", .fieldLink RX5 7 "PartingRoadsModel" "all" "[I", .fieldLink RX5 19 "PartingRoadsModel" "slots" "[I", .methodLink RX5 38 yX5_in, .static yX5_in, .initialized RX5, .code yX5_in cX5_in 6 (some .boolean), .methodLink RX5 72 yX5_keep, .instanceMethod yX5_keep, .selects RX5 yX5_keep yX5_keep, .code yX5_keep cX5_keep 2 none, .fieldLink RX5 13 "PartingRoadsModel" "kept" "[I", .methodLink RX5 75 yX5_changed, .instanceMethod yX5_changed, .selects RX5 yX5_changed yX5_changed, .code yX5_changed cX5_changed 3 (some .int), .fieldLink RX5 34 "PartingRoadsModel" "historyLong" "I", .fieldLink RX5 16 "PartingRoadsModel" "history" "[I"] ++ wsX50)
def wsJ9_max_7cf53 : List Cond := .code yJ9_max_7cf53 cJ9_max_7cf53 2 (some .int) :: ([])
def wsJ9_min_7cf53 : List Cond := .code yJ9_min_7cf53 cJ9_min_7cf53 2 (some .int) :: ([])
set_option maxRecDepth 20000 in
theorem ggX0_init_X3_init : GoodIn wsX0_init wsX3_init := goodIn_r _ [10, 11, 2, 3, 12, 13, 14, 15, 16, 17, 18, 21, 22, 23, 24, 25, 26] (by decide +kernel) (by decide +kernel)
set_option maxRecDepth 20000 in
theorem gX0_init_X3_init_n21 : GoodIn wsX0_init (wsX3_init) := ggX0_init_X3_init
set_option maxRecDepth 20000 in
theorem ggX0_record_X0_dropOldest : GoodIn wsX0_record wsX0_dropOldest := goodIn_r _ [7, 2, 1, 23, 24] (by decide +kernel) (by decide +kernel)
set_option maxRecDepth 20000 in
theorem gX0_record_X0_dropOldest : GoodIn wsX0_record (wsV RX0 22 RX0 yX0_dropOldest wsX0_dropOldest) := goodIn_app (goodIn_of _ (by decide +kernel)) ggX0_record_X0_dropOldest
set_option maxRecDepth 20000 in
theorem ggX0_record_X3_copyFrom : GoodIn wsX0_record wsX3_copyFrom := goodIn_r _ [12, 13, 14, 15, 16, 17, 18, 19, 20, 21, 22, 25, 26, 27, 28, 29, 30] (by decide +kernel) (by decide +kernel)
set_option maxRecDepth 20000 in
theorem gX0_record_X3_copyFrom : GoodIn wsX0_record (wsV RX0 25 RX3 yX3_copyFrom wsX3_copyFrom) := goodIn_app (goodIn_of _ (by decide +kernel)) ggX0_record_X3_copyFrom
set_option maxRecDepth 20000 in
theorem ggX0_takeBack_X3_copyFrom : GoodIn wsX0_takeBack wsX3_copyFrom := goodIn_r _ [7, 8, 9, 10, 11, 12, 13, 14, 15, 16, 17, 20, 21, 22, 23, 24, 25] (by decide +kernel) (by decide +kernel)
set_option maxRecDepth 20000 in
theorem gX0_takeBack_X3_copyFrom : GoodIn wsX0_takeBack (wsV RX0 25 RX3 yX3_copyFrom wsX3_copyFrom) := goodIn_app (goodIn_of _ (by decide +kernel)) ggX0_takeBack_X3_copyFrom
set_option maxRecDepth 20000 in
theorem ggX1_parse_X1_takes : GoodIn wsX1_parse wsX1_takes := goodIn_r _ [9, 2, 10, 11, 12, 8, 13, 14, 15, 16, 17, 1, 18, 19, 20, 21, 22, 23, 24, 25, 26, 27, 28, 29, 30, 31] (by decide +kernel) (by decide +kernel)
set_option maxRecDepth 20000 in
theorem gX1_parse_X1_takes : GoodIn wsX1_parse (wsV RX1 31 RX1 yX1_takes wsX1_takes) := goodIn_app (goodIn_of _ (by decide +kernel)) ggX1_parse_X1_takes
set_option maxRecDepth 20000 in
theorem ggX1_parse_X1_atLength : GoodIn wsX1_parse wsX1_atLength := goodIn_r _ [17, 1, 27, 28, 29, 30, 31] (by decide +kernel) (by decide +kernel)
set_option maxRecDepth 20000 in
theorem gX1_parse_X1_atLength : GoodIn wsX1_parse (wsV RX1 35 RX1 yX1_atLength wsX1_atLength) := goodIn_app (goodIn_of _ (by decide +kernel)) ggX1_parse_X1_atLength
set_option maxRecDepth 20000 in
theorem ggX1_parse_X1_keepNumber : GoodIn wsX1_parse wsX1_keepNumber := goodIn_r _ [25, 1, 26, 2, 27, 28, 29, 30, 31] (by decide +kernel) (by decide +kernel)
set_option maxRecDepth 20000 in
theorem gX1_parse_X1_keepNumber : GoodIn wsX1_parse (wsV RX1 39 RX1 yX1_keepNumber wsX1_keepNumber) := goodIn_app (goodIn_of _ (by decide +kernel)) ggX1_parse_X1_keepNumber
set_option maxRecDepth 20000 in
theorem ggX1_takes_X1_takesDigit : GoodIn wsX1_takes wsX1_takesDigit := goodIn_r _ [6, 1, 7, 8, 9, 5, 10, 11, 21, 22, 23, 24, 25] (by decide +kernel) (by decide +kernel)
set_option maxRecDepth 20000 in
theorem gX1_takes_X1_takesDigit : GoodIn wsX1_takes (wsV RX1 42 RX1 yX1_takesDigit wsX1_takesDigit) := goodIn_app (goodIn_of _ (by decide +kernel)) ggX1_takes_X1_takesDigit
set_option maxRecDepth 20000 in
theorem ggX1_takes_X1_characterBehind : GoodIn wsX1_takes wsX1_characterBehind := goodIn_r _ [15, 11, 21, 22, 23, 24, 25] (by decide +kernel) (by decide +kernel)
set_option maxRecDepth 20000 in
theorem gX1_takes_X1_characterBehind : GoodIn wsX1_takes (wsV RX1 46 RX1 yX1_characterBehind wsX1_characterBehind) := goodIn_app (goodIn_of _ (by decide +kernel)) ggX1_takes_X1_characterBehind
set_option maxRecDepth 20000 in
theorem ggX1_takes_X1_keepNumber : GoodIn wsX1_takes wsX1_keepNumber := goodIn_r _ [19, 11, 20, 1, 21, 22, 23, 24, 25] (by decide +kernel) (by decide +kernel)
set_option maxRecDepth 20000 in
theorem gX1_takes_X1_keepNumber : GoodIn wsX1_takes (wsV RX1 39 RX1 yX1_keepNumber wsX1_keepNumber) := goodIn_app (goodIn_of _ (by decide +kernel)) ggX1_takes_X1_keepNumber
set_option maxRecDepth 20000 in
theorem ggX1_takesDigit_X1_atLength : GoodIn wsX1_takesDigit wsX1_atLength := goodIn_r _ [6, 7, 8, 9, 10, 11, 12] (by decide +kernel) (by decide +kernel)
set_option maxRecDepth 20000 in
theorem gX1_takesDigit_X1_atLength : GoodIn wsX1_takesDigit (wsV RX1 35 RX1 yX1_atLength wsX1_atLength) := goodIn_app (goodIn_of _ (by decide +kernel)) ggX1_takesDigit_X1_atLength
set_option maxRecDepth 20000 in
theorem ggX2_init_X2_renew : GoodIn wsX2_init wsX2_renew := goodIn_r _ [15, 16, 17, 18, 14, 19, 20, 10, 21, 5, 22, 23, 24, 25, 26, 27, 28, 29, 30, 31, 32, 33, 34, 35, 36, 37, 38, 39, 40, 41, 42, 43, 44, 8, 45, 46, 47, 48, 49, 50, 51, 6, 7, 52, 53, 54, 55, 56, 57, 58, 59, 60, 61, 62, 63, 64, 65, 66] (by decide +kernel) (by decide +kernel)
set_option maxRecDepth 20000 in
theorem gX2_init_X2_renew : GoodIn wsX2_init (wsV RX2 31 RX2 yX2_renew wsX2_renew) := goodIn_app (goodIn_of _ (by decide +kernel)) ggX2_init_X2_renew
set_option maxRecDepth 20000 in
theorem ggX2_renew_X2_findPieces : GoodIn wsX2_renew wsX2_findPieces := goodIn_r _ [5, 6, 7, 8, 9, 10, 11, 12, 13, 14, 15, 16, 17, 18, 19, 20, 21, 22, 23, 24, 25, 26, 43, 44, 45, 46, 47, 48, 49, 50, 51, 52, 53, 54, 55, 56, 57] (by decide +kernel) (by decide +kernel)
set_option maxRecDepth 20000 in
theorem gX2_renew_X2_findPieces : GoodIn wsX2_renew (wsV RX2 34 RX2 yX2_findPieces wsX2_findPieces) := goodIn_app (goodIn_of _ (by decide +kernel)) ggX2_renew_X2_findPieces
set_option maxRecDepth 20000 in
theorem ggX2_renew_X2_findPartingRoads : GoodIn wsX2_renew wsX2_findPartingRoads := goodIn_r _ [30, 31, 7, 32, 33, 34, 35, 13, 14, 15, 16, 17, 18, 19, 20, 21, 22, 23, 10, 11, 12, 43, 44, 45, 46, 47, 48, 49, 50, 51, 52, 53, 54, 55, 56, 57] (by decide +kernel) (by decide +kernel)
set_option maxRecDepth 20000 in
theorem gX2_renew_X2_findPartingRoads : GoodIn wsX2_renew (wsV RX2 37 RX2 yX2_findPartingRoads wsX2_findPartingRoads) := goodIn_app (goodIn_of _ (by decide +kernel)) ggX2_renew_X2_findPartingRoads
set_option maxRecDepth 20000 in
theorem ggX2_renew_X2_findDistricts : GoodIn wsX2_renew wsX2_findDistricts := goodIn_r _ [39, 40, 7, 8, 31, 41, 42, 10, 11, 12, 13, 14, 15, 16, 17, 18, 19, 20, 21, 22, 23, 24, 25, 26, 43, 44, 45, 46, 47, 48, 49, 50, 51, 52, 53, 54, 55, 56, 57] (by decide +kernel) (by decide +kernel)
set_option maxRecDepth 20000 in
theorem gX2_renew_X2_findDistricts : GoodIn wsX2_renew (wsV RX2 40 RX2 yX2_findDistricts wsX2_findDistricts) := goodIn_app (goodIn_of _ (by decide +kernel)) ggX2_renew_X2_findDistricts
set_option maxRecDepth 20000 in
theorem ggX2_findPieces_X4_contains : GoodIn wsX2_findPieces wsX4_contains := goodIn_r _ [7] (by decide +kernel) (by decide +kernel)
set_option maxRecDepth 20000 in
theorem gX2_findPieces_X4_contains_n52 : GoodIn wsX2_findPieces (wsX4_contains) := ggX2_findPieces_X4_contains
set_option maxRecDepth 20000 in
theorem ggX2_findPieces_X3_allRoads : GoodIn wsX2_findPieces wsX3_allRoads := goodIn_r _ [12, 13, 31, 32, 33, 34, 35, 36] (by decide +kernel) (by decide +kernel)
set_option maxRecDepth 20000 in
theorem gX2_findPieces_X3_allRoads : GoodIn wsX2_findPieces (wsV RX2 56 RX3 yX3_allRoads wsX3_allRoads) := goodIn_app (goodIn_of _ (by decide +kernel)) ggX2_findPieces_X3_allRoads
set_option maxRecDepth 20000 in
theorem ggX2_findPieces_X3_reach : GoodIn wsX2_findPieces wsX3_reach := goodIn_r _ [17, 13, 18, 5, 6, 7, 31, 32, 33, 34, 35, 36] (by decide +kernel) (by decide +kernel)
set_option maxRecDepth 20000 in
theorem gX2_findPieces_X3_reach : GoodIn wsX2_findPieces (wsV RX2 60 RX3 yX3_reach wsX3_reach) := goodIn_app (goodIn_of _ (by decide +kernel)) ggX2_findPieces_X3_reach
set_option maxRecDepth 20000 in
theorem ggX2_findPieces_X4_setForMembers : GoodIn wsX2_findPieces wsX4_setForMembers := goodIn_r _ [20, 21, 5, 6, 7] (by decide +kernel) (by decide +kernel)
set_option maxRecDepth 20000 in
theorem gX2_findPieces_X4_setForMembers_n64 : GoodIn wsX2_findPieces (wsX4_setForMembers) := ggX2_findPieces_X4_setForMembers
set_option maxRecDepth 20000 in
theorem ggX2_findPartingRoads_X3_allRoads : GoodIn wsX2_findPartingRoads wsX3_allRoads := goodIn_r _ [11, 12, 30, 31, 32, 33, 34, 35] (by decide +kernel) (by decide +kernel)
set_option maxRecDepth 20000 in
theorem gX2_findPartingRoads_X3_allRoads : GoodIn wsX2_findPartingRoads (wsV RX2 56 RX3 yX3_allRoads wsX3_allRoads) := goodIn_app (goodIn_of _ (by decide +kernel)) ggX2_findPartingRoads_X3_allRoads
set_option maxRecDepth 20000 in
theorem ggX2_findPartingRoads_X3_reach : GoodIn wsX2_findPartingRoads wsX3_reach := goodIn_r _ [16, 12, 17, 18, 19, 20, 30, 31, 32, 33, 34, 35] (by decide +kernel) (by decide +kernel)
set_option maxRecDepth 20000 in
theorem gX2_findPartingRoads_X3_reach : GoodIn wsX2_findPartingRoads (wsV RX2 60 RX3 yX3_reach wsX3_reach) := goodIn_app (goodIn_of _ (by decide +kernel)) ggX2_findPartingRoads_X3_reach
set_option maxRecDepth 20000 in
theorem ggX2_findPartingRoads_X4_contains : GoodIn wsX2_findPartingRoads wsX4_contains := goodIn_r _ [20] (by decide +kernel) (by decide +kernel)
set_option maxRecDepth 20000 in
theorem gX2_findPartingRoads_X4_contains_n52 : GoodIn wsX2_findPartingRoads (wsX4_contains) := ggX2_findPartingRoads_X4_contains
set_option maxRecDepth 20000 in
theorem ggX2_findDistricts_X4_contains : GoodIn wsX2_findDistricts wsX4_contains := goodIn_r _ [9] (by decide +kernel) (by decide +kernel)
set_option maxRecDepth 20000 in
theorem gX2_findDistricts_X4_contains_n52 : GoodIn wsX2_findDistricts (wsX4_contains) := ggX2_findDistricts_X4_contains
set_option maxRecDepth 20000 in
theorem ggX2_findDistricts_X3_allRoads : GoodIn wsX2_findDistricts wsX3_allRoads := goodIn_r _ [14, 15, 33, 34, 35, 36, 37, 38] (by decide +kernel) (by decide +kernel)
set_option maxRecDepth 20000 in
theorem gX2_findDistricts_X3_allRoads : GoodIn wsX2_findDistricts (wsV RX2 56 RX3 yX3_allRoads wsX3_allRoads) := goodIn_app (goodIn_of _ (by decide +kernel)) ggX2_findDistricts_X3_allRoads
set_option maxRecDepth 20000 in
theorem ggX2_findDistricts_X3_reach : GoodIn wsX2_findDistricts wsX3_reach := goodIn_r _ [19, 15, 20, 7, 8, 9, 33, 34, 35, 36, 37, 38] (by decide +kernel) (by decide +kernel)
set_option maxRecDepth 20000 in
theorem gX2_findDistricts_X3_reach : GoodIn wsX2_findDistricts (wsV RX2 60 RX3 yX3_reach wsX3_reach) := goodIn_app (goodIn_of _ (by decide +kernel)) ggX2_findDistricts_X3_reach
set_option maxRecDepth 20000 in
theorem ggX2_findDistricts_X4_setForMembers : GoodIn wsX2_findDistricts wsX4_setForMembers := goodIn_r _ [22, 23, 7, 8, 9] (by decide +kernel) (by decide +kernel)
set_option maxRecDepth 20000 in
theorem gX2_findDistricts_X4_setForMembers_n64 : GoodIn wsX2_findDistricts (wsX4_setForMembers) := ggX2_findDistricts_X4_setForMembers
set_option maxRecDepth 20000 in
theorem ggX2_hangTogether_X4_contains : GoodIn wsX2_hangTogether wsX4_contains := goodIn_r _ [4] (by decide +kernel) (by decide +kernel)
set_option maxRecDepth 20000 in
theorem gX2_hangTogether_X4_contains_n52 : GoodIn wsX2_hangTogether (wsX4_contains) := ggX2_hangTogether_X4_contains
set_option maxRecDepth 20000 in
theorem ggX2_squaresBehind_X4_contains : GoodIn wsX2_squaresBehind wsX4_contains := goodIn_r _ [5] (by decide +kernel) (by decide +kernel)
set_option maxRecDepth 20000 in
theorem gX2_squaresBehind_X4_contains_n52 : GoodIn wsX2_squaresBehind (wsX4_contains) := ggX2_squaresBehind_X4_contains
set_option maxRecDepth 20000 in
theorem ggX2_pairsParted_X2_squaresBehind : GoodIn wsX2_pairsParted wsX2_squaresBehind := goodIn_r _ [8, 9, 3, 10, 11, 12, 20, 21, 22, 23, 24, 25, 26, 27, 28] (by decide +kernel) (by decide +kernel)
set_option maxRecDepth 20000 in
theorem gX2_pairsParted_X2_squaresBehind : GoodIn wsX2_pairsParted (wsV RX2 83 RX2 yX2_squaresBehind wsX2_squaresBehind) := goodIn_app (goodIn_of _ (by decide +kernel)) ggX2_pairsParted_X2_squaresBehind
set_option maxRecDepth 20000 in
theorem ggX2_pairsParted_J6_bitCount_0f7a4 : GoodIn wsX2_pairsParted wsJ6_bitCount_0f7a4 := goodIn_r _ [16, 17, 18, 19] (by decide +kernel) (by decide +kernel)
set_option maxRecDepth 20000 in
theorem gX2_pairsParted_J6_bitCount_0f7a4 : GoodIn wsX2_pairsParted (va_wsS RX2 86 yJ6_bitCount_0f7a4 wsJ6_bitCount_0f7a4) := goodIn_app (goodIn_of _ (by decide +kernel)) ggX2_pairsParted_J6_bitCount_0f7a4
set_option maxRecDepth 20000 in
theorem ggX2_roadsBetween_X2_squaresBehind : GoodIn wsX2_roadsBetween wsX2_squaresBehind := goodIn_r _ [7, 8, 9, 10, 11, 12, 13, 14, 15, 16, 17, 18, 19, 20, 21] (by decide +kernel) (by decide +kernel)
set_option maxRecDepth 20000 in
theorem gX2_roadsBetween_X2_squaresBehind : GoodIn wsX2_roadsBetween (wsV RX2 83 RX2 yX2_squaresBehind wsX2_squaresBehind) := goodIn_app (goodIn_of _ (by decide +kernel)) ggX2_roadsBetween_X2_squaresBehind
set_option maxRecDepth 20000 in
theorem ggX2_roadsBetween_X4_contains : GoodIn wsX2_roadsBetween wsX4_contains := goodIn_r _ [12] (by decide +kernel) (by decide +kernel)
set_option maxRecDepth 20000 in
theorem gX2_roadsBetween_X4_contains_n52 : GoodIn wsX2_roadsBetween (wsX4_contains) := ggX2_roadsBetween_X4_contains
set_option maxRecDepth 20000 in
theorem ggX2_roadOnWay_X2_roadsBetween : GoodIn wsX2_roadOnWay wsX2_roadsBetween := goodIn_r _ [7, 1, 2, 8, 9, 10, 6, 11, 12, 13, 14, 15, 16, 28, 29, 30, 31, 32, 33, 34, 35, 36, 37, 38, 39, 40, 41, 42] (by decide +kernel) (by decide +kernel)
set_option maxRecDepth 20000 in
theorem gX2_roadOnWay_X2_roadsBetween : GoodIn wsX2_roadOnWay (wsV RX2 92 RX2 yX2_roadsBetween wsX2_roadsBetween) := goodIn_app (goodIn_of _ (by decide +kernel)) ggX2_roadOnWay_X2_roadsBetween
set_option maxRecDepth 20000 in
theorem ggX2_roadOnWay_X4_contains : GoodIn wsX2_roadOnWay wsX4_contains := goodIn_r _ [16] (by decide +kernel) (by decide +kernel)
set_option maxRecDepth 20000 in
theorem gX2_roadOnWay_X4_contains_n52 : GoodIn wsX2_roadOnWay (wsX4_contains) := ggX2_roadOnWay_X4_contains
set_option maxRecDepth 20000 in
theorem ggX2_roadOnWay_X2_roadsAhead : GoodIn wsX2_roadOnWay wsX2_roadsAhead := goodIn_r _ [20, 1, 2, 8, 9, 10, 6, 11, 12, 13, 14, 15, 16, 21, 22, 23, 24, 25, 26, 27, 28, 29, 30, 31, 32, 33, 34, 35, 36, 37, 38, 39, 40, 41, 42] (by decide +kernel) (by decide +kernel)
set_option maxRecDepth 20000 in
theorem gX2_roadOnWay_X2_roadsAhead : GoodIn wsX2_roadOnWay (wsV RX2 95 RX2 yX2_roadsAhead wsX2_roadsAhead) := goodIn_app (goodIn_of _ (by decide +kernel)) ggX2_roadOnWay_X2_roadsAhead
set_option maxRecDepth 20000 in
theorem ggX2_roadsAhead_X2_squaresBehind : GoodIn wsX2_roadsAhead wsX2_squaresBehind := goodIn_r _ [7, 8, 9, 10, 11, 12, 20, 21, 22, 23, 24, 25, 26, 27, 28] (by decide +kernel) (by decide +kernel)
set_option maxRecDepth 20000 in
theorem gX2_roadsAhead_X2_squaresBehind : GoodIn wsX2_roadsAhead (wsV RX2 83 RX2 yX2_squaresBehind wsX2_squaresBehind) := goodIn_app (goodIn_of _ (by decide +kernel)) ggX2_roadsAhead_X2_squaresBehind
set_option maxRecDepth 20000 in
theorem ggX2_roadsAhead_J6_bitCount_0f7a4 : GoodIn wsX2_roadsAhead wsJ6_bitCount_0f7a4 := goodIn_r _ [16, 17, 18, 19] (by decide +kernel) (by decide +kernel)
set_option maxRecDepth 20000 in
theorem gX2_roadsAhead_J6_bitCount_0f7a4 : GoodIn wsX2_roadsAhead (va_wsS RX2 86 yJ6_bitCount_0f7a4 wsJ6_bitCount_0f7a4) := goodIn_app (goodIn_of _ (by decide +kernel)) ggX2_roadsAhead_J6_bitCount_0f7a4
set_option maxRecDepth 20000 in
theorem ggX2_roadsAhead_X4_contains : GoodIn wsX2_roadsAhead wsX4_contains := goodIn_r _ [12] (by decide +kernel) (by decide +kernel)
set_option maxRecDepth 20000 in
theorem gX2_roadsAhead_X4_contains_n52 : GoodIn wsX2_roadsAhead (wsX4_contains) := ggX2_roadsAhead_X4_contains
set_option maxRecDepth 20000 in
theorem ggX2_partingRoadsAfter_J6_bitCount_0f7a4 : GoodIn wsX2_partingRoadsAfter wsJ6_bitCount_0f7a4 := goodIn_r _ [5, 6, 7, 8] (by decide +kernel) (by decide +kernel)
set_option maxRecDepth 20000 in
theorem gX2_partingRoadsAfter_J6_bitCount_0f7a4 : GoodIn wsX2_partingRoadsAfter (va_wsS RX2 86 yJ6_bitCount_0f7a4 wsJ6_bitCount_0f7a4) := goodIn_app (goodIn_of _ (by decide +kernel)) ggX2_partingRoadsAfter_J6_bitCount_0f7a4
set_option maxRecDepth 20000 in
theorem ggX2_partingRoadsAfter_X2_hangTogether : GoodIn wsX2_partingRoadsAfter wsX2_hangTogether := goodIn_r _ [13, 14, 15, 16, 17, 29, 30, 31, 32, 33, 34, 35, 36, 37] (by decide +kernel) (by decide +kernel)
set_option maxRecDepth 20000 in
theorem gX2_partingRoadsAfter_X2_hangTogether : GoodIn wsX2_partingRoadsAfter (wsV RX2 99 RX2 yX2_hangTogether wsX2_hangTogether) := goodIn_app (goodIn_of _ (by decide +kernel)) ggX2_partingRoadsAfter_X2_hangTogether
set_option maxRecDepth 20000 in
theorem ggX2_partingRoadsAfter_X2_roadsBetween : GoodIn wsX2_partingRoadsAfter wsX2_roadsBetween := goodIn_r _ [21, 22, 23, 24, 25, 26, 12, 27, 28, 14, 15, 16, 17, 29, 30, 31, 32, 33, 34, 35, 36, 37, 38, 39, 40, 41, 42, 43] (by decide +kernel) (by decide +kernel)
set_option maxRecDepth 20000 in
theorem gX2_partingRoadsAfter_X2_roadsBetween : GoodIn wsX2_partingRoadsAfter (wsV RX2 92 RX2 yX2_roadsBetween wsX2_roadsBetween) := goodIn_app (goodIn_of _ (by decide +kernel)) ggX2_partingRoadsAfter_X2_roadsBetween
set_option maxRecDepth 20000 in
theorem ggX2_morePiecesWithout_X3_allRoads : GoodIn wsX2_morePiecesWithout wsX3_allRoads := goodIn_r _ [12, 13, 35, 36, 37, 38, 39, 40] (by decide +kernel) (by decide +kernel)
set_option maxRecDepth 20000 in
theorem gX2_morePiecesWithout_X3_allRoads : GoodIn wsX2_morePiecesWithout (wsV RX2 56 RX3 yX3_allRoads wsX3_allRoads) := goodIn_app (goodIn_of _ (by decide +kernel)) ggX2_morePiecesWithout_X3_allRoads
set_option maxRecDepth 20000 in
theorem ggX2_morePiecesWithout_X3_roadsAt : GoodIn wsX2_morePiecesWithout wsX3_roadsAt := goodIn_r _ [17, 13, 18, 19, 20, 21, 35, 36, 37, 38, 39, 40] (by decide +kernel) (by decide +kernel)
set_option maxRecDepth 20000 in
theorem gX2_morePiecesWithout_X3_roadsAt : GoodIn wsX2_morePiecesWithout (wsV RX2 102 RX3 yX3_roadsAt wsX3_roadsAt) := goodIn_app (goodIn_of _ (by decide +kernel)) ggX2_morePiecesWithout_X3_roadsAt
set_option maxRecDepth 20000 in
theorem ggX2_morePiecesWithout_X4_contains : GoodIn wsX2_morePiecesWithout wsX4_contains := goodIn_r _ [21] (by decide +kernel) (by decide +kernel)
set_option maxRecDepth 20000 in
theorem gX2_morePiecesWithout_X4_contains_n52 : GoodIn wsX2_morePiecesWithout (wsX4_contains) := ggX2_morePiecesWithout_X4_contains
set_option maxRecDepth 20000 in
theorem ggX2_morePiecesWithout_X3_reach : GoodIn wsX2_morePiecesWithout wsX3_reach := goodIn_r _ [25, 13, 18, 19, 20, 21, 35, 36, 37, 38, 39, 40] (by decide +kernel) (by decide +kernel)
set_option maxRecDepth 20000 in
theorem gX2_morePiecesWithout_X3_reach : GoodIn wsX2_morePiecesWithout (wsV RX2 60 RX3 yX3_reach wsX3_reach) := goodIn_app (goodIn_of _ (by decide +kernel)) ggX2_morePiecesWithout_X3_reach
set_option maxRecDepth 20000 in
theorem ggX2_partingSquares_X2_morePiecesWithout : GoodIn wsX2_partingSquares wsX2_morePiecesWithout := goodIn_r _ [7, 8, 1, 2, 9, 10, 11, 12, 13, 14, 15, 16, 17, 18, 19, 20, 21, 22, 23, 24, 25, 26, 27, 28, 29, 30, 31, 32, 33, 34, 35, 36, 37, 38, 39, 40, 41, 42, 43, 44, 45] (by decide +kernel) (by decide +kernel)
set_option maxRecDepth 20000 in
theorem gX2_partingSquares_X2_morePiecesWithout : GoodIn wsX2_partingSquares (wsV RX2 110 RX2 yX2_morePiecesWithout wsX2_morePiecesWithout) := goodIn_app (goodIn_of _ (by decide +kernel)) ggX2_partingSquares_X2_morePiecesWithout
set_option maxRecDepth 20000 in
theorem ggX2_partingRoadsOut_X4_contains : GoodIn wsX2_partingRoadsOut wsX4_contains := goodIn_r _ [7] (by decide +kernel) (by decide +kernel)
set_option maxRecDepth 20000 in
theorem gX2_partingRoadsOut_X4_contains_n52 : GoodIn wsX2_partingRoadsOut (wsX4_contains) := ggX2_partingRoadsOut_X4_contains
set_option maxRecDepth 20000 in
theorem ggX2_longestDistrict_X3_roadsWithin : GoodIn wsX2_longestDistrict wsX3_roadsWithin := goodIn_r _ [8, 9, 10, 28, 29, 30, 31, 32, 33] (by decide +kernel) (by decide +kernel)
set_option maxRecDepth 20000 in
theorem gX2_longestDistrict_X3_roadsWithin : GoodIn wsX2_longestDistrict (wsV RX2 116 RX3 yX3_roadsWithin wsX3_roadsWithin) := goodIn_app (goodIn_of _ (by decide +kernel)) ggX2_longestDistrict_X3_roadsWithin
set_option maxRecDepth 20000 in
theorem ggX2_longestDistrict_X3_lengthOf : GoodIn wsX2_longestDistrict wsX3_lengthOf := goodIn_r _ [14, 9, 15, 16, 17, 18, 28, 29, 30, 31, 32, 33] (by decide +kernel) (by decide +kernel)
set_option maxRecDepth 20000 in
theorem gX2_longestDistrict_X3_lengthOf : GoodIn wsX2_longestDistrict (wsV RX2 119 RX3 yX3_lengthOf wsX3_lengthOf) := goodIn_app (goodIn_of _ (by decide +kernel)) ggX2_longestDistrict_X3_lengthOf
set_option maxRecDepth 20000 in
theorem ggX2_leafDistricts_X2_partingRoadsOut : GoodIn wsX2_leafDistricts wsX2_partingRoadsOut := goodIn_r _ [7, 8, 9, 10, 11, 12, 13, 14, 15, 16, 17, 18, 19, 20, 21, 22, 23, 24, 25, 26, 27, 28, 29] (by decide +kernel) (by decide +kernel)
set_option maxRecDepth 20000 in
theorem gX2_leafDistricts_X2_partingRoadsOut : GoodIn wsX2_leafDistricts (wsV RX2 122 RX2 yX2_partingRoadsOut wsX2_partingRoadsOut) := goodIn_app (goodIn_of _ (by decide +kernel)) ggX2_leafDistricts_X2_partingRoadsOut
set_option maxRecDepth 20000 in
theorem ggX2_leastRing_X3_allRoads : GoodIn wsX2_leastRing wsX3_allRoads := goodIn_r _ [8, 9, 27, 28, 29, 30, 31, 32] (by decide +kernel) (by decide +kernel)
set_option maxRecDepth 20000 in
theorem gX2_leastRing_X3_allRoads : GoodIn wsX2_leastRing (wsV RX2 56 RX3 yX3_allRoads wsX3_allRoads) := goodIn_app (goodIn_of _ (by decide +kernel)) ggX2_leastRing_X3_allRoads
set_option maxRecDepth 20000 in
theorem ggX2_leastRing_X3_oneRoadFurther : GoodIn wsX2_leastRing wsX3_oneRoadFurther := goodIn_r _ [13, 9, 14, 15, 16, 17, 27, 28, 29, 30, 31, 32] (by decide +kernel) (by decide +kernel)
set_option maxRecDepth 20000 in
theorem gX2_leastRing_X3_oneRoadFurther : GoodIn wsX2_leastRing (wsV RX2 125 RX3 yX3_oneRoadFurther wsX3_oneRoadFurther) := goodIn_app (goodIn_of _ (by decide +kernel)) ggX2_leastRing_X3_oneRoadFurther
set_option maxRecDepth 20000 in
theorem ggX2_leastRing_X4_contains : GoodIn wsX2_leastRing wsX4_contains := goodIn_r _ [17] (by decide +kernel) (by decide +kernel)
set_option maxRecDepth 20000 in
theorem gX2_leastRing_X4_contains_n52 : GoodIn wsX2_leastRing (wsX4_contains) := ggX2_leastRing_X4_contains
set_option maxRecDepth 20000 in
theorem ggX2_leastLength_X2_shorten : GoodIn wsX2_leastLength wsX2_shorten := goodIn_r _ [11, 1, 12, 13, 14, 15, 16, 17, 18, 19, 20] (by decide +kernel) (by decide +kernel)
set_option maxRecDepth 20000 in
theorem gX2_leastLength_X2_shorten : GoodIn wsX2_leastLength (wsV RX2 131 RX2 yX2_shorten wsX2_shorten) := goodIn_app (goodIn_of _ (by decide +kernel)) ggX2_leastLength_X2_shorten
set_option maxRecDepth 20000 in
theorem ggX3_roadsAt_X4_contains : GoodIn wsX3_roadsAt wsX4_contains := goodIn_r _ [5] (by decide +kernel) (by decide +kernel)
set_option maxRecDepth 20000 in
theorem gX3_roadsAt_X4_contains_n46 : GoodIn wsX3_roadsAt (wsX4_contains) := ggX3_roadsAt_X4_contains
set_option maxRecDepth 20000 in
theorem ggX3_lengthOf_X4_contains : GoodIn wsX3_lengthOf wsX4_contains := goodIn_r _ [5] (by decide +kernel) (by decide +kernel)
set_option maxRecDepth 20000 in
theorem gX3_lengthOf_X4_contains_n46 : GoodIn wsX3_lengthOf (wsX4_contains) := ggX3_lengthOf_X4_contains
set_option maxRecDepth 20000 in
theorem ggX3_oneRoadFurther_X4_contains : GoodIn wsX3_oneRoadFurther wsX4_contains := goodIn_r _ [5] (by decide +kernel) (by decide +kernel)
set_option maxRecDepth 20000 in
theorem gX3_oneRoadFurther_X4_contains_n46 : GoodIn wsX3_oneRoadFurther (wsX4_contains) := ggX3_oneRoadFurther_X4_contains
set_option maxRecDepth 20000 in
theorem ggX3_reach_X4_contains : GoodIn wsX3_reach wsX4_contains := goodIn_r _ [5] (by decide +kernel) (by decide +kernel)
set_option maxRecDepth 20000 in
theorem gX3_reach_X4_contains_n46 : GoodIn wsX3_reach (wsX4_contains) := ggX3_reach_X4_contains
set_option maxRecDepth 20000 in
theorem ggX4_init_X3_init : GoodIn wsX4_init wsX3_init := goodIn_r _ [24, 25, 2, 3, 26, 27, 28, 29, 30, 31, 32, 96, 97, 98, 99, 100, 101] (by decide +kernel) (by decide +kernel)
set_option maxRecDepth 20000 in
theorem gX4_init_X3_init_n9 : GoodIn wsX4_init (wsX3_init) := ggX4_init_X3_init
set_option maxRecDepth 20000 in
theorem ggX4_init_X2_init : GoodIn wsX4_init wsX2_init := goodIn_r _ [35, 36, 2, 3, 28, 37, 38, 39, 40, 41, 42, 43, 44, 45, 10, 46, 47, 48, 49, 50, 51, 52, 53, 54, 55, 56, 57, 58, 6, 59, 27, 60, 61, 62, 63, 32, 64, 65, 66, 67, 68, 69, 70, 71, 72, 73, 74, 75, 76, 77, 78, 79, 108, 109, 110, 111, 112, 113, 114, 115, 116, 96, 97, 98, 99, 100, 101] (by decide +kernel) (by decide +kernel)
set_option maxRecDepth 20000 in
theorem gX4_init_X2_init : GoodIn wsX4_init (wsX2_init) := ggX4_init_X2_init
set_option maxRecDepth 20000 in
theorem ggX4_init_X1_init : GoodIn wsX4_init wsX1_init := goodIn_r _ [81, 82, 2, 3, 83, 84, 85, 28, 86, 87, 88, 117, 118, 119, 120, 121] (by decide +kernel) (by decide +kernel)
set_option maxRecDepth 20000 in
theorem gX4_init_X1_init_n27 : GoodIn wsX4_init (wsX1_init) := ggX4_init_X1_init
set_option maxRecDepth 20000 in
theorem ggX4_init_X0_init : GoodIn wsX4_init wsX0_init := goodIn_r _ [91, 92, 2, 3, 93, 94, 95, 5, 6, 23, 24, 25, 26, 27, 28, 29, 30, 31, 32, 122, 123, 96, 97, 98, 99, 100, 101] (by decide +kernel) (by decide +kernel)
set_option maxRecDepth 20000 in
theorem gX4_init_X0_init : GoodIn wsX4_init (wsX0_init) := ggX4_init_X0_init
set_option maxRecDepth 20000 in
theorem ggX4_squares_X3_fitsInto : GoodIn wsX4_squares wsX3_fitsInto := goodIn_r _ [9, 10, 11, 84, 85, 86, 87, 88, 89] (by decide +kernel) (by decide +kernel)
set_option maxRecDepth 20000 in
theorem gX4_squares_X3_fitsInto : GoodIn wsX4_squares (wsV RX4 47 RX3 yX3_fitsInto wsX3_fitsInto) := goodIn_app (goodIn_of _ (by decide +kernel)) ggX4_squares_X3_fitsInto
set_option maxRecDepth 20000 in
theorem ggX4_squares_X0_record : GoodIn wsX4_squares wsX0_record := goodIn_r _ [16, 17, 18, 19, 20, 21, 15, 22, 23, 24, 25, 8, 26, 27, 10, 28, 29, 30, 31, 32, 11, 33, 34, 90, 91, 84, 85, 86, 87, 88, 89] (by decide +kernel) (by decide +kernel)
set_option maxRecDepth 20000 in
theorem gX4_squares_X0_record : GoodIn wsX4_squares (wsV RX4 55 RX0 yX0_record wsX0_record) := goodIn_app (goodIn_of _ (by decide +kernel)) ggX4_squares_X0_record
set_option maxRecDepth 20000 in
theorem ggX4_squares_X2_renew : GoodIn wsX4_squares wsX2_renew := goodIn_r _ [39, 40, 41, 42, 38, 43, 44, 45, 46, 47, 48, 49, 50, 51, 52, 53, 8, 54, 10, 55, 56, 57, 58, 34, 59, 60, 61, 62, 63, 64, 65, 66, 67, 68, 69, 70, 71, 72, 73, 74, 75, 76, 77, 92, 93, 94, 95, 96, 97, 98, 99, 100, 84, 85, 86, 87, 88, 89] (by decide +kernel) (by decide +kernel)
set_option maxRecDepth 20000 in
theorem gX4_squares_X2_renew : GoodIn wsX4_squares (wsV RX4 58 RX2 yX2_renew wsX2_renew) := goodIn_app (goodIn_of _ (by decide +kernel)) ggX4_squares_X2_renew
set_option maxRecDepth 20000 in
theorem ggX4_build_X3_hasSquare : GoodIn wsX4_build wsX3_hasSquare := goodIn_r _ [10, 11, 96, 97, 98, 99, 100, 101] (by decide +kernel) (by decide +kernel)
set_option maxRecDepth 20000 in
theorem gX4_build_X3_hasSquare : GoodIn wsX4_build (wsV RX4 61 RX3 yX3_hasSquare wsX3_hasSquare) := goodIn_app (goodIn_of _ (by decide +kernel)) ggX4_build_X3_hasSquare
set_option maxRecDepth 20000 in
theorem ggX4_build_X0_record : GoodIn wsX4_build wsX0_record := goodIn_r _ [16, 17, 18, 19, 20, 21, 15, 22, 23, 24, 25, 9, 26, 11, 27, 28, 29, 30, 31, 32, 33, 34, 35, 111, 112, 96, 97, 98, 99, 100, 101] (by decide +kernel) (by decide +kernel)
set_option maxRecDepth 20000 in
theorem gX4_build_X0_record : GoodIn wsX4_build (wsV RX4 55 RX0 yX0_record wsX0_record) := goodIn_app (goodIn_of _ (by decide +kernel)) ggX4_build_X0_record
set_option maxRecDepth 20000 in
theorem ggX4_build_X3_addRoad : GoodIn wsX4_build wsX3_addRoad := goodIn_r _ [39, 27, 28, 40, 41, 42, 43, 33, 44, 45, 46, 34, 35, 96, 97, 98, 99, 100, 101] (by decide +kernel) (by decide +kernel)
set_option maxRecDepth 20000 in
theorem gX4_build_X3_addRoad : GoodIn wsX4_build (wsV RX4 67 RX3 yX3_addRoad wsX3_addRoad) := goodIn_app (goodIn_of _ (by decide +kernel)) ggX4_build_X3_addRoad
set_option maxRecDepth 20000 in
theorem ggX4_build_X2_renew : GoodIn wsX4_build wsX2_renew := goodIn_r _ [51, 52, 53, 54, 50, 55, 56, 57, 58, 59, 60, 61, 62, 63, 64, 65, 9, 66, 27, 67, 68, 69, 70, 35, 71, 72, 73, 74, 75, 76, 77, 78, 79, 80, 81, 82, 83, 84, 85, 86, 87, 88, 89, 102, 103, 104, 105, 106, 107, 108, 109, 110, 96, 97, 98, 99, 100, 101] (by decide +kernel) (by decide +kernel)
set_option maxRecDepth 20000 in
theorem gX4_build_X2_renew : GoodIn wsX4_build (wsV RX4 58 RX2 yX2_renew wsX2_renew) := goodIn_app (goodIn_of _ (by decide +kernel)) ggX4_build_X2_renew
set_option maxRecDepth 20000 in
theorem ggX4_lose_X3_hasRoad : GoodIn wsX4_lose wsX3_hasRoad := goodIn_r _ [9, 10, 97, 98, 99, 100, 101, 102] (by decide +kernel) (by decide +kernel)
set_option maxRecDepth 20000 in
theorem gX4_lose_X3_hasRoad : GoodIn wsX4_lose (wsV RX4 74 RX3 yX3_hasRoad wsX3_hasRoad) := goodIn_app (goodIn_of _ (by decide +kernel)) ggX4_lose_X3_hasRoad
set_option maxRecDepth 20000 in
theorem ggX4_lose_X0_record : GoodIn wsX4_lose wsX0_record := goodIn_r _ [15, 16, 17, 18, 19, 20, 14, 21, 22, 23, 24, 8, 25, 26, 10, 27, 28, 29, 30, 31, 32, 33, 34, 103, 104, 97, 98, 99, 100, 101, 102] (by decide +kernel) (by decide +kernel)
set_option maxRecDepth 20000 in
theorem gX4_lose_X0_record : GoodIn wsX4_lose (wsV RX4 55 RX0 yX0_record wsX0_record) := goodIn_app (goodIn_of _ (by decide +kernel)) ggX4_lose_X0_record
set_option maxRecDepth 20000 in
theorem ggX4_lose_X3_removeRoad : GoodIn wsX4_lose wsX3_removeRoad := goodIn_r _ [38, 10, 27, 32, 33, 34, 97, 98, 99, 100, 101, 102] (by decide +kernel) (by decide +kernel)
set_option maxRecDepth 20000 in
theorem gX4_lose_X3_removeRoad : GoodIn wsX4_lose (wsV RX4 77 RX3 yX3_removeRoad wsX3_removeRoad) := goodIn_app (goodIn_of _ (by decide +kernel)) ggX4_lose_X3_removeRoad
set_option maxRecDepth 20000 in
theorem ggX4_lose_X2_renew : GoodIn wsX4_lose wsX2_renew := goodIn_r _ [43, 44, 45, 46, 42, 47, 48, 49, 50, 51, 52, 53, 54, 55, 56, 57, 8, 58, 10, 59, 60, 61, 62, 34, 63, 64, 65, 66, 67, 68, 69, 70, 71, 72, 73, 74, 75, 76, 77, 78, 79, 80, 81, 88, 89, 90, 91, 92, 93, 94, 95, 96, 97, 98, 99, 100, 101, 102] (by decide +kernel) (by decide +kernel)
set_option maxRecDepth 20000 in
theorem gX4_lose_X2_renew : GoodIn wsX4_lose (wsV RX4 58 RX2 yX2_renew wsX2_renew) := goodIn_app (goodIn_of _ (by decide +kernel)) ggX4_lose_X2_renew
set_option maxRecDepth 20000 in
theorem ggX4_read_X1_parse : GoodIn wsX4_read wsX1_parse := goodIn_r _ [11, 12, 13, 14, 15, 16, 17, 18, 10, 19, 20, 21, 22, 23, 24, 25, 26, 27, 28, 29, 30, 31, 32, 33, 34, 35, 36, 147, 148, 149, 150, 151] (by decide +kernel) (by decide +kernel)
set_option maxRecDepth 20000 in
theorem gX4_read_X1_parse : GoodIn wsX4_read (wsV RX4 81 RX1 yX1_parse wsX1_parse) := goodIn_app (goodIn_of _ (by decide +kernel)) ggX4_read_X1_parse
set_option maxRecDepth 20000 in
theorem ggX4_read_X4_errorOfParsedRoads : GoodIn wsX4_read wsX4_errorOfParsedRoads := goodIn_r _ [41, 1, 3, 6, 42, 43, 44, 10, 45, 12, 46, 47, 48, 49, 36, 50, 51, 52, 53, 54, 55, 56, 57, 58, 59, 141, 142, 143, 144, 145, 146, 152, 153, 154, 155, 156, 157, 147, 148, 149, 150, 151] (by decide +kernel) (by decide +kernel)
set_option maxRecDepth 20000 in
theorem gX4_read_X4_errorOfParsedRoads : GoodIn wsX4_read (wsV RX4 85 RX4 yX4_errorOfParsedRoads wsX4_errorOfParsedRoads) := goodIn_app (goodIn_of _ (by decide +kernel)) ggX4_read_X4_errorOfParsedRoads
set_option maxRecDepth 20000 in
theorem ggX4_read_X0_record : GoodIn wsX4_read wsX0_record := goodIn_r _ [64, 65, 66, 67, 68, 69, 63, 70, 71, 72, 73, 53, 74, 55, 75, 76, 77, 78, 79, 80, 81, 82, 83, 158, 159, 152, 153, 154, 155, 156, 157] (by decide +kernel) (by decide +kernel)
set_option maxRecDepth 20000 in
theorem gX4_read_X0_record : GoodIn wsX4_read (wsV RX4 55 RX0 yX0_record wsX0_record) := goodIn_app (goodIn_of _ (by decide +kernel)) ggX4_read_X0_record
set_option maxRecDepth 20000 in
theorem ggX4_read_X1_parsedRoads : GoodIn wsX4_read wsX1_parsedRoads := goodIn_r _ [45, 12, 147, 148, 149, 150, 151] (by decide +kernel) (by decide +kernel)
set_option maxRecDepth 20000 in
theorem gX4_read_X1_parsedRoads : GoodIn wsX4_read (wsV RX4 88 RX1 yX1_parsedRoads wsX1_parsedRoads) := goodIn_app (goodIn_of _ (by decide +kernel)) ggX4_read_X1_parsedRoads
set_option maxRecDepth 20000 in
theorem ggX4_read_X1_parsedOne : GoodIn wsX4_read wsX1_parsedOne := goodIn_r _ [49, 36, 147, 148, 149, 150, 151] (by decide +kernel) (by decide +kernel)
set_option maxRecDepth 20000 in
theorem gX4_read_X1_parsedOne : GoodIn wsX4_read (wsV RX4 91 RX1 yX1_parsedOne wsX1_parsedOne) := goodIn_app (goodIn_of _ (by decide +kernel)) ggX4_read_X1_parsedOne
set_option maxRecDepth 20000 in
theorem ggX4_read_X1_parsedOther : GoodIn wsX4_read wsX1_parsedOther := goodIn_r _ [59, 36, 147, 148, 149, 150, 151] (by decide +kernel) (by decide +kernel)
set_option maxRecDepth 20000 in
theorem gX4_read_X1_parsedOther : GoodIn wsX4_read (wsV RX4 95 RX1 yX1_parsedOther wsX1_parsedOther) := goodIn_app (goodIn_of _ (by decide +kernel)) ggX4_read_X1_parsedOther
set_option maxRecDepth 20000 in
theorem ggX4_read_X1_parsedLength : GoodIn wsX4_read wsX1_parsedLength := goodIn_r _ [87, 36, 147, 148, 149, 150, 151] (by decide +kernel) (by decide +kernel)
set_option maxRecDepth 20000 in
theorem gX4_read_X1_parsedLength : GoodIn wsX4_read (wsV RX4 98 RX1 yX1_parsedLength wsX1_parsedLength) := goodIn_app (goodIn_of _ (by decide +kernel)) ggX4_read_X1_parsedLength
set_option maxRecDepth 20000 in
theorem ggX4_read_X3_addRoad : GoodIn wsX4_read wsX3_addRoad := goodIn_r _ [91, 75, 76, 92, 93, 94, 95, 81, 96, 97, 98, 82, 83, 152, 153, 154, 155, 156, 157] (by decide +kernel) (by decide +kernel)
set_option maxRecDepth 20000 in
theorem gX4_read_X3_addRoad : GoodIn wsX4_read (wsV RX4 67 RX3 yX3_addRoad wsX3_addRoad) := goodIn_app (goodIn_of _ (by decide +kernel)) ggX4_read_X3_addRoad
set_option maxRecDepth 20000 in
theorem ggX4_read_X2_renew : GoodIn wsX4_read wsX2_renew := goodIn_r _ [103, 104, 105, 106, 102, 107, 108, 109, 110, 111, 112, 40, 113, 114, 115, 116, 53, 117, 75, 118, 119, 120, 121, 83, 122, 123, 124, 125, 126, 127, 128, 129, 130, 131, 132, 133, 134, 135, 136, 137, 138, 139, 140, 160, 161, 162, 163, 164, 165, 166, 167, 168, 152, 153, 154, 155, 156, 157] (by decide +kernel) (by decide +kernel)
set_option maxRecDepth 20000 in
theorem gX4_read_X2_renew : GoodIn wsX4_read (wsV RX4 58 RX2 yX2_renew wsX2_renew) := goodIn_app (goodIn_of _ (by decide +kernel)) ggX4_read_X2_renew
set_option maxRecDepth 20000 in
theorem ggX4_errorOfParsedRoads_X1_parsedRoads : GoodIn wsX4_errorOfParsedRoads wsX1_parsedRoads := goodIn_r _ [8, 9, 37, 38, 39, 40, 41] (by decide +kernel) (by decide +kernel)
set_option maxRecDepth 20000 in
theorem gX4_errorOfParsedRoads_X1_parsedRoads : GoodIn wsX4_errorOfParsedRoads (wsV RX4 88 RX1 yX1_parsedRoads wsX1_parsedRoads) := goodIn_app (goodIn_of _ (by decide +kernel)) ggX4_errorOfParsedRoads_X1_parsedRoads
set_option maxRecDepth 20000 in
theorem ggX4_errorOfParsedRoads_X1_parsedOne : GoodIn wsX4_errorOfParsedRoads wsX1_parsedOne := goodIn_r _ [13, 14, 37, 38, 39, 40, 41] (by decide +kernel) (by decide +kernel)
set_option maxRecDepth 20000 in
theorem gX4_errorOfParsedRoads_X1_parsedOne : GoodIn wsX4_errorOfParsedRoads (wsV RX4 91 RX1 yX1_parsedOne wsX1_parsedOne) := goodIn_app (goodIn_of _ (by decide +kernel)) ggX4_errorOfParsedRoads_X1_parsedOne
set_option maxRecDepth 20000 in
theorem ggX4_errorOfParsedRoads_X3_hasSquare : GoodIn wsX4_errorOfParsedRoads wsX3_hasSquare := goodIn_r _ [19, 20, 31, 32, 33, 34, 35, 36] (by decide +kernel) (by decide +kernel)
set_option maxRecDepth 20000 in
theorem gX4_errorOfParsedRoads_X3_hasSquare : GoodIn wsX4_errorOfParsedRoads (wsV RX4 61 RX3 yX3_hasSquare wsX3_hasSquare) := goodIn_app (goodIn_of _ (by decide +kernel)) ggX4_errorOfParsedRoads_X3_hasSquare
set_option maxRecDepth 20000 in
theorem ggX4_errorOfParsedRoads_X1_parsedOther : GoodIn wsX4_errorOfParsedRoads wsX1_parsedOther := goodIn_r _ [24, 14, 37, 38, 39, 40, 41] (by decide +kernel) (by decide +kernel)
set_option maxRecDepth 20000 in
theorem gX4_errorOfParsedRoads_X1_parsedOther : GoodIn wsX4_errorOfParsedRoads (wsV RX4 95 RX1 yX1_parsedOther wsX1_parsedOther) := goodIn_app (goodIn_of _ (by decide +kernel)) ggX4_errorOfParsedRoads_X1_parsedOther
set_option maxRecDepth 20000 in
theorem ggX4_road_X3_hasRoad : GoodIn wsX4_road wsX3_hasRoad := goodIn_r _ [11, 12, 57, 58, 59, 60, 61, 62] (by decide +kernel) (by decide +kernel)
set_option maxRecDepth 20000 in
theorem gX4_road_X3_hasRoad : GoodIn wsX4_road (wsV RX4 74 RX3 yX3_hasRoad wsX3_hasRoad) := goodIn_app (goodIn_of _ (by decide +kernel)) ggX4_road_X3_hasRoad
set_option maxRecDepth 20000 in
theorem ggX4_road_X4_contains : GoodIn wsX4_road wsX4_contains := goodIn_r _ [16] (by decide +kernel) (by decide +kernel)
set_option maxRecDepth 20000 in
theorem gX4_road_X4_contains : GoodIn wsX4_road (va_wsS RX4 117 yX4_contains wsX4_contains) := goodIn_app (goodIn_of _ (by decide +kernel)) ggX4_road_X4_contains
set_option maxRecDepth 20000 in
theorem ggX4_road_X2_leastRing : GoodIn wsX4_road wsX2_leastRing := goodIn_r _ [21, 22, 23, 24, 25, 26, 27, 10, 28, 12, 29, 30, 31, 32, 33, 14, 15, 16, 63, 64, 65, 66, 67, 68, 69, 70, 71, 57, 58, 59, 60, 61, 62] (by decide +kernel) (by decide +kernel)
set_option maxRecDepth 20000 in
theorem gX4_road_X2_leastRing : GoodIn wsX4_road (wsV RX4 121 RX2 yX2_leastRing wsX2_leastRing) := goodIn_app (goodIn_of _ (by decide +kernel)) ggX4_road_X2_leastRing
set_option maxRecDepth 20000 in
theorem ggX4_road_X2_pairsParted : GoodIn wsX4_road wsX2_pairsParted := goodIn_r _ [37, 22, 23, 38, 39, 40, 41, 20, 42, 43, 14, 15, 16, 44, 45, 46, 47, 48, 49, 50, 63, 64, 65, 66, 67, 68, 69, 70, 71, 57, 58, 59, 60, 61, 62] (by decide +kernel) (by decide +kernel)
set_option maxRecDepth 20000 in
theorem gX4_road_X2_pairsParted : GoodIn wsX4_road (wsV RX4 124 RX2 yX2_pairsParted wsX2_pairsParted) := goodIn_app (goodIn_of _ (by decide +kernel)) ggX4_road_X2_pairsParted
set_option maxRecDepth 20000 in
theorem ggX4_square_X3_hasSquare : GoodIn wsX4_square wsX3_hasSquare := goodIn_r _ [9, 10, 63, 64, 65, 66, 67, 68] (by decide +kernel) (by decide +kernel)
set_option maxRecDepth 20000 in
theorem gX4_square_X3_hasSquare : GoodIn wsX4_square (wsV RX4 61 RX3 yX3_hasSquare wsX3_hasSquare) := goodIn_app (goodIn_of _ (by decide +kernel)) ggX4_square_X3_hasSquare
set_option maxRecDepth 20000 in
theorem ggX4_square_X3_roadsAt : GoodIn wsX4_square wsX3_roadsAt := goodIn_r _ [14, 15, 16, 17, 18, 19, 63, 64, 65, 66, 67, 68] (by decide +kernel) (by decide +kernel)
set_option maxRecDepth 20000 in
theorem gX4_square_X3_roadsAt : GoodIn wsX4_square (wsV RX4 127 RX3 yX3_roadsAt wsX3_roadsAt) := goodIn_app (goodIn_of _ (by decide +kernel)) ggX4_square_X3_roadsAt
set_option maxRecDepth 20000 in
theorem ggX4_square_J6_bitCount_0f7a4 : GoodIn wsX4_square wsJ6_bitCount_0f7a4 := goodIn_r _ [23, 24, 25, 26] (by decide +kernel) (by decide +kernel)
set_option maxRecDepth 20000 in
theorem gX4_square_J6_bitCount_0f7a4 : GoodIn wsX4_square (va_wsS RX4 130 yJ6_bitCount_0f7a4 wsJ6_bitCount_0f7a4) := goodIn_app (goodIn_of _ (by decide +kernel)) ggX4_square_J6_bitCount_0f7a4
set_option maxRecDepth 20000 in
theorem ggX4_square_X2_morePiecesWithout : GoodIn wsX4_square wsX2_morePiecesWithout := goodIn_r _ [31, 32, 33, 34, 35, 36, 37, 38, 39, 40, 41, 8, 42, 15, 43, 12, 13, 14, 16, 17, 18, 19, 44, 45, 46, 47, 54, 55, 56, 57, 58, 59, 60, 61, 62, 63, 64, 65, 66, 67, 68] (by decide +kernel) (by decide +kernel)
set_option maxRecDepth 20000 in
theorem gX4_square_X2_morePiecesWithout : GoodIn wsX4_square (wsV RX4 135 RX2 yX2_morePiecesWithout wsX2_morePiecesWithout) := goodIn_app (goodIn_of _ (by decide +kernel)) ggX4_square_X2_morePiecesWithout
set_option maxRecDepth 20000 in
theorem ggX4_district_X3_roadsWithin : GoodIn wsX4_district wsX3_roadsWithin := goodIn_r _ [9, 10, 11, 51, 52, 53, 54, 55, 56] (by decide +kernel) (by decide +kernel)
set_option maxRecDepth 20000 in
theorem gX4_district_X3_roadsWithin : GoodIn wsX4_district (wsV RX4 150 RX3 yX3_roadsWithin wsX3_roadsWithin) := goodIn_app (goodIn_of _ (by decide +kernel)) ggX4_district_X3_roadsWithin
set_option maxRecDepth 20000 in
theorem ggX4_district_X3_lengthOf : GoodIn wsX4_district wsX3_lengthOf := goodIn_r _ [15, 10, 16, 17, 18, 19, 51, 52, 53, 54, 55, 56] (by decide +kernel) (by decide +kernel)
set_option maxRecDepth 20000 in
theorem gX4_district_X3_lengthOf : GoodIn wsX4_district (wsV RX4 153 RX3 yX3_lengthOf wsX3_lengthOf) := goodIn_app (goodIn_of _ (by decide +kernel)) ggX4_district_X3_lengthOf
set_option maxRecDepth 20000 in
theorem ggX4_district_X2_partingRoadsOut : GoodIn wsX4_district wsX2_partingRoadsOut := goodIn_r _ [24, 25, 26, 27, 28, 17, 18, 19, 42, 43, 44, 45, 46, 47, 48, 49, 50, 51, 52, 53, 54, 55, 56] (by decide +kernel) (by decide +kernel)
set_option maxRecDepth 20000 in
theorem gX4_district_X2_partingRoadsOut : GoodIn wsX4_district (wsV RX4 156 RX2 yX2_partingRoadsOut wsX2_partingRoadsOut) := goodIn_app (goodIn_of _ (by decide +kernel)) ggX4_district_X2_partingRoadsOut
set_option maxRecDepth 20000 in
theorem ggX4_district_J6_bitCount_0f7a4 : GoodIn wsX4_district wsJ6_bitCount_0f7a4 := goodIn_r _ [32, 33, 34, 35] (by decide +kernel) (by decide +kernel)
set_option maxRecDepth 20000 in
theorem gX4_district_J6_bitCount_0f7a4 : GoodIn wsX4_district (va_wsS RX4 130 yJ6_bitCount_0f7a4 wsJ6_bitCount_0f7a4) := goodIn_app (goodIn_of _ (by decide +kernel)) ggX4_district_J6_bitCount_0f7a4
set_option maxRecDepth 20000 in
theorem ggX4_count_J6_bitCount_0f7a4 : GoodIn wsX4_count wsJ6_bitCount_0f7a4 := goodIn_r _ [15, 16, 17, 18] (by decide +kernel) (by decide +kernel)
set_option maxRecDepth 20000 in
theorem gX4_count_J6_bitCount_0f7a4 : GoodIn wsX4_count (va_wsS RX4 130 yJ6_bitCount_0f7a4 wsJ6_bitCount_0f7a4) := goodIn_app (goodIn_of _ (by decide +kernel)) ggX4_count_J6_bitCount_0f7a4
set_option maxRecDepth 20000 in
theorem ggX4_count_X2_partingSquares : GoodIn wsX4_count wsX2_partingSquares := goodIn_r _ [23, 24, 25, 26, 27, 28, 22, 29, 30, 31, 32, 33, 34, 35, 36, 37, 38, 39, 40, 41, 42, 43, 44, 45, 46, 47, 48, 49, 50, 51, 52, 82, 83, 84, 85, 86, 87, 88, 89, 90, 76, 77, 78, 79, 80, 81] (by decide +kernel) (by decide +kernel)
set_option maxRecDepth 20000 in
theorem gX4_count_X2_partingSquares : GoodIn wsX4_count (wsV RX4 159 RX2 yX2_partingSquares wsX2_partingSquares) := goodIn_app (goodIn_of _ (by decide +kernel)) ggX4_count_X2_partingSquares
set_option maxRecDepth 20000 in
theorem ggX4_count_X2_longestDistrict : GoodIn wsX4_count wsX2_longestDistrict := goodIn_r _ [56, 24, 57, 58, 59, 60, 61, 38, 62, 40, 45, 63, 64, 65, 66, 67, 46, 47, 48, 82, 83, 84, 85, 86, 87, 88, 89, 90, 76, 77, 78, 79, 80, 81] (by decide +kernel) (by decide +kernel)
set_option maxRecDepth 20000 in
theorem gX4_count_X2_longestDistrict : GoodIn wsX4_count (wsV RX4 162 RX2 yX2_longestDistrict wsX2_longestDistrict) := goodIn_app (goodIn_of _ (by decide +kernel)) ggX4_count_X2_longestDistrict
set_option maxRecDepth 20000 in
theorem ggX4_count_X3_allRoads : GoodIn wsX4_count wsX3_allRoads := goodIn_r _ [39, 40, 76, 77, 78, 79, 80, 81] (by decide +kernel) (by decide +kernel)
set_option maxRecDepth 20000 in
theorem gX4_count_X3_allRoads : GoodIn wsX4_count (wsV RX4 165 RX3 yX3_allRoads wsX3_allRoads) := goodIn_app (goodIn_of _ (by decide +kernel)) ggX4_count_X3_allRoads
set_option maxRecDepth 20000 in
theorem ggX4_count_X3_lengthOf : GoodIn wsX4_count wsX3_lengthOf := goodIn_r _ [66, 40, 67, 46, 47, 48, 76, 77, 78, 79, 80, 81] (by decide +kernel) (by decide +kernel)
set_option maxRecDepth 20000 in
theorem gX4_count_X3_lengthOf : GoodIn wsX4_count (wsV RX4 153 RX3 yX3_lengthOf wsX3_lengthOf) := goodIn_app (goodIn_of _ (by decide +kernel)) ggX4_count_X3_lengthOf
set_option maxRecDepth 20000 in
theorem ggX4_way_X3_hasSquare : GoodIn wsX4_way wsX3_hasSquare := goodIn_r _ [7, 8, 54, 55, 56, 57, 58, 59] (by decide +kernel) (by decide +kernel)
set_option maxRecDepth 20000 in
theorem gX4_way_X3_hasSquare : GoodIn wsX4_way (wsV RX4 61 RX3 yX3_hasSquare wsX3_hasSquare) := goodIn_app (goodIn_of _ (by decide +kernel)) ggX4_way_X3_hasSquare
set_option maxRecDepth 20000 in
theorem ggX4_way_X2_hangTogether : GoodIn wsX4_way wsX2_hangTogether := goodIn_r _ [13, 14, 15, 16, 17, 60, 61, 62, 63, 64, 65, 66, 67, 68] (by decide +kernel) (by decide +kernel)
set_option maxRecDepth 20000 in
theorem gX4_way_X2_hangTogether : GoodIn wsX4_way (wsV RX4 171 RX2 yX2_hangTogether wsX2_hangTogether) := goodIn_app (goodIn_of _ (by decide +kernel)) ggX4_way_X2_hangTogether
set_option maxRecDepth 20000 in
theorem ggX4_way_X2_leastLength : GoodIn wsX4_way wsX2_leastLength := goodIn_r _ [21, 22, 23, 24, 25, 26, 27, 28, 29, 30, 12, 31, 60, 61, 62, 63, 64, 65, 66, 67, 68, 54, 55, 56, 57, 58, 59] (by decide +kernel) (by decide +kernel)
set_option maxRecDepth 20000 in
theorem gX4_way_X2_leastLength : GoodIn wsX4_way (wsV RX4 174 RX2 yX2_leastLength wsX2_leastLength) := goodIn_app (goodIn_of _ (by decide +kernel)) ggX4_way_X2_leastLength
set_option maxRecDepth 20000 in
theorem ggX4_way_X2_roadsBetween : GoodIn wsX4_way wsX2_roadsBetween := goodIn_r _ [35, 23, 24, 36, 37, 38, 12, 39, 40, 14, 15, 16, 17, 60, 61, 62, 63, 64, 65, 66, 67, 68, 54, 55, 56, 57, 58, 59] (by decide +kernel) (by decide +kernel)
set_option maxRecDepth 20000 in
theorem gX4_way_X2_roadsBetween : GoodIn wsX4_way (wsV RX4 178 RX2 yX2_roadsBetween wsX2_roadsBetween) := goodIn_app (goodIn_of _ (by decide +kernel)) ggX4_way_X2_roadsBetween
set_option maxRecDepth 20000 in
theorem ggX4_way_J6_bitCount_0f7a4 : GoodIn wsX4_way wsJ6_bitCount_0f7a4 := goodIn_r _ [44, 45, 46, 47] (by decide +kernel) (by decide +kernel)
set_option maxRecDepth 20000 in
theorem gX4_way_J6_bitCount_0f7a4 : GoodIn wsX4_way (va_wsS RX4 130 yJ6_bitCount_0f7a4 wsJ6_bitCount_0f7a4) := goodIn_app (goodIn_of _ (by decide +kernel)) ggX4_way_J6_bitCount_0f7a4
set_option maxRecDepth 20000 in
theorem ggX4_must_X3_hasSquare : GoodIn wsX4_must wsX3_hasSquare := goodIn_r _ [7, 8, 46, 47, 48, 49, 50, 51] (by decide +kernel) (by decide +kernel)
set_option maxRecDepth 20000 in
theorem gX4_must_X3_hasSquare : GoodIn wsX4_must (wsV RX4 61 RX3 yX3_hasSquare wsX3_hasSquare) := goodIn_app (goodIn_of _ (by decide +kernel)) ggX4_must_X3_hasSquare
set_option maxRecDepth 20000 in
theorem ggX4_must_X2_roadOnWay : GoodIn wsX4_must wsX2_roadOnWay := goodIn_r _ [13, 14, 15, 16, 17, 18, 12, 19, 20, 21, 22, 23, 24, 25, 26, 27, 28, 29, 30, 31, 32, 33, 34, 35, 36, 37, 38, 39, 52, 53, 54, 55, 56, 57, 58, 59, 60, 46, 47, 48, 49, 50, 51] (by decide +kernel) (by decide +kernel)
set_option maxRecDepth 20000 in
theorem gX4_must_X2_roadOnWay : GoodIn wsX4_must (wsV RX4 181 RX2 yX2_roadOnWay wsX2_roadOnWay) := goodIn_app (goodIn_of _ (by decide +kernel)) ggX4_must_X2_roadOnWay
set_option maxRecDepth 20000 in
theorem ggX4_cutOff_X3_hasSquare : GoodIn wsX4_cutOff wsX3_hasSquare := goodIn_r _ [7, 8, 30, 31, 32, 33, 34, 35] (by decide +kernel) (by decide +kernel)
set_option maxRecDepth 20000 in
theorem gX4_cutOff_X3_hasSquare : GoodIn wsX4_cutOff (wsV RX4 61 RX3 yX3_hasSquare wsX3_hasSquare) := goodIn_app (goodIn_of _ (by decide +kernel)) ggX4_cutOff_X3_hasSquare
set_option maxRecDepth 20000 in
theorem ggX4_cutOff_X3_hasRoad : GoodIn wsX4_cutOff wsX3_hasRoad := goodIn_r _ [12, 13, 30, 31, 32, 33, 34, 35] (by decide +kernel) (by decide +kernel)
set_option maxRecDepth 20000 in
theorem gX4_cutOff_X3_hasRoad : GoodIn wsX4_cutOff (wsV RX4 74 RX3 yX3_hasRoad wsX3_hasRoad) := goodIn_app (goodIn_of _ (by decide +kernel)) ggX4_cutOff_X3_hasRoad
set_option maxRecDepth 20000 in
theorem ggX4_cutOff_X2_squaresBehind : GoodIn wsX4_cutOff wsX2_squaresBehind := goodIn_r _ [18, 19, 20, 21, 22, 23, 36, 37, 38, 39, 40, 41, 42, 43, 44] (by decide +kernel) (by decide +kernel)
set_option maxRecDepth 20000 in
theorem gX4_cutOff_X2_squaresBehind : GoodIn wsX4_cutOff (wsV RX4 185 RX2 yX2_squaresBehind wsX2_squaresBehind) := goodIn_app (goodIn_of _ (by decide +kernel)) ggX4_cutOff_X2_squaresBehind
set_option maxRecDepth 20000 in
theorem ggX4_ifBuilt_X3_hasSquare : GoodIn wsX4_ifBuilt wsX3_hasSquare := goodIn_r _ [9, 10, 53, 54, 55, 56, 57, 58] (by decide +kernel) (by decide +kernel)
set_option maxRecDepth 20000 in
theorem gX4_ifBuilt_X3_hasSquare : GoodIn wsX4_ifBuilt (wsV RX4 61 RX3 yX3_hasSquare wsX3_hasSquare) := goodIn_app (goodIn_of _ (by decide +kernel)) ggX4_ifBuilt_X3_hasSquare
set_option maxRecDepth 20000 in
theorem ggX4_ifBuilt_X2_roadsBetween : GoodIn wsX4_ifBuilt wsX2_roadsBetween := goodIn_r _ [15, 16, 17, 18, 19, 20, 14, 21, 22, 23, 24, 25, 26, 44, 45, 46, 47, 48, 49, 50, 51, 52, 53, 54, 55, 56, 57, 58] (by decide +kernel) (by decide +kernel)
set_option maxRecDepth 20000 in
theorem gX4_ifBuilt_X2_roadsBetween : GoodIn wsX4_ifBuilt (wsV RX4 178 RX2 yX2_roadsBetween wsX2_roadsBetween) := goodIn_app (goodIn_of _ (by decide +kernel)) ggX4_ifBuilt_X2_roadsBetween
set_option maxRecDepth 20000 in
theorem ggX4_ifBuilt_J6_bitCount_0f7a4 : GoodIn wsX4_ifBuilt wsJ6_bitCount_0f7a4 := goodIn_r _ [30, 31, 32, 33] (by decide +kernel) (by decide +kernel)
set_option maxRecDepth 20000 in
theorem gX4_ifBuilt_J6_bitCount_0f7a4 : GoodIn wsX4_ifBuilt (va_wsS RX4 130 yJ6_bitCount_0f7a4 wsJ6_bitCount_0f7a4) := goodIn_app (goodIn_of _ (by decide +kernel)) ggX4_ifBuilt_J6_bitCount_0f7a4
set_option maxRecDepth 20000 in
theorem ggX4_ifBuilt_X2_hangTogether : GoodIn wsX4_ifBuilt wsX2_hangTogether := goodIn_r _ [37, 23, 24, 25, 26, 44, 45, 46, 47, 48, 49, 50, 51, 52] (by decide +kernel) (by decide +kernel)
set_option maxRecDepth 20000 in
theorem gX4_ifBuilt_X2_hangTogether : GoodIn wsX4_ifBuilt (wsV RX4 171 RX2 yX2_hangTogether wsX2_hangTogether) := goodIn_app (goodIn_of _ (by decide +kernel)) ggX4_ifBuilt_X2_hangTogether
set_option maxRecDepth 20000 in
theorem ggX4_bestBuilt_X2_partingRoadsAfter : GoodIn wsX4_bestBuilt wsX2_partingRoadsAfter := goodIn_r _ [8, 9, 10, 11, 12, 13, 14, 15, 16, 17, 18, 19, 7, 20, 21, 22, 23, 24, 25, 26, 27, 28, 29, 30, 31, 32, 33, 34, 35, 48, 49, 50, 51, 52, 53, 54, 55, 56, 42, 43, 44, 45, 46, 47] (by decide +kernel) (by decide +kernel)
set_option maxRecDepth 20000 in
theorem gX4_bestBuilt_X2_partingRoadsAfter : GoodIn wsX4_bestBuilt (wsV RX4 188 RX2 yX2_partingRoadsAfter wsX2_partingRoadsAfter) := goodIn_app (goodIn_of _ (by decide +kernel)) ggX4_bestBuilt_X2_partingRoadsAfter
set_option maxRecDepth 20000 in
theorem ggX4_worstLoss_X2_pairsParted : GoodIn wsX4_worstLoss wsX2_pairsParted := goodIn_r _ [8, 9, 10, 11, 12, 13, 14, 7, 15, 16, 17, 18, 19, 20, 21, 22, 23, 24, 25, 26, 39, 40, 41, 42, 43, 44, 45, 46, 47, 33, 34, 35, 36, 37, 38] (by decide +kernel) (by decide +kernel)
set_option maxRecDepth 20000 in
theorem gX4_worstLoss_X2_pairsParted : GoodIn wsX4_worstLoss (wsV RX4 124 RX2 yX2_pairsParted wsX2_pairsParted) := goodIn_app (goodIn_of _ (by decide +kernel)) ggX4_worstLoss_X2_pairsParted
set_option maxRecDepth 20000 in
theorem ggX4_needed_X3_hasSquare : GoodIn wsX4_needed wsX3_hasSquare := goodIn_r _ [8, 9, 43, 44, 45, 46, 47, 48] (by decide +kernel) (by decide +kernel)
set_option maxRecDepth 20000 in
theorem gX4_needed_X3_hasSquare : GoodIn wsX4_needed (wsV RX4 61 RX3 yX3_hasSquare wsX3_hasSquare) := goodIn_app (goodIn_of _ (by decide +kernel)) ggX4_needed_X3_hasSquare
set_option maxRecDepth 20000 in
theorem ggX4_needed_X2_leafDistricts : GoodIn wsX4_needed wsX2_leafDistricts := goodIn_r _ [14, 15, 16, 17, 18, 19, 13, 20, 21, 22, 23, 24, 25, 26, 27, 34, 35, 36, 37, 38, 39, 40, 41, 42, 43, 44, 45, 46, 47, 48] (by decide +kernel) (by decide +kernel)
set_option maxRecDepth 20000 in
theorem gX4_needed_X2_leafDistricts : GoodIn wsX4_needed (wsV RX4 191 RX2 yX2_leafDistricts wsX2_leafDistricts) := goodIn_app (goodIn_of _ (by decide +kernel)) ggX4_needed_X2_leafDistricts
set_option maxRecDepth 20000 in
theorem ggX4_put_X4_charactersIn : GoodIn wsX4_put wsX4_charactersIn := goodIn_r _ [6, 7, 8, 9] (by decide +kernel) (by decide +kernel)
set_option maxRecDepth 20000 in
theorem gX4_put_X4_charactersIn : GoodIn wsX4_put (va_wsS RX4 194 yX4_charactersIn wsX4_charactersIn) := goodIn_app (goodIn_of _ (by decide +kernel)) ggX4_put_X4_charactersIn
set_option maxRecDepth 20000 in
theorem ggX4_put_X1_append : GoodIn wsX4_put wsX1_append := goodIn_r _ [14, 15, 16, 17, 24, 25, 26, 27, 28] (by decide +kernel) (by decide +kernel)
set_option maxRecDepth 20000 in
theorem gX4_put_X1_append : GoodIn wsX4_put (wsV RX4 198 RX1 yX1_append wsX1_append) := goodIn_app (goodIn_of _ (by decide +kernel)) ggX4_put_X1_append
set_option maxRecDepth 20000 in
theorem ggX4_fault_X1_parse : GoodIn wsX4_fault wsX1_parse := goodIn_r _ [6, 7, 8, 9, 10, 11, 12, 13, 5, 14, 15, 16, 17, 18, 19, 20, 21, 22, 23, 24, 25, 26, 27, 28, 29, 30, 31, 38, 39, 40, 41, 42] (by decide +kernel) (by decide +kernel)
set_option maxRecDepth 20000 in
theorem gX4_fault_X1_parse : GoodIn wsX4_fault (wsV RX4 81 RX1 yX1_parse wsX1_parse) := goodIn_app (goodIn_of _ (by decide +kernel)) ggX4_fault_X1_parse
set_option maxRecDepth 20000 in
theorem ggX4_undo_X0_takeBack : GoodIn wsX4_undo wsX0_takeBack := goodIn_r _ [9, 10, 11, 12, 13, 14, 15, 16, 17, 18, 19, 20, 21, 22, 23, 24, 25, 26, 76, 77, 78, 79, 80, 81, 82, 83] (by decide +kernel) (by decide +kernel)
set_option maxRecDepth 20000 in
theorem gX4_undo_X0_takeBack : GoodIn wsX4_undo (wsV RX4 208 RX0 yX0_takeBack wsX0_takeBack) := goodIn_app (goodIn_of _ (by decide +kernel)) ggX4_undo_X0_takeBack
set_option maxRecDepth 20000 in
theorem ggX4_undo_X2_renew : GoodIn wsX4_undo wsX2_renew := goodIn_r _ [31, 32, 33, 34, 30, 35, 36, 37, 38, 39, 40, 41, 42, 43, 44, 45, 15, 46, 18, 47, 48, 49, 50, 26, 51, 52, 53, 54, 55, 56, 57, 58, 59, 60, 61, 62, 63, 64, 65, 66, 67, 68, 69, 84, 85, 86, 87, 88, 89, 90, 91, 92, 78, 79, 80, 81, 82, 83] (by decide +kernel) (by decide +kernel)
set_option maxRecDepth 20000 in
theorem gX4_undo_X2_renew : GoodIn wsX4_undo (wsV RX4 58 RX2 yX2_renew wsX2_renew) := goodIn_app (goodIn_of _ (by decide +kernel)) ggX4_undo_X2_renew
set_option maxRecDepth 20000 in
theorem ggX4_save_X3_copyFrom : GoodIn wsX4_save wsX3_copyFrom := goodIn_r _ [9, 10, 11, 12, 13, 14, 15, 16, 17, 18, 19, 26, 27, 28, 29, 30, 31] (by decide +kernel) (by decide +kernel)
set_option maxRecDepth 20000 in
theorem gX4_save_X3_copyFrom : GoodIn wsX4_save (wsV RX4 211 RX3 yX3_copyFrom wsX3_copyFrom) := goodIn_app (goodIn_of _ (by decide +kernel)) ggX4_save_X3_copyFrom
set_option maxRecDepth 20000 in
theorem ggX4_restore_X0_record : GoodIn wsX4_restore wsX0_record := goodIn_r _ [11, 12, 13, 14, 15, 16, 10, 17, 18, 19, 20, 21, 22, 23, 24, 25, 26, 27, 28, 29, 30, 31, 32, 89, 90, 83, 84, 85, 86, 87, 88] (by decide +kernel) (by decide +kernel)
set_option maxRecDepth 20000 in
theorem gX4_restore_X0_record : GoodIn wsX4_restore (wsV RX4 55 RX0 yX0_record wsX0_record) := goodIn_app (goodIn_of _ (by decide +kernel)) ggX4_restore_X0_record
set_option maxRecDepth 20000 in
theorem ggX4_restore_X3_copyFrom : GoodIn wsX4_restore wsX3_copyFrom := goodIn_r _ [22, 23, 24, 25, 26, 27, 28, 29, 30, 31, 32, 83, 84, 85, 86, 87, 88] (by decide +kernel) (by decide +kernel)
set_option maxRecDepth 20000 in
theorem gX4_restore_X3_copyFrom : GoodIn wsX4_restore (wsV RX4 211 RX3 yX3_copyFrom wsX3_copyFrom) := goodIn_app (goodIn_of _ (by decide +kernel)) ggX4_restore_X3_copyFrom
set_option maxRecDepth 20000 in
theorem ggX4_restore_X2_renew : GoodIn wsX4_restore wsX2_renew := goodIn_r _ [38, 39, 40, 41, 37, 42, 43, 44, 45, 46, 47, 48, 49, 50, 51, 52, 21, 53, 24, 54, 55, 56, 57, 32, 58, 59, 60, 61, 62, 63, 64, 65, 66, 67, 68, 69, 70, 71, 72, 73, 74, 75, 76, 91, 92, 93, 94, 95, 96, 97, 98, 99, 83, 84, 85, 86, 87, 88] (by decide +kernel) (by decide +kernel)
set_option maxRecDepth 20000 in
theorem gX4_restore_X2_renew : GoodIn wsX4_restore (wsV RX4 58 RX2 yX2_renew wsX2_renew) := goodIn_app (goodIn_of _ (by decide +kernel)) ggX4_restore_X2_renew
set_option maxRecDepth 20000 in
theorem ggX4_setForMembers_X4_contains : GoodIn wsX4_setForMembers wsX4_contains := goodIn_r _ [4] (by decide +kernel) (by decide +kernel)
set_option maxRecDepth 20000 in
theorem gX4_setForMembers_X4_contains : GoodIn wsX4_setForMembers (va_wsS RX4 117 yX4_contains wsX4_contains) := goodIn_app (goodIn_of _ (by decide +kernel)) ggX4_setForMembers_X4_contains
set_option maxRecDepth 20000 in
theorem ggX5_isSquare_X5_in : GoodIn wsX5_isSquare wsX5_in := goodIn_r _ [5] (by decide +kernel) (by decide +kernel)
set_option maxRecDepth 20000 in
theorem gX5_isSquare_X5_in : GoodIn wsX5_isSquare (va_wsS RX5 38 yX5_in wsX5_in) := goodIn_app (goodIn_of _ (by decide +kernel)) ggX5_isSquare_X5_in
set_option maxRecDepth 20000 in
theorem ggX5_isRoad_X5_in : GoodIn wsX5_isRoad wsX5_in := goodIn_r _ [5] (by decide +kernel) (by decide +kernel)
set_option maxRecDepth 20000 in
theorem gX5_isRoad_X5_in : GoodIn wsX5_isRoad (va_wsS RX5 38 yX5_in wsX5_in) := goodIn_app (goodIn_of _ (by decide +kernel)) ggX5_isRoad_X5_in
set_option maxRecDepth 20000 in
theorem ggX5_reach_X5_ends : GoodIn wsX5_reach wsX5_ends := goodIn_r _ [6, 1, 7, 8, 9, 10, 11, 12, 13, 14, 15, 16, 17, 18, 19] (by decide +kernel) (by decide +kernel)
set_option maxRecDepth 20000 in
theorem gX5_reach_X5_ends : GoodIn wsX5_reach (wsV RX5 42 RX5 yX5_ends wsX5_ends) := goodIn_app (goodIn_of _ (by decide +kernel)) ggX5_reach_X5_ends
set_option maxRecDepth 20000 in
theorem ggX5_pieceOf_X5_reach : GoodIn wsX5_pieceOf wsX5_reach := goodIn_r _ [5, 6, 7, 8, 9, 4, 10, 11, 12, 13, 14, 15, 16, 17, 18, 19, 20, 21, 22, 23] (by decide +kernel) (by decide +kernel)
set_option maxRecDepth 20000 in
theorem gX5_pieceOf_X5_reach : GoodIn wsX5_pieceOf (wsV RX5 46 RX5 yX5_reach wsX5_reach) := goodIn_app (goodIn_of _ (by decide +kernel)) ggX5_pieceOf_X5_reach
set_option maxRecDepth 20000 in
theorem ggX5_piecesWithout_X5_reach : GoodIn wsX5_piecesWithout wsX5_reach := goodIn_r _ [6, 1, 7, 8, 9, 5, 10, 11, 12, 13, 14, 15, 16, 17, 18, 19, 20, 21, 22, 23] (by decide +kernel) (by decide +kernel)
set_option maxRecDepth 20000 in
theorem gX5_piecesWithout_X5_reach : GoodIn wsX5_piecesWithout (wsV RX5 46 RX5 yX5_reach wsX5_reach) := goodIn_app (goodIn_of _ (by decide +kernel)) ggX5_piecesWithout_X5_reach
set_option maxRecDepth 20000 in
theorem ggX5_pieces_X5_piecesWithout : GoodIn wsX5_pieces wsX5_piecesWithout := goodIn_r _ [5, 6, 7, 8, 9, 4, 10, 11, 12, 13, 14, 15, 16, 17, 18, 19, 20, 21, 22, 23, 24, 25, 26, 27] (by decide +kernel) (by decide +kernel)
set_option maxRecDepth 20000 in
theorem gX5_pieces_X5_piecesWithout : GoodIn wsX5_pieces (wsV RX5 50 RX5 yX5_piecesWithout wsX5_piecesWithout) := goodIn_app (goodIn_of _ (by decide +kernel)) ggX5_pieces_X5_piecesWithout
set_option maxRecDepth 20000 in
theorem ggX5_parts_X5_reach : GoodIn wsX5_parts wsX5_reach := goodIn_r _ [6, 1, 7, 8, 9, 5, 10, 11, 12, 13, 14, 15, 16, 17, 18, 19, 20, 21, 22, 23] (by decide +kernel) (by decide +kernel)
set_option maxRecDepth 20000 in
theorem gX5_parts_X5_reach : GoodIn wsX5_parts (wsV RX5 46 RX5 yX5_reach wsX5_reach) := goodIn_app (goodIn_of _ (by decide +kernel)) ggX5_parts_X5_reach
set_option maxRecDepth 20000 in
theorem ggX5_parting_X5_parts : GoodIn wsX5_parting wsX5_parts := goodIn_r _ [6, 1, 7, 8, 9, 5, 10, 11, 12, 13, 14, 15, 16, 17, 18, 19, 20, 21, 22, 23, 24, 25, 26, 27] (by decide +kernel) (by decide +kernel)
set_option maxRecDepth 20000 in
theorem gX5_parting_X5_parts : GoodIn wsX5_parting (wsV RX5 54 RX5 yX5_parts wsX5_parts) := goodIn_app (goodIn_of _ (by decide +kernel)) ggX5_parting_X5_parts
set_option maxRecDepth 20000 in
theorem ggX5_pairsLost_X5_parts : GoodIn wsX5_pairsLost wsX5_parts := goodIn_r _ [6, 1, 7, 8, 9, 5, 10, 11, 12, 13, 14, 18, 19, 20, 21, 22, 23, 24, 25, 26, 27, 28, 29, 30] (by decide +kernel) (by decide +kernel)
set_option maxRecDepth 20000 in
theorem gX5_pairsLost_X5_parts : GoodIn wsX5_pairsLost (wsV RX5 54 RX5 yX5_parts wsX5_parts) := goodIn_app (goodIn_of _ (by decide +kernel)) ggX5_pairsLost_X5_parts
set_option maxRecDepth 20000 in
theorem ggX5_pairsLost_X5_reach : GoodIn wsX5_pairsLost wsX5_reach := goodIn_r _ [10, 1, 11, 12, 13, 5, 14, 18, 19, 20, 21, 22, 23, 24, 25, 26, 27, 28, 29, 30] (by decide +kernel) (by decide +kernel)
set_option maxRecDepth 20000 in
theorem gX5_pairsLost_X5_reach : GoodIn wsX5_pairsLost (wsV RX5 46 RX5 yX5_reach wsX5_reach) := goodIn_app (goodIn_of _ (by decide +kernel)) ggX5_pairsLost_X5_reach
set_option maxRecDepth 20000 in
theorem ggX5_pairsLost_X5_bits : GoodIn wsX5_pairsLost wsX5_bits := goodIn_r _ [17] (by decide +kernel) (by decide +kernel)
set_option maxRecDepth 20000 in
theorem gX5_pairsLost_X5_bits : GoodIn wsX5_pairsLost (va_wsS RX5 58 yX5_bits wsX5_bits) := goodIn_app (goodIn_of _ (by decide +kernel)) ggX5_pairsLost_X5_bits
set_option maxRecDepth 20000 in
theorem ggX5_morePieces_X5_pieces : GoodIn wsX5_morePieces wsX5_pieces := goodIn_r _ [5, 6, 7, 8, 4, 9, 10, 11, 12, 13, 14, 15, 16, 17, 18, 23, 24, 25, 26, 27, 28, 29, 30, 31, 32, 33, 34, 35] (by decide +kernel) (by decide +kernel)
set_option maxRecDepth 20000 in
theorem gX5_morePieces_X5_pieces : GoodIn wsX5_morePieces (wsV RX5 61 RX5 yX5_pieces wsX5_pieces) := goodIn_app (goodIn_of _ (by decide +kernel)) ggX5_morePieces_X5_pieces
set_option maxRecDepth 20000 in
theorem ggX5_morePieces_X5_pieceOf : GoodIn wsX5_morePieces wsX5_pieceOf := goodIn_r _ [22, 11, 12, 13, 4, 14, 10, 15, 16, 17, 18, 23, 24, 25, 26, 27, 28, 29, 30, 31, 32, 33, 34, 35] (by decide +kernel) (by decide +kernel)
set_option maxRecDepth 20000 in
theorem gX5_morePieces_X5_pieceOf : GoodIn wsX5_morePieces (wsV RX5 65 RX5 yX5_pieceOf wsX5_pieceOf) := goodIn_app (goodIn_of _ (by decide +kernel)) ggX5_morePieces_X5_pieceOf
set_option maxRecDepth 20000 in
theorem ggX5_morePieces_X5_piecesWithout : GoodIn wsX5_morePieces wsX5_piecesWithout := goodIn_r _ [9, 10, 11, 12, 13, 4, 14, 15, 16, 17, 18, 23, 24, 25, 26, 27, 28, 29, 30, 31, 32, 33, 34, 35] (by decide +kernel) (by decide +kernel)
set_option maxRecDepth 20000 in
theorem gX5_morePieces_X5_piecesWithout : GoodIn wsX5_morePieces (wsV RX5 50 RX5 yX5_piecesWithout wsX5_piecesWithout) := goodIn_app (goodIn_of _ (by decide +kernel)) ggX5_morePieces_X5_piecesWithout
set_option maxRecDepth 20000 in
theorem ggX5_squares_X5_in : GoodIn wsX5_squares wsX5_in := goodIn_r _ [7] (by decide +kernel) (by decide +kernel)
set_option maxRecDepth 20000 in
theorem gX5_squares_X5_in : GoodIn wsX5_squares (va_wsS RX5 38 yX5_in wsX5_in) := goodIn_app (goodIn_of _ (by decide +kernel)) ggX5_squares_X5_in
set_option maxRecDepth 20000 in
theorem ggX5_squares_X5_keep : GoodIn wsX5_squares wsX5_keep := goodIn_r _ [11, 12, 3, 19, 20, 21, 22, 23, 24, 25, 26, 27, 28, 29, 30, 31] (by decide +kernel) (by decide +kernel)
set_option maxRecDepth 20000 in
theorem gX5_squares_X5_keep : GoodIn wsX5_squares (wsV RX5 72 RX5 yX5_keep wsX5_keep) := goodIn_app (goodIn_of _ (by decide +kernel)) ggX5_squares_X5_keep
set_option maxRecDepth 20000 in
theorem ggX5_squares_X5_changed : GoodIn wsX5_squares wsX5_changed := goodIn_r _ [16, 17, 18, 12, 19, 20, 21, 22, 23, 24, 25, 26, 27, 28, 29, 30, 31] (by decide +kernel) (by decide +kernel)
set_option maxRecDepth 20000 in
theorem gX5_squares_X5_changed : GoodIn wsX5_squares (wsV RX5 75 RX5 yX5_changed wsX5_changed) := goodIn_app (goodIn_of _ (by decide +kernel)) ggX5_squares_X5_changed
set_option maxRecDepth 20000 in
theorem ggX5_build_X5_isSquare : GoodIn wsX5_build wsX5_isSquare := goodIn_r _ [7, 2, 8, 9, 6, 10, 42, 43, 44, 45, 46, 47, 48, 49, 50, 51, 52, 53, 54] (by decide +kernel) (by decide +kernel)
set_option maxRecDepth 20000 in
theorem gX5_build_X5_isSquare : GoodIn wsX5_build (wsV RX5 78 RX5 yX5_isSquare wsX5_isSquare) := goodIn_app (goodIn_of _ (by decide +kernel)) ggX5_build_X5_isSquare
set_option maxRecDepth 20000 in
theorem ggX5_build_X5_in : GoodIn wsX5_build wsX5_in := goodIn_r _ [10] (by decide +kernel) (by decide +kernel)
set_option maxRecDepth 20000 in
theorem gX5_build_X5_in : GoodIn wsX5_build (va_wsS RX5 38 yX5_in wsX5_in) := goodIn_app (goodIn_of _ (by decide +kernel)) ggX5_build_X5_in
set_option maxRecDepth 20000 in
theorem ggX5_build_X5_keep : GoodIn wsX5_build wsX5_keep := goodIn_r _ [14, 15, 2, 42, 43, 44, 45, 46, 47, 48, 49, 50, 51, 52, 53, 54] (by decide +kernel) (by decide +kernel)
set_option maxRecDepth 20000 in
theorem gX5_build_X5_keep : GoodIn wsX5_build (wsV RX5 72 RX5 yX5_keep wsX5_keep) := goodIn_app (goodIn_of _ (by decide +kernel)) ggX5_build_X5_keep
set_option maxRecDepth 20000 in
theorem ggX5_build_X5_adds : GoodIn wsX5_build wsX5_adds := goodIn_r _ [19, 2, 42, 43, 44, 45, 46, 47, 48, 49, 50, 51, 52, 53, 54] (by decide +kernel) (by decide +kernel)
set_option maxRecDepth 20000 in
theorem gX5_build_X5_adds : GoodIn wsX5_build (wsV RX5 83 RX5 yX5_adds wsX5_adds) := goodIn_app (goodIn_of _ (by decide +kernel)) ggX5_build_X5_adds
set_option maxRecDepth 20000 in
theorem ggX5_build_X5_pieces : GoodIn wsX5_build wsX5_pieces := goodIn_r _ [23, 24, 25, 26, 6, 27, 2, 28, 29, 30, 31, 32, 33, 34, 35, 42, 43, 44, 45, 46, 47, 48, 49, 50, 51, 52, 53, 54] (by decide +kernel) (by decide +kernel)
set_option maxRecDepth 20000 in
theorem gX5_build_X5_pieces : GoodIn wsX5_build (wsV RX5 61 RX5 yX5_pieces wsX5_pieces) := goodIn_app (goodIn_of _ (by decide +kernel)) ggX5_build_X5_pieces
set_option maxRecDepth 20000 in
theorem ggX5_build_X5_changed : GoodIn wsX5_build wsX5_changed := goodIn_r _ [39, 40, 41, 15, 42, 43, 44, 45, 46, 47, 48, 49, 50, 51, 52, 53, 54] (by decide +kernel) (by decide +kernel)
set_option maxRecDepth 20000 in
theorem gX5_build_X5_changed : GoodIn wsX5_build (wsV RX5 75 RX5 yX5_changed wsX5_changed) := goodIn_app (goodIn_of _ (by decide +kernel)) ggX5_build_X5_changed
set_option maxRecDepth 20000 in
theorem ggX5_lose_X5_isRoad : GoodIn wsX5_lose wsX5_isRoad := goodIn_r _ [6, 1, 7, 8, 5, 9, 37, 38, 39, 40, 41, 42, 43, 44, 45, 46, 47, 48, 49] (by decide +kernel) (by decide +kernel)
set_option maxRecDepth 20000 in
theorem gX5_lose_X5_isRoad : GoodIn wsX5_lose (wsV RX5 87 RX5 yX5_isRoad wsX5_isRoad) := goodIn_app (goodIn_of _ (by decide +kernel)) ggX5_lose_X5_isRoad
set_option maxRecDepth 20000 in
theorem ggX5_lose_X5_keep : GoodIn wsX5_lose wsX5_keep := goodIn_r _ [13, 14, 1, 37, 38, 39, 40, 41, 42, 43, 44, 45, 46, 47, 48, 49] (by decide +kernel) (by decide +kernel)
set_option maxRecDepth 20000 in
theorem gX5_lose_X5_keep : GoodIn wsX5_lose (wsV RX5 72 RX5 yX5_keep wsX5_keep) := goodIn_app (goodIn_of _ (by decide +kernel)) ggX5_lose_X5_keep
set_option maxRecDepth 20000 in
theorem ggX5_lose_X5_pieces : GoodIn wsX5_lose wsX5_pieces := goodIn_r _ [18, 19, 20, 21, 5, 22, 1, 23, 24, 25, 26, 27, 28, 29, 30, 37, 38, 39, 40, 41, 42, 43, 44, 45, 46, 47, 48, 49] (by decide +kernel) (by decide +kernel)
set_option maxRecDepth 20000 in
theorem gX5_lose_X5_pieces : GoodIn wsX5_lose (wsV RX5 61 RX5 yX5_pieces wsX5_pieces) := goodIn_app (goodIn_of _ (by decide +kernel)) ggX5_lose_X5_pieces
set_option maxRecDepth 20000 in
theorem ggX5_lose_X5_changed : GoodIn wsX5_lose wsX5_changed := goodIn_r _ [34, 35, 36, 14, 37, 38, 39, 40, 41, 42, 43, 44, 45, 46, 47, 48, 49] (by decide +kernel) (by decide +kernel)
set_option maxRecDepth 20000 in
theorem gX5_lose_X5_changed : GoodIn wsX5_lose (wsV RX5 75 RX5 yX5_changed wsX5_changed) := goodIn_app (goodIn_of _ (by decide +kernel)) ggX5_lose_X5_changed
set_option maxRecDepth 20000 in
theorem ggX5_leastRing_X5_findsFar : GoodIn wsX5_leastRing wsX5_findsFar := goodIn_r _ [8, 2, 3, 1, 9, 10, 11, 12, 13, 14, 15, 16, 17, 18, 19, 20, 21] (by decide +kernel) (by decide +kernel)
set_option maxRecDepth 20000 in
theorem gX5_leastRing_X5_findsFar : GoodIn wsX5_leastRing (wsV RX5 91 RX5 yX5_findsFar wsX5_findsFar) := goodIn_app (goodIn_of _ (by decide +kernel)) ggX5_leastRing_X5_findsFar
set_option maxRecDepth 20000 in
theorem ggX5_districtOf_X5_parting : GoodIn wsX5_districtOf wsX5_parting := goodIn_r _ [5, 6, 7, 8, 9, 4, 10, 11, 12, 13, 14, 15, 16, 17, 18, 19, 20, 21, 22, 23, 24, 25, 26, 27, 28, 29, 30, 31] (by decide +kernel) (by decide +kernel)
set_option maxRecDepth 20000 in
theorem gX5_districtOf_X5_parting : GoodIn wsX5_districtOf (wsV RX5 95 RX5 yX5_parting wsX5_parting) := goodIn_app (goodIn_of _ (by decide +kernel)) ggX5_districtOf_X5_parting
set_option maxRecDepth 20000 in
theorem ggX5_districtOf_X5_reach : GoodIn wsX5_districtOf wsX5_reach := goodIn_r _ [14, 6, 15, 16, 17, 4, 18, 19, 20, 21, 22, 23, 24, 25, 26, 27, 28, 29, 30, 31] (by decide +kernel) (by decide +kernel)
set_option maxRecDepth 20000 in
theorem gX5_districtOf_X5_reach : GoodIn wsX5_districtOf (wsV RX5 46 RX5 yX5_reach wsX5_reach) := goodIn_app (goodIn_of _ (by decide +kernel)) ggX5_districtOf_X5_reach
set_option maxRecDepth 20000 in
theorem ggX5_districtsBelow_X5_parting : GoodIn wsX5_districtsBelow wsX5_parting := goodIn_r _ [5, 6, 7, 8, 9, 4, 10, 11, 12, 13, 14, 15, 16, 17, 18, 19, 20, 21, 22, 23, 24, 25, 26, 27, 28, 29, 30, 31] (by decide +kernel) (by decide +kernel)
set_option maxRecDepth 20000 in
theorem gX5_districtsBelow_X5_parting : GoodIn wsX5_districtsBelow (wsV RX5 95 RX5 yX5_parting wsX5_parting) := goodIn_app (goodIn_of _ (by decide +kernel)) ggX5_districtsBelow_X5_parting
set_option maxRecDepth 20000 in
theorem ggX5_districtsBelow_X5_reach : GoodIn wsX5_districtsBelow wsX5_reach := goodIn_r _ [14, 6, 15, 16, 17, 4, 18, 19, 20, 21, 22, 23, 24, 25, 26, 27, 28, 29, 30, 31] (by decide +kernel) (by decide +kernel)
set_option maxRecDepth 20000 in
theorem gX5_districtsBelow_X5_reach : GoodIn wsX5_districtsBelow (wsV RX5 46 RX5 yX5_reach wsX5_reach) := goodIn_app (goodIn_of _ (by decide +kernel)) ggX5_districtsBelow_X5_reach
set_option maxRecDepth 20000 in
theorem ggX5_numberOf_X5_districtOf : GoodIn wsX5_numberOf wsX5_districtOf := goodIn_r _ [5, 6, 7, 8, 4, 9, 10, 11, 12, 13, 14, 15, 16, 17, 18, 19, 20, 21, 22, 30, 31, 32, 33, 34, 35, 36, 37, 38, 39, 40, 41, 42] (by decide +kernel) (by decide +kernel)
set_option maxRecDepth 20000 in
theorem gX5_numberOf_X5_districtOf : GoodIn wsX5_numberOf (wsV RX5 98 RX5 yX5_districtOf wsX5_districtOf) := goodIn_app (goodIn_of _ (by decide +kernel)) ggX5_numberOf_X5_districtOf
set_option maxRecDepth 20000 in
theorem ggX5_numberOf_X5_lowest : GoodIn wsX5_numberOf wsX5_lowest := goodIn_r _ [25] (by decide +kernel) (by decide +kernel)
set_option maxRecDepth 20000 in
theorem gX5_numberOf_X5_lowest : GoodIn wsX5_numberOf (va_wsS RX5 101 yX5_lowest wsX5_lowest) := goodIn_app (goodIn_of _ (by decide +kernel)) ggX5_numberOf_X5_lowest
set_option maxRecDepth 20000 in
theorem ggX5_numberOf_X5_districtsBelow : GoodIn wsX5_numberOf wsX5_districtsBelow := goodIn_r _ [29, 6, 7, 8, 4, 9, 10, 11, 12, 13, 14, 15, 16, 17, 18, 19, 20, 21, 22, 30, 31, 32, 33, 34, 35, 36, 37, 38, 39, 40, 41, 42] (by decide +kernel) (by decide +kernel)
set_option maxRecDepth 20000 in
theorem gX5_numberOf_X5_districtsBelow : GoodIn wsX5_numberOf (wsV RX5 104 RX5 yX5_districtsBelow wsX5_districtsBelow) := goodIn_app (goodIn_of _ (by decide +kernel)) ggX5_numberOf_X5_districtsBelow
set_option maxRecDepth 20000 in
theorem ggX5_districts_X5_districtsBelow : GoodIn wsX5_districts wsX5_districtsBelow := goodIn_r _ [6, 7, 8, 9, 5, 10, 1, 11, 12, 13, 14, 15, 16, 17, 18, 19, 20, 21, 22, 23, 24, 25, 26, 27, 28, 29, 30, 31, 32, 33, 34, 35] (by decide +kernel) (by decide +kernel)
set_option maxRecDepth 20000 in
theorem gX5_districts_X5_districtsBelow : GoodIn wsX5_districts (wsV RX5 104 RX5 yX5_districtsBelow wsX5_districtsBelow) := goodIn_app (goodIn_of _ (by decide +kernel)) ggX5_districts_X5_districtsBelow
set_option maxRecDepth 20000 in
theorem ggX5_squaresOf_X5_parting : GoodIn wsX5_squaresOf wsX5_parting := goodIn_r _ [6, 1, 7, 8, 9, 5, 10, 11, 12, 13, 14, 15, 16, 17, 18, 19, 20, 21, 22, 23, 24, 25, 26, 27, 28, 29, 30, 31] (by decide +kernel) (by decide +kernel)
set_option maxRecDepth 20000 in
theorem gX5_squaresOf_X5_parting : GoodIn wsX5_squaresOf (wsV RX5 95 RX5 yX5_parting wsX5_parting) := goodIn_app (goodIn_of _ (by decide +kernel)) ggX5_squaresOf_X5_parting
set_option maxRecDepth 20000 in
theorem ggX5_squaresOf_X5_reach : GoodIn wsX5_squaresOf wsX5_reach := goodIn_r _ [14, 1, 15, 16, 17, 5, 18, 19, 20, 21, 22, 23, 24, 25, 26, 27, 28, 29, 30, 31] (by decide +kernel) (by decide +kernel)
set_option maxRecDepth 20000 in
theorem gX5_squaresOf_X5_reach : GoodIn wsX5_squaresOf (wsV RX5 46 RX5 yX5_reach wsX5_reach) := goodIn_app (goodIn_of _ (by decide +kernel)) ggX5_squaresOf_X5_reach
set_option maxRecDepth 20000 in
theorem ggX5_roadsWithin_X5_ends : GoodIn wsX5_roadsWithin wsX5_ends := goodIn_r _ [6, 1, 7, 8, 9, 10, 11, 12, 13, 14, 15, 16, 17, 18, 19] (by decide +kernel) (by decide +kernel)
set_option maxRecDepth 20000 in
theorem gX5_roadsWithin_X5_ends : GoodIn wsX5_roadsWithin (wsV RX5 42 RX5 yX5_ends wsX5_ends) := goodIn_app (goodIn_of _ (by decide +kernel)) ggX5_roadsWithin_X5_ends
set_option maxRecDepth 20000 in
theorem ggX5_lengthWithin_X5_ends : GoodIn wsX5_lengthWithin wsX5_ends := goodIn_r _ [6, 1, 7, 8, 9, 10, 11, 12, 13, 14, 15, 16, 17, 18, 19] (by decide +kernel) (by decide +kernel)
set_option maxRecDepth 20000 in
theorem gX5_lengthWithin_X5_ends : GoodIn wsX5_lengthWithin (wsV RX5 42 RX5 yX5_ends wsX5_ends) := goodIn_app (goodIn_of _ (by decide +kernel)) ggX5_lengthWithin_X5_ends
set_option maxRecDepth 20000 in
theorem ggX5_roadsOut_X5_ends : GoodIn wsX5_roadsOut wsX5_ends := goodIn_r _ [6, 1, 7, 8, 9, 10, 11, 12, 13, 14, 15, 16, 17, 18, 19] (by decide +kernel) (by decide +kernel)
set_option maxRecDepth 20000 in
theorem gX5_roadsOut_X5_ends : GoodIn wsX5_roadsOut (wsV RX5 42 RX5 yX5_ends wsX5_ends) := goodIn_app (goodIn_of _ (by decide +kernel)) ggX5_roadsOut_X5_ends
set_option maxRecDepth 20000 in
theorem ggX5_longestDistrict_X5_districts : GoodIn wsX5_longestDistrict wsX5_districts := goodIn_r _ [5, 6, 7, 8, 9, 4, 10, 11, 12, 13, 14, 15, 16, 17, 18, 19, 20, 21, 22, 23, 24, 25, 26, 35, 36, 37, 38, 39, 40, 41, 42, 43, 44, 45, 46, 47] (by decide +kernel) (by decide +kernel)
set_option maxRecDepth 20000 in
theorem gX5_longestDistrict_X5_districts : GoodIn wsX5_longestDistrict (wsV RX5 107 RX5 yX5_districts wsX5_districts) := goodIn_app (goodIn_of _ (by decide +kernel)) ggX5_longestDistrict_X5_districts
set_option maxRecDepth 20000 in
theorem ggX5_longestDistrict_X5_squaresOf : GoodIn wsX5_longestDistrict wsX5_squaresOf := goodIn_r _ [30, 6, 11, 12, 13, 4, 14, 15, 16, 17, 18, 19, 20, 21, 22, 23, 24, 25, 26, 35, 36, 37, 38, 39, 40, 41, 42, 43, 44, 45, 46, 47] (by decide +kernel) (by decide +kernel)
set_option maxRecDepth 20000 in
theorem gX5_longestDistrict_X5_squaresOf : GoodIn wsX5_longestDistrict (wsV RX5 110 RX5 yX5_squaresOf wsX5_squaresOf) := goodIn_app (goodIn_of _ (by decide +kernel)) ggX5_longestDistrict_X5_squaresOf
set_option maxRecDepth 20000 in
theorem ggX5_longestDistrict_X5_lengthWithin : GoodIn wsX5_longestDistrict wsX5_lengthWithin := goodIn_r _ [34, 6, 23, 24, 25, 4, 26, 35, 36, 37, 38, 39, 40, 41, 42, 43, 44, 45, 46, 47] (by decide +kernel) (by decide +kernel)
set_option maxRecDepth 20000 in
theorem gX5_longestDistrict_X5_lengthWithin : GoodIn wsX5_longestDistrict (wsV RX5 113 RX5 yX5_lengthWithin wsX5_lengthWithin) := goodIn_app (goodIn_of _ (by decide +kernel)) ggX5_longestDistrict_X5_lengthWithin
set_option maxRecDepth 20000 in
theorem ggX5_road_X5_isRoad : GoodIn wsX5_road wsX5_isRoad := goodIn_r _ [6, 1, 7, 8, 5, 9, 39, 40, 41, 42, 43, 44, 45, 46, 47, 48, 49, 50, 51] (by decide +kernel) (by decide +kernel)
set_option maxRecDepth 20000 in
theorem gX5_road_X5_isRoad : GoodIn wsX5_road (wsV RX5 87 RX5 yX5_isRoad wsX5_isRoad) := goodIn_app (goodIn_of _ (by decide +kernel)) ggX5_road_X5_isRoad
set_option maxRecDepth 20000 in
theorem ggX5_road_X5_parts : GoodIn wsX5_road wsX5_parts := goodIn_r _ [13, 1, 14, 15, 16, 5, 17, 18, 19, 20, 21, 39, 40, 41, 42, 43, 44, 45, 46, 47, 48, 49, 50, 51] (by decide +kernel) (by decide +kernel)
set_option maxRecDepth 20000 in
theorem gX5_road_X5_parts : GoodIn wsX5_road (wsV RX5 54 RX5 yX5_parts wsX5_parts) := goodIn_app (goodIn_of _ (by decide +kernel)) ggX5_road_X5_parts
set_option maxRecDepth 20000 in
theorem ggX5_road_X5_leastRing : GoodIn wsX5_road wsX5_leastRing := goodIn_r _ [25, 1, 26, 27, 28, 29, 30, 5, 31, 39, 40, 41, 42, 43, 44, 45, 46, 47, 48, 49, 50, 51] (by decide +kernel) (by decide +kernel)
set_option maxRecDepth 20000 in
theorem gX5_road_X5_leastRing : GoodIn wsX5_road (wsV RX5 116 RX5 yX5_leastRing wsX5_leastRing) := goodIn_app (goodIn_of _ (by decide +kernel)) ggX5_road_X5_leastRing
set_option maxRecDepth 20000 in
theorem ggX5_road_X5_pairsLost : GoodIn wsX5_road wsX5_pairsLost := goodIn_r _ [35, 1, 10, 11, 12, 5, 13, 14, 15, 16, 17, 18, 19, 20, 21, 36, 37, 38, 39, 40, 41, 42, 43, 44, 45, 46, 47, 48, 49, 50, 51] (by decide +kernel) (by decide +kernel)
set_option maxRecDepth 20000 in
theorem gX5_road_X5_pairsLost : GoodIn wsX5_road (wsV RX5 119 RX5 yX5_pairsLost wsX5_pairsLost) := goodIn_app (goodIn_of _ (by decide +kernel)) ggX5_road_X5_pairsLost
set_option maxRecDepth 20000 in
theorem ggX5_square_X5_isSquare : GoodIn wsX5_square wsX5_isSquare := goodIn_r _ [5, 6, 7, 8, 4, 9, 61, 62, 63, 64, 65, 66, 67, 68, 69, 70, 71, 72, 73] (by decide +kernel) (by decide +kernel)
set_option maxRecDepth 20000 in
theorem gX5_square_X5_isSquare : GoodIn wsX5_square (wsV RX5 78 RX5 yX5_isSquare wsX5_isSquare) := goodIn_app (goodIn_of _ (by decide +kernel)) ggX5_square_X5_isSquare
set_option maxRecDepth 20000 in
theorem ggX5_square_X5_roadsOut : GoodIn wsX5_square wsX5_roadsOut := goodIn_r _ [13, 6, 14, 15, 16, 4, 17, 61, 62, 63, 64, 65, 66, 67, 68, 69, 70, 71, 72, 73] (by decide +kernel) (by decide +kernel)
set_option maxRecDepth 20000 in
theorem gX5_square_X5_roadsOut : GoodIn wsX5_square (wsV RX5 122 RX5 yX5_roadsOut wsX5_roadsOut) := goodIn_app (goodIn_of _ (by decide +kernel)) ggX5_square_X5_roadsOut
set_option maxRecDepth 20000 in
theorem ggX5_square_X5_morePieces : GoodIn wsX5_square wsX5_morePieces := goodIn_r _ [21, 22, 23, 24, 4, 25, 26, 27, 28, 29, 6, 30, 31, 32, 33, 14, 15, 16, 17, 34, 35, 36, 37, 61, 62, 63, 64, 65, 66, 67, 68, 69, 70, 71, 72, 73] (by decide +kernel) (by decide +kernel)
set_option maxRecDepth 20000 in
theorem gX5_square_X5_morePieces : GoodIn wsX5_square (wsV RX5 125 RX5 yX5_morePieces wsX5_morePieces) := goodIn_app (goodIn_of _ (by decide +kernel)) ggX5_square_X5_morePieces
set_option maxRecDepth 20000 in
theorem ggX5_square_X5_numberOf : GoodIn wsX5_square wsX5_numberOf := goodIn_r _ [41, 42, 43, 44, 4, 45, 46, 47, 48, 49, 6, 50, 51, 52, 53, 30, 31, 32, 33, 14, 15, 16, 17, 54, 55, 56, 57, 58, 59, 60, 61, 62, 63, 64, 65, 66, 67, 68, 69, 70, 71, 72, 73] (by decide +kernel) (by decide +kernel)
set_option maxRecDepth 20000 in
theorem gX5_square_X5_numberOf : GoodIn wsX5_square (wsV RX5 128 RX5 yX5_numberOf wsX5_numberOf) := goodIn_app (goodIn_of _ (by decide +kernel)) ggX5_square_X5_numberOf
set_option maxRecDepth 20000 in
theorem ggX5_square_X5_pieceOf : GoodIn wsX5_square wsX5_pieceOf := goodIn_r _ [37, 30, 31, 32, 4, 33, 6, 14, 15, 16, 17, 61, 62, 63, 64, 65, 66, 67, 68, 69, 70, 71, 72, 73] (by decide +kernel) (by decide +kernel)
set_option maxRecDepth 20000 in
theorem gX5_square_X5_pieceOf : GoodIn wsX5_square (wsV RX5 65 RX5 yX5_pieceOf wsX5_pieceOf) := goodIn_app (goodIn_of _ (by decide +kernel)) ggX5_square_X5_pieceOf
set_option maxRecDepth 20000 in
theorem ggX5_district_X5_districts : GoodIn wsX5_district wsX5_districts := goodIn_r _ [5, 6, 7, 8, 9, 4, 10, 11, 12, 13, 14, 15, 16, 17, 18, 19, 20, 21, 22, 23, 24, 25, 26, 49, 50, 51, 52, 53, 54, 55, 56, 57, 58, 59, 60, 61] (by decide +kernel) (by decide +kernel)
set_option maxRecDepth 20000 in
theorem gX5_district_X5_districts : GoodIn wsX5_district (wsV RX5 107 RX5 yX5_districts wsX5_districts) := goodIn_app (goodIn_of _ (by decide +kernel)) ggX5_district_X5_districts
set_option maxRecDepth 20000 in
theorem ggX5_district_X5_in : GoodIn wsX5_district wsX5_in := goodIn_r _ [29] (by decide +kernel) (by decide +kernel)
set_option maxRecDepth 20000 in
theorem gX5_district_X5_in : GoodIn wsX5_district (va_wsS RX5 38 yX5_in wsX5_in) := goodIn_app (goodIn_of _ (by decide +kernel)) ggX5_district_X5_in
set_option maxRecDepth 20000 in
theorem ggX5_district_X5_squaresOf : GoodIn wsX5_district wsX5_squaresOf := goodIn_r _ [33, 6, 11, 12, 13, 4, 14, 15, 16, 17, 18, 19, 20, 21, 22, 23, 24, 25, 26, 49, 50, 51, 52, 53, 54, 55, 56, 57, 58, 59, 60, 61] (by decide +kernel) (by decide +kernel)
set_option maxRecDepth 20000 in
theorem gX5_district_X5_squaresOf : GoodIn wsX5_district (wsV RX5 110 RX5 yX5_squaresOf wsX5_squaresOf) := goodIn_app (goodIn_of _ (by decide +kernel)) ggX5_district_X5_squaresOf
set_option maxRecDepth 20000 in
theorem ggX5_district_X5_lengthWithin : GoodIn wsX5_district wsX5_lengthWithin := goodIn_r _ [37, 6, 23, 24, 25, 4, 26, 49, 50, 51, 52, 53, 54, 55, 56, 57, 58, 59, 60, 61] (by decide +kernel) (by decide +kernel)
set_option maxRecDepth 20000 in
theorem gX5_district_X5_lengthWithin : GoodIn wsX5_district (wsV RX5 113 RX5 yX5_lengthWithin wsX5_lengthWithin) := goodIn_app (goodIn_of _ (by decide +kernel)) ggX5_district_X5_lengthWithin
set_option maxRecDepth 20000 in
theorem ggX5_district_X5_roadsOut : GoodIn wsX5_district wsX5_roadsOut := goodIn_r _ [41, 6, 23, 24, 25, 4, 26, 49, 50, 51, 52, 53, 54, 55, 56, 57, 58, 59, 60, 61] (by decide +kernel) (by decide +kernel)
set_option maxRecDepth 20000 in
theorem gX5_district_X5_roadsOut : GoodIn wsX5_district (wsV RX5 122 RX5 yX5_roadsOut wsX5_roadsOut) := goodIn_app (goodIn_of _ (by decide +kernel)) ggX5_district_X5_roadsOut
set_option maxRecDepth 20000 in
theorem ggX5_district_X5_roadsWithin : GoodIn wsX5_district wsX5_roadsWithin := goodIn_r _ [45, 6, 23, 24, 25, 4, 26, 49, 50, 51, 52, 53, 54, 55, 56, 57, 58, 59, 60, 61] (by decide +kernel) (by decide +kernel)
set_option maxRecDepth 20000 in
theorem gX5_district_X5_roadsWithin : GoodIn wsX5_district (wsV RX5 131 RX5 yX5_roadsWithin wsX5_roadsWithin) := goodIn_app (goodIn_of _ (by decide +kernel)) ggX5_district_X5_roadsWithin
set_option maxRecDepth 20000 in
theorem ggX5_district_X5_bits : GoodIn wsX5_district wsX5_bits := goodIn_r _ [48] (by decide +kernel) (by decide +kernel)
set_option maxRecDepth 20000 in
theorem gX5_district_X5_bits : GoodIn wsX5_district (va_wsS RX5 58 yX5_bits wsX5_bits) := goodIn_app (goodIn_of _ (by decide +kernel)) ggX5_district_X5_bits
set_option maxRecDepth 20000 in
theorem ggX5_squaresThatPart_X5_morePieces : GoodIn wsX5_squaresThatPart wsX5_morePieces := goodIn_r _ [6, 7, 8, 9, 5, 10, 11, 12, 13, 14, 1, 15, 16, 17, 18, 19, 20, 21, 22, 23, 24, 25, 26, 27, 28, 29, 30, 31, 32, 33, 34, 35, 36, 37, 38, 39] (by decide +kernel) (by decide +kernel)
set_option maxRecDepth 20000 in
theorem gX5_squaresThatPart_X5_morePieces : GoodIn wsX5_squaresThatPart (wsV RX5 125 RX5 yX5_morePieces wsX5_morePieces) := goodIn_app (goodIn_of _ (by decide +kernel)) ggX5_squaresThatPart_X5_morePieces
set_option maxRecDepth 20000 in
theorem ggX5_count_X5_pieces : GoodIn wsX5_count wsX5_pieces := goodIn_r _ [9, 10, 11, 12, 8, 13, 1, 14, 15, 16, 17, 18, 19, 20, 21, 65, 66, 67, 68, 69, 70, 71, 72, 73, 74, 75, 76, 77] (by decide +kernel) (by decide +kernel)
set_option maxRecDepth 20000 in
theorem gX5_count_X5_pieces : GoodIn wsX5_count (wsV RX5 61 RX5 yX5_pieces wsX5_pieces) := goodIn_app (goodIn_of _ (by decide +kernel)) ggX5_count_X5_pieces
set_option maxRecDepth 20000 in
theorem ggX5_count_X5_parting : GoodIn wsX5_count wsX5_parting := goodIn_r _ [25, 1, 26, 27, 28, 8, 29, 14, 15, 16, 17, 18, 19, 20, 21, 65, 66, 67, 68, 69, 70, 71, 72, 73, 74, 75, 76, 77] (by decide +kernel) (by decide +kernel)
set_option maxRecDepth 20000 in
theorem gX5_count_X5_parting : GoodIn wsX5_count (wsV RX5 95 RX5 yX5_parting wsX5_parting) := goodIn_app (goodIn_of _ (by decide +kernel)) ggX5_count_X5_parting
set_option maxRecDepth 20000 in
theorem ggX5_count_X5_bits : GoodIn wsX5_count wsX5_bits := goodIn_r _ [32] (by decide +kernel) (by decide +kernel)
set_option maxRecDepth 20000 in
theorem gX5_count_X5_bits : GoodIn wsX5_count (va_wsS RX5 58 yX5_bits wsX5_bits) := goodIn_app (goodIn_of _ (by decide +kernel)) ggX5_count_X5_bits
set_option maxRecDepth 20000 in
theorem ggX5_count_X5_squaresThatPart : GoodIn wsX5_count wsX5_squaresThatPart := goodIn_r _ [36, 1, 37, 38, 39, 8, 40, 5, 6, 7, 9, 10, 11, 12, 13, 14, 15, 16, 17, 18, 19, 20, 21, 41, 42, 43, 44, 65, 66, 67, 68, 69, 70, 71, 72, 73, 74, 75, 76, 77] (by decide +kernel) (by decide +kernel)
set_option maxRecDepth 20000 in
theorem gX5_count_X5_squaresThatPart : GoodIn wsX5_count (wsV RX5 134 RX5 yX5_squaresThatPart wsX5_squaresThatPart) := goodIn_app (goodIn_of _ (by decide +kernel)) ggX5_count_X5_squaresThatPart
set_option maxRecDepth 20000 in
theorem ggX5_count_X5_districts : GoodIn wsX5_count wsX5_districts := goodIn_r _ [48, 1, 49, 50, 51, 8, 52, 22, 23, 24, 25, 26, 27, 28, 29, 14, 15, 16, 17, 18, 19, 20, 21, 65, 66, 67, 68, 69, 70, 71, 72, 73, 74, 75, 76, 77] (by decide +kernel) (by decide +kernel)
set_option maxRecDepth 20000 in
theorem gX5_count_X5_districts : GoodIn wsX5_count (wsV RX5 107 RX5 yX5_districts wsX5_districts) := goodIn_app (goodIn_of _ (by decide +kernel)) ggX5_count_X5_districts
set_option maxRecDepth 20000 in
theorem ggX5_count_X5_longestDistrict : GoodIn wsX5_count wsX5_longestDistrict := goodIn_r _ [56, 45, 46, 47, 8, 48, 1, 49, 50, 51, 52, 22, 23, 24, 25, 26, 27, 28, 29, 14, 15, 16, 17, 18, 19, 20, 21, 57, 58, 59, 60, 61, 62, 63, 64, 65, 66, 67, 68, 69, 70, 71, 72, 73, 74, 75, 76, 77] (by decide +kernel) (by decide +kernel)
set_option maxRecDepth 20000 in
theorem gX5_count_X5_longestDistrict : GoodIn wsX5_count (wsV RX5 137 RX5 yX5_longestDistrict wsX5_longestDistrict) := goodIn_app (goodIn_of _ (by decide +kernel)) ggX5_count_X5_longestDistrict
set_option maxRecDepth 20000 in
theorem ggX5_count_X5_lengthWithin : GoodIn wsX5_count wsX5_lengthWithin := goodIn_r _ [64, 1, 18, 19, 20, 8, 21, 65, 66, 67, 68, 69, 70, 71, 72, 73, 74, 75, 76, 77] (by decide +kernel) (by decide +kernel)
set_option maxRecDepth 20000 in
theorem gX5_count_X5_lengthWithin : GoodIn wsX5_count (wsV RX5 113 RX5 yX5_lengthWithin wsX5_lengthWithin) := goodIn_app (goodIn_of _ (by decide +kernel)) ggX5_count_X5_lengthWithin
set_option maxRecDepth 20000 in
theorem ggX5_hang_X5_pieceOf : GoodIn wsX5_hang wsX5_pieceOf := goodIn_r _ [5, 6, 7, 8, 4, 9, 10, 11, 12, 13, 14, 15, 16, 17, 18, 19, 20, 21, 22, 23, 24, 25, 26, 27] (by decide +kernel) (by decide +kernel)
set_option maxRecDepth 20000 in
theorem gX5_hang_X5_pieceOf : GoodIn wsX5_hang (wsV RX5 65 RX5 yX5_pieceOf wsX5_pieceOf) := goodIn_app (goodIn_of _ (by decide +kernel)) ggX5_hang_X5_pieceOf
set_option maxRecDepth 20000 in
theorem ggX5_musts_X5_reach : GoodIn wsX5_musts wsX5_reach := goodIn_r _ [6, 1, 7, 8, 9, 5, 10, 11, 12, 13, 14, 15, 16, 17, 18, 19, 20, 21, 22, 23] (by decide +kernel) (by decide +kernel)
set_option maxRecDepth 20000 in
theorem gX5_musts_X5_reach : GoodIn wsX5_musts (wsV RX5 46 RX5 yX5_reach wsX5_reach) := goodIn_app (goodIn_of _ (by decide +kernel)) ggX5_musts_X5_reach
set_option maxRecDepth 20000 in
theorem ggX5_way_X5_isSquare : GoodIn wsX5_way wsX5_isSquare := goodIn_r _ [7, 8, 9, 10, 6, 11, 40, 41, 42, 43, 44, 45, 46, 47, 48, 49, 50, 51, 52] (by decide +kernel) (by decide +kernel)
set_option maxRecDepth 20000 in
theorem gX5_way_X5_isSquare : GoodIn wsX5_way (wsV RX5 78 RX5 yX5_isSquare wsX5_isSquare) := goodIn_app (goodIn_of _ (by decide +kernel)) ggX5_way_X5_isSquare
set_option maxRecDepth 20000 in
theorem ggX5_way_X5_in : GoodIn wsX5_way wsX5_in := goodIn_r _ [11] (by decide +kernel) (by decide +kernel)
set_option maxRecDepth 20000 in
theorem gX5_way_X5_in : GoodIn wsX5_way (va_wsS RX5 38 yX5_in wsX5_in) := goodIn_app (goodIn_of _ (by decide +kernel)) ggX5_way_X5_in
set_option maxRecDepth 20000 in
theorem ggX5_way_X5_hang : GoodIn wsX5_way wsX5_hang := goodIn_r _ [15, 16, 17, 18, 6, 19, 20, 21, 22, 23, 8, 24, 25, 26, 27, 40, 41, 42, 43, 44, 45, 46, 47, 48, 49, 50, 51, 52] (by decide +kernel) (by decide +kernel)
set_option maxRecDepth 20000 in
theorem gX5_way_X5_hang : GoodIn wsX5_way (wsV RX5 144 RX5 yX5_hang wsX5_hang) := goodIn_app (goodIn_of _ (by decide +kernel)) ggX5_way_X5_hang
set_option maxRecDepth 20000 in
theorem ggX5_way_X5_findsFar : GoodIn wsX5_way wsX5_findsFar := goodIn_r _ [31, 2, 32, 8, 40, 41, 42, 43, 44, 45, 46, 47, 48, 49, 50, 51, 52] (by decide +kernel) (by decide +kernel)
set_option maxRecDepth 20000 in
theorem gX5_way_X5_findsFar : GoodIn wsX5_way (wsV RX5 91 RX5 yX5_findsFar wsX5_findsFar) := goodIn_app (goodIn_of _ (by decide +kernel)) ggX5_way_X5_findsFar
set_option maxRecDepth 20000 in
theorem ggX5_way_X5_musts : GoodIn wsX5_way wsX5_musts := goodIn_r _ [36, 8, 20, 21, 22, 6, 23, 24, 25, 26, 27, 40, 41, 42, 43, 44, 45, 46, 47, 48, 49, 50, 51, 52] (by decide +kernel) (by decide +kernel)
set_option maxRecDepth 20000 in
theorem gX5_way_X5_musts : GoodIn wsX5_way (wsV RX5 148 RX5 yX5_musts wsX5_musts) := goodIn_app (goodIn_of _ (by decide +kernel)) ggX5_way_X5_musts
set_option maxRecDepth 20000 in
theorem ggX5_way_X5_bits : GoodIn wsX5_way wsX5_bits := goodIn_r _ [39] (by decide +kernel) (by decide +kernel)
set_option maxRecDepth 20000 in
theorem gX5_way_X5_bits : GoodIn wsX5_way (va_wsS RX5 58 yX5_bits wsX5_bits) := goodIn_app (goodIn_of _ (by decide +kernel)) ggX5_way_X5_bits
set_option maxRecDepth 20000 in
theorem ggX5_must_X5_isSquare : GoodIn wsX5_must wsX5_isSquare := goodIn_r _ [6, 1, 7, 8, 5, 9, 30, 31, 32, 33, 34, 35, 36, 37, 38, 39, 40, 41, 42] (by decide +kernel) (by decide +kernel)
set_option maxRecDepth 20000 in
theorem gX5_must_X5_isSquare : GoodIn wsX5_must (wsV RX5 78 RX5 yX5_isSquare wsX5_isSquare) := goodIn_app (goodIn_of _ (by decide +kernel)) ggX5_must_X5_isSquare
set_option maxRecDepth 20000 in
theorem ggX5_must_X5_hang : GoodIn wsX5_must wsX5_hang := goodIn_r _ [13, 14, 15, 16, 5, 17, 18, 19, 20, 21, 1, 22, 23, 24, 25, 30, 31, 32, 33, 34, 35, 36, 37, 38, 39, 40, 41, 42] (by decide +kernel) (by decide +kernel)
set_option maxRecDepth 20000 in
theorem gX5_must_X5_hang : GoodIn wsX5_must (wsV RX5 144 RX5 yX5_hang wsX5_hang) := goodIn_app (goodIn_of _ (by decide +kernel)) ggX5_must_X5_hang
set_option maxRecDepth 20000 in
theorem ggX5_must_X5_musts : GoodIn wsX5_must wsX5_musts := goodIn_r _ [29, 1, 18, 19, 20, 5, 21, 22, 23, 24, 25, 30, 31, 32, 33, 34, 35, 36, 37, 38, 39, 40, 41, 42] (by decide +kernel) (by decide +kernel)
set_option maxRecDepth 20000 in
theorem gX5_must_X5_musts : GoodIn wsX5_must (wsV RX5 148 RX5 yX5_musts wsX5_musts) := goodIn_app (goodIn_of _ (by decide +kernel)) ggX5_must_X5_musts
set_option maxRecDepth 20000 in
theorem ggX5_must_X5_ends : GoodIn wsX5_must wsX5_ends := goodIn_r _ [25, 1, 30, 31, 32, 33, 34, 35, 36, 37, 38, 39, 40, 41, 42] (by decide +kernel) (by decide +kernel)
set_option maxRecDepth 20000 in
theorem gX5_must_X5_ends : GoodIn wsX5_must (wsV RX5 42 RX5 yX5_ends wsX5_ends) := goodIn_app (goodIn_of _ (by decide +kernel)) ggX5_must_X5_ends
set_option maxRecDepth 20000 in
theorem ggX5_must_X5_reach : GoodIn wsX5_must wsX5_reach := goodIn_r _ [21, 1, 22, 23, 24, 5, 25, 30, 31, 32, 33, 34, 35, 36, 37, 38, 39, 40, 41, 42] (by decide +kernel) (by decide +kernel)
set_option maxRecDepth 20000 in
theorem gX5_must_X5_reach : GoodIn wsX5_must (wsV RX5 46 RX5 yX5_reach wsX5_reach) := goodIn_app (goodIn_of _ (by decide +kernel)) ggX5_must_X5_reach
set_option maxRecDepth 20000 in
theorem ggX5_cutOff_X5_isSquare : GoodIn wsX5_cutOff wsX5_isSquare := goodIn_r _ [5, 6, 7, 8, 4, 9, 26, 27, 28, 29, 30, 31, 32, 33, 34, 35, 36, 37, 38] (by decide +kernel) (by decide +kernel)
set_option maxRecDepth 20000 in
theorem gX5_cutOff_X5_isSquare : GoodIn wsX5_cutOff (wsV RX5 78 RX5 yX5_isSquare wsX5_isSquare) := goodIn_app (goodIn_of _ (by decide +kernel)) ggX5_cutOff_X5_isSquare
set_option maxRecDepth 20000 in
theorem ggX5_cutOff_X5_isRoad : GoodIn wsX5_cutOff wsX5_isRoad := goodIn_r _ [13, 6, 7, 8, 4, 9, 26, 27, 28, 29, 30, 31, 32, 33, 34, 35, 36, 37, 38] (by decide +kernel) (by decide +kernel)
set_option maxRecDepth 20000 in
theorem gX5_cutOff_X5_isRoad : GoodIn wsX5_cutOff (wsV RX5 87 RX5 yX5_isRoad wsX5_isRoad) := goodIn_app (goodIn_of _ (by decide +kernel)) ggX5_cutOff_X5_isRoad
set_option maxRecDepth 20000 in
theorem ggX5_cutOff_X5_pieceOf : GoodIn wsX5_cutOff wsX5_pieceOf := goodIn_r _ [17, 18, 19, 20, 4, 21, 6, 22, 23, 24, 25, 26, 27, 28, 29, 30, 31, 32, 33, 34, 35, 36, 37, 38] (by decide +kernel) (by decide +kernel)
set_option maxRecDepth 20000 in
theorem gX5_cutOff_X5_pieceOf : GoodIn wsX5_cutOff (wsV RX5 65 RX5 yX5_pieceOf wsX5_pieceOf) := goodIn_app (goodIn_of _ (by decide +kernel)) ggX5_cutOff_X5_pieceOf
set_option maxRecDepth 20000 in
theorem ggX5_cutOff_X5_reach : GoodIn wsX5_cutOff wsX5_reach := goodIn_r _ [21, 6, 22, 23, 24, 4, 25, 26, 27, 28, 29, 30, 31, 32, 33, 34, 35, 36, 37, 38] (by decide +kernel) (by decide +kernel)
set_option maxRecDepth 20000 in
theorem gX5_cutOff_X5_reach : GoodIn wsX5_cutOff (wsV RX5 46 RX5 yX5_reach wsX5_reach) := goodIn_app (goodIn_of _ (by decide +kernel)) ggX5_cutOff_X5_reach
set_option maxRecDepth 20000 in
theorem ggX5_ifBuilt_X5_isSquare : GoodIn wsX5_ifBuilt wsX5_isSquare := goodIn_r _ [6, 7, 8, 9, 5, 10, 58, 59, 60, 61, 62, 63, 64, 65, 66, 67, 68, 69, 70] (by decide +kernel) (by decide +kernel)
set_option maxRecDepth 20000 in
theorem gX5_ifBuilt_X5_isSquare : GoodIn wsX5_ifBuilt (wsV RX5 78 RX5 yX5_isSquare wsX5_isSquare) := goodIn_app (goodIn_of _ (by decide +kernel)) ggX5_ifBuilt_X5_isSquare
set_option maxRecDepth 20000 in
theorem ggX5_ifBuilt_X5_in : GoodIn wsX5_ifBuilt wsX5_in := goodIn_r _ [10] (by decide +kernel) (by decide +kernel)
set_option maxRecDepth 20000 in
theorem gX5_ifBuilt_X5_in : GoodIn wsX5_ifBuilt (va_wsS RX5 38 yX5_in wsX5_in) := goodIn_app (goodIn_of _ (by decide +kernel)) ggX5_ifBuilt_X5_in
set_option maxRecDepth 20000 in
theorem ggX5_ifBuilt_X5_hang : GoodIn wsX5_ifBuilt wsX5_hang := goodIn_r _ [14, 15, 16, 17, 5, 18, 19, 20, 21, 22, 7, 23, 24, 25, 26, 58, 59, 60, 61, 62, 63, 64, 65, 66, 67, 68, 69, 70] (by decide +kernel) (by decide +kernel)
set_option maxRecDepth 20000 in
theorem gX5_ifBuilt_X5_hang : GoodIn wsX5_ifBuilt (wsV RX5 144 RX5 yX5_hang wsX5_hang) := goodIn_app (goodIn_of _ (by decide +kernel)) ggX5_ifBuilt_X5_hang
set_option maxRecDepth 20000 in
theorem ggX5_ifBuilt_X5_musts : GoodIn wsX5_ifBuilt wsX5_musts := goodIn_r _ [30, 7, 19, 20, 21, 5, 22, 23, 24, 25, 26, 58, 59, 60, 61, 62, 63, 64, 65, 66, 67, 68, 69, 70] (by decide +kernel) (by decide +kernel)
set_option maxRecDepth 20000 in
theorem gX5_ifBuilt_X5_musts : GoodIn wsX5_ifBuilt (wsV RX5 148 RX5 yX5_musts wsX5_musts) := goodIn_app (goodIn_of _ (by decide +kernel)) ggX5_ifBuilt_X5_musts
set_option maxRecDepth 20000 in
theorem ggX5_ifBuilt_X5_bits : GoodIn wsX5_ifBuilt wsX5_bits := goodIn_r _ [33] (by decide +kernel) (by decide +kernel)
set_option maxRecDepth 20000 in
theorem gX5_ifBuilt_X5_bits : GoodIn wsX5_ifBuilt (va_wsS RX5 58 yX5_bits wsX5_bits) := goodIn_app (goodIn_of _ (by decide +kernel)) ggX5_ifBuilt_X5_bits
set_option maxRecDepth 20000 in
theorem ggX5_ifBuilt_X5_districts : GoodIn wsX5_ifBuilt wsX5_districts := goodIn_r _ [37, 7, 38, 39, 40, 5, 41, 42, 43, 44, 45, 46, 47, 48, 49, 19, 20, 21, 22, 23, 24, 25, 26, 58, 59, 60, 61, 62, 63, 64, 65, 66, 67, 68, 69, 70] (by decide +kernel) (by decide +kernel)
set_option maxRecDepth 20000 in
theorem gX5_ifBuilt_X5_districts : GoodIn wsX5_ifBuilt (wsV RX5 107 RX5 yX5_districts wsX5_districts) := goodIn_app (goodIn_of _ (by decide +kernel)) ggX5_ifBuilt_X5_districts
set_option maxRecDepth 20000 in
theorem ggX5_ifBuilt_X5_pieces : GoodIn wsX5_ifBuilt wsX5_pieces := goodIn_r _ [53, 54, 55, 56, 5, 57, 7, 19, 20, 21, 22, 23, 24, 25, 26, 58, 59, 60, 61, 62, 63, 64, 65, 66, 67, 68, 69, 70] (by decide +kernel) (by decide +kernel)
set_option maxRecDepth 20000 in
theorem gX5_ifBuilt_X5_pieces : GoodIn wsX5_ifBuilt (wsV RX5 61 RX5 yX5_pieces wsX5_pieces) := goodIn_app (goodIn_of _ (by decide +kernel)) ggX5_ifBuilt_X5_pieces
set_option maxRecDepth 20000 in
theorem ggX5_bestBuilt_X5_in : GoodIn wsX5_bestBuilt wsX5_in := goodIn_r _ [7] (by decide +kernel) (by decide +kernel)
set_option maxRecDepth 20000 in
theorem gX5_bestBuilt_X5_in : GoodIn wsX5_bestBuilt (va_wsS RX5 38 yX5_in wsX5_in) := goodIn_app (goodIn_of _ (by decide +kernel)) ggX5_bestBuilt_X5_in
set_option maxRecDepth 20000 in
theorem ggX5_bestBuilt_X5_parting : GoodIn wsX5_bestBuilt wsX5_parting := goodIn_r _ [11, 3, 12, 13, 14, 6, 15, 16, 17, 18, 19, 20, 21, 22, 23, 39, 40, 41, 42, 43, 44, 45, 46, 47, 48, 49, 50, 51] (by decide +kernel) (by decide +kernel)
set_option maxRecDepth 20000 in
theorem gX5_bestBuilt_X5_parting : GoodIn wsX5_bestBuilt (wsV RX5 95 RX5 yX5_parting wsX5_parting) := goodIn_app (goodIn_of _ (by decide +kernel)) ggX5_bestBuilt_X5_parting
set_option maxRecDepth 20000 in
theorem ggX5_bestBuilt_X5_bits : GoodIn wsX5_bestBuilt wsX5_bits := goodIn_r _ [26] (by decide +kernel) (by decide +kernel)
set_option maxRecDepth 20000 in
theorem gX5_bestBuilt_X5_bits : GoodIn wsX5_bestBuilt (va_wsS RX5 58 yX5_bits wsX5_bits) := goodIn_app (goodIn_of _ (by decide +kernel)) ggX5_bestBuilt_X5_bits
set_option maxRecDepth 20000 in
theorem ggX5_bestBuilt_X5_hang : GoodIn wsX5_bestBuilt wsX5_hang := goodIn_r _ [30, 31, 32, 33, 6, 34, 16, 17, 18, 19, 3, 20, 21, 22, 23, 39, 40, 41, 42, 43, 44, 45, 46, 47, 48, 49, 50, 51] (by decide +kernel) (by decide +kernel)
set_option maxRecDepth 20000 in
theorem gX5_bestBuilt_X5_hang : GoodIn wsX5_bestBuilt (wsV RX5 144 RX5 yX5_hang wsX5_hang) := goodIn_app (goodIn_of _ (by decide +kernel)) ggX5_bestBuilt_X5_hang
set_option maxRecDepth 20000 in
theorem ggX5_bestBuilt_X5_musts : GoodIn wsX5_bestBuilt wsX5_musts := goodIn_r _ [38, 3, 16, 17, 18, 6, 19, 20, 21, 22, 23, 39, 40, 41, 42, 43, 44, 45, 46, 47, 48, 49, 50, 51] (by decide +kernel) (by decide +kernel)
set_option maxRecDepth 20000 in
theorem gX5_bestBuilt_X5_musts : GoodIn wsX5_bestBuilt (wsV RX5 148 RX5 yX5_musts wsX5_musts) := goodIn_app (goodIn_of _ (by decide +kernel)) ggX5_bestBuilt_X5_musts
set_option maxRecDepth 20000 in
theorem ggX5_worstLoss_X5_in : GoodIn wsX5_worstLoss wsX5_in := goodIn_r _ [5] (by decide +kernel) (by decide +kernel)
set_option maxRecDepth 20000 in
theorem gX5_worstLoss_X5_in : GoodIn wsX5_worstLoss (va_wsS RX5 38 yX5_in wsX5_in) := goodIn_app (goodIn_of _ (by decide +kernel)) ggX5_worstLoss_X5_in
set_option maxRecDepth 20000 in
theorem ggX5_worstLoss_X5_pairsLost : GoodIn wsX5_worstLoss wsX5_pairsLost := goodIn_r _ [9, 1, 10, 11, 12, 4, 13, 14, 15, 16, 17, 18, 19, 20, 21, 22, 23, 24, 25, 26, 27, 28, 29, 30, 31, 32, 33, 34, 35, 36, 37] (by decide +kernel) (by decide +kernel)
set_option maxRecDepth 20000 in
theorem gX5_worstLoss_X5_pairsLost : GoodIn wsX5_worstLoss (wsV RX5 119 RX5 yX5_pairsLost wsX5_pairsLost) := goodIn_app (goodIn_of _ (by decide +kernel)) ggX5_worstLoss_X5_pairsLost
set_option maxRecDepth 20000 in
theorem ggX5_needed_X5_isSquare : GoodIn wsX5_needed wsX5_isSquare := goodIn_r _ [5, 6, 7, 8, 4, 9, 46, 47, 48, 49, 50, 51, 52, 53, 54, 55, 56, 57, 58] (by decide +kernel) (by decide +kernel)
set_option maxRecDepth 20000 in
theorem gX5_needed_X5_isSquare : GoodIn wsX5_needed (wsV RX5 78 RX5 yX5_isSquare wsX5_isSquare) := goodIn_app (goodIn_of _ (by decide +kernel)) ggX5_needed_X5_isSquare
set_option maxRecDepth 20000 in
theorem ggX5_needed_X5_pieceOf : GoodIn wsX5_needed wsX5_pieceOf := goodIn_r _ [13, 14, 15, 16, 4, 17, 6, 18, 19, 20, 21, 46, 47, 48, 49, 50, 51, 52, 53, 54, 55, 56, 57, 58] (by decide +kernel) (by decide +kernel)
set_option maxRecDepth 20000 in
theorem gX5_needed_X5_pieceOf : GoodIn wsX5_needed (wsV RX5 65 RX5 yX5_pieceOf wsX5_pieceOf) := goodIn_app (goodIn_of _ (by decide +kernel)) ggX5_needed_X5_pieceOf
set_option maxRecDepth 20000 in
theorem ggX5_needed_X5_districts : GoodIn wsX5_needed wsX5_districts := goodIn_r _ [25, 6, 26, 27, 28, 4, 29, 30, 31, 32, 33, 34, 35, 36, 37, 14, 15, 16, 17, 18, 19, 20, 21, 46, 47, 48, 49, 50, 51, 52, 53, 54, 55, 56, 57, 58] (by decide +kernel) (by decide +kernel)
set_option maxRecDepth 20000 in
theorem gX5_needed_X5_districts : GoodIn wsX5_needed (wsV RX5 107 RX5 yX5_districts wsX5_districts) := goodIn_app (goodIn_of _ (by decide +kernel)) ggX5_needed_X5_districts
set_option maxRecDepth 20000 in
theorem ggX5_needed_X5_squaresOf : GoodIn wsX5_needed wsX5_squaresOf := goodIn_r _ [41, 6, 30, 31, 32, 4, 33, 34, 35, 36, 37, 14, 15, 16, 17, 18, 19, 20, 21, 46, 47, 48, 49, 50, 51, 52, 53, 54, 55, 56, 57, 58] (by decide +kernel) (by decide +kernel)
set_option maxRecDepth 20000 in
theorem gX5_needed_X5_squaresOf : GoodIn wsX5_needed (wsV RX5 110 RX5 yX5_squaresOf wsX5_squaresOf) := goodIn_app (goodIn_of _ (by decide +kernel)) ggX5_needed_X5_squaresOf
set_option maxRecDepth 20000 in
theorem ggX5_needed_X5_roadsOut : GoodIn wsX5_needed wsX5_roadsOut := goodIn_r _ [45, 6, 18, 19, 20, 4, 21, 46, 47, 48, 49, 50, 51, 52, 53, 54, 55, 56, 57, 58] (by decide +kernel) (by decide +kernel)
set_option maxRecDepth 20000 in
theorem gX5_needed_X5_roadsOut : GoodIn wsX5_needed (wsV RX5 122 RX5 yX5_roadsOut wsX5_roadsOut) := goodIn_app (goodIn_of _ (by decide +kernel)) ggX5_needed_X5_roadsOut
set_option maxRecDepth 20000 in
theorem ggX5_put_X5_in : GoodIn wsX5_put wsX5_in := goodIn_r _ [9] (by decide +kernel) (by decide +kernel)
set_option maxRecDepth 20000 in
theorem gX5_put_X5_in : GoodIn wsX5_put (va_wsS RX5 38 yX5_in wsX5_in) := goodIn_app (goodIn_of _ (by decide +kernel)) ggX5_put_X5_in
set_option maxRecDepth 20000 in
theorem ggX5_isHere_X5_in : GoodIn wsX5_isHere wsX5_in := goodIn_r _ [7] (by decide +kernel) (by decide +kernel)
set_option maxRecDepth 20000 in
theorem gX5_isHere_X5_in : GoodIn wsX5_isHere (va_wsS RX5 38 yX5_in wsX5_in) := goodIn_app (goodIn_of _ (by decide +kernel)) ggX5_isHere_X5_in
set_option maxRecDepth 20000 in
theorem ggX5_takes_X5_isHere : GoodIn wsX5_takes wsX5_isHere := goodIn_r _ [6, 1, 7, 8, 9, 10, 5, 11, 12, 13, 14, 15, 16, 17, 18, 19, 20, 21, 22, 23, 24] (by decide +kernel) (by decide +kernel)
set_option maxRecDepth 20000 in
theorem gX5_takes_X5_isHere : GoodIn wsX5_takes (wsV RX5 160 RX5 yX5_isHere wsX5_isHere) := goodIn_app (goodIn_of _ (by decide +kernel)) ggX5_takes_X5_isHere
set_option maxRecDepth 20000 in
theorem ggX5_readsNumber_X5_isHere : GoodIn wsX5_readsNumber wsX5_isHere := goodIn_r _ [8, 2, 9, 1, 10, 11, 7, 12, 13, 14, 15, 16, 17, 18, 19, 20, 21, 22, 23, 24, 25] (by decide +kernel) (by decide +kernel)
set_option maxRecDepth 20000 in
theorem gX5_readsNumber_X5_isHere : GoodIn wsX5_readsNumber (wsV RX5 160 RX5 yX5_isHere wsX5_isHere) := goodIn_app (goodIn_of _ (by decide +kernel)) ggX5_readsNumber_X5_isHere
set_option maxRecDepth 20000 in
theorem ggX5_readsRoad_X5_readsNumber : GoodIn wsX5_readsRoad wsX5_readsNumber := goodIn_r _ [8, 9, 10, 1, 11, 12, 13, 7, 14, 15, 16, 17, 18, 23, 24, 25, 26, 27, 28, 29, 30, 31, 32, 33, 34, 35] (by decide +kernel) (by decide +kernel)
set_option maxRecDepth 20000 in
theorem gX5_readsRoad_X5_readsNumber : GoodIn wsX5_readsRoad (wsV RX5 166 RX5 yX5_readsNumber wsX5_readsNumber) := goodIn_app (goodIn_of _ (by decide +kernel)) ggX5_readsRoad_X5_readsNumber
set_option maxRecDepth 20000 in
theorem ggX5_readsRoad_X5_takes : GoodIn wsX5_readsRoad wsX5_takes := goodIn_r _ [22, 10, 11, 12, 13, 7, 14, 15, 9, 16, 17, 18, 23, 24, 25, 26, 27, 28, 29, 30, 31, 32, 33, 34, 35] (by decide +kernel) (by decide +kernel)
set_option maxRecDepth 20000 in
theorem gX5_readsRoad_X5_takes : GoodIn wsX5_readsRoad (wsV RX5 169 RX5 yX5_takes wsX5_takes) := goodIn_app (goodIn_of _ (by decide +kernel)) ggX5_readsRoad_X5_takes
set_option maxRecDepth 20000 in
theorem ggX5_fault_X5_readsRoad : GoodIn wsX5_fault wsX5_readsRoad := goodIn_r _ [8, 9, 10, 2, 11, 12, 13, 7, 14, 15, 1, 16, 17, 18, 19, 3, 20, 21, 22, 23, 24, 25, 26, 27, 28, 29, 30, 31, 32, 33, 34, 35, 36, 37, 38, 39] (by decide +kernel) (by decide +kernel)
set_option maxRecDepth 20000 in
theorem gX5_fault_X5_readsRoad : GoodIn wsX5_fault (wsV RX5 175 RX5 yX5_readsRoad wsX5_readsRoad) := goodIn_app (goodIn_of _ (by decide +kernel)) ggX5_fault_X5_readsRoad
set_option maxRecDepth 20000 in
theorem ggX5_fault_X5_takes : GoodIn wsX5_fault wsX5_takes := goodIn_r _ [26, 1, 16, 17, 18, 7, 19, 3, 15, 20, 21, 22, 27, 28, 29, 30, 31, 32, 33, 34, 35, 36, 37, 38, 39] (by decide +kernel) (by decide +kernel)
set_option maxRecDepth 20000 in
theorem gX5_fault_X5_takes : GoodIn wsX5_fault (wsV RX5 169 RX5 yX5_takes wsX5_takes) := goodIn_app (goodIn_of _ (by decide +kernel)) ggX5_fault_X5_takes
set_option maxRecDepth 20000 in
theorem ggX5_haveAllSquares_X5_isSquare : GoodIn wsX5_haveAllSquares wsX5_isSquare := goodIn_r _ [7, 8, 9, 10, 6, 11, 12, 13, 14, 15, 16, 17, 18, 19, 20, 21, 22, 23, 24] (by decide +kernel) (by decide +kernel)
set_option maxRecDepth 20000 in
theorem gX5_haveAllSquares_X5_isSquare : GoodIn wsX5_haveAllSquares (wsV RX5 78 RX5 yX5_isSquare wsX5_isSquare) := goodIn_app (goodIn_of _ (by decide +kernel)) ggX5_haveAllSquares_X5_isSquare
set_option maxRecDepth 20000 in
theorem ggX5_read_X5_fault : GoodIn wsX5_read wsX5_fault := goodIn_r _ [9, 10, 2, 4, 11, 12, 13, 8, 14, 15, 3, 16, 17, 18, 19, 20, 21, 22, 23, 24, 25, 26, 27, 28, 29, 30, 31, 59, 60, 61, 62, 63, 64, 65, 66, 67, 68, 69, 70, 71] (by decide +kernel) (by decide +kernel)
set_option maxRecDepth 20000 in
theorem gX5_read_X5_fault : GoodIn wsX5_read (wsV RX5 179 RX5 yX5_fault wsX5_fault) := goodIn_app (goodIn_of _ (by decide +kernel)) ggX5_read_X5_fault
set_option maxRecDepth 20000 in
theorem ggX5_read_X5_haveAllSquares : GoodIn wsX5_read wsX5_haveAllSquares := goodIn_r _ [35, 2, 3, 36, 37, 38, 8, 39, 1, 25, 26, 27, 59, 60, 61, 62, 63, 64, 65, 66, 67, 68, 69, 70, 71] (by decide +kernel) (by decide +kernel)
set_option maxRecDepth 20000 in
theorem gX5_read_X5_haveAllSquares : GoodIn wsX5_read (wsV RX5 182 RX5 yX5_haveAllSquares wsX5_haveAllSquares) := goodIn_app (goodIn_of _ (by decide +kernel)) ggX5_read_X5_haveAllSquares
set_option maxRecDepth 20000 in
theorem ggX5_read_X5_areDifferent : GoodIn wsX5_read wsX5_areDifferent := goodIn_r _ [43, 2, 3, 59, 60, 61, 62, 63, 64, 65, 66, 67, 68, 69, 70, 71] (by decide +kernel) (by decide +kernel)
set_option maxRecDepth 20000 in
theorem gX5_read_X5_areDifferent : GoodIn wsX5_read (wsV RX5 185 RX5 yX5_areDifferent wsX5_areDifferent) := goodIn_app (goodIn_of _ (by decide +kernel)) ggX5_read_X5_areDifferent
set_option maxRecDepth 20000 in
theorem ggX5_read_X5_keep : GoodIn wsX5_read wsX5_keep := goodIn_r _ [47, 48, 1, 59, 60, 61, 62, 63, 64, 65, 66, 67, 68, 69, 70, 71] (by decide +kernel) (by decide +kernel)
set_option maxRecDepth 20000 in
theorem gX5_read_X5_keep : GoodIn wsX5_read (wsV RX5 72 RX5 yX5_keep wsX5_keep) := goodIn_app (goodIn_of _ (by decide +kernel)) ggX5_read_X5_keep
set_option maxRecDepth 20000 in
theorem ggX5_read_X5_adds : GoodIn wsX5_read wsX5_adds := goodIn_r _ [52, 1, 59, 60, 61, 62, 63, 64, 65, 66, 67, 68, 69, 70, 71] (by decide +kernel) (by decide +kernel)
set_option maxRecDepth 20000 in
theorem gX5_read_X5_adds : GoodIn wsX5_read (wsV RX5 83 RX5 yX5_adds wsX5_adds) := goodIn_app (goodIn_of _ (by decide +kernel)) ggX5_read_X5_adds
set_option maxRecDepth 20000 in
theorem ggX5_read_X5_changed : GoodIn wsX5_read wsX5_changed := goodIn_r _ [56, 57, 58, 48, 59, 60, 61, 62, 63, 64, 65, 66, 67, 68, 69, 70, 71] (by decide +kernel) (by decide +kernel)
set_option maxRecDepth 20000 in
theorem gX5_read_X5_changed : GoodIn wsX5_read (wsV RX5 75 RX5 yX5_changed wsX5_changed) := goodIn_app (goodIn_of _ (by decide +kernel)) ggX5_read_X5_changed
set_option maxRecDepth 20000 in
theorem ggX5_save_X5_in : GoodIn wsX5_save wsX5_in := goodIn_r _ [7] (by decide +kernel) (by decide +kernel)
set_option maxRecDepth 20000 in
theorem gX5_save_X5_in : GoodIn wsX5_save (va_wsS RX5 38 yX5_in wsX5_in) := goodIn_app (goodIn_of _ (by decide +kernel)) ggX5_save_X5_in
set_option maxRecDepth 20000 in
theorem ggX5_restore_X5_in : GoodIn wsX5_restore wsX5_in := goodIn_r _ [7] (by decide +kernel) (by decide +kernel)
set_option maxRecDepth 20000 in
theorem gX5_restore_X5_in : GoodIn wsX5_restore (va_wsS RX5 38 yX5_in wsX5_in) := goodIn_app (goodIn_of _ (by decide +kernel)) ggX5_restore_X5_in
set_option maxRecDepth 20000 in
theorem ggX5_restore_X5_keep : GoodIn wsX5_restore wsX5_keep := goodIn_r _ [11, 12, 2, 19, 20, 21, 22, 23, 24, 25, 26, 27, 28, 29, 30, 31] (by decide +kernel) (by decide +kernel)
set_option maxRecDepth 20000 in
theorem gX5_restore_X5_keep : GoodIn wsX5_restore (wsV RX5 72 RX5 yX5_keep wsX5_keep) := goodIn_app (goodIn_of _ (by decide +kernel)) ggX5_restore_X5_keep
set_option maxRecDepth 20000 in
theorem ggX5_restore_X5_changed : GoodIn wsX5_restore wsX5_changed := goodIn_r _ [16, 17, 18, 12, 19, 20, 21, 22, 23, 24, 25, 26, 27, 28, 29, 30, 31] (by decide +kernel) (by decide +kernel)
set_option maxRecDepth 20000 in
theorem gX5_restore_X5_changed : GoodIn wsX5_restore (wsV RX5 75 RX5 yX5_changed wsX5_changed) := goodIn_app (goodIn_of _ (by decide +kernel)) ggX5_restore_X5_changed
abbrev vwCl : List vw_C := [(RX0, TX0, 2), (RX1, TX1, 5), (RX2, TX2, 9), (RX3, TX3, 6), (RX4, TX4, 6), (RX5, TX5, 13)]
end
section
theorem dX0_init_0 : decode cX0_init 0 = .ok (.aload_n 0, 1) := by decide +kernel
theorem dX0_init_1 : decode cX0_init 1 = .ok (.invokespecial 3, 3) := by decide +kernel
theorem dX0_init_4 : decode cX0_init 4 = .ok (.aload_n 0, 1) := by decide +kernel
theorem dX0_init_5 : decode cX0_init 5 = .ok (.bipush 6, 2) := by decide +kernel
theorem dX0_init_7 : decode cX0_init 7 = .ok (.anewarray 9, 3) := by decide +kernel
theorem dX0_init_10 : decode cX0_init 10 = .ok (.putfield 11, 3) := by decide +kernel
theorem dX0_init_13 : decode cX0_init 13 = .ok (.aload_n 0, 1) := by decide +kernel
theorem dX0_init_14 : decode cX0_init 14 = .ok (.iconst 0, 1) := by decide +kernel
theorem dX0_init_15 : decode cX0_init 15 = .ok (.putfield 17, 3) := by decide +kernel
theorem dX0_init_18 : decode cX0_init 18 = .ok (.iconst 0, 1) := by decide +kernel
theorem dX0_init_19 : decode cX0_init 19 = .ok (.istore_n 1, 1) := by decide +kernel
theorem dX0_init_20 : decode cX0_init 20 = .ok (.iload_n 1, 1) := by decide +kernel
theorem dX0_init_21 : decode cX0_init 21 = .ok (.bipush 6, 2) := by decide +kernel
theorem dX0_init_23 : decode cX0_init 23 = .ok (.if_icmp .ge 22, 3) := by decide +kernel
theorem dX0_init_26 : decode cX0_init 26 = .ok (.aload_n 0, 1) := by decide +kernel
theorem dX0_init_27 : decode cX0_init 27 = .ok (.getfield 11, 3) := by decide +kernel
theorem dX0_init_30 : decode cX0_init 30 = .ok (.iload_n 1, 1) := by decide +kernel
theorem dX0_init_31 : decode cX0_init 31 = .ok (.new 9, 3) := by decide +kernel
theorem dX0_init_34 : decode cX0_init 34 = .ok (.dup, 1) := by decide +kernel
theorem dX0_init_35 : decode cX0_init 35 = .ok (.invokespecial 21, 3) := by decide +kernel
theorem dX0_init_38 : decode cX0_init 38 = .ok (.aastore, 1) := by decide +kernel
theorem dX0_init_39 : decode cX0_init 39 = .ok (.iinc 1 1, 3) := by decide +kernel
theorem dX0_init_42 : decode cX0_init 42 = .ok (.goto (-22), 3) := by decide +kernel
theorem dX0_init_45 : decode cX0_init 45 = .ok (.return_, 1) := by decide +kernel
theorem dX0_record_0 : decode cX0_record 0 = .ok (.aload_n 0, 1) := by decide +kernel
theorem dX0_record_1 : decode cX0_record 1 = .ok (.getfield 17, 3) := by decide +kernel
theorem dX0_record_4 : decode cX0_record 4 = .ok (.bipush 6, 2) := by decide +kernel
theorem dX0_record_6 : decode cX0_record 6 = .ok (.if_icmp .lt 7, 3) := by decide +kernel
theorem dX0_record_9 : decode cX0_record 9 = .ok (.aload_n 0, 1) := by decide +kernel
theorem dX0_record_10 : decode cX0_record 10 = .ok (.invokevirtual 22, 3) := by decide +kernel
theorem dX0_record_13 : decode cX0_record 13 = .ok (.aload_n 0, 1) := by decide +kernel
theorem dX0_record_14 : decode cX0_record 14 = .ok (.getfield 11, 3) := by decide +kernel
theorem dX0_record_17 : decode cX0_record 17 = .ok (.aload_n 0, 1) := by decide +kernel
theorem dX0_record_18 : decode cX0_record 18 = .ok (.getfield 17, 3) := by decide +kernel
theorem dX0_record_21 : decode cX0_record 21 = .ok (.aaload, 1) := by decide +kernel
theorem dX0_record_22 : decode cX0_record 22 = .ok (.aload_n 1, 1) := by decide +kernel
theorem dX0_record_23 : decode cX0_record 23 = .ok (.invokevirtual 25, 3) := by decide +kernel
theorem dX0_record_26 : decode cX0_record 26 = .ok (.aload_n 0, 1) := by decide +kernel
theorem dX0_record_27 : decode cX0_record 27 = .ok (.dup, 1) := by decide +kernel
theorem dX0_record_28 : decode cX0_record 28 = .ok (.getfield 17, 3) := by decide +kernel
theorem dX0_record_31 : decode cX0_record 31 = .ok (.iconst 1, 1) := by decide +kernel
theorem dX0_record_32 : decode cX0_record 32 = .ok (.iadd, 1) := by decide +kernel
theorem dX0_record_33 : decode cX0_record 33 = .ok (.putfield 17, 3) := by decide +kernel
theorem dX0_record_36 : decode cX0_record 36 = .ok (.return_, 1) := by decide +kernel
theorem dX0_dropOldest_0 : decode cX0_dropOldest 0 = .ok (.aload_n 0, 1) := by decide +kernel
theorem dX0_dropOldest_1 : decode cX0_dropOldest 1 = .ok (.getfield 11, 3) := by decide +kernel
theorem dX0_dropOldest_4 : decode cX0_dropOldest 4 = .ok (.iconst 0, 1) := by decide +kernel
theorem dX0_dropOldest_5 : decode cX0_dropOldest 5 = .ok (.aaload, 1) := by decide +kernel
theorem dX0_dropOldest_6 : decode cX0_dropOldest 6 = .ok (.astore_n 1, 1) := by decide +kernel
theorem dX0_dropOldest_7 : decode cX0_dropOldest 7 = .ok (.iconst 1, 1) := by decide +kernel
theorem dX0_dropOldest_8 : decode cX0_dropOldest 8 = .ok (.istore_n 2, 1) := by decide +kernel
theorem dX0_dropOldest_9 : decode cX0_dropOldest 9 = .ok (.iload_n 2, 1) := by decide +kernel
theorem dX0_dropOldest_10 : decode cX0_dropOldest 10 = .ok (.bipush 6, 2) := by decide +kernel
theorem dX0_dropOldest_12 : decode cX0_dropOldest 12 = .ok (.if_icmp .ge 23, 3) := by decide +kernel
theorem dX0_dropOldest_15 : decode cX0_dropOldest 15 = .ok (.aload_n 0, 1) := by decide +kernel
theorem dX0_dropOldest_16 : decode cX0_dropOldest 16 = .ok (.getfield 11, 3) := by decide +kernel
theorem dX0_dropOldest_19 : decode cX0_dropOldest 19 = .ok (.iload_n 2, 1) := by decide +kernel
theorem dX0_dropOldest_20 : decode cX0_dropOldest 20 = .ok (.iconst 1, 1) := by decide +kernel
theorem dX0_dropOldest_21 : decode cX0_dropOldest 21 = .ok (.isub, 1) := by decide +kernel
theorem dX0_dropOldest_22 : decode cX0_dropOldest 22 = .ok (.aload_n 0, 1) := by decide +kernel
theorem dX0_dropOldest_23 : decode cX0_dropOldest 23 = .ok (.getfield 11, 3) := by decide +kernel
theorem dX0_dropOldest_26 : decode cX0_dropOldest 26 = .ok (.iload_n 2, 1) := by decide +kernel
theorem dX0_dropOldest_27 : decode cX0_dropOldest 27 = .ok (.aaload, 1) := by decide +kernel
theorem dX0_dropOldest_28 : decode cX0_dropOldest 28 = .ok (.aastore, 1) := by decide +kernel
theorem dX0_dropOldest_29 : decode cX0_dropOldest 29 = .ok (.iinc 2 1, 3) := by decide +kernel
theorem dX0_dropOldest_32 : decode cX0_dropOldest 32 = .ok (.goto (-23), 3) := by decide +kernel
theorem dX0_dropOldest_35 : decode cX0_dropOldest 35 = .ok (.aload_n 0, 1) := by decide +kernel
theorem dX0_dropOldest_36 : decode cX0_dropOldest 36 = .ok (.getfield 11, 3) := by decide +kernel
theorem dX0_dropOldest_39 : decode cX0_dropOldest 39 = .ok (.iconst 5, 1) := by decide +kernel
theorem dX0_dropOldest_40 : decode cX0_dropOldest 40 = .ok (.aload_n 1, 1) := by decide +kernel
theorem dX0_dropOldest_41 : decode cX0_dropOldest 41 = .ok (.aastore, 1) := by decide +kernel
theorem dX0_dropOldest_42 : decode cX0_dropOldest 42 = .ok (.aload_n 0, 1) := by decide +kernel
theorem dX0_dropOldest_43 : decode cX0_dropOldest 43 = .ok (.iconst 5, 1) := by decide +kernel
theorem dX0_dropOldest_44 : decode cX0_dropOldest 44 = .ok (.putfield 17, 3) := by decide +kernel
theorem dX0_dropOldest_47 : decode cX0_dropOldest 47 = .ok (.return_, 1) := by decide +kernel
theorem dX0_takeBack_0 : decode cX0_takeBack 0 = .ok (.aload_n 0, 1) := by decide +kernel
theorem dX0_takeBack_1 : decode cX0_takeBack 1 = .ok (.getfield 17, 3) := by decide +kernel
theorem dX0_takeBack_4 : decode cX0_takeBack 4 = .ok (.ifCond .le 26, 3) := by decide +kernel
theorem dX0_takeBack_7 : decode cX0_takeBack 7 = .ok (.aload_n 0, 1) := by decide +kernel
theorem dX0_takeBack_8 : decode cX0_takeBack 8 = .ok (.dup, 1) := by decide +kernel
theorem dX0_takeBack_9 : decode cX0_takeBack 9 = .ok (.getfield 17, 3) := by decide +kernel
theorem dX0_takeBack_12 : decode cX0_takeBack 12 = .ok (.iconst 1, 1) := by decide +kernel
theorem dX0_takeBack_13 : decode cX0_takeBack 13 = .ok (.isub, 1) := by decide +kernel
theorem dX0_takeBack_14 : decode cX0_takeBack 14 = .ok (.putfield 17, 3) := by decide +kernel
theorem dX0_takeBack_17 : decode cX0_takeBack 17 = .ok (.aload_n 1, 1) := by decide +kernel
theorem dX0_takeBack_18 : decode cX0_takeBack 18 = .ok (.aload_n 0, 1) := by decide +kernel
theorem dX0_takeBack_19 : decode cX0_takeBack 19 = .ok (.getfield 11, 3) := by decide +kernel
theorem dX0_takeBack_22 : decode cX0_takeBack 22 = .ok (.aload_n 0, 1) := by decide +kernel
theorem dX0_takeBack_23 : decode cX0_takeBack 23 = .ok (.getfield 17, 3) := by decide +kernel
theorem dX0_takeBack_26 : decode cX0_takeBack 26 = .ok (.aaload, 1) := by decide +kernel
theorem dX0_takeBack_27 : decode cX0_takeBack 27 = .ok (.invokevirtual 25, 3) := by decide +kernel
theorem dX0_takeBack_30 : decode cX0_takeBack 30 = .ok (.return_, 1) := by decide +kernel
theorem dX1_init_0 : decode cX1_init 0 = .ok (.aload_n 0, 1) := by decide +kernel
theorem dX1_init_1 : decode cX1_init 1 = .ok (.invokespecial 3, 3) := by decide +kernel
theorem dX1_init_4 : decode cX1_init 4 = .ok (.aload_n 0, 1) := by decide +kernel
theorem dX1_init_5 : decode cX1_init 5 = .ok (.bipush 80, 2) := by decide +kernel
theorem dX1_init_7 : decode cX1_init 7 = .ok (.newarray .char, 2) := by decide +kernel
theorem dX1_init_9 : decode cX1_init 9 = .ok (.putfield 9, 3) := by decide +kernel
theorem dX1_init_12 : decode cX1_init 12 = .ok (.aload_n 0, 1) := by decide +kernel
theorem dX1_init_13 : decode cX1_init 13 = .ok (.iconst 0, 1) := by decide +kernel
theorem dX1_init_14 : decode cX1_init 14 = .ok (.putfield 15, 3) := by decide +kernel
theorem dX1_init_17 : decode cX1_init 17 = .ok (.aload_n 0, 1) := by decide +kernel
theorem dX1_init_18 : decode cX1_init 18 = .ok (.bipush 80, 2) := by decide +kernel
theorem dX1_init_20 : decode cX1_init 20 = .ok (.newarray .int, 2) := by decide +kernel
theorem dX1_init_22 : decode cX1_init 22 = .ok (.putfield 19, 3) := by decide +kernel
theorem dX1_init_25 : decode cX1_init 25 = .ok (.aload_n 0, 1) := by decide +kernel
theorem dX1_init_26 : decode cX1_init 26 = .ok (.iconst 0, 1) := by decide +kernel
theorem dX1_init_27 : decode cX1_init 27 = .ok (.putfield 23, 3) := by decide +kernel
theorem dX1_init_30 : decode cX1_init 30 = .ok (.aload_n 0, 1) := by decide +kernel
theorem dX1_init_31 : decode cX1_init 31 = .ok (.iconst (-1), 1) := by decide +kernel
theorem dX1_init_32 : decode cX1_init 32 = .ok (.putfield 26, 3) := by decide +kernel
theorem dX1_init_35 : decode cX1_init 35 = .ok (.return_, 1) := by decide +kernel
theorem dX1_append_0 : decode cX1_append 0 = .ok (.iload_n 3, 1) := by decide +kernel
theorem dX1_append_1 : decode cX1_append 1 = .ok (.iconst 1, 1) := by decide +kernel
theorem dX1_append_2 : decode cX1_append 2 = .ok (.isub, 1) := by decide +kernel
theorem dX1_append_3 : decode cX1_append 3 = .ok (.istore 4, 2) := by decide +kernel
theorem dX1_append_5 : decode cX1_append 5 = .ok (.iload 4, 2) := by decide +kernel
theorem dX1_append_7 : decode cX1_append 7 = .ok (.ifCond .lt 50, 3) := by decide +kernel
theorem dX1_append_10 : decode cX1_append 10 = .ok (.aload_n 0, 1) := by decide +kernel
theorem dX1_append_11 : decode cX1_append 11 = .ok (.getfield 15, 3) := by decide +kernel
theorem dX1_append_14 : decode cX1_append 14 = .ok (.bipush 80, 2) := by decide +kernel
theorem dX1_append_16 : decode cX1_append 16 = .ok (.if_icmp .ge 41, 3) := by decide +kernel
theorem dX1_append_19 : decode cX1_append 19 = .ok (.aload_n 0, 1) := by decide +kernel
theorem dX1_append_20 : decode cX1_append 20 = .ok (.getfield 9, 3) := by decide +kernel
theorem dX1_append_23 : decode cX1_append 23 = .ok (.aload_n 0, 1) := by decide +kernel
theorem dX1_append_24 : decode cX1_append 24 = .ok (.getfield 15, 3) := by decide +kernel
theorem dX1_append_27 : decode cX1_append 27 = .ok (.lload_n 1, 1) := by decide +kernel
theorem dX1_append_28 : decode cX1_append 28 = .ok (.bipush 8, 2) := by decide +kernel
theorem dX1_append_30 : decode cX1_append 30 = .ok (.iload 4, 2) := by decide +kernel
theorem dX1_append_32 : decode cX1_append 32 = .ok (.imul, 1) := by decide +kernel
theorem dX1_append_33 : decode cX1_append 33 = .ok (.lushr, 1) := by decide +kernel
theorem dX1_append_34 : decode cX1_append 34 = .ok (.ldc2_w 29, 3) := by decide +kernel
theorem dX1_append_37 : decode cX1_append 37 = .ok (.land, 1) := by decide +kernel
theorem dX1_append_38 : decode cX1_append 38 = .ok (.l2i, 1) := by decide +kernel
theorem dX1_append_39 : decode cX1_append 39 = .ok (.i2c, 1) := by decide +kernel
theorem dX1_append_40 : decode cX1_append 40 = .ok (.castore, 1) := by decide +kernel
theorem dX1_append_41 : decode cX1_append 41 = .ok (.aload_n 0, 1) := by decide +kernel
theorem dX1_append_42 : decode cX1_append 42 = .ok (.dup, 1) := by decide +kernel
theorem dX1_append_43 : decode cX1_append 43 = .ok (.getfield 15, 3) := by decide +kernel
theorem dX1_append_46 : decode cX1_append 46 = .ok (.iconst 1, 1) := by decide +kernel
theorem dX1_append_47 : decode cX1_append 47 = .ok (.iadd, 1) := by decide +kernel
theorem dX1_append_48 : decode cX1_append 48 = .ok (.putfield 15, 3) := by decide +kernel
theorem dX1_append_51 : decode cX1_append 51 = .ok (.iinc 4 (-1), 3) := by decide +kernel
theorem dX1_append_54 : decode cX1_append 54 = .ok (.goto (-49), 3) := by decide +kernel
theorem dX1_append_57 : decode cX1_append 57 = .ok (.return_, 1) := by decide +kernel
theorem dX1_parsedRoads_0 : decode cX1_parsedRoads 0 = .ok (.aload_n 0, 1) := by decide +kernel
theorem dX1_parsedRoads_1 : decode cX1_parsedRoads 1 = .ok (.getfield 23, 3) := by decide +kernel
theorem dX1_parsedRoads_4 : decode cX1_parsedRoads 4 = .ok (.iconst 3, 1) := by decide +kernel
theorem dX1_parsedRoads_5 : decode cX1_parsedRoads 5 = .ok (.idiv, 1) := by decide +kernel
theorem dX1_parsedRoads_6 : decode cX1_parsedRoads 6 = .ok (.ireturn, 1) := by decide +kernel
theorem dX1_parsedOne_0 : decode cX1_parsedOne 0 = .ok (.aload_n 0, 1) := by decide +kernel
theorem dX1_parsedOne_1 : decode cX1_parsedOne 1 = .ok (.getfield 19, 3) := by decide +kernel
theorem dX1_parsedOne_4 : decode cX1_parsedOne 4 = .ok (.iconst 3, 1) := by decide +kernel
theorem dX1_parsedOne_5 : decode cX1_parsedOne 5 = .ok (.iload_n 1, 1) := by decide +kernel
theorem dX1_parsedOne_6 : decode cX1_parsedOne 6 = .ok (.imul, 1) := by decide +kernel
theorem dX1_parsedOne_7 : decode cX1_parsedOne 7 = .ok (.iaload, 1) := by decide +kernel
theorem dX1_parsedOne_8 : decode cX1_parsedOne 8 = .ok (.ireturn, 1) := by decide +kernel
theorem dX1_parsedOther_0 : decode cX1_parsedOther 0 = .ok (.aload_n 0, 1) := by decide +kernel
theorem dX1_parsedOther_1 : decode cX1_parsedOther 1 = .ok (.getfield 19, 3) := by decide +kernel
theorem dX1_parsedOther_4 : decode cX1_parsedOther 4 = .ok (.iconst 3, 1) := by decide +kernel
theorem dX1_parsedOther_5 : decode cX1_parsedOther 5 = .ok (.iload_n 1, 1) := by decide +kernel
theorem dX1_parsedOther_6 : decode cX1_parsedOther 6 = .ok (.imul, 1) := by decide +kernel
theorem dX1_parsedOther_7 : decode cX1_parsedOther 7 = .ok (.iconst 1, 1) := by decide +kernel
theorem dX1_parsedOther_8 : decode cX1_parsedOther 8 = .ok (.iadd, 1) := by decide +kernel
theorem dX1_parsedOther_9 : decode cX1_parsedOther 9 = .ok (.iaload, 1) := by decide +kernel
theorem dX1_parsedOther_10 : decode cX1_parsedOther 10 = .ok (.ireturn, 1) := by decide +kernel
theorem dX1_parsedLength_0 : decode cX1_parsedLength 0 = .ok (.aload_n 0, 1) := by decide +kernel
theorem dX1_parsedLength_1 : decode cX1_parsedLength 1 = .ok (.getfield 19, 3) := by decide +kernel
theorem dX1_parsedLength_4 : decode cX1_parsedLength 4 = .ok (.iconst 3, 1) := by decide +kernel
theorem dX1_parsedLength_5 : decode cX1_parsedLength 5 = .ok (.iload_n 1, 1) := by decide +kernel
theorem dX1_parsedLength_6 : decode cX1_parsedLength 6 = .ok (.imul, 1) := by decide +kernel
theorem dX1_parsedLength_7 : decode cX1_parsedLength 7 = .ok (.iconst 2, 1) := by decide +kernel
theorem dX1_parsedLength_8 : decode cX1_parsedLength 8 = .ok (.iadd, 1) := by decide +kernel
theorem dX1_parsedLength_9 : decode cX1_parsedLength 9 = .ok (.iaload, 1) := by decide +kernel
theorem dX1_parsedLength_10 : decode cX1_parsedLength 10 = .ok (.ireturn, 1) := by decide +kernel
theorem dX1_parse_0 : decode cX1_parse 0 = .ok (.aload_n 0, 1) := by decide +kernel
theorem dX1_parse_1 : decode cX1_parse 1 = .ok (.iconst 0, 1) := by decide +kernel
theorem dX1_parse_2 : decode cX1_parse 2 = .ok (.putfield 23, 3) := by decide +kernel
theorem dX1_parse_5 : decode cX1_parse 5 = .ok (.aload_n 0, 1) := by decide +kernel
theorem dX1_parse_6 : decode cX1_parse 6 = .ok (.iconst (-1), 1) := by decide +kernel
theorem dX1_parse_7 : decode cX1_parse 7 = .ok (.putfield 26, 3) := by decide +kernel
theorem dX1_parse_10 : decode cX1_parse 10 = .ok (.iconst 0, 1) := by decide +kernel
theorem dX1_parse_11 : decode cX1_parse 11 = .ok (.istore_n 1, 1) := by decide +kernel
theorem dX1_parse_12 : decode cX1_parse 12 = .ok (.iload_n 1, 1) := by decide +kernel
theorem dX1_parse_13 : decode cX1_parse 13 = .ok (.aload_n 0, 1) := by decide +kernel
theorem dX1_parse_14 : decode cX1_parse 14 = .ok (.getfield 15, 3) := by decide +kernel
theorem dX1_parse_17 : decode cX1_parse 17 = .ok (.if_icmp .ge 24, 3) := by decide +kernel
theorem dX1_parse_20 : decode cX1_parse 20 = .ok (.aload_n 0, 1) := by decide +kernel
theorem dX1_parse_21 : decode cX1_parse 21 = .ok (.aload_n 0, 1) := by decide +kernel
theorem dX1_parse_22 : decode cX1_parse 22 = .ok (.getfield 9, 3) := by decide +kernel
theorem dX1_parse_25 : decode cX1_parse 25 = .ok (.iload_n 1, 1) := by decide +kernel
theorem dX1_parse_26 : decode cX1_parse 26 = .ok (.caload, 1) := by decide +kernel
theorem dX1_parse_27 : decode cX1_parse 27 = .ok (.invokevirtual 31, 3) := by decide +kernel
theorem dX1_parse_30 : decode cX1_parse 30 = .ok (.ifCond .ne 5, 3) := by decide +kernel
theorem dX1_parse_33 : decode cX1_parse 33 = .ok (.iload_n 1, 1) := by decide +kernel
theorem dX1_parse_34 : decode cX1_parse 34 = .ok (.ireturn, 1) := by decide +kernel
theorem dX1_parse_35 : decode cX1_parse 35 = .ok (.iinc 1 1, 3) := by decide +kernel
theorem dX1_parse_38 : decode cX1_parse 38 = .ok (.goto (-26), 3) := by decide +kernel
theorem dX1_parse_41 : decode cX1_parse 41 = .ok (.aload_n 0, 1) := by decide +kernel
theorem dX1_parse_42 : decode cX1_parse 42 = .ok (.invokevirtual 35, 3) := by decide +kernel
theorem dX1_parse_45 : decode cX1_parse 45 = .ok (.ifCond .eq 11, 3) := by decide +kernel
theorem dX1_parse_48 : decode cX1_parse 48 = .ok (.aload_n 0, 1) := by decide +kernel
theorem dX1_parse_49 : decode cX1_parse 49 = .ok (.getfield 26, 3) := by decide +kernel
theorem dX1_parse_52 : decode cX1_parse 52 = .ok (.iconst (-1), 1) := by decide +kernel
theorem dX1_parse_53 : decode cX1_parse 53 = .ok (.if_icmp .ne 8, 3) := by decide +kernel
theorem dX1_parse_56 : decode cX1_parse 56 = .ok (.aload_n 0, 1) := by decide +kernel
theorem dX1_parse_57 : decode cX1_parse 57 = .ok (.getfield 15, 3) := by decide +kernel
theorem dX1_parse_60 : decode cX1_parse 60 = .ok (.ireturn, 1) := by decide +kernel
theorem dX1_parse_61 : decode cX1_parse 61 = .ok (.aload_n 0, 1) := by decide +kernel
theorem dX1_parse_62 : decode cX1_parse 62 = .ok (.invokevirtual 39, 3) := by decide +kernel
theorem dX1_parse_65 : decode cX1_parse 65 = .ok (.bipush (-6), 2) := by decide +kernel
theorem dX1_parse_67 : decode cX1_parse 67 = .ok (.ireturn, 1) := by decide +kernel
theorem dX1_atLength_0 : decode cX1_atLength 0 = .ok (.aload_n 0, 1) := by decide +kernel
theorem dX1_atLength_1 : decode cX1_atLength 1 = .ok (.getfield 23, 3) := by decide +kernel
theorem dX1_atLength_4 : decode cX1_atLength 4 = .ok (.iconst 3, 1) := by decide +kernel
theorem dX1_atLength_5 : decode cX1_atLength 5 = .ok (.irem, 1) := by decide +kernel
theorem dX1_atLength_6 : decode cX1_atLength 6 = .ok (.iconst 2, 1) := by decide +kernel
theorem dX1_atLength_7 : decode cX1_atLength 7 = .ok (.if_icmp .ne 7, 3) := by decide +kernel
theorem dX1_atLength_10 : decode cX1_atLength 10 = .ok (.iconst 1, 1) := by decide +kernel
theorem dX1_atLength_11 : decode cX1_atLength 11 = .ok (.goto 4, 3) := by decide +kernel
theorem dX1_atLength_14 : decode cX1_atLength 14 = .ok (.iconst 0, 1) := by decide +kernel
theorem dX1_atLength_15 : decode cX1_atLength 15 = .ok (.ireturn, 1) := by decide +kernel
theorem dX1_takes_0 : decode cX1_takes 0 = .ok (.iload_n 1, 1) := by decide +kernel
theorem dX1_takes_1 : decode cX1_takes 1 = .ok (.bipush 48, 2) := by decide +kernel
theorem dX1_takes_3 : decode cX1_takes 3 = .ok (.if_icmp .lt 18, 3) := by decide +kernel
theorem dX1_takes_6 : decode cX1_takes 6 = .ok (.iload_n 1, 1) := by decide +kernel
theorem dX1_takes_7 : decode cX1_takes 7 = .ok (.bipush 57, 2) := by decide +kernel
theorem dX1_takes_9 : decode cX1_takes 9 = .ok (.if_icmp .gt 12, 3) := by decide +kernel
theorem dX1_takes_12 : decode cX1_takes 12 = .ok (.aload_n 0, 1) := by decide +kernel
theorem dX1_takes_13 : decode cX1_takes 13 = .ok (.iload_n 1, 1) := by decide +kernel
theorem dX1_takes_14 : decode cX1_takes 14 = .ok (.bipush 48, 2) := by decide +kernel
theorem dX1_takes_16 : decode cX1_takes 16 = .ok (.isub, 1) := by decide +kernel
theorem dX1_takes_17 : decode cX1_takes 17 = .ok (.invokevirtual 42, 3) := by decide +kernel
theorem dX1_takes_20 : decode cX1_takes 20 = .ok (.ireturn, 1) := by decide +kernel
theorem dX1_takes_21 : decode cX1_takes 21 = .ok (.aload_n 0, 1) := by decide +kernel
theorem dX1_takes_22 : decode cX1_takes 22 = .ok (.getfield 26, 3) := by decide +kernel
theorem dX1_takes_25 : decode cX1_takes 25 = .ok (.iconst (-1), 1) := by decide +kernel
theorem dX1_takes_26 : decode cX1_takes 26 = .ok (.if_icmp .eq 11, 3) := by decide +kernel
theorem dX1_takes_29 : decode cX1_takes 29 = .ok (.iload_n 1, 1) := by decide +kernel
theorem dX1_takes_30 : decode cX1_takes 30 = .ok (.aload_n 0, 1) := by decide +kernel
theorem dX1_takes_31 : decode cX1_takes 31 = .ok (.invokevirtual 46, 3) := by decide +kernel
theorem dX1_takes_34 : decode cX1_takes 34 = .ok (.if_icmp .eq 5, 3) := by decide +kernel
theorem dX1_takes_37 : decode cX1_takes 37 = .ok (.iconst 0, 1) := by decide +kernel
theorem dX1_takes_38 : decode cX1_takes 38 = .ok (.ireturn, 1) := by decide +kernel
theorem dX1_takes_39 : decode cX1_takes 39 = .ok (.aload_n 0, 1) := by decide +kernel
theorem dX1_takes_40 : decode cX1_takes 40 = .ok (.invokevirtual 39, 3) := by decide +kernel
theorem dX1_takes_43 : decode cX1_takes 43 = .ok (.iconst 1, 1) := by decide +kernel
theorem dX1_takes_44 : decode cX1_takes 44 = .ok (.ireturn, 1) := by decide +kernel
theorem dX1_takesDigit_0 : decode cX1_takesDigit 0 = .ok (.aload_n 0, 1) := by decide +kernel
theorem dX1_takesDigit_1 : decode cX1_takesDigit 1 = .ok (.getfield 26, 3) := by decide +kernel
theorem dX1_takesDigit_4 : decode cX1_takesDigit 4 = .ok (.iconst (-1), 1) := by decide +kernel
theorem dX1_takesDigit_5 : decode cX1_takesDigit 5 = .ok (.if_icmp .ne 25, 3) := by decide +kernel
theorem dX1_takesDigit_8 : decode cX1_takesDigit 8 = .ok (.aload_n 0, 1) := by decide +kernel
theorem dX1_takesDigit_9 : decode cX1_takesDigit 9 = .ok (.iload_n 1, 1) := by decide +kernel
theorem dX1_takesDigit_10 : decode cX1_takesDigit 10 = .ok (.putfield 26, 3) := by decide +kernel
theorem dX1_takesDigit_13 : decode cX1_takesDigit 13 = .ok (.iload_n 1, 1) := by decide +kernel
theorem dX1_takesDigit_14 : decode cX1_takesDigit 14 = .ok (.ifCond .gt 10, 3) := by decide +kernel
theorem dX1_takesDigit_17 : decode cX1_takesDigit 17 = .ok (.aload_n 0, 1) := by decide +kernel
theorem dX1_takesDigit_18 : decode cX1_takesDigit 18 = .ok (.invokevirtual 35, 3) := by decide +kernel
theorem dX1_takesDigit_21 : decode cX1_takesDigit 21 = .ok (.ifCond .ne 7, 3) := by decide +kernel
theorem dX1_takesDigit_24 : decode cX1_takesDigit 24 = .ok (.iconst 1, 1) := by decide +kernel
theorem dX1_takesDigit_25 : decode cX1_takesDigit 25 = .ok (.goto 4, 3) := by decide +kernel
theorem dX1_takesDigit_28 : decode cX1_takesDigit 28 = .ok (.iconst 0, 1) := by decide +kernel
theorem dX1_takesDigit_29 : decode cX1_takesDigit 29 = .ok (.ireturn, 1) := by decide +kernel
theorem dX1_takesDigit_30 : decode cX1_takesDigit 30 = .ok (.aload_n 0, 1) := by decide +kernel
theorem dX1_takesDigit_31 : decode cX1_takesDigit 31 = .ok (.getfield 26, 3) := by decide +kernel
theorem dX1_takesDigit_34 : decode cX1_takesDigit 34 = .ok (.bipush 10, 2) := by decide +kernel
theorem dX1_takesDigit_36 : decode cX1_takesDigit 36 = .ok (.imul, 1) := by decide +kernel
theorem dX1_takesDigit_37 : decode cX1_takesDigit 37 = .ok (.iload_n 1, 1) := by decide +kernel
theorem dX1_takesDigit_38 : decode cX1_takesDigit 38 = .ok (.iadd, 1) := by decide +kernel
theorem dX1_takesDigit_39 : decode cX1_takesDigit 39 = .ok (.istore_n 2, 1) := by decide +kernel
theorem dX1_takesDigit_40 : decode cX1_takesDigit 40 = .ok (.aload_n 0, 1) := by decide +kernel
theorem dX1_takesDigit_41 : decode cX1_takesDigit 41 = .ok (.getfield 26, 3) := by decide +kernel
theorem dX1_takesDigit_44 : decode cX1_takesDigit 44 = .ok (.ifCond .eq 21, 3) := by decide +kernel
theorem dX1_takesDigit_47 : decode cX1_takesDigit 47 = .ok (.iload_n 2, 1) := by decide +kernel
theorem dX1_takesDigit_48 : decode cX1_takesDigit 48 = .ok (.aload_n 0, 1) := by decide +kernel
theorem dX1_takesDigit_49 : decode cX1_takesDigit 49 = .ok (.invokevirtual 35, 3) := by decide +kernel
theorem dX1_takesDigit_52 : decode cX1_takesDigit 52 = .ok (.ifCond .eq 8, 3) := by decide +kernel
theorem dX1_takesDigit_55 : decode cX1_takesDigit 55 = .ok (.bipush 99, 2) := by decide +kernel
theorem dX1_takesDigit_57 : decode cX1_takesDigit 57 = .ok (.goto 5, 3) := by decide +kernel
theorem dX1_takesDigit_60 : decode cX1_takesDigit 60 = .ok (.bipush 15, 2) := by decide +kernel
theorem dX1_takesDigit_62 : decode cX1_takesDigit 62 = .ok (.if_icmp .le 5, 3) := by decide +kernel
theorem dX1_takesDigit_65 : decode cX1_takesDigit 65 = .ok (.iconst 0, 1) := by decide +kernel
theorem dX1_takesDigit_66 : decode cX1_takesDigit 66 = .ok (.ireturn, 1) := by decide +kernel
theorem dX1_takesDigit_67 : decode cX1_takesDigit 67 = .ok (.aload_n 0, 1) := by decide +kernel
theorem dX1_takesDigit_68 : decode cX1_takesDigit 68 = .ok (.iload_n 2, 1) := by decide +kernel
theorem dX1_takesDigit_69 : decode cX1_takesDigit 69 = .ok (.putfield 26, 3) := by decide +kernel
theorem dX1_takesDigit_72 : decode cX1_takesDigit 72 = .ok (.iconst 1, 1) := by decide +kernel
theorem dX1_takesDigit_73 : decode cX1_takesDigit 73 = .ok (.ireturn, 1) := by decide +kernel
theorem dX1_characterBehind_0 : decode cX1_characterBehind 0 = .ok (.aload_n 0, 1) := by decide +kernel
theorem dX1_characterBehind_1 : decode cX1_characterBehind 1 = .ok (.getfield 23, 3) := by decide +kernel
theorem dX1_characterBehind_4 : decode cX1_characterBehind 4 = .ok (.iconst 3, 1) := by decide +kernel
theorem dX1_characterBehind_5 : decode cX1_characterBehind 5 = .ok (.irem, 1) := by decide +kernel
theorem dX1_characterBehind_6 : decode cX1_characterBehind 6 = .ok (.lookupswitch 32 #[(0, 26), (1, 29)], 26) := by decide +kernel
theorem dX1_characterBehind_32 : decode cX1_characterBehind 32 = .ok (.bipush 45, 2) := by decide +kernel
theorem dX1_characterBehind_34 : decode cX1_characterBehind 34 = .ok (.ireturn, 1) := by decide +kernel
theorem dX1_characterBehind_35 : decode cX1_characterBehind 35 = .ok (.bipush 58, 2) := by decide +kernel
theorem dX1_characterBehind_37 : decode cX1_characterBehind 37 = .ok (.ireturn, 1) := by decide +kernel
theorem dX1_characterBehind_38 : decode cX1_characterBehind 38 = .ok (.bipush 59, 2) := by decide +kernel
theorem dX1_characterBehind_40 : decode cX1_characterBehind 40 = .ok (.ireturn, 1) := by decide +kernel
theorem dX1_keepNumber_0 : decode cX1_keepNumber 0 = .ok (.aload_n 0, 1) := by decide +kernel
theorem dX1_keepNumber_1 : decode cX1_keepNumber 1 = .ok (.getfield 23, 3) := by decide +kernel
theorem dX1_keepNumber_4 : decode cX1_keepNumber 4 = .ok (.bipush 80, 2) := by decide +kernel
theorem dX1_keepNumber_6 : decode cX1_keepNumber 6 = .ok (.if_icmp .ge 26, 3) := by decide +kernel
theorem dX1_keepNumber_9 : decode cX1_keepNumber 9 = .ok (.aload_n 0, 1) := by decide +kernel
theorem dX1_keepNumber_10 : decode cX1_keepNumber 10 = .ok (.getfield 19, 3) := by decide +kernel
theorem dX1_keepNumber_13 : decode cX1_keepNumber 13 = .ok (.aload_n 0, 1) := by decide +kernel
theorem dX1_keepNumber_14 : decode cX1_keepNumber 14 = .ok (.getfield 23, 3) := by decide +kernel
theorem dX1_keepNumber_17 : decode cX1_keepNumber 17 = .ok (.aload_n 0, 1) := by decide +kernel
theorem dX1_keepNumber_18 : decode cX1_keepNumber 18 = .ok (.getfield 26, 3) := by decide +kernel
theorem dX1_keepNumber_21 : decode cX1_keepNumber 21 = .ok (.iastore, 1) := by decide +kernel
theorem dX1_keepNumber_22 : decode cX1_keepNumber 22 = .ok (.aload_n 0, 1) := by decide +kernel
theorem dX1_keepNumber_23 : decode cX1_keepNumber 23 = .ok (.dup, 1) := by decide +kernel
theorem dX1_keepNumber_24 : decode cX1_keepNumber 24 = .ok (.getfield 23, 3) := by decide +kernel
theorem dX1_keepNumber_27 : decode cX1_keepNumber 27 = .ok (.iconst 1, 1) := by decide +kernel
theorem dX1_keepNumber_28 : decode cX1_keepNumber 28 = .ok (.iadd, 1) := by decide +kernel
theorem dX1_keepNumber_29 : decode cX1_keepNumber 29 = .ok (.putfield 23, 3) := by decide +kernel
theorem dX1_keepNumber_32 : decode cX1_keepNumber 32 = .ok (.aload_n 0, 1) := by decide +kernel
theorem dX1_keepNumber_33 : decode cX1_keepNumber 33 = .ok (.iconst (-1), 1) := by decide +kernel
theorem dX1_keepNumber_34 : decode cX1_keepNumber 34 = .ok (.putfield 26, 3) := by decide +kernel
theorem dX1_keepNumber_37 : decode cX1_keepNumber 37 = .ok (.return_, 1) := by decide +kernel
theorem dX2_init_0 : decode cX2_init 0 = .ok (.aload_n 0, 1) := by decide +kernel
theorem dX2_init_1 : decode cX2_init 1 = .ok (.invokespecial 3, 3) := by decide +kernel
theorem dX2_init_4 : decode cX2_init 4 = .ok (.aload_n 0, 1) := by decide +kernel
theorem dX2_init_5 : decode cX2_init 5 = .ok (.bipush 16, 2) := by decide +kernel
theorem dX2_init_7 : decode cX2_init 7 = .ok (.newarray .int, 2) := by decide +kernel
theorem dX2_init_9 : decode cX2_init 9 = .ok (.putfield 9, 3) := by decide +kernel
theorem dX2_init_12 : decode cX2_init 12 = .ok (.aload_n 0, 1) := by decide +kernel
theorem dX2_init_13 : decode cX2_init 13 = .ok (.bipush 16, 2) := by decide +kernel
theorem dX2_init_15 : decode cX2_init 15 = .ok (.newarray .int, 2) := by decide +kernel
theorem dX2_init_17 : decode cX2_init 17 = .ok (.putfield 15, 3) := by decide +kernel
theorem dX2_init_20 : decode cX2_init 20 = .ok (.aload_n 0, 1) := by decide +kernel
theorem dX2_init_21 : decode cX2_init 21 = .ok (.bipush 16, 2) := by decide +kernel
theorem dX2_init_23 : decode cX2_init 23 = .ok (.newarray .int, 2) := by decide +kernel
theorem dX2_init_25 : decode cX2_init 25 = .ok (.putfield 18, 3) := by decide +kernel
theorem dX2_init_28 : decode cX2_init 28 = .ok (.aload_n 0, 1) := by decide +kernel
theorem dX2_init_29 : decode cX2_init 29 = .ok (.bipush 30, 2) := by decide +kernel
theorem dX2_init_31 : decode cX2_init 31 = .ok (.newarray .int, 2) := by decide +kernel
theorem dX2_init_33 : decode cX2_init 33 = .ok (.putfield 21, 3) := by decide +kernel
theorem dX2_init_36 : decode cX2_init 36 = .ok (.aload_n 0, 1) := by decide +kernel
theorem dX2_init_37 : decode cX2_init 37 = .ok (.bipush 16, 2) := by decide +kernel
theorem dX2_init_39 : decode cX2_init 39 = .ok (.newarray .int, 2) := by decide +kernel
theorem dX2_init_41 : decode cX2_init 41 = .ok (.putfield 24, 3) := by decide +kernel
theorem dX2_init_44 : decode cX2_init 44 = .ok (.aload_n 0, 1) := by decide +kernel
theorem dX2_init_45 : decode cX2_init 45 = .ok (.aload_n 1, 1) := by decide +kernel
theorem dX2_init_46 : decode cX2_init 46 = .ok (.putfield 27, 3) := by decide +kernel
theorem dX2_init_49 : decode cX2_init 49 = .ok (.aload_n 0, 1) := by decide +kernel
theorem dX2_init_50 : decode cX2_init 50 = .ok (.invokevirtual 31, 3) := by decide +kernel
theorem dX2_init_53 : decode cX2_init 53 = .ok (.return_, 1) := by decide +kernel
theorem dX2_renew_0 : decode cX2_renew 0 = .ok (.aload_n 0, 1) := by decide +kernel
theorem dX2_renew_1 : decode cX2_renew 1 = .ok (.invokevirtual 34, 3) := by decide +kernel
theorem dX2_renew_4 : decode cX2_renew 4 = .ok (.aload_n 0, 1) := by decide +kernel
theorem dX2_renew_5 : decode cX2_renew 5 = .ok (.invokevirtual 37, 3) := by decide +kernel
theorem dX2_renew_8 : decode cX2_renew 8 = .ok (.aload_n 0, 1) := by decide +kernel
theorem dX2_renew_9 : decode cX2_renew 9 = .ok (.invokevirtual 40, 3) := by decide +kernel
theorem dX2_renew_12 : decode cX2_renew 12 = .ok (.return_, 1) := by decide +kernel
theorem dX2_findPieces_0 : decode cX2_findPieces 0 = .ok (.iconst 0, 1) := by decide +kernel
theorem dX2_findPieces_1 : decode cX2_findPieces 1 = .ok (.istore_n 1, 1) := by decide +kernel
theorem dX2_findPieces_2 : decode cX2_findPieces 2 = .ok (.aload_n 0, 1) := by decide +kernel
theorem dX2_findPieces_3 : decode cX2_findPieces 3 = .ok (.iconst 0, 1) := by decide +kernel
theorem dX2_findPieces_4 : decode cX2_findPieces 4 = .ok (.putfield 43, 3) := by decide +kernel
theorem dX2_findPieces_7 : decode cX2_findPieces 7 = .ok (.iconst 0, 1) := by decide +kernel
theorem dX2_findPieces_8 : decode cX2_findPieces 8 = .ok (.istore_n 2, 1) := by decide +kernel
theorem dX2_findPieces_9 : decode cX2_findPieces 9 = .ok (.iload_n 2, 1) := by decide +kernel
theorem dX2_findPieces_10 : decode cX2_findPieces 10 = .ok (.aload_n 0, 1) := by decide +kernel
theorem dX2_findPieces_11 : decode cX2_findPieces 11 = .ok (.getfield 27, 3) := by decide +kernel
theorem dX2_findPieces_14 : decode cX2_findPieces 14 = .ok (.getfield 47, 3) := by decide +kernel
theorem dX2_findPieces_17 : decode cX2_findPieces 17 = .ok (.if_icmp .ge 56, 3) := by decide +kernel
theorem dX2_findPieces_20 : decode cX2_findPieces 20 = .ok (.iload_n 1, 1) := by decide +kernel
theorem dX2_findPieces_21 : decode cX2_findPieces 21 = .ok (.iload_n 2, 1) := by decide +kernel
theorem dX2_findPieces_22 : decode cX2_findPieces 22 = .ok (.invokestatic 52, 3) := by decide +kernel
theorem dX2_findPieces_25 : decode cX2_findPieces 25 = .ok (.ifCond .ne 42, 3) := by decide +kernel
theorem dX2_findPieces_28 : decode cX2_findPieces 28 = .ok (.aload_n 0, 1) := by decide +kernel
theorem dX2_findPieces_29 : decode cX2_findPieces 29 = .ok (.getfield 27, 3) := by decide +kernel
theorem dX2_findPieces_32 : decode cX2_findPieces 32 = .ok (.iload_n 2, 1) := by decide +kernel
theorem dX2_findPieces_33 : decode cX2_findPieces 33 = .ok (.aload_n 0, 1) := by decide +kernel
theorem dX2_findPieces_34 : decode cX2_findPieces 34 = .ok (.getfield 27, 3) := by decide +kernel
theorem dX2_findPieces_37 : decode cX2_findPieces 37 = .ok (.invokevirtual 56, 3) := by decide +kernel
theorem dX2_findPieces_40 : decode cX2_findPieces 40 = .ok (.invokevirtual 60, 3) := by decide +kernel
theorem dX2_findPieces_43 : decode cX2_findPieces 43 = .ok (.istore_n 3, 1) := by decide +kernel
theorem dX2_findPieces_44 : decode cX2_findPieces 44 = .ok (.aload_n 0, 1) := by decide +kernel
theorem dX2_findPieces_45 : decode cX2_findPieces 45 = .ok (.getfield 9, 3) := by decide +kernel
theorem dX2_findPieces_48 : decode cX2_findPieces 48 = .ok (.iload_n 3, 1) := by decide +kernel
theorem dX2_findPieces_49 : decode cX2_findPieces 49 = .ok (.iload_n 3, 1) := by decide +kernel
theorem dX2_findPieces_50 : decode cX2_findPieces 50 = .ok (.invokestatic 64, 3) := by decide +kernel
theorem dX2_findPieces_53 : decode cX2_findPieces 53 = .ok (.iload_n 1, 1) := by decide +kernel
theorem dX2_findPieces_54 : decode cX2_findPieces 54 = .ok (.iload_n 3, 1) := by decide +kernel
theorem dX2_findPieces_55 : decode cX2_findPieces 55 = .ok (.ior, 1) := by decide +kernel
theorem dX2_findPieces_56 : decode cX2_findPieces 56 = .ok (.istore_n 1, 1) := by decide +kernel
theorem dX2_findPieces_57 : decode cX2_findPieces 57 = .ok (.aload_n 0, 1) := by decide +kernel
theorem dX2_findPieces_58 : decode cX2_findPieces 58 = .ok (.dup, 1) := by decide +kernel
theorem dX2_findPieces_59 : decode cX2_findPieces 59 = .ok (.getfield 43, 3) := by decide +kernel
theorem dX2_findPieces_62 : decode cX2_findPieces 62 = .ok (.iconst 1, 1) := by decide +kernel
theorem dX2_findPieces_63 : decode cX2_findPieces 63 = .ok (.iadd, 1) := by decide +kernel
theorem dX2_findPieces_64 : decode cX2_findPieces 64 = .ok (.putfield 43, 3) := by decide +kernel
theorem dX2_findPieces_67 : decode cX2_findPieces 67 = .ok (.iinc 2 1, 3) := by decide +kernel
theorem dX2_findPieces_70 : decode cX2_findPieces 70 = .ok (.goto (-61), 3) := by decide +kernel
theorem dX2_findPieces_73 : decode cX2_findPieces 73 = .ok (.return_, 1) := by decide +kernel
theorem dX2_findPartingRoads_0 : decode cX2_findPartingRoads 0 = .ok (.aload_n 0, 1) := by decide +kernel
theorem dX2_findPartingRoads_1 : decode cX2_findPartingRoads 1 = .ok (.iconst 0, 1) := by decide +kernel
theorem dX2_findPartingRoads_2 : decode cX2_findPartingRoads 2 = .ok (.putfield 68, 3) := by decide +kernel
theorem dX2_findPartingRoads_5 : decode cX2_findPartingRoads 5 = .ok (.iconst 0, 1) := by decide +kernel
theorem dX2_findPartingRoads_6 : decode cX2_findPartingRoads 6 = .ok (.istore_n 1, 1) := by decide +kernel
theorem dX2_findPartingRoads_7 : decode cX2_findPartingRoads 7 = .ok (.iload_n 1, 1) := by decide +kernel
theorem dX2_findPartingRoads_8 : decode cX2_findPartingRoads 8 = .ok (.aload_n 0, 1) := by decide +kernel
theorem dX2_findPartingRoads_9 : decode cX2_findPartingRoads 9 = .ok (.getfield 27, 3) := by decide +kernel
theorem dX2_findPartingRoads_12 : decode cX2_findPartingRoads 12 = .ok (.getfield 71, 3) := by decide +kernel
theorem dX2_findPartingRoads_15 : decode cX2_findPartingRoads 15 = .ok (.if_icmp .ge 77, 3) := by decide +kernel
theorem dX2_findPartingRoads_18 : decode cX2_findPartingRoads 18 = .ok (.aload_n 0, 1) := by decide +kernel
theorem dX2_findPartingRoads_19 : decode cX2_findPartingRoads 19 = .ok (.getfield 21, 3) := by decide +kernel
theorem dX2_findPartingRoads_22 : decode cX2_findPartingRoads 22 = .ok (.iload_n 1, 1) := by decide +kernel
theorem dX2_findPartingRoads_23 : decode cX2_findPartingRoads 23 = .ok (.aload_n 0, 1) := by decide +kernel
theorem dX2_findPartingRoads_24 : decode cX2_findPartingRoads 24 = .ok (.getfield 27, 3) := by decide +kernel
theorem dX2_findPartingRoads_27 : decode cX2_findPartingRoads 27 = .ok (.aload_n 0, 1) := by decide +kernel
theorem dX2_findPartingRoads_28 : decode cX2_findPartingRoads 28 = .ok (.getfield 27, 3) := by decide +kernel
theorem dX2_findPartingRoads_31 : decode cX2_findPartingRoads 31 = .ok (.getfield 74, 3) := by decide +kernel
theorem dX2_findPartingRoads_34 : decode cX2_findPartingRoads 34 = .ok (.iload_n 1, 1) := by decide +kernel
theorem dX2_findPartingRoads_35 : decode cX2_findPartingRoads 35 = .ok (.iaload, 1) := by decide +kernel
theorem dX2_findPartingRoads_36 : decode cX2_findPartingRoads 36 = .ok (.aload_n 0, 1) := by decide +kernel
theorem dX2_findPartingRoads_37 : decode cX2_findPartingRoads 37 = .ok (.getfield 27, 3) := by decide +kernel
theorem dX2_findPartingRoads_40 : decode cX2_findPartingRoads 40 = .ok (.invokevirtual 56, 3) := by decide +kernel
theorem dX2_findPartingRoads_43 : decode cX2_findPartingRoads 43 = .ok (.iconst 1, 1) := by decide +kernel
theorem dX2_findPartingRoads_44 : decode cX2_findPartingRoads 44 = .ok (.iload_n 1, 1) := by decide +kernel
theorem dX2_findPartingRoads_45 : decode cX2_findPartingRoads 45 = .ok (.ishl, 1) := by decide +kernel
theorem dX2_findPartingRoads_46 : decode cX2_findPartingRoads 46 = .ok (.iconst (-1), 1) := by decide +kernel
theorem dX2_findPartingRoads_47 : decode cX2_findPartingRoads 47 = .ok (.ixor, 1) := by decide +kernel
theorem dX2_findPartingRoads_48 : decode cX2_findPartingRoads 48 = .ok (.iand, 1) := by decide +kernel
theorem dX2_findPartingRoads_49 : decode cX2_findPartingRoads 49 = .ok (.invokevirtual 60, 3) := by decide +kernel
theorem dX2_findPartingRoads_52 : decode cX2_findPartingRoads 52 = .ok (.iastore, 1) := by decide +kernel
theorem dX2_findPartingRoads_53 : decode cX2_findPartingRoads 53 = .ok (.aload_n 0, 1) := by decide +kernel
theorem dX2_findPartingRoads_54 : decode cX2_findPartingRoads 54 = .ok (.getfield 21, 3) := by decide +kernel
theorem dX2_findPartingRoads_57 : decode cX2_findPartingRoads 57 = .ok (.iload_n 1, 1) := by decide +kernel
theorem dX2_findPartingRoads_58 : decode cX2_findPartingRoads 58 = .ok (.iaload, 1) := by decide +kernel
theorem dX2_findPartingRoads_59 : decode cX2_findPartingRoads 59 = .ok (.aload_n 0, 1) := by decide +kernel
theorem dX2_findPartingRoads_60 : decode cX2_findPartingRoads 60 = .ok (.getfield 27, 3) := by decide +kernel
theorem dX2_findPartingRoads_63 : decode cX2_findPartingRoads 63 = .ok (.getfield 77, 3) := by decide +kernel
theorem dX2_findPartingRoads_66 : decode cX2_findPartingRoads 66 = .ok (.iload_n 1, 1) := by decide +kernel
theorem dX2_findPartingRoads_67 : decode cX2_findPartingRoads 67 = .ok (.iaload, 1) := by decide +kernel
theorem dX2_findPartingRoads_68 : decode cX2_findPartingRoads 68 = .ok (.invokestatic 52, 3) := by decide +kernel
theorem dX2_findPartingRoads_71 : decode cX2_findPartingRoads 71 = .ok (.ifCond .ne 15, 3) := by decide +kernel
theorem dX2_findPartingRoads_74 : decode cX2_findPartingRoads 74 = .ok (.aload_n 0, 1) := by decide +kernel
theorem dX2_findPartingRoads_75 : decode cX2_findPartingRoads 75 = .ok (.dup, 1) := by decide +kernel
theorem dX2_findPartingRoads_76 : decode cX2_findPartingRoads 76 = .ok (.getfield 68, 3) := by decide +kernel
theorem dX2_findPartingRoads_79 : decode cX2_findPartingRoads 79 = .ok (.iconst 1, 1) := by decide +kernel
theorem dX2_findPartingRoads_80 : decode cX2_findPartingRoads 80 = .ok (.iload_n 1, 1) := by decide +kernel
theorem dX2_findPartingRoads_81 : decode cX2_findPartingRoads 81 = .ok (.ishl, 1) := by decide +kernel
theorem dX2_findPartingRoads_82 : decode cX2_findPartingRoads 82 = .ok (.ior, 1) := by decide +kernel
theorem dX2_findPartingRoads_83 : decode cX2_findPartingRoads 83 = .ok (.putfield 68, 3) := by decide +kernel
theorem dX2_findPartingRoads_86 : decode cX2_findPartingRoads 86 = .ok (.iinc 1 1, 3) := by decide +kernel
theorem dX2_findPartingRoads_89 : decode cX2_findPartingRoads 89 = .ok (.goto (-82), 3) := by decide +kernel
theorem dX2_findPartingRoads_92 : decode cX2_findPartingRoads 92 = .ok (.return_, 1) := by decide +kernel
theorem dX2_findDistricts_0 : decode cX2_findDistricts 0 = .ok (.iconst 0, 1) := by decide +kernel
theorem dX2_findDistricts_1 : decode cX2_findDistricts 1 = .ok (.istore_n 1, 1) := by decide +kernel
theorem dX2_findDistricts_2 : decode cX2_findDistricts 2 = .ok (.aload_n 0, 1) := by decide +kernel
theorem dX2_findDistricts_3 : decode cX2_findDistricts 3 = .ok (.iconst 0, 1) := by decide +kernel
theorem dX2_findDistricts_4 : decode cX2_findDistricts 4 = .ok (.putfield 80, 3) := by decide +kernel
theorem dX2_findDistricts_7 : decode cX2_findDistricts 7 = .ok (.iconst 0, 1) := by decide +kernel
theorem dX2_findDistricts_8 : decode cX2_findDistricts 8 = .ok (.istore_n 2, 1) := by decide +kernel
theorem dX2_findDistricts_9 : decode cX2_findDistricts 9 = .ok (.iload_n 2, 1) := by decide +kernel
theorem dX2_findDistricts_10 : decode cX2_findDistricts 10 = .ok (.aload_n 0, 1) := by decide +kernel
theorem dX2_findDistricts_11 : decode cX2_findDistricts 11 = .ok (.getfield 27, 3) := by decide +kernel
theorem dX2_findDistricts_14 : decode cX2_findDistricts 14 = .ok (.getfield 47, 3) := by decide +kernel
theorem dX2_findDistricts_17 : decode cX2_findDistricts 17 = .ok (.if_icmp .ge 76, 3) := by decide +kernel
theorem dX2_findDistricts_20 : decode cX2_findDistricts 20 = .ok (.iload_n 1, 1) := by decide +kernel
theorem dX2_findDistricts_21 : decode cX2_findDistricts 21 = .ok (.iload_n 2, 1) := by decide +kernel
theorem dX2_findDistricts_22 : decode cX2_findDistricts 22 = .ok (.invokestatic 52, 3) := by decide +kernel
theorem dX2_findDistricts_25 : decode cX2_findDistricts 25 = .ok (.ifCond .ne 62, 3) := by decide +kernel
theorem dX2_findDistricts_28 : decode cX2_findDistricts 28 = .ok (.aload_n 0, 1) := by decide +kernel
theorem dX2_findDistricts_29 : decode cX2_findDistricts 29 = .ok (.getfield 27, 3) := by decide +kernel
theorem dX2_findDistricts_32 : decode cX2_findDistricts 32 = .ok (.iload_n 2, 1) := by decide +kernel
theorem dX2_findDistricts_33 : decode cX2_findDistricts 33 = .ok (.aload_n 0, 1) := by decide +kernel
theorem dX2_findDistricts_34 : decode cX2_findDistricts 34 = .ok (.getfield 27, 3) := by decide +kernel
theorem dX2_findDistricts_37 : decode cX2_findDistricts 37 = .ok (.invokevirtual 56, 3) := by decide +kernel
theorem dX2_findDistricts_40 : decode cX2_findDistricts 40 = .ok (.aload_n 0, 1) := by decide +kernel
theorem dX2_findDistricts_41 : decode cX2_findDistricts 41 = .ok (.getfield 68, 3) := by decide +kernel
theorem dX2_findDistricts_44 : decode cX2_findDistricts 44 = .ok (.iconst (-1), 1) := by decide +kernel
theorem dX2_findDistricts_45 : decode cX2_findDistricts 45 = .ok (.ixor, 1) := by decide +kernel
theorem dX2_findDistricts_46 : decode cX2_findDistricts 46 = .ok (.iand, 1) := by decide +kernel
theorem dX2_findDistricts_47 : decode cX2_findDistricts 47 = .ok (.invokevirtual 60, 3) := by decide +kernel
theorem dX2_findDistricts_50 : decode cX2_findDistricts 50 = .ok (.istore_n 3, 1) := by decide +kernel
theorem dX2_findDistricts_51 : decode cX2_findDistricts 51 = .ok (.aload_n 0, 1) := by decide +kernel
theorem dX2_findDistricts_52 : decode cX2_findDistricts 52 = .ok (.getfield 15, 3) := by decide +kernel
theorem dX2_findDistricts_55 : decode cX2_findDistricts 55 = .ok (.iload_n 3, 1) := by decide +kernel
theorem dX2_findDistricts_56 : decode cX2_findDistricts 56 = .ok (.aload_n 0, 1) := by decide +kernel
theorem dX2_findDistricts_57 : decode cX2_findDistricts 57 = .ok (.getfield 80, 3) := by decide +kernel
theorem dX2_findDistricts_60 : decode cX2_findDistricts 60 = .ok (.invokestatic 64, 3) := by decide +kernel
theorem dX2_findDistricts_63 : decode cX2_findDistricts 63 = .ok (.aload_n 0, 1) := by decide +kernel
theorem dX2_findDistricts_64 : decode cX2_findDistricts 64 = .ok (.getfield 18, 3) := by decide +kernel
theorem dX2_findDistricts_67 : decode cX2_findDistricts 67 = .ok (.aload_n 0, 1) := by decide +kernel
theorem dX2_findDistricts_68 : decode cX2_findDistricts 68 = .ok (.getfield 80, 3) := by decide +kernel
theorem dX2_findDistricts_71 : decode cX2_findDistricts 71 = .ok (.iload_n 3, 1) := by decide +kernel
theorem dX2_findDistricts_72 : decode cX2_findDistricts 72 = .ok (.iastore, 1) := by decide +kernel
theorem dX2_findDistricts_73 : decode cX2_findDistricts 73 = .ok (.iload_n 1, 1) := by decide +kernel
theorem dX2_findDistricts_74 : decode cX2_findDistricts 74 = .ok (.iload_n 3, 1) := by decide +kernel
theorem dX2_findDistricts_75 : decode cX2_findDistricts 75 = .ok (.ior, 1) := by decide +kernel
theorem dX2_findDistricts_76 : decode cX2_findDistricts 76 = .ok (.istore_n 1, 1) := by decide +kernel
theorem dX2_findDistricts_77 : decode cX2_findDistricts 77 = .ok (.aload_n 0, 1) := by decide +kernel
theorem dX2_findDistricts_78 : decode cX2_findDistricts 78 = .ok (.dup, 1) := by decide +kernel
theorem dX2_findDistricts_79 : decode cX2_findDistricts 79 = .ok (.getfield 80, 3) := by decide +kernel
theorem dX2_findDistricts_82 : decode cX2_findDistricts 82 = .ok (.iconst 1, 1) := by decide +kernel
theorem dX2_findDistricts_83 : decode cX2_findDistricts 83 = .ok (.iadd, 1) := by decide +kernel
theorem dX2_findDistricts_84 : decode cX2_findDistricts 84 = .ok (.putfield 80, 3) := by decide +kernel
theorem dX2_findDistricts_87 : decode cX2_findDistricts 87 = .ok (.iinc 2 1, 3) := by decide +kernel
theorem dX2_findDistricts_90 : decode cX2_findDistricts 90 = .ok (.goto (-81), 3) := by decide +kernel
theorem dX2_findDistricts_93 : decode cX2_findDistricts 93 = .ok (.return_, 1) := by decide +kernel
theorem dX2_hangTogether_0 : decode cX2_hangTogether 0 = .ok (.aload_n 0, 1) := by decide +kernel
theorem dX2_hangTogether_1 : decode cX2_hangTogether 1 = .ok (.getfield 9, 3) := by decide +kernel
theorem dX2_hangTogether_4 : decode cX2_hangTogether 4 = .ok (.iload_n 1, 1) := by decide +kernel
theorem dX2_hangTogether_5 : decode cX2_hangTogether 5 = .ok (.iaload, 1) := by decide +kernel
theorem dX2_hangTogether_6 : decode cX2_hangTogether 6 = .ok (.iload_n 2, 1) := by decide +kernel
theorem dX2_hangTogether_7 : decode cX2_hangTogether 7 = .ok (.invokestatic 52, 3) := by decide +kernel
theorem dX2_hangTogether_10 : decode cX2_hangTogether 10 = .ok (.ireturn, 1) := by decide +kernel
theorem dX2_squaresBehind_0 : decode cX2_squaresBehind 0 = .ok (.aload_n 0, 1) := by decide +kernel
theorem dX2_squaresBehind_1 : decode cX2_squaresBehind 1 = .ok (.getfield 21, 3) := by decide +kernel
theorem dX2_squaresBehind_4 : decode cX2_squaresBehind 4 = .ok (.iload_n 2, 1) := by decide +kernel
theorem dX2_squaresBehind_5 : decode cX2_squaresBehind 5 = .ok (.iaload, 1) := by decide +kernel
theorem dX2_squaresBehind_6 : decode cX2_squaresBehind 6 = .ok (.istore_n 3, 1) := by decide +kernel
theorem dX2_squaresBehind_7 : decode cX2_squaresBehind 7 = .ok (.aload_n 0, 1) := by decide +kernel
theorem dX2_squaresBehind_8 : decode cX2_squaresBehind 8 = .ok (.getfield 9, 3) := by decide +kernel
theorem dX2_squaresBehind_11 : decode cX2_squaresBehind 11 = .ok (.iload_n 1, 1) := by decide +kernel
theorem dX2_squaresBehind_12 : decode cX2_squaresBehind 12 = .ok (.iaload, 1) := by decide +kernel
theorem dX2_squaresBehind_13 : decode cX2_squaresBehind 13 = .ok (.iload_n 3, 1) := by decide +kernel
theorem dX2_squaresBehind_14 : decode cX2_squaresBehind 14 = .ok (.iload_n 1, 1) := by decide +kernel
theorem dX2_squaresBehind_15 : decode cX2_squaresBehind 15 = .ok (.invokestatic 52, 3) := by decide +kernel
theorem dX2_squaresBehind_18 : decode cX2_squaresBehind 18 = .ok (.ifCond .eq 9, 3) := by decide +kernel
theorem dX2_squaresBehind_21 : decode cX2_squaresBehind 21 = .ok (.iload_n 3, 1) := by decide +kernel
theorem dX2_squaresBehind_22 : decode cX2_squaresBehind 22 = .ok (.iconst (-1), 1) := by decide +kernel
theorem dX2_squaresBehind_23 : decode cX2_squaresBehind 23 = .ok (.ixor, 1) := by decide +kernel
theorem dX2_squaresBehind_24 : decode cX2_squaresBehind 24 = .ok (.goto 4, 3) := by decide +kernel
theorem dX2_squaresBehind_27 : decode cX2_squaresBehind 27 = .ok (.iload_n 3, 1) := by decide +kernel
theorem dX2_squaresBehind_28 : decode cX2_squaresBehind 28 = .ok (.iand, 1) := by decide +kernel
theorem dX2_squaresBehind_29 : decode cX2_squaresBehind 29 = .ok (.ireturn, 1) := by decide +kernel
theorem dX2_pairsParted_0 : decode cX2_pairsParted 0 = .ok (.aload_n 0, 1) := by decide +kernel
theorem dX2_pairsParted_1 : decode cX2_pairsParted 1 = .ok (.getfield 27, 3) := by decide +kernel
theorem dX2_pairsParted_4 : decode cX2_pairsParted 4 = .ok (.getfield 74, 3) := by decide +kernel
theorem dX2_pairsParted_7 : decode cX2_pairsParted 7 = .ok (.iload_n 1, 1) := by decide +kernel
theorem dX2_pairsParted_8 : decode cX2_pairsParted 8 = .ok (.iaload, 1) := by decide +kernel
theorem dX2_pairsParted_9 : decode cX2_pairsParted 9 = .ok (.istore_n 2, 1) := by decide +kernel
theorem dX2_pairsParted_10 : decode cX2_pairsParted 10 = .ok (.aload_n 0, 1) := by decide +kernel
theorem dX2_pairsParted_11 : decode cX2_pairsParted 11 = .ok (.iload_n 2, 1) := by decide +kernel
theorem dX2_pairsParted_12 : decode cX2_pairsParted 12 = .ok (.iload_n 1, 1) := by decide +kernel
theorem dX2_pairsParted_13 : decode cX2_pairsParted 13 = .ok (.invokevirtual 83, 3) := by decide +kernel
theorem dX2_pairsParted_16 : decode cX2_pairsParted 16 = .ok (.invokestatic 86, 3) := by decide +kernel
theorem dX2_pairsParted_19 : decode cX2_pairsParted 19 = .ok (.istore_n 3, 1) := by decide +kernel
theorem dX2_pairsParted_20 : decode cX2_pairsParted 20 = .ok (.iload_n 3, 1) := by decide +kernel
theorem dX2_pairsParted_21 : decode cX2_pairsParted 21 = .ok (.aload_n 0, 1) := by decide +kernel
theorem dX2_pairsParted_22 : decode cX2_pairsParted 22 = .ok (.getfield 9, 3) := by decide +kernel
theorem dX2_pairsParted_25 : decode cX2_pairsParted 25 = .ok (.iload_n 2, 1) := by decide +kernel
theorem dX2_pairsParted_26 : decode cX2_pairsParted 26 = .ok (.iaload, 1) := by decide +kernel
theorem dX2_pairsParted_27 : decode cX2_pairsParted 27 = .ok (.invokestatic 86, 3) := by decide +kernel
theorem dX2_pairsParted_30 : decode cX2_pairsParted 30 = .ok (.iload_n 3, 1) := by decide +kernel
theorem dX2_pairsParted_31 : decode cX2_pairsParted 31 = .ok (.isub, 1) := by decide +kernel
theorem dX2_pairsParted_32 : decode cX2_pairsParted 32 = .ok (.imul, 1) := by decide +kernel
theorem dX2_pairsParted_33 : decode cX2_pairsParted 33 = .ok (.ireturn, 1) := by decide +kernel
theorem dX2_roadsBetween_0 : decode cX2_roadsBetween 0 = .ok (.iconst 0, 1) := by decide +kernel
theorem dX2_roadsBetween_1 : decode cX2_roadsBetween 1 = .ok (.istore_n 3, 1) := by decide +kernel
theorem dX2_roadsBetween_2 : decode cX2_roadsBetween 2 = .ok (.iconst 0, 1) := by decide +kernel
theorem dX2_roadsBetween_3 : decode cX2_roadsBetween 3 = .ok (.istore 4, 2) := by decide +kernel
theorem dX2_roadsBetween_5 : decode cX2_roadsBetween 5 = .ok (.iload 4, 2) := by decide +kernel
theorem dX2_roadsBetween_7 : decode cX2_roadsBetween 7 = .ok (.aload_n 0, 1) := by decide +kernel
theorem dX2_roadsBetween_8 : decode cX2_roadsBetween 8 = .ok (.getfield 27, 3) := by decide +kernel
theorem dX2_roadsBetween_11 : decode cX2_roadsBetween 11 = .ok (.getfield 71, 3) := by decide +kernel
theorem dX2_roadsBetween_14 : decode cX2_roadsBetween 14 = .ok (.if_icmp .ge 30, 3) := by decide +kernel
theorem dX2_roadsBetween_17 : decode cX2_roadsBetween 17 = .ok (.aload_n 0, 1) := by decide +kernel
theorem dX2_roadsBetween_18 : decode cX2_roadsBetween 18 = .ok (.iload_n 1, 1) := by decide +kernel
theorem dX2_roadsBetween_19 : decode cX2_roadsBetween 19 = .ok (.iload 4, 2) := by decide +kernel
theorem dX2_roadsBetween_21 : decode cX2_roadsBetween 21 = .ok (.invokevirtual 83, 3) := by decide +kernel
theorem dX2_roadsBetween_24 : decode cX2_roadsBetween 24 = .ok (.iload_n 2, 1) := by decide +kernel
theorem dX2_roadsBetween_25 : decode cX2_roadsBetween 25 = .ok (.invokestatic 52, 3) := by decide +kernel
theorem dX2_roadsBetween_28 : decode cX2_roadsBetween 28 = .ok (.ifCond .eq 10, 3) := by decide +kernel
theorem dX2_roadsBetween_31 : decode cX2_roadsBetween 31 = .ok (.iload_n 3, 1) := by decide +kernel
theorem dX2_roadsBetween_32 : decode cX2_roadsBetween 32 = .ok (.iconst 1, 1) := by decide +kernel
theorem dX2_roadsBetween_33 : decode cX2_roadsBetween 33 = .ok (.iload 4, 2) := by decide +kernel
theorem dX2_roadsBetween_35 : decode cX2_roadsBetween 35 = .ok (.ishl, 1) := by decide +kernel
theorem dX2_roadsBetween_36 : decode cX2_roadsBetween 36 = .ok (.ior, 1) := by decide +kernel
theorem dX2_roadsBetween_37 : decode cX2_roadsBetween 37 = .ok (.istore_n 3, 1) := by decide +kernel
theorem dX2_roadsBetween_38 : decode cX2_roadsBetween 38 = .ok (.iinc 4 1, 3) := by decide +kernel
theorem dX2_roadsBetween_41 : decode cX2_roadsBetween 41 = .ok (.goto (-36), 3) := by decide +kernel
theorem dX2_roadsBetween_44 : decode cX2_roadsBetween 44 = .ok (.iload_n 3, 1) := by decide +kernel
theorem dX2_roadsBetween_45 : decode cX2_roadsBetween 45 = .ok (.ireturn, 1) := by decide +kernel
theorem dX2_roadOnWay_0 : decode cX2_roadOnWay 0 = .ok (.aload_n 0, 1) := by decide +kernel
theorem dX2_roadOnWay_1 : decode cX2_roadOnWay 1 = .ok (.iload_n 1, 1) := by decide +kernel
theorem dX2_roadOnWay_2 : decode cX2_roadOnWay 2 = .ok (.iload_n 2, 1) := by decide +kernel
theorem dX2_roadOnWay_3 : decode cX2_roadOnWay 3 = .ok (.invokevirtual 92, 3) := by decide +kernel
theorem dX2_roadOnWay_6 : decode cX2_roadOnWay 6 = .ok (.istore 4, 2) := by decide +kernel
theorem dX2_roadOnWay_8 : decode cX2_roadOnWay 8 = .ok (.iconst 0, 1) := by decide +kernel
theorem dX2_roadOnWay_9 : decode cX2_roadOnWay 9 = .ok (.istore 5, 2) := by decide +kernel
theorem dX2_roadOnWay_11 : decode cX2_roadOnWay 11 = .ok (.iload 5, 2) := by decide +kernel
theorem dX2_roadOnWay_13 : decode cX2_roadOnWay 13 = .ok (.aload_n 0, 1) := by decide +kernel
theorem dX2_roadOnWay_14 : decode cX2_roadOnWay 14 = .ok (.getfield 27, 3) := by decide +kernel
theorem dX2_roadOnWay_17 : decode cX2_roadOnWay 17 = .ok (.getfield 71, 3) := by decide +kernel
theorem dX2_roadOnWay_20 : decode cX2_roadOnWay 20 = .ok (.if_icmp .ge 35, 3) := by decide +kernel
theorem dX2_roadOnWay_23 : decode cX2_roadOnWay 23 = .ok (.iload 4, 2) := by decide +kernel
theorem dX2_roadOnWay_25 : decode cX2_roadOnWay 25 = .ok (.iload 5, 2) := by decide +kernel
theorem dX2_roadOnWay_27 : decode cX2_roadOnWay 27 = .ok (.invokestatic 52, 3) := by decide +kernel
theorem dX2_roadOnWay_30 : decode cX2_roadOnWay 30 = .ok (.ifCond .eq 19, 3) := by decide +kernel
theorem dX2_roadOnWay_33 : decode cX2_roadOnWay 33 = .ok (.aload_n 0, 1) := by decide +kernel
theorem dX2_roadOnWay_34 : decode cX2_roadOnWay 34 = .ok (.iload_n 1, 1) := by decide +kernel
theorem dX2_roadOnWay_35 : decode cX2_roadOnWay 35 = .ok (.iload 5, 2) := by decide +kernel
theorem dX2_roadOnWay_37 : decode cX2_roadOnWay 37 = .ok (.iload 4, 2) := by decide +kernel
theorem dX2_roadOnWay_39 : decode cX2_roadOnWay 39 = .ok (.invokevirtual 95, 3) := by decide +kernel
theorem dX2_roadOnWay_42 : decode cX2_roadOnWay 42 = .ok (.iload_n 3, 1) := by decide +kernel
theorem dX2_roadOnWay_43 : decode cX2_roadOnWay 43 = .ok (.if_icmp .ne 6, 3) := by decide +kernel
theorem dX2_roadOnWay_46 : decode cX2_roadOnWay 46 = .ok (.iload 5, 2) := by decide +kernel
theorem dX2_roadOnWay_48 : decode cX2_roadOnWay 48 = .ok (.ireturn, 1) := by decide +kernel
theorem dX2_roadOnWay_49 : decode cX2_roadOnWay 49 = .ok (.iinc 5 1, 3) := by decide +kernel
theorem dX2_roadOnWay_52 : decode cX2_roadOnWay 52 = .ok (.goto (-41), 3) := by decide +kernel
theorem dX2_roadOnWay_55 : decode cX2_roadOnWay 55 = .ok (.bipush (-6), 2) := by decide +kernel
theorem dX2_roadOnWay_57 : decode cX2_roadOnWay 57 = .ok (.ireturn, 1) := by decide +kernel
theorem dX2_roadsAhead_0 : decode cX2_roadsAhead 0 = .ok (.aload_n 0, 1) := by decide +kernel
theorem dX2_roadsAhead_1 : decode cX2_roadsAhead 1 = .ok (.iload_n 1, 1) := by decide +kernel
theorem dX2_roadsAhead_2 : decode cX2_roadsAhead 2 = .ok (.iload_n 2, 1) := by decide +kernel
theorem dX2_roadsAhead_3 : decode cX2_roadsAhead 3 = .ok (.invokevirtual 83, 3) := by decide +kernel
theorem dX2_roadsAhead_6 : decode cX2_roadsAhead 6 = .ok (.invokestatic 86, 3) := by decide +kernel
theorem dX2_roadsAhead_9 : decode cX2_roadsAhead 9 = .ok (.istore 4, 2) := by decide +kernel
theorem dX2_roadsAhead_11 : decode cX2_roadsAhead 11 = .ok (.iconst 0, 1) := by decide +kernel
theorem dX2_roadsAhead_12 : decode cX2_roadsAhead 12 = .ok (.istore 5, 2) := by decide +kernel
theorem dX2_roadsAhead_14 : decode cX2_roadsAhead 14 = .ok (.iconst 0, 1) := by decide +kernel
theorem dX2_roadsAhead_15 : decode cX2_roadsAhead 15 = .ok (.istore 6, 2) := by decide +kernel
theorem dX2_roadsAhead_17 : decode cX2_roadsAhead 17 = .ok (.iload 6, 2) := by decide +kernel
theorem dX2_roadsAhead_19 : decode cX2_roadsAhead 19 = .ok (.aload_n 0, 1) := by decide +kernel
theorem dX2_roadsAhead_20 : decode cX2_roadsAhead 20 = .ok (.getfield 27, 3) := by decide +kernel
theorem dX2_roadsAhead_23 : decode cX2_roadsAhead 23 = .ok (.getfield 71, 3) := by decide +kernel
theorem dX2_roadsAhead_26 : decode cX2_roadsAhead 26 = .ok (.if_icmp .ge 36, 3) := by decide +kernel
theorem dX2_roadsAhead_29 : decode cX2_roadsAhead 29 = .ok (.iload_n 3, 1) := by decide +kernel
theorem dX2_roadsAhead_30 : decode cX2_roadsAhead 30 = .ok (.iload 6, 2) := by decide +kernel
theorem dX2_roadsAhead_32 : decode cX2_roadsAhead 32 = .ok (.invokestatic 52, 3) := by decide +kernel
theorem dX2_roadsAhead_35 : decode cX2_roadsAhead 35 = .ok (.ifCond .eq 21, 3) := by decide +kernel
theorem dX2_roadsAhead_38 : decode cX2_roadsAhead 38 = .ok (.aload_n 0, 1) := by decide +kernel
theorem dX2_roadsAhead_39 : decode cX2_roadsAhead 39 = .ok (.iload_n 1, 1) := by decide +kernel
theorem dX2_roadsAhead_40 : decode cX2_roadsAhead 40 = .ok (.iload 6, 2) := by decide +kernel
theorem dX2_roadsAhead_42 : decode cX2_roadsAhead 42 = .ok (.invokevirtual 83, 3) := by decide +kernel
theorem dX2_roadsAhead_45 : decode cX2_roadsAhead 45 = .ok (.invokestatic 86, 3) := by decide +kernel
theorem dX2_roadsAhead_48 : decode cX2_roadsAhead 48 = .ok (.iload 4, 2) := by decide +kernel
theorem dX2_roadsAhead_50 : decode cX2_roadsAhead 50 = .ok (.if_icmp .le 6, 3) := by decide +kernel
theorem dX2_roadsAhead_53 : decode cX2_roadsAhead 53 = .ok (.iinc 5 1, 3) := by decide +kernel
theorem dX2_roadsAhead_56 : decode cX2_roadsAhead 56 = .ok (.iinc 6 1, 3) := by decide +kernel
theorem dX2_roadsAhead_59 : decode cX2_roadsAhead 59 = .ok (.goto (-42), 3) := by decide +kernel
theorem dX2_roadsAhead_62 : decode cX2_roadsAhead 62 = .ok (.iload 5, 2) := by decide +kernel
theorem dX2_roadsAhead_64 : decode cX2_roadsAhead 64 = .ok (.ireturn, 1) := by decide +kernel
theorem dX2_partingRoadsAfter_0 : decode cX2_partingRoadsAfter 0 = .ok (.aload_n 0, 1) := by decide +kernel
theorem dX2_partingRoadsAfter_1 : decode cX2_partingRoadsAfter 1 = .ok (.getfield 68, 3) := by decide +kernel
theorem dX2_partingRoadsAfter_4 : decode cX2_partingRoadsAfter 4 = .ok (.invokestatic 86, 3) := by decide +kernel
theorem dX2_partingRoadsAfter_7 : decode cX2_partingRoadsAfter 7 = .ok (.istore_n 3, 1) := by decide +kernel
theorem dX2_partingRoadsAfter_8 : decode cX2_partingRoadsAfter 8 = .ok (.aload_n 0, 1) := by decide +kernel
theorem dX2_partingRoadsAfter_9 : decode cX2_partingRoadsAfter 9 = .ok (.iload_n 1, 1) := by decide +kernel
theorem dX2_partingRoadsAfter_10 : decode cX2_partingRoadsAfter 10 = .ok (.iload_n 2, 1) := by decide +kernel
theorem dX2_partingRoadsAfter_11 : decode cX2_partingRoadsAfter 11 = .ok (.invokevirtual 99, 3) := by decide +kernel
theorem dX2_partingRoadsAfter_14 : decode cX2_partingRoadsAfter 14 = .ok (.ifCond .eq 17, 3) := by decide +kernel
theorem dX2_partingRoadsAfter_17 : decode cX2_partingRoadsAfter 17 = .ok (.iload_n 3, 1) := by decide +kernel
theorem dX2_partingRoadsAfter_18 : decode cX2_partingRoadsAfter 18 = .ok (.aload_n 0, 1) := by decide +kernel
theorem dX2_partingRoadsAfter_19 : decode cX2_partingRoadsAfter 19 = .ok (.iload_n 1, 1) := by decide +kernel
theorem dX2_partingRoadsAfter_20 : decode cX2_partingRoadsAfter 20 = .ok (.iload_n 2, 1) := by decide +kernel
theorem dX2_partingRoadsAfter_21 : decode cX2_partingRoadsAfter 21 = .ok (.invokevirtual 92, 3) := by decide +kernel
theorem dX2_partingRoadsAfter_24 : decode cX2_partingRoadsAfter 24 = .ok (.invokestatic 86, 3) := by decide +kernel
theorem dX2_partingRoadsAfter_27 : decode cX2_partingRoadsAfter 27 = .ok (.isub, 1) := by decide +kernel
theorem dX2_partingRoadsAfter_28 : decode cX2_partingRoadsAfter 28 = .ok (.goto 6, 3) := by decide +kernel
theorem dX2_partingRoadsAfter_31 : decode cX2_partingRoadsAfter 31 = .ok (.iload_n 3, 1) := by decide +kernel
theorem dX2_partingRoadsAfter_32 : decode cX2_partingRoadsAfter 32 = .ok (.iconst 1, 1) := by decide +kernel
theorem dX2_partingRoadsAfter_33 : decode cX2_partingRoadsAfter 33 = .ok (.iadd, 1) := by decide +kernel
theorem dX2_partingRoadsAfter_34 : decode cX2_partingRoadsAfter 34 = .ok (.ireturn, 1) := by decide +kernel
theorem dX2_morePiecesWithout_0 : decode cX2_morePiecesWithout 0 = .ok (.aload_n 0, 1) := by decide +kernel
theorem dX2_morePiecesWithout_1 : decode cX2_morePiecesWithout 1 = .ok (.getfield 9, 3) := by decide +kernel
theorem dX2_morePiecesWithout_4 : decode cX2_morePiecesWithout 4 = .ok (.iload_n 1, 1) := by decide +kernel
theorem dX2_morePiecesWithout_5 : decode cX2_morePiecesWithout 5 = .ok (.iaload, 1) := by decide +kernel
theorem dX2_morePiecesWithout_6 : decode cX2_morePiecesWithout 6 = .ok (.iconst 1, 1) := by decide +kernel
theorem dX2_morePiecesWithout_7 : decode cX2_morePiecesWithout 7 = .ok (.iload_n 1, 1) := by decide +kernel
theorem dX2_morePiecesWithout_8 : decode cX2_morePiecesWithout 8 = .ok (.ishl, 1) := by decide +kernel
theorem dX2_morePiecesWithout_9 : decode cX2_morePiecesWithout 9 = .ok (.iconst (-1), 1) := by decide +kernel
theorem dX2_morePiecesWithout_10 : decode cX2_morePiecesWithout 10 = .ok (.ixor, 1) := by decide +kernel
theorem dX2_morePiecesWithout_11 : decode cX2_morePiecesWithout 11 = .ok (.iand, 1) := by decide +kernel
theorem dX2_morePiecesWithout_12 : decode cX2_morePiecesWithout 12 = .ok (.istore_n 2, 1) := by decide +kernel
theorem dX2_morePiecesWithout_13 : decode cX2_morePiecesWithout 13 = .ok (.aload_n 0, 1) := by decide +kernel
theorem dX2_morePiecesWithout_14 : decode cX2_morePiecesWithout 14 = .ok (.getfield 27, 3) := by decide +kernel
theorem dX2_morePiecesWithout_17 : decode cX2_morePiecesWithout 17 = .ok (.invokevirtual 56, 3) := by decide +kernel
theorem dX2_morePiecesWithout_20 : decode cX2_morePiecesWithout 20 = .ok (.aload_n 0, 1) := by decide +kernel
theorem dX2_morePiecesWithout_21 : decode cX2_morePiecesWithout 21 = .ok (.getfield 27, 3) := by decide +kernel
theorem dX2_morePiecesWithout_24 : decode cX2_morePiecesWithout 24 = .ok (.iload_n 1, 1) := by decide +kernel
theorem dX2_morePiecesWithout_25 : decode cX2_morePiecesWithout 25 = .ok (.invokevirtual 102, 3) := by decide +kernel
theorem dX2_morePiecesWithout_28 : decode cX2_morePiecesWithout 28 = .ok (.iconst (-1), 1) := by decide +kernel
theorem dX2_morePiecesWithout_29 : decode cX2_morePiecesWithout 29 = .ok (.ixor, 1) := by decide +kernel
theorem dX2_morePiecesWithout_30 : decode cX2_morePiecesWithout 30 = .ok (.iand, 1) := by decide +kernel
theorem dX2_morePiecesWithout_31 : decode cX2_morePiecesWithout 31 = .ok (.istore_n 3, 1) := by decide +kernel
theorem dX2_morePiecesWithout_32 : decode cX2_morePiecesWithout 32 = .ok (.iconst 0, 1) := by decide +kernel
theorem dX2_morePiecesWithout_33 : decode cX2_morePiecesWithout 33 = .ok (.istore 4, 2) := by decide +kernel
theorem dX2_morePiecesWithout_35 : decode cX2_morePiecesWithout 35 = .ok (.iconst 0, 1) := by decide +kernel
theorem dX2_morePiecesWithout_36 : decode cX2_morePiecesWithout 36 = .ok (.istore 5, 2) := by decide +kernel
theorem dX2_morePiecesWithout_38 : decode cX2_morePiecesWithout 38 = .ok (.iload 5, 2) := by decide +kernel
theorem dX2_morePiecesWithout_40 : decode cX2_morePiecesWithout 40 = .ok (.aload_n 0, 1) := by decide +kernel
theorem dX2_morePiecesWithout_41 : decode cX2_morePiecesWithout 41 = .ok (.getfield 27, 3) := by decide +kernel
theorem dX2_morePiecesWithout_44 : decode cX2_morePiecesWithout 44 = .ok (.getfield 47, 3) := by decide +kernel
theorem dX2_morePiecesWithout_47 : decode cX2_morePiecesWithout 47 = .ok (.if_icmp .ge 36, 3) := by decide +kernel
theorem dX2_morePiecesWithout_50 : decode cX2_morePiecesWithout 50 = .ok (.iload_n 2, 1) := by decide +kernel
theorem dX2_morePiecesWithout_51 : decode cX2_morePiecesWithout 51 = .ok (.iload 5, 2) := by decide +kernel
theorem dX2_morePiecesWithout_53 : decode cX2_morePiecesWithout 53 = .ok (.invokestatic 52, 3) := by decide +kernel
theorem dX2_morePiecesWithout_56 : decode cX2_morePiecesWithout 56 = .ok (.ifCond .eq 21, 3) := by decide +kernel
theorem dX2_morePiecesWithout_59 : decode cX2_morePiecesWithout 59 = .ok (.iload_n 2, 1) := by decide +kernel
theorem dX2_morePiecesWithout_60 : decode cX2_morePiecesWithout 60 = .ok (.aload_n 0, 1) := by decide +kernel
theorem dX2_morePiecesWithout_61 : decode cX2_morePiecesWithout 61 = .ok (.getfield 27, 3) := by decide +kernel
theorem dX2_morePiecesWithout_64 : decode cX2_morePiecesWithout 64 = .ok (.iload 5, 2) := by decide +kernel
theorem dX2_morePiecesWithout_66 : decode cX2_morePiecesWithout 66 = .ok (.iload_n 3, 1) := by decide +kernel
theorem dX2_morePiecesWithout_67 : decode cX2_morePiecesWithout 67 = .ok (.invokevirtual 60, 3) := by decide +kernel
theorem dX2_morePiecesWithout_70 : decode cX2_morePiecesWithout 70 = .ok (.iconst (-1), 1) := by decide +kernel
theorem dX2_morePiecesWithout_71 : decode cX2_morePiecesWithout 71 = .ok (.ixor, 1) := by decide +kernel
theorem dX2_morePiecesWithout_72 : decode cX2_morePiecesWithout 72 = .ok (.iand, 1) := by decide +kernel
theorem dX2_morePiecesWithout_73 : decode cX2_morePiecesWithout 73 = .ok (.istore_n 2, 1) := by decide +kernel
theorem dX2_morePiecesWithout_74 : decode cX2_morePiecesWithout 74 = .ok (.iinc 4 1, 3) := by decide +kernel
theorem dX2_morePiecesWithout_77 : decode cX2_morePiecesWithout 77 = .ok (.iinc 5 1, 3) := by decide +kernel
theorem dX2_morePiecesWithout_80 : decode cX2_morePiecesWithout 80 = .ok (.goto (-42), 3) := by decide +kernel
theorem dX2_morePiecesWithout_83 : decode cX2_morePiecesWithout 83 = .ok (.iload 4, 2) := by decide +kernel
theorem dX2_morePiecesWithout_85 : decode cX2_morePiecesWithout 85 = .ok (.iconst 1, 1) := by decide +kernel
theorem dX2_morePiecesWithout_86 : decode cX2_morePiecesWithout 86 = .ok (.isub, 1) := by decide +kernel
theorem dX2_morePiecesWithout_87 : decode cX2_morePiecesWithout 87 = .ok (.iconst 0, 1) := by decide +kernel
theorem dX2_morePiecesWithout_88 : decode cX2_morePiecesWithout 88 = .ok (.invokestatic 105, 3) := by decide +kernel
theorem dX2_morePiecesWithout_91 : decode cX2_morePiecesWithout 91 = .ok (.ireturn, 1) := by decide +kernel
theorem dX2_partingSquares_0 : decode cX2_partingSquares 0 = .ok (.iconst 0, 1) := by decide +kernel
theorem dX2_partingSquares_1 : decode cX2_partingSquares 1 = .ok (.istore_n 1, 1) := by decide +kernel
theorem dX2_partingSquares_2 : decode cX2_partingSquares 2 = .ok (.iconst 0, 1) := by decide +kernel
theorem dX2_partingSquares_3 : decode cX2_partingSquares 3 = .ok (.istore_n 2, 1) := by decide +kernel
theorem dX2_partingSquares_4 : decode cX2_partingSquares 4 = .ok (.iload_n 2, 1) := by decide +kernel
theorem dX2_partingSquares_5 : decode cX2_partingSquares 5 = .ok (.aload_n 0, 1) := by decide +kernel
theorem dX2_partingSquares_6 : decode cX2_partingSquares 6 = .ok (.getfield 27, 3) := by decide +kernel
theorem dX2_partingSquares_9 : decode cX2_partingSquares 9 = .ok (.getfield 47, 3) := by decide +kernel
theorem dX2_partingSquares_12 : decode cX2_partingSquares 12 = .ok (.if_icmp .ge 20, 3) := by decide +kernel
theorem dX2_partingSquares_15 : decode cX2_partingSquares 15 = .ok (.aload_n 0, 1) := by decide +kernel
theorem dX2_partingSquares_16 : decode cX2_partingSquares 16 = .ok (.iload_n 2, 1) := by decide +kernel
theorem dX2_partingSquares_17 : decode cX2_partingSquares 17 = .ok (.invokevirtual 110, 3) := by decide +kernel
theorem dX2_partingSquares_20 : decode cX2_partingSquares 20 = .ok (.ifCond .le 6, 3) := by decide +kernel
theorem dX2_partingSquares_23 : decode cX2_partingSquares 23 = .ok (.iinc 1 1, 3) := by decide +kernel
theorem dX2_partingSquares_26 : decode cX2_partingSquares 26 = .ok (.iinc 2 1, 3) := by decide +kernel
theorem dX2_partingSquares_29 : decode cX2_partingSquares 29 = .ok (.goto (-25), 3) := by decide +kernel
theorem dX2_partingSquares_32 : decode cX2_partingSquares 32 = .ok (.iload_n 1, 1) := by decide +kernel
theorem dX2_partingSquares_33 : decode cX2_partingSquares 33 = .ok (.ireturn, 1) := by decide +kernel
theorem dX2_partingRoadsOut_0 : decode cX2_partingRoadsOut 0 = .ok (.iconst 0, 1) := by decide +kernel
theorem dX2_partingRoadsOut_1 : decode cX2_partingRoadsOut 1 = .ok (.istore_n 2, 1) := by decide +kernel
theorem dX2_partingRoadsOut_2 : decode cX2_partingRoadsOut 2 = .ok (.iconst 0, 1) := by decide +kernel
theorem dX2_partingRoadsOut_3 : decode cX2_partingRoadsOut 3 = .ok (.istore_n 3, 1) := by decide +kernel
theorem dX2_partingRoadsOut_4 : decode cX2_partingRoadsOut 4 = .ok (.iload_n 3, 1) := by decide +kernel
theorem dX2_partingRoadsOut_5 : decode cX2_partingRoadsOut 5 = .ok (.aload_n 0, 1) := by decide +kernel
theorem dX2_partingRoadsOut_6 : decode cX2_partingRoadsOut 6 = .ok (.getfield 27, 3) := by decide +kernel
theorem dX2_partingRoadsOut_9 : decode cX2_partingRoadsOut 9 = .ok (.getfield 71, 3) := by decide +kernel
theorem dX2_partingRoadsOut_12 : decode cX2_partingRoadsOut 12 = .ok (.if_icmp .ge 37, 3) := by decide +kernel
theorem dX2_partingRoadsOut_15 : decode cX2_partingRoadsOut 15 = .ok (.aload_n 0, 1) := by decide +kernel
theorem dX2_partingRoadsOut_16 : decode cX2_partingRoadsOut 16 = .ok (.getfield 68, 3) := by decide +kernel
theorem dX2_partingRoadsOut_19 : decode cX2_partingRoadsOut 19 = .ok (.iload_n 3, 1) := by decide +kernel
theorem dX2_partingRoadsOut_20 : decode cX2_partingRoadsOut 20 = .ok (.invokestatic 52, 3) := by decide +kernel
theorem dX2_partingRoadsOut_23 : decode cX2_partingRoadsOut 23 = .ok (.ifCond .eq 20, 3) := by decide +kernel
theorem dX2_partingRoadsOut_26 : decode cX2_partingRoadsOut 26 = .ok (.aload_n 0, 1) := by decide +kernel
theorem dX2_partingRoadsOut_27 : decode cX2_partingRoadsOut 27 = .ok (.getfield 27, 3) := by decide +kernel
theorem dX2_partingRoadsOut_30 : decode cX2_partingRoadsOut 30 = .ok (.getfield 113, 3) := by decide +kernel
theorem dX2_partingRoadsOut_33 : decode cX2_partingRoadsOut 33 = .ok (.iload_n 3, 1) := by decide +kernel
theorem dX2_partingRoadsOut_34 : decode cX2_partingRoadsOut 34 = .ok (.iaload, 1) := by decide +kernel
theorem dX2_partingRoadsOut_35 : decode cX2_partingRoadsOut 35 = .ok (.iload_n 1, 1) := by decide +kernel
theorem dX2_partingRoadsOut_36 : decode cX2_partingRoadsOut 36 = .ok (.iand, 1) := by decide +kernel
theorem dX2_partingRoadsOut_37 : decode cX2_partingRoadsOut 37 = .ok (.ifCond .eq 6, 3) := by decide +kernel
theorem dX2_partingRoadsOut_40 : decode cX2_partingRoadsOut 40 = .ok (.iinc 2 1, 3) := by decide +kernel
theorem dX2_partingRoadsOut_43 : decode cX2_partingRoadsOut 43 = .ok (.iinc 3 1, 3) := by decide +kernel
theorem dX2_partingRoadsOut_46 : decode cX2_partingRoadsOut 46 = .ok (.goto (-42), 3) := by decide +kernel
theorem dX2_partingRoadsOut_49 : decode cX2_partingRoadsOut 49 = .ok (.iload_n 2, 1) := by decide +kernel
theorem dX2_partingRoadsOut_50 : decode cX2_partingRoadsOut 50 = .ok (.ireturn, 1) := by decide +kernel
theorem dX2_longestDistrict_0 : decode cX2_longestDistrict 0 = .ok (.iconst 0, 1) := by decide +kernel
theorem dX2_longestDistrict_1 : decode cX2_longestDistrict 1 = .ok (.istore_n 1, 1) := by decide +kernel
theorem dX2_longestDistrict_2 : decode cX2_longestDistrict 2 = .ok (.aload_n 0, 1) := by decide +kernel
theorem dX2_longestDistrict_3 : decode cX2_longestDistrict 3 = .ok (.getfield 27, 3) := by decide +kernel
theorem dX2_longestDistrict_6 : decode cX2_longestDistrict 6 = .ok (.aload_n 0, 1) := by decide +kernel
theorem dX2_longestDistrict_7 : decode cX2_longestDistrict 7 = .ok (.getfield 27, 3) := by decide +kernel
theorem dX2_longestDistrict_10 : decode cX2_longestDistrict 10 = .ok (.aload_n 0, 1) := by decide +kernel
theorem dX2_longestDistrict_11 : decode cX2_longestDistrict 11 = .ok (.getfield 18, 3) := by decide +kernel
theorem dX2_longestDistrict_14 : decode cX2_longestDistrict 14 = .ok (.iload_n 1, 1) := by decide +kernel
theorem dX2_longestDistrict_15 : decode cX2_longestDistrict 15 = .ok (.iaload, 1) := by decide +kernel
theorem dX2_longestDistrict_16 : decode cX2_longestDistrict 16 = .ok (.invokevirtual 116, 3) := by decide +kernel
theorem dX2_longestDistrict_19 : decode cX2_longestDistrict 19 = .ok (.invokevirtual 119, 3) := by decide +kernel
theorem dX2_longestDistrict_22 : decode cX2_longestDistrict 22 = .ok (.istore_n 2, 1) := by decide +kernel
theorem dX2_longestDistrict_23 : decode cX2_longestDistrict 23 = .ok (.iconst 1, 1) := by decide +kernel
theorem dX2_longestDistrict_24 : decode cX2_longestDistrict 24 = .ok (.istore_n 3, 1) := by decide +kernel
theorem dX2_longestDistrict_25 : decode cX2_longestDistrict 25 = .ok (.iload_n 3, 1) := by decide +kernel
theorem dX2_longestDistrict_26 : decode cX2_longestDistrict 26 = .ok (.aload_n 0, 1) := by decide +kernel
theorem dX2_longestDistrict_27 : decode cX2_longestDistrict 27 = .ok (.getfield 80, 3) := by decide +kernel
theorem dX2_longestDistrict_30 : decode cX2_longestDistrict 30 = .ok (.if_icmp .ge 42, 3) := by decide +kernel
theorem dX2_longestDistrict_33 : decode cX2_longestDistrict 33 = .ok (.aload_n 0, 1) := by decide +kernel
theorem dX2_longestDistrict_34 : decode cX2_longestDistrict 34 = .ok (.getfield 27, 3) := by decide +kernel
theorem dX2_longestDistrict_37 : decode cX2_longestDistrict 37 = .ok (.aload_n 0, 1) := by decide +kernel
theorem dX2_longestDistrict_38 : decode cX2_longestDistrict 38 = .ok (.getfield 27, 3) := by decide +kernel
theorem dX2_longestDistrict_41 : decode cX2_longestDistrict 41 = .ok (.aload_n 0, 1) := by decide +kernel
theorem dX2_longestDistrict_42 : decode cX2_longestDistrict 42 = .ok (.getfield 18, 3) := by decide +kernel
theorem dX2_longestDistrict_45 : decode cX2_longestDistrict 45 = .ok (.iload_n 3, 1) := by decide +kernel
theorem dX2_longestDistrict_46 : decode cX2_longestDistrict 46 = .ok (.iaload, 1) := by decide +kernel
theorem dX2_longestDistrict_47 : decode cX2_longestDistrict 47 = .ok (.invokevirtual 116, 3) := by decide +kernel
theorem dX2_longestDistrict_50 : decode cX2_longestDistrict 50 = .ok (.invokevirtual 119, 3) := by decide +kernel
theorem dX2_longestDistrict_53 : decode cX2_longestDistrict 53 = .ok (.istore 4, 2) := by decide +kernel
theorem dX2_longestDistrict_55 : decode cX2_longestDistrict 55 = .ok (.iload 4, 2) := by decide +kernel
theorem dX2_longestDistrict_57 : decode cX2_longestDistrict 57 = .ok (.iload_n 2, 1) := by decide +kernel
theorem dX2_longestDistrict_58 : decode cX2_longestDistrict 58 = .ok (.if_icmp .le 8, 3) := by decide +kernel
theorem dX2_longestDistrict_61 : decode cX2_longestDistrict 61 = .ok (.iload 4, 2) := by decide +kernel
theorem dX2_longestDistrict_63 : decode cX2_longestDistrict 63 = .ok (.istore_n 2, 1) := by decide +kernel
theorem dX2_longestDistrict_64 : decode cX2_longestDistrict 64 = .ok (.iload_n 3, 1) := by decide +kernel
theorem dX2_longestDistrict_65 : decode cX2_longestDistrict 65 = .ok (.istore_n 1, 1) := by decide +kernel
theorem dX2_longestDistrict_66 : decode cX2_longestDistrict 66 = .ok (.iinc 3 1, 3) := by decide +kernel
theorem dX2_longestDistrict_69 : decode cX2_longestDistrict 69 = .ok (.goto (-44), 3) := by decide +kernel
theorem dX2_longestDistrict_72 : decode cX2_longestDistrict 72 = .ok (.iload_n 1, 1) := by decide +kernel
theorem dX2_longestDistrict_73 : decode cX2_longestDistrict 73 = .ok (.ireturn, 1) := by decide +kernel
theorem dX2_leafDistricts_0 : decode cX2_leafDistricts 0 = .ok (.iconst 0, 1) := by decide +kernel
theorem dX2_leafDistricts_1 : decode cX2_leafDistricts 1 = .ok (.istore_n 2, 1) := by decide +kernel
theorem dX2_leafDistricts_2 : decode cX2_leafDistricts 2 = .ok (.iconst 0, 1) := by decide +kernel
theorem dX2_leafDistricts_3 : decode cX2_leafDistricts 3 = .ok (.istore_n 3, 1) := by decide +kernel
theorem dX2_leafDistricts_4 : decode cX2_leafDistricts 4 = .ok (.iload_n 3, 1) := by decide +kernel
theorem dX2_leafDistricts_5 : decode cX2_leafDistricts 5 = .ok (.aload_n 0, 1) := by decide +kernel
theorem dX2_leafDistricts_6 : decode cX2_leafDistricts 6 = .ok (.getfield 80, 3) := by decide +kernel
theorem dX2_leafDistricts_9 : decode cX2_leafDistricts 9 = .ok (.if_icmp .ge 37, 3) := by decide +kernel
theorem dX2_leafDistricts_12 : decode cX2_leafDistricts 12 = .ok (.aload_n 0, 1) := by decide +kernel
theorem dX2_leafDistricts_13 : decode cX2_leafDistricts 13 = .ok (.getfield 18, 3) := by decide +kernel
theorem dX2_leafDistricts_16 : decode cX2_leafDistricts 16 = .ok (.iload_n 3, 1) := by decide +kernel
theorem dX2_leafDistricts_17 : decode cX2_leafDistricts 17 = .ok (.iaload, 1) := by decide +kernel
theorem dX2_leafDistricts_18 : decode cX2_leafDistricts 18 = .ok (.istore 4, 2) := by decide +kernel
theorem dX2_leafDistricts_20 : decode cX2_leafDistricts 20 = .ok (.iload 4, 2) := by decide +kernel
theorem dX2_leafDistricts_22 : decode cX2_leafDistricts 22 = .ok (.iload_n 1, 1) := by decide +kernel
theorem dX2_leafDistricts_23 : decode cX2_leafDistricts 23 = .ok (.iand, 1) := by decide +kernel
theorem dX2_leafDistricts_24 : decode cX2_leafDistricts 24 = .ok (.ifCond .eq 16, 3) := by decide +kernel
theorem dX2_leafDistricts_27 : decode cX2_leafDistricts 27 = .ok (.aload_n 0, 1) := by decide +kernel
theorem dX2_leafDistricts_28 : decode cX2_leafDistricts 28 = .ok (.iload 4, 2) := by decide +kernel
theorem dX2_leafDistricts_30 : decode cX2_leafDistricts 30 = .ok (.invokevirtual 122, 3) := by decide +kernel
theorem dX2_leafDistricts_33 : decode cX2_leafDistricts 33 = .ok (.iconst 1, 1) := by decide +kernel
theorem dX2_leafDistricts_34 : decode cX2_leafDistricts 34 = .ok (.if_icmp .ne 6, 3) := by decide +kernel
theorem dX2_leafDistricts_37 : decode cX2_leafDistricts 37 = .ok (.iinc 2 1, 3) := by decide +kernel
theorem dX2_leafDistricts_40 : decode cX2_leafDistricts 40 = .ok (.iinc 3 1, 3) := by decide +kernel
theorem dX2_leafDistricts_43 : decode cX2_leafDistricts 43 = .ok (.goto (-39), 3) := by decide +kernel
theorem dX2_leafDistricts_46 : decode cX2_leafDistricts 46 = .ok (.iload_n 2, 1) := by decide +kernel
theorem dX2_leafDistricts_47 : decode cX2_leafDistricts 47 = .ok (.ireturn, 1) := by decide +kernel
theorem dX2_leastRing_0 : decode cX2_leastRing 0 = .ok (.aload_n 0, 1) := by decide +kernel
theorem dX2_leastRing_1 : decode cX2_leastRing 1 = .ok (.getfield 27, 3) := by decide +kernel
theorem dX2_leastRing_4 : decode cX2_leastRing 4 = .ok (.invokevirtual 56, 3) := by decide +kernel
theorem dX2_leastRing_7 : decode cX2_leastRing 7 = .ok (.iconst 1, 1) := by decide +kernel
theorem dX2_leastRing_8 : decode cX2_leastRing 8 = .ok (.iload_n 1, 1) := by decide +kernel
theorem dX2_leastRing_9 : decode cX2_leastRing 9 = .ok (.ishl, 1) := by decide +kernel
theorem dX2_leastRing_10 : decode cX2_leastRing 10 = .ok (.iconst (-1), 1) := by decide +kernel
theorem dX2_leastRing_11 : decode cX2_leastRing 11 = .ok (.ixor, 1) := by decide +kernel
theorem dX2_leastRing_12 : decode cX2_leastRing 12 = .ok (.iand, 1) := by decide +kernel
theorem dX2_leastRing_13 : decode cX2_leastRing 13 = .ok (.istore_n 2, 1) := by decide +kernel
theorem dX2_leastRing_14 : decode cX2_leastRing 14 = .ok (.iconst 1, 1) := by decide +kernel
theorem dX2_leastRing_15 : decode cX2_leastRing 15 = .ok (.aload_n 0, 1) := by decide +kernel
theorem dX2_leastRing_16 : decode cX2_leastRing 16 = .ok (.getfield 27, 3) := by decide +kernel
theorem dX2_leastRing_19 : decode cX2_leastRing 19 = .ok (.getfield 74, 3) := by decide +kernel
theorem dX2_leastRing_22 : decode cX2_leastRing 22 = .ok (.iload_n 1, 1) := by decide +kernel
theorem dX2_leastRing_23 : decode cX2_leastRing 23 = .ok (.iaload, 1) := by decide +kernel
theorem dX2_leastRing_24 : decode cX2_leastRing 24 = .ok (.ishl, 1) := by decide +kernel
theorem dX2_leastRing_25 : decode cX2_leastRing 25 = .ok (.istore_n 3, 1) := by decide +kernel
theorem dX2_leastRing_26 : decode cX2_leastRing 26 = .ok (.iconst 2, 1) := by decide +kernel
theorem dX2_leastRing_27 : decode cX2_leastRing 27 = .ok (.istore 4, 2) := by decide +kernel
theorem dX2_leastRing_29 : decode cX2_leastRing 29 = .ok (.iload 4, 2) := by decide +kernel
theorem dX2_leastRing_31 : decode cX2_leastRing 31 = .ok (.bipush 16, 2) := by decide +kernel
theorem dX2_leastRing_33 : decode cX2_leastRing 33 = .ok (.if_icmp .gt 38, 3) := by decide +kernel
theorem dX2_leastRing_36 : decode cX2_leastRing 36 = .ok (.aload_n 0, 1) := by decide +kernel
theorem dX2_leastRing_37 : decode cX2_leastRing 37 = .ok (.getfield 27, 3) := by decide +kernel
theorem dX2_leastRing_40 : decode cX2_leastRing 40 = .ok (.iload_n 3, 1) := by decide +kernel
theorem dX2_leastRing_41 : decode cX2_leastRing 41 = .ok (.iload_n 2, 1) := by decide +kernel
theorem dX2_leastRing_42 : decode cX2_leastRing 42 = .ok (.invokevirtual 125, 3) := by decide +kernel
theorem dX2_leastRing_45 : decode cX2_leastRing 45 = .ok (.istore_n 3, 1) := by decide +kernel
theorem dX2_leastRing_46 : decode cX2_leastRing 46 = .ok (.iload_n 3, 1) := by decide +kernel
theorem dX2_leastRing_47 : decode cX2_leastRing 47 = .ok (.aload_n 0, 1) := by decide +kernel
theorem dX2_leastRing_48 : decode cX2_leastRing 48 = .ok (.getfield 27, 3) := by decide +kernel
theorem dX2_leastRing_51 : decode cX2_leastRing 51 = .ok (.getfield 77, 3) := by decide +kernel
theorem dX2_leastRing_54 : decode cX2_leastRing 54 = .ok (.iload_n 1, 1) := by decide +kernel
theorem dX2_leastRing_55 : decode cX2_leastRing 55 = .ok (.iaload, 1) := by decide +kernel
theorem dX2_leastRing_56 : decode cX2_leastRing 56 = .ok (.invokestatic 52, 3) := by decide +kernel
theorem dX2_leastRing_59 : decode cX2_leastRing 59 = .ok (.ifCond .eq 6, 3) := by decide +kernel
theorem dX2_leastRing_62 : decode cX2_leastRing 62 = .ok (.iload 4, 2) := by decide +kernel
theorem dX2_leastRing_64 : decode cX2_leastRing 64 = .ok (.ireturn, 1) := by decide +kernel
theorem dX2_leastRing_65 : decode cX2_leastRing 65 = .ok (.iinc 4 1, 3) := by decide +kernel
theorem dX2_leastRing_68 : decode cX2_leastRing 68 = .ok (.goto (-39), 3) := by decide +kernel
theorem dX2_leastRing_71 : decode cX2_leastRing 71 = .ok (.bipush (-6), 2) := by decide +kernel
theorem dX2_leastRing_73 : decode cX2_leastRing 73 = .ok (.ireturn, 1) := by decide +kernel
theorem dX2_leastLength_0 : decode cX2_leastLength 0 = .ok (.iconst 0, 1) := by decide +kernel
theorem dX2_leastLength_1 : decode cX2_leastLength 1 = .ok (.istore_n 3, 1) := by decide +kernel
theorem dX2_leastLength_2 : decode cX2_leastLength 2 = .ok (.iload_n 3, 1) := by decide +kernel
theorem dX2_leastLength_3 : decode cX2_leastLength 3 = .ok (.bipush 16, 2) := by decide +kernel
theorem dX2_leastLength_5 : decode cX2_leastLength 5 = .ok (.if_icmp .ge 18, 3) := by decide +kernel
theorem dX2_leastLength_8 : decode cX2_leastLength 8 = .ok (.aload_n 0, 1) := by decide +kernel
theorem dX2_leastLength_9 : decode cX2_leastLength 9 = .ok (.getfield 24, 3) := by decide +kernel
theorem dX2_leastLength_12 : decode cX2_leastLength 12 = .ok (.iload_n 3, 1) := by decide +kernel
theorem dX2_leastLength_13 : decode cX2_leastLength 13 = .ok (.sipush 1584, 3) := by decide +kernel
theorem dX2_leastLength_16 : decode cX2_leastLength 16 = .ok (.iastore, 1) := by decide +kernel
theorem dX2_leastLength_17 : decode cX2_leastLength 17 = .ok (.iinc 3 1, 3) := by decide +kernel
theorem dX2_leastLength_20 : decode cX2_leastLength 20 = .ok (.goto (-18), 3) := by decide +kernel
theorem dX2_leastLength_23 : decode cX2_leastLength 23 = .ok (.aload_n 0, 1) := by decide +kernel
theorem dX2_leastLength_24 : decode cX2_leastLength 24 = .ok (.getfield 24, 3) := by decide +kernel
theorem dX2_leastLength_27 : decode cX2_leastLength 27 = .ok (.iload_n 1, 1) := by decide +kernel
theorem dX2_leastLength_28 : decode cX2_leastLength 28 = .ok (.iconst 0, 1) := by decide +kernel
theorem dX2_leastLength_29 : decode cX2_leastLength 29 = .ok (.iastore, 1) := by decide +kernel
theorem dX2_leastLength_30 : decode cX2_leastLength 30 = .ok (.iconst 1, 1) := by decide +kernel
theorem dX2_leastLength_31 : decode cX2_leastLength 31 = .ok (.istore_n 3, 1) := by decide +kernel
theorem dX2_leastLength_32 : decode cX2_leastLength 32 = .ok (.iconst 0, 1) := by decide +kernel
theorem dX2_leastLength_33 : decode cX2_leastLength 33 = .ok (.istore 4, 2) := by decide +kernel
theorem dX2_leastLength_35 : decode cX2_leastLength 35 = .ok (.iload 4, 2) := by decide +kernel
theorem dX2_leastLength_37 : decode cX2_leastLength 37 = .ok (.bipush 16, 2) := by decide +kernel
theorem dX2_leastLength_39 : decode cX2_leastLength 39 = .ok (.if_icmp .ge 110, 3) := by decide +kernel
theorem dX2_leastLength_42 : decode cX2_leastLength 42 = .ok (.iload_n 3, 1) := by decide +kernel
theorem dX2_leastLength_43 : decode cX2_leastLength 43 = .ok (.ifCond .eq 106, 3) := by decide +kernel
theorem dX2_leastLength_46 : decode cX2_leastLength 46 = .ok (.iconst 0, 1) := by decide +kernel
theorem dX2_leastLength_47 : decode cX2_leastLength 47 = .ok (.istore_n 3, 1) := by decide +kernel
theorem dX2_leastLength_48 : decode cX2_leastLength 48 = .ok (.iconst 0, 1) := by decide +kernel
theorem dX2_leastLength_49 : decode cX2_leastLength 49 = .ok (.istore 5, 2) := by decide +kernel
theorem dX2_leastLength_51 : decode cX2_leastLength 51 = .ok (.iload 5, 2) := by decide +kernel
theorem dX2_leastLength_53 : decode cX2_leastLength 53 = .ok (.aload_n 0, 1) := by decide +kernel
theorem dX2_leastLength_54 : decode cX2_leastLength 54 = .ok (.getfield 27, 3) := by decide +kernel
theorem dX2_leastLength_57 : decode cX2_leastLength 57 = .ok (.getfield 71, 3) := by decide +kernel
theorem dX2_leastLength_60 : decode cX2_leastLength 60 = .ok (.if_icmp .ge 83, 3) := by decide +kernel
theorem dX2_leastLength_63 : decode cX2_leastLength 63 = .ok (.iload_n 3, 1) := by decide +kernel
theorem dX2_leastLength_64 : decode cX2_leastLength 64 = .ok (.aload_n 0, 1) := by decide +kernel
theorem dX2_leastLength_65 : decode cX2_leastLength 65 = .ok (.aload_n 0, 1) := by decide +kernel
theorem dX2_leastLength_66 : decode cX2_leastLength 66 = .ok (.getfield 27, 3) := by decide +kernel
theorem dX2_leastLength_69 : decode cX2_leastLength 69 = .ok (.getfield 74, 3) := by decide +kernel
theorem dX2_leastLength_72 : decode cX2_leastLength 72 = .ok (.iload 5, 2) := by decide +kernel
theorem dX2_leastLength_74 : decode cX2_leastLength 74 = .ok (.iaload, 1) := by decide +kernel
theorem dX2_leastLength_75 : decode cX2_leastLength 75 = .ok (.aload_n 0, 1) := by decide +kernel
theorem dX2_leastLength_76 : decode cX2_leastLength 76 = .ok (.getfield 27, 3) := by decide +kernel
theorem dX2_leastLength_79 : decode cX2_leastLength 79 = .ok (.getfield 77, 3) := by decide +kernel
theorem dX2_leastLength_82 : decode cX2_leastLength 82 = .ok (.iload 5, 2) := by decide +kernel
theorem dX2_leastLength_84 : decode cX2_leastLength 84 = .ok (.iaload, 1) := by decide +kernel
theorem dX2_leastLength_85 : decode cX2_leastLength 85 = .ok (.aload_n 0, 1) := by decide +kernel
theorem dX2_leastLength_86 : decode cX2_leastLength 86 = .ok (.getfield 27, 3) := by decide +kernel
theorem dX2_leastLength_89 : decode cX2_leastLength 89 = .ok (.getfield 128, 3) := by decide +kernel
theorem dX2_leastLength_92 : decode cX2_leastLength 92 = .ok (.iload 5, 2) := by decide +kernel
theorem dX2_leastLength_94 : decode cX2_leastLength 94 = .ok (.iaload, 1) := by decide +kernel
theorem dX2_leastLength_95 : decode cX2_leastLength 95 = .ok (.invokevirtual 131, 3) := by decide +kernel
theorem dX2_leastLength_98 : decode cX2_leastLength 98 = .ok (.ior, 1) := by decide +kernel
theorem dX2_leastLength_99 : decode cX2_leastLength 99 = .ok (.istore_n 3, 1) := by decide +kernel
theorem dX2_leastLength_100 : decode cX2_leastLength 100 = .ok (.iload_n 3, 1) := by decide +kernel
theorem dX2_leastLength_101 : decode cX2_leastLength 101 = .ok (.aload_n 0, 1) := by decide +kernel
theorem dX2_leastLength_102 : decode cX2_leastLength 102 = .ok (.aload_n 0, 1) := by decide +kernel
theorem dX2_leastLength_103 : decode cX2_leastLength 103 = .ok (.getfield 27, 3) := by decide +kernel
theorem dX2_leastLength_106 : decode cX2_leastLength 106 = .ok (.getfield 77, 3) := by decide +kernel
theorem dX2_leastLength_109 : decode cX2_leastLength 109 = .ok (.iload 5, 2) := by decide +kernel
theorem dX2_leastLength_111 : decode cX2_leastLength 111 = .ok (.iaload, 1) := by decide +kernel
theorem dX2_leastLength_112 : decode cX2_leastLength 112 = .ok (.aload_n 0, 1) := by decide +kernel
theorem dX2_leastLength_113 : decode cX2_leastLength 113 = .ok (.getfield 27, 3) := by decide +kernel
theorem dX2_leastLength_116 : decode cX2_leastLength 116 = .ok (.getfield 74, 3) := by decide +kernel
theorem dX2_leastLength_119 : decode cX2_leastLength 119 = .ok (.iload 5, 2) := by decide +kernel
theorem dX2_leastLength_121 : decode cX2_leastLength 121 = .ok (.iaload, 1) := by decide +kernel
theorem dX2_leastLength_122 : decode cX2_leastLength 122 = .ok (.aload_n 0, 1) := by decide +kernel
theorem dX2_leastLength_123 : decode cX2_leastLength 123 = .ok (.getfield 27, 3) := by decide +kernel
theorem dX2_leastLength_126 : decode cX2_leastLength 126 = .ok (.getfield 128, 3) := by decide +kernel
theorem dX2_leastLength_129 : decode cX2_leastLength 129 = .ok (.iload 5, 2) := by decide +kernel
theorem dX2_leastLength_131 : decode cX2_leastLength 131 = .ok (.iaload, 1) := by decide +kernel
theorem dX2_leastLength_132 : decode cX2_leastLength 132 = .ok (.invokevirtual 131, 3) := by decide +kernel
theorem dX2_leastLength_135 : decode cX2_leastLength 135 = .ok (.ior, 1) := by decide +kernel
theorem dX2_leastLength_136 : decode cX2_leastLength 136 = .ok (.istore_n 3, 1) := by decide +kernel
theorem dX2_leastLength_137 : decode cX2_leastLength 137 = .ok (.iinc 5 1, 3) := by decide +kernel
theorem dX2_leastLength_140 : decode cX2_leastLength 140 = .ok (.goto (-89), 3) := by decide +kernel
theorem dX2_leastLength_143 : decode cX2_leastLength 143 = .ok (.iinc 4 1, 3) := by decide +kernel
theorem dX2_leastLength_146 : decode cX2_leastLength 146 = .ok (.goto (-111), 3) := by decide +kernel
theorem dX2_leastLength_149 : decode cX2_leastLength 149 = .ok (.aload_n 0, 1) := by decide +kernel
theorem dX2_leastLength_150 : decode cX2_leastLength 150 = .ok (.getfield 24, 3) := by decide +kernel
theorem dX2_leastLength_153 : decode cX2_leastLength 153 = .ok (.iload_n 2, 1) := by decide +kernel
theorem dX2_leastLength_154 : decode cX2_leastLength 154 = .ok (.iaload, 1) := by decide +kernel
theorem dX2_leastLength_155 : decode cX2_leastLength 155 = .ok (.ireturn, 1) := by decide +kernel
theorem dX2_shorten_0 : decode cX2_shorten 0 = .ok (.aload_n 0, 1) := by decide +kernel
theorem dX2_shorten_1 : decode cX2_shorten 1 = .ok (.getfield 24, 3) := by decide +kernel
theorem dX2_shorten_4 : decode cX2_shorten 4 = .ok (.iload_n 1, 1) := by decide +kernel
theorem dX2_shorten_5 : decode cX2_shorten 5 = .ok (.iaload, 1) := by decide +kernel
theorem dX2_shorten_6 : decode cX2_shorten 6 = .ok (.iload_n 3, 1) := by decide +kernel
theorem dX2_shorten_7 : decode cX2_shorten 7 = .ok (.iadd, 1) := by decide +kernel
theorem dX2_shorten_8 : decode cX2_shorten 8 = .ok (.aload_n 0, 1) := by decide +kernel
theorem dX2_shorten_9 : decode cX2_shorten 9 = .ok (.getfield 24, 3) := by decide +kernel
theorem dX2_shorten_12 : decode cX2_shorten 12 = .ok (.iload_n 2, 1) := by decide +kernel
theorem dX2_shorten_13 : decode cX2_shorten 13 = .ok (.iaload, 1) := by decide +kernel
theorem dX2_shorten_14 : decode cX2_shorten 14 = .ok (.if_icmp .lt 5, 3) := by decide +kernel
theorem dX2_shorten_17 : decode cX2_shorten 17 = .ok (.iconst 0, 1) := by decide +kernel
theorem dX2_shorten_18 : decode cX2_shorten 18 = .ok (.ireturn, 1) := by decide +kernel
theorem dX2_shorten_19 : decode cX2_shorten 19 = .ok (.aload_n 0, 1) := by decide +kernel
theorem dX2_shorten_20 : decode cX2_shorten 20 = .ok (.getfield 24, 3) := by decide +kernel
theorem dX2_shorten_23 : decode cX2_shorten 23 = .ok (.iload_n 2, 1) := by decide +kernel
theorem dX2_shorten_24 : decode cX2_shorten 24 = .ok (.aload_n 0, 1) := by decide +kernel
theorem dX2_shorten_25 : decode cX2_shorten 25 = .ok (.getfield 24, 3) := by decide +kernel
theorem dX2_shorten_28 : decode cX2_shorten 28 = .ok (.iload_n 1, 1) := by decide +kernel
theorem dX2_shorten_29 : decode cX2_shorten 29 = .ok (.iaload, 1) := by decide +kernel
theorem dX2_shorten_30 : decode cX2_shorten 30 = .ok (.iload_n 3, 1) := by decide +kernel
theorem dX2_shorten_31 : decode cX2_shorten 31 = .ok (.iadd, 1) := by decide +kernel
theorem dX2_shorten_32 : decode cX2_shorten 32 = .ok (.iastore, 1) := by decide +kernel
theorem dX2_shorten_33 : decode cX2_shorten 33 = .ok (.iconst 1, 1) := by decide +kernel
theorem dX2_shorten_34 : decode cX2_shorten 34 = .ok (.ireturn, 1) := by decide +kernel
theorem dX3_init_0 : decode cX3_init 0 = .ok (.aload_n 0, 1) := by decide +kernel
theorem dX3_init_1 : decode cX3_init 1 = .ok (.invokespecial 3, 3) := by decide +kernel
theorem dX3_init_4 : decode cX3_init 4 = .ok (.aload_n 0, 1) := by decide +kernel
theorem dX3_init_5 : decode cX3_init 5 = .ok (.bipush 8, 2) := by decide +kernel
theorem dX3_init_7 : decode cX3_init 7 = .ok (.putfield 9, 3) := by decide +kernel
theorem dX3_init_10 : decode cX3_init 10 = .ok (.aload_n 0, 1) := by decide +kernel
theorem dX3_init_11 : decode cX3_init 11 = .ok (.iconst 0, 1) := by decide +kernel
theorem dX3_init_12 : decode cX3_init 12 = .ok (.putfield 15, 3) := by decide +kernel
theorem dX3_init_15 : decode cX3_init 15 = .ok (.aload_n 0, 1) := by decide +kernel
theorem dX3_init_16 : decode cX3_init 16 = .ok (.bipush 30, 2) := by decide +kernel
theorem dX3_init_18 : decode cX3_init 18 = .ok (.newarray .int, 2) := by decide +kernel
theorem dX3_init_20 : decode cX3_init 20 = .ok (.putfield 18, 3) := by decide +kernel
theorem dX3_init_23 : decode cX3_init 23 = .ok (.aload_n 0, 1) := by decide +kernel
theorem dX3_init_24 : decode cX3_init 24 = .ok (.bipush 30, 2) := by decide +kernel
theorem dX3_init_26 : decode cX3_init 26 = .ok (.newarray .int, 2) := by decide +kernel
theorem dX3_init_28 : decode cX3_init 28 = .ok (.putfield 22, 3) := by decide +kernel
theorem dX3_init_31 : decode cX3_init 31 = .ok (.aload_n 0, 1) := by decide +kernel
theorem dX3_init_32 : decode cX3_init 32 = .ok (.bipush 30, 2) := by decide +kernel
theorem dX3_init_34 : decode cX3_init 34 = .ok (.newarray .int, 2) := by decide +kernel
theorem dX3_init_36 : decode cX3_init 36 = .ok (.putfield 25, 3) := by decide +kernel
theorem dX3_init_39 : decode cX3_init 39 = .ok (.aload_n 0, 1) := by decide +kernel
theorem dX3_init_40 : decode cX3_init 40 = .ok (.bipush 30, 2) := by decide +kernel
theorem dX3_init_42 : decode cX3_init 42 = .ok (.newarray .int, 2) := by decide +kernel
theorem dX3_init_44 : decode cX3_init 44 = .ok (.putfield 28, 3) := by decide +kernel
theorem dX3_init_47 : decode cX3_init 47 = .ok (.return_, 1) := by decide +kernel
theorem dX3_copyFrom_0 : decode cX3_copyFrom 0 = .ok (.aload_n 0, 1) := by decide +kernel
theorem dX3_copyFrom_1 : decode cX3_copyFrom 1 = .ok (.aload_n 1, 1) := by decide +kernel
theorem dX3_copyFrom_2 : decode cX3_copyFrom 2 = .ok (.getfield 9, 3) := by decide +kernel
theorem dX3_copyFrom_5 : decode cX3_copyFrom 5 = .ok (.putfield 9, 3) := by decide +kernel
theorem dX3_copyFrom_8 : decode cX3_copyFrom 8 = .ok (.aload_n 0, 1) := by decide +kernel
theorem dX3_copyFrom_9 : decode cX3_copyFrom 9 = .ok (.aload_n 1, 1) := by decide +kernel
theorem dX3_copyFrom_10 : decode cX3_copyFrom 10 = .ok (.getfield 15, 3) := by decide +kernel
theorem dX3_copyFrom_13 : decode cX3_copyFrom 13 = .ok (.putfield 15, 3) := by decide +kernel
theorem dX3_copyFrom_16 : decode cX3_copyFrom 16 = .ok (.aload_n 1, 1) := by decide +kernel
theorem dX3_copyFrom_17 : decode cX3_copyFrom 17 = .ok (.getfield 18, 3) := by decide +kernel
theorem dX3_copyFrom_20 : decode cX3_copyFrom 20 = .ok (.iconst 0, 1) := by decide +kernel
theorem dX3_copyFrom_21 : decode cX3_copyFrom 21 = .ok (.aload_n 0, 1) := by decide +kernel
theorem dX3_copyFrom_22 : decode cX3_copyFrom 22 = .ok (.getfield 18, 3) := by decide +kernel
theorem dX3_copyFrom_25 : decode cX3_copyFrom 25 = .ok (.iconst 0, 1) := by decide +kernel
theorem dX3_copyFrom_26 : decode cX3_copyFrom 26 = .ok (.bipush 30, 2) := by decide +kernel
theorem dX3_copyFrom_28 : decode cX3_copyFrom 28 = .ok (.invokestatic 31, 3) := by decide +kernel
theorem dX3_copyFrom_31 : decode cX3_copyFrom 31 = .ok (.aload_n 1, 1) := by decide +kernel
theorem dX3_copyFrom_32 : decode cX3_copyFrom 32 = .ok (.getfield 22, 3) := by decide +kernel
theorem dX3_copyFrom_35 : decode cX3_copyFrom 35 = .ok (.iconst 0, 1) := by decide +kernel
theorem dX3_copyFrom_36 : decode cX3_copyFrom 36 = .ok (.aload_n 0, 1) := by decide +kernel
theorem dX3_copyFrom_37 : decode cX3_copyFrom 37 = .ok (.getfield 22, 3) := by decide +kernel
theorem dX3_copyFrom_40 : decode cX3_copyFrom 40 = .ok (.iconst 0, 1) := by decide +kernel
theorem dX3_copyFrom_41 : decode cX3_copyFrom 41 = .ok (.bipush 30, 2) := by decide +kernel
theorem dX3_copyFrom_43 : decode cX3_copyFrom 43 = .ok (.invokestatic 31, 3) := by decide +kernel
theorem dX3_copyFrom_46 : decode cX3_copyFrom 46 = .ok (.aload_n 1, 1) := by decide +kernel
theorem dX3_copyFrom_47 : decode cX3_copyFrom 47 = .ok (.getfield 25, 3) := by decide +kernel
theorem dX3_copyFrom_50 : decode cX3_copyFrom 50 = .ok (.iconst 0, 1) := by decide +kernel
theorem dX3_copyFrom_51 : decode cX3_copyFrom 51 = .ok (.aload_n 0, 1) := by decide +kernel
theorem dX3_copyFrom_52 : decode cX3_copyFrom 52 = .ok (.getfield 25, 3) := by decide +kernel
theorem dX3_copyFrom_55 : decode cX3_copyFrom 55 = .ok (.iconst 0, 1) := by decide +kernel
theorem dX3_copyFrom_56 : decode cX3_copyFrom 56 = .ok (.bipush 30, 2) := by decide +kernel
theorem dX3_copyFrom_58 : decode cX3_copyFrom 58 = .ok (.invokestatic 31, 3) := by decide +kernel
theorem dX3_copyFrom_61 : decode cX3_copyFrom 61 = .ok (.aload_n 1, 1) := by decide +kernel
theorem dX3_copyFrom_62 : decode cX3_copyFrom 62 = .ok (.getfield 28, 3) := by decide +kernel
theorem dX3_copyFrom_65 : decode cX3_copyFrom 65 = .ok (.iconst 0, 1) := by decide +kernel
theorem dX3_copyFrom_66 : decode cX3_copyFrom 66 = .ok (.aload_n 0, 1) := by decide +kernel
theorem dX3_copyFrom_67 : decode cX3_copyFrom 67 = .ok (.getfield 28, 3) := by decide +kernel
theorem dX3_copyFrom_70 : decode cX3_copyFrom 70 = .ok (.iconst 0, 1) := by decide +kernel
theorem dX3_copyFrom_71 : decode cX3_copyFrom 71 = .ok (.bipush 30, 2) := by decide +kernel
theorem dX3_copyFrom_73 : decode cX3_copyFrom 73 = .ok (.invokestatic 31, 3) := by decide +kernel
theorem dX3_copyFrom_76 : decode cX3_copyFrom 76 = .ok (.return_, 1) := by decide +kernel
theorem dX3_hasSquare_0 : decode cX3_hasSquare 0 = .ok (.iload_n 1, 1) := by decide +kernel
theorem dX3_hasSquare_1 : decode cX3_hasSquare 1 = .ok (.ifCond .lt 15, 3) := by decide +kernel
theorem dX3_hasSquare_4 : decode cX3_hasSquare 4 = .ok (.iload_n 1, 1) := by decide +kernel
theorem dX3_hasSquare_5 : decode cX3_hasSquare 5 = .ok (.aload_n 0, 1) := by decide +kernel
theorem dX3_hasSquare_6 : decode cX3_hasSquare 6 = .ok (.getfield 9, 3) := by decide +kernel
theorem dX3_hasSquare_9 : decode cX3_hasSquare 9 = .ok (.if_icmp .ge 7, 3) := by decide +kernel
theorem dX3_hasSquare_12 : decode cX3_hasSquare 12 = .ok (.iconst 1, 1) := by decide +kernel
theorem dX3_hasSquare_13 : decode cX3_hasSquare 13 = .ok (.goto 4, 3) := by decide +kernel
theorem dX3_hasSquare_16 : decode cX3_hasSquare 16 = .ok (.iconst 0, 1) := by decide +kernel
theorem dX3_hasSquare_17 : decode cX3_hasSquare 17 = .ok (.ireturn, 1) := by decide +kernel
theorem dX3_hasRoad_0 : decode cX3_hasRoad 0 = .ok (.iload_n 1, 1) := by decide +kernel
theorem dX3_hasRoad_1 : decode cX3_hasRoad 1 = .ok (.ifCond .lt 15, 3) := by decide +kernel
theorem dX3_hasRoad_4 : decode cX3_hasRoad 4 = .ok (.iload_n 1, 1) := by decide +kernel
theorem dX3_hasRoad_5 : decode cX3_hasRoad 5 = .ok (.aload_n 0, 1) := by decide +kernel
theorem dX3_hasRoad_6 : decode cX3_hasRoad 6 = .ok (.getfield 15, 3) := by decide +kernel
theorem dX3_hasRoad_9 : decode cX3_hasRoad 9 = .ok (.if_icmp .ge 7, 3) := by decide +kernel
theorem dX3_hasRoad_12 : decode cX3_hasRoad 12 = .ok (.iconst 1, 1) := by decide +kernel
theorem dX3_hasRoad_13 : decode cX3_hasRoad 13 = .ok (.goto 4, 3) := by decide +kernel
theorem dX3_hasRoad_16 : decode cX3_hasRoad 16 = .ok (.iconst 0, 1) := by decide +kernel
theorem dX3_hasRoad_17 : decode cX3_hasRoad 17 = .ok (.ireturn, 1) := by decide +kernel
theorem dX3_fitsInto_0 : decode cX3_fitsInto 0 = .ok (.iconst 0, 1) := by decide +kernel
theorem dX3_fitsInto_1 : decode cX3_fitsInto 1 = .ok (.istore_n 2, 1) := by decide +kernel
theorem dX3_fitsInto_2 : decode cX3_fitsInto 2 = .ok (.iload_n 2, 1) := by decide +kernel
theorem dX3_fitsInto_3 : decode cX3_fitsInto 3 = .ok (.aload_n 0, 1) := by decide +kernel
theorem dX3_fitsInto_4 : decode cX3_fitsInto 4 = .ok (.getfield 15, 3) := by decide +kernel
theorem dX3_fitsInto_7 : decode cX3_fitsInto 7 = .ok (.if_icmp .ge 21, 3) := by decide +kernel
theorem dX3_fitsInto_10 : decode cX3_fitsInto 10 = .ok (.aload_n 0, 1) := by decide +kernel
theorem dX3_fitsInto_11 : decode cX3_fitsInto 11 = .ok (.getfield 22, 3) := by decide +kernel
theorem dX3_fitsInto_14 : decode cX3_fitsInto 14 = .ok (.iload_n 2, 1) := by decide +kernel
theorem dX3_fitsInto_15 : decode cX3_fitsInto 15 = .ok (.iaload, 1) := by decide +kernel
theorem dX3_fitsInto_16 : decode cX3_fitsInto 16 = .ok (.iload_n 1, 1) := by decide +kernel
theorem dX3_fitsInto_17 : decode cX3_fitsInto 17 = .ok (.if_icmp .lt 5, 3) := by decide +kernel
theorem dX3_fitsInto_20 : decode cX3_fitsInto 20 = .ok (.iconst 0, 1) := by decide +kernel
theorem dX3_fitsInto_21 : decode cX3_fitsInto 21 = .ok (.ireturn, 1) := by decide +kernel
theorem dX3_fitsInto_22 : decode cX3_fitsInto 22 = .ok (.iinc 2 1, 3) := by decide +kernel
theorem dX3_fitsInto_25 : decode cX3_fitsInto 25 = .ok (.goto (-23), 3) := by decide +kernel
theorem dX3_fitsInto_28 : decode cX3_fitsInto 28 = .ok (.iconst 1, 1) := by decide +kernel
theorem dX3_fitsInto_29 : decode cX3_fitsInto 29 = .ok (.ireturn, 1) := by decide +kernel
theorem dX3_addRoad_0 : decode cX3_addRoad 0 = .ok (.aload_n 0, 1) := by decide +kernel
theorem dX3_addRoad_1 : decode cX3_addRoad 1 = .ok (.getfield 15, 3) := by decide +kernel
theorem dX3_addRoad_4 : decode cX3_addRoad 4 = .ok (.bipush 30, 2) := by decide +kernel
theorem dX3_addRoad_6 : decode cX3_addRoad 6 = .ok (.if_icmp .lt 4, 3) := by decide +kernel
theorem dX3_addRoad_9 : decode cX3_addRoad 9 = .ok (.return_, 1) := by decide +kernel
theorem dX3_addRoad_10 : decode cX3_addRoad 10 = .ok (.aload_n 0, 1) := by decide +kernel
theorem dX3_addRoad_11 : decode cX3_addRoad 11 = .ok (.getfield 18, 3) := by decide +kernel
theorem dX3_addRoad_14 : decode cX3_addRoad 14 = .ok (.aload_n 0, 1) := by decide +kernel
theorem dX3_addRoad_15 : decode cX3_addRoad 15 = .ok (.getfield 15, 3) := by decide +kernel
theorem dX3_addRoad_18 : decode cX3_addRoad 18 = .ok (.iload_n 1, 1) := by decide +kernel
theorem dX3_addRoad_19 : decode cX3_addRoad 19 = .ok (.iload_n 2, 1) := by decide +kernel
theorem dX3_addRoad_20 : decode cX3_addRoad 20 = .ok (.invokestatic 37, 3) := by decide +kernel
theorem dX3_addRoad_23 : decode cX3_addRoad 23 = .ok (.iastore, 1) := by decide +kernel
theorem dX3_addRoad_24 : decode cX3_addRoad 24 = .ok (.aload_n 0, 1) := by decide +kernel
theorem dX3_addRoad_25 : decode cX3_addRoad 25 = .ok (.getfield 22, 3) := by decide +kernel
theorem dX3_addRoad_28 : decode cX3_addRoad 28 = .ok (.aload_n 0, 1) := by decide +kernel
theorem dX3_addRoad_29 : decode cX3_addRoad 29 = .ok (.getfield 15, 3) := by decide +kernel
theorem dX3_addRoad_32 : decode cX3_addRoad 32 = .ok (.iload_n 1, 1) := by decide +kernel
theorem dX3_addRoad_33 : decode cX3_addRoad 33 = .ok (.iload_n 2, 1) := by decide +kernel
theorem dX3_addRoad_34 : decode cX3_addRoad 34 = .ok (.invokestatic 43, 3) := by decide +kernel
theorem dX3_addRoad_37 : decode cX3_addRoad 37 = .ok (.iastore, 1) := by decide +kernel
theorem dX3_addRoad_38 : decode cX3_addRoad 38 = .ok (.aload_n 0, 1) := by decide +kernel
theorem dX3_addRoad_39 : decode cX3_addRoad 39 = .ok (.getfield 25, 3) := by decide +kernel
theorem dX3_addRoad_42 : decode cX3_addRoad 42 = .ok (.aload_n 0, 1) := by decide +kernel
theorem dX3_addRoad_43 : decode cX3_addRoad 43 = .ok (.getfield 15, 3) := by decide +kernel
theorem dX3_addRoad_46 : decode cX3_addRoad 46 = .ok (.iload_n 3, 1) := by decide +kernel
theorem dX3_addRoad_47 : decode cX3_addRoad 47 = .ok (.iastore, 1) := by decide +kernel
theorem dX3_addRoad_48 : decode cX3_addRoad 48 = .ok (.aload_n 0, 1) := by decide +kernel
theorem dX3_addRoad_49 : decode cX3_addRoad 49 = .ok (.getfield 28, 3) := by decide +kernel
theorem dX3_addRoad_52 : decode cX3_addRoad 52 = .ok (.aload_n 0, 1) := by decide +kernel
theorem dX3_addRoad_53 : decode cX3_addRoad 53 = .ok (.getfield 15, 3) := by decide +kernel
theorem dX3_addRoad_56 : decode cX3_addRoad 56 = .ok (.iconst 1, 1) := by decide +kernel
theorem dX3_addRoad_57 : decode cX3_addRoad 57 = .ok (.iload_n 1, 1) := by decide +kernel
theorem dX3_addRoad_58 : decode cX3_addRoad 58 = .ok (.ishl, 1) := by decide +kernel
theorem dX3_addRoad_59 : decode cX3_addRoad 59 = .ok (.iconst 1, 1) := by decide +kernel
theorem dX3_addRoad_60 : decode cX3_addRoad 60 = .ok (.iload_n 2, 1) := by decide +kernel
theorem dX3_addRoad_61 : decode cX3_addRoad 61 = .ok (.ishl, 1) := by decide +kernel
theorem dX3_addRoad_62 : decode cX3_addRoad 62 = .ok (.ior, 1) := by decide +kernel
theorem dX3_addRoad_63 : decode cX3_addRoad 63 = .ok (.iastore, 1) := by decide +kernel
theorem dX3_addRoad_64 : decode cX3_addRoad 64 = .ok (.aload_n 0, 1) := by decide +kernel
theorem dX3_addRoad_65 : decode cX3_addRoad 65 = .ok (.dup, 1) := by decide +kernel
theorem dX3_addRoad_66 : decode cX3_addRoad 66 = .ok (.getfield 15, 3) := by decide +kernel
theorem dX3_addRoad_69 : decode cX3_addRoad 69 = .ok (.iconst 1, 1) := by decide +kernel
theorem dX3_addRoad_70 : decode cX3_addRoad 70 = .ok (.iadd, 1) := by decide +kernel
theorem dX3_addRoad_71 : decode cX3_addRoad 71 = .ok (.putfield 15, 3) := by decide +kernel
theorem dX3_addRoad_74 : decode cX3_addRoad 74 = .ok (.return_, 1) := by decide +kernel
theorem dX3_removeRoad_0 : decode cX3_removeRoad 0 = .ok (.iload_n 1, 1) := by decide +kernel
theorem dX3_removeRoad_1 : decode cX3_removeRoad 1 = .ok (.iconst 1, 1) := by decide +kernel
theorem dX3_removeRoad_2 : decode cX3_removeRoad 2 = .ok (.iadd, 1) := by decide +kernel
theorem dX3_removeRoad_3 : decode cX3_removeRoad 3 = .ok (.istore_n 2, 1) := by decide +kernel
theorem dX3_removeRoad_4 : decode cX3_removeRoad 4 = .ok (.iload_n 2, 1) := by decide +kernel
theorem dX3_removeRoad_5 : decode cX3_removeRoad 5 = .ok (.aload_n 0, 1) := by decide +kernel
theorem dX3_removeRoad_6 : decode cX3_removeRoad 6 = .ok (.getfield 15, 3) := by decide +kernel
theorem dX3_removeRoad_9 : decode cX3_removeRoad 9 = .ok (.if_icmp .ge 65, 3) := by decide +kernel
theorem dX3_removeRoad_12 : decode cX3_removeRoad 12 = .ok (.aload_n 0, 1) := by decide +kernel
theorem dX3_removeRoad_13 : decode cX3_removeRoad 13 = .ok (.getfield 18, 3) := by decide +kernel
theorem dX3_removeRoad_16 : decode cX3_removeRoad 16 = .ok (.iload_n 2, 1) := by decide +kernel
theorem dX3_removeRoad_17 : decode cX3_removeRoad 17 = .ok (.iconst 1, 1) := by decide +kernel
theorem dX3_removeRoad_18 : decode cX3_removeRoad 18 = .ok (.isub, 1) := by decide +kernel
theorem dX3_removeRoad_19 : decode cX3_removeRoad 19 = .ok (.aload_n 0, 1) := by decide +kernel
theorem dX3_removeRoad_20 : decode cX3_removeRoad 20 = .ok (.getfield 18, 3) := by decide +kernel
theorem dX3_removeRoad_23 : decode cX3_removeRoad 23 = .ok (.iload_n 2, 1) := by decide +kernel
theorem dX3_removeRoad_24 : decode cX3_removeRoad 24 = .ok (.iaload, 1) := by decide +kernel
theorem dX3_removeRoad_25 : decode cX3_removeRoad 25 = .ok (.iastore, 1) := by decide +kernel
theorem dX3_removeRoad_26 : decode cX3_removeRoad 26 = .ok (.aload_n 0, 1) := by decide +kernel
theorem dX3_removeRoad_27 : decode cX3_removeRoad 27 = .ok (.getfield 22, 3) := by decide +kernel
theorem dX3_removeRoad_30 : decode cX3_removeRoad 30 = .ok (.iload_n 2, 1) := by decide +kernel
theorem dX3_removeRoad_31 : decode cX3_removeRoad 31 = .ok (.iconst 1, 1) := by decide +kernel
theorem dX3_removeRoad_32 : decode cX3_removeRoad 32 = .ok (.isub, 1) := by decide +kernel
theorem dX3_removeRoad_33 : decode cX3_removeRoad 33 = .ok (.aload_n 0, 1) := by decide +kernel
theorem dX3_removeRoad_34 : decode cX3_removeRoad 34 = .ok (.getfield 22, 3) := by decide +kernel
theorem dX3_removeRoad_37 : decode cX3_removeRoad 37 = .ok (.iload_n 2, 1) := by decide +kernel
theorem dX3_removeRoad_38 : decode cX3_removeRoad 38 = .ok (.iaload, 1) := by decide +kernel
theorem dX3_removeRoad_39 : decode cX3_removeRoad 39 = .ok (.iastore, 1) := by decide +kernel
theorem dX3_removeRoad_40 : decode cX3_removeRoad 40 = .ok (.aload_n 0, 1) := by decide +kernel
theorem dX3_removeRoad_41 : decode cX3_removeRoad 41 = .ok (.getfield 25, 3) := by decide +kernel
theorem dX3_removeRoad_44 : decode cX3_removeRoad 44 = .ok (.iload_n 2, 1) := by decide +kernel
theorem dX3_removeRoad_45 : decode cX3_removeRoad 45 = .ok (.iconst 1, 1) := by decide +kernel
theorem dX3_removeRoad_46 : decode cX3_removeRoad 46 = .ok (.isub, 1) := by decide +kernel
theorem dX3_removeRoad_47 : decode cX3_removeRoad 47 = .ok (.aload_n 0, 1) := by decide +kernel
theorem dX3_removeRoad_48 : decode cX3_removeRoad 48 = .ok (.getfield 25, 3) := by decide +kernel
theorem dX3_removeRoad_51 : decode cX3_removeRoad 51 = .ok (.iload_n 2, 1) := by decide +kernel
theorem dX3_removeRoad_52 : decode cX3_removeRoad 52 = .ok (.iaload, 1) := by decide +kernel
theorem dX3_removeRoad_53 : decode cX3_removeRoad 53 = .ok (.iastore, 1) := by decide +kernel
theorem dX3_removeRoad_54 : decode cX3_removeRoad 54 = .ok (.aload_n 0, 1) := by decide +kernel
theorem dX3_removeRoad_55 : decode cX3_removeRoad 55 = .ok (.getfield 28, 3) := by decide +kernel
theorem dX3_removeRoad_58 : decode cX3_removeRoad 58 = .ok (.iload_n 2, 1) := by decide +kernel
theorem dX3_removeRoad_59 : decode cX3_removeRoad 59 = .ok (.iconst 1, 1) := by decide +kernel
theorem dX3_removeRoad_60 : decode cX3_removeRoad 60 = .ok (.isub, 1) := by decide +kernel
theorem dX3_removeRoad_61 : decode cX3_removeRoad 61 = .ok (.aload_n 0, 1) := by decide +kernel
theorem dX3_removeRoad_62 : decode cX3_removeRoad 62 = .ok (.getfield 28, 3) := by decide +kernel
theorem dX3_removeRoad_65 : decode cX3_removeRoad 65 = .ok (.iload_n 2, 1) := by decide +kernel
theorem dX3_removeRoad_66 : decode cX3_removeRoad 66 = .ok (.iaload, 1) := by decide +kernel
theorem dX3_removeRoad_67 : decode cX3_removeRoad 67 = .ok (.iastore, 1) := by decide +kernel
theorem dX3_removeRoad_68 : decode cX3_removeRoad 68 = .ok (.iinc 2 1, 3) := by decide +kernel
theorem dX3_removeRoad_71 : decode cX3_removeRoad 71 = .ok (.goto (-67), 3) := by decide +kernel
theorem dX3_removeRoad_74 : decode cX3_removeRoad 74 = .ok (.aload_n 0, 1) := by decide +kernel
theorem dX3_removeRoad_75 : decode cX3_removeRoad 75 = .ok (.dup, 1) := by decide +kernel
theorem dX3_removeRoad_76 : decode cX3_removeRoad 76 = .ok (.getfield 15, 3) := by decide +kernel
theorem dX3_removeRoad_79 : decode cX3_removeRoad 79 = .ok (.iconst 1, 1) := by decide +kernel
theorem dX3_removeRoad_80 : decode cX3_removeRoad 80 = .ok (.isub, 1) := by decide +kernel
theorem dX3_removeRoad_81 : decode cX3_removeRoad 81 = .ok (.putfield 15, 3) := by decide +kernel
theorem dX3_removeRoad_84 : decode cX3_removeRoad 84 = .ok (.return_, 1) := by decide +kernel
theorem dX3_allRoads_0 : decode cX3_allRoads 0 = .ok (.iconst 1, 1) := by decide +kernel
theorem dX3_allRoads_1 : decode cX3_allRoads 1 = .ok (.aload_n 0, 1) := by decide +kernel
theorem dX3_allRoads_2 : decode cX3_allRoads 2 = .ok (.getfield 15, 3) := by decide +kernel
theorem dX3_allRoads_5 : decode cX3_allRoads 5 = .ok (.ishl, 1) := by decide +kernel
theorem dX3_allRoads_6 : decode cX3_allRoads 6 = .ok (.iconst 1, 1) := by decide +kernel
theorem dX3_allRoads_7 : decode cX3_allRoads 7 = .ok (.isub, 1) := by decide +kernel
theorem dX3_allRoads_8 : decode cX3_allRoads 8 = .ok (.ireturn, 1) := by decide +kernel
theorem dX3_roadsAt_0 : decode cX3_roadsAt 0 = .ok (.iconst 0, 1) := by decide +kernel
theorem dX3_roadsAt_1 : decode cX3_roadsAt 1 = .ok (.istore_n 2, 1) := by decide +kernel
theorem dX3_roadsAt_2 : decode cX3_roadsAt 2 = .ok (.iconst 0, 1) := by decide +kernel
theorem dX3_roadsAt_3 : decode cX3_roadsAt 3 = .ok (.istore_n 3, 1) := by decide +kernel
theorem dX3_roadsAt_4 : decode cX3_roadsAt 4 = .ok (.iload_n 3, 1) := by decide +kernel
theorem dX3_roadsAt_5 : decode cX3_roadsAt 5 = .ok (.aload_n 0, 1) := by decide +kernel
theorem dX3_roadsAt_6 : decode cX3_roadsAt 6 = .ok (.getfield 15, 3) := by decide +kernel
theorem dX3_roadsAt_9 : decode cX3_roadsAt 9 = .ok (.if_icmp .ge 28, 3) := by decide +kernel
theorem dX3_roadsAt_12 : decode cX3_roadsAt 12 = .ok (.aload_n 0, 1) := by decide +kernel
theorem dX3_roadsAt_13 : decode cX3_roadsAt 13 = .ok (.getfield 28, 3) := by decide +kernel
theorem dX3_roadsAt_16 : decode cX3_roadsAt 16 = .ok (.iload_n 3, 1) := by decide +kernel
theorem dX3_roadsAt_17 : decode cX3_roadsAt 17 = .ok (.iaload, 1) := by decide +kernel
theorem dX3_roadsAt_18 : decode cX3_roadsAt 18 = .ok (.iload_n 1, 1) := by decide +kernel
theorem dX3_roadsAt_19 : decode cX3_roadsAt 19 = .ok (.invokestatic 46, 3) := by decide +kernel
theorem dX3_roadsAt_22 : decode cX3_roadsAt 22 = .ok (.ifCond .eq 9, 3) := by decide +kernel
theorem dX3_roadsAt_25 : decode cX3_roadsAt 25 = .ok (.iload_n 2, 1) := by decide +kernel
theorem dX3_roadsAt_26 : decode cX3_roadsAt 26 = .ok (.iconst 1, 1) := by decide +kernel
theorem dX3_roadsAt_27 : decode cX3_roadsAt 27 = .ok (.iload_n 3, 1) := by decide +kernel
theorem dX3_roadsAt_28 : decode cX3_roadsAt 28 = .ok (.ishl, 1) := by decide +kernel
theorem dX3_roadsAt_29 : decode cX3_roadsAt 29 = .ok (.ior, 1) := by decide +kernel
theorem dX3_roadsAt_30 : decode cX3_roadsAt 30 = .ok (.istore_n 2, 1) := by decide +kernel
theorem dX3_roadsAt_31 : decode cX3_roadsAt 31 = .ok (.iinc 3 1, 3) := by decide +kernel
theorem dX3_roadsAt_34 : decode cX3_roadsAt 34 = .ok (.goto (-30), 3) := by decide +kernel
theorem dX3_roadsAt_37 : decode cX3_roadsAt 37 = .ok (.iload_n 2, 1) := by decide +kernel
theorem dX3_roadsAt_38 : decode cX3_roadsAt 38 = .ok (.ireturn, 1) := by decide +kernel
theorem dX3_roadsWithin_0 : decode cX3_roadsWithin 0 = .ok (.iconst 0, 1) := by decide +kernel
theorem dX3_roadsWithin_1 : decode cX3_roadsWithin 1 = .ok (.istore_n 2, 1) := by decide +kernel
theorem dX3_roadsWithin_2 : decode cX3_roadsWithin 2 = .ok (.iconst 0, 1) := by decide +kernel
theorem dX3_roadsWithin_3 : decode cX3_roadsWithin 3 = .ok (.istore_n 3, 1) := by decide +kernel
theorem dX3_roadsWithin_4 : decode cX3_roadsWithin 4 = .ok (.iload_n 3, 1) := by decide +kernel
theorem dX3_roadsWithin_5 : decode cX3_roadsWithin 5 = .ok (.aload_n 0, 1) := by decide +kernel
theorem dX3_roadsWithin_6 : decode cX3_roadsWithin 6 = .ok (.getfield 15, 3) := by decide +kernel
theorem dX3_roadsWithin_9 : decode cX3_roadsWithin 9 = .ok (.if_icmp .ge 28, 3) := by decide +kernel
theorem dX3_roadsWithin_12 : decode cX3_roadsWithin 12 = .ok (.aload_n 0, 1) := by decide +kernel
theorem dX3_roadsWithin_13 : decode cX3_roadsWithin 13 = .ok (.getfield 28, 3) := by decide +kernel
theorem dX3_roadsWithin_16 : decode cX3_roadsWithin 16 = .ok (.iload_n 3, 1) := by decide +kernel
theorem dX3_roadsWithin_17 : decode cX3_roadsWithin 17 = .ok (.iaload, 1) := by decide +kernel
theorem dX3_roadsWithin_18 : decode cX3_roadsWithin 18 = .ok (.iload_n 1, 1) := by decide +kernel
theorem dX3_roadsWithin_19 : decode cX3_roadsWithin 19 = .ok (.iconst (-1), 1) := by decide +kernel
theorem dX3_roadsWithin_20 : decode cX3_roadsWithin 20 = .ok (.ixor, 1) := by decide +kernel
theorem dX3_roadsWithin_21 : decode cX3_roadsWithin 21 = .ok (.iand, 1) := by decide +kernel
theorem dX3_roadsWithin_22 : decode cX3_roadsWithin 22 = .ok (.ifCond .ne 9, 3) := by decide +kernel
theorem dX3_roadsWithin_25 : decode cX3_roadsWithin 25 = .ok (.iload_n 2, 1) := by decide +kernel
theorem dX3_roadsWithin_26 : decode cX3_roadsWithin 26 = .ok (.iconst 1, 1) := by decide +kernel
theorem dX3_roadsWithin_27 : decode cX3_roadsWithin 27 = .ok (.iload_n 3, 1) := by decide +kernel
theorem dX3_roadsWithin_28 : decode cX3_roadsWithin 28 = .ok (.ishl, 1) := by decide +kernel
theorem dX3_roadsWithin_29 : decode cX3_roadsWithin 29 = .ok (.ior, 1) := by decide +kernel
theorem dX3_roadsWithin_30 : decode cX3_roadsWithin 30 = .ok (.istore_n 2, 1) := by decide +kernel
theorem dX3_roadsWithin_31 : decode cX3_roadsWithin 31 = .ok (.iinc 3 1, 3) := by decide +kernel
theorem dX3_roadsWithin_34 : decode cX3_roadsWithin 34 = .ok (.goto (-30), 3) := by decide +kernel
theorem dX3_roadsWithin_37 : decode cX3_roadsWithin 37 = .ok (.iload_n 2, 1) := by decide +kernel
theorem dX3_roadsWithin_38 : decode cX3_roadsWithin 38 = .ok (.ireturn, 1) := by decide +kernel
theorem dX3_lengthOf_0 : decode cX3_lengthOf 0 = .ok (.iconst 0, 1) := by decide +kernel
theorem dX3_lengthOf_1 : decode cX3_lengthOf 1 = .ok (.istore_n 2, 1) := by decide +kernel
theorem dX3_lengthOf_2 : decode cX3_lengthOf 2 = .ok (.iconst 0, 1) := by decide +kernel
theorem dX3_lengthOf_3 : decode cX3_lengthOf 3 = .ok (.istore_n 3, 1) := by decide +kernel
theorem dX3_lengthOf_4 : decode cX3_lengthOf 4 = .ok (.iload_n 3, 1) := by decide +kernel
theorem dX3_lengthOf_5 : decode cX3_lengthOf 5 = .ok (.aload_n 0, 1) := by decide +kernel
theorem dX3_lengthOf_6 : decode cX3_lengthOf 6 = .ok (.getfield 15, 3) := by decide +kernel
theorem dX3_lengthOf_9 : decode cX3_lengthOf 9 = .ok (.if_icmp .ge 26, 3) := by decide +kernel
theorem dX3_lengthOf_12 : decode cX3_lengthOf 12 = .ok (.iload_n 1, 1) := by decide +kernel
theorem dX3_lengthOf_13 : decode cX3_lengthOf 13 = .ok (.iload_n 3, 1) := by decide +kernel
theorem dX3_lengthOf_14 : decode cX3_lengthOf 14 = .ok (.invokestatic 46, 3) := by decide +kernel
theorem dX3_lengthOf_17 : decode cX3_lengthOf 17 = .ok (.ifCond .eq 12, 3) := by decide +kernel
theorem dX3_lengthOf_20 : decode cX3_lengthOf 20 = .ok (.iload_n 2, 1) := by decide +kernel
theorem dX3_lengthOf_21 : decode cX3_lengthOf 21 = .ok (.aload_n 0, 1) := by decide +kernel
theorem dX3_lengthOf_22 : decode cX3_lengthOf 22 = .ok (.getfield 25, 3) := by decide +kernel
theorem dX3_lengthOf_25 : decode cX3_lengthOf 25 = .ok (.iload_n 3, 1) := by decide +kernel
theorem dX3_lengthOf_26 : decode cX3_lengthOf 26 = .ok (.iaload, 1) := by decide +kernel
theorem dX3_lengthOf_27 : decode cX3_lengthOf 27 = .ok (.iadd, 1) := by decide +kernel
theorem dX3_lengthOf_28 : decode cX3_lengthOf 28 = .ok (.istore_n 2, 1) := by decide +kernel
theorem dX3_lengthOf_29 : decode cX3_lengthOf 29 = .ok (.iinc 3 1, 3) := by decide +kernel
theorem dX3_lengthOf_32 : decode cX3_lengthOf 32 = .ok (.goto (-28), 3) := by decide +kernel
theorem dX3_lengthOf_35 : decode cX3_lengthOf 35 = .ok (.iload_n 2, 1) := by decide +kernel
theorem dX3_lengthOf_36 : decode cX3_lengthOf 36 = .ok (.ireturn, 1) := by decide +kernel
theorem dX3_oneRoadFurther_0 : decode cX3_oneRoadFurther 0 = .ok (.iload_n 1, 1) := by decide +kernel
theorem dX3_oneRoadFurther_1 : decode cX3_oneRoadFurther 1 = .ok (.istore_n 3, 1) := by decide +kernel
theorem dX3_oneRoadFurther_2 : decode cX3_oneRoadFurther 2 = .ok (.iconst 0, 1) := by decide +kernel
theorem dX3_oneRoadFurther_3 : decode cX3_oneRoadFurther 3 = .ok (.istore 4, 2) := by decide +kernel
theorem dX3_oneRoadFurther_5 : decode cX3_oneRoadFurther 5 = .ok (.iload 4, 2) := by decide +kernel
theorem dX3_oneRoadFurther_7 : decode cX3_oneRoadFurther 7 = .ok (.aload_n 0, 1) := by decide +kernel
theorem dX3_oneRoadFurther_8 : decode cX3_oneRoadFurther 8 = .ok (.getfield 15, 3) := by decide +kernel
theorem dX3_oneRoadFurther_11 : decode cX3_oneRoadFurther 11 = .ok (.if_icmp .ge 40, 3) := by decide +kernel
theorem dX3_oneRoadFurther_14 : decode cX3_oneRoadFurther 14 = .ok (.iload_n 2, 1) := by decide +kernel
theorem dX3_oneRoadFurther_15 : decode cX3_oneRoadFurther 15 = .ok (.iload 4, 2) := by decide +kernel
theorem dX3_oneRoadFurther_17 : decode cX3_oneRoadFurther 17 = .ok (.invokestatic 46, 3) := by decide +kernel
theorem dX3_oneRoadFurther_20 : decode cX3_oneRoadFurther 20 = .ok (.ifCond .eq 25, 3) := by decide +kernel
theorem dX3_oneRoadFurther_23 : decode cX3_oneRoadFurther 23 = .ok (.aload_n 0, 1) := by decide +kernel
theorem dX3_oneRoadFurther_24 : decode cX3_oneRoadFurther 24 = .ok (.getfield 28, 3) := by decide +kernel
theorem dX3_oneRoadFurther_27 : decode cX3_oneRoadFurther 27 = .ok (.iload 4, 2) := by decide +kernel
theorem dX3_oneRoadFurther_29 : decode cX3_oneRoadFurther 29 = .ok (.iaload, 1) := by decide +kernel
theorem dX3_oneRoadFurther_30 : decode cX3_oneRoadFurther 30 = .ok (.iload_n 1, 1) := by decide +kernel
theorem dX3_oneRoadFurther_31 : decode cX3_oneRoadFurther 31 = .ok (.iand, 1) := by decide +kernel
theorem dX3_oneRoadFurther_32 : decode cX3_oneRoadFurther 32 = .ok (.ifCond .eq 13, 3) := by decide +kernel
theorem dX3_oneRoadFurther_35 : decode cX3_oneRoadFurther 35 = .ok (.iload_n 3, 1) := by decide +kernel
theorem dX3_oneRoadFurther_36 : decode cX3_oneRoadFurther 36 = .ok (.aload_n 0, 1) := by decide +kernel
theorem dX3_oneRoadFurther_37 : decode cX3_oneRoadFurther 37 = .ok (.getfield 28, 3) := by decide +kernel
theorem dX3_oneRoadFurther_40 : decode cX3_oneRoadFurther 40 = .ok (.iload 4, 2) := by decide +kernel
theorem dX3_oneRoadFurther_42 : decode cX3_oneRoadFurther 42 = .ok (.iaload, 1) := by decide +kernel
theorem dX3_oneRoadFurther_43 : decode cX3_oneRoadFurther 43 = .ok (.ior, 1) := by decide +kernel
theorem dX3_oneRoadFurther_44 : decode cX3_oneRoadFurther 44 = .ok (.istore_n 3, 1) := by decide +kernel
theorem dX3_oneRoadFurther_45 : decode cX3_oneRoadFurther 45 = .ok (.iinc 4 1, 3) := by decide +kernel
theorem dX3_oneRoadFurther_48 : decode cX3_oneRoadFurther 48 = .ok (.goto (-43), 3) := by decide +kernel
theorem dX3_oneRoadFurther_51 : decode cX3_oneRoadFurther 51 = .ok (.iload_n 3, 1) := by decide +kernel
theorem dX3_oneRoadFurther_52 : decode cX3_oneRoadFurther 52 = .ok (.ireturn, 1) := by decide +kernel
theorem dX3_reach_0 : decode cX3_reach 0 = .ok (.iconst 1, 1) := by decide +kernel
theorem dX3_reach_1 : decode cX3_reach 1 = .ok (.iload_n 1, 1) := by decide +kernel
theorem dX3_reach_2 : decode cX3_reach 2 = .ok (.ishl, 1) := by decide +kernel
theorem dX3_reach_3 : decode cX3_reach 3 = .ok (.istore_n 3, 1) := by decide +kernel
theorem dX3_reach_4 : decode cX3_reach 4 = .ok (.iconst 0, 1) := by decide +kernel
theorem dX3_reach_5 : decode cX3_reach 5 = .ok (.istore 4, 2) := by decide +kernel
theorem dX3_reach_7 : decode cX3_reach 7 = .ok (.iconst 0, 1) := by decide +kernel
theorem dX3_reach_8 : decode cX3_reach 8 = .ok (.istore 5, 2) := by decide +kernel
theorem dX3_reach_10 : decode cX3_reach 10 = .ok (.iload 5, 2) := by decide +kernel
theorem dX3_reach_12 : decode cX3_reach 12 = .ok (.bipush 16, 2) := by decide +kernel
theorem dX3_reach_14 : decode cX3_reach 14 = .ok (.if_icmp .ge 67, 3) := by decide +kernel
theorem dX3_reach_17 : decode cX3_reach 17 = .ok (.iload_n 3, 1) := by decide +kernel
theorem dX3_reach_18 : decode cX3_reach 18 = .ok (.iload 4, 2) := by decide +kernel
theorem dX3_reach_20 : decode cX3_reach 20 = .ok (.if_icmp .eq 61, 3) := by decide +kernel
theorem dX3_reach_23 : decode cX3_reach 23 = .ok (.iload_n 3, 1) := by decide +kernel
theorem dX3_reach_24 : decode cX3_reach 24 = .ok (.istore 4, 2) := by decide +kernel
theorem dX3_reach_26 : decode cX3_reach 26 = .ok (.iconst 0, 1) := by decide +kernel
theorem dX3_reach_27 : decode cX3_reach 27 = .ok (.istore 6, 2) := by decide +kernel
theorem dX3_reach_29 : decode cX3_reach 29 = .ok (.iload 6, 2) := by decide +kernel
theorem dX3_reach_31 : decode cX3_reach 31 = .ok (.aload_n 0, 1) := by decide +kernel
theorem dX3_reach_32 : decode cX3_reach 32 = .ok (.getfield 15, 3) := by decide +kernel
theorem dX3_reach_35 : decode cX3_reach 35 = .ok (.if_icmp .ge 40, 3) := by decide +kernel
theorem dX3_reach_38 : decode cX3_reach 38 = .ok (.iload_n 2, 1) := by decide +kernel
theorem dX3_reach_39 : decode cX3_reach 39 = .ok (.iload 6, 2) := by decide +kernel
theorem dX3_reach_41 : decode cX3_reach 41 = .ok (.invokestatic 46, 3) := by decide +kernel
theorem dX3_reach_44 : decode cX3_reach 44 = .ok (.ifCond .eq 25, 3) := by decide +kernel
theorem dX3_reach_47 : decode cX3_reach 47 = .ok (.aload_n 0, 1) := by decide +kernel
theorem dX3_reach_48 : decode cX3_reach 48 = .ok (.getfield 28, 3) := by decide +kernel
theorem dX3_reach_51 : decode cX3_reach 51 = .ok (.iload 6, 2) := by decide +kernel
theorem dX3_reach_53 : decode cX3_reach 53 = .ok (.iaload, 1) := by decide +kernel
theorem dX3_reach_54 : decode cX3_reach 54 = .ok (.iload_n 3, 1) := by decide +kernel
theorem dX3_reach_55 : decode cX3_reach 55 = .ok (.iand, 1) := by decide +kernel
theorem dX3_reach_56 : decode cX3_reach 56 = .ok (.ifCond .eq 13, 3) := by decide +kernel
theorem dX3_reach_59 : decode cX3_reach 59 = .ok (.iload_n 3, 1) := by decide +kernel
theorem dX3_reach_60 : decode cX3_reach 60 = .ok (.aload_n 0, 1) := by decide +kernel
theorem dX3_reach_61 : decode cX3_reach 61 = .ok (.getfield 28, 3) := by decide +kernel
theorem dX3_reach_64 : decode cX3_reach 64 = .ok (.iload 6, 2) := by decide +kernel
theorem dX3_reach_66 : decode cX3_reach 66 = .ok (.iaload, 1) := by decide +kernel
theorem dX3_reach_67 : decode cX3_reach 67 = .ok (.ior, 1) := by decide +kernel
theorem dX3_reach_68 : decode cX3_reach 68 = .ok (.istore_n 3, 1) := by decide +kernel
theorem dX3_reach_69 : decode cX3_reach 69 = .ok (.iinc 6 1, 3) := by decide +kernel
theorem dX3_reach_72 : decode cX3_reach 72 = .ok (.goto (-43), 3) := by decide +kernel
theorem dX3_reach_75 : decode cX3_reach 75 = .ok (.iinc 5 1, 3) := by decide +kernel
theorem dX3_reach_78 : decode cX3_reach 78 = .ok (.goto (-68), 3) := by decide +kernel
theorem dX3_reach_81 : decode cX3_reach 81 = .ok (.iload_n 3, 1) := by decide +kernel
theorem dX3_reach_82 : decode cX3_reach 82 = .ok (.ireturn, 1) := by decide +kernel
theorem dX4_init_0 : decode cX4_init 0 = .ok (.aload_n 0, 1) := by decide +kernel
theorem dX4_init_1 : decode cX4_init 1 = .ok (.invokespecial 1, 3) := by decide +kernel
theorem dX4_init_4 : decode cX4_init 4 = .ok (.aload_n 0, 1) := by decide +kernel
theorem dX4_init_5 : decode cX4_init 5 = .ok (.new 7, 3) := by decide +kernel
theorem dX4_init_8 : decode cX4_init 8 = .ok (.dup, 1) := by decide +kernel
theorem dX4_init_9 : decode cX4_init 9 = .ok (.invokespecial 9, 3) := by decide +kernel
theorem dX4_init_12 : decode cX4_init 12 = .ok (.putfield 10, 3) := by decide +kernel
theorem dX4_init_15 : decode cX4_init 15 = .ok (.aload_n 0, 1) := by decide +kernel
theorem dX4_init_16 : decode cX4_init 16 = .ok (.new 16, 3) := by decide +kernel
theorem dX4_init_19 : decode cX4_init 19 = .ok (.dup, 1) := by decide +kernel
theorem dX4_init_20 : decode cX4_init 20 = .ok (.aload_n 0, 1) := by decide +kernel
theorem dX4_init_21 : decode cX4_init 21 = .ok (.getfield 10, 3) := by decide +kernel
theorem dX4_init_24 : decode cX4_init 24 = .ok (.invokespecial 18, 3) := by decide +kernel
theorem dX4_init_27 : decode cX4_init 27 = .ok (.putfield 21, 3) := by decide +kernel
theorem dX4_init_30 : decode cX4_init 30 = .ok (.aload_n 0, 1) := by decide +kernel
theorem dX4_init_31 : decode cX4_init 31 = .ok (.new 25, 3) := by decide +kernel
theorem dX4_init_34 : decode cX4_init 34 = .ok (.dup, 1) := by decide +kernel
theorem dX4_init_35 : decode cX4_init 35 = .ok (.invokespecial 27, 3) := by decide +kernel
theorem dX4_init_38 : decode cX4_init 38 = .ok (.putfield 28, 3) := by decide +kernel
theorem dX4_init_41 : decode cX4_init 41 = .ok (.aload_n 0, 1) := by decide +kernel
theorem dX4_init_42 : decode cX4_init 42 = .ok (.new 32, 3) := by decide +kernel
theorem dX4_init_45 : decode cX4_init 45 = .ok (.dup, 1) := by decide +kernel
theorem dX4_init_46 : decode cX4_init 46 = .ok (.invokespecial 34, 3) := by decide +kernel
theorem dX4_init_49 : decode cX4_init 49 = .ok (.putfield 35, 3) := by decide +kernel
theorem dX4_init_52 : decode cX4_init 52 = .ok (.aload_n 0, 1) := by decide +kernel
theorem dX4_init_53 : decode cX4_init 53 = .ok (.iconst 2, 1) := by decide +kernel
theorem dX4_init_54 : decode cX4_init 54 = .ok (.anewarray 7, 3) := by decide +kernel
theorem dX4_init_57 : decode cX4_init 57 = .ok (.putfield 39, 3) := by decide +kernel
theorem dX4_init_60 : decode cX4_init 60 = .ok (.iconst 0, 1) := by decide +kernel
theorem dX4_init_61 : decode cX4_init 61 = .ok (.istore_n 1, 1) := by decide +kernel
theorem dX4_init_62 : decode cX4_init 62 = .ok (.iload_n 1, 1) := by decide +kernel
theorem dX4_init_63 : decode cX4_init 63 = .ok (.iconst 2, 1) := by decide +kernel
theorem dX4_init_64 : decode cX4_init 64 = .ok (.if_icmp .ge 22, 3) := by decide +kernel
theorem dX4_init_67 : decode cX4_init 67 = .ok (.aload_n 0, 1) := by decide +kernel
theorem dX4_init_68 : decode cX4_init 68 = .ok (.getfield 39, 3) := by decide +kernel
theorem dX4_init_71 : decode cX4_init 71 = .ok (.iload_n 1, 1) := by decide +kernel
theorem dX4_init_72 : decode cX4_init 72 = .ok (.new 7, 3) := by decide +kernel
theorem dX4_init_75 : decode cX4_init 75 = .ok (.dup, 1) := by decide +kernel
theorem dX4_init_76 : decode cX4_init 76 = .ok (.invokespecial 9, 3) := by decide +kernel
theorem dX4_init_79 : decode cX4_init 79 = .ok (.aastore, 1) := by decide +kernel
theorem dX4_init_80 : decode cX4_init 80 = .ok (.iinc 1 1, 3) := by decide +kernel
theorem dX4_init_83 : decode cX4_init 83 = .ok (.goto (-21), 3) := by decide +kernel
theorem dX4_init_86 : decode cX4_init 86 = .ok (.aload_n 0, 1) := by decide +kernel
theorem dX4_init_87 : decode cX4_init 87 = .ok (.iconst 2, 1) := by decide +kernel
theorem dX4_init_88 : decode cX4_init 88 = .ok (.newarray .boolean, 2) := by decide +kernel
theorem dX4_init_90 : decode cX4_init 90 = .ok (.putfield 43, 3) := by decide +kernel
theorem dX4_init_93 : decode cX4_init 93 = .ok (.return_, 1) := by decide +kernel
theorem dX4_squares_0 : decode cX4_squares 0 = .ok (.iload_n 1, 1) := by decide +kernel
theorem dX4_squares_1 : decode cX4_squares 1 = .ok (.iconst 2, 1) := by decide +kernel
theorem dX4_squares_2 : decode cX4_squares 2 = .ok (.if_icmp .lt 9, 3) := by decide +kernel
theorem dX4_squares_5 : decode cX4_squares 5 = .ok (.iload_n 1, 1) := by decide +kernel
theorem dX4_squares_6 : decode cX4_squares 6 = .ok (.bipush 16, 2) := by decide +kernel
theorem dX4_squares_8 : decode cX4_squares 8 = .ok (.if_icmp .le 6, 3) := by decide +kernel
theorem dX4_squares_11 : decode cX4_squares 11 = .ok (.bipush (-2), 2) := by decide +kernel
theorem dX4_squares_13 : decode cX4_squares 13 = .ok (.ireturn, 1) := by decide +kernel
theorem dX4_squares_14 : decode cX4_squares 14 = .ok (.aload_n 0, 1) := by decide +kernel
theorem dX4_squares_15 : decode cX4_squares 15 = .ok (.getfield 10, 3) := by decide +kernel
theorem dX4_squares_18 : decode cX4_squares 18 = .ok (.iload_n 1, 1) := by decide +kernel
theorem dX4_squares_19 : decode cX4_squares 19 = .ok (.invokevirtual 47, 3) := by decide +kernel
theorem dX4_squares_22 : decode cX4_squares 22 = .ok (.ifCond .ne 6, 3) := by decide +kernel
theorem dX4_squares_25 : decode cX4_squares 25 = .ok (.bipush (-5), 2) := by decide +kernel
theorem dX4_squares_27 : decode cX4_squares 27 = .ok (.ireturn, 1) := by decide +kernel
theorem dX4_squares_28 : decode cX4_squares 28 = .ok (.aload_n 0, 1) := by decide +kernel
theorem dX4_squares_29 : decode cX4_squares 29 = .ok (.getfield 10, 3) := by decide +kernel
theorem dX4_squares_32 : decode cX4_squares 32 = .ok (.getfield 51, 3) := by decide +kernel
theorem dX4_squares_35 : decode cX4_squares 35 = .ok (.istore_n 2, 1) := by decide +kernel
theorem dX4_squares_36 : decode cX4_squares 36 = .ok (.aload_n 0, 1) := by decide +kernel
theorem dX4_squares_37 : decode cX4_squares 37 = .ok (.getfield 35, 3) := by decide +kernel
theorem dX4_squares_40 : decode cX4_squares 40 = .ok (.aload_n 0, 1) := by decide +kernel
theorem dX4_squares_41 : decode cX4_squares 41 = .ok (.getfield 10, 3) := by decide +kernel
theorem dX4_squares_44 : decode cX4_squares 44 = .ok (.invokevirtual 55, 3) := by decide +kernel
theorem dX4_squares_47 : decode cX4_squares 47 = .ok (.aload_n 0, 1) := by decide +kernel
theorem dX4_squares_48 : decode cX4_squares 48 = .ok (.getfield 10, 3) := by decide +kernel
theorem dX4_squares_51 : decode cX4_squares 51 = .ok (.iload_n 1, 1) := by decide +kernel
theorem dX4_squares_52 : decode cX4_squares 52 = .ok (.putfield 51, 3) := by decide +kernel
theorem dX4_squares_55 : decode cX4_squares 55 = .ok (.aload_n 0, 1) := by decide +kernel
theorem dX4_squares_56 : decode cX4_squares 56 = .ok (.getfield 21, 3) := by decide +kernel
theorem dX4_squares_59 : decode cX4_squares 59 = .ok (.invokevirtual 58, 3) := by decide +kernel
theorem dX4_squares_62 : decode cX4_squares 62 = .ok (.iload_n 2, 1) := by decide +kernel
theorem dX4_squares_63 : decode cX4_squares 63 = .ok (.ireturn, 1) := by decide +kernel
theorem dX4_build_0 : decode cX4_build 0 = .ok (.aload_n 0, 1) := by decide +kernel
theorem dX4_build_1 : decode cX4_build 1 = .ok (.getfield 10, 3) := by decide +kernel
theorem dX4_build_4 : decode cX4_build 4 = .ok (.iload_n 1, 1) := by decide +kernel
theorem dX4_build_5 : decode cX4_build 5 = .ok (.invokevirtual 61, 3) := by decide +kernel
theorem dX4_build_8 : decode cX4_build 8 = .ok (.ifCond .eq 14, 3) := by decide +kernel
theorem dX4_build_11 : decode cX4_build 11 = .ok (.aload_n 0, 1) := by decide +kernel
theorem dX4_build_12 : decode cX4_build 12 = .ok (.getfield 10, 3) := by decide +kernel
theorem dX4_build_15 : decode cX4_build 15 = .ok (.iload_n 2, 1) := by decide +kernel
theorem dX4_build_16 : decode cX4_build 16 = .ok (.invokevirtual 61, 3) := by decide +kernel
theorem dX4_build_19 : decode cX4_build 19 = .ok (.ifCond .ne 5, 3) := by decide +kernel
theorem dX4_build_22 : decode cX4_build 22 = .ok (.iconst (-1), 1) := by decide +kernel
theorem dX4_build_23 : decode cX4_build 23 = .ok (.ireturn, 1) := by decide +kernel
theorem dX4_build_24 : decode cX4_build 24 = .ok (.iload_n 1, 1) := by decide +kernel
theorem dX4_build_25 : decode cX4_build 25 = .ok (.iload_n 2, 1) := by decide +kernel
theorem dX4_build_26 : decode cX4_build 26 = .ok (.if_icmp .eq 14, 3) := by decide +kernel
theorem dX4_build_29 : decode cX4_build 29 = .ok (.iload_n 3, 1) := by decide +kernel
theorem dX4_build_30 : decode cX4_build 30 = .ok (.iconst 1, 1) := by decide +kernel
theorem dX4_build_31 : decode cX4_build 31 = .ok (.if_icmp .lt 9, 3) := by decide +kernel
theorem dX4_build_34 : decode cX4_build 34 = .ok (.iload_n 3, 1) := by decide +kernel
theorem dX4_build_35 : decode cX4_build 35 = .ok (.bipush 99, 2) := by decide +kernel
theorem dX4_build_37 : decode cX4_build 37 = .ok (.if_icmp .le 6, 3) := by decide +kernel
theorem dX4_build_40 : decode cX4_build 40 = .ok (.bipush (-2), 2) := by decide +kernel
theorem dX4_build_42 : decode cX4_build 42 = .ok (.ireturn, 1) := by decide +kernel
theorem dX4_build_43 : decode cX4_build 43 = .ok (.aload_n 0, 1) := by decide +kernel
theorem dX4_build_44 : decode cX4_build 44 = .ok (.getfield 10, 3) := by decide +kernel
theorem dX4_build_47 : decode cX4_build 47 = .ok (.getfield 64, 3) := by decide +kernel
theorem dX4_build_50 : decode cX4_build 50 = .ok (.bipush 30, 2) := by decide +kernel
theorem dX4_build_52 : decode cX4_build 52 = .ok (.if_icmp .lt 6, 3) := by decide +kernel
theorem dX4_build_55 : decode cX4_build 55 = .ok (.bipush (-4), 2) := by decide +kernel
theorem dX4_build_57 : decode cX4_build 57 = .ok (.ireturn, 1) := by decide +kernel
theorem dX4_build_58 : decode cX4_build 58 = .ok (.aload_n 0, 1) := by decide +kernel
theorem dX4_build_59 : decode cX4_build 59 = .ok (.getfield 35, 3) := by decide +kernel
theorem dX4_build_62 : decode cX4_build 62 = .ok (.aload_n 0, 1) := by decide +kernel
theorem dX4_build_63 : decode cX4_build 63 = .ok (.getfield 10, 3) := by decide +kernel
theorem dX4_build_66 : decode cX4_build 66 = .ok (.invokevirtual 55, 3) := by decide +kernel
theorem dX4_build_69 : decode cX4_build 69 = .ok (.aload_n 0, 1) := by decide +kernel
theorem dX4_build_70 : decode cX4_build 70 = .ok (.getfield 10, 3) := by decide +kernel
theorem dX4_build_73 : decode cX4_build 73 = .ok (.iload_n 1, 1) := by decide +kernel
theorem dX4_build_74 : decode cX4_build 74 = .ok (.iload_n 2, 1) := by decide +kernel
theorem dX4_build_75 : decode cX4_build 75 = .ok (.iload_n 3, 1) := by decide +kernel
theorem dX4_build_76 : decode cX4_build 76 = .ok (.invokevirtual 67, 3) := by decide +kernel
theorem dX4_build_79 : decode cX4_build 79 = .ok (.aload_n 0, 1) := by decide +kernel
theorem dX4_build_80 : decode cX4_build 80 = .ok (.getfield 21, 3) := by decide +kernel
theorem dX4_build_83 : decode cX4_build 83 = .ok (.invokevirtual 58, 3) := by decide +kernel
theorem dX4_build_86 : decode cX4_build 86 = .ok (.aload_n 0, 1) := by decide +kernel
theorem dX4_build_87 : decode cX4_build 87 = .ok (.getfield 21, 3) := by decide +kernel
theorem dX4_build_90 : decode cX4_build 90 = .ok (.getfield 71, 3) := by decide +kernel
theorem dX4_build_93 : decode cX4_build 93 = .ok (.ireturn, 1) := by decide +kernel
theorem dX4_lose_0 : decode cX4_lose 0 = .ok (.aload_n 0, 1) := by decide +kernel
theorem dX4_lose_1 : decode cX4_lose 1 = .ok (.getfield 10, 3) := by decide +kernel
theorem dX4_lose_4 : decode cX4_lose 4 = .ok (.iload_n 1, 1) := by decide +kernel
theorem dX4_lose_5 : decode cX4_lose 5 = .ok (.invokevirtual 74, 3) := by decide +kernel
theorem dX4_lose_8 : decode cX4_lose 8 = .ok (.ifCond .ne 5, 3) := by decide +kernel
theorem dX4_lose_11 : decode cX4_lose 11 = .ok (.iconst (-1), 1) := by decide +kernel
theorem dX4_lose_12 : decode cX4_lose 12 = .ok (.ireturn, 1) := by decide +kernel
theorem dX4_lose_13 : decode cX4_lose 13 = .ok (.aload_n 0, 1) := by decide +kernel
theorem dX4_lose_14 : decode cX4_lose 14 = .ok (.getfield 35, 3) := by decide +kernel
theorem dX4_lose_17 : decode cX4_lose 17 = .ok (.aload_n 0, 1) := by decide +kernel
theorem dX4_lose_18 : decode cX4_lose 18 = .ok (.getfield 10, 3) := by decide +kernel
theorem dX4_lose_21 : decode cX4_lose 21 = .ok (.invokevirtual 55, 3) := by decide +kernel
theorem dX4_lose_24 : decode cX4_lose 24 = .ok (.aload_n 0, 1) := by decide +kernel
theorem dX4_lose_25 : decode cX4_lose 25 = .ok (.getfield 10, 3) := by decide +kernel
theorem dX4_lose_28 : decode cX4_lose 28 = .ok (.iload_n 1, 1) := by decide +kernel
theorem dX4_lose_29 : decode cX4_lose 29 = .ok (.invokevirtual 77, 3) := by decide +kernel
theorem dX4_lose_32 : decode cX4_lose 32 = .ok (.aload_n 0, 1) := by decide +kernel
theorem dX4_lose_33 : decode cX4_lose 33 = .ok (.getfield 21, 3) := by decide +kernel
theorem dX4_lose_36 : decode cX4_lose 36 = .ok (.invokevirtual 58, 3) := by decide +kernel
theorem dX4_lose_39 : decode cX4_lose 39 = .ok (.aload_n 0, 1) := by decide +kernel
theorem dX4_lose_40 : decode cX4_lose 40 = .ok (.getfield 21, 3) := by decide +kernel
theorem dX4_lose_43 : decode cX4_lose 43 = .ok (.getfield 71, 3) := by decide +kernel
theorem dX4_lose_46 : decode cX4_lose 46 = .ok (.ireturn, 1) := by decide +kernel
theorem dX4_read_0 : decode cX4_read 0 = .ok (.aload_n 0, 1) := by decide +kernel
theorem dX4_read_1 : decode cX4_read 1 = .ok (.getfield 28, 3) := by decide +kernel
theorem dX4_read_4 : decode cX4_read 4 = .ok (.invokevirtual 81, 3) := by decide +kernel
theorem dX4_read_7 : decode cX4_read 7 = .ok (.bipush (-6), 2) := by decide +kernel
theorem dX4_read_9 : decode cX4_read 9 = .ok (.if_icmp .eq 6, 3) := by decide +kernel
theorem dX4_read_12 : decode cX4_read 12 = .ok (.bipush (-3), 2) := by decide +kernel
theorem dX4_read_14 : decode cX4_read 14 = .ok (.ireturn, 1) := by decide +kernel
theorem dX4_read_15 : decode cX4_read 15 = .ok (.aload_n 0, 1) := by decide +kernel
theorem dX4_read_16 : decode cX4_read 16 = .ok (.invokevirtual 85, 3) := by decide +kernel
theorem dX4_read_19 : decode cX4_read 19 = .ok (.istore_n 1, 1) := by decide +kernel
theorem dX4_read_20 : decode cX4_read 20 = .ok (.iload_n 1, 1) := by decide +kernel
theorem dX4_read_21 : decode cX4_read 21 = .ok (.ifCond .eq 5, 3) := by decide +kernel
theorem dX4_read_24 : decode cX4_read 24 = .ok (.iload_n 1, 1) := by decide +kernel
theorem dX4_read_25 : decode cX4_read 25 = .ok (.ireturn, 1) := by decide +kernel
theorem dX4_read_26 : decode cX4_read 26 = .ok (.aload_n 0, 1) := by decide +kernel
theorem dX4_read_27 : decode cX4_read 27 = .ok (.getfield 35, 3) := by decide +kernel
theorem dX4_read_30 : decode cX4_read 30 = .ok (.aload_n 0, 1) := by decide +kernel
theorem dX4_read_31 : decode cX4_read 31 = .ok (.getfield 10, 3) := by decide +kernel
theorem dX4_read_34 : decode cX4_read 34 = .ok (.invokevirtual 55, 3) := by decide +kernel
theorem dX4_read_37 : decode cX4_read 37 = .ok (.iconst 0, 1) := by decide +kernel
theorem dX4_read_38 : decode cX4_read 38 = .ok (.istore_n 2, 1) := by decide +kernel
theorem dX4_read_39 : decode cX4_read 39 = .ok (.iload_n 2, 1) := by decide +kernel
theorem dX4_read_40 : decode cX4_read 40 = .ok (.aload_n 0, 1) := by decide +kernel
theorem dX4_read_41 : decode cX4_read 41 = .ok (.getfield 28, 3) := by decide +kernel
theorem dX4_read_44 : decode cX4_read 44 = .ok (.invokevirtual 88, 3) := by decide +kernel
theorem dX4_read_47 : decode cX4_read 47 = .ok (.if_icmp .ge 40, 3) := by decide +kernel
theorem dX4_read_50 : decode cX4_read 50 = .ok (.aload_n 0, 1) := by decide +kernel
theorem dX4_read_51 : decode cX4_read 51 = .ok (.getfield 10, 3) := by decide +kernel
theorem dX4_read_54 : decode cX4_read 54 = .ok (.aload_n 0, 1) := by decide +kernel
theorem dX4_read_55 : decode cX4_read 55 = .ok (.getfield 28, 3) := by decide +kernel
theorem dX4_read_58 : decode cX4_read 58 = .ok (.iload_n 2, 1) := by decide +kernel
theorem dX4_read_59 : decode cX4_read 59 = .ok (.invokevirtual 91, 3) := by decide +kernel
theorem dX4_read_62 : decode cX4_read 62 = .ok (.aload_n 0, 1) := by decide +kernel
theorem dX4_read_63 : decode cX4_read 63 = .ok (.getfield 28, 3) := by decide +kernel
theorem dX4_read_66 : decode cX4_read 66 = .ok (.iload_n 2, 1) := by decide +kernel
theorem dX4_read_67 : decode cX4_read 67 = .ok (.invokevirtual 95, 3) := by decide +kernel
theorem dX4_read_70 : decode cX4_read 70 = .ok (.aload_n 0, 1) := by decide +kernel
theorem dX4_read_71 : decode cX4_read 71 = .ok (.getfield 28, 3) := by decide +kernel
theorem dX4_read_74 : decode cX4_read 74 = .ok (.iload_n 2, 1) := by decide +kernel
theorem dX4_read_75 : decode cX4_read 75 = .ok (.invokevirtual 98, 3) := by decide +kernel
theorem dX4_read_78 : decode cX4_read 78 = .ok (.invokevirtual 67, 3) := by decide +kernel
theorem dX4_read_81 : decode cX4_read 81 = .ok (.iinc 2 1, 3) := by decide +kernel
theorem dX4_read_84 : decode cX4_read 84 = .ok (.goto (-45), 3) := by decide +kernel
theorem dX4_read_87 : decode cX4_read 87 = .ok (.aload_n 0, 1) := by decide +kernel
theorem dX4_read_88 : decode cX4_read 88 = .ok (.getfield 28, 3) := by decide +kernel
theorem dX4_read_91 : decode cX4_read 91 = .ok (.iconst 0, 1) := by decide +kernel
theorem dX4_read_92 : decode cX4_read 92 = .ok (.putfield 101, 3) := by decide +kernel
theorem dX4_read_95 : decode cX4_read 95 = .ok (.aload_n 0, 1) := by decide +kernel
theorem dX4_read_96 : decode cX4_read 96 = .ok (.getfield 21, 3) := by decide +kernel
theorem dX4_read_99 : decode cX4_read 99 = .ok (.invokevirtual 58, 3) := by decide +kernel
theorem dX4_read_102 : decode cX4_read 102 = .ok (.aload_n 0, 1) := by decide +kernel
theorem dX4_read_103 : decode cX4_read 103 = .ok (.getfield 10, 3) := by decide +kernel
theorem dX4_read_106 : decode cX4_read 106 = .ok (.getfield 64, 3) := by decide +kernel
theorem dX4_read_109 : decode cX4_read 109 = .ok (.ireturn, 1) := by decide +kernel
theorem dX4_errorOfParsedRoads_0 : decode cX4_errorOfParsedRoads 0 = .ok (.aload_n 0, 1) := by decide +kernel
theorem dX4_errorOfParsedRoads_1 : decode cX4_errorOfParsedRoads 1 = .ok (.getfield 28, 3) := by decide +kernel
theorem dX4_errorOfParsedRoads_4 : decode cX4_errorOfParsedRoads 4 = .ok (.invokevirtual 88, 3) := by decide +kernel
theorem dX4_errorOfParsedRoads_7 : decode cX4_errorOfParsedRoads 7 = .ok (.istore_n 1, 1) := by decide +kernel
theorem dX4_errorOfParsedRoads_8 : decode cX4_errorOfParsedRoads 8 = .ok (.iconst 0, 1) := by decide +kernel
theorem dX4_errorOfParsedRoads_9 : decode cX4_errorOfParsedRoads 9 = .ok (.istore_n 2, 1) := by decide +kernel
theorem dX4_errorOfParsedRoads_10 : decode cX4_errorOfParsedRoads 10 = .ok (.iload_n 2, 1) := by decide +kernel
theorem dX4_errorOfParsedRoads_11 : decode cX4_errorOfParsedRoads 11 = .ok (.iload_n 1, 1) := by decide +kernel
theorem dX4_errorOfParsedRoads_12 : decode cX4_errorOfParsedRoads 12 = .ok (.if_icmp .ge 47, 3) := by decide +kernel
theorem dX4_errorOfParsedRoads_15 : decode cX4_errorOfParsedRoads 15 = .ok (.aload_n 0, 1) := by decide +kernel
theorem dX4_errorOfParsedRoads_16 : decode cX4_errorOfParsedRoads 16 = .ok (.getfield 10, 3) := by decide +kernel
theorem dX4_errorOfParsedRoads_19 : decode cX4_errorOfParsedRoads 19 = .ok (.aload_n 0, 1) := by decide +kernel
theorem dX4_errorOfParsedRoads_20 : decode cX4_errorOfParsedRoads 20 = .ok (.getfield 28, 3) := by decide +kernel
theorem dX4_errorOfParsedRoads_23 : decode cX4_errorOfParsedRoads 23 = .ok (.iload_n 2, 1) := by decide +kernel
theorem dX4_errorOfParsedRoads_24 : decode cX4_errorOfParsedRoads 24 = .ok (.invokevirtual 91, 3) := by decide +kernel
theorem dX4_errorOfParsedRoads_27 : decode cX4_errorOfParsedRoads 27 = .ok (.invokevirtual 61, 3) := by decide +kernel
theorem dX4_errorOfParsedRoads_30 : decode cX4_errorOfParsedRoads 30 = .ok (.ifCond .eq 21, 3) := by decide +kernel
theorem dX4_errorOfParsedRoads_33 : decode cX4_errorOfParsedRoads 33 = .ok (.aload_n 0, 1) := by decide +kernel
theorem dX4_errorOfParsedRoads_34 : decode cX4_errorOfParsedRoads 34 = .ok (.getfield 10, 3) := by decide +kernel
theorem dX4_errorOfParsedRoads_37 : decode cX4_errorOfParsedRoads 37 = .ok (.aload_n 0, 1) := by decide +kernel
theorem dX4_errorOfParsedRoads_38 : decode cX4_errorOfParsedRoads 38 = .ok (.getfield 28, 3) := by decide +kernel
theorem dX4_errorOfParsedRoads_41 : decode cX4_errorOfParsedRoads 41 = .ok (.iload_n 2, 1) := by decide +kernel
theorem dX4_errorOfParsedRoads_42 : decode cX4_errorOfParsedRoads 42 = .ok (.invokevirtual 95, 3) := by decide +kernel
theorem dX4_errorOfParsedRoads_45 : decode cX4_errorOfParsedRoads 45 = .ok (.invokevirtual 61, 3) := by decide +kernel
theorem dX4_errorOfParsedRoads_48 : decode cX4_errorOfParsedRoads 48 = .ok (.ifCond .ne 5, 3) := by decide +kernel
theorem dX4_errorOfParsedRoads_51 : decode cX4_errorOfParsedRoads 51 = .ok (.iconst (-1), 1) := by decide +kernel
theorem dX4_errorOfParsedRoads_52 : decode cX4_errorOfParsedRoads 52 = .ok (.ireturn, 1) := by decide +kernel
theorem dX4_errorOfParsedRoads_53 : decode cX4_errorOfParsedRoads 53 = .ok (.iinc 2 1, 3) := by decide +kernel
theorem dX4_errorOfParsedRoads_56 : decode cX4_errorOfParsedRoads 56 = .ok (.goto (-46), 3) := by decide +kernel
theorem dX4_errorOfParsedRoads_59 : decode cX4_errorOfParsedRoads 59 = .ok (.iconst 0, 1) := by decide +kernel
theorem dX4_errorOfParsedRoads_60 : decode cX4_errorOfParsedRoads 60 = .ok (.istore_n 2, 1) := by decide +kernel
theorem dX4_errorOfParsedRoads_61 : decode cX4_errorOfParsedRoads 61 = .ok (.iload_n 2, 1) := by decide +kernel
theorem dX4_errorOfParsedRoads_62 : decode cX4_errorOfParsedRoads 62 = .ok (.iload_n 1, 1) := by decide +kernel
theorem dX4_errorOfParsedRoads_63 : decode cX4_errorOfParsedRoads 63 = .ok (.if_icmp .ge 31, 3) := by decide +kernel
theorem dX4_errorOfParsedRoads_66 : decode cX4_errorOfParsedRoads 66 = .ok (.aload_n 0, 1) := by decide +kernel
theorem dX4_errorOfParsedRoads_67 : decode cX4_errorOfParsedRoads 67 = .ok (.getfield 28, 3) := by decide +kernel
theorem dX4_errorOfParsedRoads_70 : decode cX4_errorOfParsedRoads 70 = .ok (.iload_n 2, 1) := by decide +kernel
theorem dX4_errorOfParsedRoads_71 : decode cX4_errorOfParsedRoads 71 = .ok (.invokevirtual 91, 3) := by decide +kernel
theorem dX4_errorOfParsedRoads_74 : decode cX4_errorOfParsedRoads 74 = .ok (.aload_n 0, 1) := by decide +kernel
theorem dX4_errorOfParsedRoads_75 : decode cX4_errorOfParsedRoads 75 = .ok (.getfield 28, 3) := by decide +kernel
theorem dX4_errorOfParsedRoads_78 : decode cX4_errorOfParsedRoads 78 = .ok (.iload_n 2, 1) := by decide +kernel
theorem dX4_errorOfParsedRoads_79 : decode cX4_errorOfParsedRoads 79 = .ok (.invokevirtual 95, 3) := by decide +kernel
theorem dX4_errorOfParsedRoads_82 : decode cX4_errorOfParsedRoads 82 = .ok (.if_icmp .ne 6, 3) := by decide +kernel
theorem dX4_errorOfParsedRoads_85 : decode cX4_errorOfParsedRoads 85 = .ok (.bipush (-2), 2) := by decide +kernel
theorem dX4_errorOfParsedRoads_87 : decode cX4_errorOfParsedRoads 87 = .ok (.ireturn, 1) := by decide +kernel
theorem dX4_errorOfParsedRoads_88 : decode cX4_errorOfParsedRoads 88 = .ok (.iinc 2 1, 3) := by decide +kernel
theorem dX4_errorOfParsedRoads_91 : decode cX4_errorOfParsedRoads 91 = .ok (.goto (-30), 3) := by decide +kernel
theorem dX4_errorOfParsedRoads_94 : decode cX4_errorOfParsedRoads 94 = .ok (.aload_n 0, 1) := by decide +kernel
theorem dX4_errorOfParsedRoads_95 : decode cX4_errorOfParsedRoads 95 = .ok (.getfield 10, 3) := by decide +kernel
theorem dX4_errorOfParsedRoads_98 : decode cX4_errorOfParsedRoads 98 = .ok (.getfield 64, 3) := by decide +kernel
theorem dX4_errorOfParsedRoads_101 : decode cX4_errorOfParsedRoads 101 = .ok (.iload_n 1, 1) := by decide +kernel
theorem dX4_errorOfParsedRoads_102 : decode cX4_errorOfParsedRoads 102 = .ok (.iadd, 1) := by decide +kernel
theorem dX4_errorOfParsedRoads_103 : decode cX4_errorOfParsedRoads 103 = .ok (.bipush 30, 2) := by decide +kernel
theorem dX4_errorOfParsedRoads_105 : decode cX4_errorOfParsedRoads 105 = .ok (.if_icmp .le 8, 3) := by decide +kernel
theorem dX4_errorOfParsedRoads_108 : decode cX4_errorOfParsedRoads 108 = .ok (.bipush (-4), 2) := by decide +kernel
theorem dX4_errorOfParsedRoads_110 : decode cX4_errorOfParsedRoads 110 = .ok (.goto 4, 3) := by decide +kernel
theorem dX4_errorOfParsedRoads_113 : decode cX4_errorOfParsedRoads 113 = .ok (.iconst 0, 1) := by decide +kernel
theorem dX4_errorOfParsedRoads_114 : decode cX4_errorOfParsedRoads 114 = .ok (.ireturn, 1) := by decide +kernel
theorem dX4_road_0 : decode cX4_road 0 = .ok (.aload_n 0, 1) := by decide +kernel
theorem dX4_road_1 : decode cX4_road 1 = .ok (.getfield 10, 3) := by decide +kernel
theorem dX4_road_4 : decode cX4_road 4 = .ok (.iload_n 1, 1) := by decide +kernel
theorem dX4_road_5 : decode cX4_road 5 = .ok (.invokevirtual 74, 3) := by decide +kernel
theorem dX4_road_8 : decode cX4_road 8 = .ok (.ifCond .ne 5, 3) := by decide +kernel
theorem dX4_road_11 : decode cX4_road 11 = .ok (.iconst (-1), 1) := by decide +kernel
theorem dX4_road_12 : decode cX4_road 12 = .ok (.ireturn, 1) := by decide +kernel
theorem dX4_road_13 : decode cX4_road 13 = .ok (.iload_n 2, 1) := by decide +kernel
theorem dX4_road_14 : decode cX4_road 14 = .ok (.tableswitch 106 0 5 #[38, 48, 58, 68, 88, 97], 38) := by decide +kernel
theorem dX4_road_52 : decode cX4_road 52 = .ok (.aload_n 0, 1) := by decide +kernel
theorem dX4_road_53 : decode cX4_road 53 = .ok (.getfield 10, 3) := by decide +kernel
theorem dX4_road_56 : decode cX4_road 56 = .ok (.getfield 104, 3) := by decide +kernel
theorem dX4_road_59 : decode cX4_road 59 = .ok (.iload_n 1, 1) := by decide +kernel
theorem dX4_road_60 : decode cX4_road 60 = .ok (.iaload, 1) := by decide +kernel
theorem dX4_road_61 : decode cX4_road 61 = .ok (.ireturn, 1) := by decide +kernel
theorem dX4_road_62 : decode cX4_road 62 = .ok (.aload_n 0, 1) := by decide +kernel
theorem dX4_road_63 : decode cX4_road 63 = .ok (.getfield 10, 3) := by decide +kernel
theorem dX4_road_66 : decode cX4_road 66 = .ok (.getfield 108, 3) := by decide +kernel
theorem dX4_road_69 : decode cX4_road 69 = .ok (.iload_n 1, 1) := by decide +kernel
theorem dX4_road_70 : decode cX4_road 70 = .ok (.iaload, 1) := by decide +kernel
theorem dX4_road_71 : decode cX4_road 71 = .ok (.ireturn, 1) := by decide +kernel
theorem dX4_road_72 : decode cX4_road 72 = .ok (.aload_n 0, 1) := by decide +kernel
theorem dX4_road_73 : decode cX4_road 73 = .ok (.getfield 10, 3) := by decide +kernel
theorem dX4_road_76 : decode cX4_road 76 = .ok (.getfield 111, 3) := by decide +kernel
theorem dX4_road_79 : decode cX4_road 79 = .ok (.iload_n 1, 1) := by decide +kernel
theorem dX4_road_80 : decode cX4_road 80 = .ok (.iaload, 1) := by decide +kernel
theorem dX4_road_81 : decode cX4_road 81 = .ok (.ireturn, 1) := by decide +kernel
theorem dX4_road_82 : decode cX4_road 82 = .ok (.aload_n 0, 1) := by decide +kernel
theorem dX4_road_83 : decode cX4_road 83 = .ok (.getfield 21, 3) := by decide +kernel
theorem dX4_road_86 : decode cX4_road 86 = .ok (.getfield 114, 3) := by decide +kernel
theorem dX4_road_89 : decode cX4_road 89 = .ok (.iload_n 1, 1) := by decide +kernel
theorem dX4_road_90 : decode cX4_road 90 = .ok (.invokestatic 117, 3) := by decide +kernel
theorem dX4_road_93 : decode cX4_road 93 = .ok (.ifCond .eq 7, 3) := by decide +kernel
theorem dX4_road_96 : decode cX4_road 96 = .ok (.iconst 1, 1) := by decide +kernel
theorem dX4_road_97 : decode cX4_road 97 = .ok (.goto 4, 3) := by decide +kernel
theorem dX4_road_100 : decode cX4_road 100 = .ok (.iconst 0, 1) := by decide +kernel
theorem dX4_road_101 : decode cX4_road 101 = .ok (.ireturn, 1) := by decide +kernel
theorem dX4_road_102 : decode cX4_road 102 = .ok (.aload_n 0, 1) := by decide +kernel
theorem dX4_road_103 : decode cX4_road 103 = .ok (.getfield 21, 3) := by decide +kernel
theorem dX4_road_106 : decode cX4_road 106 = .ok (.iload_n 1, 1) := by decide +kernel
theorem dX4_road_107 : decode cX4_road 107 = .ok (.invokevirtual 121, 3) := by decide +kernel
theorem dX4_road_110 : decode cX4_road 110 = .ok (.ireturn, 1) := by decide +kernel
theorem dX4_road_111 : decode cX4_road 111 = .ok (.aload_n 0, 1) := by decide +kernel
theorem dX4_road_112 : decode cX4_road 112 = .ok (.getfield 21, 3) := by decide +kernel
theorem dX4_road_115 : decode cX4_road 115 = .ok (.iload_n 1, 1) := by decide +kernel
theorem dX4_road_116 : decode cX4_road 116 = .ok (.invokevirtual 124, 3) := by decide +kernel
theorem dX4_road_119 : decode cX4_road 119 = .ok (.ireturn, 1) := by decide +kernel
theorem dX4_road_120 : decode cX4_road 120 = .ok (.bipush (-2), 2) := by decide +kernel
theorem dX4_road_122 : decode cX4_road 122 = .ok (.ireturn, 1) := by decide +kernel
theorem dX4_square_0 : decode cX4_square 0 = .ok (.aload_n 0, 1) := by decide +kernel
theorem dX4_square_1 : decode cX4_square 1 = .ok (.getfield 10, 3) := by decide +kernel
theorem dX4_square_4 : decode cX4_square 4 = .ok (.iload_n 1, 1) := by decide +kernel
theorem dX4_square_5 : decode cX4_square 5 = .ok (.invokevirtual 61, 3) := by decide +kernel
theorem dX4_square_8 : decode cX4_square 8 = .ok (.ifCond .ne 5, 3) := by decide +kernel
theorem dX4_square_11 : decode cX4_square 11 = .ok (.iconst (-1), 1) := by decide +kernel
theorem dX4_square_12 : decode cX4_square 12 = .ok (.ireturn, 1) := by decide +kernel
theorem dX4_square_13 : decode cX4_square 13 = .ok (.iload_n 2, 1) := by decide +kernel
theorem dX4_square_14 : decode cX4_square 14 = .ok (.tableswitch 92 0 4 #[34, 46, 63, 73, 83], 34) := by decide +kernel
theorem dX4_square_48 : decode cX4_square 48 = .ok (.aload_n 0, 1) := by decide +kernel
theorem dX4_square_49 : decode cX4_square 49 = .ok (.getfield 10, 3) := by decide +kernel
theorem dX4_square_52 : decode cX4_square 52 = .ok (.iload_n 1, 1) := by decide +kernel
theorem dX4_square_53 : decode cX4_square 53 = .ok (.invokevirtual 127, 3) := by decide +kernel
theorem dX4_square_56 : decode cX4_square 56 = .ok (.invokestatic 130, 3) := by decide +kernel
theorem dX4_square_59 : decode cX4_square 59 = .ok (.ireturn, 1) := by decide +kernel
theorem dX4_square_60 : decode cX4_square 60 = .ok (.aload_n 0, 1) := by decide +kernel
theorem dX4_square_61 : decode cX4_square 61 = .ok (.getfield 21, 3) := by decide +kernel
theorem dX4_square_64 : decode cX4_square 64 = .ok (.iload_n 1, 1) := by decide +kernel
theorem dX4_square_65 : decode cX4_square 65 = .ok (.invokevirtual 135, 3) := by decide +kernel
theorem dX4_square_68 : decode cX4_square 68 = .ok (.ifCond .le 7, 3) := by decide +kernel
theorem dX4_square_71 : decode cX4_square 71 = .ok (.iconst 1, 1) := by decide +kernel
theorem dX4_square_72 : decode cX4_square 72 = .ok (.goto 4, 3) := by decide +kernel
theorem dX4_square_75 : decode cX4_square 75 = .ok (.iconst 0, 1) := by decide +kernel
theorem dX4_square_76 : decode cX4_square 76 = .ok (.ireturn, 1) := by decide +kernel
theorem dX4_square_77 : decode cX4_square 77 = .ok (.aload_n 0, 1) := by decide +kernel
theorem dX4_square_78 : decode cX4_square 78 = .ok (.getfield 21, 3) := by decide +kernel
theorem dX4_square_81 : decode cX4_square 81 = .ok (.getfield 138, 3) := by decide +kernel
theorem dX4_square_84 : decode cX4_square 84 = .ok (.iload_n 1, 1) := by decide +kernel
theorem dX4_square_85 : decode cX4_square 85 = .ok (.iaload, 1) := by decide +kernel
theorem dX4_square_86 : decode cX4_square 86 = .ok (.ireturn, 1) := by decide +kernel
theorem dX4_square_87 : decode cX4_square 87 = .ok (.aload_n 0, 1) := by decide +kernel
theorem dX4_square_88 : decode cX4_square 88 = .ok (.getfield 21, 3) := by decide +kernel
theorem dX4_square_91 : decode cX4_square 91 = .ok (.getfield 141, 3) := by decide +kernel
theorem dX4_square_94 : decode cX4_square 94 = .ok (.iload_n 1, 1) := by decide +kernel
theorem dX4_square_95 : decode cX4_square 95 = .ok (.iaload, 1) := by decide +kernel
theorem dX4_square_96 : decode cX4_square 96 = .ok (.ireturn, 1) := by decide +kernel
theorem dX4_square_97 : decode cX4_square 97 = .ok (.aload_n 0, 1) := by decide +kernel
theorem dX4_square_98 : decode cX4_square 98 = .ok (.getfield 21, 3) := by decide +kernel
theorem dX4_square_101 : decode cX4_square 101 = .ok (.iload_n 1, 1) := by decide +kernel
theorem dX4_square_102 : decode cX4_square 102 = .ok (.invokevirtual 135, 3) := by decide +kernel
theorem dX4_square_105 : decode cX4_square 105 = .ok (.ireturn, 1) := by decide +kernel
theorem dX4_square_106 : decode cX4_square 106 = .ok (.bipush (-2), 2) := by decide +kernel
theorem dX4_square_108 : decode cX4_square 108 = .ok (.ireturn, 1) := by decide +kernel
theorem dX4_district_0 : decode cX4_district 0 = .ok (.iload_n 1, 1) := by decide +kernel
theorem dX4_district_1 : decode cX4_district 1 = .ok (.ifCond .lt 14, 3) := by decide +kernel
theorem dX4_district_4 : decode cX4_district 4 = .ok (.iload_n 1, 1) := by decide +kernel
theorem dX4_district_5 : decode cX4_district 5 = .ok (.aload_n 0, 1) := by decide +kernel
theorem dX4_district_6 : decode cX4_district 6 = .ok (.getfield 21, 3) := by decide +kernel
theorem dX4_district_9 : decode cX4_district 9 = .ok (.getfield 144, 3) := by decide +kernel
theorem dX4_district_12 : decode cX4_district 12 = .ok (.if_icmp .lt 5, 3) := by decide +kernel
theorem dX4_district_15 : decode cX4_district 15 = .ok (.iconst (-1), 1) := by decide +kernel
theorem dX4_district_16 : decode cX4_district 16 = .ok (.ireturn, 1) := by decide +kernel
theorem dX4_district_17 : decode cX4_district 17 = .ok (.aload_n 0, 1) := by decide +kernel
theorem dX4_district_18 : decode cX4_district 18 = .ok (.getfield 21, 3) := by decide +kernel
theorem dX4_district_21 : decode cX4_district 21 = .ok (.getfield 147, 3) := by decide +kernel
theorem dX4_district_24 : decode cX4_district 24 = .ok (.iload_n 1, 1) := by decide +kernel
theorem dX4_district_25 : decode cX4_district 25 = .ok (.iaload, 1) := by decide +kernel
theorem dX4_district_26 : decode cX4_district 26 = .ok (.istore_n 3, 1) := by decide +kernel
theorem dX4_district_27 : decode cX4_district 27 = .ok (.iload_n 2, 1) := by decide +kernel
theorem dX4_district_28 : decode cX4_district 28 = .ok (.tableswitch 78 0 3 #[32, 34, 50, 59], 32) := by decide +kernel
theorem dX4_district_60 : decode cX4_district 60 = .ok (.iload_n 3, 1) := by decide +kernel
theorem dX4_district_61 : decode cX4_district 61 = .ok (.ireturn, 1) := by decide +kernel
theorem dX4_district_62 : decode cX4_district 62 = .ok (.aload_n 0, 1) := by decide +kernel
theorem dX4_district_63 : decode cX4_district 63 = .ok (.getfield 10, 3) := by decide +kernel
theorem dX4_district_66 : decode cX4_district 66 = .ok (.aload_n 0, 1) := by decide +kernel
theorem dX4_district_67 : decode cX4_district 67 = .ok (.getfield 10, 3) := by decide +kernel
theorem dX4_district_70 : decode cX4_district 70 = .ok (.iload_n 3, 1) := by decide +kernel
theorem dX4_district_71 : decode cX4_district 71 = .ok (.invokevirtual 150, 3) := by decide +kernel
theorem dX4_district_74 : decode cX4_district 74 = .ok (.invokevirtual 153, 3) := by decide +kernel
theorem dX4_district_77 : decode cX4_district 77 = .ok (.ireturn, 1) := by decide +kernel
theorem dX4_district_78 : decode cX4_district 78 = .ok (.aload_n 0, 1) := by decide +kernel
theorem dX4_district_79 : decode cX4_district 79 = .ok (.getfield 21, 3) := by decide +kernel
theorem dX4_district_82 : decode cX4_district 82 = .ok (.iload_n 3, 1) := by decide +kernel
theorem dX4_district_83 : decode cX4_district 83 = .ok (.invokevirtual 156, 3) := by decide +kernel
theorem dX4_district_86 : decode cX4_district 86 = .ok (.ireturn, 1) := by decide +kernel
theorem dX4_district_87 : decode cX4_district 87 = .ok (.aload_n 0, 1) := by decide +kernel
theorem dX4_district_88 : decode cX4_district 88 = .ok (.getfield 10, 3) := by decide +kernel
theorem dX4_district_91 : decode cX4_district 91 = .ok (.iload_n 3, 1) := by decide +kernel
theorem dX4_district_92 : decode cX4_district 92 = .ok (.invokevirtual 150, 3) := by decide +kernel
theorem dX4_district_95 : decode cX4_district 95 = .ok (.invokestatic 130, 3) := by decide +kernel
theorem dX4_district_98 : decode cX4_district 98 = .ok (.iload_n 3, 1) := by decide +kernel
theorem dX4_district_99 : decode cX4_district 99 = .ok (.invokestatic 130, 3) := by decide +kernel
theorem dX4_district_102 : decode cX4_district 102 = .ok (.isub, 1) := by decide +kernel
theorem dX4_district_103 : decode cX4_district 103 = .ok (.iconst 1, 1) := by decide +kernel
theorem dX4_district_104 : decode cX4_district 104 = .ok (.iadd, 1) := by decide +kernel
theorem dX4_district_105 : decode cX4_district 105 = .ok (.ireturn, 1) := by decide +kernel
theorem dX4_district_106 : decode cX4_district 106 = .ok (.bipush (-2), 2) := by decide +kernel
theorem dX4_district_108 : decode cX4_district 108 = .ok (.ireturn, 1) := by decide +kernel
theorem dX4_count_0 : decode cX4_count 0 = .ok (.iload_n 1, 1) := by decide +kernel
theorem dX4_count_1 : decode cX4_count 1 = .ok (.tableswitch 145 0 9 #[55, 63, 71, 79, 90, 98, 106, 114, 129, 137], 55) := by decide +kernel
theorem dX4_count_56 : decode cX4_count 56 = .ok (.aload_n 0, 1) := by decide +kernel
theorem dX4_count_57 : decode cX4_count 57 = .ok (.getfield 10, 3) := by decide +kernel
theorem dX4_count_60 : decode cX4_count 60 = .ok (.getfield 51, 3) := by decide +kernel
theorem dX4_count_63 : decode cX4_count 63 = .ok (.ireturn, 1) := by decide +kernel
theorem dX4_count_64 : decode cX4_count 64 = .ok (.aload_n 0, 1) := by decide +kernel
theorem dX4_count_65 : decode cX4_count 65 = .ok (.getfield 10, 3) := by decide +kernel
theorem dX4_count_68 : decode cX4_count 68 = .ok (.getfield 64, 3) := by decide +kernel
theorem dX4_count_71 : decode cX4_count 71 = .ok (.ireturn, 1) := by decide +kernel
theorem dX4_count_72 : decode cX4_count 72 = .ok (.aload_n 0, 1) := by decide +kernel
theorem dX4_count_73 : decode cX4_count 73 = .ok (.getfield 21, 3) := by decide +kernel
theorem dX4_count_76 : decode cX4_count 76 = .ok (.getfield 71, 3) := by decide +kernel
theorem dX4_count_79 : decode cX4_count 79 = .ok (.ireturn, 1) := by decide +kernel
theorem dX4_count_80 : decode cX4_count 80 = .ok (.aload_n 0, 1) := by decide +kernel
theorem dX4_count_81 : decode cX4_count 81 = .ok (.getfield 21, 3) := by decide +kernel
theorem dX4_count_84 : decode cX4_count 84 = .ok (.getfield 114, 3) := by decide +kernel
theorem dX4_count_87 : decode cX4_count 87 = .ok (.invokestatic 130, 3) := by decide +kernel
theorem dX4_count_90 : decode cX4_count 90 = .ok (.ireturn, 1) := by decide +kernel
theorem dX4_count_91 : decode cX4_count 91 = .ok (.aload_n 0, 1) := by decide +kernel
theorem dX4_count_92 : decode cX4_count 92 = .ok (.getfield 21, 3) := by decide +kernel
theorem dX4_count_95 : decode cX4_count 95 = .ok (.invokevirtual 159, 3) := by decide +kernel
theorem dX4_count_98 : decode cX4_count 98 = .ok (.ireturn, 1) := by decide +kernel
theorem dX4_count_99 : decode cX4_count 99 = .ok (.aload_n 0, 1) := by decide +kernel
theorem dX4_count_100 : decode cX4_count 100 = .ok (.getfield 21, 3) := by decide +kernel
theorem dX4_count_103 : decode cX4_count 103 = .ok (.getfield 144, 3) := by decide +kernel
theorem dX4_count_106 : decode cX4_count 106 = .ok (.ireturn, 1) := by decide +kernel
theorem dX4_count_107 : decode cX4_count 107 = .ok (.aload_n 0, 1) := by decide +kernel
theorem dX4_count_108 : decode cX4_count 108 = .ok (.getfield 21, 3) := by decide +kernel
theorem dX4_count_111 : decode cX4_count 111 = .ok (.invokevirtual 162, 3) := by decide +kernel
theorem dX4_count_114 : decode cX4_count 114 = .ok (.ireturn, 1) := by decide +kernel
theorem dX4_count_115 : decode cX4_count 115 = .ok (.aload_n 0, 1) := by decide +kernel
theorem dX4_count_116 : decode cX4_count 116 = .ok (.getfield 10, 3) := by decide +kernel
theorem dX4_count_119 : decode cX4_count 119 = .ok (.aload_n 0, 1) := by decide +kernel
theorem dX4_count_120 : decode cX4_count 120 = .ok (.getfield 10, 3) := by decide +kernel
theorem dX4_count_123 : decode cX4_count 123 = .ok (.invokevirtual 165, 3) := by decide +kernel
theorem dX4_count_126 : decode cX4_count 126 = .ok (.invokevirtual 153, 3) := by decide +kernel
theorem dX4_count_129 : decode cX4_count 129 = .ok (.ireturn, 1) := by decide +kernel
theorem dX4_count_130 : decode cX4_count 130 = .ok (.aload_n 0, 1) := by decide +kernel
theorem dX4_count_131 : decode cX4_count 131 = .ok (.getfield 28, 3) := by decide +kernel
theorem dX4_count_134 : decode cX4_count 134 = .ok (.getfield 101, 3) := by decide +kernel
theorem dX4_count_137 : decode cX4_count 137 = .ok (.ireturn, 1) := by decide +kernel
theorem dX4_count_138 : decode cX4_count 138 = .ok (.aload_n 0, 1) := by decide +kernel
theorem dX4_count_139 : decode cX4_count 139 = .ok (.getfield 35, 3) := by decide +kernel
theorem dX4_count_142 : decode cX4_count 142 = .ok (.getfield 168, 3) := by decide +kernel
theorem dX4_count_145 : decode cX4_count 145 = .ok (.ireturn, 1) := by decide +kernel
theorem dX4_count_146 : decode cX4_count 146 = .ok (.bipush (-2), 2) := by decide +kernel
theorem dX4_count_148 : decode cX4_count 148 = .ok (.ireturn, 1) := by decide +kernel
theorem dX4_way_0 : decode cX4_way 0 = .ok (.aload_n 0, 1) := by decide +kernel
theorem dX4_way_1 : decode cX4_way 1 = .ok (.getfield 10, 3) := by decide +kernel
theorem dX4_way_4 : decode cX4_way 4 = .ok (.iload_n 1, 1) := by decide +kernel
theorem dX4_way_5 : decode cX4_way 5 = .ok (.invokevirtual 61, 3) := by decide +kernel
theorem dX4_way_8 : decode cX4_way 8 = .ok (.ifCond .eq 14, 3) := by decide +kernel
theorem dX4_way_11 : decode cX4_way 11 = .ok (.aload_n 0, 1) := by decide +kernel
theorem dX4_way_12 : decode cX4_way 12 = .ok (.getfield 10, 3) := by decide +kernel
theorem dX4_way_15 : decode cX4_way 15 = .ok (.iload_n 2, 1) := by decide +kernel
theorem dX4_way_16 : decode cX4_way 16 = .ok (.invokevirtual 61, 3) := by decide +kernel
theorem dX4_way_19 : decode cX4_way 19 = .ok (.ifCond .ne 5, 3) := by decide +kernel
theorem dX4_way_22 : decode cX4_way 22 = .ok (.iconst (-1), 1) := by decide +kernel
theorem dX4_way_23 : decode cX4_way 23 = .ok (.ireturn, 1) := by decide +kernel
theorem dX4_way_24 : decode cX4_way 24 = .ok (.iload_n 3, 1) := by decide +kernel
theorem dX4_way_25 : decode cX4_way 25 = .ok (.ifCond .lt 8, 3) := by decide +kernel
theorem dX4_way_28 : decode cX4_way 28 = .ok (.iload_n 3, 1) := by decide +kernel
theorem dX4_way_29 : decode cX4_way 29 = .ok (.iconst 2, 1) := by decide +kernel
theorem dX4_way_30 : decode cX4_way 30 = .ok (.if_icmp .le 6, 3) := by decide +kernel
theorem dX4_way_33 : decode cX4_way 33 = .ok (.bipush (-2), 2) := by decide +kernel
theorem dX4_way_35 : decode cX4_way 35 = .ok (.ireturn, 1) := by decide +kernel
theorem dX4_way_36 : decode cX4_way 36 = .ok (.aload_n 0, 1) := by decide +kernel
theorem dX4_way_37 : decode cX4_way 37 = .ok (.getfield 21, 3) := by decide +kernel
theorem dX4_way_40 : decode cX4_way 40 = .ok (.iload_n 1, 1) := by decide +kernel
theorem dX4_way_41 : decode cX4_way 41 = .ok (.iload_n 2, 1) := by decide +kernel
theorem dX4_way_42 : decode cX4_way 42 = .ok (.invokevirtual 171, 3) := by decide +kernel
theorem dX4_way_45 : decode cX4_way 45 = .ok (.ifCond .ne 6, 3) := by decide +kernel
theorem dX4_way_48 : decode cX4_way 48 = .ok (.bipush (-6), 2) := by decide +kernel
theorem dX4_way_50 : decode cX4_way 50 = .ok (.ireturn, 1) := by decide +kernel
theorem dX4_way_51 : decode cX4_way 51 = .ok (.iload_n 3, 1) := by decide +kernel
theorem dX4_way_52 : decode cX4_way 52 = .ok (.ifCond .ne 13, 3) := by decide +kernel
theorem dX4_way_55 : decode cX4_way 55 = .ok (.aload_n 0, 1) := by decide +kernel
theorem dX4_way_56 : decode cX4_way 56 = .ok (.getfield 21, 3) := by decide +kernel
theorem dX4_way_59 : decode cX4_way 59 = .ok (.iload_n 1, 1) := by decide +kernel
theorem dX4_way_60 : decode cX4_way 60 = .ok (.iload_n 2, 1) := by decide +kernel
theorem dX4_way_61 : decode cX4_way 61 = .ok (.invokevirtual 174, 3) := by decide +kernel
theorem dX4_way_64 : decode cX4_way 64 = .ok (.ireturn, 1) := by decide +kernel
theorem dX4_way_65 : decode cX4_way 65 = .ok (.aload_n 0, 1) := by decide +kernel
theorem dX4_way_66 : decode cX4_way 66 = .ok (.getfield 21, 3) := by decide +kernel
theorem dX4_way_69 : decode cX4_way 69 = .ok (.iload_n 1, 1) := by decide +kernel
theorem dX4_way_70 : decode cX4_way 70 = .ok (.iload_n 2, 1) := by decide +kernel
theorem dX4_way_71 : decode cX4_way 71 = .ok (.invokevirtual 178, 3) := by decide +kernel
theorem dX4_way_74 : decode cX4_way 74 = .ok (.invokestatic 130, 3) := by decide +kernel
theorem dX4_way_77 : decode cX4_way 77 = .ok (.istore 4, 2) := by decide +kernel
theorem dX4_way_79 : decode cX4_way 79 = .ok (.iload_n 3, 1) := by decide +kernel
theorem dX4_way_80 : decode cX4_way 80 = .ok (.iconst 1, 1) := by decide +kernel
theorem dX4_way_81 : decode cX4_way 81 = .ok (.if_icmp .ne 8, 3) := by decide +kernel
theorem dX4_way_84 : decode cX4_way 84 = .ok (.iload 4, 2) := by decide +kernel
theorem dX4_way_86 : decode cX4_way 86 = .ok (.goto 7, 3) := by decide +kernel
theorem dX4_way_89 : decode cX4_way 89 = .ok (.iload 4, 2) := by decide +kernel
theorem dX4_way_91 : decode cX4_way 91 = .ok (.iconst 1, 1) := by decide +kernel
theorem dX4_way_92 : decode cX4_way 92 = .ok (.iadd, 1) := by decide +kernel
theorem dX4_way_93 : decode cX4_way 93 = .ok (.ireturn, 1) := by decide +kernel
theorem dX4_must_0 : decode cX4_must 0 = .ok (.aload_n 0, 1) := by decide +kernel
theorem dX4_must_1 : decode cX4_must 1 = .ok (.getfield 10, 3) := by decide +kernel
theorem dX4_must_4 : decode cX4_must 4 = .ok (.iload_n 1, 1) := by decide +kernel
theorem dX4_must_5 : decode cX4_must 5 = .ok (.invokevirtual 61, 3) := by decide +kernel
theorem dX4_must_8 : decode cX4_must 8 = .ok (.ifCond .eq 14, 3) := by decide +kernel
theorem dX4_must_11 : decode cX4_must 11 = .ok (.aload_n 0, 1) := by decide +kernel
theorem dX4_must_12 : decode cX4_must 12 = .ok (.getfield 10, 3) := by decide +kernel
theorem dX4_must_15 : decode cX4_must 15 = .ok (.iload_n 2, 1) := by decide +kernel
theorem dX4_must_16 : decode cX4_must 16 = .ok (.invokevirtual 61, 3) := by decide +kernel
theorem dX4_must_19 : decode cX4_must 19 = .ok (.ifCond .ne 5, 3) := by decide +kernel
theorem dX4_must_22 : decode cX4_must 22 = .ok (.iconst (-1), 1) := by decide +kernel
theorem dX4_must_23 : decode cX4_must 23 = .ok (.ireturn, 1) := by decide +kernel
theorem dX4_must_24 : decode cX4_must 24 = .ok (.iload_n 3, 1) := by decide +kernel
theorem dX4_must_25 : decode cX4_must 25 = .ok (.ifCond .ge 6, 3) := by decide +kernel
theorem dX4_must_28 : decode cX4_must 28 = .ok (.bipush (-2), 2) := by decide +kernel
theorem dX4_must_30 : decode cX4_must 30 = .ok (.ireturn, 1) := by decide +kernel
theorem dX4_must_31 : decode cX4_must 31 = .ok (.aload_n 0, 1) := by decide +kernel
theorem dX4_must_32 : decode cX4_must 32 = .ok (.getfield 21, 3) := by decide +kernel
theorem dX4_must_35 : decode cX4_must 35 = .ok (.iload_n 1, 1) := by decide +kernel
theorem dX4_must_36 : decode cX4_must 36 = .ok (.iload_n 2, 1) := by decide +kernel
theorem dX4_must_37 : decode cX4_must 37 = .ok (.iload_n 3, 1) := by decide +kernel
theorem dX4_must_38 : decode cX4_must 38 = .ok (.invokevirtual 181, 3) := by decide +kernel
theorem dX4_must_41 : decode cX4_must 41 = .ok (.ireturn, 1) := by decide +kernel
theorem dX4_cutOff_0 : decode cX4_cutOff 0 = .ok (.aload_n 0, 1) := by decide +kernel
theorem dX4_cutOff_1 : decode cX4_cutOff 1 = .ok (.getfield 10, 3) := by decide +kernel
theorem dX4_cutOff_4 : decode cX4_cutOff 4 = .ok (.iload_n 1, 1) := by decide +kernel
theorem dX4_cutOff_5 : decode cX4_cutOff 5 = .ok (.invokevirtual 61, 3) := by decide +kernel
theorem dX4_cutOff_8 : decode cX4_cutOff 8 = .ok (.ifCond .eq 14, 3) := by decide +kernel
theorem dX4_cutOff_11 : decode cX4_cutOff 11 = .ok (.aload_n 0, 1) := by decide +kernel
theorem dX4_cutOff_12 : decode cX4_cutOff 12 = .ok (.getfield 10, 3) := by decide +kernel
theorem dX4_cutOff_15 : decode cX4_cutOff 15 = .ok (.iload_n 2, 1) := by decide +kernel
theorem dX4_cutOff_16 : decode cX4_cutOff 16 = .ok (.invokevirtual 74, 3) := by decide +kernel
theorem dX4_cutOff_19 : decode cX4_cutOff 19 = .ok (.ifCond .ne 5, 3) := by decide +kernel
theorem dX4_cutOff_22 : decode cX4_cutOff 22 = .ok (.iconst (-1), 1) := by decide +kernel
theorem dX4_cutOff_23 : decode cX4_cutOff 23 = .ok (.ireturn, 1) := by decide +kernel
theorem dX4_cutOff_24 : decode cX4_cutOff 24 = .ok (.aload_n 0, 1) := by decide +kernel
theorem dX4_cutOff_25 : decode cX4_cutOff 25 = .ok (.getfield 21, 3) := by decide +kernel
theorem dX4_cutOff_28 : decode cX4_cutOff 28 = .ok (.iload_n 1, 1) := by decide +kernel
theorem dX4_cutOff_29 : decode cX4_cutOff 29 = .ok (.iload_n 2, 1) := by decide +kernel
theorem dX4_cutOff_30 : decode cX4_cutOff 30 = .ok (.invokevirtual 185, 3) := by decide +kernel
theorem dX4_cutOff_33 : decode cX4_cutOff 33 = .ok (.ireturn, 1) := by decide +kernel
theorem dX4_ifBuilt_0 : decode cX4_ifBuilt 0 = .ok (.aload_n 0, 1) := by decide +kernel
theorem dX4_ifBuilt_1 : decode cX4_ifBuilt 1 = .ok (.getfield 10, 3) := by decide +kernel
theorem dX4_ifBuilt_4 : decode cX4_ifBuilt 4 = .ok (.iload_n 1, 1) := by decide +kernel
theorem dX4_ifBuilt_5 : decode cX4_ifBuilt 5 = .ok (.invokevirtual 61, 3) := by decide +kernel
theorem dX4_ifBuilt_8 : decode cX4_ifBuilt 8 = .ok (.ifCond .eq 14, 3) := by decide +kernel
theorem dX4_ifBuilt_11 : decode cX4_ifBuilt 11 = .ok (.aload_n 0, 1) := by decide +kernel
theorem dX4_ifBuilt_12 : decode cX4_ifBuilt 12 = .ok (.getfield 10, 3) := by decide +kernel
theorem dX4_ifBuilt_15 : decode cX4_ifBuilt 15 = .ok (.iload_n 2, 1) := by decide +kernel
theorem dX4_ifBuilt_16 : decode cX4_ifBuilt 16 = .ok (.invokevirtual 61, 3) := by decide +kernel
theorem dX4_ifBuilt_19 : decode cX4_ifBuilt 19 = .ok (.ifCond .ne 5, 3) := by decide +kernel
theorem dX4_ifBuilt_22 : decode cX4_ifBuilt 22 = .ok (.iconst (-1), 1) := by decide +kernel
theorem dX4_ifBuilt_23 : decode cX4_ifBuilt 23 = .ok (.ireturn, 1) := by decide +kernel
theorem dX4_ifBuilt_24 : decode cX4_ifBuilt 24 = .ok (.iload_n 1, 1) := by decide +kernel
theorem dX4_ifBuilt_25 : decode cX4_ifBuilt 25 = .ok (.iload_n 2, 1) := by decide +kernel
theorem dX4_ifBuilt_26 : decode cX4_ifBuilt 26 = .ok (.if_icmp .ne 6, 3) := by decide +kernel
theorem dX4_ifBuilt_29 : decode cX4_ifBuilt 29 = .ok (.bipush (-2), 2) := by decide +kernel
theorem dX4_ifBuilt_31 : decode cX4_ifBuilt 31 = .ok (.ireturn, 1) := by decide +kernel
theorem dX4_ifBuilt_32 : decode cX4_ifBuilt 32 = .ok (.aload_n 0, 1) := by decide +kernel
theorem dX4_ifBuilt_33 : decode cX4_ifBuilt 33 = .ok (.getfield 21, 3) := by decide +kernel
theorem dX4_ifBuilt_36 : decode cX4_ifBuilt 36 = .ok (.iload_n 1, 1) := by decide +kernel
theorem dX4_ifBuilt_37 : decode cX4_ifBuilt 37 = .ok (.iload_n 2, 1) := by decide +kernel
theorem dX4_ifBuilt_38 : decode cX4_ifBuilt 38 = .ok (.invokevirtual 178, 3) := by decide +kernel
theorem dX4_ifBuilt_41 : decode cX4_ifBuilt 41 = .ok (.invokestatic 130, 3) := by decide +kernel
theorem dX4_ifBuilt_44 : decode cX4_ifBuilt 44 = .ok (.istore 4, 2) := by decide +kernel
theorem dX4_ifBuilt_46 : decode cX4_ifBuilt 46 = .ok (.iload_n 3, 1) := by decide +kernel
theorem dX4_ifBuilt_47 : decode cX4_ifBuilt 47 = .ok (.tableswitch 71 0 2 #[25, 28, 39], 25) := by decide +kernel
theorem dX4_ifBuilt_72 : decode cX4_ifBuilt 72 = .ok (.iload 4, 2) := by decide +kernel
theorem dX4_ifBuilt_74 : decode cX4_ifBuilt 74 = .ok (.ireturn, 1) := by decide +kernel
theorem dX4_ifBuilt_75 : decode cX4_ifBuilt 75 = .ok (.aload_n 0, 1) := by decide +kernel
theorem dX4_ifBuilt_76 : decode cX4_ifBuilt 76 = .ok (.getfield 21, 3) := by decide +kernel
theorem dX4_ifBuilt_79 : decode cX4_ifBuilt 79 = .ok (.getfield 144, 3) := by decide +kernel
theorem dX4_ifBuilt_82 : decode cX4_ifBuilt 82 = .ok (.iload 4, 2) := by decide +kernel
theorem dX4_ifBuilt_84 : decode cX4_ifBuilt 84 = .ok (.isub, 1) := by decide +kernel
theorem dX4_ifBuilt_85 : decode cX4_ifBuilt 85 = .ok (.ireturn, 1) := by decide +kernel
theorem dX4_ifBuilt_86 : decode cX4_ifBuilt 86 = .ok (.aload_n 0, 1) := by decide +kernel
theorem dX4_ifBuilt_87 : decode cX4_ifBuilt 87 = .ok (.getfield 21, 3) := by decide +kernel
theorem dX4_ifBuilt_90 : decode cX4_ifBuilt 90 = .ok (.iload_n 1, 1) := by decide +kernel
theorem dX4_ifBuilt_91 : decode cX4_ifBuilt 91 = .ok (.iload_n 2, 1) := by decide +kernel
theorem dX4_ifBuilt_92 : decode cX4_ifBuilt 92 = .ok (.invokevirtual 171, 3) := by decide +kernel
theorem dX4_ifBuilt_95 : decode cX4_ifBuilt 95 = .ok (.ifCond .eq 13, 3) := by decide +kernel
theorem dX4_ifBuilt_98 : decode cX4_ifBuilt 98 = .ok (.aload_n 0, 1) := by decide +kernel
theorem dX4_ifBuilt_99 : decode cX4_ifBuilt 99 = .ok (.getfield 21, 3) := by decide +kernel
theorem dX4_ifBuilt_102 : decode cX4_ifBuilt 102 = .ok (.getfield 71, 3) := by decide +kernel
theorem dX4_ifBuilt_105 : decode cX4_ifBuilt 105 = .ok (.goto 12, 3) := by decide +kernel
theorem dX4_ifBuilt_108 : decode cX4_ifBuilt 108 = .ok (.aload_n 0, 1) := by decide +kernel
theorem dX4_ifBuilt_109 : decode cX4_ifBuilt 109 = .ok (.getfield 21, 3) := by decide +kernel
theorem dX4_ifBuilt_112 : decode cX4_ifBuilt 112 = .ok (.getfield 71, 3) := by decide +kernel
theorem dX4_ifBuilt_115 : decode cX4_ifBuilt 115 = .ok (.iconst 1, 1) := by decide +kernel
theorem dX4_ifBuilt_116 : decode cX4_ifBuilt 116 = .ok (.isub, 1) := by decide +kernel
theorem dX4_ifBuilt_117 : decode cX4_ifBuilt 117 = .ok (.ireturn, 1) := by decide +kernel
theorem dX4_ifBuilt_118 : decode cX4_ifBuilt 118 = .ok (.bipush (-2), 2) := by decide +kernel
theorem dX4_ifBuilt_120 : decode cX4_ifBuilt 120 = .ok (.ireturn, 1) := by decide +kernel
theorem dX4_bestBuilt_0 : decode cX4_bestBuilt 0 = .ok (.iload_n 1, 1) := by decide +kernel
theorem dX4_bestBuilt_1 : decode cX4_bestBuilt 1 = .ok (.ifCond .lt 8, 3) := by decide +kernel
theorem dX4_bestBuilt_4 : decode cX4_bestBuilt 4 = .ok (.iload_n 1, 1) := by decide +kernel
theorem dX4_bestBuilt_5 : decode cX4_bestBuilt 5 = .ok (.iconst 2, 1) := by decide +kernel
theorem dX4_bestBuilt_6 : decode cX4_bestBuilt 6 = .ok (.if_icmp .le 6, 3) := by decide +kernel
theorem dX4_bestBuilt_9 : decode cX4_bestBuilt 9 = .ok (.bipush (-2), 2) := by decide +kernel
theorem dX4_bestBuilt_11 : decode cX4_bestBuilt 11 = .ok (.ireturn, 1) := by decide +kernel
theorem dX4_bestBuilt_12 : decode cX4_bestBuilt 12 = .ok (.iconst 0, 1) := by decide +kernel
theorem dX4_bestBuilt_13 : decode cX4_bestBuilt 13 = .ok (.istore_n 2, 1) := by decide +kernel
theorem dX4_bestBuilt_14 : decode cX4_bestBuilt 14 = .ok (.iconst 1, 1) := by decide +kernel
theorem dX4_bestBuilt_15 : decode cX4_bestBuilt 15 = .ok (.istore_n 3, 1) := by decide +kernel
theorem dX4_bestBuilt_16 : decode cX4_bestBuilt 16 = .ok (.aload_n 0, 1) := by decide +kernel
theorem dX4_bestBuilt_17 : decode cX4_bestBuilt 17 = .ok (.getfield 21, 3) := by decide +kernel
theorem dX4_bestBuilt_20 : decode cX4_bestBuilt 20 = .ok (.iload_n 2, 1) := by decide +kernel
theorem dX4_bestBuilt_21 : decode cX4_bestBuilt 21 = .ok (.iload_n 3, 1) := by decide +kernel
theorem dX4_bestBuilt_22 : decode cX4_bestBuilt 22 = .ok (.invokevirtual 188, 3) := by decide +kernel
theorem dX4_bestBuilt_25 : decode cX4_bestBuilt 25 = .ok (.istore 4, 2) := by decide +kernel
theorem dX4_bestBuilt_27 : decode cX4_bestBuilt 27 = .ok (.iconst 0, 1) := by decide +kernel
theorem dX4_bestBuilt_28 : decode cX4_bestBuilt 28 = .ok (.istore 5, 2) := by decide +kernel
theorem dX4_bestBuilt_30 : decode cX4_bestBuilt 30 = .ok (.iload 5, 2) := by decide +kernel
theorem dX4_bestBuilt_32 : decode cX4_bestBuilt 32 = .ok (.aload_n 0, 1) := by decide +kernel
theorem dX4_bestBuilt_33 : decode cX4_bestBuilt 33 = .ok (.getfield 10, 3) := by decide +kernel
theorem dX4_bestBuilt_36 : decode cX4_bestBuilt 36 = .ok (.getfield 51, 3) := by decide +kernel
theorem dX4_bestBuilt_39 : decode cX4_bestBuilt 39 = .ok (.if_icmp .ge 63, 3) := by decide +kernel
theorem dX4_bestBuilt_42 : decode cX4_bestBuilt 42 = .ok (.iload 5, 2) := by decide +kernel
theorem dX4_bestBuilt_44 : decode cX4_bestBuilt 44 = .ok (.iconst 1, 1) := by decide +kernel
theorem dX4_bestBuilt_45 : decode cX4_bestBuilt 45 = .ok (.iadd, 1) := by decide +kernel
theorem dX4_bestBuilt_46 : decode cX4_bestBuilt 46 = .ok (.istore 6, 2) := by decide +kernel
theorem dX4_bestBuilt_48 : decode cX4_bestBuilt 48 = .ok (.iload 6, 2) := by decide +kernel
theorem dX4_bestBuilt_50 : decode cX4_bestBuilt 50 = .ok (.aload_n 0, 1) := by decide +kernel
theorem dX4_bestBuilt_51 : decode cX4_bestBuilt 51 = .ok (.getfield 10, 3) := by decide +kernel
theorem dX4_bestBuilt_54 : decode cX4_bestBuilt 54 = .ok (.getfield 51, 3) := by decide +kernel
theorem dX4_bestBuilt_57 : decode cX4_bestBuilt 57 = .ok (.if_icmp .ge 39, 3) := by decide +kernel
theorem dX4_bestBuilt_60 : decode cX4_bestBuilt 60 = .ok (.aload_n 0, 1) := by decide +kernel
theorem dX4_bestBuilt_61 : decode cX4_bestBuilt 61 = .ok (.getfield 21, 3) := by decide +kernel
theorem dX4_bestBuilt_64 : decode cX4_bestBuilt 64 = .ok (.iload 5, 2) := by decide +kernel
theorem dX4_bestBuilt_66 : decode cX4_bestBuilt 66 = .ok (.iload 6, 2) := by decide +kernel
theorem dX4_bestBuilt_68 : decode cX4_bestBuilt 68 = .ok (.invokevirtual 188, 3) := by decide +kernel
theorem dX4_bestBuilt_71 : decode cX4_bestBuilt 71 = .ok (.istore 7, 2) := by decide +kernel
theorem dX4_bestBuilt_73 : decode cX4_bestBuilt 73 = .ok (.iload 7, 2) := by decide +kernel
theorem dX4_bestBuilt_75 : decode cX4_bestBuilt 75 = .ok (.iload 4, 2) := by decide +kernel
theorem dX4_bestBuilt_77 : decode cX4_bestBuilt 77 = .ok (.if_icmp .ge 13, 3) := by decide +kernel
theorem dX4_bestBuilt_80 : decode cX4_bestBuilt 80 = .ok (.iload 7, 2) := by decide +kernel
theorem dX4_bestBuilt_82 : decode cX4_bestBuilt 82 = .ok (.istore 4, 2) := by decide +kernel
theorem dX4_bestBuilt_84 : decode cX4_bestBuilt 84 = .ok (.iload 5, 2) := by decide +kernel
theorem dX4_bestBuilt_86 : decode cX4_bestBuilt 86 = .ok (.istore_n 2, 1) := by decide +kernel
theorem dX4_bestBuilt_87 : decode cX4_bestBuilt 87 = .ok (.iload 6, 2) := by decide +kernel
theorem dX4_bestBuilt_89 : decode cX4_bestBuilt 89 = .ok (.istore_n 3, 1) := by decide +kernel
theorem dX4_bestBuilt_90 : decode cX4_bestBuilt 90 = .ok (.iinc 6 1, 3) := by decide +kernel
theorem dX4_bestBuilt_93 : decode cX4_bestBuilt 93 = .ok (.goto (-45), 3) := by decide +kernel
theorem dX4_bestBuilt_96 : decode cX4_bestBuilt 96 = .ok (.iinc 5 1, 3) := by decide +kernel
theorem dX4_bestBuilt_99 : decode cX4_bestBuilt 99 = .ok (.goto (-69), 3) := by decide +kernel
theorem dX4_bestBuilt_102 : decode cX4_bestBuilt 102 = .ok (.iload_n 1, 1) := by decide +kernel
theorem dX4_bestBuilt_103 : decode cX4_bestBuilt 103 = .ok (.iconst 2, 1) := by decide +kernel
theorem dX4_bestBuilt_104 : decode cX4_bestBuilt 104 = .ok (.if_icmp .ne 6, 3) := by decide +kernel
theorem dX4_bestBuilt_107 : decode cX4_bestBuilt 107 = .ok (.iload 4, 2) := by decide +kernel
theorem dX4_bestBuilt_109 : decode cX4_bestBuilt 109 = .ok (.ireturn, 1) := by decide +kernel
theorem dX4_bestBuilt_110 : decode cX4_bestBuilt 110 = .ok (.iload_n 1, 1) := by decide +kernel
theorem dX4_bestBuilt_111 : decode cX4_bestBuilt 111 = .ok (.ifCond .ne 7, 3) := by decide +kernel
theorem dX4_bestBuilt_114 : decode cX4_bestBuilt 114 = .ok (.iload_n 2, 1) := by decide +kernel
theorem dX4_bestBuilt_115 : decode cX4_bestBuilt 115 = .ok (.goto 4, 3) := by decide +kernel
theorem dX4_bestBuilt_118 : decode cX4_bestBuilt 118 = .ok (.iload_n 3, 1) := by decide +kernel
theorem dX4_bestBuilt_119 : decode cX4_bestBuilt 119 = .ok (.ireturn, 1) := by decide +kernel
theorem dX4_worstLoss_0 : decode cX4_worstLoss 0 = .ok (.iload_n 1, 1) := by decide +kernel
theorem dX4_worstLoss_1 : decode cX4_worstLoss 1 = .ok (.ifCond .eq 11, 3) := by decide +kernel
theorem dX4_worstLoss_4 : decode cX4_worstLoss 4 = .ok (.iload_n 1, 1) := by decide +kernel
theorem dX4_worstLoss_5 : decode cX4_worstLoss 5 = .ok (.iconst 1, 1) := by decide +kernel
theorem dX4_worstLoss_6 : decode cX4_worstLoss 6 = .ok (.if_icmp .eq 6, 3) := by decide +kernel
theorem dX4_worstLoss_9 : decode cX4_worstLoss 9 = .ok (.bipush (-2), 2) := by decide +kernel
theorem dX4_worstLoss_11 : decode cX4_worstLoss 11 = .ok (.ireturn, 1) := by decide +kernel
theorem dX4_worstLoss_12 : decode cX4_worstLoss 12 = .ok (.aload_n 0, 1) := by decide +kernel
theorem dX4_worstLoss_13 : decode cX4_worstLoss 13 = .ok (.getfield 10, 3) := by decide +kernel
theorem dX4_worstLoss_16 : decode cX4_worstLoss 16 = .ok (.getfield 64, 3) := by decide +kernel
theorem dX4_worstLoss_19 : decode cX4_worstLoss 19 = .ok (.ifCond .ne 6, 3) := by decide +kernel
theorem dX4_worstLoss_22 : decode cX4_worstLoss 22 = .ok (.bipush (-6), 2) := by decide +kernel
theorem dX4_worstLoss_24 : decode cX4_worstLoss 24 = .ok (.ireturn, 1) := by decide +kernel
theorem dX4_worstLoss_25 : decode cX4_worstLoss 25 = .ok (.iconst 0, 1) := by decide +kernel
theorem dX4_worstLoss_26 : decode cX4_worstLoss 26 = .ok (.istore_n 2, 1) := by decide +kernel
theorem dX4_worstLoss_27 : decode cX4_worstLoss 27 = .ok (.aload_n 0, 1) := by decide +kernel
theorem dX4_worstLoss_28 : decode cX4_worstLoss 28 = .ok (.getfield 21, 3) := by decide +kernel
theorem dX4_worstLoss_31 : decode cX4_worstLoss 31 = .ok (.iload_n 2, 1) := by decide +kernel
theorem dX4_worstLoss_32 : decode cX4_worstLoss 32 = .ok (.invokevirtual 124, 3) := by decide +kernel
theorem dX4_worstLoss_35 : decode cX4_worstLoss 35 = .ok (.istore_n 3, 1) := by decide +kernel
theorem dX4_worstLoss_36 : decode cX4_worstLoss 36 = .ok (.iconst 1, 1) := by decide +kernel
theorem dX4_worstLoss_37 : decode cX4_worstLoss 37 = .ok (.istore 4, 2) := by decide +kernel
theorem dX4_worstLoss_39 : decode cX4_worstLoss 39 = .ok (.iload 4, 2) := by decide +kernel
theorem dX4_worstLoss_41 : decode cX4_worstLoss 41 = .ok (.aload_n 0, 1) := by decide +kernel
theorem dX4_worstLoss_42 : decode cX4_worstLoss 42 = .ok (.getfield 10, 3) := by decide +kernel
theorem dX4_worstLoss_45 : decode cX4_worstLoss 45 = .ok (.getfield 64, 3) := by decide +kernel
theorem dX4_worstLoss_48 : decode cX4_worstLoss 48 = .ok (.if_icmp .ge 32, 3) := by decide +kernel
theorem dX4_worstLoss_51 : decode cX4_worstLoss 51 = .ok (.aload_n 0, 1) := by decide +kernel
theorem dX4_worstLoss_52 : decode cX4_worstLoss 52 = .ok (.getfield 21, 3) := by decide +kernel
theorem dX4_worstLoss_55 : decode cX4_worstLoss 55 = .ok (.iload 4, 2) := by decide +kernel
theorem dX4_worstLoss_57 : decode cX4_worstLoss 57 = .ok (.invokevirtual 124, 3) := by decide +kernel
theorem dX4_worstLoss_60 : decode cX4_worstLoss 60 = .ok (.istore 5, 2) := by decide +kernel
theorem dX4_worstLoss_62 : decode cX4_worstLoss 62 = .ok (.iload 5, 2) := by decide +kernel
theorem dX4_worstLoss_64 : decode cX4_worstLoss 64 = .ok (.iload_n 3, 1) := by decide +kernel
theorem dX4_worstLoss_65 : decode cX4_worstLoss 65 = .ok (.if_icmp .le 9, 3) := by decide +kernel
theorem dX4_worstLoss_68 : decode cX4_worstLoss 68 = .ok (.iload 5, 2) := by decide +kernel
theorem dX4_worstLoss_70 : decode cX4_worstLoss 70 = .ok (.istore_n 3, 1) := by decide +kernel
theorem dX4_worstLoss_71 : decode cX4_worstLoss 71 = .ok (.iload 4, 2) := by decide +kernel
theorem dX4_worstLoss_73 : decode cX4_worstLoss 73 = .ok (.istore_n 2, 1) := by decide +kernel
theorem dX4_worstLoss_74 : decode cX4_worstLoss 74 = .ok (.iinc 4 1, 3) := by decide +kernel
theorem dX4_worstLoss_77 : decode cX4_worstLoss 77 = .ok (.goto (-38), 3) := by decide +kernel
theorem dX4_worstLoss_80 : decode cX4_worstLoss 80 = .ok (.iload_n 1, 1) := by decide +kernel
theorem dX4_worstLoss_81 : decode cX4_worstLoss 81 = .ok (.ifCond .ne 7, 3) := by decide +kernel
theorem dX4_worstLoss_84 : decode cX4_worstLoss 84 = .ok (.iload_n 2, 1) := by decide +kernel
theorem dX4_worstLoss_85 : decode cX4_worstLoss 85 = .ok (.goto 4, 3) := by decide +kernel
theorem dX4_worstLoss_88 : decode cX4_worstLoss 88 = .ok (.iload_n 3, 1) := by decide +kernel
theorem dX4_worstLoss_89 : decode cX4_worstLoss 89 = .ok (.ireturn, 1) := by decide +kernel
theorem dX4_needed_0 : decode cX4_needed 0 = .ok (.aload_n 0, 1) := by decide +kernel
theorem dX4_needed_1 : decode cX4_needed 1 = .ok (.getfield 10, 3) := by decide +kernel
theorem dX4_needed_4 : decode cX4_needed 4 = .ok (.iload_n 1, 1) := by decide +kernel
theorem dX4_needed_5 : decode cX4_needed 5 = .ok (.invokevirtual 61, 3) := by decide +kernel
theorem dX4_needed_8 : decode cX4_needed 8 = .ok (.ifCond .ne 5, 3) := by decide +kernel
theorem dX4_needed_11 : decode cX4_needed 11 = .ok (.iconst (-1), 1) := by decide +kernel
theorem dX4_needed_12 : decode cX4_needed 12 = .ok (.ireturn, 1) := by decide +kernel
theorem dX4_needed_13 : decode cX4_needed 13 = .ok (.aload_n 0, 1) := by decide +kernel
theorem dX4_needed_14 : decode cX4_needed 14 = .ok (.getfield 21, 3) := by decide +kernel
theorem dX4_needed_17 : decode cX4_needed 17 = .ok (.aload_n 0, 1) := by decide +kernel
theorem dX4_needed_18 : decode cX4_needed 18 = .ok (.getfield 21, 3) := by decide +kernel
theorem dX4_needed_21 : decode cX4_needed 21 = .ok (.getfield 141, 3) := by decide +kernel
theorem dX4_needed_24 : decode cX4_needed 24 = .ok (.iload_n 1, 1) := by decide +kernel
theorem dX4_needed_25 : decode cX4_needed 25 = .ok (.iaload, 1) := by decide +kernel
theorem dX4_needed_26 : decode cX4_needed 26 = .ok (.invokevirtual 191, 3) := by decide +kernel
theorem dX4_needed_29 : decode cX4_needed 29 = .ok (.istore_n 2, 1) := by decide +kernel
theorem dX4_needed_30 : decode cX4_needed 30 = .ok (.iload_n 2, 1) := by decide +kernel
theorem dX4_needed_31 : decode cX4_needed 31 = .ok (.iconst 1, 1) := by decide +kernel
theorem dX4_needed_32 : decode cX4_needed 32 = .ok (.iadd, 1) := by decide +kernel
theorem dX4_needed_33 : decode cX4_needed 33 = .ok (.iconst 2, 1) := by decide +kernel
theorem dX4_needed_34 : decode cX4_needed 34 = .ok (.idiv, 1) := by decide +kernel
theorem dX4_needed_35 : decode cX4_needed 35 = .ok (.ireturn, 1) := by decide +kernel
theorem dX4_put_0 : decode cX4_put 0 = .ok (.lload_n 1, 1) := by decide +kernel
theorem dX4_put_1 : decode cX4_put 1 = .ok (.invokestatic 194, 3) := by decide +kernel
theorem dX4_put_4 : decode cX4_put 4 = .ok (.istore_n 3, 1) := by decide +kernel
theorem dX4_put_5 : decode cX4_put 5 = .ok (.iload_n 3, 1) := by decide +kernel
theorem dX4_put_6 : decode cX4_put 6 = .ok (.ifCond .ne 6, 3) := by decide +kernel
theorem dX4_put_9 : decode cX4_put 9 = .ok (.bipush (-2), 2) := by decide +kernel
theorem dX4_put_11 : decode cX4_put 11 = .ok (.ireturn, 1) := by decide +kernel
theorem dX4_put_12 : decode cX4_put 12 = .ok (.aload_n 0, 1) := by decide +kernel
theorem dX4_put_13 : decode cX4_put 13 = .ok (.getfield 28, 3) := by decide +kernel
theorem dX4_put_16 : decode cX4_put 16 = .ok (.getfield 101, 3) := by decide +kernel
theorem dX4_put_19 : decode cX4_put 19 = .ok (.iload_n 3, 1) := by decide +kernel
theorem dX4_put_20 : decode cX4_put 20 = .ok (.iadd, 1) := by decide +kernel
theorem dX4_put_21 : decode cX4_put 21 = .ok (.bipush 80, 2) := by decide +kernel
theorem dX4_put_23 : decode cX4_put 23 = .ok (.if_icmp .le 6, 3) := by decide +kernel
theorem dX4_put_26 : decode cX4_put 26 = .ok (.bipush (-4), 2) := by decide +kernel
theorem dX4_put_28 : decode cX4_put 28 = .ok (.ireturn, 1) := by decide +kernel
theorem dX4_put_29 : decode cX4_put 29 = .ok (.aload_n 0, 1) := by decide +kernel
theorem dX4_put_30 : decode cX4_put 30 = .ok (.getfield 28, 3) := by decide +kernel
theorem dX4_put_33 : decode cX4_put 33 = .ok (.lload_n 1, 1) := by decide +kernel
theorem dX4_put_34 : decode cX4_put 34 = .ok (.iload_n 3, 1) := by decide +kernel
theorem dX4_put_35 : decode cX4_put 35 = .ok (.invokevirtual 198, 3) := by decide +kernel
theorem dX4_put_38 : decode cX4_put 38 = .ok (.aload_n 0, 1) := by decide +kernel
theorem dX4_put_39 : decode cX4_put 39 = .ok (.getfield 28, 3) := by decide +kernel
theorem dX4_put_42 : decode cX4_put 42 = .ok (.getfield 101, 3) := by decide +kernel
theorem dX4_put_45 : decode cX4_put 45 = .ok (.ireturn, 1) := by decide +kernel
theorem dX4_wipe_0 : decode cX4_wipe 0 = .ok (.aload_n 0, 1) := by decide +kernel
theorem dX4_wipe_1 : decode cX4_wipe 1 = .ok (.getfield 28, 3) := by decide +kernel
theorem dX4_wipe_4 : decode cX4_wipe 4 = .ok (.getfield 101, 3) := by decide +kernel
theorem dX4_wipe_7 : decode cX4_wipe 7 = .ok (.istore_n 1, 1) := by decide +kernel
theorem dX4_wipe_8 : decode cX4_wipe 8 = .ok (.aload_n 0, 1) := by decide +kernel
theorem dX4_wipe_9 : decode cX4_wipe 9 = .ok (.getfield 28, 3) := by decide +kernel
theorem dX4_wipe_12 : decode cX4_wipe 12 = .ok (.iconst 0, 1) := by decide +kernel
theorem dX4_wipe_13 : decode cX4_wipe 13 = .ok (.putfield 101, 3) := by decide +kernel
theorem dX4_wipe_16 : decode cX4_wipe 16 = .ok (.iload_n 1, 1) := by decide +kernel
theorem dX4_wipe_17 : decode cX4_wipe 17 = .ok (.ireturn, 1) := by decide +kernel
theorem dX4_fault_0 : decode cX4_fault 0 = .ok (.aload_n 0, 1) := by decide +kernel
theorem dX4_fault_1 : decode cX4_fault 1 = .ok (.getfield 28, 3) := by decide +kernel
theorem dX4_fault_4 : decode cX4_fault 4 = .ok (.invokevirtual 81, 3) := by decide +kernel
theorem dX4_fault_7 : decode cX4_fault 7 = .ok (.ireturn, 1) := by decide +kernel
theorem dX4_charactersIn_0 : decode cX4_charactersIn 0 = .ok (.lload_n 0, 1) := by decide +kernel
theorem dX4_charactersIn_1 : decode cX4_charactersIn 1 = .ok (.lstore_n 2, 1) := by decide +kernel
theorem dX4_charactersIn_2 : decode cX4_charactersIn 2 = .ok (.iconst 0, 1) := by decide +kernel
theorem dX4_charactersIn_3 : decode cX4_charactersIn 3 = .ok (.istore 4, 2) := by decide +kernel
theorem dX4_charactersIn_5 : decode cX4_charactersIn 5 = .ok (.iconst 0, 1) := by decide +kernel
theorem dX4_charactersIn_6 : decode cX4_charactersIn 6 = .ok (.istore 5, 2) := by decide +kernel
theorem dX4_charactersIn_8 : decode cX4_charactersIn 8 = .ok (.iload 5, 2) := by decide +kernel
theorem dX4_charactersIn_10 : decode cX4_charactersIn 10 = .ok (.bipush 8, 2) := by decide +kernel
theorem dX4_charactersIn_12 : decode cX4_charactersIn 12 = .ok (.if_icmp .ge 50, 3) := by decide +kernel
theorem dX4_charactersIn_15 : decode cX4_charactersIn 15 = .ok (.lload_n 2, 1) := by decide +kernel
theorem dX4_charactersIn_16 : decode cX4_charactersIn 16 = .ok (.lconst 0, 1) := by decide +kernel
theorem dX4_charactersIn_17 : decode cX4_charactersIn 17 = .ok (.lcmp, 1) := by decide +kernel
theorem dX4_charactersIn_18 : decode cX4_charactersIn 18 = .ok (.ifCond .eq 44, 3) := by decide +kernel
theorem dX4_charactersIn_21 : decode cX4_charactersIn 21 = .ok (.lload_n 2, 1) := by decide +kernel
theorem dX4_charactersIn_22 : decode cX4_charactersIn 22 = .ok (.ldc2_w 202, 3) := by decide +kernel
theorem dX4_charactersIn_25 : decode cX4_charactersIn 25 = .ok (.land, 1) := by decide +kernel
theorem dX4_charactersIn_26 : decode cX4_charactersIn 26 = .ok (.lstore 6, 2) := by decide +kernel
theorem dX4_charactersIn_28 : decode cX4_charactersIn 28 = .ok (.lload 6, 2) := by decide +kernel
theorem dX4_charactersIn_30 : decode cX4_charactersIn 30 = .ok (.ldc2_w 204, 3) := by decide +kernel
theorem dX4_charactersIn_33 : decode cX4_charactersIn 33 = .ok (.lcmp, 1) := by decide +kernel
theorem dX4_charactersIn_34 : decode cX4_charactersIn 34 = .ok (.ifCond .lt 12, 3) := by decide +kernel
theorem dX4_charactersIn_37 : decode cX4_charactersIn 37 = .ok (.lload 6, 2) := by decide +kernel
theorem dX4_charactersIn_39 : decode cX4_charactersIn 39 = .ok (.ldc2_w 206, 3) := by decide +kernel
theorem dX4_charactersIn_42 : decode cX4_charactersIn 42 = .ok (.lcmp, 1) := by decide +kernel
theorem dX4_charactersIn_43 : decode cX4_charactersIn 43 = .ok (.ifCond .le 5, 3) := by decide +kernel
theorem dX4_charactersIn_46 : decode cX4_charactersIn 46 = .ok (.iconst 0, 1) := by decide +kernel
theorem dX4_charactersIn_47 : decode cX4_charactersIn 47 = .ok (.ireturn, 1) := by decide +kernel
theorem dX4_charactersIn_48 : decode cX4_charactersIn 48 = .ok (.lload_n 2, 1) := by decide +kernel
theorem dX4_charactersIn_49 : decode cX4_charactersIn 49 = .ok (.bipush 8, 2) := by decide +kernel
theorem dX4_charactersIn_51 : decode cX4_charactersIn 51 = .ok (.lushr, 1) := by decide +kernel
theorem dX4_charactersIn_52 : decode cX4_charactersIn 52 = .ok (.lstore_n 2, 1) := by decide +kernel
theorem dX4_charactersIn_53 : decode cX4_charactersIn 53 = .ok (.iinc 4 1, 3) := by decide +kernel
theorem dX4_charactersIn_56 : decode cX4_charactersIn 56 = .ok (.iinc 5 1, 3) := by decide +kernel
theorem dX4_charactersIn_59 : decode cX4_charactersIn 59 = .ok (.goto (-51), 3) := by decide +kernel
theorem dX4_charactersIn_62 : decode cX4_charactersIn 62 = .ok (.iload 4, 2) := by decide +kernel
theorem dX4_charactersIn_64 : decode cX4_charactersIn 64 = .ok (.ireturn, 1) := by decide +kernel
theorem dX4_undo_0 : decode cX4_undo 0 = .ok (.aload_n 0, 1) := by decide +kernel
theorem dX4_undo_1 : decode cX4_undo 1 = .ok (.getfield 35, 3) := by decide +kernel
theorem dX4_undo_4 : decode cX4_undo 4 = .ok (.getfield 168, 3) := by decide +kernel
theorem dX4_undo_7 : decode cX4_undo 7 = .ok (.ifCond .ne 6, 3) := by decide +kernel
theorem dX4_undo_10 : decode cX4_undo 10 = .ok (.bipush (-5), 2) := by decide +kernel
theorem dX4_undo_12 : decode cX4_undo 12 = .ok (.ireturn, 1) := by decide +kernel
theorem dX4_undo_13 : decode cX4_undo 13 = .ok (.aload_n 0, 1) := by decide +kernel
theorem dX4_undo_14 : decode cX4_undo 14 = .ok (.getfield 35, 3) := by decide +kernel
theorem dX4_undo_17 : decode cX4_undo 17 = .ok (.aload_n 0, 1) := by decide +kernel
theorem dX4_undo_18 : decode cX4_undo 18 = .ok (.getfield 10, 3) := by decide +kernel
theorem dX4_undo_21 : decode cX4_undo 21 = .ok (.invokevirtual 208, 3) := by decide +kernel
theorem dX4_undo_24 : decode cX4_undo 24 = .ok (.aload_n 0, 1) := by decide +kernel
theorem dX4_undo_25 : decode cX4_undo 25 = .ok (.getfield 21, 3) := by decide +kernel
theorem dX4_undo_28 : decode cX4_undo 28 = .ok (.invokevirtual 58, 3) := by decide +kernel
theorem dX4_undo_31 : decode cX4_undo 31 = .ok (.aload_n 0, 1) := by decide +kernel
theorem dX4_undo_32 : decode cX4_undo 32 = .ok (.getfield 35, 3) := by decide +kernel
theorem dX4_undo_35 : decode cX4_undo 35 = .ok (.getfield 168, 3) := by decide +kernel
theorem dX4_undo_38 : decode cX4_undo 38 = .ok (.ireturn, 1) := by decide +kernel
theorem dX4_save_0 : decode cX4_save 0 = .ok (.iload_n 1, 1) := by decide +kernel
theorem dX4_save_1 : decode cX4_save 1 = .ok (.ifCond .lt 8, 3) := by decide +kernel
theorem dX4_save_4 : decode cX4_save 4 = .ok (.iload_n 1, 1) := by decide +kernel
theorem dX4_save_5 : decode cX4_save 5 = .ok (.iconst 2, 1) := by decide +kernel
theorem dX4_save_6 : decode cX4_save 6 = .ok (.if_icmp .lt 6, 3) := by decide +kernel
theorem dX4_save_9 : decode cX4_save 9 = .ok (.bipush (-2), 2) := by decide +kernel
theorem dX4_save_11 : decode cX4_save 11 = .ok (.ireturn, 1) := by decide +kernel
theorem dX4_save_12 : decode cX4_save 12 = .ok (.aload_n 0, 1) := by decide +kernel
theorem dX4_save_13 : decode cX4_save 13 = .ok (.getfield 39, 3) := by decide +kernel
theorem dX4_save_16 : decode cX4_save 16 = .ok (.iload_n 1, 1) := by decide +kernel
theorem dX4_save_17 : decode cX4_save 17 = .ok (.aaload, 1) := by decide +kernel
theorem dX4_save_18 : decode cX4_save 18 = .ok (.aload_n 0, 1) := by decide +kernel
theorem dX4_save_19 : decode cX4_save 19 = .ok (.getfield 10, 3) := by decide +kernel
theorem dX4_save_22 : decode cX4_save 22 = .ok (.invokevirtual 211, 3) := by decide +kernel
theorem dX4_save_25 : decode cX4_save 25 = .ok (.aload_n 0, 1) := by decide +kernel
theorem dX4_save_26 : decode cX4_save 26 = .ok (.getfield 43, 3) := by decide +kernel
theorem dX4_save_29 : decode cX4_save 29 = .ok (.iload_n 1, 1) := by decide +kernel
theorem dX4_save_30 : decode cX4_save 30 = .ok (.iconst 1, 1) := by decide +kernel
theorem dX4_save_31 : decode cX4_save 31 = .ok (.bastore, 1) := by decide +kernel
theorem dX4_save_32 : decode cX4_save 32 = .ok (.aload_n 0, 1) := by decide +kernel
theorem dX4_save_33 : decode cX4_save 33 = .ok (.getfield 10, 3) := by decide +kernel
theorem dX4_save_36 : decode cX4_save 36 = .ok (.getfield 64, 3) := by decide +kernel
theorem dX4_save_39 : decode cX4_save 39 = .ok (.ireturn, 1) := by decide +kernel
theorem dX4_restore_0 : decode cX4_restore 0 = .ok (.iload_n 1, 1) := by decide +kernel
theorem dX4_restore_1 : decode cX4_restore 1 = .ok (.ifCond .lt 8, 3) := by decide +kernel
theorem dX4_restore_4 : decode cX4_restore 4 = .ok (.iload_n 1, 1) := by decide +kernel
theorem dX4_restore_5 : decode cX4_restore 5 = .ok (.iconst 2, 1) := by decide +kernel
theorem dX4_restore_6 : decode cX4_restore 6 = .ok (.if_icmp .lt 6, 3) := by decide +kernel
theorem dX4_restore_9 : decode cX4_restore 9 = .ok (.bipush (-2), 2) := by decide +kernel
theorem dX4_restore_11 : decode cX4_restore 11 = .ok (.ireturn, 1) := by decide +kernel
theorem dX4_restore_12 : decode cX4_restore 12 = .ok (.aload_n 0, 1) := by decide +kernel
theorem dX4_restore_13 : decode cX4_restore 13 = .ok (.getfield 43, 3) := by decide +kernel
theorem dX4_restore_16 : decode cX4_restore 16 = .ok (.iload_n 1, 1) := by decide +kernel
theorem dX4_restore_17 : decode cX4_restore 17 = .ok (.baload, 1) := by decide +kernel
theorem dX4_restore_18 : decode cX4_restore 18 = .ok (.ifCond .ne 6, 3) := by decide +kernel
theorem dX4_restore_21 : decode cX4_restore 21 = .ok (.bipush (-5), 2) := by decide +kernel
theorem dX4_restore_23 : decode cX4_restore 23 = .ok (.ireturn, 1) := by decide +kernel
theorem dX4_restore_24 : decode cX4_restore 24 = .ok (.aload_n 0, 1) := by decide +kernel
theorem dX4_restore_25 : decode cX4_restore 25 = .ok (.getfield 35, 3) := by decide +kernel
theorem dX4_restore_28 : decode cX4_restore 28 = .ok (.aload_n 0, 1) := by decide +kernel
theorem dX4_restore_29 : decode cX4_restore 29 = .ok (.getfield 10, 3) := by decide +kernel
theorem dX4_restore_32 : decode cX4_restore 32 = .ok (.invokevirtual 55, 3) := by decide +kernel
theorem dX4_restore_35 : decode cX4_restore 35 = .ok (.aload_n 0, 1) := by decide +kernel
theorem dX4_restore_36 : decode cX4_restore 36 = .ok (.getfield 10, 3) := by decide +kernel
theorem dX4_restore_39 : decode cX4_restore 39 = .ok (.aload_n 0, 1) := by decide +kernel
theorem dX4_restore_40 : decode cX4_restore 40 = .ok (.getfield 39, 3) := by decide +kernel
theorem dX4_restore_43 : decode cX4_restore 43 = .ok (.iload_n 1, 1) := by decide +kernel
theorem dX4_restore_44 : decode cX4_restore 44 = .ok (.aaload, 1) := by decide +kernel
theorem dX4_restore_45 : decode cX4_restore 45 = .ok (.invokevirtual 211, 3) := by decide +kernel
theorem dX4_restore_48 : decode cX4_restore 48 = .ok (.aload_n 0, 1) := by decide +kernel
theorem dX4_restore_49 : decode cX4_restore 49 = .ok (.getfield 21, 3) := by decide +kernel
theorem dX4_restore_52 : decode cX4_restore 52 = .ok (.invokevirtual 58, 3) := by decide +kernel
theorem dX4_restore_55 : decode cX4_restore 55 = .ok (.aload_n 0, 1) := by decide +kernel
theorem dX4_restore_56 : decode cX4_restore 56 = .ok (.getfield 10, 3) := by decide +kernel
theorem dX4_restore_59 : decode cX4_restore 59 = .ok (.getfield 64, 3) := by decide +kernel
theorem dX4_restore_62 : decode cX4_restore 62 = .ok (.ireturn, 1) := by decide +kernel
theorem dX4_contains_0 : decode cX4_contains 0 = .ok (.iload_n 0, 1) := by decide +kernel
theorem dX4_contains_1 : decode cX4_contains 1 = .ok (.iload_n 1, 1) := by decide +kernel
theorem dX4_contains_2 : decode cX4_contains 2 = .ok (.ishr, 1) := by decide +kernel
theorem dX4_contains_3 : decode cX4_contains 3 = .ok (.iconst 1, 1) := by decide +kernel
theorem dX4_contains_4 : decode cX4_contains 4 = .ok (.iand, 1) := by decide +kernel
theorem dX4_contains_5 : decode cX4_contains 5 = .ok (.ifCond .eq 7, 3) := by decide +kernel
theorem dX4_contains_8 : decode cX4_contains 8 = .ok (.iconst 1, 1) := by decide +kernel
theorem dX4_contains_9 : decode cX4_contains 9 = .ok (.goto 4, 3) := by decide +kernel
theorem dX4_contains_12 : decode cX4_contains 12 = .ok (.iconst 0, 1) := by decide +kernel
theorem dX4_contains_13 : decode cX4_contains 13 = .ok (.ireturn, 1) := by decide +kernel
theorem dX4_setForMembers_0 : decode cX4_setForMembers 0 = .ok (.iconst 0, 1) := by decide +kernel
theorem dX4_setForMembers_1 : decode cX4_setForMembers 1 = .ok (.istore_n 3, 1) := by decide +kernel
theorem dX4_setForMembers_2 : decode cX4_setForMembers 2 = .ok (.iload_n 3, 1) := by decide +kernel
theorem dX4_setForMembers_3 : decode cX4_setForMembers 3 = .ok (.aload_n 0, 1) := by decide +kernel
theorem dX4_setForMembers_4 : decode cX4_setForMembers 4 = .ok (.arraylength, 1) := by decide +kernel
theorem dX4_setForMembers_5 : decode cX4_setForMembers 5 = .ok (.if_icmp .ge 21, 3) := by decide +kernel
theorem dX4_setForMembers_8 : decode cX4_setForMembers 8 = .ok (.iload_n 1, 1) := by decide +kernel
theorem dX4_setForMembers_9 : decode cX4_setForMembers 9 = .ok (.iload_n 3, 1) := by decide +kernel
theorem dX4_setForMembers_10 : decode cX4_setForMembers 10 = .ok (.invokestatic 117, 3) := by decide +kernel
theorem dX4_setForMembers_13 : decode cX4_setForMembers 13 = .ok (.ifCond .eq 7, 3) := by decide +kernel
theorem dX4_setForMembers_16 : decode cX4_setForMembers 16 = .ok (.aload_n 0, 1) := by decide +kernel
theorem dX4_setForMembers_17 : decode cX4_setForMembers 17 = .ok (.iload_n 3, 1) := by decide +kernel
theorem dX4_setForMembers_18 : decode cX4_setForMembers 18 = .ok (.iload_n 2, 1) := by decide +kernel
theorem dX4_setForMembers_19 : decode cX4_setForMembers 19 = .ok (.iastore, 1) := by decide +kernel
theorem dX4_setForMembers_20 : decode cX4_setForMembers 20 = .ok (.iinc 3 1, 3) := by decide +kernel
theorem dX4_setForMembers_23 : decode cX4_setForMembers 23 = .ok (.goto (-21), 3) := by decide +kernel
theorem dX4_setForMembers_26 : decode cX4_setForMembers 26 = .ok (.return_, 1) := by decide +kernel
theorem dX5_init_0 : decode cX5_init 0 = .ok (.aload_n 0, 1) := by decide +kernel
theorem dX5_init_1 : decode cX5_init 1 = .ok (.invokespecial 1, 3) := by decide +kernel
theorem dX5_init_4 : decode cX5_init 4 = .ok (.aload_n 0, 1) := by decide +kernel
theorem dX5_init_5 : decode cX5_init 5 = .ok (.bipush 92, 2) := by decide +kernel
theorem dX5_init_7 : decode cX5_init 7 = .ok (.newarray .int, 2) := by decide +kernel
theorem dX5_init_9 : decode cX5_init 9 = .ok (.putfield 7, 3) := by decide +kernel
theorem dX5_init_12 : decode cX5_init 12 = .ok (.aload_n 0, 1) := by decide +kernel
theorem dX5_init_13 : decode cX5_init 13 = .ok (.bipush 92, 2) := by decide +kernel
theorem dX5_init_15 : decode cX5_init 15 = .ok (.newarray .int, 2) := by decide +kernel
theorem dX5_init_17 : decode cX5_init 17 = .ok (.putfield 13, 3) := by decide +kernel
theorem dX5_init_20 : decode cX5_init 20 = .ok (.aload_n 0, 1) := by decide +kernel
theorem dX5_init_21 : decode cX5_init 21 = .ok (.sipush 552, 3) := by decide +kernel
theorem dX5_init_24 : decode cX5_init 24 = .ok (.newarray .int, 2) := by decide +kernel
theorem dX5_init_26 : decode cX5_init 26 = .ok (.putfield 16, 3) := by decide +kernel
theorem dX5_init_29 : decode cX5_init 29 = .ok (.aload_n 0, 1) := by decide +kernel
theorem dX5_init_30 : decode cX5_init 30 = .ok (.sipush 184, 3) := by decide +kernel
theorem dX5_init_33 : decode cX5_init 33 = .ok (.newarray .int, 2) := by decide +kernel
theorem dX5_init_35 : decode cX5_init 35 = .ok (.putfield 19, 3) := by decide +kernel
theorem dX5_init_38 : decode cX5_init 38 = .ok (.aload_n 0, 1) := by decide +kernel
theorem dX5_init_39 : decode cX5_init 39 = .ok (.iconst 2, 1) := by decide +kernel
theorem dX5_init_40 : decode cX5_init 40 = .ok (.newarray .int, 2) := by decide +kernel
theorem dX5_init_42 : decode cX5_init 42 = .ok (.putfield 22, 3) := by decide +kernel
theorem dX5_init_45 : decode cX5_init 45 = .ok (.aload_n 0, 1) := by decide +kernel
theorem dX5_init_46 : decode cX5_init 46 = .ok (.bipush 16, 2) := by decide +kernel
theorem dX5_init_48 : decode cX5_init 48 = .ok (.newarray .int, 2) := by decide +kernel
theorem dX5_init_50 : decode cX5_init 50 = .ok (.putfield 25, 3) := by decide +kernel
theorem dX5_init_53 : decode cX5_init 53 = .ok (.aload_n 0, 1) := by decide +kernel
theorem dX5_init_54 : decode cX5_init 54 = .ok (.bipush 80, 2) := by decide +kernel
theorem dX5_init_56 : decode cX5_init 56 = .ok (.newarray .int, 2) := by decide +kernel
theorem dX5_init_58 : decode cX5_init 58 = .ok (.putfield 28, 3) := by decide +kernel
theorem dX5_init_61 : decode cX5_init 61 = .ok (.aload_n 0, 1) := by decide +kernel
theorem dX5_init_62 : decode cX5_init 62 = .ok (.bipush 60, 2) := by decide +kernel
theorem dX5_init_64 : decode cX5_init 64 = .ok (.newarray .int, 2) := by decide +kernel
theorem dX5_init_66 : decode cX5_init 66 = .ok (.putfield 31, 3) := by decide +kernel
theorem dX5_init_69 : decode cX5_init 69 = .ok (.aload_n 0, 1) := by decide +kernel
theorem dX5_init_70 : decode cX5_init 70 = .ok (.getfield 7, 3) := by decide +kernel
theorem dX5_init_73 : decode cX5_init 73 = .ok (.iconst 0, 1) := by decide +kernel
theorem dX5_init_74 : decode cX5_init 74 = .ok (.bipush 8, 2) := by decide +kernel
theorem dX5_init_76 : decode cX5_init 76 = .ok (.iastore, 1) := by decide +kernel
theorem dX5_init_77 : decode cX5_init 77 = .ok (.return_, 1) := by decide +kernel
theorem dX5_in_0 : decode cX5_in 0 = .ok (.lload_n 0, 1) := by decide +kernel
theorem dX5_in_1 : decode cX5_in 1 = .ok (.lload_n 2, 1) := by decide +kernel
theorem dX5_in_2 : decode cX5_in 2 = .ok (.lcmp, 1) := by decide +kernel
theorem dX5_in_3 : decode cX5_in 3 = .ok (.ifCond .lt 14, 3) := by decide +kernel
theorem dX5_in_6 : decode cX5_in 6 = .ok (.lload_n 0, 1) := by decide +kernel
theorem dX5_in_7 : decode cX5_in 7 = .ok (.lload 4, 2) := by decide +kernel
theorem dX5_in_9 : decode cX5_in 9 = .ok (.lcmp, 1) := by decide +kernel
theorem dX5_in_10 : decode cX5_in 10 = .ok (.ifCond .gt 7, 3) := by decide +kernel
theorem dX5_in_13 : decode cX5_in 13 = .ok (.iconst 1, 1) := by decide +kernel
theorem dX5_in_14 : decode cX5_in 14 = .ok (.goto 4, 3) := by decide +kernel
theorem dX5_in_17 : decode cX5_in 17 = .ok (.iconst 0, 1) := by decide +kernel
theorem dX5_in_18 : decode cX5_in 18 = .ok (.ireturn, 1) := by decide +kernel
theorem dX5_keep_0 : decode cX5_keep 0 = .ok (.iconst 0, 1) := by decide +kernel
theorem dX5_keep_1 : decode cX5_keep 1 = .ok (.istore_n 1, 1) := by decide +kernel
theorem dX5_keep_2 : decode cX5_keep 2 = .ok (.iload_n 1, 1) := by decide +kernel
theorem dX5_keep_3 : decode cX5_keep 3 = .ok (.bipush 92, 2) := by decide +kernel
theorem dX5_keep_5 : decode cX5_keep 5 = .ok (.if_icmp .ge 21, 3) := by decide +kernel
theorem dX5_keep_8 : decode cX5_keep 8 = .ok (.aload_n 0, 1) := by decide +kernel
theorem dX5_keep_9 : decode cX5_keep 9 = .ok (.getfield 13, 3) := by decide +kernel
theorem dX5_keep_12 : decode cX5_keep 12 = .ok (.iload_n 1, 1) := by decide +kernel
theorem dX5_keep_13 : decode cX5_keep 13 = .ok (.aload_n 0, 1) := by decide +kernel
theorem dX5_keep_14 : decode cX5_keep 14 = .ok (.getfield 7, 3) := by decide +kernel
theorem dX5_keep_17 : decode cX5_keep 17 = .ok (.iload_n 1, 1) := by decide +kernel
theorem dX5_keep_18 : decode cX5_keep 18 = .ok (.iaload, 1) := by decide +kernel
theorem dX5_keep_19 : decode cX5_keep 19 = .ok (.iastore, 1) := by decide +kernel
theorem dX5_keep_20 : decode cX5_keep 20 = .ok (.iinc 1 1, 3) := by decide +kernel
theorem dX5_keep_23 : decode cX5_keep 23 = .ok (.goto (-21), 3) := by decide +kernel
theorem dX5_keep_26 : decode cX5_keep 26 = .ok (.return_, 1) := by decide +kernel
theorem dX5_changed_0 : decode cX5_changed 0 = .ok (.aload_n 0, 1) := by decide +kernel
theorem dX5_changed_1 : decode cX5_changed 1 = .ok (.getfield 34, 3) := by decide +kernel
theorem dX5_changed_4 : decode cX5_changed 4 = .ok (.bipush 6, 2) := by decide +kernel
theorem dX5_changed_6 : decode cX5_changed 6 = .ok (.if_icmp .ne 43, 3) := by decide +kernel
theorem dX5_changed_9 : decode cX5_changed 9 = .ok (.iconst 0, 1) := by decide +kernel
theorem dX5_changed_10 : decode cX5_changed 10 = .ok (.istore_n 2, 1) := by decide +kernel
theorem dX5_changed_11 : decode cX5_changed 11 = .ok (.iload_n 2, 1) := by decide +kernel
theorem dX5_changed_12 : decode cX5_changed 12 = .ok (.sipush 460, 3) := by decide +kernel
theorem dX5_changed_15 : decode cX5_changed 15 = .ok (.if_icmp .ge 24, 3) := by decide +kernel
theorem dX5_changed_18 : decode cX5_changed 18 = .ok (.aload_n 0, 1) := by decide +kernel
theorem dX5_changed_19 : decode cX5_changed 19 = .ok (.getfield 16, 3) := by decide +kernel
theorem dX5_changed_22 : decode cX5_changed 22 = .ok (.iload_n 2, 1) := by decide +kernel
theorem dX5_changed_23 : decode cX5_changed 23 = .ok (.aload_n 0, 1) := by decide +kernel
theorem dX5_changed_24 : decode cX5_changed 24 = .ok (.getfield 16, 3) := by decide +kernel
theorem dX5_changed_27 : decode cX5_changed 27 = .ok (.iload_n 2, 1) := by decide +kernel
theorem dX5_changed_28 : decode cX5_changed 28 = .ok (.bipush 92, 2) := by decide +kernel
theorem dX5_changed_30 : decode cX5_changed 30 = .ok (.iadd, 1) := by decide +kernel
theorem dX5_changed_31 : decode cX5_changed 31 = .ok (.iaload, 1) := by decide +kernel
theorem dX5_changed_32 : decode cX5_changed 32 = .ok (.iastore, 1) := by decide +kernel
theorem dX5_changed_33 : decode cX5_changed 33 = .ok (.iinc 2 1, 3) := by decide +kernel
theorem dX5_changed_36 : decode cX5_changed 36 = .ok (.goto (-25), 3) := by decide +kernel
theorem dX5_changed_39 : decode cX5_changed 39 = .ok (.aload_n 0, 1) := by decide +kernel
theorem dX5_changed_40 : decode cX5_changed 40 = .ok (.dup, 1) := by decide +kernel
theorem dX5_changed_41 : decode cX5_changed 41 = .ok (.getfield 34, 3) := by decide +kernel
theorem dX5_changed_44 : decode cX5_changed 44 = .ok (.iconst 1, 1) := by decide +kernel
theorem dX5_changed_45 : decode cX5_changed 45 = .ok (.isub, 1) := by decide +kernel
theorem dX5_changed_46 : decode cX5_changed 46 = .ok (.putfield 34, 3) := by decide +kernel
theorem dX5_changed_49 : decode cX5_changed 49 = .ok (.iconst 0, 1) := by decide +kernel
theorem dX5_changed_50 : decode cX5_changed 50 = .ok (.istore_n 2, 1) := by decide +kernel
theorem dX5_changed_51 : decode cX5_changed 51 = .ok (.iload_n 2, 1) := by decide +kernel
theorem dX5_changed_52 : decode cX5_changed 52 = .ok (.bipush 92, 2) := by decide +kernel
theorem dX5_changed_54 : decode cX5_changed 54 = .ok (.if_icmp .ge 29, 3) := by decide +kernel
theorem dX5_changed_57 : decode cX5_changed 57 = .ok (.aload_n 0, 1) := by decide +kernel
theorem dX5_changed_58 : decode cX5_changed 58 = .ok (.getfield 16, 3) := by decide +kernel
theorem dX5_changed_61 : decode cX5_changed 61 = .ok (.bipush 92, 2) := by decide +kernel
theorem dX5_changed_63 : decode cX5_changed 63 = .ok (.aload_n 0, 1) := by decide +kernel
theorem dX5_changed_64 : decode cX5_changed 64 = .ok (.getfield 34, 3) := by decide +kernel
theorem dX5_changed_67 : decode cX5_changed 67 = .ok (.imul, 1) := by decide +kernel
theorem dX5_changed_68 : decode cX5_changed 68 = .ok (.iload_n 2, 1) := by decide +kernel
theorem dX5_changed_69 : decode cX5_changed 69 = .ok (.iadd, 1) := by decide +kernel
theorem dX5_changed_70 : decode cX5_changed 70 = .ok (.aload_n 0, 1) := by decide +kernel
theorem dX5_changed_71 : decode cX5_changed 71 = .ok (.getfield 13, 3) := by decide +kernel
theorem dX5_changed_74 : decode cX5_changed 74 = .ok (.iload_n 2, 1) := by decide +kernel
theorem dX5_changed_75 : decode cX5_changed 75 = .ok (.iaload, 1) := by decide +kernel
theorem dX5_changed_76 : decode cX5_changed 76 = .ok (.iastore, 1) := by decide +kernel
theorem dX5_changed_77 : decode cX5_changed 77 = .ok (.iinc 2 1, 3) := by decide +kernel
theorem dX5_changed_80 : decode cX5_changed 80 = .ok (.goto (-29), 3) := by decide +kernel
theorem dX5_changed_83 : decode cX5_changed 83 = .ok (.aload_n 0, 1) := by decide +kernel
theorem dX5_changed_84 : decode cX5_changed 84 = .ok (.dup, 1) := by decide +kernel
theorem dX5_changed_85 : decode cX5_changed 85 = .ok (.getfield 34, 3) := by decide +kernel
theorem dX5_changed_88 : decode cX5_changed 88 = .ok (.iconst 1, 1) := by decide +kernel
theorem dX5_changed_89 : decode cX5_changed 89 = .ok (.iadd, 1) := by decide +kernel
theorem dX5_changed_90 : decode cX5_changed 90 = .ok (.putfield 34, 3) := by decide +kernel
theorem dX5_changed_93 : decode cX5_changed 93 = .ok (.iload_n 1, 1) := by decide +kernel
theorem dX5_changed_94 : decode cX5_changed 94 = .ok (.ireturn, 1) := by decide +kernel
theorem dX5_bits_0 : decode cX5_bits 0 = .ok (.iconst 0, 1) := by decide +kernel
theorem dX5_bits_1 : decode cX5_bits 1 = .ok (.istore_n 1, 1) := by decide +kernel
theorem dX5_bits_2 : decode cX5_bits 2 = .ok (.iload_n 0, 1) := by decide +kernel
theorem dX5_bits_3 : decode cX5_bits 3 = .ok (.istore_n 2, 1) := by decide +kernel
theorem dX5_bits_4 : decode cX5_bits 4 = .ok (.iload_n 2, 1) := by decide +kernel
theorem dX5_bits_5 : decode cX5_bits 5 = .ok (.ifCond .eq 15, 3) := by decide +kernel
theorem dX5_bits_8 : decode cX5_bits 8 = .ok (.iinc 1 1, 3) := by decide +kernel
theorem dX5_bits_11 : decode cX5_bits 11 = .ok (.iload_n 2, 1) := by decide +kernel
theorem dX5_bits_12 : decode cX5_bits 12 = .ok (.iload_n 2, 1) := by decide +kernel
theorem dX5_bits_13 : decode cX5_bits 13 = .ok (.iconst 1, 1) := by decide +kernel
theorem dX5_bits_14 : decode cX5_bits 14 = .ok (.isub, 1) := by decide +kernel
theorem dX5_bits_15 : decode cX5_bits 15 = .ok (.iand, 1) := by decide +kernel
theorem dX5_bits_16 : decode cX5_bits 16 = .ok (.istore_n 2, 1) := by decide +kernel
theorem dX5_bits_17 : decode cX5_bits 17 = .ok (.goto (-13), 3) := by decide +kernel
theorem dX5_bits_20 : decode cX5_bits 20 = .ok (.iload_n 1, 1) := by decide +kernel
theorem dX5_bits_21 : decode cX5_bits 21 = .ok (.ireturn, 1) := by decide +kernel
theorem dX5_isSquare_0 : decode cX5_isSquare 0 = .ok (.iload_n 1, 1) := by decide +kernel
theorem dX5_isSquare_1 : decode cX5_isSquare 1 = .ok (.i2l, 1) := by decide +kernel
theorem dX5_isSquare_2 : decode cX5_isSquare 2 = .ok (.lconst 0, 1) := by decide +kernel
theorem dX5_isSquare_3 : decode cX5_isSquare 3 = .ok (.aload_n 0, 1) := by decide +kernel
theorem dX5_isSquare_4 : decode cX5_isSquare 4 = .ok (.getfield 7, 3) := by decide +kernel
theorem dX5_isSquare_7 : decode cX5_isSquare 7 = .ok (.iconst 0, 1) := by decide +kernel
theorem dX5_isSquare_8 : decode cX5_isSquare 8 = .ok (.iaload, 1) := by decide +kernel
theorem dX5_isSquare_9 : decode cX5_isSquare 9 = .ok (.i2l, 1) := by decide +kernel
theorem dX5_isSquare_10 : decode cX5_isSquare 10 = .ok (.lconst 1, 1) := by decide +kernel
theorem dX5_isSquare_11 : decode cX5_isSquare 11 = .ok (.lsub, 1) := by decide +kernel
theorem dX5_isSquare_12 : decode cX5_isSquare 12 = .ok (.invokestatic 38, 3) := by decide +kernel
theorem dX5_isSquare_15 : decode cX5_isSquare 15 = .ok (.ireturn, 1) := by decide +kernel
theorem dX5_isRoad_0 : decode cX5_isRoad 0 = .ok (.iload_n 1, 1) := by decide +kernel
theorem dX5_isRoad_1 : decode cX5_isRoad 1 = .ok (.i2l, 1) := by decide +kernel
theorem dX5_isRoad_2 : decode cX5_isRoad 2 = .ok (.lconst 0, 1) := by decide +kernel
theorem dX5_isRoad_3 : decode cX5_isRoad 3 = .ok (.aload_n 0, 1) := by decide +kernel
theorem dX5_isRoad_4 : decode cX5_isRoad 4 = .ok (.getfield 7, 3) := by decide +kernel
theorem dX5_isRoad_7 : decode cX5_isRoad 7 = .ok (.iconst 1, 1) := by decide +kernel
theorem dX5_isRoad_8 : decode cX5_isRoad 8 = .ok (.iaload, 1) := by decide +kernel
theorem dX5_isRoad_9 : decode cX5_isRoad 9 = .ok (.i2l, 1) := by decide +kernel
theorem dX5_isRoad_10 : decode cX5_isRoad 10 = .ok (.lconst 1, 1) := by decide +kernel
theorem dX5_isRoad_11 : decode cX5_isRoad 11 = .ok (.lsub, 1) := by decide +kernel
theorem dX5_isRoad_12 : decode cX5_isRoad 12 = .ok (.invokestatic 38, 3) := by decide +kernel
theorem dX5_isRoad_15 : decode cX5_isRoad 15 = .ok (.ireturn, 1) := by decide +kernel
theorem dX5_ends_0 : decode cX5_ends 0 = .ok (.iconst 1, 1) := by decide +kernel
theorem dX5_ends_1 : decode cX5_ends 1 = .ok (.aload_n 0, 1) := by decide +kernel
theorem dX5_ends_2 : decode cX5_ends 2 = .ok (.getfield 7, 3) := by decide +kernel
theorem dX5_ends_5 : decode cX5_ends 5 = .ok (.iconst 2, 1) := by decide +kernel
theorem dX5_ends_6 : decode cX5_ends 6 = .ok (.iload_n 1, 1) := by decide +kernel
theorem dX5_ends_7 : decode cX5_ends 7 = .ok (.iadd, 1) := by decide +kernel
theorem dX5_ends_8 : decode cX5_ends 8 = .ok (.iaload, 1) := by decide +kernel
theorem dX5_ends_9 : decode cX5_ends 9 = .ok (.ishl, 1) := by decide +kernel
theorem dX5_ends_10 : decode cX5_ends 10 = .ok (.iconst 1, 1) := by decide +kernel
theorem dX5_ends_11 : decode cX5_ends 11 = .ok (.aload_n 0, 1) := by decide +kernel
theorem dX5_ends_12 : decode cX5_ends 12 = .ok (.getfield 7, 3) := by decide +kernel
theorem dX5_ends_15 : decode cX5_ends 15 = .ok (.bipush 32, 2) := by decide +kernel
theorem dX5_ends_17 : decode cX5_ends 17 = .ok (.iload_n 1, 1) := by decide +kernel
theorem dX5_ends_18 : decode cX5_ends 18 = .ok (.iadd, 1) := by decide +kernel
theorem dX5_ends_19 : decode cX5_ends 19 = .ok (.iaload, 1) := by decide +kernel
theorem dX5_ends_20 : decode cX5_ends 20 = .ok (.ishl, 1) := by decide +kernel
theorem dX5_ends_21 : decode cX5_ends 21 = .ok (.ior, 1) := by decide +kernel
theorem dX5_ends_22 : decode cX5_ends 22 = .ok (.ireturn, 1) := by decide +kernel
theorem dX5_reach_0 : decode cX5_reach 0 = .ok (.iconst 1, 1) := by decide +kernel
theorem dX5_reach_1 : decode cX5_reach 1 = .ok (.iload_n 1, 1) := by decide +kernel
theorem dX5_reach_2 : decode cX5_reach 2 = .ok (.ishl, 1) := by decide +kernel
theorem dX5_reach_3 : decode cX5_reach 3 = .ok (.istore 4, 2) := by decide +kernel
theorem dX5_reach_5 : decode cX5_reach 5 = .ok (.iconst 1, 1) := by decide +kernel
theorem dX5_reach_6 : decode cX5_reach 6 = .ok (.istore 5, 2) := by decide +kernel
theorem dX5_reach_8 : decode cX5_reach 8 = .ok (.iload 5, 2) := by decide +kernel
theorem dX5_reach_10 : decode cX5_reach 10 = .ok (.ifCond .eq 119, 3) := by decide +kernel
theorem dX5_reach_13 : decode cX5_reach 13 = .ok (.iload 4, 2) := by decide +kernel
theorem dX5_reach_15 : decode cX5_reach 15 = .ok (.istore 6, 2) := by decide +kernel
theorem dX5_reach_17 : decode cX5_reach 17 = .ok (.iconst 0, 1) := by decide +kernel
theorem dX5_reach_18 : decode cX5_reach 18 = .ok (.istore 7, 2) := by decide +kernel
theorem dX5_reach_20 : decode cX5_reach 20 = .ok (.iload 7, 2) := by decide +kernel
theorem dX5_reach_22 : decode cX5_reach 22 = .ok (.aload_n 0, 1) := by decide +kernel
theorem dX5_reach_23 : decode cX5_reach 23 = .ok (.getfield 7, 3) := by decide +kernel
theorem dX5_reach_26 : decode cX5_reach 26 = .ok (.iconst 1, 1) := by decide +kernel
theorem dX5_reach_27 : decode cX5_reach 27 = .ok (.iaload, 1) := by decide +kernel
theorem dX5_reach_28 : decode cX5_reach 28 = .ok (.if_icmp .ge 84, 3) := by decide +kernel
theorem dX5_reach_31 : decode cX5_reach 31 = .ok (.iload_n 2, 1) := by decide +kernel
theorem dX5_reach_32 : decode cX5_reach 32 = .ok (.iload 7, 2) := by decide +kernel
theorem dX5_reach_34 : decode cX5_reach 34 = .ok (.ishr, 1) := by decide +kernel
theorem dX5_reach_35 : decode cX5_reach 35 = .ok (.iconst 1, 1) := by decide +kernel
theorem dX5_reach_36 : decode cX5_reach 36 = .ok (.iand, 1) := by decide +kernel
theorem dX5_reach_37 : decode cX5_reach 37 = .ok (.ifCond .ne 34, 3) := by decide +kernel
theorem dX5_reach_40 : decode cX5_reach 40 = .ok (.aload_n 0, 1) := by decide +kernel
theorem dX5_reach_41 : decode cX5_reach 41 = .ok (.getfield 7, 3) := by decide +kernel
theorem dX5_reach_44 : decode cX5_reach 44 = .ok (.iconst 2, 1) := by decide +kernel
theorem dX5_reach_45 : decode cX5_reach 45 = .ok (.iload 7, 2) := by decide +kernel
theorem dX5_reach_47 : decode cX5_reach 47 = .ok (.iadd, 1) := by decide +kernel
theorem dX5_reach_48 : decode cX5_reach 48 = .ok (.iaload, 1) := by decide +kernel
theorem dX5_reach_49 : decode cX5_reach 49 = .ok (.iload_n 3, 1) := by decide +kernel
theorem dX5_reach_50 : decode cX5_reach 50 = .ok (.if_icmp .eq 21, 3) := by decide +kernel
theorem dX5_reach_53 : decode cX5_reach 53 = .ok (.aload_n 0, 1) := by decide +kernel
theorem dX5_reach_54 : decode cX5_reach 54 = .ok (.getfield 7, 3) := by decide +kernel
theorem dX5_reach_57 : decode cX5_reach 57 = .ok (.bipush 32, 2) := by decide +kernel
theorem dX5_reach_59 : decode cX5_reach 59 = .ok (.iload 7, 2) := by decide +kernel
theorem dX5_reach_61 : decode cX5_reach 61 = .ok (.iadd, 1) := by decide +kernel
theorem dX5_reach_62 : decode cX5_reach 62 = .ok (.iaload, 1) := by decide +kernel
theorem dX5_reach_63 : decode cX5_reach 63 = .ok (.iload_n 3, 1) := by decide +kernel
theorem dX5_reach_64 : decode cX5_reach 64 = .ok (.if_icmp .eq 7, 3) := by decide +kernel
theorem dX5_reach_67 : decode cX5_reach 67 = .ok (.iconst 1, 1) := by decide +kernel
theorem dX5_reach_68 : decode cX5_reach 68 = .ok (.goto 4, 3) := by decide +kernel
theorem dX5_reach_71 : decode cX5_reach 71 = .ok (.iconst 0, 1) := by decide +kernel
theorem dX5_reach_72 : decode cX5_reach 72 = .ok (.istore 8, 2) := by decide +kernel
theorem dX5_reach_74 : decode cX5_reach 74 = .ok (.iload 4, 2) := by decide +kernel
theorem dX5_reach_76 : decode cX5_reach 76 = .ok (.iload 8, 2) := by decide +kernel
theorem dX5_reach_78 : decode cX5_reach 78 = .ok (.ifCond .eq 24, 3) := by decide +kernel
theorem dX5_reach_81 : decode cX5_reach 81 = .ok (.iload 4, 2) := by decide +kernel
theorem dX5_reach_83 : decode cX5_reach 83 = .ok (.aload_n 0, 1) := by decide +kernel
theorem dX5_reach_84 : decode cX5_reach 84 = .ok (.iload 7, 2) := by decide +kernel
theorem dX5_reach_86 : decode cX5_reach 86 = .ok (.invokevirtual 42, 3) := by decide +kernel
theorem dX5_reach_89 : decode cX5_reach 89 = .ok (.iand, 1) := by decide +kernel
theorem dX5_reach_90 : decode cX5_reach 90 = .ok (.ifCond .eq 12, 3) := by decide +kernel
theorem dX5_reach_93 : decode cX5_reach 93 = .ok (.aload_n 0, 1) := by decide +kernel
theorem dX5_reach_94 : decode cX5_reach 94 = .ok (.iload 7, 2) := by decide +kernel
theorem dX5_reach_96 : decode cX5_reach 96 = .ok (.invokevirtual 42, 3) := by decide +kernel
theorem dX5_reach_99 : decode cX5_reach 99 = .ok (.goto 4, 3) := by decide +kernel
theorem dX5_reach_102 : decode cX5_reach 102 = .ok (.iconst 0, 1) := by decide +kernel
theorem dX5_reach_103 : decode cX5_reach 103 = .ok (.ior, 1) := by decide +kernel
theorem dX5_reach_104 : decode cX5_reach 104 = .ok (.istore 4, 2) := by decide +kernel
theorem dX5_reach_106 : decode cX5_reach 106 = .ok (.iinc 7 1, 3) := by decide +kernel
theorem dX5_reach_109 : decode cX5_reach 109 = .ok (.goto (-89), 3) := by decide +kernel
theorem dX5_reach_112 : decode cX5_reach 112 = .ok (.iload 4, 2) := by decide +kernel
theorem dX5_reach_114 : decode cX5_reach 114 = .ok (.iload 6, 2) := by decide +kernel
theorem dX5_reach_116 : decode cX5_reach 116 = .ok (.if_icmp .eq 7, 3) := by decide +kernel
theorem dX5_reach_119 : decode cX5_reach 119 = .ok (.iconst 1, 1) := by decide +kernel
theorem dX5_reach_120 : decode cX5_reach 120 = .ok (.goto 4, 3) := by decide +kernel
theorem dX5_reach_123 : decode cX5_reach 123 = .ok (.iconst 0, 1) := by decide +kernel
theorem dX5_reach_124 : decode cX5_reach 124 = .ok (.istore 5, 2) := by decide +kernel
theorem dX5_reach_126 : decode cX5_reach 126 = .ok (.goto (-118), 3) := by decide +kernel
theorem dX5_reach_129 : decode cX5_reach 129 = .ok (.iload 4, 2) := by decide +kernel
theorem dX5_reach_131 : decode cX5_reach 131 = .ok (.ireturn, 1) := by decide +kernel
theorem dX5_pieceOf_0 : decode cX5_pieceOf 0 = .ok (.aload_n 0, 1) := by decide +kernel
theorem dX5_pieceOf_1 : decode cX5_pieceOf 1 = .ok (.iload_n 1, 1) := by decide +kernel
theorem dX5_pieceOf_2 : decode cX5_pieceOf 2 = .ok (.iconst 0, 1) := by decide +kernel
theorem dX5_pieceOf_3 : decode cX5_pieceOf 3 = .ok (.bipush (-6), 2) := by decide +kernel
theorem dX5_pieceOf_5 : decode cX5_pieceOf 5 = .ok (.invokevirtual 46, 3) := by decide +kernel
theorem dX5_pieceOf_8 : decode cX5_pieceOf 8 = .ok (.ireturn, 1) := by decide +kernel
theorem dX5_piecesWithout_0 : decode cX5_piecesWithout 0 = .ok (.iconst 0, 1) := by decide +kernel
theorem dX5_piecesWithout_1 : decode cX5_piecesWithout 1 = .ok (.istore_n 3, 1) := by decide +kernel
theorem dX5_piecesWithout_2 : decode cX5_piecesWithout 2 = .ok (.iconst 0, 1) := by decide +kernel
theorem dX5_piecesWithout_3 : decode cX5_piecesWithout 3 = .ok (.istore 4, 2) := by decide +kernel
theorem dX5_piecesWithout_5 : decode cX5_piecesWithout 5 = .ok (.iload 4, 2) := by decide +kernel
theorem dX5_piecesWithout_7 : decode cX5_piecesWithout 7 = .ok (.aload_n 0, 1) := by decide +kernel
theorem dX5_piecesWithout_8 : decode cX5_piecesWithout 8 = .ok (.getfield 7, 3) := by decide +kernel
theorem dX5_piecesWithout_11 : decode cX5_piecesWithout 11 = .ok (.iconst 0, 1) := by decide +kernel
theorem dX5_piecesWithout_12 : decode cX5_piecesWithout 12 = .ok (.iaload, 1) := by decide +kernel
theorem dX5_piecesWithout_13 : decode cX5_piecesWithout 13 = .ok (.if_icmp .ge 41, 3) := by decide +kernel
theorem dX5_piecesWithout_16 : decode cX5_piecesWithout 16 = .ok (.iload_n 3, 1) := by decide +kernel
theorem dX5_piecesWithout_17 : decode cX5_piecesWithout 17 = .ok (.iload 4, 2) := by decide +kernel
theorem dX5_piecesWithout_19 : decode cX5_piecesWithout 19 = .ok (.iload_n 2, 1) := by decide +kernel
theorem dX5_piecesWithout_20 : decode cX5_piecesWithout 20 = .ok (.if_icmp .eq 25, 3) := by decide +kernel
theorem dX5_piecesWithout_23 : decode cX5_piecesWithout 23 = .ok (.aload_n 0, 1) := by decide +kernel
theorem dX5_piecesWithout_24 : decode cX5_piecesWithout 24 = .ok (.iload 4, 2) := by decide +kernel
theorem dX5_piecesWithout_26 : decode cX5_piecesWithout 26 = .ok (.iload_n 1, 1) := by decide +kernel
theorem dX5_piecesWithout_27 : decode cX5_piecesWithout 27 = .ok (.iload_n 2, 1) := by decide +kernel
theorem dX5_piecesWithout_28 : decode cX5_piecesWithout 28 = .ok (.invokevirtual 46, 3) := by decide +kernel
theorem dX5_piecesWithout_31 : decode cX5_piecesWithout 31 = .ok (.iconst 1, 1) := by decide +kernel
theorem dX5_piecesWithout_32 : decode cX5_piecesWithout 32 = .ok (.iload 4, 2) := by decide +kernel
theorem dX5_piecesWithout_34 : decode cX5_piecesWithout 34 = .ok (.ishl, 1) := by decide +kernel
theorem dX5_piecesWithout_35 : decode cX5_piecesWithout 35 = .ok (.iconst 1, 1) := by decide +kernel
theorem dX5_piecesWithout_36 : decode cX5_piecesWithout 36 = .ok (.isub, 1) := by decide +kernel
theorem dX5_piecesWithout_37 : decode cX5_piecesWithout 37 = .ok (.iand, 1) := by decide +kernel
theorem dX5_piecesWithout_38 : decode cX5_piecesWithout 38 = .ok (.ifCond .ne 7, 3) := by decide +kernel
theorem dX5_piecesWithout_41 : decode cX5_piecesWithout 41 = .ok (.iconst 1, 1) := by decide +kernel
theorem dX5_piecesWithout_42 : decode cX5_piecesWithout 42 = .ok (.goto 4, 3) := by decide +kernel
theorem dX5_piecesWithout_45 : decode cX5_piecesWithout 45 = .ok (.iconst 0, 1) := by decide +kernel
theorem dX5_piecesWithout_46 : decode cX5_piecesWithout 46 = .ok (.iadd, 1) := by decide +kernel
theorem dX5_piecesWithout_47 : decode cX5_piecesWithout 47 = .ok (.istore_n 3, 1) := by decide +kernel
theorem dX5_piecesWithout_48 : decode cX5_piecesWithout 48 = .ok (.iinc 4 1, 3) := by decide +kernel
theorem dX5_piecesWithout_51 : decode cX5_piecesWithout 51 = .ok (.goto (-46), 3) := by decide +kernel
theorem dX5_piecesWithout_54 : decode cX5_piecesWithout 54 = .ok (.iload_n 3, 1) := by decide +kernel
theorem dX5_piecesWithout_55 : decode cX5_piecesWithout 55 = .ok (.ireturn, 1) := by decide +kernel
theorem dX5_pieces_0 : decode cX5_pieces 0 = .ok (.aload_n 0, 1) := by decide +kernel
theorem dX5_pieces_1 : decode cX5_pieces 1 = .ok (.iconst 0, 1) := by decide +kernel
theorem dX5_pieces_2 : decode cX5_pieces 2 = .ok (.bipush (-6), 2) := by decide +kernel
theorem dX5_pieces_4 : decode cX5_pieces 4 = .ok (.invokevirtual 50, 3) := by decide +kernel
theorem dX5_pieces_7 : decode cX5_pieces 7 = .ok (.ireturn, 1) := by decide +kernel
theorem dX5_parts_0 : decode cX5_parts 0 = .ok (.aload_n 0, 1) := by decide +kernel
theorem dX5_parts_1 : decode cX5_parts 1 = .ok (.aload_n 0, 1) := by decide +kernel
theorem dX5_parts_2 : decode cX5_parts 2 = .ok (.getfield 7, 3) := by decide +kernel
theorem dX5_parts_5 : decode cX5_parts 5 = .ok (.iconst 2, 1) := by decide +kernel
theorem dX5_parts_6 : decode cX5_parts 6 = .ok (.iload_n 1, 1) := by decide +kernel
theorem dX5_parts_7 : decode cX5_parts 7 = .ok (.iadd, 1) := by decide +kernel
theorem dX5_parts_8 : decode cX5_parts 8 = .ok (.iaload, 1) := by decide +kernel
theorem dX5_parts_9 : decode cX5_parts 9 = .ok (.iconst 1, 1) := by decide +kernel
theorem dX5_parts_10 : decode cX5_parts 10 = .ok (.iload_n 1, 1) := by decide +kernel
theorem dX5_parts_11 : decode cX5_parts 11 = .ok (.ishl, 1) := by decide +kernel
theorem dX5_parts_12 : decode cX5_parts 12 = .ok (.bipush (-6), 2) := by decide +kernel
theorem dX5_parts_14 : decode cX5_parts 14 = .ok (.invokevirtual 46, 3) := by decide +kernel
theorem dX5_parts_17 : decode cX5_parts 17 = .ok (.aload_n 0, 1) := by decide +kernel
theorem dX5_parts_18 : decode cX5_parts 18 = .ok (.getfield 7, 3) := by decide +kernel
theorem dX5_parts_21 : decode cX5_parts 21 = .ok (.bipush 32, 2) := by decide +kernel
theorem dX5_parts_23 : decode cX5_parts 23 = .ok (.iload_n 1, 1) := by decide +kernel
theorem dX5_parts_24 : decode cX5_parts 24 = .ok (.iadd, 1) := by decide +kernel
theorem dX5_parts_25 : decode cX5_parts 25 = .ok (.iaload, 1) := by decide +kernel
theorem dX5_parts_26 : decode cX5_parts 26 = .ok (.ishr, 1) := by decide +kernel
theorem dX5_parts_27 : decode cX5_parts 27 = .ok (.iconst 1, 1) := by decide +kernel
theorem dX5_parts_28 : decode cX5_parts 28 = .ok (.iand, 1) := by decide +kernel
theorem dX5_parts_29 : decode cX5_parts 29 = .ok (.ifCond .ne 7, 3) := by decide +kernel
theorem dX5_parts_32 : decode cX5_parts 32 = .ok (.iconst 1, 1) := by decide +kernel
theorem dX5_parts_33 : decode cX5_parts 33 = .ok (.goto 4, 3) := by decide +kernel
theorem dX5_parts_36 : decode cX5_parts 36 = .ok (.iconst 0, 1) := by decide +kernel
theorem dX5_parts_37 : decode cX5_parts 37 = .ok (.ireturn, 1) := by decide +kernel
theorem dX5_parting_0 : decode cX5_parting 0 = .ok (.iconst 0, 1) := by decide +kernel
theorem dX5_parting_1 : decode cX5_parting 1 = .ok (.istore_n 1, 1) := by decide +kernel
theorem dX5_parting_2 : decode cX5_parting 2 = .ok (.iconst 0, 1) := by decide +kernel
theorem dX5_parting_3 : decode cX5_parting 3 = .ok (.istore_n 2, 1) := by decide +kernel
theorem dX5_parting_4 : decode cX5_parting 4 = .ok (.iload_n 2, 1) := by decide +kernel
theorem dX5_parting_5 : decode cX5_parting 5 = .ok (.aload_n 0, 1) := by decide +kernel
theorem dX5_parting_6 : decode cX5_parting 6 = .ok (.getfield 7, 3) := by decide +kernel
theorem dX5_parting_9 : decode cX5_parting 9 = .ok (.iconst 1, 1) := by decide +kernel
theorem dX5_parting_10 : decode cX5_parting 10 = .ok (.iaload, 1) := by decide +kernel
theorem dX5_parting_11 : decode cX5_parting 11 = .ok (.if_icmp .ge 27, 3) := by decide +kernel
theorem dX5_parting_14 : decode cX5_parting 14 = .ok (.iload_n 1, 1) := by decide +kernel
theorem dX5_parting_15 : decode cX5_parting 15 = .ok (.aload_n 0, 1) := by decide +kernel
theorem dX5_parting_16 : decode cX5_parting 16 = .ok (.iload_n 2, 1) := by decide +kernel
theorem dX5_parting_17 : decode cX5_parting 17 = .ok (.invokevirtual 54, 3) := by decide +kernel
theorem dX5_parting_20 : decode cX5_parting 20 = .ok (.ifCond .eq 9, 3) := by decide +kernel
theorem dX5_parting_23 : decode cX5_parting 23 = .ok (.iconst 1, 1) := by decide +kernel
theorem dX5_parting_24 : decode cX5_parting 24 = .ok (.iload_n 2, 1) := by decide +kernel
theorem dX5_parting_25 : decode cX5_parting 25 = .ok (.ishl, 1) := by decide +kernel
theorem dX5_parting_26 : decode cX5_parting 26 = .ok (.goto 4, 3) := by decide +kernel
theorem dX5_parting_29 : decode cX5_parting 29 = .ok (.iconst 0, 1) := by decide +kernel
theorem dX5_parting_30 : decode cX5_parting 30 = .ok (.ior, 1) := by decide +kernel
theorem dX5_parting_31 : decode cX5_parting 31 = .ok (.istore_n 1, 1) := by decide +kernel
theorem dX5_parting_32 : decode cX5_parting 32 = .ok (.iinc 2 1, 3) := by decide +kernel
theorem dX5_parting_35 : decode cX5_parting 35 = .ok (.goto (-31), 3) := by decide +kernel
theorem dX5_parting_38 : decode cX5_parting 38 = .ok (.iload_n 1, 1) := by decide +kernel
theorem dX5_parting_39 : decode cX5_parting 39 = .ok (.ireturn, 1) := by decide +kernel
theorem dX5_pairsLost_0 : decode cX5_pairsLost 0 = .ok (.aload_n 0, 1) := by decide +kernel
theorem dX5_pairsLost_1 : decode cX5_pairsLost 1 = .ok (.iload_n 1, 1) := by decide +kernel
theorem dX5_pairsLost_2 : decode cX5_pairsLost 2 = .ok (.invokevirtual 54, 3) := by decide +kernel
theorem dX5_pairsLost_5 : decode cX5_pairsLost 5 = .ok (.ifCond .eq 48, 3) := by decide +kernel
theorem dX5_pairsLost_8 : decode cX5_pairsLost 8 = .ok (.aload_n 0, 1) := by decide +kernel
theorem dX5_pairsLost_9 : decode cX5_pairsLost 9 = .ok (.aload_n 0, 1) := by decide +kernel
theorem dX5_pairsLost_10 : decode cX5_pairsLost 10 = .ok (.getfield 7, 3) := by decide +kernel
theorem dX5_pairsLost_13 : decode cX5_pairsLost 13 = .ok (.iconst 2, 1) := by decide +kernel
theorem dX5_pairsLost_14 : decode cX5_pairsLost 14 = .ok (.iload_n 1, 1) := by decide +kernel
theorem dX5_pairsLost_15 : decode cX5_pairsLost 15 = .ok (.iadd, 1) := by decide +kernel
theorem dX5_pairsLost_16 : decode cX5_pairsLost 16 = .ok (.iaload, 1) := by decide +kernel
theorem dX5_pairsLost_17 : decode cX5_pairsLost 17 = .ok (.iconst 1, 1) := by decide +kernel
theorem dX5_pairsLost_18 : decode cX5_pairsLost 18 = .ok (.iload_n 1, 1) := by decide +kernel
theorem dX5_pairsLost_19 : decode cX5_pairsLost 19 = .ok (.ishl, 1) := by decide +kernel
theorem dX5_pairsLost_20 : decode cX5_pairsLost 20 = .ok (.bipush (-6), 2) := by decide +kernel
theorem dX5_pairsLost_22 : decode cX5_pairsLost 22 = .ok (.invokevirtual 46, 3) := by decide +kernel
theorem dX5_pairsLost_25 : decode cX5_pairsLost 25 = .ok (.invokestatic 58, 3) := by decide +kernel
theorem dX5_pairsLost_28 : decode cX5_pairsLost 28 = .ok (.aload_n 0, 1) := by decide +kernel
theorem dX5_pairsLost_29 : decode cX5_pairsLost 29 = .ok (.aload_n 0, 1) := by decide +kernel
theorem dX5_pairsLost_30 : decode cX5_pairsLost 30 = .ok (.getfield 7, 3) := by decide +kernel
theorem dX5_pairsLost_33 : decode cX5_pairsLost 33 = .ok (.bipush 32, 2) := by decide +kernel
theorem dX5_pairsLost_35 : decode cX5_pairsLost 35 = .ok (.iload_n 1, 1) := by decide +kernel
theorem dX5_pairsLost_36 : decode cX5_pairsLost 36 = .ok (.iadd, 1) := by decide +kernel
theorem dX5_pairsLost_37 : decode cX5_pairsLost 37 = .ok (.iaload, 1) := by decide +kernel
theorem dX5_pairsLost_38 : decode cX5_pairsLost 38 = .ok (.iconst 1, 1) := by decide +kernel
theorem dX5_pairsLost_39 : decode cX5_pairsLost 39 = .ok (.iload_n 1, 1) := by decide +kernel
theorem dX5_pairsLost_40 : decode cX5_pairsLost 40 = .ok (.ishl, 1) := by decide +kernel
theorem dX5_pairsLost_41 : decode cX5_pairsLost 41 = .ok (.bipush (-6), 2) := by decide +kernel
theorem dX5_pairsLost_43 : decode cX5_pairsLost 43 = .ok (.invokevirtual 46, 3) := by decide +kernel
theorem dX5_pairsLost_46 : decode cX5_pairsLost 46 = .ok (.invokestatic 58, 3) := by decide +kernel
theorem dX5_pairsLost_49 : decode cX5_pairsLost 49 = .ok (.imul, 1) := by decide +kernel
theorem dX5_pairsLost_50 : decode cX5_pairsLost 50 = .ok (.goto 4, 3) := by decide +kernel
theorem dX5_pairsLost_53 : decode cX5_pairsLost 53 = .ok (.iconst 0, 1) := by decide +kernel
theorem dX5_pairsLost_54 : decode cX5_pairsLost 54 = .ok (.ireturn, 1) := by decide +kernel
theorem dX5_morePieces_0 : decode cX5_morePieces 0 = .ok (.aload_n 0, 1) := by decide +kernel
theorem dX5_morePieces_1 : decode cX5_morePieces 1 = .ok (.invokevirtual 61, 3) := by decide +kernel
theorem dX5_morePieces_4 : decode cX5_morePieces 4 = .ok (.aload_n 0, 1) := by decide +kernel
theorem dX5_morePieces_5 : decode cX5_morePieces 5 = .ok (.iload_n 1, 1) := by decide +kernel
theorem dX5_morePieces_6 : decode cX5_morePieces 6 = .ok (.invokevirtual 65, 3) := by decide +kernel
theorem dX5_morePieces_9 : decode cX5_morePieces 9 = .ok (.iconst 1, 1) := by decide +kernel
theorem dX5_morePieces_10 : decode cX5_morePieces 10 = .ok (.iload_n 1, 1) := by decide +kernel
theorem dX5_morePieces_11 : decode cX5_morePieces 11 = .ok (.ishl, 1) := by decide +kernel
theorem dX5_morePieces_12 : decode cX5_morePieces 12 = .ok (.if_icmp .ne 7, 3) := by decide +kernel
theorem dX5_morePieces_15 : decode cX5_morePieces 15 = .ok (.iconst 1, 1) := by decide +kernel
theorem dX5_morePieces_16 : decode cX5_morePieces 16 = .ok (.goto 4, 3) := by decide +kernel
theorem dX5_morePieces_19 : decode cX5_morePieces 19 = .ok (.iconst 0, 1) := by decide +kernel
theorem dX5_morePieces_20 : decode cX5_morePieces 20 = .ok (.isub, 1) := by decide +kernel
theorem dX5_morePieces_21 : decode cX5_morePieces 21 = .ok (.istore_n 2, 1) := by decide +kernel
theorem dX5_morePieces_22 : decode cX5_morePieces 22 = .ok (.aload_n 0, 1) := by decide +kernel
theorem dX5_morePieces_23 : decode cX5_morePieces 23 = .ok (.iconst 0, 1) := by decide +kernel
theorem dX5_morePieces_24 : decode cX5_morePieces 24 = .ok (.iload_n 1, 1) := by decide +kernel
theorem dX5_morePieces_25 : decode cX5_morePieces 25 = .ok (.invokevirtual 50, 3) := by decide +kernel
theorem dX5_morePieces_28 : decode cX5_morePieces 28 = .ok (.iload_n 2, 1) := by decide +kernel
theorem dX5_morePieces_29 : decode cX5_morePieces 29 = .ok (.isub, 1) := by decide +kernel
theorem dX5_morePieces_30 : decode cX5_morePieces 30 = .ok (.ireturn, 1) := by decide +kernel
theorem dX5_squares_0 : decode cX5_squares 0 = .ok (.iload_n 1, 1) := by decide +kernel
theorem dX5_squares_1 : decode cX5_squares 1 = .ok (.i2l, 1) := by decide +kernel
theorem dX5_squares_2 : decode cX5_squares 2 = .ok (.ldc2_w 68, 3) := by decide +kernel
theorem dX5_squares_5 : decode cX5_squares 5 = .ok (.ldc2_w 70, 3) := by decide +kernel
theorem dX5_squares_8 : decode cX5_squares 8 = .ok (.invokestatic 38, 3) := by decide +kernel
theorem dX5_squares_11 : decode cX5_squares 11 = .ok (.ifCond .ne 6, 3) := by decide +kernel
theorem dX5_squares_14 : decode cX5_squares 14 = .ok (.bipush (-2), 2) := by decide +kernel
theorem dX5_squares_16 : decode cX5_squares 16 = .ok (.ireturn, 1) := by decide +kernel
theorem dX5_squares_17 : decode cX5_squares 17 = .ok (.iconst 0, 1) := by decide +kernel
theorem dX5_squares_18 : decode cX5_squares 18 = .ok (.istore_n 2, 1) := by decide +kernel
theorem dX5_squares_19 : decode cX5_squares 19 = .ok (.iload_n 2, 1) := by decide +kernel
theorem dX5_squares_20 : decode cX5_squares 20 = .ok (.aload_n 0, 1) := by decide +kernel
theorem dX5_squares_21 : decode cX5_squares 21 = .ok (.getfield 7, 3) := by decide +kernel
theorem dX5_squares_24 : decode cX5_squares 24 = .ok (.iconst 1, 1) := by decide +kernel
theorem dX5_squares_25 : decode cX5_squares 25 = .ok (.iaload, 1) := by decide +kernel
theorem dX5_squares_26 : decode cX5_squares 26 = .ok (.if_icmp .ge 25, 3) := by decide +kernel
theorem dX5_squares_29 : decode cX5_squares 29 = .ok (.aload_n 0, 1) := by decide +kernel
theorem dX5_squares_30 : decode cX5_squares 30 = .ok (.getfield 7, 3) := by decide +kernel
theorem dX5_squares_33 : decode cX5_squares 33 = .ok (.bipush 32, 2) := by decide +kernel
theorem dX5_squares_35 : decode cX5_squares 35 = .ok (.iload_n 2, 1) := by decide +kernel
theorem dX5_squares_36 : decode cX5_squares 36 = .ok (.iadd, 1) := by decide +kernel
theorem dX5_squares_37 : decode cX5_squares 37 = .ok (.iaload, 1) := by decide +kernel
theorem dX5_squares_38 : decode cX5_squares 38 = .ok (.iload_n 1, 1) := by decide +kernel
theorem dX5_squares_39 : decode cX5_squares 39 = .ok (.if_icmp .lt 6, 3) := by decide +kernel
theorem dX5_squares_42 : decode cX5_squares 42 = .ok (.bipush (-5), 2) := by decide +kernel
theorem dX5_squares_44 : decode cX5_squares 44 = .ok (.ireturn, 1) := by decide +kernel
theorem dX5_squares_45 : decode cX5_squares 45 = .ok (.iinc 2 1, 3) := by decide +kernel
theorem dX5_squares_48 : decode cX5_squares 48 = .ok (.goto (-29), 3) := by decide +kernel
theorem dX5_squares_51 : decode cX5_squares 51 = .ok (.aload_n 0, 1) := by decide +kernel
theorem dX5_squares_52 : decode cX5_squares 52 = .ok (.invokevirtual 72, 3) := by decide +kernel
theorem dX5_squares_55 : decode cX5_squares 55 = .ok (.aload_n 0, 1) := by decide +kernel
theorem dX5_squares_56 : decode cX5_squares 56 = .ok (.getfield 7, 3) := by decide +kernel
theorem dX5_squares_59 : decode cX5_squares 59 = .ok (.iconst 0, 1) := by decide +kernel
theorem dX5_squares_60 : decode cX5_squares 60 = .ok (.iaload, 1) := by decide +kernel
theorem dX5_squares_61 : decode cX5_squares 61 = .ok (.istore_n 2, 1) := by decide +kernel
theorem dX5_squares_62 : decode cX5_squares 62 = .ok (.aload_n 0, 1) := by decide +kernel
theorem dX5_squares_63 : decode cX5_squares 63 = .ok (.getfield 7, 3) := by decide +kernel
theorem dX5_squares_66 : decode cX5_squares 66 = .ok (.iconst 0, 1) := by decide +kernel
theorem dX5_squares_67 : decode cX5_squares 67 = .ok (.iload_n 1, 1) := by decide +kernel
theorem dX5_squares_68 : decode cX5_squares 68 = .ok (.iastore, 1) := by decide +kernel
theorem dX5_squares_69 : decode cX5_squares 69 = .ok (.aload_n 0, 1) := by decide +kernel
theorem dX5_squares_70 : decode cX5_squares 70 = .ok (.iload_n 2, 1) := by decide +kernel
theorem dX5_squares_71 : decode cX5_squares 71 = .ok (.invokevirtual 75, 3) := by decide +kernel
theorem dX5_squares_74 : decode cX5_squares 74 = .ok (.ireturn, 1) := by decide +kernel
theorem dX5_adds_0 : decode cX5_adds 0 = .ok (.aload_n 0, 1) := by decide +kernel
theorem dX5_adds_1 : decode cX5_adds 1 = .ok (.getfield 7, 3) := by decide +kernel
theorem dX5_adds_4 : decode cX5_adds 4 = .ok (.iconst 2, 1) := by decide +kernel
theorem dX5_adds_5 : decode cX5_adds 5 = .ok (.aload_n 0, 1) := by decide +kernel
theorem dX5_adds_6 : decode cX5_adds 6 = .ok (.getfield 7, 3) := by decide +kernel
theorem dX5_adds_9 : decode cX5_adds 9 = .ok (.iconst 1, 1) := by decide +kernel
theorem dX5_adds_10 : decode cX5_adds 10 = .ok (.iaload, 1) := by decide +kernel
theorem dX5_adds_11 : decode cX5_adds 11 = .ok (.iadd, 1) := by decide +kernel
theorem dX5_adds_12 : decode cX5_adds 12 = .ok (.iload_n 1, 1) := by decide +kernel
theorem dX5_adds_13 : decode cX5_adds 13 = .ok (.iload_n 2, 1) := by decide +kernel
theorem dX5_adds_14 : decode cX5_adds 14 = .ok (.if_icmp .ge 7, 3) := by decide +kernel
theorem dX5_adds_17 : decode cX5_adds 17 = .ok (.iload_n 1, 1) := by decide +kernel
theorem dX5_adds_18 : decode cX5_adds 18 = .ok (.goto 4, 3) := by decide +kernel
theorem dX5_adds_21 : decode cX5_adds 21 = .ok (.iload_n 2, 1) := by decide +kernel
theorem dX5_adds_22 : decode cX5_adds 22 = .ok (.iastore, 1) := by decide +kernel
theorem dX5_adds_23 : decode cX5_adds 23 = .ok (.aload_n 0, 1) := by decide +kernel
theorem dX5_adds_24 : decode cX5_adds 24 = .ok (.getfield 7, 3) := by decide +kernel
theorem dX5_adds_27 : decode cX5_adds 27 = .ok (.bipush 32, 2) := by decide +kernel
theorem dX5_adds_29 : decode cX5_adds 29 = .ok (.aload_n 0, 1) := by decide +kernel
theorem dX5_adds_30 : decode cX5_adds 30 = .ok (.getfield 7, 3) := by decide +kernel
theorem dX5_adds_33 : decode cX5_adds 33 = .ok (.iconst 1, 1) := by decide +kernel
theorem dX5_adds_34 : decode cX5_adds 34 = .ok (.iaload, 1) := by decide +kernel
theorem dX5_adds_35 : decode cX5_adds 35 = .ok (.iadd, 1) := by decide +kernel
theorem dX5_adds_36 : decode cX5_adds 36 = .ok (.iload_n 1, 1) := by decide +kernel
theorem dX5_adds_37 : decode cX5_adds 37 = .ok (.iload_n 2, 1) := by decide +kernel
theorem dX5_adds_38 : decode cX5_adds 38 = .ok (.if_icmp .ge 7, 3) := by decide +kernel
theorem dX5_adds_41 : decode cX5_adds 41 = .ok (.iload_n 2, 1) := by decide +kernel
theorem dX5_adds_42 : decode cX5_adds 42 = .ok (.goto 4, 3) := by decide +kernel
theorem dX5_adds_45 : decode cX5_adds 45 = .ok (.iload_n 1, 1) := by decide +kernel
theorem dX5_adds_46 : decode cX5_adds 46 = .ok (.iastore, 1) := by decide +kernel
theorem dX5_adds_47 : decode cX5_adds 47 = .ok (.aload_n 0, 1) := by decide +kernel
theorem dX5_adds_48 : decode cX5_adds 48 = .ok (.getfield 7, 3) := by decide +kernel
theorem dX5_adds_51 : decode cX5_adds 51 = .ok (.bipush 62, 2) := by decide +kernel
theorem dX5_adds_53 : decode cX5_adds 53 = .ok (.aload_n 0, 1) := by decide +kernel
theorem dX5_adds_54 : decode cX5_adds 54 = .ok (.getfield 7, 3) := by decide +kernel
theorem dX5_adds_57 : decode cX5_adds 57 = .ok (.iconst 1, 1) := by decide +kernel
theorem dX5_adds_58 : decode cX5_adds 58 = .ok (.iaload, 1) := by decide +kernel
theorem dX5_adds_59 : decode cX5_adds 59 = .ok (.iadd, 1) := by decide +kernel
theorem dX5_adds_60 : decode cX5_adds 60 = .ok (.iload_n 3, 1) := by decide +kernel
theorem dX5_adds_61 : decode cX5_adds 61 = .ok (.iastore, 1) := by decide +kernel
theorem dX5_adds_62 : decode cX5_adds 62 = .ok (.aload_n 0, 1) := by decide +kernel
theorem dX5_adds_63 : decode cX5_adds 63 = .ok (.getfield 7, 3) := by decide +kernel
theorem dX5_adds_66 : decode cX5_adds 66 = .ok (.iconst 1, 1) := by decide +kernel
theorem dX5_adds_67 : decode cX5_adds 67 = .ok (.dup2, 1) := by decide +kernel
theorem dX5_adds_68 : decode cX5_adds 68 = .ok (.iaload, 1) := by decide +kernel
theorem dX5_adds_69 : decode cX5_adds 69 = .ok (.iconst 1, 1) := by decide +kernel
theorem dX5_adds_70 : decode cX5_adds 70 = .ok (.iadd, 1) := by decide +kernel
theorem dX5_adds_71 : decode cX5_adds 71 = .ok (.iastore, 1) := by decide +kernel
theorem dX5_adds_72 : decode cX5_adds 72 = .ok (.return_, 1) := by decide +kernel
theorem dX5_build_0 : decode cX5_build 0 = .ok (.aload_n 0, 1) := by decide +kernel
theorem dX5_build_1 : decode cX5_build 1 = .ok (.iload_n 1, 1) := by decide +kernel
theorem dX5_build_2 : decode cX5_build 2 = .ok (.invokevirtual 78, 3) := by decide +kernel
theorem dX5_build_5 : decode cX5_build 5 = .ok (.ifCond .eq 11, 3) := by decide +kernel
theorem dX5_build_8 : decode cX5_build 8 = .ok (.aload_n 0, 1) := by decide +kernel
theorem dX5_build_9 : decode cX5_build 9 = .ok (.iload_n 2, 1) := by decide +kernel
theorem dX5_build_10 : decode cX5_build 10 = .ok (.invokevirtual 78, 3) := by decide +kernel
theorem dX5_build_13 : decode cX5_build 13 = .ok (.ifCond .ne 5, 3) := by decide +kernel
theorem dX5_build_16 : decode cX5_build 16 = .ok (.iconst (-1), 1) := by decide +kernel
theorem dX5_build_17 : decode cX5_build 17 = .ok (.ireturn, 1) := by decide +kernel
theorem dX5_build_18 : decode cX5_build 18 = .ok (.iload_n 1, 1) := by decide +kernel
theorem dX5_build_19 : decode cX5_build 19 = .ok (.iload_n 2, 1) := by decide +kernel
theorem dX5_build_20 : decode cX5_build 20 = .ok (.if_icmp .eq 15, 3) := by decide +kernel
theorem dX5_build_23 : decode cX5_build 23 = .ok (.iload_n 3, 1) := by decide +kernel
theorem dX5_build_24 : decode cX5_build 24 = .ok (.i2l, 1) := by decide +kernel
theorem dX5_build_25 : decode cX5_build 25 = .ok (.lconst 1, 1) := by decide +kernel
theorem dX5_build_26 : decode cX5_build 26 = .ok (.ldc2_w 81, 3) := by decide +kernel
theorem dX5_build_29 : decode cX5_build 29 = .ok (.invokestatic 38, 3) := by decide +kernel
theorem dX5_build_32 : decode cX5_build 32 = .ok (.ifCond .ne 6, 3) := by decide +kernel
theorem dX5_build_35 : decode cX5_build 35 = .ok (.bipush (-2), 2) := by decide +kernel
theorem dX5_build_37 : decode cX5_build 37 = .ok (.ireturn, 1) := by decide +kernel
theorem dX5_build_38 : decode cX5_build 38 = .ok (.aload_n 0, 1) := by decide +kernel
theorem dX5_build_39 : decode cX5_build 39 = .ok (.getfield 7, 3) := by decide +kernel
theorem dX5_build_42 : decode cX5_build 42 = .ok (.iconst 1, 1) := by decide +kernel
theorem dX5_build_43 : decode cX5_build 43 = .ok (.iaload, 1) := by decide +kernel
theorem dX5_build_44 : decode cX5_build 44 = .ok (.bipush 30, 2) := by decide +kernel
theorem dX5_build_46 : decode cX5_build 46 = .ok (.if_icmp .ne 6, 3) := by decide +kernel
theorem dX5_build_49 : decode cX5_build 49 = .ok (.bipush (-4), 2) := by decide +kernel
theorem dX5_build_51 : decode cX5_build 51 = .ok (.ireturn, 1) := by decide +kernel
theorem dX5_build_52 : decode cX5_build 52 = .ok (.aload_n 0, 1) := by decide +kernel
theorem dX5_build_53 : decode cX5_build 53 = .ok (.invokevirtual 72, 3) := by decide +kernel
theorem dX5_build_56 : decode cX5_build 56 = .ok (.aload_n 0, 1) := by decide +kernel
theorem dX5_build_57 : decode cX5_build 57 = .ok (.iload_n 1, 1) := by decide +kernel
theorem dX5_build_58 : decode cX5_build 58 = .ok (.iload_n 2, 1) := by decide +kernel
theorem dX5_build_59 : decode cX5_build 59 = .ok (.iload_n 3, 1) := by decide +kernel
theorem dX5_build_60 : decode cX5_build 60 = .ok (.invokevirtual 83, 3) := by decide +kernel
theorem dX5_build_63 : decode cX5_build 63 = .ok (.aload_n 0, 1) := by decide +kernel
theorem dX5_build_64 : decode cX5_build 64 = .ok (.aload_n 0, 1) := by decide +kernel
theorem dX5_build_65 : decode cX5_build 65 = .ok (.invokevirtual 61, 3) := by decide +kernel
theorem dX5_build_68 : decode cX5_build 68 = .ok (.invokevirtual 75, 3) := by decide +kernel
theorem dX5_build_71 : decode cX5_build 71 = .ok (.ireturn, 1) := by decide +kernel
theorem dX5_lose_0 : decode cX5_lose 0 = .ok (.aload_n 0, 1) := by decide +kernel
theorem dX5_lose_1 : decode cX5_lose 1 = .ok (.iload_n 1, 1) := by decide +kernel
theorem dX5_lose_2 : decode cX5_lose 2 = .ok (.invokevirtual 87, 3) := by decide +kernel
theorem dX5_lose_5 : decode cX5_lose 5 = .ok (.ifCond .ne 5, 3) := by decide +kernel
theorem dX5_lose_8 : decode cX5_lose 8 = .ok (.iconst (-1), 1) := by decide +kernel
theorem dX5_lose_9 : decode cX5_lose 9 = .ok (.ireturn, 1) := by decide +kernel
theorem dX5_lose_10 : decode cX5_lose 10 = .ok (.aload_n 0, 1) := by decide +kernel
theorem dX5_lose_11 : decode cX5_lose 11 = .ok (.invokevirtual 72, 3) := by decide +kernel
theorem dX5_lose_14 : decode cX5_lose 14 = .ok (.aload_n 0, 1) := by decide +kernel
theorem dX5_lose_15 : decode cX5_lose 15 = .ok (.getfield 7, 3) := by decide +kernel
theorem dX5_lose_18 : decode cX5_lose 18 = .ok (.iconst 1, 1) := by decide +kernel
theorem dX5_lose_19 : decode cX5_lose 19 = .ok (.dup2, 1) := by decide +kernel
theorem dX5_lose_20 : decode cX5_lose 20 = .ok (.iaload, 1) := by decide +kernel
theorem dX5_lose_21 : decode cX5_lose 21 = .ok (.iconst 1, 1) := by decide +kernel
theorem dX5_lose_22 : decode cX5_lose 22 = .ok (.isub, 1) := by decide +kernel
theorem dX5_lose_23 : decode cX5_lose 23 = .ok (.iastore, 1) := by decide +kernel
theorem dX5_lose_24 : decode cX5_lose 24 = .ok (.iload_n 1, 1) := by decide +kernel
theorem dX5_lose_25 : decode cX5_lose 25 = .ok (.istore_n 2, 1) := by decide +kernel
theorem dX5_lose_26 : decode cX5_lose 26 = .ok (.iload_n 2, 1) := by decide +kernel
theorem dX5_lose_27 : decode cX5_lose 27 = .ok (.aload_n 0, 1) := by decide +kernel
theorem dX5_lose_28 : decode cX5_lose 28 = .ok (.getfield 7, 3) := by decide +kernel
theorem dX5_lose_31 : decode cX5_lose 31 = .ok (.iconst 1, 1) := by decide +kernel
theorem dX5_lose_32 : decode cX5_lose 32 = .ok (.iaload, 1) := by decide +kernel
theorem dX5_lose_33 : decode cX5_lose 33 = .ok (.if_icmp .ge 67, 3) := by decide +kernel
theorem dX5_lose_36 : decode cX5_lose 36 = .ok (.aload_n 0, 1) := by decide +kernel
theorem dX5_lose_37 : decode cX5_lose 37 = .ok (.getfield 7, 3) := by decide +kernel
theorem dX5_lose_40 : decode cX5_lose 40 = .ok (.iconst 2, 1) := by decide +kernel
theorem dX5_lose_41 : decode cX5_lose 41 = .ok (.iload_n 2, 1) := by decide +kernel
theorem dX5_lose_42 : decode cX5_lose 42 = .ok (.iadd, 1) := by decide +kernel
theorem dX5_lose_43 : decode cX5_lose 43 = .ok (.aload_n 0, 1) := by decide +kernel
theorem dX5_lose_44 : decode cX5_lose 44 = .ok (.getfield 7, 3) := by decide +kernel
theorem dX5_lose_47 : decode cX5_lose 47 = .ok (.iconst 2, 1) := by decide +kernel
theorem dX5_lose_48 : decode cX5_lose 48 = .ok (.iload_n 2, 1) := by decide +kernel
theorem dX5_lose_49 : decode cX5_lose 49 = .ok (.iadd, 1) := by decide +kernel
theorem dX5_lose_50 : decode cX5_lose 50 = .ok (.iconst 1, 1) := by decide +kernel
theorem dX5_lose_51 : decode cX5_lose 51 = .ok (.iadd, 1) := by decide +kernel
theorem dX5_lose_52 : decode cX5_lose 52 = .ok (.iaload, 1) := by decide +kernel
theorem dX5_lose_53 : decode cX5_lose 53 = .ok (.iastore, 1) := by decide +kernel
theorem dX5_lose_54 : decode cX5_lose 54 = .ok (.aload_n 0, 1) := by decide +kernel
theorem dX5_lose_55 : decode cX5_lose 55 = .ok (.getfield 7, 3) := by decide +kernel
theorem dX5_lose_58 : decode cX5_lose 58 = .ok (.bipush 32, 2) := by decide +kernel
theorem dX5_lose_60 : decode cX5_lose 60 = .ok (.iload_n 2, 1) := by decide +kernel
theorem dX5_lose_61 : decode cX5_lose 61 = .ok (.iadd, 1) := by decide +kernel
theorem dX5_lose_62 : decode cX5_lose 62 = .ok (.aload_n 0, 1) := by decide +kernel
theorem dX5_lose_63 : decode cX5_lose 63 = .ok (.getfield 7, 3) := by decide +kernel
theorem dX5_lose_66 : decode cX5_lose 66 = .ok (.bipush 32, 2) := by decide +kernel
theorem dX5_lose_68 : decode cX5_lose 68 = .ok (.iload_n 2, 1) := by decide +kernel
theorem dX5_lose_69 : decode cX5_lose 69 = .ok (.iadd, 1) := by decide +kernel
theorem dX5_lose_70 : decode cX5_lose 70 = .ok (.iconst 1, 1) := by decide +kernel
theorem dX5_lose_71 : decode cX5_lose 71 = .ok (.iadd, 1) := by decide +kernel
theorem dX5_lose_72 : decode cX5_lose 72 = .ok (.iaload, 1) := by decide +kernel
theorem dX5_lose_73 : decode cX5_lose 73 = .ok (.iastore, 1) := by decide +kernel
theorem dX5_lose_74 : decode cX5_lose 74 = .ok (.aload_n 0, 1) := by decide +kernel
theorem dX5_lose_75 : decode cX5_lose 75 = .ok (.getfield 7, 3) := by decide +kernel
theorem dX5_lose_78 : decode cX5_lose 78 = .ok (.bipush 62, 2) := by decide +kernel
theorem dX5_lose_80 : decode cX5_lose 80 = .ok (.iload_n 2, 1) := by decide +kernel
theorem dX5_lose_81 : decode cX5_lose 81 = .ok (.iadd, 1) := by decide +kernel
theorem dX5_lose_82 : decode cX5_lose 82 = .ok (.aload_n 0, 1) := by decide +kernel
theorem dX5_lose_83 : decode cX5_lose 83 = .ok (.getfield 7, 3) := by decide +kernel
theorem dX5_lose_86 : decode cX5_lose 86 = .ok (.bipush 62, 2) := by decide +kernel
theorem dX5_lose_88 : decode cX5_lose 88 = .ok (.iload_n 2, 1) := by decide +kernel
theorem dX5_lose_89 : decode cX5_lose 89 = .ok (.iadd, 1) := by decide +kernel
theorem dX5_lose_90 : decode cX5_lose 90 = .ok (.iconst 1, 1) := by decide +kernel
theorem dX5_lose_91 : decode cX5_lose 91 = .ok (.iadd, 1) := by decide +kernel
theorem dX5_lose_92 : decode cX5_lose 92 = .ok (.iaload, 1) := by decide +kernel
theorem dX5_lose_93 : decode cX5_lose 93 = .ok (.iastore, 1) := by decide +kernel
theorem dX5_lose_94 : decode cX5_lose 94 = .ok (.iinc 2 1, 3) := by decide +kernel
theorem dX5_lose_97 : decode cX5_lose 97 = .ok (.goto (-71), 3) := by decide +kernel
theorem dX5_lose_100 : decode cX5_lose 100 = .ok (.aload_n 0, 1) := by decide +kernel
theorem dX5_lose_101 : decode cX5_lose 101 = .ok (.aload_n 0, 1) := by decide +kernel
theorem dX5_lose_102 : decode cX5_lose 102 = .ok (.invokevirtual 61, 3) := by decide +kernel
theorem dX5_lose_105 : decode cX5_lose 105 = .ok (.invokevirtual 75, 3) := by decide +kernel
theorem dX5_lose_108 : decode cX5_lose 108 = .ok (.ireturn, 1) := by decide +kernel
theorem dX5_findsFar_0 : decode cX5_findsFar 0 = .ok (.iconst 0, 1) := by decide +kernel
theorem dX5_findsFar_1 : decode cX5_findsFar 1 = .ok (.istore 4, 2) := by decide +kernel
theorem dX5_findsFar_3 : decode cX5_findsFar 3 = .ok (.iload 4, 2) := by decide +kernel
theorem dX5_findsFar_5 : decode cX5_findsFar 5 = .ok (.bipush 16, 2) := by decide +kernel
theorem dX5_findsFar_7 : decode cX5_findsFar 7 = .ok (.if_icmp .ge 28, 3) := by decide +kernel
theorem dX5_findsFar_10 : decode cX5_findsFar 10 = .ok (.aload_n 0, 1) := by decide +kernel
theorem dX5_findsFar_11 : decode cX5_findsFar 11 = .ok (.getfield 25, 3) := by decide +kernel
theorem dX5_findsFar_14 : decode cX5_findsFar 14 = .ok (.iload 4, 2) := by decide +kernel
theorem dX5_findsFar_16 : decode cX5_findsFar 16 = .ok (.iload 4, 2) := by decide +kernel
theorem dX5_findsFar_18 : decode cX5_findsFar 18 = .ok (.iload_n 1, 1) := by decide +kernel
theorem dX5_findsFar_19 : decode cX5_findsFar 19 = .ok (.if_icmp .ne 7, 3) := by decide +kernel
theorem dX5_findsFar_22 : decode cX5_findsFar 22 = .ok (.iconst 0, 1) := by decide +kernel
theorem dX5_findsFar_23 : decode cX5_findsFar 23 = .ok (.goto 5, 3) := by decide +kernel
theorem dX5_findsFar_26 : decode cX5_findsFar 26 = .ok (.ldc 90, 2) := by decide +kernel
theorem dX5_findsFar_28 : decode cX5_findsFar 28 = .ok (.iastore, 1) := by decide +kernel
theorem dX5_findsFar_29 : decode cX5_findsFar 29 = .ok (.iinc 4 1, 3) := by decide +kernel
theorem dX5_findsFar_32 : decode cX5_findsFar 32 = .ok (.goto (-29), 3) := by decide +kernel
theorem dX5_findsFar_35 : decode cX5_findsFar 35 = .ok (.iconst 0, 1) := by decide +kernel
theorem dX5_findsFar_36 : decode cX5_findsFar 36 = .ok (.istore 4, 2) := by decide +kernel
theorem dX5_findsFar_38 : decode cX5_findsFar 38 = .ok (.iload 4, 2) := by decide +kernel
theorem dX5_findsFar_40 : decode cX5_findsFar 40 = .ok (.bipush 16, 2) := by decide +kernel
theorem dX5_findsFar_42 : decode cX5_findsFar 42 = .ok (.if_icmp .ge 181, 3) := by decide +kernel
theorem dX5_findsFar_45 : decode cX5_findsFar 45 = .ok (.iconst 0, 1) := by decide +kernel
theorem dX5_findsFar_46 : decode cX5_findsFar 46 = .ok (.istore 5, 2) := by decide +kernel
theorem dX5_findsFar_48 : decode cX5_findsFar 48 = .ok (.iload 5, 2) := by decide +kernel
theorem dX5_findsFar_50 : decode cX5_findsFar 50 = .ok (.aload_n 0, 1) := by decide +kernel
theorem dX5_findsFar_51 : decode cX5_findsFar 51 = .ok (.getfield 7, 3) := by decide +kernel
theorem dX5_findsFar_54 : decode cX5_findsFar 54 = .ok (.iconst 1, 1) := by decide +kernel
theorem dX5_findsFar_55 : decode cX5_findsFar 55 = .ok (.iaload, 1) := by decide +kernel
theorem dX5_findsFar_56 : decode cX5_findsFar 56 = .ok (.if_icmp .ge 161, 3) := by decide +kernel
theorem dX5_findsFar_59 : decode cX5_findsFar 59 = .ok (.iload_n 2, 1) := by decide +kernel
theorem dX5_findsFar_60 : decode cX5_findsFar 60 = .ok (.iload 5, 2) := by decide +kernel
theorem dX5_findsFar_62 : decode cX5_findsFar 62 = .ok (.ishr, 1) := by decide +kernel
theorem dX5_findsFar_63 : decode cX5_findsFar 63 = .ok (.iconst 1, 1) := by decide +kernel
theorem dX5_findsFar_64 : decode cX5_findsFar 64 = .ok (.iand, 1) := by decide +kernel
theorem dX5_findsFar_65 : decode cX5_findsFar 65 = .ok (.iconst 1, 1) := by decide +kernel
theorem dX5_findsFar_66 : decode cX5_findsFar 66 = .ok (.if_icmp .ne 8, 3) := by decide +kernel
theorem dX5_findsFar_69 : decode cX5_findsFar 69 = .ok (.ldc 90, 2) := by decide +kernel
theorem dX5_findsFar_71 : decode cX5_findsFar 71 = .ok (.goto 21, 3) := by decide +kernel
theorem dX5_findsFar_74 : decode cX5_findsFar 74 = .ok (.iload_n 3, 1) := by decide +kernel
theorem dX5_findsFar_75 : decode cX5_findsFar 75 = .ok (.ifCond .eq 16, 3) := by decide +kernel
theorem dX5_findsFar_78 : decode cX5_findsFar 78 = .ok (.aload_n 0, 1) := by decide +kernel
theorem dX5_findsFar_79 : decode cX5_findsFar 79 = .ok (.getfield 7, 3) := by decide +kernel
theorem dX5_findsFar_82 : decode cX5_findsFar 82 = .ok (.bipush 62, 2) := by decide +kernel
theorem dX5_findsFar_84 : decode cX5_findsFar 84 = .ok (.iload 5, 2) := by decide +kernel
theorem dX5_findsFar_86 : decode cX5_findsFar 86 = .ok (.iadd, 1) := by decide +kernel
theorem dX5_findsFar_87 : decode cX5_findsFar 87 = .ok (.iaload, 1) := by decide +kernel
theorem dX5_findsFar_88 : decode cX5_findsFar 88 = .ok (.goto 4, 3) := by decide +kernel
theorem dX5_findsFar_91 : decode cX5_findsFar 91 = .ok (.iconst 1, 1) := by decide +kernel
theorem dX5_findsFar_92 : decode cX5_findsFar 92 = .ok (.istore 6, 2) := by decide +kernel
theorem dX5_findsFar_94 : decode cX5_findsFar 94 = .ok (.aload_n 0, 1) := by decide +kernel
theorem dX5_findsFar_95 : decode cX5_findsFar 95 = .ok (.getfield 7, 3) := by decide +kernel
theorem dX5_findsFar_98 : decode cX5_findsFar 98 = .ok (.iconst 2, 1) := by decide +kernel
theorem dX5_findsFar_99 : decode cX5_findsFar 99 = .ok (.iload 5, 2) := by decide +kernel
theorem dX5_findsFar_101 : decode cX5_findsFar 101 = .ok (.iadd, 1) := by decide +kernel
theorem dX5_findsFar_102 : decode cX5_findsFar 102 = .ok (.iaload, 1) := by decide +kernel
theorem dX5_findsFar_103 : decode cX5_findsFar 103 = .ok (.istore 7, 2) := by decide +kernel
theorem dX5_findsFar_105 : decode cX5_findsFar 105 = .ok (.aload_n 0, 1) := by decide +kernel
theorem dX5_findsFar_106 : decode cX5_findsFar 106 = .ok (.getfield 7, 3) := by decide +kernel
theorem dX5_findsFar_109 : decode cX5_findsFar 109 = .ok (.bipush 32, 2) := by decide +kernel
theorem dX5_findsFar_111 : decode cX5_findsFar 111 = .ok (.iload 5, 2) := by decide +kernel
theorem dX5_findsFar_113 : decode cX5_findsFar 113 = .ok (.iadd, 1) := by decide +kernel
theorem dX5_findsFar_114 : decode cX5_findsFar 114 = .ok (.iaload, 1) := by decide +kernel
theorem dX5_findsFar_115 : decode cX5_findsFar 115 = .ok (.istore 8, 2) := by decide +kernel
theorem dX5_findsFar_117 : decode cX5_findsFar 117 = .ok (.aload_n 0, 1) := by decide +kernel
theorem dX5_findsFar_118 : decode cX5_findsFar 118 = .ok (.getfield 25, 3) := by decide +kernel
theorem dX5_findsFar_121 : decode cX5_findsFar 121 = .ok (.iload 8, 2) := by decide +kernel
theorem dX5_findsFar_123 : decode cX5_findsFar 123 = .ok (.aload_n 0, 1) := by decide +kernel
theorem dX5_findsFar_124 : decode cX5_findsFar 124 = .ok (.getfield 25, 3) := by decide +kernel
theorem dX5_findsFar_127 : decode cX5_findsFar 127 = .ok (.iload 7, 2) := by decide +kernel
theorem dX5_findsFar_129 : decode cX5_findsFar 129 = .ok (.iaload, 1) := by decide +kernel
theorem dX5_findsFar_130 : decode cX5_findsFar 130 = .ok (.iload 6, 2) := by decide +kernel
theorem dX5_findsFar_132 : decode cX5_findsFar 132 = .ok (.iadd, 1) := by decide +kernel
theorem dX5_findsFar_133 : decode cX5_findsFar 133 = .ok (.aload_n 0, 1) := by decide +kernel
theorem dX5_findsFar_134 : decode cX5_findsFar 134 = .ok (.getfield 25, 3) := by decide +kernel
theorem dX5_findsFar_137 : decode cX5_findsFar 137 = .ok (.iload 8, 2) := by decide +kernel
theorem dX5_findsFar_139 : decode cX5_findsFar 139 = .ok (.iaload, 1) := by decide +kernel
theorem dX5_findsFar_140 : decode cX5_findsFar 140 = .ok (.if_icmp .ge 16, 3) := by decide +kernel
theorem dX5_findsFar_143 : decode cX5_findsFar 143 = .ok (.aload_n 0, 1) := by decide +kernel
theorem dX5_findsFar_144 : decode cX5_findsFar 144 = .ok (.getfield 25, 3) := by decide +kernel
theorem dX5_findsFar_147 : decode cX5_findsFar 147 = .ok (.iload 7, 2) := by decide +kernel
theorem dX5_findsFar_149 : decode cX5_findsFar 149 = .ok (.iaload, 1) := by decide +kernel
theorem dX5_findsFar_150 : decode cX5_findsFar 150 = .ok (.iload 6, 2) := by decide +kernel
theorem dX5_findsFar_152 : decode cX5_findsFar 152 = .ok (.iadd, 1) := by decide +kernel
theorem dX5_findsFar_153 : decode cX5_findsFar 153 = .ok (.goto 10, 3) := by decide +kernel
theorem dX5_findsFar_156 : decode cX5_findsFar 156 = .ok (.aload_n 0, 1) := by decide +kernel
theorem dX5_findsFar_157 : decode cX5_findsFar 157 = .ok (.getfield 25, 3) := by decide +kernel
theorem dX5_findsFar_160 : decode cX5_findsFar 160 = .ok (.iload 8, 2) := by decide +kernel
theorem dX5_findsFar_162 : decode cX5_findsFar 162 = .ok (.iaload, 1) := by decide +kernel
theorem dX5_findsFar_163 : decode cX5_findsFar 163 = .ok (.iastore, 1) := by decide +kernel
theorem dX5_findsFar_164 : decode cX5_findsFar 164 = .ok (.aload_n 0, 1) := by decide +kernel
theorem dX5_findsFar_165 : decode cX5_findsFar 165 = .ok (.getfield 25, 3) := by decide +kernel
theorem dX5_findsFar_168 : decode cX5_findsFar 168 = .ok (.iload 7, 2) := by decide +kernel
theorem dX5_findsFar_170 : decode cX5_findsFar 170 = .ok (.aload_n 0, 1) := by decide +kernel
theorem dX5_findsFar_171 : decode cX5_findsFar 171 = .ok (.getfield 25, 3) := by decide +kernel
theorem dX5_findsFar_174 : decode cX5_findsFar 174 = .ok (.iload 8, 2) := by decide +kernel
theorem dX5_findsFar_176 : decode cX5_findsFar 176 = .ok (.iaload, 1) := by decide +kernel
theorem dX5_findsFar_177 : decode cX5_findsFar 177 = .ok (.iload 6, 2) := by decide +kernel
theorem dX5_findsFar_179 : decode cX5_findsFar 179 = .ok (.iadd, 1) := by decide +kernel
theorem dX5_findsFar_180 : decode cX5_findsFar 180 = .ok (.aload_n 0, 1) := by decide +kernel
theorem dX5_findsFar_181 : decode cX5_findsFar 181 = .ok (.getfield 25, 3) := by decide +kernel
theorem dX5_findsFar_184 : decode cX5_findsFar 184 = .ok (.iload 7, 2) := by decide +kernel
theorem dX5_findsFar_186 : decode cX5_findsFar 186 = .ok (.iaload, 1) := by decide +kernel
theorem dX5_findsFar_187 : decode cX5_findsFar 187 = .ok (.if_icmp .ge 16, 3) := by decide +kernel
theorem dX5_findsFar_190 : decode cX5_findsFar 190 = .ok (.aload_n 0, 1) := by decide +kernel
theorem dX5_findsFar_191 : decode cX5_findsFar 191 = .ok (.getfield 25, 3) := by decide +kernel
theorem dX5_findsFar_194 : decode cX5_findsFar 194 = .ok (.iload 8, 2) := by decide +kernel
theorem dX5_findsFar_196 : decode cX5_findsFar 196 = .ok (.iaload, 1) := by decide +kernel
theorem dX5_findsFar_197 : decode cX5_findsFar 197 = .ok (.iload 6, 2) := by decide +kernel
theorem dX5_findsFar_199 : decode cX5_findsFar 199 = .ok (.iadd, 1) := by decide +kernel
theorem dX5_findsFar_200 : decode cX5_findsFar 200 = .ok (.goto 10, 3) := by decide +kernel
theorem dX5_findsFar_203 : decode cX5_findsFar 203 = .ok (.aload_n 0, 1) := by decide +kernel
theorem dX5_findsFar_204 : decode cX5_findsFar 204 = .ok (.getfield 25, 3) := by decide +kernel
theorem dX5_findsFar_207 : decode cX5_findsFar 207 = .ok (.iload 7, 2) := by decide +kernel
theorem dX5_findsFar_209 : decode cX5_findsFar 209 = .ok (.iaload, 1) := by decide +kernel
theorem dX5_findsFar_210 : decode cX5_findsFar 210 = .ok (.iastore, 1) := by decide +kernel
theorem dX5_findsFar_211 : decode cX5_findsFar 211 = .ok (.iinc 5 1, 3) := by decide +kernel
theorem dX5_findsFar_214 : decode cX5_findsFar 214 = .ok (.goto (-166), 3) := by decide +kernel
theorem dX5_findsFar_217 : decode cX5_findsFar 217 = .ok (.iinc 4 1, 3) := by decide +kernel
theorem dX5_findsFar_220 : decode cX5_findsFar 220 = .ok (.goto (-182), 3) := by decide +kernel
theorem dX5_findsFar_223 : decode cX5_findsFar 223 = .ok (.return_, 1) := by decide +kernel
theorem dX5_leastRing_0 : decode cX5_leastRing 0 = .ok (.aload_n 0, 1) := by decide +kernel
theorem dX5_leastRing_1 : decode cX5_leastRing 1 = .ok (.aload_n 0, 1) := by decide +kernel
theorem dX5_leastRing_2 : decode cX5_leastRing 2 = .ok (.getfield 7, 3) := by decide +kernel
theorem dX5_leastRing_5 : decode cX5_leastRing 5 = .ok (.iconst 2, 1) := by decide +kernel
theorem dX5_leastRing_6 : decode cX5_leastRing 6 = .ok (.iload_n 1, 1) := by decide +kernel
theorem dX5_leastRing_7 : decode cX5_leastRing 7 = .ok (.iadd, 1) := by decide +kernel
theorem dX5_leastRing_8 : decode cX5_leastRing 8 = .ok (.iaload, 1) := by decide +kernel
theorem dX5_leastRing_9 : decode cX5_leastRing 9 = .ok (.iconst 1, 1) := by decide +kernel
theorem dX5_leastRing_10 : decode cX5_leastRing 10 = .ok (.iload_n 1, 1) := by decide +kernel
theorem dX5_leastRing_11 : decode cX5_leastRing 11 = .ok (.ishl, 1) := by decide +kernel
theorem dX5_leastRing_12 : decode cX5_leastRing 12 = .ok (.iconst 0, 1) := by decide +kernel
theorem dX5_leastRing_13 : decode cX5_leastRing 13 = .ok (.invokevirtual 91, 3) := by decide +kernel
theorem dX5_leastRing_16 : decode cX5_leastRing 16 = .ok (.aload_n 0, 1) := by decide +kernel
theorem dX5_leastRing_17 : decode cX5_leastRing 17 = .ok (.getfield 25, 3) := by decide +kernel
theorem dX5_leastRing_20 : decode cX5_leastRing 20 = .ok (.aload_n 0, 1) := by decide +kernel
theorem dX5_leastRing_21 : decode cX5_leastRing 21 = .ok (.getfield 7, 3) := by decide +kernel
theorem dX5_leastRing_24 : decode cX5_leastRing 24 = .ok (.bipush 32, 2) := by decide +kernel
theorem dX5_leastRing_26 : decode cX5_leastRing 26 = .ok (.iload_n 1, 1) := by decide +kernel
theorem dX5_leastRing_27 : decode cX5_leastRing 27 = .ok (.iadd, 1) := by decide +kernel
theorem dX5_leastRing_28 : decode cX5_leastRing 28 = .ok (.iaload, 1) := by decide +kernel
theorem dX5_leastRing_29 : decode cX5_leastRing 29 = .ok (.iaload, 1) := by decide +kernel
theorem dX5_leastRing_30 : decode cX5_leastRing 30 = .ok (.istore_n 2, 1) := by decide +kernel
theorem dX5_leastRing_31 : decode cX5_leastRing 31 = .ok (.iload_n 2, 1) := by decide +kernel
theorem dX5_leastRing_32 : decode cX5_leastRing 32 = .ok (.ldc 90, 2) := by decide +kernel
theorem dX5_leastRing_34 : decode cX5_leastRing 34 = .ok (.if_icmp .lt 8, 3) := by decide +kernel
theorem dX5_leastRing_37 : decode cX5_leastRing 37 = .ok (.bipush (-6), 2) := by decide +kernel
theorem dX5_leastRing_39 : decode cX5_leastRing 39 = .ok (.goto 6, 3) := by decide +kernel
theorem dX5_leastRing_42 : decode cX5_leastRing 42 = .ok (.iload_n 2, 1) := by decide +kernel
theorem dX5_leastRing_43 : decode cX5_leastRing 43 = .ok (.iconst 1, 1) := by decide +kernel
theorem dX5_leastRing_44 : decode cX5_leastRing 44 = .ok (.iadd, 1) := by decide +kernel
theorem dX5_leastRing_45 : decode cX5_leastRing 45 = .ok (.ireturn, 1) := by decide +kernel
theorem dX5_districtOf_0 : decode cX5_districtOf 0 = .ok (.aload_n 0, 1) := by decide +kernel
theorem dX5_districtOf_1 : decode cX5_districtOf 1 = .ok (.iload_n 1, 1) := by decide +kernel
theorem dX5_districtOf_2 : decode cX5_districtOf 2 = .ok (.aload_n 0, 1) := by decide +kernel
theorem dX5_districtOf_3 : decode cX5_districtOf 3 = .ok (.invokevirtual 95, 3) := by decide +kernel
theorem dX5_districtOf_6 : decode cX5_districtOf 6 = .ok (.bipush (-6), 2) := by decide +kernel
theorem dX5_districtOf_8 : decode cX5_districtOf 8 = .ok (.invokevirtual 46, 3) := by decide +kernel
theorem dX5_districtOf_11 : decode cX5_districtOf 11 = .ok (.ireturn, 1) := by decide +kernel
theorem dX5_districtsBelow_0 : decode cX5_districtsBelow 0 = .ok (.aload_n 0, 1) := by decide +kernel
theorem dX5_districtsBelow_1 : decode cX5_districtsBelow 1 = .ok (.invokevirtual 95, 3) := by decide +kernel
theorem dX5_districtsBelow_4 : decode cX5_districtsBelow 4 = .ok (.istore_n 2, 1) := by decide +kernel
theorem dX5_districtsBelow_5 : decode cX5_districtsBelow 5 = .ok (.iconst 0, 1) := by decide +kernel
theorem dX5_districtsBelow_6 : decode cX5_districtsBelow 6 = .ok (.istore_n 3, 1) := by decide +kernel
theorem dX5_districtsBelow_7 : decode cX5_districtsBelow 7 = .ok (.iconst 0, 1) := by decide +kernel
theorem dX5_districtsBelow_8 : decode cX5_districtsBelow 8 = .ok (.istore 4, 2) := by decide +kernel
theorem dX5_districtsBelow_10 : decode cX5_districtsBelow 10 = .ok (.iload 4, 2) := by decide +kernel
theorem dX5_districtsBelow_12 : decode cX5_districtsBelow 12 = .ok (.iload_n 1, 1) := by decide +kernel
theorem dX5_districtsBelow_13 : decode cX5_districtsBelow 13 = .ok (.if_icmp .ge 36, 3) := by decide +kernel
theorem dX5_districtsBelow_16 : decode cX5_districtsBelow 16 = .ok (.iload_n 3, 1) := by decide +kernel
theorem dX5_districtsBelow_17 : decode cX5_districtsBelow 17 = .ok (.aload_n 0, 1) := by decide +kernel
theorem dX5_districtsBelow_18 : decode cX5_districtsBelow 18 = .ok (.iload 4, 2) := by decide +kernel
theorem dX5_districtsBelow_20 : decode cX5_districtsBelow 20 = .ok (.iload_n 2, 1) := by decide +kernel
theorem dX5_districtsBelow_21 : decode cX5_districtsBelow 21 = .ok (.bipush (-6), 2) := by decide +kernel
theorem dX5_districtsBelow_23 : decode cX5_districtsBelow 23 = .ok (.invokevirtual 46, 3) := by decide +kernel
theorem dX5_districtsBelow_26 : decode cX5_districtsBelow 26 = .ok (.iconst 1, 1) := by decide +kernel
theorem dX5_districtsBelow_27 : decode cX5_districtsBelow 27 = .ok (.iload 4, 2) := by decide +kernel
theorem dX5_districtsBelow_29 : decode cX5_districtsBelow 29 = .ok (.ishl, 1) := by decide +kernel
theorem dX5_districtsBelow_30 : decode cX5_districtsBelow 30 = .ok (.iconst 1, 1) := by decide +kernel
theorem dX5_districtsBelow_31 : decode cX5_districtsBelow 31 = .ok (.isub, 1) := by decide +kernel
theorem dX5_districtsBelow_32 : decode cX5_districtsBelow 32 = .ok (.iand, 1) := by decide +kernel
theorem dX5_districtsBelow_33 : decode cX5_districtsBelow 33 = .ok (.ifCond .ne 7, 3) := by decide +kernel
theorem dX5_districtsBelow_36 : decode cX5_districtsBelow 36 = .ok (.iconst 1, 1) := by decide +kernel
theorem dX5_districtsBelow_37 : decode cX5_districtsBelow 37 = .ok (.goto 4, 3) := by decide +kernel
theorem dX5_districtsBelow_40 : decode cX5_districtsBelow 40 = .ok (.iconst 0, 1) := by decide +kernel
theorem dX5_districtsBelow_41 : decode cX5_districtsBelow 41 = .ok (.iadd, 1) := by decide +kernel
theorem dX5_districtsBelow_42 : decode cX5_districtsBelow 42 = .ok (.istore_n 3, 1) := by decide +kernel
theorem dX5_districtsBelow_43 : decode cX5_districtsBelow 43 = .ok (.iinc 4 1, 3) := by decide +kernel
theorem dX5_districtsBelow_46 : decode cX5_districtsBelow 46 = .ok (.goto (-36), 3) := by decide +kernel
theorem dX5_districtsBelow_49 : decode cX5_districtsBelow 49 = .ok (.iload_n 3, 1) := by decide +kernel
theorem dX5_districtsBelow_50 : decode cX5_districtsBelow 50 = .ok (.ireturn, 1) := by decide +kernel
theorem dX5_lowest_0 : decode cX5_lowest 0 = .ok (.iconst 0, 1) := by decide +kernel
theorem dX5_lowest_1 : decode cX5_lowest 1 = .ok (.istore_n 1, 1) := by decide +kernel
theorem dX5_lowest_2 : decode cX5_lowest 2 = .ok (.iload_n 0, 1) := by decide +kernel
theorem dX5_lowest_3 : decode cX5_lowest 3 = .ok (.iload_n 1, 1) := by decide +kernel
theorem dX5_lowest_4 : decode cX5_lowest 4 = .ok (.ishr, 1) := by decide +kernel
theorem dX5_lowest_5 : decode cX5_lowest 5 = .ok (.iconst 1, 1) := by decide +kernel
theorem dX5_lowest_6 : decode cX5_lowest 6 = .ok (.iand, 1) := by decide +kernel
theorem dX5_lowest_7 : decode cX5_lowest 7 = .ok (.ifCond .ne 9, 3) := by decide +kernel
theorem dX5_lowest_10 : decode cX5_lowest 10 = .ok (.iinc 1 1, 3) := by decide +kernel
theorem dX5_lowest_13 : decode cX5_lowest 13 = .ok (.goto (-11), 3) := by decide +kernel
theorem dX5_lowest_16 : decode cX5_lowest 16 = .ok (.iload_n 1, 1) := by decide +kernel
theorem dX5_lowest_17 : decode cX5_lowest 17 = .ok (.ireturn, 1) := by decide +kernel
theorem dX5_numberOf_0 : decode cX5_numberOf 0 = .ok (.aload_n 0, 1) := by decide +kernel
theorem dX5_numberOf_1 : decode cX5_numberOf 1 = .ok (.aload_n 0, 1) := by decide +kernel
theorem dX5_numberOf_2 : decode cX5_numberOf 2 = .ok (.iload_n 1, 1) := by decide +kernel
theorem dX5_numberOf_3 : decode cX5_numberOf 3 = .ok (.invokevirtual 98, 3) := by decide +kernel
theorem dX5_numberOf_6 : decode cX5_numberOf 6 = .ok (.invokestatic 101, 3) := by decide +kernel
theorem dX5_numberOf_9 : decode cX5_numberOf 9 = .ok (.invokevirtual 104, 3) := by decide +kernel
theorem dX5_numberOf_12 : decode cX5_numberOf 12 = .ok (.ireturn, 1) := by decide +kernel
theorem dX5_districts_0 : decode cX5_districts 0 = .ok (.aload_n 0, 1) := by decide +kernel
theorem dX5_districts_1 : decode cX5_districts 1 = .ok (.aload_n 0, 1) := by decide +kernel
theorem dX5_districts_2 : decode cX5_districts 2 = .ok (.getfield 7, 3) := by decide +kernel
theorem dX5_districts_5 : decode cX5_districts 5 = .ok (.iconst 0, 1) := by decide +kernel
theorem dX5_districts_6 : decode cX5_districts 6 = .ok (.iaload, 1) := by decide +kernel
theorem dX5_districts_7 : decode cX5_districts 7 = .ok (.invokevirtual 104, 3) := by decide +kernel
theorem dX5_districts_10 : decode cX5_districts 10 = .ok (.ireturn, 1) := by decide +kernel
theorem dX5_squaresOf_0 : decode cX5_squaresOf 0 = .ok (.aload_n 0, 1) := by decide +kernel
theorem dX5_squaresOf_1 : decode cX5_squaresOf 1 = .ok (.invokevirtual 95, 3) := by decide +kernel
theorem dX5_squaresOf_4 : decode cX5_squaresOf 4 = .ok (.istore_n 2, 1) := by decide +kernel
theorem dX5_squaresOf_5 : decode cX5_squaresOf 5 = .ok (.iconst 0, 1) := by decide +kernel
theorem dX5_squaresOf_6 : decode cX5_squaresOf 6 = .ok (.istore_n 3, 1) := by decide +kernel
theorem dX5_squaresOf_7 : decode cX5_squaresOf 7 = .ok (.iconst 0, 1) := by decide +kernel
theorem dX5_squaresOf_8 : decode cX5_squaresOf 8 = .ok (.istore 4, 2) := by decide +kernel
theorem dX5_squaresOf_10 : decode cX5_squaresOf 10 = .ok (.iload 4, 2) := by decide +kernel
theorem dX5_squaresOf_12 : decode cX5_squaresOf 12 = .ok (.aload_n 0, 1) := by decide +kernel
theorem dX5_squaresOf_13 : decode cX5_squaresOf 13 = .ok (.getfield 7, 3) := by decide +kernel
theorem dX5_squaresOf_16 : decode cX5_squaresOf 16 = .ok (.iconst 0, 1) := by decide +kernel
theorem dX5_squaresOf_17 : decode cX5_squaresOf 17 = .ok (.iaload, 1) := by decide +kernel
theorem dX5_squaresOf_18 : decode cX5_squaresOf 18 = .ok (.if_icmp .ge 43, 3) := by decide +kernel
theorem dX5_squaresOf_21 : decode cX5_squaresOf 21 = .ok (.aload_n 0, 1) := by decide +kernel
theorem dX5_squaresOf_22 : decode cX5_squaresOf 22 = .ok (.iload 4, 2) := by decide +kernel
theorem dX5_squaresOf_24 : decode cX5_squaresOf 24 = .ok (.iload_n 2, 1) := by decide +kernel
theorem dX5_squaresOf_25 : decode cX5_squaresOf 25 = .ok (.bipush (-6), 2) := by decide +kernel
theorem dX5_squaresOf_27 : decode cX5_squaresOf 27 = .ok (.invokevirtual 46, 3) := by decide +kernel
theorem dX5_squaresOf_30 : decode cX5_squaresOf 30 = .ok (.istore 5, 2) := by decide +kernel
theorem dX5_squaresOf_32 : decode cX5_squaresOf 32 = .ok (.iload 5, 2) := by decide +kernel
theorem dX5_squaresOf_34 : decode cX5_squaresOf 34 = .ok (.iconst 1, 1) := by decide +kernel
theorem dX5_squaresOf_35 : decode cX5_squaresOf 35 = .ok (.iload 4, 2) := by decide +kernel
theorem dX5_squaresOf_37 : decode cX5_squaresOf 37 = .ok (.ishl, 1) := by decide +kernel
theorem dX5_squaresOf_38 : decode cX5_squaresOf 38 = .ok (.iconst 1, 1) := by decide +kernel
theorem dX5_squaresOf_39 : decode cX5_squaresOf 39 = .ok (.isub, 1) := by decide +kernel
theorem dX5_squaresOf_40 : decode cX5_squaresOf 40 = .ok (.iand, 1) := by decide +kernel
theorem dX5_squaresOf_41 : decode cX5_squaresOf 41 = .ok (.ifCond .ne 14, 3) := by decide +kernel
theorem dX5_squaresOf_44 : decode cX5_squaresOf 44 = .ok (.iload_n 3, 1) := by decide +kernel
theorem dX5_squaresOf_45 : decode cX5_squaresOf 45 = .ok (.iload_n 1, 1) := by decide +kernel
theorem dX5_squaresOf_46 : decode cX5_squaresOf 46 = .ok (.if_icmp .ne 6, 3) := by decide +kernel
theorem dX5_squaresOf_49 : decode cX5_squaresOf 49 = .ok (.iload 5, 2) := by decide +kernel
theorem dX5_squaresOf_51 : decode cX5_squaresOf 51 = .ok (.ireturn, 1) := by decide +kernel
theorem dX5_squaresOf_52 : decode cX5_squaresOf 52 = .ok (.iinc 3 1, 3) := by decide +kernel
theorem dX5_squaresOf_55 : decode cX5_squaresOf 55 = .ok (.iinc 4 1, 3) := by decide +kernel
theorem dX5_squaresOf_58 : decode cX5_squaresOf 58 = .ok (.goto (-48), 3) := by decide +kernel
theorem dX5_squaresOf_61 : decode cX5_squaresOf 61 = .ok (.iconst 0, 1) := by decide +kernel
theorem dX5_squaresOf_62 : decode cX5_squaresOf 62 = .ok (.ireturn, 1) := by decide +kernel
theorem dX5_roadsWithin_0 : decode cX5_roadsWithin 0 = .ok (.iconst 0, 1) := by decide +kernel
theorem dX5_roadsWithin_1 : decode cX5_roadsWithin 1 = .ok (.istore_n 2, 1) := by decide +kernel
theorem dX5_roadsWithin_2 : decode cX5_roadsWithin 2 = .ok (.iconst 0, 1) := by decide +kernel
theorem dX5_roadsWithin_3 : decode cX5_roadsWithin 3 = .ok (.istore_n 3, 1) := by decide +kernel
theorem dX5_roadsWithin_4 : decode cX5_roadsWithin 4 = .ok (.iload_n 3, 1) := by decide +kernel
theorem dX5_roadsWithin_5 : decode cX5_roadsWithin 5 = .ok (.aload_n 0, 1) := by decide +kernel
theorem dX5_roadsWithin_6 : decode cX5_roadsWithin 6 = .ok (.getfield 7, 3) := by decide +kernel
theorem dX5_roadsWithin_9 : decode cX5_roadsWithin 9 = .ok (.iconst 1, 1) := by decide +kernel
theorem dX5_roadsWithin_10 : decode cX5_roadsWithin 10 = .ok (.iaload, 1) := by decide +kernel
theorem dX5_roadsWithin_11 : decode cX5_roadsWithin 11 = .ok (.if_icmp .ge 32, 3) := by decide +kernel
theorem dX5_roadsWithin_14 : decode cX5_roadsWithin 14 = .ok (.iload_n 2, 1) := by decide +kernel
theorem dX5_roadsWithin_15 : decode cX5_roadsWithin 15 = .ok (.aload_n 0, 1) := by decide +kernel
theorem dX5_roadsWithin_16 : decode cX5_roadsWithin 16 = .ok (.iload_n 3, 1) := by decide +kernel
theorem dX5_roadsWithin_17 : decode cX5_roadsWithin 17 = .ok (.invokevirtual 42, 3) := by decide +kernel
theorem dX5_roadsWithin_20 : decode cX5_roadsWithin 20 = .ok (.iload_n 1, 1) := by decide +kernel
theorem dX5_roadsWithin_21 : decode cX5_roadsWithin 21 = .ok (.iand, 1) := by decide +kernel
theorem dX5_roadsWithin_22 : decode cX5_roadsWithin 22 = .ok (.aload_n 0, 1) := by decide +kernel
theorem dX5_roadsWithin_23 : decode cX5_roadsWithin 23 = .ok (.iload_n 3, 1) := by decide +kernel
theorem dX5_roadsWithin_24 : decode cX5_roadsWithin 24 = .ok (.invokevirtual 42, 3) := by decide +kernel
theorem dX5_roadsWithin_27 : decode cX5_roadsWithin 27 = .ok (.if_icmp .ne 7, 3) := by decide +kernel
theorem dX5_roadsWithin_30 : decode cX5_roadsWithin 30 = .ok (.iconst 1, 1) := by decide +kernel
theorem dX5_roadsWithin_31 : decode cX5_roadsWithin 31 = .ok (.goto 4, 3) := by decide +kernel
theorem dX5_roadsWithin_34 : decode cX5_roadsWithin 34 = .ok (.iconst 0, 1) := by decide +kernel
theorem dX5_roadsWithin_35 : decode cX5_roadsWithin 35 = .ok (.iadd, 1) := by decide +kernel
theorem dX5_roadsWithin_36 : decode cX5_roadsWithin 36 = .ok (.istore_n 2, 1) := by decide +kernel
theorem dX5_roadsWithin_37 : decode cX5_roadsWithin 37 = .ok (.iinc 3 1, 3) := by decide +kernel
theorem dX5_roadsWithin_40 : decode cX5_roadsWithin 40 = .ok (.goto (-36), 3) := by decide +kernel
theorem dX5_roadsWithin_43 : decode cX5_roadsWithin 43 = .ok (.iload_n 2, 1) := by decide +kernel
theorem dX5_roadsWithin_44 : decode cX5_roadsWithin 44 = .ok (.ireturn, 1) := by decide +kernel
theorem dX5_lengthWithin_0 : decode cX5_lengthWithin 0 = .ok (.iconst 0, 1) := by decide +kernel
theorem dX5_lengthWithin_1 : decode cX5_lengthWithin 1 = .ok (.istore_n 2, 1) := by decide +kernel
theorem dX5_lengthWithin_2 : decode cX5_lengthWithin 2 = .ok (.iconst 0, 1) := by decide +kernel
theorem dX5_lengthWithin_3 : decode cX5_lengthWithin 3 = .ok (.istore_n 3, 1) := by decide +kernel
theorem dX5_lengthWithin_4 : decode cX5_lengthWithin 4 = .ok (.iload_n 3, 1) := by decide +kernel
theorem dX5_lengthWithin_5 : decode cX5_lengthWithin 5 = .ok (.aload_n 0, 1) := by decide +kernel
theorem dX5_lengthWithin_6 : decode cX5_lengthWithin 6 = .ok (.getfield 7, 3) := by decide +kernel
theorem dX5_lengthWithin_9 : decode cX5_lengthWithin 9 = .ok (.iconst 1, 1) := by decide +kernel
theorem dX5_lengthWithin_10 : decode cX5_lengthWithin 10 = .ok (.iaload, 1) := by decide +kernel
theorem dX5_lengthWithin_11 : decode cX5_lengthWithin 11 = .ok (.if_icmp .ge 40, 3) := by decide +kernel
theorem dX5_lengthWithin_14 : decode cX5_lengthWithin 14 = .ok (.iload_n 2, 1) := by decide +kernel
theorem dX5_lengthWithin_15 : decode cX5_lengthWithin 15 = .ok (.aload_n 0, 1) := by decide +kernel
theorem dX5_lengthWithin_16 : decode cX5_lengthWithin 16 = .ok (.iload_n 3, 1) := by decide +kernel
theorem dX5_lengthWithin_17 : decode cX5_lengthWithin 17 = .ok (.invokevirtual 42, 3) := by decide +kernel
theorem dX5_lengthWithin_20 : decode cX5_lengthWithin 20 = .ok (.iload_n 1, 1) := by decide +kernel
theorem dX5_lengthWithin_21 : decode cX5_lengthWithin 21 = .ok (.iand, 1) := by decide +kernel
theorem dX5_lengthWithin_22 : decode cX5_lengthWithin 22 = .ok (.aload_n 0, 1) := by decide +kernel
theorem dX5_lengthWithin_23 : decode cX5_lengthWithin 23 = .ok (.iload_n 3, 1) := by decide +kernel
theorem dX5_lengthWithin_24 : decode cX5_lengthWithin 24 = .ok (.invokevirtual 42, 3) := by decide +kernel
theorem dX5_lengthWithin_27 : decode cX5_lengthWithin 27 = .ok (.if_icmp .ne 15, 3) := by decide +kernel
theorem dX5_lengthWithin_30 : decode cX5_lengthWithin 30 = .ok (.aload_n 0, 1) := by decide +kernel
theorem dX5_lengthWithin_31 : decode cX5_lengthWithin 31 = .ok (.getfield 7, 3) := by decide +kernel
theorem dX5_lengthWithin_34 : decode cX5_lengthWithin 34 = .ok (.bipush 62, 2) := by decide +kernel
theorem dX5_lengthWithin_36 : decode cX5_lengthWithin 36 = .ok (.iload_n 3, 1) := by decide +kernel
theorem dX5_lengthWithin_37 : decode cX5_lengthWithin 37 = .ok (.iadd, 1) := by decide +kernel
theorem dX5_lengthWithin_38 : decode cX5_lengthWithin 38 = .ok (.iaload, 1) := by decide +kernel
theorem dX5_lengthWithin_39 : decode cX5_lengthWithin 39 = .ok (.goto 4, 3) := by decide +kernel
theorem dX5_lengthWithin_42 : decode cX5_lengthWithin 42 = .ok (.iconst 0, 1) := by decide +kernel
theorem dX5_lengthWithin_43 : decode cX5_lengthWithin 43 = .ok (.iadd, 1) := by decide +kernel
theorem dX5_lengthWithin_44 : decode cX5_lengthWithin 44 = .ok (.istore_n 2, 1) := by decide +kernel
theorem dX5_lengthWithin_45 : decode cX5_lengthWithin 45 = .ok (.iinc 3 1, 3) := by decide +kernel
theorem dX5_lengthWithin_48 : decode cX5_lengthWithin 48 = .ok (.goto (-44), 3) := by decide +kernel
theorem dX5_lengthWithin_51 : decode cX5_lengthWithin 51 = .ok (.iload_n 2, 1) := by decide +kernel
theorem dX5_lengthWithin_52 : decode cX5_lengthWithin 52 = .ok (.ireturn, 1) := by decide +kernel
theorem dX5_roadsOut_0 : decode cX5_roadsOut 0 = .ok (.iconst 0, 1) := by decide +kernel
theorem dX5_roadsOut_1 : decode cX5_roadsOut 1 = .ok (.istore_n 2, 1) := by decide +kernel
theorem dX5_roadsOut_2 : decode cX5_roadsOut 2 = .ok (.iconst 0, 1) := by decide +kernel
theorem dX5_roadsOut_3 : decode cX5_roadsOut 3 = .ok (.istore_n 3, 1) := by decide +kernel
theorem dX5_roadsOut_4 : decode cX5_roadsOut 4 = .ok (.iload_n 3, 1) := by decide +kernel
theorem dX5_roadsOut_5 : decode cX5_roadsOut 5 = .ok (.aload_n 0, 1) := by decide +kernel
theorem dX5_roadsOut_6 : decode cX5_roadsOut 6 = .ok (.getfield 7, 3) := by decide +kernel
theorem dX5_roadsOut_9 : decode cX5_roadsOut 9 = .ok (.iconst 1, 1) := by decide +kernel
theorem dX5_roadsOut_10 : decode cX5_roadsOut 10 = .ok (.iaload, 1) := by decide +kernel
theorem dX5_roadsOut_11 : decode cX5_roadsOut 11 = .ok (.if_icmp .ge 41, 3) := by decide +kernel
theorem dX5_roadsOut_14 : decode cX5_roadsOut 14 = .ok (.aload_n 0, 1) := by decide +kernel
theorem dX5_roadsOut_15 : decode cX5_roadsOut 15 = .ok (.iload_n 3, 1) := by decide +kernel
theorem dX5_roadsOut_16 : decode cX5_roadsOut 16 = .ok (.invokevirtual 42, 3) := by decide +kernel
theorem dX5_roadsOut_19 : decode cX5_roadsOut 19 = .ok (.iload_n 1, 1) := by decide +kernel
theorem dX5_roadsOut_20 : decode cX5_roadsOut 20 = .ok (.iand, 1) := by decide +kernel
theorem dX5_roadsOut_21 : decode cX5_roadsOut 21 = .ok (.istore 4, 2) := by decide +kernel
theorem dX5_roadsOut_23 : decode cX5_roadsOut 23 = .ok (.iload_n 2, 1) := by decide +kernel
theorem dX5_roadsOut_24 : decode cX5_roadsOut 24 = .ok (.iload 4, 2) := by decide +kernel
theorem dX5_roadsOut_26 : decode cX5_roadsOut 26 = .ok (.ifCond .eq 17, 3) := by decide +kernel
theorem dX5_roadsOut_29 : decode cX5_roadsOut 29 = .ok (.iload 4, 2) := by decide +kernel
theorem dX5_roadsOut_31 : decode cX5_roadsOut 31 = .ok (.aload_n 0, 1) := by decide +kernel
theorem dX5_roadsOut_32 : decode cX5_roadsOut 32 = .ok (.iload_n 3, 1) := by decide +kernel
theorem dX5_roadsOut_33 : decode cX5_roadsOut 33 = .ok (.invokevirtual 42, 3) := by decide +kernel
theorem dX5_roadsOut_36 : decode cX5_roadsOut 36 = .ok (.if_icmp .eq 7, 3) := by decide +kernel
theorem dX5_roadsOut_39 : decode cX5_roadsOut 39 = .ok (.iconst 1, 1) := by decide +kernel
theorem dX5_roadsOut_40 : decode cX5_roadsOut 40 = .ok (.goto 4, 3) := by decide +kernel
theorem dX5_roadsOut_43 : decode cX5_roadsOut 43 = .ok (.iconst 0, 1) := by decide +kernel
theorem dX5_roadsOut_44 : decode cX5_roadsOut 44 = .ok (.iadd, 1) := by decide +kernel
theorem dX5_roadsOut_45 : decode cX5_roadsOut 45 = .ok (.istore_n 2, 1) := by decide +kernel
theorem dX5_roadsOut_46 : decode cX5_roadsOut 46 = .ok (.iinc 3 1, 3) := by decide +kernel
theorem dX5_roadsOut_49 : decode cX5_roadsOut 49 = .ok (.goto (-45), 3) := by decide +kernel
theorem dX5_roadsOut_52 : decode cX5_roadsOut 52 = .ok (.iload_n 2, 1) := by decide +kernel
theorem dX5_roadsOut_53 : decode cX5_roadsOut 53 = .ok (.ireturn, 1) := by decide +kernel
theorem dX5_longestDistrict_0 : decode cX5_longestDistrict 0 = .ok (.iconst 0, 1) := by decide +kernel
theorem dX5_longestDistrict_1 : decode cX5_longestDistrict 1 = .ok (.istore_n 1, 1) := by decide +kernel
theorem dX5_longestDistrict_2 : decode cX5_longestDistrict 2 = .ok (.iconst (-1), 1) := by decide +kernel
theorem dX5_longestDistrict_3 : decode cX5_longestDistrict 3 = .ok (.istore_n 2, 1) := by decide +kernel
theorem dX5_longestDistrict_4 : decode cX5_longestDistrict 4 = .ok (.aload_n 0, 1) := by decide +kernel
theorem dX5_longestDistrict_5 : decode cX5_longestDistrict 5 = .ok (.invokevirtual 107, 3) := by decide +kernel
theorem dX5_longestDistrict_8 : decode cX5_longestDistrict 8 = .ok (.istore_n 3, 1) := by decide +kernel
theorem dX5_longestDistrict_9 : decode cX5_longestDistrict 9 = .ok (.iconst 0, 1) := by decide +kernel
theorem dX5_longestDistrict_10 : decode cX5_longestDistrict 10 = .ok (.istore 4, 2) := by decide +kernel
theorem dX5_longestDistrict_12 : decode cX5_longestDistrict 12 = .ok (.iload 4, 2) := by decide +kernel
theorem dX5_longestDistrict_14 : decode cX5_longestDistrict 14 = .ok (.iload_n 3, 1) := by decide +kernel
theorem dX5_longestDistrict_15 : decode cX5_longestDistrict 15 = .ok (.if_icmp .ge 47, 3) := by decide +kernel
theorem dX5_longestDistrict_18 : decode cX5_longestDistrict 18 = .ok (.aload_n 0, 1) := by decide +kernel
theorem dX5_longestDistrict_19 : decode cX5_longestDistrict 19 = .ok (.aload_n 0, 1) := by decide +kernel
theorem dX5_longestDistrict_20 : decode cX5_longestDistrict 20 = .ok (.iload 4, 2) := by decide +kernel
theorem dX5_longestDistrict_22 : decode cX5_longestDistrict 22 = .ok (.invokevirtual 110, 3) := by decide +kernel
theorem dX5_longestDistrict_25 : decode cX5_longestDistrict 25 = .ok (.invokevirtual 113, 3) := by decide +kernel
theorem dX5_longestDistrict_28 : decode cX5_longestDistrict 28 = .ok (.istore 5, 2) := by decide +kernel
theorem dX5_longestDistrict_30 : decode cX5_longestDistrict 30 = .ok (.iload 5, 2) := by decide +kernel
theorem dX5_longestDistrict_32 : decode cX5_longestDistrict 32 = .ok (.iload_n 2, 1) := by decide +kernel
theorem dX5_longestDistrict_33 : decode cX5_longestDistrict 33 = .ok (.if_icmp .le 8, 3) := by decide +kernel
theorem dX5_longestDistrict_36 : decode cX5_longestDistrict 36 = .ok (.iload 4, 2) := by decide +kernel
theorem dX5_longestDistrict_38 : decode cX5_longestDistrict 38 = .ok (.goto 4, 3) := by decide +kernel
theorem dX5_longestDistrict_41 : decode cX5_longestDistrict 41 = .ok (.iload_n 1, 1) := by decide +kernel
theorem dX5_longestDistrict_42 : decode cX5_longestDistrict 42 = .ok (.istore_n 1, 1) := by decide +kernel
theorem dX5_longestDistrict_43 : decode cX5_longestDistrict 43 = .ok (.iload 5, 2) := by decide +kernel
theorem dX5_longestDistrict_45 : decode cX5_longestDistrict 45 = .ok (.iload_n 2, 1) := by decide +kernel
theorem dX5_longestDistrict_46 : decode cX5_longestDistrict 46 = .ok (.if_icmp .le 8, 3) := by decide +kernel
theorem dX5_longestDistrict_49 : decode cX5_longestDistrict 49 = .ok (.iload 5, 2) := by decide +kernel
theorem dX5_longestDistrict_51 : decode cX5_longestDistrict 51 = .ok (.goto 4, 3) := by decide +kernel
theorem dX5_longestDistrict_54 : decode cX5_longestDistrict 54 = .ok (.iload_n 2, 1) := by decide +kernel
theorem dX5_longestDistrict_55 : decode cX5_longestDistrict 55 = .ok (.istore_n 2, 1) := by decide +kernel
theorem dX5_longestDistrict_56 : decode cX5_longestDistrict 56 = .ok (.iinc 4 1, 3) := by decide +kernel
theorem dX5_longestDistrict_59 : decode cX5_longestDistrict 59 = .ok (.goto (-47), 3) := by decide +kernel
theorem dX5_longestDistrict_62 : decode cX5_longestDistrict 62 = .ok (.iload_n 1, 1) := by decide +kernel
theorem dX5_longestDistrict_63 : decode cX5_longestDistrict 63 = .ok (.ireturn, 1) := by decide +kernel
theorem dX5_road_0 : decode cX5_road 0 = .ok (.aload_n 0, 1) := by decide +kernel
theorem dX5_road_1 : decode cX5_road 1 = .ok (.iload_n 1, 1) := by decide +kernel
theorem dX5_road_2 : decode cX5_road 2 = .ok (.invokevirtual 87, 3) := by decide +kernel
theorem dX5_road_5 : decode cX5_road 5 = .ok (.ifCond .ne 5, 3) := by decide +kernel
theorem dX5_road_8 : decode cX5_road 8 = .ok (.iconst (-1), 1) := by decide +kernel
theorem dX5_road_9 : decode cX5_road 9 = .ok (.ireturn, 1) := by decide +kernel
theorem dX5_road_10 : decode cX5_road 10 = .ok (.iload_n 2, 1) := by decide +kernel
theorem dX5_road_11 : decode cX5_road 11 = .ok (.tableswitch 92 0 5 #[37, 46, 56, 66, 80, 86], 37) := by decide +kernel
theorem dX5_road_48 : decode cX5_road 48 = .ok (.aload_n 0, 1) := by decide +kernel
theorem dX5_road_49 : decode cX5_road 49 = .ok (.getfield 7, 3) := by decide +kernel
theorem dX5_road_52 : decode cX5_road 52 = .ok (.iconst 2, 1) := by decide +kernel
theorem dX5_road_53 : decode cX5_road 53 = .ok (.iload_n 1, 1) := by decide +kernel
theorem dX5_road_54 : decode cX5_road 54 = .ok (.iadd, 1) := by decide +kernel
theorem dX5_road_55 : decode cX5_road 55 = .ok (.iaload, 1) := by decide +kernel
theorem dX5_road_56 : decode cX5_road 56 = .ok (.ireturn, 1) := by decide +kernel
theorem dX5_road_57 : decode cX5_road 57 = .ok (.aload_n 0, 1) := by decide +kernel
theorem dX5_road_58 : decode cX5_road 58 = .ok (.getfield 7, 3) := by decide +kernel
theorem dX5_road_61 : decode cX5_road 61 = .ok (.bipush 32, 2) := by decide +kernel
theorem dX5_road_63 : decode cX5_road 63 = .ok (.iload_n 1, 1) := by decide +kernel
theorem dX5_road_64 : decode cX5_road 64 = .ok (.iadd, 1) := by decide +kernel
theorem dX5_road_65 : decode cX5_road 65 = .ok (.iaload, 1) := by decide +kernel
theorem dX5_road_66 : decode cX5_road 66 = .ok (.ireturn, 1) := by decide +kernel
theorem dX5_road_67 : decode cX5_road 67 = .ok (.aload_n 0, 1) := by decide +kernel
theorem dX5_road_68 : decode cX5_road 68 = .ok (.getfield 7, 3) := by decide +kernel
theorem dX5_road_71 : decode cX5_road 71 = .ok (.bipush 62, 2) := by decide +kernel
theorem dX5_road_73 : decode cX5_road 73 = .ok (.iload_n 1, 1) := by decide +kernel
theorem dX5_road_74 : decode cX5_road 74 = .ok (.iadd, 1) := by decide +kernel
theorem dX5_road_75 : decode cX5_road 75 = .ok (.iaload, 1) := by decide +kernel
theorem dX5_road_76 : decode cX5_road 76 = .ok (.ireturn, 1) := by decide +kernel
theorem dX5_road_77 : decode cX5_road 77 = .ok (.aload_n 0, 1) := by decide +kernel
theorem dX5_road_78 : decode cX5_road 78 = .ok (.iload_n 1, 1) := by decide +kernel
theorem dX5_road_79 : decode cX5_road 79 = .ok (.invokevirtual 54, 3) := by decide +kernel
theorem dX5_road_82 : decode cX5_road 82 = .ok (.ifCond .eq 7, 3) := by decide +kernel
theorem dX5_road_85 : decode cX5_road 85 = .ok (.iconst 1, 1) := by decide +kernel
theorem dX5_road_86 : decode cX5_road 86 = .ok (.goto 4, 3) := by decide +kernel
theorem dX5_road_89 : decode cX5_road 89 = .ok (.iconst 0, 1) := by decide +kernel
theorem dX5_road_90 : decode cX5_road 90 = .ok (.ireturn, 1) := by decide +kernel
theorem dX5_road_91 : decode cX5_road 91 = .ok (.aload_n 0, 1) := by decide +kernel
theorem dX5_road_92 : decode cX5_road 92 = .ok (.iload_n 1, 1) := by decide +kernel
theorem dX5_road_93 : decode cX5_road 93 = .ok (.invokevirtual 116, 3) := by decide +kernel
theorem dX5_road_96 : decode cX5_road 96 = .ok (.ireturn, 1) := by decide +kernel
theorem dX5_road_97 : decode cX5_road 97 = .ok (.aload_n 0, 1) := by decide +kernel
theorem dX5_road_98 : decode cX5_road 98 = .ok (.iload_n 1, 1) := by decide +kernel
theorem dX5_road_99 : decode cX5_road 99 = .ok (.invokevirtual 119, 3) := by decide +kernel
theorem dX5_road_102 : decode cX5_road 102 = .ok (.ireturn, 1) := by decide +kernel
theorem dX5_road_103 : decode cX5_road 103 = .ok (.bipush (-2), 2) := by decide +kernel
theorem dX5_road_105 : decode cX5_road 105 = .ok (.ireturn, 1) := by decide +kernel
theorem dX5_square_0 : decode cX5_square 0 = .ok (.aload_n 0, 1) := by decide +kernel
theorem dX5_square_1 : decode cX5_square 1 = .ok (.iload_n 1, 1) := by decide +kernel
theorem dX5_square_2 : decode cX5_square 2 = .ok (.invokevirtual 78, 3) := by decide +kernel
theorem dX5_square_5 : decode cX5_square 5 = .ok (.ifCond .ne 5, 3) := by decide +kernel
theorem dX5_square_8 : decode cX5_square 8 = .ok (.iconst (-1), 1) := by decide +kernel
theorem dX5_square_9 : decode cX5_square 9 = .ok (.ireturn, 1) := by decide +kernel
theorem dX5_square_10 : decode cX5_square 10 = .ok (.iload_n 2, 1) := by decide +kernel
theorem dX5_square_11 : decode cX5_square 11 = .ok (.tableswitch 73 0 4 #[33, 41, 55, 61, 67], 33) := by decide +kernel
theorem dX5_square_44 : decode cX5_square 44 = .ok (.aload_n 0, 1) := by decide +kernel
theorem dX5_square_45 : decode cX5_square 45 = .ok (.iconst 1, 1) := by decide +kernel
theorem dX5_square_46 : decode cX5_square 46 = .ok (.iload_n 1, 1) := by decide +kernel
theorem dX5_square_47 : decode cX5_square 47 = .ok (.ishl, 1) := by decide +kernel
theorem dX5_square_48 : decode cX5_square 48 = .ok (.invokevirtual 122, 3) := by decide +kernel
theorem dX5_square_51 : decode cX5_square 51 = .ok (.ireturn, 1) := by decide +kernel
theorem dX5_square_52 : decode cX5_square 52 = .ok (.aload_n 0, 1) := by decide +kernel
theorem dX5_square_53 : decode cX5_square 53 = .ok (.iload_n 1, 1) := by decide +kernel
theorem dX5_square_54 : decode cX5_square 54 = .ok (.invokevirtual 125, 3) := by decide +kernel
theorem dX5_square_57 : decode cX5_square 57 = .ok (.ifCond .le 7, 3) := by decide +kernel
theorem dX5_square_60 : decode cX5_square 60 = .ok (.iconst 1, 1) := by decide +kernel
theorem dX5_square_61 : decode cX5_square 61 = .ok (.goto 4, 3) := by decide +kernel
theorem dX5_square_64 : decode cX5_square 64 = .ok (.iconst 0, 1) := by decide +kernel
theorem dX5_square_65 : decode cX5_square 65 = .ok (.ireturn, 1) := by decide +kernel
theorem dX5_square_66 : decode cX5_square 66 = .ok (.aload_n 0, 1) := by decide +kernel
theorem dX5_square_67 : decode cX5_square 67 = .ok (.iload_n 1, 1) := by decide +kernel
theorem dX5_square_68 : decode cX5_square 68 = .ok (.invokevirtual 128, 3) := by decide +kernel
theorem dX5_square_71 : decode cX5_square 71 = .ok (.ireturn, 1) := by decide +kernel
theorem dX5_square_72 : decode cX5_square 72 = .ok (.aload_n 0, 1) := by decide +kernel
theorem dX5_square_73 : decode cX5_square 73 = .ok (.iload_n 1, 1) := by decide +kernel
theorem dX5_square_74 : decode cX5_square 74 = .ok (.invokevirtual 65, 3) := by decide +kernel
theorem dX5_square_77 : decode cX5_square 77 = .ok (.ireturn, 1) := by decide +kernel
theorem dX5_square_78 : decode cX5_square 78 = .ok (.aload_n 0, 1) := by decide +kernel
theorem dX5_square_79 : decode cX5_square 79 = .ok (.iload_n 1, 1) := by decide +kernel
theorem dX5_square_80 : decode cX5_square 80 = .ok (.invokevirtual 125, 3) := by decide +kernel
theorem dX5_square_83 : decode cX5_square 83 = .ok (.ireturn, 1) := by decide +kernel
theorem dX5_square_84 : decode cX5_square 84 = .ok (.bipush (-2), 2) := by decide +kernel
theorem dX5_square_86 : decode cX5_square 86 = .ok (.ireturn, 1) := by decide +kernel
theorem dX5_district_0 : decode cX5_district 0 = .ok (.iload_n 1, 1) := by decide +kernel
theorem dX5_district_1 : decode cX5_district 1 = .ok (.i2l, 1) := by decide +kernel
theorem dX5_district_2 : decode cX5_district 2 = .ok (.lconst 0, 1) := by decide +kernel
theorem dX5_district_3 : decode cX5_district 3 = .ok (.aload_n 0, 1) := by decide +kernel
theorem dX5_district_4 : decode cX5_district 4 = .ok (.invokevirtual 107, 3) := by decide +kernel
theorem dX5_district_7 : decode cX5_district 7 = .ok (.i2l, 1) := by decide +kernel
theorem dX5_district_8 : decode cX5_district 8 = .ok (.lconst 1, 1) := by decide +kernel
theorem dX5_district_9 : decode cX5_district 9 = .ok (.lsub, 1) := by decide +kernel
theorem dX5_district_10 : decode cX5_district 10 = .ok (.invokestatic 38, 3) := by decide +kernel
theorem dX5_district_13 : decode cX5_district 13 = .ok (.ifCond .ne 5, 3) := by decide +kernel
theorem dX5_district_16 : decode cX5_district 16 = .ok (.iconst (-1), 1) := by decide +kernel
theorem dX5_district_17 : decode cX5_district 17 = .ok (.ireturn, 1) := by decide +kernel
theorem dX5_district_18 : decode cX5_district 18 = .ok (.aload_n 0, 1) := by decide +kernel
theorem dX5_district_19 : decode cX5_district 19 = .ok (.iload_n 1, 1) := by decide +kernel
theorem dX5_district_20 : decode cX5_district 20 = .ok (.invokevirtual 110, 3) := by decide +kernel
theorem dX5_district_23 : decode cX5_district 23 = .ok (.istore_n 3, 1) := by decide +kernel
theorem dX5_district_24 : decode cX5_district 24 = .ok (.iload_n 2, 1) := by decide +kernel
theorem dX5_district_25 : decode cX5_district 25 = .ok (.tableswitch 58 0 3 #[31, 33, 39, 45], 31) := by decide +kernel
theorem dX5_district_56 : decode cX5_district 56 = .ok (.iload_n 3, 1) := by decide +kernel
theorem dX5_district_57 : decode cX5_district 57 = .ok (.ireturn, 1) := by decide +kernel
theorem dX5_district_58 : decode cX5_district 58 = .ok (.aload_n 0, 1) := by decide +kernel
theorem dX5_district_59 : decode cX5_district 59 = .ok (.iload_n 3, 1) := by decide +kernel
theorem dX5_district_60 : decode cX5_district 60 = .ok (.invokevirtual 113, 3) := by decide +kernel
theorem dX5_district_63 : decode cX5_district 63 = .ok (.ireturn, 1) := by decide +kernel
theorem dX5_district_64 : decode cX5_district 64 = .ok (.aload_n 0, 1) := by decide +kernel
theorem dX5_district_65 : decode cX5_district 65 = .ok (.iload_n 3, 1) := by decide +kernel
theorem dX5_district_66 : decode cX5_district 66 = .ok (.invokevirtual 122, 3) := by decide +kernel
theorem dX5_district_69 : decode cX5_district 69 = .ok (.ireturn, 1) := by decide +kernel
theorem dX5_district_70 : decode cX5_district 70 = .ok (.aload_n 0, 1) := by decide +kernel
theorem dX5_district_71 : decode cX5_district 71 = .ok (.iload_n 3, 1) := by decide +kernel
theorem dX5_district_72 : decode cX5_district 72 = .ok (.invokevirtual 131, 3) := by decide +kernel
theorem dX5_district_75 : decode cX5_district 75 = .ok (.iload_n 3, 1) := by decide +kernel
theorem dX5_district_76 : decode cX5_district 76 = .ok (.invokestatic 58, 3) := by decide +kernel
theorem dX5_district_79 : decode cX5_district 79 = .ok (.isub, 1) := by decide +kernel
theorem dX5_district_80 : decode cX5_district 80 = .ok (.iconst 1, 1) := by decide +kernel
theorem dX5_district_81 : decode cX5_district 81 = .ok (.iadd, 1) := by decide +kernel
theorem dX5_district_82 : decode cX5_district 82 = .ok (.ireturn, 1) := by decide +kernel
theorem dX5_district_83 : decode cX5_district 83 = .ok (.bipush (-2), 2) := by decide +kernel
theorem dX5_district_85 : decode cX5_district 85 = .ok (.ireturn, 1) := by decide +kernel
theorem dX5_squaresThatPart_0 : decode cX5_squaresThatPart 0 = .ok (.iconst 0, 1) := by decide +kernel
theorem dX5_squaresThatPart_1 : decode cX5_squaresThatPart 1 = .ok (.istore_n 1, 1) := by decide +kernel
theorem dX5_squaresThatPart_2 : decode cX5_squaresThatPart 2 = .ok (.iconst 0, 1) := by decide +kernel
theorem dX5_squaresThatPart_3 : decode cX5_squaresThatPart 3 = .ok (.istore_n 2, 1) := by decide +kernel
theorem dX5_squaresThatPart_4 : decode cX5_squaresThatPart 4 = .ok (.iload_n 2, 1) := by decide +kernel
theorem dX5_squaresThatPart_5 : decode cX5_squaresThatPart 5 = .ok (.aload_n 0, 1) := by decide +kernel
theorem dX5_squaresThatPart_6 : decode cX5_squaresThatPart 6 = .ok (.getfield 7, 3) := by decide +kernel
theorem dX5_squaresThatPart_9 : decode cX5_squaresThatPart 9 = .ok (.iconst 0, 1) := by decide +kernel
theorem dX5_squaresThatPart_10 : decode cX5_squaresThatPart 10 = .ok (.iaload, 1) := by decide +kernel
theorem dX5_squaresThatPart_11 : decode cX5_squaresThatPart 11 = .ok (.if_icmp .ge 25, 3) := by decide +kernel
theorem dX5_squaresThatPart_14 : decode cX5_squaresThatPart 14 = .ok (.iload_n 1, 1) := by decide +kernel
theorem dX5_squaresThatPart_15 : decode cX5_squaresThatPart 15 = .ok (.aload_n 0, 1) := by decide +kernel
theorem dX5_squaresThatPart_16 : decode cX5_squaresThatPart 16 = .ok (.iload_n 2, 1) := by decide +kernel
theorem dX5_squaresThatPart_17 : decode cX5_squaresThatPart 17 = .ok (.invokevirtual 125, 3) := by decide +kernel
theorem dX5_squaresThatPart_20 : decode cX5_squaresThatPart 20 = .ok (.ifCond .le 7, 3) := by decide +kernel
theorem dX5_squaresThatPart_23 : decode cX5_squaresThatPart 23 = .ok (.iconst 1, 1) := by decide +kernel
theorem dX5_squaresThatPart_24 : decode cX5_squaresThatPart 24 = .ok (.goto 4, 3) := by decide +kernel
theorem dX5_squaresThatPart_27 : decode cX5_squaresThatPart 27 = .ok (.iconst 0, 1) := by decide +kernel
theorem dX5_squaresThatPart_28 : decode cX5_squaresThatPart 28 = .ok (.iadd, 1) := by decide +kernel
theorem dX5_squaresThatPart_29 : decode cX5_squaresThatPart 29 = .ok (.istore_n 1, 1) := by decide +kernel
theorem dX5_squaresThatPart_30 : decode cX5_squaresThatPart 30 = .ok (.iinc 2 1, 3) := by decide +kernel
theorem dX5_squaresThatPart_33 : decode cX5_squaresThatPart 33 = .ok (.goto (-29), 3) := by decide +kernel
theorem dX5_squaresThatPart_36 : decode cX5_squaresThatPart 36 = .ok (.iload_n 1, 1) := by decide +kernel
theorem dX5_squaresThatPart_37 : decode cX5_squaresThatPart 37 = .ok (.ireturn, 1) := by decide +kernel
theorem dX5_count_0 : decode cX5_count 0 = .ok (.iload_n 1, 1) := by decide +kernel
theorem dX5_count_1 : decode cX5_count 1 = .ok (.tableswitch 114 0 9 #[55, 62, 69, 74, 82, 87, 92, 97, 104, 109], 55) := by decide +kernel
theorem dX5_count_56 : decode cX5_count 56 = .ok (.aload_n 0, 1) := by decide +kernel
theorem dX5_count_57 : decode cX5_count 57 = .ok (.getfield 7, 3) := by decide +kernel
theorem dX5_count_60 : decode cX5_count 60 = .ok (.iconst 0, 1) := by decide +kernel
theorem dX5_count_61 : decode cX5_count 61 = .ok (.iaload, 1) := by decide +kernel
theorem dX5_count_62 : decode cX5_count 62 = .ok (.ireturn, 1) := by decide +kernel
theorem dX5_count_63 : decode cX5_count 63 = .ok (.aload_n 0, 1) := by decide +kernel
theorem dX5_count_64 : decode cX5_count 64 = .ok (.getfield 7, 3) := by decide +kernel
theorem dX5_count_67 : decode cX5_count 67 = .ok (.iconst 1, 1) := by decide +kernel
theorem dX5_count_68 : decode cX5_count 68 = .ok (.iaload, 1) := by decide +kernel
theorem dX5_count_69 : decode cX5_count 69 = .ok (.ireturn, 1) := by decide +kernel
theorem dX5_count_70 : decode cX5_count 70 = .ok (.aload_n 0, 1) := by decide +kernel
theorem dX5_count_71 : decode cX5_count 71 = .ok (.invokevirtual 61, 3) := by decide +kernel
theorem dX5_count_74 : decode cX5_count 74 = .ok (.ireturn, 1) := by decide +kernel
theorem dX5_count_75 : decode cX5_count 75 = .ok (.aload_n 0, 1) := by decide +kernel
theorem dX5_count_76 : decode cX5_count 76 = .ok (.invokevirtual 95, 3) := by decide +kernel
theorem dX5_count_79 : decode cX5_count 79 = .ok (.invokestatic 58, 3) := by decide +kernel
theorem dX5_count_82 : decode cX5_count 82 = .ok (.ireturn, 1) := by decide +kernel
theorem dX5_count_83 : decode cX5_count 83 = .ok (.aload_n 0, 1) := by decide +kernel
theorem dX5_count_84 : decode cX5_count 84 = .ok (.invokevirtual 134, 3) := by decide +kernel
theorem dX5_count_87 : decode cX5_count 87 = .ok (.ireturn, 1) := by decide +kernel
theorem dX5_count_88 : decode cX5_count 88 = .ok (.aload_n 0, 1) := by decide +kernel
theorem dX5_count_89 : decode cX5_count 89 = .ok (.invokevirtual 107, 3) := by decide +kernel
theorem dX5_count_92 : decode cX5_count 92 = .ok (.ireturn, 1) := by decide +kernel
theorem dX5_count_93 : decode cX5_count 93 = .ok (.aload_n 0, 1) := by decide +kernel
theorem dX5_count_94 : decode cX5_count 94 = .ok (.invokevirtual 137, 3) := by decide +kernel
theorem dX5_count_97 : decode cX5_count 97 = .ok (.ireturn, 1) := by decide +kernel
theorem dX5_count_98 : decode cX5_count 98 = .ok (.aload_n 0, 1) := by decide +kernel
theorem dX5_count_99 : decode cX5_count 99 = .ok (.ldc 140, 2) := by decide +kernel
theorem dX5_count_101 : decode cX5_count 101 = .ok (.invokevirtual 113, 3) := by decide +kernel
theorem dX5_count_104 : decode cX5_count 104 = .ok (.ireturn, 1) := by decide +kernel
theorem dX5_count_105 : decode cX5_count 105 = .ok (.aload_n 0, 1) := by decide +kernel
theorem dX5_count_106 : decode cX5_count 106 = .ok (.getfield 141, 3) := by decide +kernel
theorem dX5_count_109 : decode cX5_count 109 = .ok (.ireturn, 1) := by decide +kernel
theorem dX5_count_110 : decode cX5_count 110 = .ok (.aload_n 0, 1) := by decide +kernel
theorem dX5_count_111 : decode cX5_count 111 = .ok (.getfield 34, 3) := by decide +kernel
theorem dX5_count_114 : decode cX5_count 114 = .ok (.ireturn, 1) := by decide +kernel
theorem dX5_count_115 : decode cX5_count 115 = .ok (.bipush (-2), 2) := by decide +kernel
theorem dX5_count_117 : decode cX5_count 117 = .ok (.ireturn, 1) := by decide +kernel
theorem dX5_hang_0 : decode cX5_hang 0 = .ok (.aload_n 0, 1) := by decide +kernel
theorem dX5_hang_1 : decode cX5_hang 1 = .ok (.iload_n 1, 1) := by decide +kernel
theorem dX5_hang_2 : decode cX5_hang 2 = .ok (.invokevirtual 65, 3) := by decide +kernel
theorem dX5_hang_5 : decode cX5_hang 5 = .ok (.iload_n 2, 1) := by decide +kernel
theorem dX5_hang_6 : decode cX5_hang 6 = .ok (.ishr, 1) := by decide +kernel
theorem dX5_hang_7 : decode cX5_hang 7 = .ok (.iconst 1, 1) := by decide +kernel
theorem dX5_hang_8 : decode cX5_hang 8 = .ok (.iand, 1) := by decide +kernel
theorem dX5_hang_9 : decode cX5_hang 9 = .ok (.iconst 1, 1) := by decide +kernel
theorem dX5_hang_10 : decode cX5_hang 10 = .ok (.if_icmp .ne 7, 3) := by decide +kernel
theorem dX5_hang_13 : decode cX5_hang 13 = .ok (.iconst 1, 1) := by decide +kernel
theorem dX5_hang_14 : decode cX5_hang 14 = .ok (.goto 4, 3) := by decide +kernel
theorem dX5_hang_17 : decode cX5_hang 17 = .ok (.iconst 0, 1) := by decide +kernel
theorem dX5_hang_18 : decode cX5_hang 18 = .ok (.ireturn, 1) := by decide +kernel
theorem dX5_musts_0 : decode cX5_musts 0 = .ok (.iconst 0, 1) := by decide +kernel
theorem dX5_musts_1 : decode cX5_musts 1 = .ok (.istore_n 3, 1) := by decide +kernel
theorem dX5_musts_2 : decode cX5_musts 2 = .ok (.iconst 0, 1) := by decide +kernel
theorem dX5_musts_3 : decode cX5_musts 3 = .ok (.istore 4, 2) := by decide +kernel
theorem dX5_musts_5 : decode cX5_musts 5 = .ok (.iload 4, 2) := by decide +kernel
theorem dX5_musts_7 : decode cX5_musts 7 = .ok (.aload_n 0, 1) := by decide +kernel
theorem dX5_musts_8 : decode cX5_musts 8 = .ok (.getfield 7, 3) := by decide +kernel
theorem dX5_musts_11 : decode cX5_musts 11 = .ok (.iconst 1, 1) := by decide +kernel
theorem dX5_musts_12 : decode cX5_musts 12 = .ok (.iaload, 1) := by decide +kernel
theorem dX5_musts_13 : decode cX5_musts 13 = .ok (.if_icmp .ge 38, 3) := by decide +kernel
theorem dX5_musts_16 : decode cX5_musts 16 = .ok (.iload_n 3, 1) := by decide +kernel
theorem dX5_musts_17 : decode cX5_musts 17 = .ok (.aload_n 0, 1) := by decide +kernel
theorem dX5_musts_18 : decode cX5_musts 18 = .ok (.iload_n 1, 1) := by decide +kernel
theorem dX5_musts_19 : decode cX5_musts 19 = .ok (.iconst 1, 1) := by decide +kernel
theorem dX5_musts_20 : decode cX5_musts 20 = .ok (.iload 4, 2) := by decide +kernel
theorem dX5_musts_22 : decode cX5_musts 22 = .ok (.ishl, 1) := by decide +kernel
theorem dX5_musts_23 : decode cX5_musts 23 = .ok (.bipush (-6), 2) := by decide +kernel
theorem dX5_musts_25 : decode cX5_musts 25 = .ok (.invokevirtual 46, 3) := by decide +kernel
theorem dX5_musts_28 : decode cX5_musts 28 = .ok (.iload_n 2, 1) := by decide +kernel
theorem dX5_musts_29 : decode cX5_musts 29 = .ok (.ishr, 1) := by decide +kernel
theorem dX5_musts_30 : decode cX5_musts 30 = .ok (.iconst 1, 1) := by decide +kernel
theorem dX5_musts_31 : decode cX5_musts 31 = .ok (.iand, 1) := by decide +kernel
theorem dX5_musts_32 : decode cX5_musts 32 = .ok (.ifCond .ne 10, 3) := by decide +kernel
theorem dX5_musts_35 : decode cX5_musts 35 = .ok (.iconst 1, 1) := by decide +kernel
theorem dX5_musts_36 : decode cX5_musts 36 = .ok (.iload 4, 2) := by decide +kernel
theorem dX5_musts_38 : decode cX5_musts 38 = .ok (.ishl, 1) := by decide +kernel
theorem dX5_musts_39 : decode cX5_musts 39 = .ok (.goto 4, 3) := by decide +kernel
theorem dX5_musts_42 : decode cX5_musts 42 = .ok (.iconst 0, 1) := by decide +kernel
theorem dX5_musts_43 : decode cX5_musts 43 = .ok (.ior, 1) := by decide +kernel
theorem dX5_musts_44 : decode cX5_musts 44 = .ok (.istore_n 3, 1) := by decide +kernel
theorem dX5_musts_45 : decode cX5_musts 45 = .ok (.iinc 4 1, 3) := by decide +kernel
theorem dX5_musts_48 : decode cX5_musts 48 = .ok (.goto (-43), 3) := by decide +kernel
theorem dX5_musts_51 : decode cX5_musts 51 = .ok (.iload_n 3, 1) := by decide +kernel
theorem dX5_musts_52 : decode cX5_musts 52 = .ok (.ireturn, 1) := by decide +kernel
theorem dX5_way_0 : decode cX5_way 0 = .ok (.aload_n 0, 1) := by decide +kernel
theorem dX5_way_1 : decode cX5_way 1 = .ok (.iload_n 1, 1) := by decide +kernel
theorem dX5_way_2 : decode cX5_way 2 = .ok (.invokevirtual 78, 3) := by decide +kernel
theorem dX5_way_5 : decode cX5_way 5 = .ok (.ifCond .eq 11, 3) := by decide +kernel
theorem dX5_way_8 : decode cX5_way 8 = .ok (.aload_n 0, 1) := by decide +kernel
theorem dX5_way_9 : decode cX5_way 9 = .ok (.iload_n 2, 1) := by decide +kernel
theorem dX5_way_10 : decode cX5_way 10 = .ok (.invokevirtual 78, 3) := by decide +kernel
theorem dX5_way_13 : decode cX5_way 13 = .ok (.ifCond .ne 5, 3) := by decide +kernel
theorem dX5_way_16 : decode cX5_way 16 = .ok (.iconst (-1), 1) := by decide +kernel
theorem dX5_way_17 : decode cX5_way 17 = .ok (.ireturn, 1) := by decide +kernel
theorem dX5_way_18 : decode cX5_way 18 = .ok (.iload_n 3, 1) := by decide +kernel
theorem dX5_way_19 : decode cX5_way 19 = .ok (.i2l, 1) := by decide +kernel
theorem dX5_way_20 : decode cX5_way 20 = .ok (.lconst 0, 1) := by decide +kernel
theorem dX5_way_21 : decode cX5_way 21 = .ok (.ldc2_w 68, 3) := by decide +kernel
theorem dX5_way_24 : decode cX5_way 24 = .ok (.invokestatic 38, 3) := by decide +kernel
theorem dX5_way_27 : decode cX5_way 27 = .ok (.ifCond .ne 6, 3) := by decide +kernel
theorem dX5_way_30 : decode cX5_way 30 = .ok (.bipush (-2), 2) := by decide +kernel
theorem dX5_way_32 : decode cX5_way 32 = .ok (.ireturn, 1) := by decide +kernel
theorem dX5_way_33 : decode cX5_way 33 = .ok (.aload_n 0, 1) := by decide +kernel
theorem dX5_way_34 : decode cX5_way 34 = .ok (.iload_n 1, 1) := by decide +kernel
theorem dX5_way_35 : decode cX5_way 35 = .ok (.iload_n 2, 1) := by decide +kernel
theorem dX5_way_36 : decode cX5_way 36 = .ok (.invokevirtual 144, 3) := by decide +kernel
theorem dX5_way_39 : decode cX5_way 39 = .ok (.ifCond .ne 6, 3) := by decide +kernel
theorem dX5_way_42 : decode cX5_way 42 = .ok (.bipush (-6), 2) := by decide +kernel
theorem dX5_way_44 : decode cX5_way 44 = .ok (.ireturn, 1) := by decide +kernel
theorem dX5_way_45 : decode cX5_way 45 = .ok (.iload_n 3, 1) := by decide +kernel
theorem dX5_way_46 : decode cX5_way 46 = .ok (.ifCond .ne 17, 3) := by decide +kernel
theorem dX5_way_49 : decode cX5_way 49 = .ok (.aload_n 0, 1) := by decide +kernel
theorem dX5_way_50 : decode cX5_way 50 = .ok (.iload_n 1, 1) := by decide +kernel
theorem dX5_way_51 : decode cX5_way 51 = .ok (.iconst 0, 1) := by decide +kernel
theorem dX5_way_52 : decode cX5_way 52 = .ok (.iconst 1, 1) := by decide +kernel
theorem dX5_way_53 : decode cX5_way 53 = .ok (.invokevirtual 91, 3) := by decide +kernel
theorem dX5_way_56 : decode cX5_way 56 = .ok (.aload_n 0, 1) := by decide +kernel
theorem dX5_way_57 : decode cX5_way 57 = .ok (.getfield 25, 3) := by decide +kernel
theorem dX5_way_60 : decode cX5_way 60 = .ok (.iload_n 2, 1) := by decide +kernel
theorem dX5_way_61 : decode cX5_way 61 = .ok (.iaload, 1) := by decide +kernel
theorem dX5_way_62 : decode cX5_way 62 = .ok (.ireturn, 1) := by decide +kernel
theorem dX5_way_63 : decode cX5_way 63 = .ok (.aload_n 0, 1) := by decide +kernel
theorem dX5_way_64 : decode cX5_way 64 = .ok (.iload_n 1, 1) := by decide +kernel
theorem dX5_way_65 : decode cX5_way 65 = .ok (.iload_n 2, 1) := by decide +kernel
theorem dX5_way_66 : decode cX5_way 66 = .ok (.invokevirtual 148, 3) := by decide +kernel
theorem dX5_way_69 : decode cX5_way 69 = .ok (.invokestatic 58, 3) := by decide +kernel
theorem dX5_way_72 : decode cX5_way 72 = .ok (.iload_n 3, 1) := by decide +kernel
theorem dX5_way_73 : decode cX5_way 73 = .ok (.iadd, 1) := by decide +kernel
theorem dX5_way_74 : decode cX5_way 74 = .ok (.iconst 1, 1) := by decide +kernel
theorem dX5_way_75 : decode cX5_way 75 = .ok (.isub, 1) := by decide +kernel
theorem dX5_way_76 : decode cX5_way 76 = .ok (.ireturn, 1) := by decide +kernel
theorem dX5_must_0 : decode cX5_must 0 = .ok (.aload_n 0, 1) := by decide +kernel
theorem dX5_must_1 : decode cX5_must 1 = .ok (.iload_n 1, 1) := by decide +kernel
theorem dX5_must_2 : decode cX5_must 2 = .ok (.invokevirtual 78, 3) := by decide +kernel
theorem dX5_must_5 : decode cX5_must 5 = .ok (.ifCond .eq 11, 3) := by decide +kernel
theorem dX5_must_8 : decode cX5_must 8 = .ok (.aload_n 0, 1) := by decide +kernel
theorem dX5_must_9 : decode cX5_must 9 = .ok (.iload_n 2, 1) := by decide +kernel
theorem dX5_must_10 : decode cX5_must 10 = .ok (.invokevirtual 78, 3) := by decide +kernel
theorem dX5_must_13 : decode cX5_must 13 = .ok (.ifCond .ne 5, 3) := by decide +kernel
theorem dX5_must_16 : decode cX5_must 16 = .ok (.iconst (-1), 1) := by decide +kernel
theorem dX5_must_17 : decode cX5_must 17 = .ok (.ireturn, 1) := by decide +kernel
theorem dX5_must_18 : decode cX5_must 18 = .ok (.iload_n 3, 1) := by decide +kernel
theorem dX5_must_19 : decode cX5_must 19 = .ok (.ifCond .ge 6, 3) := by decide +kernel
theorem dX5_must_22 : decode cX5_must 22 = .ok (.bipush (-2), 2) := by decide +kernel
theorem dX5_must_24 : decode cX5_must 24 = .ok (.ireturn, 1) := by decide +kernel
theorem dX5_must_25 : decode cX5_must 25 = .ok (.aload_n 0, 1) := by decide +kernel
theorem dX5_must_26 : decode cX5_must 26 = .ok (.iload_n 1, 1) := by decide +kernel
theorem dX5_must_27 : decode cX5_must 27 = .ok (.iload_n 2, 1) := by decide +kernel
theorem dX5_must_28 : decode cX5_must 28 = .ok (.invokevirtual 144, 3) := by decide +kernel
theorem dX5_must_31 : decode cX5_must 31 = .ok (.ifCond .ne 6, 3) := by decide +kernel
theorem dX5_must_34 : decode cX5_must 34 = .ok (.bipush (-6), 2) := by decide +kernel
theorem dX5_must_36 : decode cX5_must 36 = .ok (.ireturn, 1) := by decide +kernel
theorem dX5_must_37 : decode cX5_must 37 = .ok (.aload_n 0, 1) := by decide +kernel
theorem dX5_must_38 : decode cX5_must 38 = .ok (.iload_n 1, 1) := by decide +kernel
theorem dX5_must_39 : decode cX5_must 39 = .ok (.iload_n 2, 1) := by decide +kernel
theorem dX5_must_40 : decode cX5_must 40 = .ok (.invokevirtual 148, 3) := by decide +kernel
theorem dX5_must_43 : decode cX5_must 43 = .ok (.istore 4, 2) := by decide +kernel
theorem dX5_must_45 : decode cX5_must 45 = .ok (.iconst 0, 1) := by decide +kernel
theorem dX5_must_46 : decode cX5_must 46 = .ok (.istore 5, 2) := by decide +kernel
theorem dX5_must_48 : decode cX5_must 48 = .ok (.iload 5, 2) := by decide +kernel
theorem dX5_must_50 : decode cX5_must 50 = .ok (.aload_n 0, 1) := by decide +kernel
theorem dX5_must_51 : decode cX5_must 51 = .ok (.getfield 7, 3) := by decide +kernel
theorem dX5_must_54 : decode cX5_must 54 = .ok (.iconst 1, 1) := by decide +kernel
theorem dX5_must_55 : decode cX5_must 55 = .ok (.iaload, 1) := by decide +kernel
theorem dX5_must_56 : decode cX5_must 56 = .ok (.if_icmp .ge 107, 3) := by decide +kernel
theorem dX5_must_59 : decode cX5_must 59 = .ok (.iconst 0, 1) := by decide +kernel
theorem dX5_must_60 : decode cX5_must 60 = .ok (.istore 6, 2) := by decide +kernel
theorem dX5_must_62 : decode cX5_must 62 = .ok (.iconst 0, 1) := by decide +kernel
theorem dX5_must_63 : decode cX5_must 63 = .ok (.istore 7, 2) := by decide +kernel
theorem dX5_must_65 : decode cX5_must 65 = .ok (.iload 7, 2) := by decide +kernel
theorem dX5_must_67 : decode cX5_must 67 = .ok (.aload_n 0, 1) := by decide +kernel
theorem dX5_must_68 : decode cX5_must 68 = .ok (.getfield 7, 3) := by decide +kernel
theorem dX5_must_71 : decode cX5_must 71 = .ok (.iconst 1, 1) := by decide +kernel
theorem dX5_must_72 : decode cX5_must 72 = .ok (.iaload, 1) := by decide +kernel
theorem dX5_must_73 : decode cX5_must 73 = .ok (.if_icmp .ge 64, 3) := by decide +kernel
theorem dX5_must_76 : decode cX5_must 76 = .ok (.iload 6, 2) := by decide +kernel
theorem dX5_must_78 : decode cX5_must 78 = .ok (.iload 7, 2) := by decide +kernel
theorem dX5_must_80 : decode cX5_must 80 = .ok (.iload 5, 2) := by decide +kernel
theorem dX5_must_82 : decode cX5_must 82 = .ok (.if_icmp .eq 45, 3) := by decide +kernel
theorem dX5_must_85 : decode cX5_must 85 = .ok (.iload 4, 2) := by decide +kernel
theorem dX5_must_87 : decode cX5_must 87 = .ok (.iload 7, 2) := by decide +kernel
theorem dX5_must_89 : decode cX5_must 89 = .ok (.ishr, 1) := by decide +kernel
theorem dX5_must_90 : decode cX5_must 90 = .ok (.iconst 1, 1) := by decide +kernel
theorem dX5_must_91 : decode cX5_must 91 = .ok (.iand, 1) := by decide +kernel
theorem dX5_must_92 : decode cX5_must 92 = .ok (.iconst 1, 1) := by decide +kernel
theorem dX5_must_93 : decode cX5_must 93 = .ok (.if_icmp .ne 34, 3) := by decide +kernel
theorem dX5_must_96 : decode cX5_must 96 = .ok (.aload_n 0, 1) := by decide +kernel
theorem dX5_must_97 : decode cX5_must 97 = .ok (.iload 7, 2) := by decide +kernel
theorem dX5_must_99 : decode cX5_must 99 = .ok (.invokevirtual 42, 3) := by decide +kernel
theorem dX5_must_102 : decode cX5_must 102 = .ok (.aload_n 0, 1) := by decide +kernel
theorem dX5_must_103 : decode cX5_must 103 = .ok (.iload_n 1, 1) := by decide +kernel
theorem dX5_must_104 : decode cX5_must 104 = .ok (.iconst 1, 1) := by decide +kernel
theorem dX5_must_105 : decode cX5_must 105 = .ok (.iload 5, 2) := by decide +kernel
theorem dX5_must_107 : decode cX5_must 107 = .ok (.ishl, 1) := by decide +kernel
theorem dX5_must_108 : decode cX5_must 108 = .ok (.bipush (-6), 2) := by decide +kernel
theorem dX5_must_110 : decode cX5_must 110 = .ok (.invokevirtual 46, 3) := by decide +kernel
theorem dX5_must_113 : decode cX5_must 113 = .ok (.iand, 1) := by decide +kernel
theorem dX5_must_114 : decode cX5_must 114 = .ok (.aload_n 0, 1) := by decide +kernel
theorem dX5_must_115 : decode cX5_must 115 = .ok (.iload 7, 2) := by decide +kernel
theorem dX5_must_117 : decode cX5_must 117 = .ok (.invokevirtual 42, 3) := by decide +kernel
theorem dX5_must_120 : decode cX5_must 120 = .ok (.if_icmp .ne 7, 3) := by decide +kernel
theorem dX5_must_123 : decode cX5_must 123 = .ok (.iconst 1, 1) := by decide +kernel
theorem dX5_must_124 : decode cX5_must 124 = .ok (.goto 4, 3) := by decide +kernel
theorem dX5_must_127 : decode cX5_must 127 = .ok (.iconst 0, 1) := by decide +kernel
theorem dX5_must_128 : decode cX5_must 128 = .ok (.iadd, 1) := by decide +kernel
theorem dX5_must_129 : decode cX5_must 129 = .ok (.istore 6, 2) := by decide +kernel
theorem dX5_must_131 : decode cX5_must 131 = .ok (.iinc 7 1, 3) := by decide +kernel
theorem dX5_must_134 : decode cX5_must 134 = .ok (.goto (-69), 3) := by decide +kernel
theorem dX5_must_137 : decode cX5_must 137 = .ok (.iload 4, 2) := by decide +kernel
theorem dX5_must_139 : decode cX5_must 139 = .ok (.iload 5, 2) := by decide +kernel
theorem dX5_must_141 : decode cX5_must 141 = .ok (.ishr, 1) := by decide +kernel
theorem dX5_must_142 : decode cX5_must 142 = .ok (.iconst 1, 1) := by decide +kernel
theorem dX5_must_143 : decode cX5_must 143 = .ok (.iand, 1) := by decide +kernel
theorem dX5_must_144 : decode cX5_must 144 = .ok (.iconst 1, 1) := by decide +kernel
theorem dX5_must_145 : decode cX5_must 145 = .ok (.if_icmp .ne 12, 3) := by decide +kernel
theorem dX5_must_148 : decode cX5_must 148 = .ok (.iload 6, 2) := by decide +kernel
theorem dX5_must_150 : decode cX5_must 150 = .ok (.iload_n 3, 1) := by decide +kernel
theorem dX5_must_151 : decode cX5_must 151 = .ok (.if_icmp .ne 6, 3) := by decide +kernel
theorem dX5_must_154 : decode cX5_must 154 = .ok (.iload 5, 2) := by decide +kernel
theorem dX5_must_156 : decode cX5_must 156 = .ok (.ireturn, 1) := by decide +kernel
theorem dX5_must_157 : decode cX5_must 157 = .ok (.iinc 5 1, 3) := by decide +kernel
theorem dX5_must_160 : decode cX5_must 160 = .ok (.goto (-112), 3) := by decide +kernel
theorem dX5_must_163 : decode cX5_must 163 = .ok (.bipush (-6), 2) := by decide +kernel
theorem dX5_must_165 : decode cX5_must 165 = .ok (.ireturn, 1) := by decide +kernel
theorem dX5_cutOff_0 : decode cX5_cutOff 0 = .ok (.aload_n 0, 1) := by decide +kernel
theorem dX5_cutOff_1 : decode cX5_cutOff 1 = .ok (.iload_n 1, 1) := by decide +kernel
theorem dX5_cutOff_2 : decode cX5_cutOff 2 = .ok (.invokevirtual 78, 3) := by decide +kernel
theorem dX5_cutOff_5 : decode cX5_cutOff 5 = .ok (.ifCond .eq 11, 3) := by decide +kernel
theorem dX5_cutOff_8 : decode cX5_cutOff 8 = .ok (.aload_n 0, 1) := by decide +kernel
theorem dX5_cutOff_9 : decode cX5_cutOff 9 = .ok (.iload_n 2, 1) := by decide +kernel
theorem dX5_cutOff_10 : decode cX5_cutOff 10 = .ok (.invokevirtual 87, 3) := by decide +kernel
theorem dX5_cutOff_13 : decode cX5_cutOff 13 = .ok (.ifCond .ne 5, 3) := by decide +kernel
theorem dX5_cutOff_16 : decode cX5_cutOff 16 = .ok (.iconst (-1), 1) := by decide +kernel
theorem dX5_cutOff_17 : decode cX5_cutOff 17 = .ok (.ireturn, 1) := by decide +kernel
theorem dX5_cutOff_18 : decode cX5_cutOff 18 = .ok (.aload_n 0, 1) := by decide +kernel
theorem dX5_cutOff_19 : decode cX5_cutOff 19 = .ok (.iload_n 1, 1) := by decide +kernel
theorem dX5_cutOff_20 : decode cX5_cutOff 20 = .ok (.invokevirtual 65, 3) := by decide +kernel
theorem dX5_cutOff_23 : decode cX5_cutOff 23 = .ok (.aload_n 0, 1) := by decide +kernel
theorem dX5_cutOff_24 : decode cX5_cutOff 24 = .ok (.iload_n 1, 1) := by decide +kernel
theorem dX5_cutOff_25 : decode cX5_cutOff 25 = .ok (.iconst 1, 1) := by decide +kernel
theorem dX5_cutOff_26 : decode cX5_cutOff 26 = .ok (.iload_n 2, 1) := by decide +kernel
theorem dX5_cutOff_27 : decode cX5_cutOff 27 = .ok (.ishl, 1) := by decide +kernel
theorem dX5_cutOff_28 : decode cX5_cutOff 28 = .ok (.bipush (-6), 2) := by decide +kernel
theorem dX5_cutOff_30 : decode cX5_cutOff 30 = .ok (.invokevirtual 46, 3) := by decide +kernel
theorem dX5_cutOff_33 : decode cX5_cutOff 33 = .ok (.iconst (-1), 1) := by decide +kernel
theorem dX5_cutOff_34 : decode cX5_cutOff 34 = .ok (.ixor, 1) := by decide +kernel
theorem dX5_cutOff_35 : decode cX5_cutOff 35 = .ok (.iand, 1) := by decide +kernel
theorem dX5_cutOff_36 : decode cX5_cutOff 36 = .ok (.ireturn, 1) := by decide +kernel
theorem dX5_ifBuilt_0 : decode cX5_ifBuilt 0 = .ok (.aload_n 0, 1) := by decide +kernel
theorem dX5_ifBuilt_1 : decode cX5_ifBuilt 1 = .ok (.iload_n 1, 1) := by decide +kernel
theorem dX5_ifBuilt_2 : decode cX5_ifBuilt 2 = .ok (.invokevirtual 78, 3) := by decide +kernel
theorem dX5_ifBuilt_5 : decode cX5_ifBuilt 5 = .ok (.ifCond .eq 11, 3) := by decide +kernel
theorem dX5_ifBuilt_8 : decode cX5_ifBuilt 8 = .ok (.aload_n 0, 1) := by decide +kernel
theorem dX5_ifBuilt_9 : decode cX5_ifBuilt 9 = .ok (.iload_n 2, 1) := by decide +kernel
theorem dX5_ifBuilt_10 : decode cX5_ifBuilt 10 = .ok (.invokevirtual 78, 3) := by decide +kernel
theorem dX5_ifBuilt_13 : decode cX5_ifBuilt 13 = .ok (.ifCond .ne 5, 3) := by decide +kernel
theorem dX5_ifBuilt_16 : decode cX5_ifBuilt 16 = .ok (.iconst (-1), 1) := by decide +kernel
theorem dX5_ifBuilt_17 : decode cX5_ifBuilt 17 = .ok (.ireturn, 1) := by decide +kernel
theorem dX5_ifBuilt_18 : decode cX5_ifBuilt 18 = .ok (.iload_n 1, 1) := by decide +kernel
theorem dX5_ifBuilt_19 : decode cX5_ifBuilt 19 = .ok (.iload_n 2, 1) := by decide +kernel
theorem dX5_ifBuilt_20 : decode cX5_ifBuilt 20 = .ok (.if_icmp .eq 15, 3) := by decide +kernel
theorem dX5_ifBuilt_23 : decode cX5_ifBuilt 23 = .ok (.iload_n 3, 1) := by decide +kernel
theorem dX5_ifBuilt_24 : decode cX5_ifBuilt 24 = .ok (.i2l, 1) := by decide +kernel
theorem dX5_ifBuilt_25 : decode cX5_ifBuilt 25 = .ok (.lconst 0, 1) := by decide +kernel
theorem dX5_ifBuilt_26 : decode cX5_ifBuilt 26 = .ok (.ldc2_w 68, 3) := by decide +kernel
theorem dX5_ifBuilt_29 : decode cX5_ifBuilt 29 = .ok (.invokestatic 38, 3) := by decide +kernel
theorem dX5_ifBuilt_32 : decode cX5_ifBuilt 32 = .ok (.ifCond .ne 6, 3) := by decide +kernel
theorem dX5_ifBuilt_35 : decode cX5_ifBuilt 35 = .ok (.bipush (-2), 2) := by decide +kernel
theorem dX5_ifBuilt_37 : decode cX5_ifBuilt 37 = .ok (.ireturn, 1) := by decide +kernel
theorem dX5_ifBuilt_38 : decode cX5_ifBuilt 38 = .ok (.aload_n 0, 1) := by decide +kernel
theorem dX5_ifBuilt_39 : decode cX5_ifBuilt 39 = .ok (.iload_n 1, 1) := by decide +kernel
theorem dX5_ifBuilt_40 : decode cX5_ifBuilt 40 = .ok (.iload_n 2, 1) := by decide +kernel
theorem dX5_ifBuilt_41 : decode cX5_ifBuilt 41 = .ok (.invokevirtual 144, 3) := by decide +kernel
theorem dX5_ifBuilt_44 : decode cX5_ifBuilt 44 = .ok (.istore 4, 2) := by decide +kernel
theorem dX5_ifBuilt_46 : decode cX5_ifBuilt 46 = .ok (.iload 4, 2) := by decide +kernel
theorem dX5_ifBuilt_48 : decode cX5_ifBuilt 48 = .ok (.ifCond .eq 15, 3) := by decide +kernel
theorem dX5_ifBuilt_51 : decode cX5_ifBuilt 51 = .ok (.aload_n 0, 1) := by decide +kernel
theorem dX5_ifBuilt_52 : decode cX5_ifBuilt 52 = .ok (.iload_n 1, 1) := by decide +kernel
theorem dX5_ifBuilt_53 : decode cX5_ifBuilt 53 = .ok (.iload_n 2, 1) := by decide +kernel
theorem dX5_ifBuilt_54 : decode cX5_ifBuilt 54 = .ok (.invokevirtual 148, 3) := by decide +kernel
theorem dX5_ifBuilt_57 : decode cX5_ifBuilt 57 = .ok (.invokestatic 58, 3) := by decide +kernel
theorem dX5_ifBuilt_60 : decode cX5_ifBuilt 60 = .ok (.goto 4, 3) := by decide +kernel
theorem dX5_ifBuilt_63 : decode cX5_ifBuilt 63 = .ok (.iconst 0, 1) := by decide +kernel
theorem dX5_ifBuilt_64 : decode cX5_ifBuilt 64 = .ok (.istore 5, 2) := by decide +kernel
theorem dX5_ifBuilt_66 : decode cX5_ifBuilt 66 = .ok (.iload_n 3, 1) := by decide +kernel
theorem dX5_ifBuilt_67 : decode cX5_ifBuilt 67 = .ok (.ifCond .ne 8, 3) := by decide +kernel
theorem dX5_ifBuilt_70 : decode cX5_ifBuilt 70 = .ok (.iload 5, 2) := by decide +kernel
theorem dX5_ifBuilt_72 : decode cX5_ifBuilt 72 = .ok (.goto 33, 3) := by decide +kernel
theorem dX5_ifBuilt_75 : decode cX5_ifBuilt 75 = .ok (.iload_n 3, 1) := by decide +kernel
theorem dX5_ifBuilt_76 : decode cX5_ifBuilt 76 = .ok (.iconst 1, 1) := by decide +kernel
theorem dX5_ifBuilt_77 : decode cX5_ifBuilt 77 = .ok (.if_icmp .ne 13, 3) := by decide +kernel
theorem dX5_ifBuilt_80 : decode cX5_ifBuilt 80 = .ok (.aload_n 0, 1) := by decide +kernel
theorem dX5_ifBuilt_81 : decode cX5_ifBuilt 81 = .ok (.invokevirtual 107, 3) := by decide +kernel
theorem dX5_ifBuilt_84 : decode cX5_ifBuilt 84 = .ok (.iload 5, 2) := by decide +kernel
theorem dX5_ifBuilt_86 : decode cX5_ifBuilt 86 = .ok (.isub, 1) := by decide +kernel
theorem dX5_ifBuilt_87 : decode cX5_ifBuilt 87 = .ok (.goto 18, 3) := by decide +kernel
theorem dX5_ifBuilt_90 : decode cX5_ifBuilt 90 = .ok (.aload_n 0, 1) := by decide +kernel
theorem dX5_ifBuilt_91 : decode cX5_ifBuilt 91 = .ok (.invokevirtual 61, 3) := by decide +kernel
theorem dX5_ifBuilt_94 : decode cX5_ifBuilt 94 = .ok (.iload 4, 2) := by decide +kernel
theorem dX5_ifBuilt_96 : decode cX5_ifBuilt 96 = .ok (.ifCond .eq 7, 3) := by decide +kernel
theorem dX5_ifBuilt_99 : decode cX5_ifBuilt 99 = .ok (.iconst 0, 1) := by decide +kernel
theorem dX5_ifBuilt_100 : decode cX5_ifBuilt 100 = .ok (.goto 4, 3) := by decide +kernel
theorem dX5_ifBuilt_103 : decode cX5_ifBuilt 103 = .ok (.iconst 1, 1) := by decide +kernel
theorem dX5_ifBuilt_104 : decode cX5_ifBuilt 104 = .ok (.isub, 1) := by decide +kernel
theorem dX5_ifBuilt_105 : decode cX5_ifBuilt 105 = .ok (.ireturn, 1) := by decide +kernel
theorem dX5_bestBuilt_0 : decode cX5_bestBuilt 0 = .ok (.iload_n 1, 1) := by decide +kernel
theorem dX5_bestBuilt_1 : decode cX5_bestBuilt 1 = .ok (.i2l, 1) := by decide +kernel
theorem dX5_bestBuilt_2 : decode cX5_bestBuilt 2 = .ok (.lconst 0, 1) := by decide +kernel
theorem dX5_bestBuilt_3 : decode cX5_bestBuilt 3 = .ok (.ldc2_w 68, 3) := by decide +kernel
theorem dX5_bestBuilt_6 : decode cX5_bestBuilt 6 = .ok (.invokestatic 38, 3) := by decide +kernel
theorem dX5_bestBuilt_9 : decode cX5_bestBuilt 9 = .ok (.ifCond .ne 6, 3) := by decide +kernel
theorem dX5_bestBuilt_12 : decode cX5_bestBuilt 12 = .ok (.bipush (-2), 2) := by decide +kernel
theorem dX5_bestBuilt_14 : decode cX5_bestBuilt 14 = .ok (.ireturn, 1) := by decide +kernel
theorem dX5_bestBuilt_15 : decode cX5_bestBuilt 15 = .ok (.aload_n 0, 1) := by decide +kernel
theorem dX5_bestBuilt_16 : decode cX5_bestBuilt 16 = .ok (.invokevirtual 95, 3) := by decide +kernel
theorem dX5_bestBuilt_19 : decode cX5_bestBuilt 19 = .ok (.invokestatic 58, 3) := by decide +kernel
theorem dX5_bestBuilt_22 : decode cX5_bestBuilt 22 = .ok (.istore_n 2, 1) := by decide +kernel
theorem dX5_bestBuilt_23 : decode cX5_bestBuilt 23 = .ok (.ldc 90, 2) := by decide +kernel
theorem dX5_bestBuilt_25 : decode cX5_bestBuilt 25 = .ok (.istore_n 3, 1) := by decide +kernel
theorem dX5_bestBuilt_26 : decode cX5_bestBuilt 26 = .ok (.iconst 0, 1) := by decide +kernel
theorem dX5_bestBuilt_27 : decode cX5_bestBuilt 27 = .ok (.istore 4, 2) := by decide +kernel
theorem dX5_bestBuilt_29 : decode cX5_bestBuilt 29 = .ok (.iconst 0, 1) := by decide +kernel
theorem dX5_bestBuilt_30 : decode cX5_bestBuilt 30 = .ok (.istore 5, 2) := by decide +kernel
theorem dX5_bestBuilt_32 : decode cX5_bestBuilt 32 = .ok (.iconst 0, 1) := by decide +kernel
theorem dX5_bestBuilt_33 : decode cX5_bestBuilt 33 = .ok (.istore 6, 2) := by decide +kernel
theorem dX5_bestBuilt_35 : decode cX5_bestBuilt 35 = .ok (.iload 6, 2) := by decide +kernel
theorem dX5_bestBuilt_37 : decode cX5_bestBuilt 37 = .ok (.aload_n 0, 1) := by decide +kernel
theorem dX5_bestBuilt_38 : decode cX5_bestBuilt 38 = .ok (.getfield 7, 3) := by decide +kernel
theorem dX5_bestBuilt_41 : decode cX5_bestBuilt 41 = .ok (.iconst 0, 1) := by decide +kernel
theorem dX5_bestBuilt_42 : decode cX5_bestBuilt 42 = .ok (.iaload, 1) := by decide +kernel
theorem dX5_bestBuilt_43 : decode cX5_bestBuilt 43 = .ok (.if_icmp .ge 107, 3) := by decide +kernel
theorem dX5_bestBuilt_46 : decode cX5_bestBuilt 46 = .ok (.iload 6, 2) := by decide +kernel
theorem dX5_bestBuilt_48 : decode cX5_bestBuilt 48 = .ok (.iconst 1, 1) := by decide +kernel
theorem dX5_bestBuilt_49 : decode cX5_bestBuilt 49 = .ok (.iadd, 1) := by decide +kernel
theorem dX5_bestBuilt_50 : decode cX5_bestBuilt 50 = .ok (.istore 7, 2) := by decide +kernel
theorem dX5_bestBuilt_52 : decode cX5_bestBuilt 52 = .ok (.iload 7, 2) := by decide +kernel
theorem dX5_bestBuilt_54 : decode cX5_bestBuilt 54 = .ok (.aload_n 0, 1) := by decide +kernel
theorem dX5_bestBuilt_55 : decode cX5_bestBuilt 55 = .ok (.getfield 7, 3) := by decide +kernel
theorem dX5_bestBuilt_58 : decode cX5_bestBuilt 58 = .ok (.iconst 0, 1) := by decide +kernel
theorem dX5_bestBuilt_59 : decode cX5_bestBuilt 59 = .ok (.iaload, 1) := by decide +kernel
theorem dX5_bestBuilt_60 : decode cX5_bestBuilt 60 = .ok (.if_icmp .ge 84, 3) := by decide +kernel
theorem dX5_bestBuilt_63 : decode cX5_bestBuilt 63 = .ok (.aload_n 0, 1) := by decide +kernel
theorem dX5_bestBuilt_64 : decode cX5_bestBuilt 64 = .ok (.iload 6, 2) := by decide +kernel
theorem dX5_bestBuilt_66 : decode cX5_bestBuilt 66 = .ok (.iload 7, 2) := by decide +kernel
theorem dX5_bestBuilt_68 : decode cX5_bestBuilt 68 = .ok (.invokevirtual 144, 3) := by decide +kernel
theorem dX5_bestBuilt_71 : decode cX5_bestBuilt 71 = .ok (.ifCond .eq 19, 3) := by decide +kernel
theorem dX5_bestBuilt_74 : decode cX5_bestBuilt 74 = .ok (.iload_n 2, 1) := by decide +kernel
theorem dX5_bestBuilt_75 : decode cX5_bestBuilt 75 = .ok (.aload_n 0, 1) := by decide +kernel
theorem dX5_bestBuilt_76 : decode cX5_bestBuilt 76 = .ok (.iload 6, 2) := by decide +kernel
theorem dX5_bestBuilt_78 : decode cX5_bestBuilt 78 = .ok (.iload 7, 2) := by decide +kernel
theorem dX5_bestBuilt_80 : decode cX5_bestBuilt 80 = .ok (.invokevirtual 148, 3) := by decide +kernel
theorem dX5_bestBuilt_83 : decode cX5_bestBuilt 83 = .ok (.invokestatic 58, 3) := by decide +kernel
theorem dX5_bestBuilt_86 : decode cX5_bestBuilt 86 = .ok (.isub, 1) := by decide +kernel
theorem dX5_bestBuilt_87 : decode cX5_bestBuilt 87 = .ok (.goto 6, 3) := by decide +kernel
theorem dX5_bestBuilt_90 : decode cX5_bestBuilt 90 = .ok (.iload_n 2, 1) := by decide +kernel
theorem dX5_bestBuilt_91 : decode cX5_bestBuilt 91 = .ok (.iconst 1, 1) := by decide +kernel
theorem dX5_bestBuilt_92 : decode cX5_bestBuilt 92 = .ok (.iadd, 1) := by decide +kernel
theorem dX5_bestBuilt_93 : decode cX5_bestBuilt 93 = .ok (.istore 8, 2) := by decide +kernel
theorem dX5_bestBuilt_95 : decode cX5_bestBuilt 95 = .ok (.iload 8, 2) := by decide +kernel
theorem dX5_bestBuilt_97 : decode cX5_bestBuilt 97 = .ok (.iload_n 3, 1) := by decide +kernel
theorem dX5_bestBuilt_98 : decode cX5_bestBuilt 98 = .ok (.if_icmp .ge 8, 3) := by decide +kernel
theorem dX5_bestBuilt_101 : decode cX5_bestBuilt 101 = .ok (.iload 6, 2) := by decide +kernel
theorem dX5_bestBuilt_103 : decode cX5_bestBuilt 103 = .ok (.goto 5, 3) := by decide +kernel
theorem dX5_bestBuilt_106 : decode cX5_bestBuilt 106 = .ok (.iload 4, 2) := by decide +kernel
theorem dX5_bestBuilt_108 : decode cX5_bestBuilt 108 = .ok (.istore 4, 2) := by decide +kernel
theorem dX5_bestBuilt_110 : decode cX5_bestBuilt 110 = .ok (.iload 8, 2) := by decide +kernel
theorem dX5_bestBuilt_112 : decode cX5_bestBuilt 112 = .ok (.iload_n 3, 1) := by decide +kernel
theorem dX5_bestBuilt_113 : decode cX5_bestBuilt 113 = .ok (.if_icmp .ge 8, 3) := by decide +kernel
theorem dX5_bestBuilt_116 : decode cX5_bestBuilt 116 = .ok (.iload 7, 2) := by decide +kernel
theorem dX5_bestBuilt_118 : decode cX5_bestBuilt 118 = .ok (.goto 5, 3) := by decide +kernel
theorem dX5_bestBuilt_121 : decode cX5_bestBuilt 121 = .ok (.iload 5, 2) := by decide +kernel
theorem dX5_bestBuilt_123 : decode cX5_bestBuilt 123 = .ok (.istore 5, 2) := by decide +kernel
theorem dX5_bestBuilt_125 : decode cX5_bestBuilt 125 = .ok (.iload 8, 2) := by decide +kernel
theorem dX5_bestBuilt_127 : decode cX5_bestBuilt 127 = .ok (.iload_n 3, 1) := by decide +kernel
theorem dX5_bestBuilt_128 : decode cX5_bestBuilt 128 = .ok (.if_icmp .ge 8, 3) := by decide +kernel
theorem dX5_bestBuilt_131 : decode cX5_bestBuilt 131 = .ok (.iload 8, 2) := by decide +kernel
theorem dX5_bestBuilt_133 : decode cX5_bestBuilt 133 = .ok (.goto 4, 3) := by decide +kernel
theorem dX5_bestBuilt_136 : decode cX5_bestBuilt 136 = .ok (.iload_n 3, 1) := by decide +kernel
theorem dX5_bestBuilt_137 : decode cX5_bestBuilt 137 = .ok (.istore_n 3, 1) := by decide +kernel
theorem dX5_bestBuilt_138 : decode cX5_bestBuilt 138 = .ok (.iinc 7 1, 3) := by decide +kernel
theorem dX5_bestBuilt_141 : decode cX5_bestBuilt 141 = .ok (.goto (-89), 3) := by decide +kernel
theorem dX5_bestBuilt_144 : decode cX5_bestBuilt 144 = .ok (.iinc 6 1, 3) := by decide +kernel
theorem dX5_bestBuilt_147 : decode cX5_bestBuilt 147 = .ok (.goto (-112), 3) := by decide +kernel
theorem dX5_bestBuilt_150 : decode cX5_bestBuilt 150 = .ok (.iload_n 1, 1) := by decide +kernel
theorem dX5_bestBuilt_151 : decode cX5_bestBuilt 151 = .ok (.ifCond .ne 8, 3) := by decide +kernel
theorem dX5_bestBuilt_154 : decode cX5_bestBuilt 154 = .ok (.iload 4, 2) := by decide +kernel
theorem dX5_bestBuilt_156 : decode cX5_bestBuilt 156 = .ok (.goto 14, 3) := by decide +kernel
theorem dX5_bestBuilt_159 : decode cX5_bestBuilt 159 = .ok (.iload_n 1, 1) := by decide +kernel
theorem dX5_bestBuilt_160 : decode cX5_bestBuilt 160 = .ok (.iconst 1, 1) := by decide +kernel
theorem dX5_bestBuilt_161 : decode cX5_bestBuilt 161 = .ok (.if_icmp .ne 8, 3) := by decide +kernel
theorem dX5_bestBuilt_164 : decode cX5_bestBuilt 164 = .ok (.iload 5, 2) := by decide +kernel
theorem dX5_bestBuilt_166 : decode cX5_bestBuilt 166 = .ok (.goto 4, 3) := by decide +kernel
theorem dX5_bestBuilt_169 : decode cX5_bestBuilt 169 = .ok (.iload_n 3, 1) := by decide +kernel
theorem dX5_bestBuilt_170 : decode cX5_bestBuilt 170 = .ok (.ireturn, 1) := by decide +kernel
theorem dX5_worstLoss_0 : decode cX5_worstLoss 0 = .ok (.iload_n 1, 1) := by decide +kernel
theorem dX5_worstLoss_1 : decode cX5_worstLoss 1 = .ok (.i2l, 1) := by decide +kernel
theorem dX5_worstLoss_2 : decode cX5_worstLoss 2 = .ok (.lconst 0, 1) := by decide +kernel
theorem dX5_worstLoss_3 : decode cX5_worstLoss 3 = .ok (.lconst 1, 1) := by decide +kernel
theorem dX5_worstLoss_4 : decode cX5_worstLoss 4 = .ok (.invokestatic 38, 3) := by decide +kernel
theorem dX5_worstLoss_7 : decode cX5_worstLoss 7 = .ok (.ifCond .ne 6, 3) := by decide +kernel
theorem dX5_worstLoss_10 : decode cX5_worstLoss 10 = .ok (.bipush (-2), 2) := by decide +kernel
theorem dX5_worstLoss_12 : decode cX5_worstLoss 12 = .ok (.ireturn, 1) := by decide +kernel
theorem dX5_worstLoss_13 : decode cX5_worstLoss 13 = .ok (.bipush (-6), 2) := by decide +kernel
theorem dX5_worstLoss_15 : decode cX5_worstLoss 15 = .ok (.istore_n 2, 1) := by decide +kernel
theorem dX5_worstLoss_16 : decode cX5_worstLoss 16 = .ok (.bipush (-6), 2) := by decide +kernel
theorem dX5_worstLoss_18 : decode cX5_worstLoss 18 = .ok (.istore_n 3, 1) := by decide +kernel
theorem dX5_worstLoss_19 : decode cX5_worstLoss 19 = .ok (.iconst 0, 1) := by decide +kernel
theorem dX5_worstLoss_20 : decode cX5_worstLoss 20 = .ok (.istore 4, 2) := by decide +kernel
theorem dX5_worstLoss_22 : decode cX5_worstLoss 22 = .ok (.iload 4, 2) := by decide +kernel
theorem dX5_worstLoss_24 : decode cX5_worstLoss 24 = .ok (.aload_n 0, 1) := by decide +kernel
theorem dX5_worstLoss_25 : decode cX5_worstLoss 25 = .ok (.getfield 7, 3) := by decide +kernel
theorem dX5_worstLoss_28 : decode cX5_worstLoss 28 = .ok (.iconst 1, 1) := by decide +kernel
theorem dX5_worstLoss_29 : decode cX5_worstLoss 29 = .ok (.iaload, 1) := by decide +kernel
theorem dX5_worstLoss_30 : decode cX5_worstLoss 30 = .ok (.if_icmp .ge 43, 3) := by decide +kernel
theorem dX5_worstLoss_33 : decode cX5_worstLoss 33 = .ok (.aload_n 0, 1) := by decide +kernel
theorem dX5_worstLoss_34 : decode cX5_worstLoss 34 = .ok (.iload 4, 2) := by decide +kernel
theorem dX5_worstLoss_36 : decode cX5_worstLoss 36 = .ok (.invokevirtual 119, 3) := by decide +kernel
theorem dX5_worstLoss_39 : decode cX5_worstLoss 39 = .ok (.istore 5, 2) := by decide +kernel
theorem dX5_worstLoss_41 : decode cX5_worstLoss 41 = .ok (.iload 5, 2) := by decide +kernel
theorem dX5_worstLoss_43 : decode cX5_worstLoss 43 = .ok (.iload_n 3, 1) := by decide +kernel
theorem dX5_worstLoss_44 : decode cX5_worstLoss 44 = .ok (.if_icmp .le 8, 3) := by decide +kernel
theorem dX5_worstLoss_47 : decode cX5_worstLoss 47 = .ok (.iload 4, 2) := by decide +kernel
theorem dX5_worstLoss_49 : decode cX5_worstLoss 49 = .ok (.goto 4, 3) := by decide +kernel
theorem dX5_worstLoss_52 : decode cX5_worstLoss 52 = .ok (.iload_n 2, 1) := by decide +kernel
theorem dX5_worstLoss_53 : decode cX5_worstLoss 53 = .ok (.istore_n 2, 1) := by decide +kernel
theorem dX5_worstLoss_54 : decode cX5_worstLoss 54 = .ok (.iload 5, 2) := by decide +kernel
theorem dX5_worstLoss_56 : decode cX5_worstLoss 56 = .ok (.iload_n 3, 1) := by decide +kernel
theorem dX5_worstLoss_57 : decode cX5_worstLoss 57 = .ok (.if_icmp .le 8, 3) := by decide +kernel
theorem dX5_worstLoss_60 : decode cX5_worstLoss 60 = .ok (.iload 5, 2) := by decide +kernel
theorem dX5_worstLoss_62 : decode cX5_worstLoss 62 = .ok (.goto 4, 3) := by decide +kernel
theorem dX5_worstLoss_65 : decode cX5_worstLoss 65 = .ok (.iload_n 3, 1) := by decide +kernel
theorem dX5_worstLoss_66 : decode cX5_worstLoss 66 = .ok (.istore_n 3, 1) := by decide +kernel
theorem dX5_worstLoss_67 : decode cX5_worstLoss 67 = .ok (.iinc 4 1, 3) := by decide +kernel
theorem dX5_worstLoss_70 : decode cX5_worstLoss 70 = .ok (.goto (-48), 3) := by decide +kernel
theorem dX5_worstLoss_73 : decode cX5_worstLoss 73 = .ok (.iload_n 1, 1) := by decide +kernel
theorem dX5_worstLoss_74 : decode cX5_worstLoss 74 = .ok (.ifCond .ne 7, 3) := by decide +kernel
theorem dX5_worstLoss_77 : decode cX5_worstLoss 77 = .ok (.iload_n 2, 1) := by decide +kernel
theorem dX5_worstLoss_78 : decode cX5_worstLoss 78 = .ok (.goto 4, 3) := by decide +kernel
theorem dX5_worstLoss_81 : decode cX5_worstLoss 81 = .ok (.iload_n 3, 1) := by decide +kernel
theorem dX5_worstLoss_82 : decode cX5_worstLoss 82 = .ok (.ireturn, 1) := by decide +kernel
theorem dX5_needed_0 : decode cX5_needed 0 = .ok (.aload_n 0, 1) := by decide +kernel
theorem dX5_needed_1 : decode cX5_needed 1 = .ok (.iload_n 1, 1) := by decide +kernel
theorem dX5_needed_2 : decode cX5_needed 2 = .ok (.invokevirtual 78, 3) := by decide +kernel
theorem dX5_needed_5 : decode cX5_needed 5 = .ok (.ifCond .ne 5, 3) := by decide +kernel
theorem dX5_needed_8 : decode cX5_needed 8 = .ok (.iconst (-1), 1) := by decide +kernel
theorem dX5_needed_9 : decode cX5_needed 9 = .ok (.ireturn, 1) := by decide +kernel
theorem dX5_needed_10 : decode cX5_needed 10 = .ok (.aload_n 0, 1) := by decide +kernel
theorem dX5_needed_11 : decode cX5_needed 11 = .ok (.iload_n 1, 1) := by decide +kernel
theorem dX5_needed_12 : decode cX5_needed 12 = .ok (.invokevirtual 65, 3) := by decide +kernel
theorem dX5_needed_15 : decode cX5_needed 15 = .ok (.istore_n 2, 1) := by decide +kernel
theorem dX5_needed_16 : decode cX5_needed 16 = .ok (.iconst 0, 1) := by decide +kernel
theorem dX5_needed_17 : decode cX5_needed 17 = .ok (.istore_n 3, 1) := by decide +kernel
theorem dX5_needed_18 : decode cX5_needed 18 = .ok (.aload_n 0, 1) := by decide +kernel
theorem dX5_needed_19 : decode cX5_needed 19 = .ok (.invokevirtual 107, 3) := by decide +kernel
theorem dX5_needed_22 : decode cX5_needed 22 = .ok (.istore 4, 2) := by decide +kernel
theorem dX5_needed_24 : decode cX5_needed 24 = .ok (.iconst 0, 1) := by decide +kernel
theorem dX5_needed_25 : decode cX5_needed 25 = .ok (.istore 5, 2) := by decide +kernel
theorem dX5_needed_27 : decode cX5_needed 27 = .ok (.iload 5, 2) := by decide +kernel
theorem dX5_needed_29 : decode cX5_needed 29 = .ok (.iload 4, 2) := by decide +kernel
theorem dX5_needed_31 : decode cX5_needed 31 = .ok (.if_icmp .ge 42, 3) := by decide +kernel
theorem dX5_needed_34 : decode cX5_needed 34 = .ok (.aload_n 0, 1) := by decide +kernel
theorem dX5_needed_35 : decode cX5_needed 35 = .ok (.iload 5, 2) := by decide +kernel
theorem dX5_needed_37 : decode cX5_needed 37 = .ok (.invokevirtual 110, 3) := by decide +kernel
theorem dX5_needed_40 : decode cX5_needed 40 = .ok (.istore 6, 2) := by decide +kernel
theorem dX5_needed_42 : decode cX5_needed 42 = .ok (.iload_n 3, 1) := by decide +kernel
theorem dX5_needed_43 : decode cX5_needed 43 = .ok (.iload 6, 2) := by decide +kernel
theorem dX5_needed_45 : decode cX5_needed 45 = .ok (.iload_n 2, 1) := by decide +kernel
theorem dX5_needed_46 : decode cX5_needed 46 = .ok (.iand, 1) := by decide +kernel
theorem dX5_needed_47 : decode cX5_needed 47 = .ok (.ifCond .eq 17, 3) := by decide +kernel
theorem dX5_needed_50 : decode cX5_needed 50 = .ok (.aload_n 0, 1) := by decide +kernel
theorem dX5_needed_51 : decode cX5_needed 51 = .ok (.iload 6, 2) := by decide +kernel
theorem dX5_needed_53 : decode cX5_needed 53 = .ok (.invokevirtual 122, 3) := by decide +kernel
theorem dX5_needed_56 : decode cX5_needed 56 = .ok (.iconst 1, 1) := by decide +kernel
theorem dX5_needed_57 : decode cX5_needed 57 = .ok (.if_icmp .ne 7, 3) := by decide +kernel
theorem dX5_needed_60 : decode cX5_needed 60 = .ok (.iconst 1, 1) := by decide +kernel
theorem dX5_needed_61 : decode cX5_needed 61 = .ok (.goto 4, 3) := by decide +kernel
theorem dX5_needed_64 : decode cX5_needed 64 = .ok (.iconst 0, 1) := by decide +kernel
theorem dX5_needed_65 : decode cX5_needed 65 = .ok (.iadd, 1) := by decide +kernel
theorem dX5_needed_66 : decode cX5_needed 66 = .ok (.istore_n 3, 1) := by decide +kernel
theorem dX5_needed_67 : decode cX5_needed 67 = .ok (.iinc 5 1, 3) := by decide +kernel
theorem dX5_needed_70 : decode cX5_needed 70 = .ok (.goto (-43), 3) := by decide +kernel
theorem dX5_needed_73 : decode cX5_needed 73 = .ok (.iload_n 3, 1) := by decide +kernel
theorem dX5_needed_74 : decode cX5_needed 74 = .ok (.iconst 1, 1) := by decide +kernel
theorem dX5_needed_75 : decode cX5_needed 75 = .ok (.iadd, 1) := by decide +kernel
theorem dX5_needed_76 : decode cX5_needed 76 = .ok (.iconst 2, 1) := by decide +kernel
theorem dX5_needed_77 : decode cX5_needed 77 = .ok (.idiv, 1) := by decide +kernel
theorem dX5_needed_78 : decode cX5_needed 78 = .ok (.ireturn, 1) := by decide +kernel
theorem dX5_put_0 : decode cX5_put 0 = .ok (.iconst 0, 1) := by decide +kernel
theorem dX5_put_1 : decode cX5_put 1 = .ok (.istore_n 3, 1) := by decide +kernel
theorem dX5_put_2 : decode cX5_put 2 = .ok (.iconst 1, 1) := by decide +kernel
theorem dX5_put_3 : decode cX5_put 3 = .ok (.istore 4, 2) := by decide +kernel
theorem dX5_put_5 : decode cX5_put 5 = .ok (.lload_n 1, 1) := by decide +kernel
theorem dX5_put_6 : decode cX5_put 6 = .ok (.lstore 5, 2) := by decide +kernel
theorem dX5_put_8 : decode cX5_put 8 = .ok (.iload_n 3, 1) := by decide +kernel
theorem dX5_put_9 : decode cX5_put 9 = .ok (.bipush 8, 2) := by decide +kernel
theorem dX5_put_11 : decode cX5_put 11 = .ok (.if_icmp .ge 57, 3) := by decide +kernel
theorem dX5_put_14 : decode cX5_put 14 = .ok (.lload 5, 2) := by decide +kernel
theorem dX5_put_16 : decode cX5_put 16 = .ok (.ldc2_w 151, 3) := by decide +kernel
theorem dX5_put_19 : decode cX5_put 19 = .ok (.land, 1) := by decide +kernel
theorem dX5_put_20 : decode cX5_put 20 = .ok (.lconst 0, 1) := by decide +kernel
theorem dX5_put_21 : decode cX5_put 21 = .ok (.lcmp, 1) := by decide +kernel
theorem dX5_put_22 : decode cX5_put 22 = .ok (.ifCond .eq 46, 3) := by decide +kernel
theorem dX5_put_25 : decode cX5_put 25 = .ok (.iload 4, 2) := by decide +kernel
theorem dX5_put_27 : decode cX5_put 27 = .ok (.ifCond .eq 25, 3) := by decide +kernel
theorem dX5_put_30 : decode cX5_put 30 = .ok (.lload 5, 2) := by decide +kernel
theorem dX5_put_32 : decode cX5_put 32 = .ok (.ldc2_w 151, 3) := by decide +kernel
theorem dX5_put_35 : decode cX5_put 35 = .ok (.land, 1) := by decide +kernel
theorem dX5_put_36 : decode cX5_put 36 = .ok (.ldc2_w 153, 3) := by decide +kernel
theorem dX5_put_39 : decode cX5_put 39 = .ok (.ldc2_w 155, 3) := by decide +kernel
theorem dX5_put_42 : decode cX5_put 42 = .ok (.invokestatic 38, 3) := by decide +kernel
theorem dX5_put_45 : decode cX5_put 45 = .ok (.ifCond .eq 7, 3) := by decide +kernel
theorem dX5_put_48 : decode cX5_put 48 = .ok (.iconst 1, 1) := by decide +kernel
theorem dX5_put_49 : decode cX5_put 49 = .ok (.goto 4, 3) := by decide +kernel
theorem dX5_put_52 : decode cX5_put 52 = .ok (.iconst 0, 1) := by decide +kernel
theorem dX5_put_53 : decode cX5_put 53 = .ok (.istore 4, 2) := by decide +kernel
theorem dX5_put_55 : decode cX5_put 55 = .ok (.lload 5, 2) := by decide +kernel
theorem dX5_put_57 : decode cX5_put 57 = .ok (.bipush 8, 2) := by decide +kernel
theorem dX5_put_59 : decode cX5_put 59 = .ok (.lushr, 1) := by decide +kernel
theorem dX5_put_60 : decode cX5_put 60 = .ok (.lstore 5, 2) := by decide +kernel
theorem dX5_put_62 : decode cX5_put 62 = .ok (.iinc 3 1, 3) := by decide +kernel
theorem dX5_put_65 : decode cX5_put 65 = .ok (.goto (-57), 3) := by decide +kernel
theorem dX5_put_68 : decode cX5_put 68 = .ok (.iload_n 3, 1) := by decide +kernel
theorem dX5_put_69 : decode cX5_put 69 = .ok (.ifCond .eq 15, 3) := by decide +kernel
theorem dX5_put_72 : decode cX5_put 72 = .ok (.lload 5, 2) := by decide +kernel
theorem dX5_put_74 : decode cX5_put 74 = .ok (.lconst 0, 1) := by decide +kernel
theorem dX5_put_75 : decode cX5_put 75 = .ok (.lcmp, 1) := by decide +kernel
theorem dX5_put_76 : decode cX5_put 76 = .ok (.ifCond .ne 8, 3) := by decide +kernel
theorem dX5_put_79 : decode cX5_put 79 = .ok (.iload 4, 2) := by decide +kernel
theorem dX5_put_81 : decode cX5_put 81 = .ok (.ifCond .ne 6, 3) := by decide +kernel
theorem dX5_put_84 : decode cX5_put 84 = .ok (.bipush (-2), 2) := by decide +kernel
theorem dX5_put_86 : decode cX5_put 86 = .ok (.ireturn, 1) := by decide +kernel
theorem dX5_put_87 : decode cX5_put 87 = .ok (.aload_n 0, 1) := by decide +kernel
theorem dX5_put_88 : decode cX5_put 88 = .ok (.getfield 141, 3) := by decide +kernel
theorem dX5_put_91 : decode cX5_put 91 = .ok (.iload_n 3, 1) := by decide +kernel
theorem dX5_put_92 : decode cX5_put 92 = .ok (.iadd, 1) := by decide +kernel
theorem dX5_put_93 : decode cX5_put 93 = .ok (.bipush 80, 2) := by decide +kernel
theorem dX5_put_95 : decode cX5_put 95 = .ok (.if_icmp .le 6, 3) := by decide +kernel
theorem dX5_put_98 : decode cX5_put 98 = .ok (.bipush (-4), 2) := by decide +kernel
theorem dX5_put_100 : decode cX5_put 100 = .ok (.ireturn, 1) := by decide +kernel
theorem dX5_put_101 : decode cX5_put 101 = .ok (.iload_n 3, 1) := by decide +kernel
theorem dX5_put_102 : decode cX5_put 102 = .ok (.iconst 1, 1) := by decide +kernel
theorem dX5_put_103 : decode cX5_put 103 = .ok (.isub, 1) := by decide +kernel
theorem dX5_put_104 : decode cX5_put 104 = .ok (.istore 7, 2) := by decide +kernel
theorem dX5_put_106 : decode cX5_put 106 = .ok (.iload 7, 2) := by decide +kernel
theorem dX5_put_108 : decode cX5_put 108 = .ok (.ifCond .lt 40, 3) := by decide +kernel
theorem dX5_put_111 : decode cX5_put 111 = .ok (.aload_n 0, 1) := by decide +kernel
theorem dX5_put_112 : decode cX5_put 112 = .ok (.getfield 28, 3) := by decide +kernel
theorem dX5_put_115 : decode cX5_put 115 = .ok (.aload_n 0, 1) := by decide +kernel
theorem dX5_put_116 : decode cX5_put 116 = .ok (.getfield 141, 3) := by decide +kernel
theorem dX5_put_119 : decode cX5_put 119 = .ok (.lload_n 1, 1) := by decide +kernel
theorem dX5_put_120 : decode cX5_put 120 = .ok (.bipush 8, 2) := by decide +kernel
theorem dX5_put_122 : decode cX5_put 122 = .ok (.iload 7, 2) := by decide +kernel
theorem dX5_put_124 : decode cX5_put 124 = .ok (.imul, 1) := by decide +kernel
theorem dX5_put_125 : decode cX5_put 125 = .ok (.lushr, 1) := by decide +kernel
theorem dX5_put_126 : decode cX5_put 126 = .ok (.ldc2_w 151, 3) := by decide +kernel
theorem dX5_put_129 : decode cX5_put 129 = .ok (.land, 1) := by decide +kernel
theorem dX5_put_130 : decode cX5_put 130 = .ok (.l2i, 1) := by decide +kernel
theorem dX5_put_131 : decode cX5_put 131 = .ok (.iastore, 1) := by decide +kernel
theorem dX5_put_132 : decode cX5_put 132 = .ok (.aload_n 0, 1) := by decide +kernel
theorem dX5_put_133 : decode cX5_put 133 = .ok (.dup, 1) := by decide +kernel
theorem dX5_put_134 : decode cX5_put 134 = .ok (.getfield 141, 3) := by decide +kernel
theorem dX5_put_137 : decode cX5_put 137 = .ok (.iconst 1, 1) := by decide +kernel
theorem dX5_put_138 : decode cX5_put 138 = .ok (.iadd, 1) := by decide +kernel
theorem dX5_put_139 : decode cX5_put 139 = .ok (.putfield 141, 3) := by decide +kernel
theorem dX5_put_142 : decode cX5_put 142 = .ok (.iinc 7 (-1), 3) := by decide +kernel
theorem dX5_put_145 : decode cX5_put 145 = .ok (.goto (-39), 3) := by decide +kernel
theorem dX5_put_148 : decode cX5_put 148 = .ok (.aload_n 0, 1) := by decide +kernel
theorem dX5_put_149 : decode cX5_put 149 = .ok (.getfield 141, 3) := by decide +kernel
theorem dX5_put_152 : decode cX5_put 152 = .ok (.ireturn, 1) := by decide +kernel
theorem dX5_wipe_0 : decode cX5_wipe 0 = .ok (.aload_n 0, 1) := by decide +kernel
theorem dX5_wipe_1 : decode cX5_wipe 1 = .ok (.getfield 141, 3) := by decide +kernel
theorem dX5_wipe_4 : decode cX5_wipe 4 = .ok (.istore_n 1, 1) := by decide +kernel
theorem dX5_wipe_5 : decode cX5_wipe 5 = .ok (.aload_n 0, 1) := by decide +kernel
theorem dX5_wipe_6 : decode cX5_wipe 6 = .ok (.iconst 0, 1) := by decide +kernel
theorem dX5_wipe_7 : decode cX5_wipe 7 = .ok (.putfield 141, 3) := by decide +kernel
theorem dX5_wipe_10 : decode cX5_wipe 10 = .ok (.iload_n 1, 1) := by decide +kernel
theorem dX5_wipe_11 : decode cX5_wipe 11 = .ok (.ireturn, 1) := by decide +kernel
theorem dX5_isHere_0 : decode cX5_isHere 0 = .ok (.aload_n 0, 1) := by decide +kernel
theorem dX5_isHere_1 : decode cX5_isHere 1 = .ok (.getfield 157, 3) := by decide +kernel
theorem dX5_isHere_4 : decode cX5_isHere 4 = .ok (.aload_n 0, 1) := by decide +kernel
theorem dX5_isHere_5 : decode cX5_isHere 5 = .ok (.getfield 141, 3) := by decide +kernel
theorem dX5_isHere_8 : decode cX5_isHere 8 = .ok (.if_icmp .ge 27, 3) := by decide +kernel
theorem dX5_isHere_11 : decode cX5_isHere 11 = .ok (.aload_n 0, 1) := by decide +kernel
theorem dX5_isHere_12 : decode cX5_isHere 12 = .ok (.getfield 28, 3) := by decide +kernel
theorem dX5_isHere_15 : decode cX5_isHere 15 = .ok (.aload_n 0, 1) := by decide +kernel
theorem dX5_isHere_16 : decode cX5_isHere 16 = .ok (.getfield 157, 3) := by decide +kernel
theorem dX5_isHere_19 : decode cX5_isHere 19 = .ok (.iaload, 1) := by decide +kernel
theorem dX5_isHere_20 : decode cX5_isHere 20 = .ok (.i2l, 1) := by decide +kernel
theorem dX5_isHere_21 : decode cX5_isHere 21 = .ok (.iload_n 1, 1) := by decide +kernel
theorem dX5_isHere_22 : decode cX5_isHere 22 = .ok (.i2l, 1) := by decide +kernel
theorem dX5_isHere_23 : decode cX5_isHere 23 = .ok (.iload_n 2, 1) := by decide +kernel
theorem dX5_isHere_24 : decode cX5_isHere 24 = .ok (.i2l, 1) := by decide +kernel
theorem dX5_isHere_25 : decode cX5_isHere 25 = .ok (.invokestatic 38, 3) := by decide +kernel
theorem dX5_isHere_28 : decode cX5_isHere 28 = .ok (.ifCond .eq 7, 3) := by decide +kernel
theorem dX5_isHere_31 : decode cX5_isHere 31 = .ok (.iconst 1, 1) := by decide +kernel
theorem dX5_isHere_32 : decode cX5_isHere 32 = .ok (.goto 4, 3) := by decide +kernel
theorem dX5_isHere_35 : decode cX5_isHere 35 = .ok (.iconst 0, 1) := by decide +kernel
theorem dX5_isHere_36 : decode cX5_isHere 36 = .ok (.ireturn, 1) := by decide +kernel
theorem dX5_takes_0 : decode cX5_takes 0 = .ok (.aload_n 0, 1) := by decide +kernel
theorem dX5_takes_1 : decode cX5_takes 1 = .ok (.iload_n 1, 1) := by decide +kernel
theorem dX5_takes_2 : decode cX5_takes 2 = .ok (.iload_n 1, 1) := by decide +kernel
theorem dX5_takes_3 : decode cX5_takes 3 = .ok (.invokevirtual 160, 3) := by decide +kernel
theorem dX5_takes_6 : decode cX5_takes 6 = .ok (.istore_n 2, 1) := by decide +kernel
theorem dX5_takes_7 : decode cX5_takes 7 = .ok (.aload_n 0, 1) := by decide +kernel
theorem dX5_takes_8 : decode cX5_takes 8 = .ok (.dup, 1) := by decide +kernel
theorem dX5_takes_9 : decode cX5_takes 9 = .ok (.getfield 157, 3) := by decide +kernel
theorem dX5_takes_12 : decode cX5_takes 12 = .ok (.iload_n 2, 1) := by decide +kernel
theorem dX5_takes_13 : decode cX5_takes 13 = .ok (.ifCond .eq 7, 3) := by decide +kernel
theorem dX5_takes_16 : decode cX5_takes 16 = .ok (.iconst 1, 1) := by decide +kernel
theorem dX5_takes_17 : decode cX5_takes 17 = .ok (.goto 4, 3) := by decide +kernel
theorem dX5_takes_20 : decode cX5_takes 20 = .ok (.iconst 0, 1) := by decide +kernel
theorem dX5_takes_21 : decode cX5_takes 21 = .ok (.iadd, 1) := by decide +kernel
theorem dX5_takes_22 : decode cX5_takes 22 = .ok (.putfield 157, 3) := by decide +kernel
theorem dX5_takes_25 : decode cX5_takes 25 = .ok (.iload_n 2, 1) := by decide +kernel
theorem dX5_takes_26 : decode cX5_takes 26 = .ok (.ireturn, 1) := by decide +kernel
theorem dX5_readsNumber_0 : decode cX5_readsNumber 0 = .ok (.aload_n 0, 1) := by decide +kernel
theorem dX5_readsNumber_1 : decode cX5_readsNumber 1 = .ok (.bipush 48, 2) := by decide +kernel
theorem dX5_readsNumber_3 : decode cX5_readsNumber 3 = .ok (.iload_n 1, 1) := by decide +kernel
theorem dX5_readsNumber_4 : decode cX5_readsNumber 4 = .ok (.iadd, 1) := by decide +kernel
theorem dX5_readsNumber_5 : decode cX5_readsNumber 5 = .ok (.bipush 57, 2) := by decide +kernel
theorem dX5_readsNumber_7 : decode cX5_readsNumber 7 = .ok (.invokevirtual 160, 3) := by decide +kernel
theorem dX5_readsNumber_10 : decode cX5_readsNumber 10 = .ok (.ifCond .ne 5, 3) := by decide +kernel
theorem dX5_readsNumber_13 : decode cX5_readsNumber 13 = .ok (.iconst 0, 1) := by decide +kernel
theorem dX5_readsNumber_14 : decode cX5_readsNumber 14 = .ok (.ireturn, 1) := by decide +kernel
theorem dX5_readsNumber_15 : decode cX5_readsNumber 15 = .ok (.aload_n 0, 1) := by decide +kernel
theorem dX5_readsNumber_16 : decode cX5_readsNumber 16 = .ok (.aload_n 0, 1) := by decide +kernel
theorem dX5_readsNumber_17 : decode cX5_readsNumber 17 = .ok (.getfield 28, 3) := by decide +kernel
theorem dX5_readsNumber_20 : decode cX5_readsNumber 20 = .ok (.aload_n 0, 1) := by decide +kernel
theorem dX5_readsNumber_21 : decode cX5_readsNumber 21 = .ok (.getfield 157, 3) := by decide +kernel
theorem dX5_readsNumber_24 : decode cX5_readsNumber 24 = .ok (.iaload, 1) := by decide +kernel
theorem dX5_readsNumber_25 : decode cX5_readsNumber 25 = .ok (.bipush 48, 2) := by decide +kernel
theorem dX5_readsNumber_27 : decode cX5_readsNumber 27 = .ok (.isub, 1) := by decide +kernel
theorem dX5_readsNumber_28 : decode cX5_readsNumber 28 = .ok (.putfield 163, 3) := by decide +kernel
theorem dX5_readsNumber_31 : decode cX5_readsNumber 31 = .ok (.aload_n 0, 1) := by decide +kernel
theorem dX5_readsNumber_32 : decode cX5_readsNumber 32 = .ok (.dup, 1) := by decide +kernel
theorem dX5_readsNumber_33 : decode cX5_readsNumber 33 = .ok (.getfield 157, 3) := by decide +kernel
theorem dX5_readsNumber_36 : decode cX5_readsNumber 36 = .ok (.iconst 1, 1) := by decide +kernel
theorem dX5_readsNumber_37 : decode cX5_readsNumber 37 = .ok (.iadd, 1) := by decide +kernel
theorem dX5_readsNumber_38 : decode cX5_readsNumber 38 = .ok (.putfield 157, 3) := by decide +kernel
theorem dX5_readsNumber_41 : decode cX5_readsNumber 41 = .ok (.aload_n 0, 1) := by decide +kernel
theorem dX5_readsNumber_42 : decode cX5_readsNumber 42 = .ok (.getfield 163, 3) := by decide +kernel
theorem dX5_readsNumber_45 : decode cX5_readsNumber 45 = .ok (.ifCond .le 72, 3) := by decide +kernel
theorem dX5_readsNumber_48 : decode cX5_readsNumber 48 = .ok (.aload_n 0, 1) := by decide +kernel
theorem dX5_readsNumber_49 : decode cX5_readsNumber 49 = .ok (.bipush 48, 2) := by decide +kernel
theorem dX5_readsNumber_51 : decode cX5_readsNumber 51 = .ok (.bipush 57, 2) := by decide +kernel
theorem dX5_readsNumber_53 : decode cX5_readsNumber 53 = .ok (.invokevirtual 160, 3) := by decide +kernel
theorem dX5_readsNumber_56 : decode cX5_readsNumber 56 = .ok (.ifCond .eq 61, 3) := by decide +kernel
theorem dX5_readsNumber_59 : decode cX5_readsNumber 59 = .ok (.bipush 10, 2) := by decide +kernel
theorem dX5_readsNumber_61 : decode cX5_readsNumber 61 = .ok (.aload_n 0, 1) := by decide +kernel
theorem dX5_readsNumber_62 : decode cX5_readsNumber 62 = .ok (.getfield 163, 3) := by decide +kernel
theorem dX5_readsNumber_65 : decode cX5_readsNumber 65 = .ok (.imul, 1) := by decide +kernel
theorem dX5_readsNumber_66 : decode cX5_readsNumber 66 = .ok (.aload_n 0, 1) := by decide +kernel
theorem dX5_readsNumber_67 : decode cX5_readsNumber 67 = .ok (.getfield 28, 3) := by decide +kernel
theorem dX5_readsNumber_70 : decode cX5_readsNumber 70 = .ok (.aload_n 0, 1) := by decide +kernel
theorem dX5_readsNumber_71 : decode cX5_readsNumber 71 = .ok (.getfield 157, 3) := by decide +kernel
theorem dX5_readsNumber_74 : decode cX5_readsNumber 74 = .ok (.iaload, 1) := by decide +kernel
theorem dX5_readsNumber_75 : decode cX5_readsNumber 75 = .ok (.iadd, 1) := by decide +kernel
theorem dX5_readsNumber_76 : decode cX5_readsNumber 76 = .ok (.bipush 48, 2) := by decide +kernel
theorem dX5_readsNumber_78 : decode cX5_readsNumber 78 = .ok (.isub, 1) := by decide +kernel
theorem dX5_readsNumber_79 : decode cX5_readsNumber 79 = .ok (.iload_n 2, 1) := by decide +kernel
theorem dX5_readsNumber_80 : decode cX5_readsNumber 80 = .ok (.if_icmp .gt 37, 3) := by decide +kernel
theorem dX5_readsNumber_83 : decode cX5_readsNumber 83 = .ok (.aload_n 0, 1) := by decide +kernel
theorem dX5_readsNumber_84 : decode cX5_readsNumber 84 = .ok (.bipush 10, 2) := by decide +kernel
theorem dX5_readsNumber_86 : decode cX5_readsNumber 86 = .ok (.aload_n 0, 1) := by decide +kernel
theorem dX5_readsNumber_87 : decode cX5_readsNumber 87 = .ok (.getfield 163, 3) := by decide +kernel
theorem dX5_readsNumber_90 : decode cX5_readsNumber 90 = .ok (.imul, 1) := by decide +kernel
theorem dX5_readsNumber_91 : decode cX5_readsNumber 91 = .ok (.aload_n 0, 1) := by decide +kernel
theorem dX5_readsNumber_92 : decode cX5_readsNumber 92 = .ok (.getfield 28, 3) := by decide +kernel
theorem dX5_readsNumber_95 : decode cX5_readsNumber 95 = .ok (.aload_n 0, 1) := by decide +kernel
theorem dX5_readsNumber_96 : decode cX5_readsNumber 96 = .ok (.getfield 157, 3) := by decide +kernel
theorem dX5_readsNumber_99 : decode cX5_readsNumber 99 = .ok (.iaload, 1) := by decide +kernel
theorem dX5_readsNumber_100 : decode cX5_readsNumber 100 = .ok (.iadd, 1) := by decide +kernel
theorem dX5_readsNumber_101 : decode cX5_readsNumber 101 = .ok (.bipush 48, 2) := by decide +kernel
theorem dX5_readsNumber_103 : decode cX5_readsNumber 103 = .ok (.isub, 1) := by decide +kernel
theorem dX5_readsNumber_104 : decode cX5_readsNumber 104 = .ok (.putfield 163, 3) := by decide +kernel
theorem dX5_readsNumber_107 : decode cX5_readsNumber 107 = .ok (.aload_n 0, 1) := by decide +kernel
theorem dX5_readsNumber_108 : decode cX5_readsNumber 108 = .ok (.dup, 1) := by decide +kernel
theorem dX5_readsNumber_109 : decode cX5_readsNumber 109 = .ok (.getfield 157, 3) := by decide +kernel
theorem dX5_readsNumber_112 : decode cX5_readsNumber 112 = .ok (.iconst 1, 1) := by decide +kernel
theorem dX5_readsNumber_113 : decode cX5_readsNumber 113 = .ok (.iadd, 1) := by decide +kernel
theorem dX5_readsNumber_114 : decode cX5_readsNumber 114 = .ok (.putfield 157, 3) := by decide +kernel
theorem dX5_readsNumber_117 : decode cX5_readsNumber 117 = .ok (.iconst 1, 1) := by decide +kernel
theorem dX5_readsNumber_118 : decode cX5_readsNumber 118 = .ok (.ireturn, 1) := by decide +kernel
theorem dX5_readsRoad_0 : decode cX5_readsRoad 0 = .ok (.aload_n 0, 1) := by decide +kernel
theorem dX5_readsRoad_1 : decode cX5_readsRoad 1 = .ok (.iconst 0, 1) := by decide +kernel
theorem dX5_readsRoad_2 : decode cX5_readsRoad 2 = .ok (.bipush 15, 2) := by decide +kernel
theorem dX5_readsRoad_4 : decode cX5_readsRoad 4 = .ok (.invokevirtual 166, 3) := by decide +kernel
theorem dX5_readsRoad_7 : decode cX5_readsRoad 7 = .ok (.ifCond .ne 5, 3) := by decide +kernel
theorem dX5_readsRoad_10 : decode cX5_readsRoad 10 = .ok (.iconst 0, 1) := by decide +kernel
theorem dX5_readsRoad_11 : decode cX5_readsRoad 11 = .ok (.ireturn, 1) := by decide +kernel
theorem dX5_readsRoad_12 : decode cX5_readsRoad 12 = .ok (.aload_n 0, 1) := by decide +kernel
theorem dX5_readsRoad_13 : decode cX5_readsRoad 13 = .ok (.getfield 163, 3) := by decide +kernel
theorem dX5_readsRoad_16 : decode cX5_readsRoad 16 = .ok (.istore_n 1, 1) := by decide +kernel
theorem dX5_readsRoad_17 : decode cX5_readsRoad 17 = .ok (.aload_n 0, 1) := by decide +kernel
theorem dX5_readsRoad_18 : decode cX5_readsRoad 18 = .ok (.bipush 45, 2) := by decide +kernel
theorem dX5_readsRoad_20 : decode cX5_readsRoad 20 = .ok (.invokevirtual 169, 3) := by decide +kernel
theorem dX5_readsRoad_23 : decode cX5_readsRoad 23 = .ok (.ifCond .eq 13, 3) := by decide +kernel
theorem dX5_readsRoad_26 : decode cX5_readsRoad 26 = .ok (.aload_n 0, 1) := by decide +kernel
theorem dX5_readsRoad_27 : decode cX5_readsRoad 27 = .ok (.iconst 0, 1) := by decide +kernel
theorem dX5_readsRoad_28 : decode cX5_readsRoad 28 = .ok (.bipush 15, 2) := by decide +kernel
theorem dX5_readsRoad_30 : decode cX5_readsRoad 30 = .ok (.invokevirtual 166, 3) := by decide +kernel
theorem dX5_readsRoad_33 : decode cX5_readsRoad 33 = .ok (.ifCond .ne 5, 3) := by decide +kernel
theorem dX5_readsRoad_36 : decode cX5_readsRoad 36 = .ok (.iconst 0, 1) := by decide +kernel
theorem dX5_readsRoad_37 : decode cX5_readsRoad 37 = .ok (.ireturn, 1) := by decide +kernel
theorem dX5_readsRoad_38 : decode cX5_readsRoad 38 = .ok (.aload_n 0, 1) := by decide +kernel
theorem dX5_readsRoad_39 : decode cX5_readsRoad 39 = .ok (.getfield 163, 3) := by decide +kernel
theorem dX5_readsRoad_42 : decode cX5_readsRoad 42 = .ok (.istore_n 2, 1) := by decide +kernel
theorem dX5_readsRoad_43 : decode cX5_readsRoad 43 = .ok (.aload_n 0, 1) := by decide +kernel
theorem dX5_readsRoad_44 : decode cX5_readsRoad 44 = .ok (.bipush 58, 2) := by decide +kernel
theorem dX5_readsRoad_46 : decode cX5_readsRoad 46 = .ok (.invokevirtual 169, 3) := by decide +kernel
theorem dX5_readsRoad_49 : decode cX5_readsRoad 49 = .ok (.ifCond .eq 13, 3) := by decide +kernel
theorem dX5_readsRoad_52 : decode cX5_readsRoad 52 = .ok (.aload_n 0, 1) := by decide +kernel
theorem dX5_readsRoad_53 : decode cX5_readsRoad 53 = .ok (.iconst 1, 1) := by decide +kernel
theorem dX5_readsRoad_54 : decode cX5_readsRoad 54 = .ok (.bipush 99, 2) := by decide +kernel
theorem dX5_readsRoad_56 : decode cX5_readsRoad 56 = .ok (.invokevirtual 166, 3) := by decide +kernel
theorem dX5_readsRoad_59 : decode cX5_readsRoad 59 = .ok (.ifCond .ne 5, 3) := by decide +kernel
theorem dX5_readsRoad_62 : decode cX5_readsRoad 62 = .ok (.iconst 0, 1) := by decide +kernel
theorem dX5_readsRoad_63 : decode cX5_readsRoad 63 = .ok (.ireturn, 1) := by decide +kernel
theorem dX5_readsRoad_64 : decode cX5_readsRoad 64 = .ok (.aload_n 0, 1) := by decide +kernel
theorem dX5_readsRoad_65 : decode cX5_readsRoad 65 = .ok (.getfield 31, 3) := by decide +kernel
theorem dX5_readsRoad_68 : decode cX5_readsRoad 68 = .ok (.iconst 3, 1) := by decide +kernel
theorem dX5_readsRoad_69 : decode cX5_readsRoad 69 = .ok (.aload_n 0, 1) := by decide +kernel
theorem dX5_readsRoad_70 : decode cX5_readsRoad 70 = .ok (.getfield 172, 3) := by decide +kernel
theorem dX5_readsRoad_73 : decode cX5_readsRoad 73 = .ok (.imul, 1) := by decide +kernel
theorem dX5_readsRoad_74 : decode cX5_readsRoad 74 = .ok (.iload_n 1, 1) := by decide +kernel
theorem dX5_readsRoad_75 : decode cX5_readsRoad 75 = .ok (.iastore, 1) := by decide +kernel
theorem dX5_readsRoad_76 : decode cX5_readsRoad 76 = .ok (.aload_n 0, 1) := by decide +kernel
theorem dX5_readsRoad_77 : decode cX5_readsRoad 77 = .ok (.getfield 31, 3) := by decide +kernel
theorem dX5_readsRoad_80 : decode cX5_readsRoad 80 = .ok (.iconst 3, 1) := by decide +kernel
theorem dX5_readsRoad_81 : decode cX5_readsRoad 81 = .ok (.aload_n 0, 1) := by decide +kernel
theorem dX5_readsRoad_82 : decode cX5_readsRoad 82 = .ok (.getfield 172, 3) := by decide +kernel
theorem dX5_readsRoad_85 : decode cX5_readsRoad 85 = .ok (.imul, 1) := by decide +kernel
theorem dX5_readsRoad_86 : decode cX5_readsRoad 86 = .ok (.iconst 1, 1) := by decide +kernel
theorem dX5_readsRoad_87 : decode cX5_readsRoad 87 = .ok (.iadd, 1) := by decide +kernel
theorem dX5_readsRoad_88 : decode cX5_readsRoad 88 = .ok (.iload_n 2, 1) := by decide +kernel
theorem dX5_readsRoad_89 : decode cX5_readsRoad 89 = .ok (.iastore, 1) := by decide +kernel
theorem dX5_readsRoad_90 : decode cX5_readsRoad 90 = .ok (.aload_n 0, 1) := by decide +kernel
theorem dX5_readsRoad_91 : decode cX5_readsRoad 91 = .ok (.getfield 31, 3) := by decide +kernel
theorem dX5_readsRoad_94 : decode cX5_readsRoad 94 = .ok (.iconst 3, 1) := by decide +kernel
theorem dX5_readsRoad_95 : decode cX5_readsRoad 95 = .ok (.aload_n 0, 1) := by decide +kernel
theorem dX5_readsRoad_96 : decode cX5_readsRoad 96 = .ok (.getfield 172, 3) := by decide +kernel
theorem dX5_readsRoad_99 : decode cX5_readsRoad 99 = .ok (.imul, 1) := by decide +kernel
theorem dX5_readsRoad_100 : decode cX5_readsRoad 100 = .ok (.iconst 2, 1) := by decide +kernel
theorem dX5_readsRoad_101 : decode cX5_readsRoad 101 = .ok (.iadd, 1) := by decide +kernel
theorem dX5_readsRoad_102 : decode cX5_readsRoad 102 = .ok (.aload_n 0, 1) := by decide +kernel
theorem dX5_readsRoad_103 : decode cX5_readsRoad 103 = .ok (.getfield 163, 3) := by decide +kernel
theorem dX5_readsRoad_106 : decode cX5_readsRoad 106 = .ok (.iastore, 1) := by decide +kernel
theorem dX5_readsRoad_107 : decode cX5_readsRoad 107 = .ok (.aload_n 0, 1) := by decide +kernel
theorem dX5_readsRoad_108 : decode cX5_readsRoad 108 = .ok (.dup, 1) := by decide +kernel
theorem dX5_readsRoad_109 : decode cX5_readsRoad 109 = .ok (.getfield 172, 3) := by decide +kernel
theorem dX5_readsRoad_112 : decode cX5_readsRoad 112 = .ok (.iconst 1, 1) := by decide +kernel
theorem dX5_readsRoad_113 : decode cX5_readsRoad 113 = .ok (.iadd, 1) := by decide +kernel
theorem dX5_readsRoad_114 : decode cX5_readsRoad 114 = .ok (.putfield 172, 3) := by decide +kernel
theorem dX5_readsRoad_117 : decode cX5_readsRoad 117 = .ok (.iconst 1, 1) := by decide +kernel
theorem dX5_readsRoad_118 : decode cX5_readsRoad 118 = .ok (.ireturn, 1) := by decide +kernel
theorem dX5_fault_0 : decode cX5_fault 0 = .ok (.aload_n 0, 1) := by decide +kernel
theorem dX5_fault_1 : decode cX5_fault 1 = .ok (.iconst 0, 1) := by decide +kernel
theorem dX5_fault_2 : decode cX5_fault 2 = .ok (.putfield 157, 3) := by decide +kernel
theorem dX5_fault_5 : decode cX5_fault 5 = .ok (.aload_n 0, 1) := by decide +kernel
theorem dX5_fault_6 : decode cX5_fault 6 = .ok (.iconst 0, 1) := by decide +kernel
theorem dX5_fault_7 : decode cX5_fault 7 = .ok (.putfield 172, 3) := by decide +kernel
theorem dX5_fault_10 : decode cX5_fault 10 = .ok (.iconst 1, 1) := by decide +kernel
theorem dX5_fault_11 : decode cX5_fault 11 = .ok (.istore_n 1, 1) := by decide +kernel
theorem dX5_fault_12 : decode cX5_fault 12 = .ok (.iload_n 1, 1) := by decide +kernel
theorem dX5_fault_13 : decode cX5_fault 13 = .ok (.ifCond .eq 25, 3) := by decide +kernel
theorem dX5_fault_16 : decode cX5_fault 16 = .ok (.aload_n 0, 1) := by decide +kernel
theorem dX5_fault_17 : decode cX5_fault 17 = .ok (.invokevirtual 175, 3) := by decide +kernel
theorem dX5_fault_20 : decode cX5_fault 20 = .ok (.ifCond .ne 8, 3) := by decide +kernel
theorem dX5_fault_23 : decode cX5_fault 23 = .ok (.aload_n 0, 1) := by decide +kernel
theorem dX5_fault_24 : decode cX5_fault 24 = .ok (.getfield 157, 3) := by decide +kernel
theorem dX5_fault_27 : decode cX5_fault 27 = .ok (.ireturn, 1) := by decide +kernel
theorem dX5_fault_28 : decode cX5_fault 28 = .ok (.aload_n 0, 1) := by decide +kernel
theorem dX5_fault_29 : decode cX5_fault 29 = .ok (.bipush 59, 2) := by decide +kernel
theorem dX5_fault_31 : decode cX5_fault 31 = .ok (.invokevirtual 169, 3) := by decide +kernel
theorem dX5_fault_34 : decode cX5_fault 34 = .ok (.istore_n 1, 1) := by decide +kernel
theorem dX5_fault_35 : decode cX5_fault 35 = .ok (.goto (-23), 3) := by decide +kernel
theorem dX5_fault_38 : decode cX5_fault 38 = .ok (.aload_n 0, 1) := by decide +kernel
theorem dX5_fault_39 : decode cX5_fault 39 = .ok (.getfield 157, 3) := by decide +kernel
theorem dX5_fault_42 : decode cX5_fault 42 = .ok (.aload_n 0, 1) := by decide +kernel
theorem dX5_fault_43 : decode cX5_fault 43 = .ok (.getfield 141, 3) := by decide +kernel
theorem dX5_fault_46 : decode cX5_fault 46 = .ok (.if_icmp .ne 8, 3) := by decide +kernel
theorem dX5_fault_49 : decode cX5_fault 49 = .ok (.bipush (-6), 2) := by decide +kernel
theorem dX5_fault_51 : decode cX5_fault 51 = .ok (.goto 7, 3) := by decide +kernel
theorem dX5_fault_54 : decode cX5_fault 54 = .ok (.aload_n 0, 1) := by decide +kernel
theorem dX5_fault_55 : decode cX5_fault 55 = .ok (.getfield 157, 3) := by decide +kernel
theorem dX5_fault_58 : decode cX5_fault 58 = .ok (.ireturn, 1) := by decide +kernel
theorem dX5_haveAllSquares_0 : decode cX5_haveAllSquares 0 = .ok (.iconst 1, 1) := by decide +kernel
theorem dX5_haveAllSquares_1 : decode cX5_haveAllSquares 1 = .ok (.istore_n 1, 1) := by decide +kernel
theorem dX5_haveAllSquares_2 : decode cX5_haveAllSquares 2 = .ok (.iconst 0, 1) := by decide +kernel
theorem dX5_haveAllSquares_3 : decode cX5_haveAllSquares 3 = .ok (.istore_n 2, 1) := by decide +kernel
theorem dX5_haveAllSquares_4 : decode cX5_haveAllSquares 4 = .ok (.iload_n 2, 1) := by decide +kernel
theorem dX5_haveAllSquares_5 : decode cX5_haveAllSquares 5 = .ok (.aload_n 0, 1) := by decide +kernel
theorem dX5_haveAllSquares_6 : decode cX5_haveAllSquares 6 = .ok (.getfield 172, 3) := by decide +kernel
theorem dX5_haveAllSquares_9 : decode cX5_haveAllSquares 9 = .ok (.if_icmp .ge 51, 3) := by decide +kernel
theorem dX5_haveAllSquares_12 : decode cX5_haveAllSquares 12 = .ok (.iload_n 1, 1) := by decide +kernel
theorem dX5_haveAllSquares_13 : decode cX5_haveAllSquares 13 = .ok (.ifCond .eq 39, 3) := by decide +kernel
theorem dX5_haveAllSquares_16 : decode cX5_haveAllSquares 16 = .ok (.aload_n 0, 1) := by decide +kernel
theorem dX5_haveAllSquares_17 : decode cX5_haveAllSquares 17 = .ok (.aload_n 0, 1) := by decide +kernel
theorem dX5_haveAllSquares_18 : decode cX5_haveAllSquares 18 = .ok (.getfield 31, 3) := by decide +kernel
theorem dX5_haveAllSquares_21 : decode cX5_haveAllSquares 21 = .ok (.iconst 3, 1) := by decide +kernel
theorem dX5_haveAllSquares_22 : decode cX5_haveAllSquares 22 = .ok (.iload_n 2, 1) := by decide +kernel
theorem dX5_haveAllSquares_23 : decode cX5_haveAllSquares 23 = .ok (.imul, 1) := by decide +kernel
theorem dX5_haveAllSquares_24 : decode cX5_haveAllSquares 24 = .ok (.iaload, 1) := by decide +kernel
theorem dX5_haveAllSquares_25 : decode cX5_haveAllSquares 25 = .ok (.invokevirtual 78, 3) := by decide +kernel
theorem dX5_haveAllSquares_28 : decode cX5_haveAllSquares 28 = .ok (.ifCond .eq 24, 3) := by decide +kernel
theorem dX5_haveAllSquares_31 : decode cX5_haveAllSquares 31 = .ok (.aload_n 0, 1) := by decide +kernel
theorem dX5_haveAllSquares_32 : decode cX5_haveAllSquares 32 = .ok (.aload_n 0, 1) := by decide +kernel
theorem dX5_haveAllSquares_33 : decode cX5_haveAllSquares 33 = .ok (.getfield 31, 3) := by decide +kernel
theorem dX5_haveAllSquares_36 : decode cX5_haveAllSquares 36 = .ok (.iconst 3, 1) := by decide +kernel
theorem dX5_haveAllSquares_37 : decode cX5_haveAllSquares 37 = .ok (.iload_n 2, 1) := by decide +kernel
theorem dX5_haveAllSquares_38 : decode cX5_haveAllSquares 38 = .ok (.imul, 1) := by decide +kernel
theorem dX5_haveAllSquares_39 : decode cX5_haveAllSquares 39 = .ok (.iconst 1, 1) := by decide +kernel
theorem dX5_haveAllSquares_40 : decode cX5_haveAllSquares 40 = .ok (.iadd, 1) := by decide +kernel
theorem dX5_haveAllSquares_41 : decode cX5_haveAllSquares 41 = .ok (.iaload, 1) := by decide +kernel
theorem dX5_haveAllSquares_42 : decode cX5_haveAllSquares 42 = .ok (.invokevirtual 78, 3) := by decide +kernel
theorem dX5_haveAllSquares_45 : decode cX5_haveAllSquares 45 = .ok (.ifCond .eq 7, 3) := by decide +kernel
theorem dX5_haveAllSquares_48 : decode cX5_haveAllSquares 48 = .ok (.iconst 1, 1) := by decide +kernel
theorem dX5_haveAllSquares_49 : decode cX5_haveAllSquares 49 = .ok (.goto 4, 3) := by decide +kernel
theorem dX5_haveAllSquares_52 : decode cX5_haveAllSquares 52 = .ok (.iconst 0, 1) := by decide +kernel
theorem dX5_haveAllSquares_53 : decode cX5_haveAllSquares 53 = .ok (.istore_n 1, 1) := by decide +kernel
theorem dX5_haveAllSquares_54 : decode cX5_haveAllSquares 54 = .ok (.iinc 2 1, 3) := by decide +kernel
theorem dX5_haveAllSquares_57 : decode cX5_haveAllSquares 57 = .ok (.goto (-53), 3) := by decide +kernel
theorem dX5_haveAllSquares_60 : decode cX5_haveAllSquares 60 = .ok (.iload_n 1, 1) := by decide +kernel
theorem dX5_haveAllSquares_61 : decode cX5_haveAllSquares 61 = .ok (.ireturn, 1) := by decide +kernel
theorem dX5_areDifferent_0 : decode cX5_areDifferent 0 = .ok (.iconst 1, 1) := by decide +kernel
theorem dX5_areDifferent_1 : decode cX5_areDifferent 1 = .ok (.istore_n 1, 1) := by decide +kernel
theorem dX5_areDifferent_2 : decode cX5_areDifferent 2 = .ok (.iconst 0, 1) := by decide +kernel
theorem dX5_areDifferent_3 : decode cX5_areDifferent 3 = .ok (.istore_n 2, 1) := by decide +kernel
theorem dX5_areDifferent_4 : decode cX5_areDifferent 4 = .ok (.iload_n 2, 1) := by decide +kernel
theorem dX5_areDifferent_5 : decode cX5_areDifferent 5 = .ok (.aload_n 0, 1) := by decide +kernel
theorem dX5_areDifferent_6 : decode cX5_areDifferent 6 = .ok (.getfield 172, 3) := by decide +kernel
theorem dX5_areDifferent_9 : decode cX5_areDifferent 9 = .ok (.if_icmp .ge 40, 3) := by decide +kernel
theorem dX5_areDifferent_12 : decode cX5_areDifferent 12 = .ok (.iload_n 1, 1) := by decide +kernel
theorem dX5_areDifferent_13 : decode cX5_areDifferent 13 = .ok (.ifCond .eq 28, 3) := by decide +kernel
theorem dX5_areDifferent_16 : decode cX5_areDifferent 16 = .ok (.aload_n 0, 1) := by decide +kernel
theorem dX5_areDifferent_17 : decode cX5_areDifferent 17 = .ok (.getfield 31, 3) := by decide +kernel
theorem dX5_areDifferent_20 : decode cX5_areDifferent 20 = .ok (.iconst 3, 1) := by decide +kernel
theorem dX5_areDifferent_21 : decode cX5_areDifferent 21 = .ok (.iload_n 2, 1) := by decide +kernel
theorem dX5_areDifferent_22 : decode cX5_areDifferent 22 = .ok (.imul, 1) := by decide +kernel
theorem dX5_areDifferent_23 : decode cX5_areDifferent 23 = .ok (.iaload, 1) := by decide +kernel
theorem dX5_areDifferent_24 : decode cX5_areDifferent 24 = .ok (.aload_n 0, 1) := by decide +kernel
theorem dX5_areDifferent_25 : decode cX5_areDifferent 25 = .ok (.getfield 31, 3) := by decide +kernel
theorem dX5_areDifferent_28 : decode cX5_areDifferent 28 = .ok (.iconst 3, 1) := by decide +kernel
theorem dX5_areDifferent_29 : decode cX5_areDifferent 29 = .ok (.iload_n 2, 1) := by decide +kernel
theorem dX5_areDifferent_30 : decode cX5_areDifferent 30 = .ok (.imul, 1) := by decide +kernel
theorem dX5_areDifferent_31 : decode cX5_areDifferent 31 = .ok (.iconst 1, 1) := by decide +kernel
theorem dX5_areDifferent_32 : decode cX5_areDifferent 32 = .ok (.iadd, 1) := by decide +kernel
theorem dX5_areDifferent_33 : decode cX5_areDifferent 33 = .ok (.iaload, 1) := by decide +kernel
theorem dX5_areDifferent_34 : decode cX5_areDifferent 34 = .ok (.if_icmp .eq 7, 3) := by decide +kernel
theorem dX5_areDifferent_37 : decode cX5_areDifferent 37 = .ok (.iconst 1, 1) := by decide +kernel
theorem dX5_areDifferent_38 : decode cX5_areDifferent 38 = .ok (.goto 4, 3) := by decide +kernel
theorem dX5_areDifferent_41 : decode cX5_areDifferent 41 = .ok (.iconst 0, 1) := by decide +kernel
theorem dX5_areDifferent_42 : decode cX5_areDifferent 42 = .ok (.istore_n 1, 1) := by decide +kernel
theorem dX5_areDifferent_43 : decode cX5_areDifferent 43 = .ok (.iinc 2 1, 3) := by decide +kernel
theorem dX5_areDifferent_46 : decode cX5_areDifferent 46 = .ok (.goto (-42), 3) := by decide +kernel
theorem dX5_areDifferent_49 : decode cX5_areDifferent 49 = .ok (.iload_n 1, 1) := by decide +kernel
theorem dX5_areDifferent_50 : decode cX5_areDifferent 50 = .ok (.ireturn, 1) := by decide +kernel
theorem dX5_read_0 : decode cX5_read 0 = .ok (.aload_n 0, 1) := by decide +kernel
theorem dX5_read_1 : decode cX5_read 1 = .ok (.invokevirtual 179, 3) := by decide +kernel
theorem dX5_read_4 : decode cX5_read 4 = .ok (.bipush (-6), 2) := by decide +kernel
theorem dX5_read_6 : decode cX5_read 6 = .ok (.if_icmp .eq 6, 3) := by decide +kernel
theorem dX5_read_9 : decode cX5_read 9 = .ok (.bipush (-3), 2) := by decide +kernel
theorem dX5_read_11 : decode cX5_read 11 = .ok (.ireturn, 1) := by decide +kernel
theorem dX5_read_12 : decode cX5_read 12 = .ok (.aload_n 0, 1) := by decide +kernel
theorem dX5_read_13 : decode cX5_read 13 = .ok (.invokevirtual 182, 3) := by decide +kernel
theorem dX5_read_16 : decode cX5_read 16 = .ok (.ifCond .ne 5, 3) := by decide +kernel
theorem dX5_read_19 : decode cX5_read 19 = .ok (.iconst (-1), 1) := by decide +kernel
theorem dX5_read_20 : decode cX5_read 20 = .ok (.ireturn, 1) := by decide +kernel
theorem dX5_read_21 : decode cX5_read 21 = .ok (.aload_n 0, 1) := by decide +kernel
theorem dX5_read_22 : decode cX5_read 22 = .ok (.invokevirtual 185, 3) := by decide +kernel
theorem dX5_read_25 : decode cX5_read 25 = .ok (.ifCond .ne 6, 3) := by decide +kernel
theorem dX5_read_28 : decode cX5_read 28 = .ok (.bipush (-2), 2) := by decide +kernel
theorem dX5_read_30 : decode cX5_read 30 = .ok (.ireturn, 1) := by decide +kernel
theorem dX5_read_31 : decode cX5_read 31 = .ok (.aload_n 0, 1) := by decide +kernel
theorem dX5_read_32 : decode cX5_read 32 = .ok (.getfield 7, 3) := by decide +kernel
theorem dX5_read_35 : decode cX5_read 35 = .ok (.iconst 1, 1) := by decide +kernel
theorem dX5_read_36 : decode cX5_read 36 = .ok (.iaload, 1) := by decide +kernel
theorem dX5_read_37 : decode cX5_read 37 = .ok (.aload_n 0, 1) := by decide +kernel
theorem dX5_read_38 : decode cX5_read 38 = .ok (.getfield 172, 3) := by decide +kernel
theorem dX5_read_41 : decode cX5_read 41 = .ok (.iadd, 1) := by decide +kernel
theorem dX5_read_42 : decode cX5_read 42 = .ok (.bipush 30, 2) := by decide +kernel
theorem dX5_read_44 : decode cX5_read 44 = .ok (.if_icmp .le 6, 3) := by decide +kernel
theorem dX5_read_47 : decode cX5_read 47 = .ok (.bipush (-4), 2) := by decide +kernel
theorem dX5_read_49 : decode cX5_read 49 = .ok (.ireturn, 1) := by decide +kernel
theorem dX5_read_50 : decode cX5_read 50 = .ok (.aload_n 0, 1) := by decide +kernel
theorem dX5_read_51 : decode cX5_read 51 = .ok (.invokevirtual 72, 3) := by decide +kernel
theorem dX5_read_54 : decode cX5_read 54 = .ok (.iconst 0, 1) := by decide +kernel
theorem dX5_read_55 : decode cX5_read 55 = .ok (.istore_n 1, 1) := by decide +kernel
theorem dX5_read_56 : decode cX5_read 56 = .ok (.iload_n 1, 1) := by decide +kernel
theorem dX5_read_57 : decode cX5_read 57 = .ok (.aload_n 0, 1) := by decide +kernel
theorem dX5_read_58 : decode cX5_read 58 = .ok (.getfield 172, 3) := by decide +kernel
theorem dX5_read_61 : decode cX5_read 61 = .ok (.if_icmp .ge 41, 3) := by decide +kernel
theorem dX5_read_64 : decode cX5_read 64 = .ok (.aload_n 0, 1) := by decide +kernel
theorem dX5_read_65 : decode cX5_read 65 = .ok (.aload_n 0, 1) := by decide +kernel
theorem dX5_read_66 : decode cX5_read 66 = .ok (.getfield 31, 3) := by decide +kernel
theorem dX5_read_69 : decode cX5_read 69 = .ok (.iconst 3, 1) := by decide +kernel
theorem dX5_read_70 : decode cX5_read 70 = .ok (.iload_n 1, 1) := by decide +kernel
theorem dX5_read_71 : decode cX5_read 71 = .ok (.imul, 1) := by decide +kernel
theorem dX5_read_72 : decode cX5_read 72 = .ok (.iaload, 1) := by decide +kernel
theorem dX5_read_73 : decode cX5_read 73 = .ok (.aload_n 0, 1) := by decide +kernel
theorem dX5_read_74 : decode cX5_read 74 = .ok (.getfield 31, 3) := by decide +kernel
theorem dX5_read_77 : decode cX5_read 77 = .ok (.iconst 3, 1) := by decide +kernel
theorem dX5_read_78 : decode cX5_read 78 = .ok (.iload_n 1, 1) := by decide +kernel
theorem dX5_read_79 : decode cX5_read 79 = .ok (.imul, 1) := by decide +kernel
theorem dX5_read_80 : decode cX5_read 80 = .ok (.iconst 1, 1) := by decide +kernel
theorem dX5_read_81 : decode cX5_read 81 = .ok (.iadd, 1) := by decide +kernel
theorem dX5_read_82 : decode cX5_read 82 = .ok (.iaload, 1) := by decide +kernel
theorem dX5_read_83 : decode cX5_read 83 = .ok (.aload_n 0, 1) := by decide +kernel
theorem dX5_read_84 : decode cX5_read 84 = .ok (.getfield 31, 3) := by decide +kernel
theorem dX5_read_87 : decode cX5_read 87 = .ok (.iconst 3, 1) := by decide +kernel
theorem dX5_read_88 : decode cX5_read 88 = .ok (.iload_n 1, 1) := by decide +kernel
theorem dX5_read_89 : decode cX5_read 89 = .ok (.imul, 1) := by decide +kernel
theorem dX5_read_90 : decode cX5_read 90 = .ok (.iconst 2, 1) := by decide +kernel
theorem dX5_read_91 : decode cX5_read 91 = .ok (.iadd, 1) := by decide +kernel
theorem dX5_read_92 : decode cX5_read 92 = .ok (.iaload, 1) := by decide +kernel
theorem dX5_read_93 : decode cX5_read 93 = .ok (.invokevirtual 83, 3) := by decide +kernel
theorem dX5_read_96 : decode cX5_read 96 = .ok (.iinc 1 1, 3) := by decide +kernel
theorem dX5_read_99 : decode cX5_read 99 = .ok (.goto (-43), 3) := by decide +kernel
theorem dX5_read_102 : decode cX5_read 102 = .ok (.aload_n 0, 1) := by decide +kernel
theorem dX5_read_103 : decode cX5_read 103 = .ok (.iconst 0, 1) := by decide +kernel
theorem dX5_read_104 : decode cX5_read 104 = .ok (.putfield 141, 3) := by decide +kernel
theorem dX5_read_107 : decode cX5_read 107 = .ok (.aload_n 0, 1) := by decide +kernel
theorem dX5_read_108 : decode cX5_read 108 = .ok (.aload_n 0, 1) := by decide +kernel
theorem dX5_read_109 : decode cX5_read 109 = .ok (.getfield 7, 3) := by decide +kernel
theorem dX5_read_112 : decode cX5_read 112 = .ok (.iconst 1, 1) := by decide +kernel
theorem dX5_read_113 : decode cX5_read 113 = .ok (.iaload, 1) := by decide +kernel
theorem dX5_read_114 : decode cX5_read 114 = .ok (.invokevirtual 75, 3) := by decide +kernel
theorem dX5_read_117 : decode cX5_read 117 = .ok (.ireturn, 1) := by decide +kernel
theorem dX5_undo_0 : decode cX5_undo 0 = .ok (.aload_n 0, 1) := by decide +kernel
theorem dX5_undo_1 : decode cX5_undo 1 = .ok (.getfield 34, 3) := by decide +kernel
theorem dX5_undo_4 : decode cX5_undo 4 = .ok (.ifCond .ne 6, 3) := by decide +kernel
theorem dX5_undo_7 : decode cX5_undo 7 = .ok (.bipush (-5), 2) := by decide +kernel
theorem dX5_undo_9 : decode cX5_undo 9 = .ok (.ireturn, 1) := by decide +kernel
theorem dX5_undo_10 : decode cX5_undo 10 = .ok (.aload_n 0, 1) := by decide +kernel
theorem dX5_undo_11 : decode cX5_undo 11 = .ok (.dup, 1) := by decide +kernel
theorem dX5_undo_12 : decode cX5_undo 12 = .ok (.getfield 34, 3) := by decide +kernel
theorem dX5_undo_15 : decode cX5_undo 15 = .ok (.iconst 1, 1) := by decide +kernel
theorem dX5_undo_16 : decode cX5_undo 16 = .ok (.isub, 1) := by decide +kernel
theorem dX5_undo_17 : decode cX5_undo 17 = .ok (.putfield 34, 3) := by decide +kernel
theorem dX5_undo_20 : decode cX5_undo 20 = .ok (.iconst 0, 1) := by decide +kernel
theorem dX5_undo_21 : decode cX5_undo 21 = .ok (.istore_n 1, 1) := by decide +kernel
theorem dX5_undo_22 : decode cX5_undo 22 = .ok (.iload_n 1, 1) := by decide +kernel
theorem dX5_undo_23 : decode cX5_undo 23 = .ok (.bipush 92, 2) := by decide +kernel
theorem dX5_undo_25 : decode cX5_undo 25 = .ok (.if_icmp .ge 29, 3) := by decide +kernel
theorem dX5_undo_28 : decode cX5_undo 28 = .ok (.aload_n 0, 1) := by decide +kernel
theorem dX5_undo_29 : decode cX5_undo 29 = .ok (.getfield 7, 3) := by decide +kernel
theorem dX5_undo_32 : decode cX5_undo 32 = .ok (.iload_n 1, 1) := by decide +kernel
theorem dX5_undo_33 : decode cX5_undo 33 = .ok (.aload_n 0, 1) := by decide +kernel
theorem dX5_undo_34 : decode cX5_undo 34 = .ok (.getfield 16, 3) := by decide +kernel
theorem dX5_undo_37 : decode cX5_undo 37 = .ok (.bipush 92, 2) := by decide +kernel
theorem dX5_undo_39 : decode cX5_undo 39 = .ok (.aload_n 0, 1) := by decide +kernel
theorem dX5_undo_40 : decode cX5_undo 40 = .ok (.getfield 34, 3) := by decide +kernel
theorem dX5_undo_43 : decode cX5_undo 43 = .ok (.imul, 1) := by decide +kernel
theorem dX5_undo_44 : decode cX5_undo 44 = .ok (.iload_n 1, 1) := by decide +kernel
theorem dX5_undo_45 : decode cX5_undo 45 = .ok (.iadd, 1) := by decide +kernel
theorem dX5_undo_46 : decode cX5_undo 46 = .ok (.iaload, 1) := by decide +kernel
theorem dX5_undo_47 : decode cX5_undo 47 = .ok (.iastore, 1) := by decide +kernel
theorem dX5_undo_48 : decode cX5_undo 48 = .ok (.iinc 1 1, 3) := by decide +kernel
theorem dX5_undo_51 : decode cX5_undo 51 = .ok (.goto (-29), 3) := by decide +kernel
theorem dX5_undo_54 : decode cX5_undo 54 = .ok (.aload_n 0, 1) := by decide +kernel
theorem dX5_undo_55 : decode cX5_undo 55 = .ok (.getfield 34, 3) := by decide +kernel
theorem dX5_undo_58 : decode cX5_undo 58 = .ok (.ireturn, 1) := by decide +kernel
theorem dX5_save_0 : decode cX5_save 0 = .ok (.iload_n 1, 1) := by decide +kernel
theorem dX5_save_1 : decode cX5_save 1 = .ok (.i2l, 1) := by decide +kernel
theorem dX5_save_2 : decode cX5_save 2 = .ok (.lconst 0, 1) := by decide +kernel
theorem dX5_save_3 : decode cX5_save 3 = .ok (.lconst 1, 1) := by decide +kernel
theorem dX5_save_4 : decode cX5_save 4 = .ok (.invokestatic 38, 3) := by decide +kernel
theorem dX5_save_7 : decode cX5_save 7 = .ok (.ifCond .ne 6, 3) := by decide +kernel
theorem dX5_save_10 : decode cX5_save 10 = .ok (.bipush (-2), 2) := by decide +kernel
theorem dX5_save_12 : decode cX5_save 12 = .ok (.ireturn, 1) := by decide +kernel
theorem dX5_save_13 : decode cX5_save 13 = .ok (.iconst 0, 1) := by decide +kernel
theorem dX5_save_14 : decode cX5_save 14 = .ok (.istore_n 2, 1) := by decide +kernel
theorem dX5_save_15 : decode cX5_save 15 = .ok (.iload_n 2, 1) := by decide +kernel
theorem dX5_save_16 : decode cX5_save 16 = .ok (.bipush 92, 2) := by decide +kernel
theorem dX5_save_18 : decode cX5_save 18 = .ok (.if_icmp .ge 26, 3) := by decide +kernel
theorem dX5_save_21 : decode cX5_save 21 = .ok (.aload_n 0, 1) := by decide +kernel
theorem dX5_save_22 : decode cX5_save 22 = .ok (.getfield 19, 3) := by decide +kernel
theorem dX5_save_25 : decode cX5_save 25 = .ok (.bipush 92, 2) := by decide +kernel
theorem dX5_save_27 : decode cX5_save 27 = .ok (.iload_n 1, 1) := by decide +kernel
theorem dX5_save_28 : decode cX5_save 28 = .ok (.imul, 1) := by decide +kernel
theorem dX5_save_29 : decode cX5_save 29 = .ok (.iload_n 2, 1) := by decide +kernel
theorem dX5_save_30 : decode cX5_save 30 = .ok (.iadd, 1) := by decide +kernel
theorem dX5_save_31 : decode cX5_save 31 = .ok (.aload_n 0, 1) := by decide +kernel
theorem dX5_save_32 : decode cX5_save 32 = .ok (.getfield 7, 3) := by decide +kernel
theorem dX5_save_35 : decode cX5_save 35 = .ok (.iload_n 2, 1) := by decide +kernel
theorem dX5_save_36 : decode cX5_save 36 = .ok (.iaload, 1) := by decide +kernel
theorem dX5_save_37 : decode cX5_save 37 = .ok (.iastore, 1) := by decide +kernel
theorem dX5_save_38 : decode cX5_save 38 = .ok (.iinc 2 1, 3) := by decide +kernel
theorem dX5_save_41 : decode cX5_save 41 = .ok (.goto (-26), 3) := by decide +kernel
theorem dX5_save_44 : decode cX5_save 44 = .ok (.aload_n 0, 1) := by decide +kernel
theorem dX5_save_45 : decode cX5_save 45 = .ok (.getfield 22, 3) := by decide +kernel
theorem dX5_save_48 : decode cX5_save 48 = .ok (.iload_n 1, 1) := by decide +kernel
theorem dX5_save_49 : decode cX5_save 49 = .ok (.iconst 1, 1) := by decide +kernel
theorem dX5_save_50 : decode cX5_save 50 = .ok (.iastore, 1) := by decide +kernel
theorem dX5_save_51 : decode cX5_save 51 = .ok (.aload_n 0, 1) := by decide +kernel
theorem dX5_save_52 : decode cX5_save 52 = .ok (.getfield 7, 3) := by decide +kernel
theorem dX5_save_55 : decode cX5_save 55 = .ok (.iconst 1, 1) := by decide +kernel
theorem dX5_save_56 : decode cX5_save 56 = .ok (.iaload, 1) := by decide +kernel
theorem dX5_save_57 : decode cX5_save 57 = .ok (.ireturn, 1) := by decide +kernel
theorem dX5_restore_0 : decode cX5_restore 0 = .ok (.iload_n 1, 1) := by decide +kernel
theorem dX5_restore_1 : decode cX5_restore 1 = .ok (.i2l, 1) := by decide +kernel
theorem dX5_restore_2 : decode cX5_restore 2 = .ok (.lconst 0, 1) := by decide +kernel
theorem dX5_restore_3 : decode cX5_restore 3 = .ok (.lconst 1, 1) := by decide +kernel
theorem dX5_restore_4 : decode cX5_restore 4 = .ok (.invokestatic 38, 3) := by decide +kernel
theorem dX5_restore_7 : decode cX5_restore 7 = .ok (.ifCond .ne 6, 3) := by decide +kernel
theorem dX5_restore_10 : decode cX5_restore 10 = .ok (.bipush (-2), 2) := by decide +kernel
theorem dX5_restore_12 : decode cX5_restore 12 = .ok (.ireturn, 1) := by decide +kernel
theorem dX5_restore_13 : decode cX5_restore 13 = .ok (.aload_n 0, 1) := by decide +kernel
theorem dX5_restore_14 : decode cX5_restore 14 = .ok (.getfield 22, 3) := by decide +kernel
theorem dX5_restore_17 : decode cX5_restore 17 = .ok (.iload_n 1, 1) := by decide +kernel
theorem dX5_restore_18 : decode cX5_restore 18 = .ok (.iaload, 1) := by decide +kernel
theorem dX5_restore_19 : decode cX5_restore 19 = .ok (.ifCond .ne 6, 3) := by decide +kernel
theorem dX5_restore_22 : decode cX5_restore 22 = .ok (.bipush (-5), 2) := by decide +kernel
theorem dX5_restore_24 : decode cX5_restore 24 = .ok (.ireturn, 1) := by decide +kernel
theorem dX5_restore_25 : decode cX5_restore 25 = .ok (.aload_n 0, 1) := by decide +kernel
theorem dX5_restore_26 : decode cX5_restore 26 = .ok (.invokevirtual 72, 3) := by decide +kernel
theorem dX5_restore_29 : decode cX5_restore 29 = .ok (.iconst 0, 1) := by decide +kernel
theorem dX5_restore_30 : decode cX5_restore 30 = .ok (.istore_n 2, 1) := by decide +kernel
theorem dX5_restore_31 : decode cX5_restore 31 = .ok (.iload_n 2, 1) := by decide +kernel
theorem dX5_restore_32 : decode cX5_restore 32 = .ok (.bipush 92, 2) := by decide +kernel
theorem dX5_restore_34 : decode cX5_restore 34 = .ok (.if_icmp .ge 26, 3) := by decide +kernel
theorem dX5_restore_37 : decode cX5_restore 37 = .ok (.aload_n 0, 1) := by decide +kernel
theorem dX5_restore_38 : decode cX5_restore 38 = .ok (.getfield 7, 3) := by decide +kernel
theorem dX5_restore_41 : decode cX5_restore 41 = .ok (.iload_n 2, 1) := by decide +kernel
theorem dX5_restore_42 : decode cX5_restore 42 = .ok (.aload_n 0, 1) := by decide +kernel
theorem dX5_restore_43 : decode cX5_restore 43 = .ok (.getfield 19, 3) := by decide +kernel
theorem dX5_restore_46 : decode cX5_restore 46 = .ok (.bipush 92, 2) := by decide +kernel
theorem dX5_restore_48 : decode cX5_restore 48 = .ok (.iload_n 1, 1) := by decide +kernel
theorem dX5_restore_49 : decode cX5_restore 49 = .ok (.imul, 1) := by decide +kernel
theorem dX5_restore_50 : decode cX5_restore 50 = .ok (.iload_n 2, 1) := by decide +kernel
theorem dX5_restore_51 : decode cX5_restore 51 = .ok (.iadd, 1) := by decide +kernel
theorem dX5_restore_52 : decode cX5_restore 52 = .ok (.iaload, 1) := by decide +kernel
theorem dX5_restore_53 : decode cX5_restore 53 = .ok (.iastore, 1) := by decide +kernel
theorem dX5_restore_54 : decode cX5_restore 54 = .ok (.iinc 2 1, 3) := by decide +kernel
theorem dX5_restore_57 : decode cX5_restore 57 = .ok (.goto (-26), 3) := by decide +kernel
theorem dX5_restore_60 : decode cX5_restore 60 = .ok (.aload_n 0, 1) := by decide +kernel
theorem dX5_restore_61 : decode cX5_restore 61 = .ok (.aload_n 0, 1) := by decide +kernel
theorem dX5_restore_62 : decode cX5_restore 62 = .ok (.getfield 7, 3) := by decide +kernel
theorem dX5_restore_65 : decode cX5_restore 65 = .ok (.iconst 1, 1) := by decide +kernel
theorem dX5_restore_66 : decode cX5_restore 66 = .ok (.iaload, 1) := by decide +kernel
theorem dX5_restore_67 : decode cX5_restore 67 = .ok (.invokevirtual 75, 3) := by decide +kernel
theorem dX5_restore_70 : decode cX5_restore 70 = .ok (.ireturn, 1) := by decide +kernel
theorem dJ6_bitCount_0f7a4_0 : decode cJ6_bitCount_0f7a4 0 = .ok (.iload_n 0, 1) := by decide +kernel
theorem dJ6_bitCount_0f7a4_1 : decode cJ6_bitCount_0f7a4 1 = .ok (.iload_n 0, 1) := by decide +kernel
theorem dJ6_bitCount_0f7a4_2 : decode cJ6_bitCount_0f7a4 2 = .ok (.iconst 1, 1) := by decide +kernel
theorem dJ6_bitCount_0f7a4_3 : decode cJ6_bitCount_0f7a4 3 = .ok (.iushr, 1) := by decide +kernel
theorem dJ6_bitCount_0f7a4_4 : decode cJ6_bitCount_0f7a4 4 = .ok (.ldc_w 265, 3) := by decide +kernel
theorem dJ6_bitCount_0f7a4_7 : decode cJ6_bitCount_0f7a4 7 = .ok (.iand, 1) := by decide +kernel
theorem dJ6_bitCount_0f7a4_8 : decode cJ6_bitCount_0f7a4 8 = .ok (.isub, 1) := by decide +kernel
theorem dJ6_bitCount_0f7a4_9 : decode cJ6_bitCount_0f7a4 9 = .ok (.istore_n 0, 1) := by decide +kernel
theorem dJ6_bitCount_0f7a4_10 : decode cJ6_bitCount_0f7a4 10 = .ok (.iload_n 0, 1) := by decide +kernel
theorem dJ6_bitCount_0f7a4_11 : decode cJ6_bitCount_0f7a4 11 = .ok (.ldc_w 266, 3) := by decide +kernel
theorem dJ6_bitCount_0f7a4_14 : decode cJ6_bitCount_0f7a4 14 = .ok (.iand, 1) := by decide +kernel
theorem dJ6_bitCount_0f7a4_15 : decode cJ6_bitCount_0f7a4 15 = .ok (.iload_n 0, 1) := by decide +kernel
theorem dJ6_bitCount_0f7a4_16 : decode cJ6_bitCount_0f7a4 16 = .ok (.iconst 2, 1) := by decide +kernel
theorem dJ6_bitCount_0f7a4_17 : decode cJ6_bitCount_0f7a4 17 = .ok (.iushr, 1) := by decide +kernel
theorem dJ6_bitCount_0f7a4_18 : decode cJ6_bitCount_0f7a4 18 = .ok (.ldc_w 266, 3) := by decide +kernel
theorem dJ6_bitCount_0f7a4_21 : decode cJ6_bitCount_0f7a4 21 = .ok (.iand, 1) := by decide +kernel
theorem dJ6_bitCount_0f7a4_22 : decode cJ6_bitCount_0f7a4 22 = .ok (.iadd, 1) := by decide +kernel
theorem dJ6_bitCount_0f7a4_23 : decode cJ6_bitCount_0f7a4 23 = .ok (.istore_n 0, 1) := by decide +kernel
theorem dJ6_bitCount_0f7a4_24 : decode cJ6_bitCount_0f7a4 24 = .ok (.iload_n 0, 1) := by decide +kernel
theorem dJ6_bitCount_0f7a4_25 : decode cJ6_bitCount_0f7a4 25 = .ok (.iload_n 0, 1) := by decide +kernel
theorem dJ6_bitCount_0f7a4_26 : decode cJ6_bitCount_0f7a4 26 = .ok (.iconst 4, 1) := by decide +kernel
theorem dJ6_bitCount_0f7a4_27 : decode cJ6_bitCount_0f7a4 27 = .ok (.iushr, 1) := by decide +kernel
theorem dJ6_bitCount_0f7a4_28 : decode cJ6_bitCount_0f7a4 28 = .ok (.iadd, 1) := by decide +kernel
theorem dJ6_bitCount_0f7a4_29 : decode cJ6_bitCount_0f7a4 29 = .ok (.ldc_w 267, 3) := by decide +kernel
theorem dJ6_bitCount_0f7a4_32 : decode cJ6_bitCount_0f7a4 32 = .ok (.iand, 1) := by decide +kernel
theorem dJ6_bitCount_0f7a4_33 : decode cJ6_bitCount_0f7a4 33 = .ok (.istore_n 0, 1) := by decide +kernel
theorem dJ6_bitCount_0f7a4_34 : decode cJ6_bitCount_0f7a4 34 = .ok (.iload_n 0, 1) := by decide +kernel
theorem dJ6_bitCount_0f7a4_35 : decode cJ6_bitCount_0f7a4 35 = .ok (.iload_n 0, 1) := by decide +kernel
theorem dJ6_bitCount_0f7a4_36 : decode cJ6_bitCount_0f7a4 36 = .ok (.bipush 8, 2) := by decide +kernel
theorem dJ6_bitCount_0f7a4_38 : decode cJ6_bitCount_0f7a4 38 = .ok (.iushr, 1) := by decide +kernel
theorem dJ6_bitCount_0f7a4_39 : decode cJ6_bitCount_0f7a4 39 = .ok (.iadd, 1) := by decide +kernel
theorem dJ6_bitCount_0f7a4_40 : decode cJ6_bitCount_0f7a4 40 = .ok (.istore_n 0, 1) := by decide +kernel
theorem dJ6_bitCount_0f7a4_41 : decode cJ6_bitCount_0f7a4 41 = .ok (.iload_n 0, 1) := by decide +kernel
theorem dJ6_bitCount_0f7a4_42 : decode cJ6_bitCount_0f7a4 42 = .ok (.iload_n 0, 1) := by decide +kernel
theorem dJ6_bitCount_0f7a4_43 : decode cJ6_bitCount_0f7a4 43 = .ok (.bipush 16, 2) := by decide +kernel
theorem dJ6_bitCount_0f7a4_45 : decode cJ6_bitCount_0f7a4 45 = .ok (.iushr, 1) := by decide +kernel
theorem dJ6_bitCount_0f7a4_46 : decode cJ6_bitCount_0f7a4 46 = .ok (.iadd, 1) := by decide +kernel
theorem dJ6_bitCount_0f7a4_47 : decode cJ6_bitCount_0f7a4 47 = .ok (.istore_n 0, 1) := by decide +kernel
theorem dJ6_bitCount_0f7a4_48 : decode cJ6_bitCount_0f7a4 48 = .ok (.iload_n 0, 1) := by decide +kernel
theorem dJ6_bitCount_0f7a4_49 : decode cJ6_bitCount_0f7a4 49 = .ok (.bipush 63, 2) := by decide +kernel
theorem dJ6_bitCount_0f7a4_51 : decode cJ6_bitCount_0f7a4 51 = .ok (.iand, 1) := by decide +kernel
theorem dJ6_bitCount_0f7a4_52 : decode cJ6_bitCount_0f7a4 52 = .ok (.ireturn, 1) := by decide +kernel
theorem dJ9_max_7cf53_0 : decode cJ9_max_7cf53 0 = .ok (.iload_n 0, 1) := by decide +kernel
theorem dJ9_max_7cf53_1 : decode cJ9_max_7cf53 1 = .ok (.iload_n 1, 1) := by decide +kernel
theorem dJ9_max_7cf53_2 : decode cJ9_max_7cf53 2 = .ok (.if_icmp .lt 7, 3) := by decide +kernel
theorem dJ9_max_7cf53_5 : decode cJ9_max_7cf53 5 = .ok (.iload_n 0, 1) := by decide +kernel
theorem dJ9_max_7cf53_6 : decode cJ9_max_7cf53 6 = .ok (.goto 4, 3) := by decide +kernel
theorem dJ9_max_7cf53_9 : decode cJ9_max_7cf53 9 = .ok (.iload_n 1, 1) := by decide +kernel
theorem dJ9_max_7cf53_10 : decode cJ9_max_7cf53 10 = .ok (.ireturn, 1) := by decide +kernel
theorem dJ9_min_7cf53_0 : decode cJ9_min_7cf53 0 = .ok (.iload_n 0, 1) := by decide +kernel
theorem dJ9_min_7cf53_1 : decode cJ9_min_7cf53 1 = .ok (.iload_n 1, 1) := by decide +kernel
theorem dJ9_min_7cf53_2 : decode cJ9_min_7cf53 2 = .ok (.if_icmp .gt 7, 3) := by decide +kernel
theorem dJ9_min_7cf53_5 : decode cJ9_min_7cf53 5 = .ok (.iload_n 0, 1) := by decide +kernel
theorem dJ9_min_7cf53_6 : decode cJ9_min_7cf53 6 = .ok (.goto 4, 3) := by decide +kernel
theorem dJ9_min_7cf53_9 : decode cJ9_min_7cf53 9 = .ok (.iload_n 1, 1) := by decide +kernel
theorem dJ9_min_7cf53_10 : decode cJ9_min_7cf53 10 = .ok (.ireturn, 1) := by decide +kernel
end
section
/-! OWN BASE: a bundle of tables E, contracts in one shape (Ci: an int, Cz: a bool, Cv: nothing), rows with numbers -/
abbrev EE : Type := va_G × ClassId × ClassId × ClassId × ClassId
abbrev aI (E : EE) (n : Nat) (f : Nat → Int32) : va_E := .inl (E.2.1, n, .inl f)
abbrev aC (E : EE) (n : Nat) (f : Nat → Int32) : va_E := .inl (E.2.2.1, n, .inl f)
abbrev aZ (E : EE) (n : Nat) (f : Nat → Int32) : va_E := .inl (E.2.2.2.1, n, .inl f)
abbrev aO (E : EE) (n : Nat) (f : Nat → Option Nat) : va_E := .inl (E.2.2.2.2, n, .inr (.inr (.inr (.inr f))))
abbrev tyE (E : EE) : List (ClassId × FieldType) := [(E.2.1, .int), (E.2.2.1, .char), (E.2.2.2.1, .boolean), (E.2.2.2.2, .object RX3)]
def b2i (b : Bool) : Int32 := if b then 1 else 0
def nst (U : State) : Prop := va_Nw (.methodLinkNest RX0 21 yX3_init RX4) U ∧ va_Nw (.methodLinkNest RX2 52 yX4_contains RX4) U ∧ va_Nw (.methodLinkNest RX2 64 yX4_setForMembers RX4) U ∧ va_Nw (.methodLinkNest RX3 46 yX4_contains RX4) U ∧ va_Nw (.methodLinkNest RX4 9 yX3_init RX4) U ∧ va_Nw (.methodLinkNest RX4 27 yX1_init RX4) U
theorem nst_warm {s U : State} (hW : s.WarmedH U.vm) (h : nst s) : nst U := ⟨va_Nw.warmM hW h.1, va_Nw.warmM hW h.2.1, va_Nw.warmM hW h.2.2.1, va_Nw.warmM hW h.2.2.2.1, va_Nw.warmM hW h.2.2.2.2.1, va_Nw.warmM hW h.2.2.2.2.2⟩
theorem nst_same {u U : State} (hv : u.vm = U.vm) (h : nst u) : nst U := ⟨va_Nw.same rfl hv h.1, va_Nw.same rfl hv h.2.1, va_Nw.same rfl hv h.2.2.1, va_Nw.same rfl hv h.2.2.2.1, va_Nw.same rfl hv h.2.2.2.2.1, va_Nw.same rfl hv h.2.2.2.2.2⟩
abbrev Pr (E : EE) (W0 : va_W) (sz : Nat) : State → Prop := fun U => U.heap.size = sz ∧ va_P E.1 vwCl W0 U.heap ∧ (va_K E.1 vwCl (tyE E) U ∧ nst U) ∧ va_D (fun _ => True) W0
theorem Pr_blind {as : List Value} {E : EE} {W0 : va_W} {sz : Nat} : FrameBlind (va_Pc as (Pr E W0 sz)) := fun a U g mk q => by
  obtain ⟨q0, q1, qP, ⟨qK, qN⟩, qD⟩ := q
  exact ⟨q0, q1, qP, ⟨va_K.moved (u := U) (U := U.calling g mk a) (Vm.Alike.refl U.vm) qK, nst_same (u := U) (U := U.calling g mk a) rfl qN⟩, qD⟩
abbrev rmO (fr lo : Nat) : Room := { frames := fr, cells := 0, slots := 0, locals := lo }
abbrev QI (E : EE) (r : Int32) (W1 : va_W) (A : Nat → Prop) : Array Value → State → Outcome → State → Prop := va_Qi (fun (v : Int32) (_ : Unit) => v = r) (fun _ t => va_P E.1 vwCl W1 t.heap ∧ va_D A W1) A
abbrev QV (E : EE) (W1 : va_W) (A : Nat → Prop) : Array Value → State → Outcome → State → Prop := va_Qv (fun (_ : Unit) => True) (fun _ t => va_P E.1 vwCl W1 t.heap ∧ va_D A W1) A
/-- a method that answers an int (or a bool, a char), and makes nothing -/
def Ci (l : Launch) (y : MethodName) (ws : List Cond) (fr lo : Nat) (E : EE) (as : List Value) (W0 : va_W) (sz : Nat) (r : Int32) (W1 : va_W) : Prop := Met l y ws (rmO fr lo) (va_Pc as (Pr E W0 sz)) (QI E r W1 (va_A W0 sz)) 0 0 (va_A W0 sz)
def Cv (l : Launch) (y : MethodName) (ws : List Cond) (fr lo : Nat) (E : EE) (as : List Value) (W0 : va_W) (sz : Nat) (W1 : va_W) : Prop := Met l y ws (rmO fr lo) (va_Pc as (Pr E W0 sz)) (QV E W1 (va_A W0 sz)) 0 0 (va_A W0 sz)
theorem C_of {l : Launch} {y : MethodName} {ws ws' : List Cond} {fr lo : Nat} {E : EE} {as : List Value} {W0 : va_W} {sz : Nat} {cc : ByteArray} {maxL : Nat} {ret : Option FieldType} {QQ : (Nat → Prop) → Array Value → State → Outcome → State → Prop} (hy : plainName y.cls = true) (hw : ws = .code y cc maxL ret :: ws') (hn : (lg_sl as).length ≤ maxL)
    (body : ∀ (p : Program) (e : Env) (s : State) (m : MethodId) (args : Array Value) (below : List Frame) (meth : Method) (c : Code) (A : Nat → Prop) (R : Room) (Q : State → Prop) (ls : Array Slot), p.tables.exec = Jvm.exec → c.code = cc → meth.sig.returnType = ret → (∀ w ∈ ws, w.before args s = true) → s.vm.findClass y.cls = some m.cls → c.maxLocals = maxL → meth.locks = false → (∀ q, s.heap.size ≤ q → A q) → va_K E.1 vwCl (tyE E) s → nst s → va_P E.1 vwCl W0 s.heap → va_D A W0 → va_S A s.heap s.heap [] → lv_has ls maxL (lv_args 0 as) → R = rmO fr lo → Q = MQ below (QQ A) args s 0 0 A → W p l e R s m args below meth c s.heap [] 0 0 Q (F0 m 0 ls [])) :
    Met l y ws (rmO fr lo) (va_Pc as (Pr E W0 sz)) (QQ (va_A W0 sz)) 0 0 (va_A W0 sz) := by
  refine Met.ofW (cc := cc) (maxL := maxL) (ret := ret) hy hw ?_
  intro p e s m args below meth c s₁ B hml hv
  obtain ⟨rfl, hsz, hP, ⟨hK, hN⟩, hD0⟩ := hv
  have hts := atoms_spec (ws := ws) B.pre
  have hown : s.vm.findClass y.cls = some m.cls := findClass_of_methodNamed B.named
  subst hsz
  have hD := hD0.self (sz := s.heap.size)
  have hl := lv_entry as (n := maxL) hn
  rw [lg_entry_eq]
  exact body p e s m _ below meth c (va_A W0 s.heap.size) _ _ _ B.exec B.bytes B.returns hts hown hml B.notSynchronized (fun q h => Or.inr h) hK hN hP hD va_S.rf hl rfl rfl
section RB
variable {p : Program} {l : Launch} {e : Env} {R : Room} {s : State} {m : MethodId} {args : Array Value} {below : List Frame} {meth : Method} {c : Code} {H : Heap} {locs : List Loc} {cells slots : Nat} {Q : State → Prop}
variable {cc : ByteArray} {pc : Nat} {ls : Array Slot} {rest : List Value} {E : EE} {A : Nat → Prop} {a : Nat} {ws : va_W} {H0 : Heap}
theorem ret_i {r v : Int32} {W1 : va_W} (hQ : Q = MQ below (QI E r W1 A) args s 0 0 A) (hx : p.tables.exec = Jvm.exec) (hb : c.code = cc) (hr : meth.sig.returnType = some .int) (hlocks : meth.locks = false) (hP : va_P E.1 vwCl W1 H) (hD : va_D A W1) (hS : va_S A s.heap H locs) (hdg : decode cc pc = .ok (.ireturn, 1)) (he : v = r) : W p l e R s m args below meth c H locs 0 0 Q (F0 m pc ls [.int v]) := by
  subst hQ
  exact W.iret hx hb hr (fun t ht hW => ⟨⟨v, (), rfl, he, by rw [ht]; exact hP, hD⟩, hS.F ht⟩) hS.2.2 hdg hlocks
theorem ret_z {r v : Int32} {ty : FieldType} {W1 : va_W} (hQ : Q = MQ below (QI E r W1 A) args s 0 0 A) (hx : p.tables.exec = Jvm.exec) (hb : c.code = cc) (hr : meth.sig.returnType = some ty) (hlocks : meth.locks = false) (hP : va_P E.1 vwCl W1 H) (hD : va_D A W1) (hS : va_S A s.heap H locs) (hdg : decode cc pc = .ok (.ireturn, 1)) (hn : narrow ty (.int v) = .int v) (he : v = r) : W p l e R s m args below meth c H locs 0 0 Q (F0 m pc ls [.int v]) := by
  subst hQ
  exact W.zret hx hb hr hn (fun t ht hW => ⟨⟨v, (), rfl, he, by rw [ht]; exact hP, hD⟩, hS.F ht⟩) hS.2.2 hdg hlocks
theorem ret_v {W1 : va_W} (hQ : Q = MQ below (QV E W1 A) args s 0 0 A) (hx : p.tables.exec = Jvm.exec) (hb : c.code = cc) (hr : meth.sig.returnType = none) (hlocks : meth.locks = false) (hP : va_P E.1 vwCl W1 H) (hD : va_D A W1) (hS : va_S A s.heap H locs) (hdg : decode cc pc = .ok (.return_, 1)) : W p l e R s m args below meth c H locs 0 0 Q (F0 m pc ls []) := by
  subst hQ
  exact W.vret hx hb hr (fun t ht hW => ⟨⟨(), rfl, trivial, by rw [ht]; exact hP, hD⟩, hS.F ht⟩) hS.2.2 hdg hlocks
theorem rk_ev {x y : Int32} (h : x = y) (k : W p l e R s m args below meth c H locs cells slots Q (F0 m pc ls (.int y :: rest))) : W p l e R s m args below meth c H locs cells slots Q (F0 m pc ls (.int x :: rest)) := h ▸ k
theorem rk_evl {x y : Int64} (h : x = y) (k : W p l e R s m args below meth c H locs cells slots Q (F0 m pc ls (.long y :: rest))) : W p l e R s m args below meth c H locs cells slots Q (F0 m pc ls (.long x :: rest)) := h ▸ k
theorem rk_get (hx : p.tables.exec = Jvm.exec) (hb : c.code = cc) {own ref C : String} {T : u_T} {N ci index : Nat} {Ts : List Cond} (hts : ∀ w ∈ Ts, w.before args s = true) (hin : ∀ w ∈ u_ws C T N, w ∈ Ts) (hown : s.vm.findClass own = some m.cls) (hK : va_K E.1 vwCl (tyE E) s) (hP : va_P E.1 vwCl ws H) (q0 : Nat) {fs : List Value} (he : ws[q0]? = some (a, .inr (ci, fs))) (hc : vwCl[ci]? = some (C, T, N)) (k : Nat) (hk : k < N) (hl : Cond.fieldLink own index ref (T k).2.1 (T k).2.2.1 ∈ Ts) (href : ref = (T k).1) {v : Value} (hv : fs[k]? = some v) (hdg : decode cc pc = .ok (.getfield index, 3))
    (kk : W p l e R s m args below meth c H locs cells slots Q (F0 m (pc + 3) ls (v :: rest))) : W p l e R s m args below meth c H locs cells slots Q (F0 m pc ls (.ref a :: rest)) :=
  va_get (D := E.1) hx hb hts hin hown hK hP q0 he hc k hk (hts _ hl) (fun _ h9 => by rw [href]; exact h9) hv hdg kk
theorem rk_put (hx : p.tables.exec = Jvm.exec) (hb : c.code = cc) {own ref C : String} {T : u_T} {N ci index : Nat} {Ts : List Cond} (hts : ∀ w ∈ Ts, w.before args s = true) (hin : ∀ w ∈ u_ws C T N, w ∈ Ts) (ty0 : Nat → FieldType) (hty : ∀ k, k < N → parseFieldDescriptor (T k).2.2.1 = some (ty0 k)) (hnm : ∀ a, a < N → ∀ b, b < N → a ≠ b → (T a).2.1 ≠ (T b).2.1) (hown : s.vm.findClass own = some m.cls) (hK : va_K E.1 vwCl (tyE E) s) (hP : va_P E.1 vwCl ws H) (hD : va_D A ws) (hS : va_S A H0 H locs) (q0 : Nat) {fs : List Value} (he : ws[q0]? = some (a, .inr (ci, fs))) (hc : vwCl[ci]? = some (C, T, N)) (k : Nat) (hk : k < N) (hl : Cond.fieldLink own index ref (T k).2.1 (T k).2.2.1 ∈ Ts) (href : ref = (T k).1) (hfin : (T k).2.2.2 = false) {ty : FieldType} {v : Value} (hd : parseFieldDescriptor (T k).2.2.1 = some ty) (hn : narrow ty v = v) (hfit : fits ty v = true) (hlen : k < fs.length) {ws' : va_W} (hws : ws.set q0 (a, .inr (ci, fs.set k v)) = ws') (hdg : decode cc pc = .ok (.putfield index, 3))
    (kk : ∀ (H1 : Heap) (locs1 : List Loc), va_P E.1 vwCl ws' H1 → va_D A ws' → va_S A H0 H1 locs1 → W p l e R s m args below meth c H1 locs1 cells slots Q (F0 m (pc + 3) ls rest)) : W p l e R s m args below meth c H locs cells slots Q (F0 m pc ls (v :: .ref a :: rest)) := by
  subst hws
  exact va_put (D := E.1) hx hb hts hin ty0 hty hnm hown hK hP hD hS q0 he hc k hk (hts _ hl) (fun _ h9 => by rw [href]; exact h9) hfin hd hn hfit hlen hdg kk
theorem rk_iald (hx : p.tables.exec = Jvm.exec) (hb : c.code = cc) (hK : va_K E.1 vwCl (tyE E) s) (hP : va_P E.1 vwCl ws H) (q0 : Nat) {n : Nat} {f : Nat → Int32} (ha : ws[q0]? = some (a, aI E n f)) {j : Nat} (hj : j < n) (hn : n < 2 ^ 31) {v : Int32} (hv : f j = v) (hdg : decode cc pc = .ok (.iaload, 1))
    (kk : W p l e R s m args below meth c H locs cells slots Q (F0 m (pc + 1) ls (.int v :: rest))) : W p l e R s m args below meth c H locs cells slots Q (F0 m pc ls (.int (nI j) :: .ref a :: rest)) := by
  refine va_iald (D := E.1) (cl := vwCl) (tys := tyE E) hx hb hK hP q0 0 ha rfl (vp_in_nI hj hn) hdg ?_
  rw [nI_clamp (by omega), hv]
  exact kk
theorem rk_cald (hx : p.tables.exec = Jvm.exec) (hb : c.code = cc) (hK : va_K E.1 vwCl (tyE E) s) (hP : va_P E.1 vwCl ws H) (q0 : Nat) {n : Nat} {f : Nat → Int32} (ha : ws[q0]? = some (a, aC E n f)) {j : Nat} (hj : j < n) (hn : n < 2 ^ 31) {v : Int32} (hv : f j = v) (hdg : decode cc pc = .ok (.caload, 1))
    (kk : W p l e R s m args below meth c H locs cells slots Q (F0 m (pc + 1) ls (.int v :: rest))) : W p l e R s m args below meth c H locs cells slots Q (F0 m pc ls (.int (nI j) :: .ref a :: rest)) := by
  refine va_cald (D := E.1) (cl := vwCl) (tys := tyE E) hx hb hK hP q0 1 ha rfl (vp_in_nI hj hn) hdg ?_
  rw [nI_clamp (by omega)]
  rw [hv]
  exact kk
theorem rk_zald (hx : p.tables.exec = Jvm.exec) (hb : c.code = cc) (hK : va_K E.1 vwCl (tyE E) s) (hP : va_P E.1 vwCl ws H) (q0 : Nat) {n : Nat} {f : Nat → Int32} (ha : ws[q0]? = some (a, aZ E n f)) {j : Nat} (hj : j < n) (hn : n < 2 ^ 31) {v : Int32} (hv : f j = v) (hdg : decode cc pc = .ok (.baload, 1))
    (kk : W p l e R s m args below meth c H locs cells slots Q (F0 m (pc + 1) ls (.int v :: rest))) : W p l e R s m args below meth c H locs cells slots Q (F0 m pc ls (.int (nI j) :: .ref a :: rest)) := by
  refine va_zald (D := E.1) (cl := vwCl) (tys := tyE E) hx hb hK hP q0 2 ha rfl (vp_in_nI hj hn) hdg ?_
  rw [nI_clamp (by omega)]
  rw [hv]
  exact kk
theorem rk_oald (hx : p.tables.exec = Jvm.exec) (hb : c.code = cc) (hK : va_K E.1 vwCl (tyE E) s) (hP : va_P E.1 vwCl ws H) (q0 : Nat) {n : Nat} {f : Nat → Option Nat} (ha : ws[q0]? = some (a, aO E n f)) {j : Nat} (hj : j < n) (hn : n < 2 ^ 31) {v : Value} (hv : va_rf (f j) = v) (hdg : decode cc pc = .ok (.aaload, 1))
    (kk : W p l e R s m args below meth c H locs cells slots Q (F0 m (pc + 1) ls (v :: rest))) : W p l e R s m args below meth c H locs cells slots Q (F0 m pc ls (.int (nI j) :: .ref a :: rest)) := by
  refine va_aldq (D := E.1) (cl := vwCl) (tys := tyE E) hx hb hK hP q0 3 ha rfl (vp_in_nI hj hn) hdg ?_
  rw [nI_clamp (by omega), hv]
  exact kk
theorem rk_iast (hx : p.tables.exec = Jvm.exec) (hb : c.code = cc) (hK : va_K E.1 vwCl (tyE E) s) (hP : va_P E.1 vwCl ws H) (hD : va_D A ws) (hS : va_S A H0 H locs) (q0 : Nat) {n : Nat} {f : Nat → Int32} (ha : ws[q0]? = some (a, aI E n f)) {j : Nat} (hj : j < n) (hn : n < 2 ^ 31) {x : Int32} {ws' : va_W} (hws : ws.set q0 (a, aI E n (upd f j x)) = ws') (hdg : decode cc pc = .ok (.iastore, 1))
    (kk : ∀ (H1 : Heap) (locs1 : List Loc), va_P E.1 vwCl ws' H1 → va_D A ws' → va_S A H0 H1 locs1 → W p l e R s m args below meth c H1 locs1 cells slots Q (F0 m (pc + 1) ls rest)) : W p l e R s m args below meth c H locs cells slots Q (F0 m pc ls (.int x :: .int (nI j) :: .ref a :: rest)) := by
  subst hws
  refine va_iast (D := E.1) (cl := vwCl) (tys := tyE E) hx hb hK hP hD hS q0 0 ha rfl (vp_in_nI hj hn) hdg ?_
  rw [nI_clamp (by omega)]
  exact kk
theorem rk_cast (hx : p.tables.exec = Jvm.exec) (hb : c.code = cc) (hK : va_K E.1 vwCl (tyE E) s) (hP : va_P E.1 vwCl ws H) (hD : va_D A ws) (hS : va_S A H0 H locs) (q0 : Nat) {n : Nat} {f : Nat → Int32} (ha : ws[q0]? = some (a, aC E n f)) {j : Nat} (hj : j < n) (hn : n < 2 ^ 31) {x : Int32} {ws' : va_W} (hws : ws.set q0 (a, aC E n (upd f j (vp_nar .char x))) = ws') (hdg : decode cc pc = .ok (.castore, 1))
    (kk : ∀ (H1 : Heap) (locs1 : List Loc), va_P E.1 vwCl ws' H1 → va_D A ws' → va_S A H0 H1 locs1 → W p l e R s m args below meth c H1 locs1 cells slots Q (F0 m (pc + 1) ls rest)) : W p l e R s m args below meth c H locs cells slots Q (F0 m pc ls (.int x :: .int (nI j) :: .ref a :: rest)) := by
  subst hws
  refine va_cast (D := E.1) (cl := vwCl) (tys := tyE E) hx hb hK hP hD hS q0 1 ha rfl (vp_in_nI hj hn) hdg ?_
  rw [nI_clamp (by omega)]
  exact kk
theorem rk_zast (hx : p.tables.exec = Jvm.exec) (hb : c.code = cc) (hK : va_K E.1 vwCl (tyE E) s) (hP : va_P E.1 vwCl ws H) (hD : va_D A ws) (hS : va_S A H0 H locs) (q0 : Nat) {n : Nat} {f : Nat → Int32} (ha : ws[q0]? = some (a, aZ E n f)) {j : Nat} (hj : j < n) (hn : n < 2 ^ 31) {x : Int32} {ws' : va_W} (hws : ws.set q0 (a, aZ E n (upd f j (vp_nar .boolean x))) = ws') (hdg : decode cc pc = .ok (.bastore, 1))
    (kk : ∀ (H1 : Heap) (locs1 : List Loc), va_P E.1 vwCl ws' H1 → va_D A ws' → va_S A H0 H1 locs1 → W p l e R s m args below meth c H1 locs1 cells slots Q (F0 m (pc + 1) ls rest)) : W p l e R s m args below meth c H locs cells slots Q (F0 m pc ls (.int x :: .int (nI j) :: .ref a :: rest)) := by
  subst hws
  refine va_zast (D := E.1) (cl := vwCl) (tys := tyE E) hx hb hK hP hD hS q0 2 ha rfl (vp_in_nI hj hn) hdg ?_
  rw [nI_clamp (by omega)]
  exact kk
theorem rk_iaddN (hx : p.tables.exec = Jvm.exec) (hb : c.code = cc) {x y : Nat} (hdg : decode cc pc = .ok (.iadd, 1))
    (k : W p l e R s m args below meth c H locs cells slots Q (F0 m (pc + 1) ls (.int (nI (x + y)) :: rest))) : W p l e R s m args below meth c H locs cells slots Q (F0 m pc ls (.int (nI y) :: .int (nI x) :: rest)) :=
  lv_iadd hx hb hdg (rk_ev (nI_add x y) k)
theorem rk_isubN (hx : p.tables.exec = Jvm.exec) (hb : c.code = cc) {x y : Nat} (h : y ≤ x) (hdg : decode cc pc = .ok (.isub, 1))
    (k : W p l e R s m args below meth c H locs cells slots Q (F0 m (pc + 1) ls (.int (nI (x - y)) :: rest))) : W p l e R s m args below meth c H locs cells slots Q (F0 m pc ls (.int (nI y) :: .int (nI x) :: rest)) :=
  lv_isub hx hb hdg (rk_ev (pk_sub h) k)
theorem rk_imulN (hx : p.tables.exec = Jvm.exec) (hb : c.code = cc) {x y : Nat} (hdg : decode cc pc = .ok (.imul, 1))
    (k : W p l e R s m args below meth c H locs cells slots Q (F0 m (pc + 1) ls (.int (nI (x * y)) :: rest))) : W p l e R s m args below meth c H locs cells slots Q (F0 m pc ls (.int (nI y) :: .int (nI x) :: rest)) :=
  lv_imul hx hb hdg (rk_ev (pk_mul x y) k)
theorem nI_ne0' {n : Nat} (h0 : 0 < n) (h : n < 2 ^ 31) : ¬ nI n = 0 := nI_ne0 h0 h
theorem rk_idivN (hx : p.tables.exec = Jvm.exec) (hb : c.code = cc) {x y : Nat} (h1 : x < 2 ^ 31) (h2 : 0 < y) (h3 : y < 2 ^ 31) (hdg : decode cc pc = .ok (.idiv, 1))
    (k : W p l e R s m args below meth c H locs cells slots Q (F0 m (pc + 1) ls (.int (nI (x / y)) :: rest))) : W p l e R s m args below meth c H locs cells slots Q (F0 m pc ls (.int (nI y) :: .int (nI x) :: rest)) :=
  lv_idiv hx hb hdg (nI_ne0' h2 h3) (rk_ev (pk_div h1 h2 h3) k)
theorem rk_iremN (hx : p.tables.exec = Jvm.exec) (hb : c.code = cc) {x y : Nat} (h1 : x < 2 ^ 31) (h2 : 0 < y) (h3 : y < 2 ^ 31) (hdg : decode cc pc = .ok (.irem, 1))
    (k : W p l e R s m args below meth c H locs cells slots Q (F0 m (pc + 1) ls (.int (nI (x % y)) :: rest))) : W p l e R s m args below meth c H locs cells slots Q (F0 m pc ls (.int (nI y) :: .int (nI x) :: rest)) :=
  lv_irem hx hb hdg (nI_ne0' h2 h3) (rk_ev (pk_rem h1 h2 h3) k)
theorem rk_geN (hx : p.tables.exec = Jvm.exec) (hb : c.code = cc) {x y : Nat} {off : Int} {tgt : Nat} (h1 : x < 2 ^ 31) (h2 : y < 2 ^ 31) (hdg : decode cc pc = .ok (.if_icmp .ge off, 3)) (ht : (pc : Int) + off = (tgt : Int))
    (kt : y ≤ x → W p l e R s m args below meth c H locs cells slots Q (F0 m tgt ls rest)) (kf : x < y → W p l e R s m args below meth c H locs cells slots Q (F0 m (pc + 3) ls rest)) : W p l e R s m args below meth c H locs cells slots Q (F0 m pc ls (.int (nI y) :: .int (nI x) :: rest)) :=
  lv_icmp_ge hx hb hdg ht (fun h => kt ((nI_leI h2 h1).mp h)) (fun h => kf (Nat.lt_of_not_le fun q => h ((nI_leI h2 h1).mpr q)))
theorem rk_ltN (hx : p.tables.exec = Jvm.exec) (hb : c.code = cc) {x y : Nat} {off : Int} {tgt : Nat} (h1 : x < 2 ^ 31) (h2 : y < 2 ^ 31) (hdg : decode cc pc = .ok (.if_icmp .lt off, 3)) (ht : (pc : Int) + off = (tgt : Int))
    (kt : x < y → W p l e R s m args below meth c H locs cells slots Q (F0 m tgt ls rest)) (kf : y ≤ x → W p l e R s m args below meth c H locs cells slots Q (F0 m (pc + 3) ls rest)) : W p l e R s m args below meth c H locs cells slots Q (F0 m pc ls (.int (nI y) :: .int (nI x) :: rest)) :=
  lv_icmp_lt hx hb hdg ht (fun h => kt ((nI_ltI h1 h2).mp h)) (fun h => kf (Nat.le_of_not_lt fun q => h ((nI_ltI h1 h2).mpr q)))
theorem rk_leN (hx : p.tables.exec = Jvm.exec) (hb : c.code = cc) {x y : Nat} {off : Int} {tgt : Nat} (h1 : x < 2 ^ 31) (h2 : y < 2 ^ 31) (hdg : decode cc pc = .ok (.if_icmp .le off, 3)) (ht : (pc : Int) + off = (tgt : Int))
    (kt : x ≤ y → W p l e R s m args below meth c H locs cells slots Q (F0 m tgt ls rest)) (kf : y < x → W p l e R s m args below meth c H locs cells slots Q (F0 m (pc + 3) ls rest)) : W p l e R s m args below meth c H locs cells slots Q (F0 m pc ls (.int (nI y) :: .int (nI x) :: rest)) :=
  lv_icmp_le hx hb hdg ht (fun h => kt ((nI_leI h1 h2).mp h)) (fun h => kf (Nat.lt_of_not_le fun q => h ((nI_leI h1 h2).mpr q)))
theorem rk_gtN (hx : p.tables.exec = Jvm.exec) (hb : c.code = cc) {x y : Nat} {off : Int} {tgt : Nat} (h1 : x < 2 ^ 31) (h2 : y < 2 ^ 31) (hdg : decode cc pc = .ok (.if_icmp .gt off, 3)) (ht : (pc : Int) + off = (tgt : Int))
    (kt : y < x → W p l e R s m args below meth c H locs cells slots Q (F0 m tgt ls rest)) (kf : x ≤ y → W p l e R s m args below meth c H locs cells slots Q (F0 m (pc + 3) ls rest)) : W p l e R s m args below meth c H locs cells slots Q (F0 m pc ls (.int (nI y) :: .int (nI x) :: rest)) :=
  lv_icmp_gt hx hb hdg ht (fun h => kt ((nI_ltI h2 h1).mp h)) (fun h => kf (Nat.le_of_not_lt fun q => h ((nI_ltI h2 h1).mpr q)))
theorem rk_eqN (hx : p.tables.exec = Jvm.exec) (hb : c.code = cc) {x y : Nat} {off : Int} {tgt : Nat} (h1 : x < 2 ^ 31) (h2 : y < 2 ^ 31) (hdg : decode cc pc = .ok (.if_icmp .eq off, 3)) (ht : (pc : Int) + off = (tgt : Int))
    (kt : x = y → W p l e R s m args below meth c H locs cells slots Q (F0 m tgt ls rest)) (kf : ¬ x = y → W p l e R s m args below meth c H locs cells slots Q (F0 m (pc + 3) ls rest)) : W p l e R s m args below meth c H locs cells slots Q (F0 m pc ls (.int (nI y) :: .int (nI x) :: rest)) :=
  lv_icmp_eq hx hb hdg ht (fun h => kt ((nI_eq h1 h2).mp h)) (fun h => kf (fun q => h ((nI_eq h1 h2).mpr q)))
theorem rk_neN (hx : p.tables.exec = Jvm.exec) (hb : c.code = cc) {x y : Nat} {off : Int} {tgt : Nat} (h1 : x < 2 ^ 31) (h2 : y < 2 ^ 31) (hdg : decode cc pc = .ok (.if_icmp .ne off, 3)) (ht : (pc : Int) + off = (tgt : Int))
    (kt : ¬ x = y → W p l e R s m args below meth c H locs cells slots Q (F0 m tgt ls rest)) (kf : x = y → W p l e R s m args below meth c H locs cells slots Q (F0 m (pc + 3) ls rest)) : W p l e R s m args below meth c H locs cells slots Q (F0 m pc ls (.int (nI y) :: .int (nI x) :: rest)) :=
  lv_icmp_ne hx hb hdg ht (fun h => kt (fun q => h ((nI_eq h1 h2).mpr q))) (fun h => kf ((nI_eq h1 h2).mp h))
theorem b2i_0 {b : Bool} : b2i b = 0 ↔ b = false := by cases b <;> simp [b2i]
theorem b2i_n {b : Bool} : ¬ b2i b = 0 ↔ b = true := by cases b <;> simp [b2i]
theorem b2i_t {b : Bool} (h : b = true) : nI 1 = b2i b := by rw [h]; rfl
theorem b2i_f {b : Bool} (h : b = false) : nI 0 = b2i b := by rw [h]; rfl
theorem b2i_nz (b : Bool) : narrow .boolean (.int (b2i b)) = .int (b2i b) := by cases b <;> rfl
theorem nz_0 : narrow .boolean (.int (nI 0)) = .int (nI 0) := rfl
theorem nz_1 : narrow .boolean (.int (nI 1)) = .int (nI 1) := rfl
theorem rk_if_eqB (hx : p.tables.exec = Jvm.exec) (hb : c.code = cc) {x : Bool} {off : Int} {tgt : Nat} (hdg : decode cc pc = .ok (.ifCond .eq off, 3)) (ht : (pc : Int) + off = (tgt : Int))
    (kt : x = false → W p l e R s m args below meth c H locs cells slots Q (F0 m tgt ls rest)) (kf : x = true → W p l e R s m args below meth c H locs cells slots Q (F0 m (pc + 3) ls rest)) : W p l e R s m args below meth c H locs cells slots Q (F0 m pc ls (.int (b2i x) :: rest)) :=
  lv_if_eq hx hb hdg ht (fun h => kt (b2i_0.mp h)) (fun h => kf (b2i_n.mp h))
theorem rk_if_neB (hx : p.tables.exec = Jvm.exec) (hb : c.code = cc) {x : Bool} {off : Int} {tgt : Nat} (hdg : decode cc pc = .ok (.ifCond .ne off, 3)) (ht : (pc : Int) + off = (tgt : Int))
    (kt : x = true → W p l e R s m args below meth c H locs cells slots Q (F0 m tgt ls rest)) (kf : x = false → W p l e R s m args below meth c H locs cells slots Q (F0 m (pc + 3) ls rest)) : W p l e R s m args below meth c H locs cells slots Q (F0 m pc ls (.int (b2i x) :: rest)) :=
  lv_if_ne hx hb hdg ht (fun h => kt (b2i_n.mp h)) (fun h => kf (b2i_0.mp h))
theorem nI_z {n : Nat} (h : n < 2 ^ 31) : nI n = 0 ↔ n = 0 := by
  have h1 : (nI n = nI 0) ↔ n = 0 := nI_eq h (by omega)
  rw [nI_0] at h1
  exact h1
theorem rk_if_eqN (hx : p.tables.exec = Jvm.exec) (hb : c.code = cc) {x : Nat} {off : Int} {tgt : Nat} (h1 : x < 2 ^ 31) (hdg : decode cc pc = .ok (.ifCond .eq off, 3)) (ht : (pc : Int) + off = (tgt : Int))
    (kt : x = 0 → W p l e R s m args below meth c H locs cells slots Q (F0 m tgt ls rest)) (kf : ¬ x = 0 → W p l e R s m args below meth c H locs cells slots Q (F0 m (pc + 3) ls rest)) : W p l e R s m args below meth c H locs cells slots Q (F0 m pc ls (.int (nI x) :: rest)) :=
  lv_if_eq hx hb hdg ht (fun h => kt ((nI_z h1).mp h)) (fun h => kf (fun q => h ((nI_z h1).mpr q)))
theorem rk_if_neN (hx : p.tables.exec = Jvm.exec) (hb : c.code = cc) {x : Nat} {off : Int} {tgt : Nat} (h1 : x < 2 ^ 31) (hdg : decode cc pc = .ok (.ifCond .ne off, 3)) (ht : (pc : Int) + off = (tgt : Int))
    (kt : ¬ x = 0 → W p l e R s m args below meth c H locs cells slots Q (F0 m tgt ls rest)) (kf : x = 0 → W p l e R s m args below meth c H locs cells slots Q (F0 m (pc + 3) ls rest)) : W p l e R s m args below meth c H locs cells slots Q (F0 m pc ls (.int (nI x) :: rest)) :=
  lv_if_ne hx hb hdg ht (fun h => kt (fun q => h ((nI_z h1).mpr q))) (fun h => kf ((nI_z h1).mp h))
theorem rk_if_leN (hx : p.tables.exec = Jvm.exec) (hb : c.code = cc) {x : Nat} {off : Int} {tgt : Nat} (h1 : x < 2 ^ 31) (hdg : decode cc pc = .ok (.ifCond .le off, 3)) (ht : (pc : Int) + off = (tgt : Int))
    (kt : x = 0 → W p l e R s m args below meth c H locs cells slots Q (F0 m tgt ls rest)) (kf : ¬ x = 0 → W p l e R s m args below meth c H locs cells slots Q (F0 m (pc + 3) ls rest)) : W p l e R s m args below meth c H locs cells slots Q (F0 m pc ls (.int (nI x) :: rest)) :=
  lv_if_le hx hb hdg ht (fun h => kt (by rw [← nI_0] at h; have := (nI_leI h1 (by omega)).mp h; omega)) (fun h => kf (fun q => h (by subst q; decide)))
theorem rk_if_gtN (hx : p.tables.exec = Jvm.exec) (hb : c.code = cc) {x : Nat} {off : Int} {tgt : Nat} (h1 : x < 2 ^ 31) (hdg : decode cc pc = .ok (.ifCond .gt off, 3)) (ht : (pc : Int) + off = (tgt : Int))
    (kt : ¬ x = 0 → W p l e R s m args below meth c H locs cells slots Q (F0 m tgt ls rest)) (kf : x = 0 → W p l e R s m args below meth c H locs cells slots Q (F0 m (pc + 3) ls rest)) : W p l e R s m args below meth c H locs cells slots Q (F0 m pc ls (.int (nI x) :: rest)) :=
  lv_if_gt hx hb hdg ht (fun h => kt (fun q => by subst q; exact absurd h (by decide))) (fun h => kf (Classical.byContradiction fun q => h (by rw [← nI_0]; exact (nI_ltI (by omega) h1).mpr (by omega))))
theorem rk_if_ltN (hx : p.tables.exec = Jvm.exec) (hb : c.code = cc) {x : Nat} {off : Int} {tgt : Nat} (h1 : x < 2 ^ 31) (hdg : decode cc pc = .ok (.ifCond .lt off, 3)) (ht : (pc : Int) + off = (tgt : Int))
    (kf : W p l e R s m args below meth c H locs cells slots Q (F0 m (pc + 3) ls rest)) : W p l e R s m args below meth c H locs cells slots Q (F0 m pc ls (.int (nI x) :: rest)) :=
  lv_if_lt hx hb hdg ht (fun h => absurd h (nI_pos h1)) (fun _ => kf)
theorem rk_if_geN (hx : p.tables.exec = Jvm.exec) (hb : c.code = cc) {x : Nat} {off : Int} {tgt : Nat} (h1 : x < 2 ^ 31) (hdg : decode cc pc = .ok (.ifCond .ge off, 3)) (ht : (pc : Int) + off = (tgt : Int))
    (kt : W p l e R s m args below meth c H locs cells slots Q (F0 m tgt ls rest)) : W p l e R s m args below meth c H locs cells slots Q (F0 m pc ls (.int (nI x) :: rest)) :=
  lv_if_ge hx hb hdg ht (fun _ => kt) (fun h => absurd (nI_pos' h1) h)
end RB
theorem fm_of {α β : Type} {f : α → Option β} {l : List α} {w : List β} (h : l.map f = w.map some) : l.filterMap f = w := by
  have h1 : l.filterMap f = (l.map f).filterMap id := by rw [List.filterMap_map]; rfl
  rw [h1, h, List.filterMap_map]
  exact List.filterMap_some
section RC
variable {p : Program} {l : Launch} {e : Env} {R : Room} {s : State} {m : MethodId} {args : Array Value} {below : List Frame} {meth : Method} {c : Code} {H : Heap} {locs : List Loc} {cells slots : Nat} {Q : State → Prop}
variable {cc : ByteArray} {pc : Nat} {ls : Array Slot} {st0 rest : List Value} {E : EE} {A : Nat → Prop} {b nL n index fr lo : Nat} {ws : va_W} {y : MethodName} {bytes : ByteArray} {maxL : Nat} {ret : Option FieldType} {wsY Ts : List Cond} {own C host : String} {As : List Value} {Wc wr W1 : va_W} {r : Int32}
/-- a call (V) that answers an int -/
theorem kV_i (S : CallFix p m c cc nL s args Ts own) (hM : Ci l y wsY fr lo E (.ref b :: As) Wc H.size r W1) (cw : CallW R s args own C index y bytes maxL ret wsY (rmO fr lo) 0 0 n) (hK : va_K E.1 vwCl (tyE E) s) (hN : nst s) (hP : va_P E.1 vwCl ws H) (hD : va_D A ws) (hS : va_S A s.heap H locs) (hA : ∀ q, s.heap.size ≤ q → A q) (isC isR : List Nat) (hC : isC.map (fun i => ws[i]?) = Wc.map some) (hC2 : va_nd isC = true) (hR : isR.map (fun i => ws[i]?) = wr.map some) (hR2 : va_nd isR = true) (hdis : ∀ i ∈ isR, i ∉ isC)
    (q0 ci : Nat) {fs : List Value} {T : u_T} {N : Nat} (hci : vwCl[ci]? = some (C, T, N)) (hre : ws[q0]? = some (b, .inr (ci, fs))) (hn : As.length = n) (hls : ls.size = nL) (hst : st0 = As.reverse ++ .ref b :: rest) (hrest : (rest.map fun v => v.category).sum ≤ 8) (hdg : decode cc pc = .ok (.invokevirtual index, 3)) (hf : cells ≤ R.cells ∧ slots ≤ R.slots)
    (kk : ∀ (H1 : Heap) (locs1 : List Loc), va_P E.1 vwCl (wr ++ W1) H1 → va_D A (wr ++ W1) → va_S A s.heap H1 locs1 → W p l e R s m args below meth c H1 locs1 cells slots Q (F0 m (pc + 3) ls (.int r :: rest))) : W p l e R s m args below meth c H locs cells slots Q (F0 m pc ls st0) := by
  have hPc : va_P E.1 vwCl Wc H := hP.sub isC (fm_of hC)
  have hDc := hD.sub isC hC2 hC
  have hFc := va_free hD hS hA isC hC
  refine va_calli (mc := 0) (ms := 0) (va_runV (g := F0 m pc ls st0) S hM cw ⟨Pr_blind, va_recv (q := (C, T, N)) hK hP hci hre, fun U hU hW => ⟨rfl, by rw [hU], by rw [hU]; exact hPc, ⟨va_K.moved hW.alike hK, nst_warm hW hN⟩, hDc.weaken (fun _ _ _ _ => trivial)⟩⟩ rfl hn hls hst (lv_room hrest) hdg hf) hS (fun q _ h => hFc q h) hFc (fun r' u t H1 locs1 ht hvm hw hB hz1 hk1 hS1 => ?_)
  obtain ⟨hP1, hD1⟩ := hB
  rw [ht] at hP1
  subst hw
  obtain ⟨hP2, hD2⟩ := va_join hP hD isC isR hC hR hR2 hdis hk1 hFc hP1 hD1
  exact kk H1 locs1 hP2 hD2 hS1
/-- a call (V) that answers nothing -/
theorem kV_v (S : CallFix p m c cc nL s args Ts own) (hM : Cv l y wsY fr lo E (.ref b :: As) Wc H.size W1) (cw : CallW R s args own C index y bytes maxL ret wsY (rmO fr lo) 0 0 n) (hK : va_K E.1 vwCl (tyE E) s) (hN : nst s) (hP : va_P E.1 vwCl ws H) (hD : va_D A ws) (hS : va_S A s.heap H locs) (hA : ∀ q, s.heap.size ≤ q → A q) (isC isR : List Nat) (hC : isC.map (fun i => ws[i]?) = Wc.map some) (hC2 : va_nd isC = true) (hR : isR.map (fun i => ws[i]?) = wr.map some) (hR2 : va_nd isR = true) (hdis : ∀ i ∈ isR, i ∉ isC)
    (q0 ci : Nat) {fs : List Value} {T : u_T} {N : Nat} (hci : vwCl[ci]? = some (C, T, N)) (hre : ws[q0]? = some (b, .inr (ci, fs))) (hn : As.length = n) (hls : ls.size = nL) (hst : st0 = As.reverse ++ .ref b :: rest) (hrest : (rest.map fun v => v.category).sum ≤ 8) (hdg : decode cc pc = .ok (.invokevirtual index, 3)) (hf : cells ≤ R.cells ∧ slots ≤ R.slots)
    (kk : ∀ (H1 : Heap) (locs1 : List Loc), va_P E.1 vwCl (wr ++ W1) H1 → va_D A (wr ++ W1) → va_S A s.heap H1 locs1 → W p l e R s m args below meth c H1 locs1 cells slots Q (F0 m (pc + 3) ls (rest))) : W p l e R s m args below meth c H locs cells slots Q (F0 m pc ls st0) := by
  have hPc : va_P E.1 vwCl Wc H := hP.sub isC (fm_of hC)
  have hDc := hD.sub isC hC2 hC
  have hFc := va_free hD hS hA isC hC
  refine va_callv (mc := 0) (ms := 0) (va_runV (g := F0 m pc ls st0) S hM cw ⟨Pr_blind, va_recv (q := (C, T, N)) hK hP hci hre, fun U hU hW => ⟨rfl, by rw [hU], by rw [hU]; exact hPc, ⟨va_K.moved hW.alike hK, nst_warm hW hN⟩, hDc.weaken (fun _ _ _ _ => trivial)⟩⟩ rfl hn hls hst (lv_room hrest) hdg hf) hS (fun q _ h => hFc q h) hFc (fun u t H1 locs1 ht hvm hw hB hz1 hk1 hS1 => ?_)
  obtain ⟨hP1, hD1⟩ := hB
  rw [ht] at hP1
  obtain ⟨hP2, hD2⟩ := va_join hP hD isC isR hC hR hR2 hdis hk1 hFc hP1 hD1
  exact kk H1 locs1 hP2 hD2 hS1
/-- a call (S) that answers an int -/
theorem kS_i (S : CallFix p m c cc nL s args Ts own) (hM : Ci l y wsY fr lo E As Wc H.size r W1) (cw : CallB R s args own index y bytes maxL ret wsY (rmO fr lo) 0 0 n ∧ (Cond.static y).before args s = true) (hK : va_K E.1 vwCl (tyE E) s) (hN : nst s) (hP : va_P E.1 vwCl ws H) (hD : va_D A ws) (hS : va_S A s.heap H locs) (hA : ∀ q, s.heap.size ≤ q → A q) (isC isR : List Nat) (hC : isC.map (fun i => ws[i]?) = Wc.map some) (hC2 : va_nd isC = true) (hR : isR.map (fun i => ws[i]?) = wr.map some) (hR2 : va_nd isR = true) (hdis : ∀ i ∈ isR, i ∉ isC)
    (hn : As.length = n) (hls : ls.size = nL) (hst : st0 = As.reverse ++ rest) (hrest : (rest.map fun v => v.category).sum ≤ 8) (hdg : decode cc pc = .ok (.invokestatic index, 3)) (hf : cells ≤ R.cells ∧ slots ≤ R.slots)
    (kk : ∀ (H1 : Heap) (locs1 : List Loc), va_P E.1 vwCl (wr ++ W1) H1 → va_D A (wr ++ W1) → va_S A s.heap H1 locs1 → W p l e R s m args below meth c H1 locs1 cells slots Q (F0 m (pc + 3) ls (.int r :: rest))) : W p l e R s m args below meth c H locs cells slots Q (F0 m pc ls st0) := by
  have hPc : va_P E.1 vwCl Wc H := hP.sub isC (fm_of hC)
  have hDc := hD.sub isC hC2 hC
  have hFc := va_free hD hS hA isC hC
  refine va_calli (mc := 0) (ms := 0) (va_runS (g := F0 m pc ls st0) S hM cw ⟨Pr_blind, fun U hU hW => ⟨rfl, by rw [hU], by rw [hU]; exact hPc, ⟨va_K.moved hW.alike hK, nst_warm hW hN⟩, hDc.weaken (fun _ _ _ _ => trivial)⟩⟩ rfl hn hls hst (lv_room hrest) hdg hf) hS (fun q _ h => hFc q h) hFc (fun r' u t H1 locs1 ht hvm hw hB hz1 hk1 hS1 => ?_)
  obtain ⟨hP1, hD1⟩ := hB
  rw [ht] at hP1
  subst hw
  obtain ⟨hP2, hD2⟩ := va_join hP hD isC isR hC hR hR2 hdis hk1 hFc hP1 hD1
  exact kk H1 locs1 hP2 hD2 hS1
/-- a call (S) that answers nothing -/
theorem kS_v (S : CallFix p m c cc nL s args Ts own) (hM : Cv l y wsY fr lo E As Wc H.size W1) (cw : CallB R s args own index y bytes maxL ret wsY (rmO fr lo) 0 0 n ∧ (Cond.static y).before args s = true) (hK : va_K E.1 vwCl (tyE E) s) (hN : nst s) (hP : va_P E.1 vwCl ws H) (hD : va_D A ws) (hS : va_S A s.heap H locs) (hA : ∀ q, s.heap.size ≤ q → A q) (isC isR : List Nat) (hC : isC.map (fun i => ws[i]?) = Wc.map some) (hC2 : va_nd isC = true) (hR : isR.map (fun i => ws[i]?) = wr.map some) (hR2 : va_nd isR = true) (hdis : ∀ i ∈ isR, i ∉ isC)
    (hn : As.length = n) (hls : ls.size = nL) (hst : st0 = As.reverse ++ rest) (hrest : (rest.map fun v => v.category).sum ≤ 8) (hdg : decode cc pc = .ok (.invokestatic index, 3)) (hf : cells ≤ R.cells ∧ slots ≤ R.slots)
    (kk : ∀ (H1 : Heap) (locs1 : List Loc), va_P E.1 vwCl (wr ++ W1) H1 → va_D A (wr ++ W1) → va_S A s.heap H1 locs1 → W p l e R s m args below meth c H1 locs1 cells slots Q (F0 m (pc + 3) ls (rest))) : W p l e R s m args below meth c H locs cells slots Q (F0 m pc ls st0) := by
  have hPc : va_P E.1 vwCl Wc H := hP.sub isC (fm_of hC)
  have hDc := hD.sub isC hC2 hC
  have hFc := va_free hD hS hA isC hC
  refine va_callv (mc := 0) (ms := 0) (va_runS (g := F0 m pc ls st0) S hM cw ⟨Pr_blind, fun U hU hW => ⟨rfl, by rw [hU], by rw [hU]; exact hPc, ⟨va_K.moved hW.alike hK, nst_warm hW hN⟩, hDc.weaken (fun _ _ _ _ => trivial)⟩⟩ rfl hn hls hst (lv_room hrest) hdg hf) hS (fun q _ h => hFc q h) hFc (fun u t H1 locs1 ht hvm hw hB hz1 hk1 hS1 => ?_)
  obtain ⟨hP1, hD1⟩ := hB
  rw [ht] at hP1
  obtain ⟨hP2, hD2⟩ := va_join hP hD isC isR hC hR hR2 hdis hk1 hFc hP1 hD1
  exact kk H1 locs1 hP2 hD2 hS1
/-- a call (SN) that answers an int -/
theorem kSN_i (S : CallFix p m c cc nL s args Ts own) (hM : Ci l y wsY fr lo E As Wc H.size r W1) (cw : va_CN R s args own index y host bytes maxL ret wsY (rmO fr lo) 0 0 n ∧ (Cond.static y).before args s = true ∧ True) (hK : va_K E.1 vwCl (tyE E) s) (hN : nst s) (hP : va_P E.1 vwCl ws H) (hD : va_D A ws) (hS : va_S A s.heap H locs) (hA : ∀ q, s.heap.size ≤ q → A q) (isC isR : List Nat) (hC : isC.map (fun i => ws[i]?) = Wc.map some) (hC2 : va_nd isC = true) (hR : isR.map (fun i => ws[i]?) = wr.map some) (hR2 : va_nd isR = true) (hdis : ∀ i ∈ isR, i ∉ isC)
    (hn : As.length = n) (hls : ls.size = nL) (hst : st0 = As.reverse ++ rest) (hrest : (rest.map fun v => v.category).sum ≤ 8) (hdg : decode cc pc = .ok (.invokestatic index, 3)) (hf : cells ≤ R.cells ∧ slots ≤ R.slots)
    (kk : ∀ (H1 : Heap) (locs1 : List Loc), va_P E.1 vwCl (wr ++ W1) H1 → va_D A (wr ++ W1) → va_S A s.heap H1 locs1 → W p l e R s m args below meth c H1 locs1 cells slots Q (F0 m (pc + 3) ls (.int r :: rest))) : W p l e R s m args below meth c H locs cells slots Q (F0 m pc ls st0) := by
  have hPc : va_P E.1 vwCl Wc H := hP.sub isC (fm_of hC)
  have hDc := hD.sub isC hC2 hC
  have hFc := va_free hD hS hA isC hC
  refine va_calli (mc := 0) (ms := 0) (va_runSN (g := F0 m pc ls st0) S hM cw ⟨Pr_blind, fun U hU hW => ⟨rfl, by rw [hU], by rw [hU]; exact hPc, ⟨va_K.moved hW.alike hK, nst_warm hW hN⟩, hDc.weaken (fun _ _ _ _ => trivial)⟩⟩ rfl hn hls hst (lv_room hrest) hdg hf) hS (fun q _ h => hFc q h) hFc (fun r' u t H1 locs1 ht hvm hw hB hz1 hk1 hS1 => ?_)
  obtain ⟨hP1, hD1⟩ := hB
  rw [ht] at hP1
  subst hw
  obtain ⟨hP2, hD2⟩ := va_join hP hD isC isR hC hR hR2 hdis hk1 hFc hP1 hD1
  exact kk H1 locs1 hP2 hD2 hS1
/-- a call (SN) that answers nothing -/
theorem kSN_v (S : CallFix p m c cc nL s args Ts own) (hM : Cv l y wsY fr lo E As Wc H.size W1) (cw : va_CN R s args own index y host bytes maxL ret wsY (rmO fr lo) 0 0 n ∧ (Cond.static y).before args s = true ∧ True) (hK : va_K E.1 vwCl (tyE E) s) (hN : nst s) (hP : va_P E.1 vwCl ws H) (hD : va_D A ws) (hS : va_S A s.heap H locs) (hA : ∀ q, s.heap.size ≤ q → A q) (isC isR : List Nat) (hC : isC.map (fun i => ws[i]?) = Wc.map some) (hC2 : va_nd isC = true) (hR : isR.map (fun i => ws[i]?) = wr.map some) (hR2 : va_nd isR = true) (hdis : ∀ i ∈ isR, i ∉ isC)
    (hn : As.length = n) (hls : ls.size = nL) (hst : st0 = As.reverse ++ rest) (hrest : (rest.map fun v => v.category).sum ≤ 8) (hdg : decode cc pc = .ok (.invokestatic index, 3)) (hf : cells ≤ R.cells ∧ slots ≤ R.slots)
    (kk : ∀ (H1 : Heap) (locs1 : List Loc), va_P E.1 vwCl (wr ++ W1) H1 → va_D A (wr ++ W1) → va_S A s.heap H1 locs1 → W p l e R s m args below meth c H1 locs1 cells slots Q (F0 m (pc + 3) ls (rest))) : W p l e R s m args below meth c H locs cells slots Q (F0 m pc ls st0) := by
  have hPc : va_P E.1 vwCl Wc H := hP.sub isC (fm_of hC)
  have hDc := hD.sub isC hC2 hC
  have hFc := va_free hD hS hA isC hC
  refine va_callv (mc := 0) (ms := 0) (va_runSN (g := F0 m pc ls st0) S hM cw ⟨Pr_blind, fun U hU hW => ⟨rfl, by rw [hU], by rw [hU]; exact hPc, ⟨va_K.moved hW.alike hK, nst_warm hW hN⟩, hDc.weaken (fun _ _ _ _ => trivial)⟩⟩ rfl hn hls hst (lv_room hrest) hdg hf) hS (fun q _ h => hFc q h) hFc (fun u t H1 locs1 ht hvm hw hB hz1 hk1 hS1 => ?_)
  obtain ⟨hP1, hD1⟩ := hB
  rw [ht] at hP1
  obtain ⟨hP2, hD2⟩ := va_join hP hD isC isR hC hR hR2 hdis hk1 hFc hP1 hD1
  exact kk H1 locs1 hP2 hD2 hS1
end RC
section RL
variable {p : Program} {l : Launch} {e : Env} {R : Room} {s : State} {m : MethodId} {args : Array Value} {below : List Frame} {meth : Method} {c : Code} {H : Heap} {locs : List Loc} {cells slots : Nat} {Q : State → Prop}
variable {cc : ByteArray} {pc : Nat} {ls : Array Slot} {rest : List Value}
theorem lgc_lt {x y : Int64} : lg_cmp x y < 0 ↔ x < y := by
  simp only [lg_cmp, Int64.lt_iff_toInt_lt]
  have h1 : x = y ↔ x.toInt = y.toInt := ⟨fun h => by rw [h], fun h => Int64.toInt_inj.mp h⟩
  split
  · rename_i h; constructor
    · intro q; exact absurd q (by decide)
    · intro q; omega
  · split
    · rename_i h2 h; constructor
      · intro q; exact absurd q (by decide)
      · intro q; rw [h] at q; omega
    · rename_i h2 h; constructor
      · intro _; have h3 : ¬ x.toInt = y.toInt := fun q => h (h1.mpr q); omega
      · intro _; decide
theorem lgc_gt {x y : Int64} : 0 < lg_cmp x y ↔ y < x := by
  simp only [lg_cmp, Int64.lt_iff_toInt_lt]
  have h1 : x = y ↔ x.toInt = y.toInt := ⟨fun h => by rw [h], fun h => Int64.toInt_inj.mp h⟩
  split
  · rename_i h; constructor
    · intro _; omega
    · intro _; decide
  · rename_i h0
    split
    · rename_i h; constructor
      · intro q; exact absurd q (by decide)
      · intro q; omega
    · rename_i h; constructor
      · intro q; exact absurd q (by decide)
      · intro q; omega
theorem lgc_eq {x y : Int64} : lg_cmp x y = 0 ↔ x = y := by
  simp only [lg_cmp, Int64.lt_iff_toInt_lt]
  split
  · rename_i h; constructor
    · intro q; exact absurd q (by decide)
    · intro q; rw [q] at h; omega
  · split
    · rename_i h2 h; exact ⟨fun _ => h, fun _ => rfl⟩
    · rename_i h2 h; exact ⟨fun q => absurd q (by decide), fun q => absurd q h⟩
theorem rk_lcmp_lt (hx : p.tables.exec = Jvm.exec) (hb : c.code = cc) {x y : Int64} {off : Int} {tgt : Nat} (hdg : decode cc pc = .ok (.ifCond .lt off, 3)) (ht : (pc : Int) + off = (tgt : Int))
    (kt : x < y → W p l e R s m args below meth c H locs cells slots Q (F0 m tgt ls rest)) (kf : ¬ x < y → W p l e R s m args below meth c H locs cells slots Q (F0 m (pc + 3) ls rest)) : W p l e R s m args below meth c H locs cells slots Q (F0 m pc ls (.int (lg_cmp x y) :: rest)) :=
  lv_if_lt hx hb hdg ht (fun h => kt (lgc_lt.mp h)) (fun h => kf (fun q => h (lgc_lt.mpr q)))
theorem rk_lcmp_gt (hx : p.tables.exec = Jvm.exec) (hb : c.code = cc) {x y : Int64} {off : Int} {tgt : Nat} (hdg : decode cc pc = .ok (.ifCond .gt off, 3)) (ht : (pc : Int) + off = (tgt : Int))
    (kt : y < x → W p l e R s m args below meth c H locs cells slots Q (F0 m tgt ls rest)) (kf : ¬ y < x → W p l e R s m args below meth c H locs cells slots Q (F0 m (pc + 3) ls rest)) : W p l e R s m args below meth c H locs cells slots Q (F0 m pc ls (.int (lg_cmp x y) :: rest)) :=
  lv_if_gt hx hb hdg ht (fun h => kt (lgc_gt.mp h)) (fun h => kf (fun q => h (lgc_gt.mpr q)))
theorem rk_lcmp_eq (hx : p.tables.exec = Jvm.exec) (hb : c.code = cc) {x y : Int64} {off : Int} {tgt : Nat} (hdg : decode cc pc = .ok (.ifCond .eq off, 3)) (ht : (pc : Int) + off = (tgt : Int))
    (kt : x = y → W p l e R s m args below meth c H locs cells slots Q (F0 m tgt ls rest)) (kf : ¬ x = y → W p l e R s m args below meth c H locs cells slots Q (F0 m (pc + 3) ls rest)) : W p l e R s m args below meth c H locs cells slots Q (F0 m pc ls (.int (lg_cmp x y) :: rest)) :=
  lv_if_eq hx hb hdg ht (fun h => kt (lgc_eq.mp h)) (fun h => kf (fun q => h (lgc_eq.mpr q)))
theorem rk_lcmp_ne (hx : p.tables.exec = Jvm.exec) (hb : c.code = cc) {x y : Int64} {off : Int} {tgt : Nat} (hdg : decode cc pc = .ok (.ifCond .ne off, 3)) (ht : (pc : Int) + off = (tgt : Int))
    (kt : ¬ x = y → W p l e R s m args below meth c H locs cells slots Q (F0 m tgt ls rest)) (kf : x = y → W p l e R s m args below meth c H locs cells slots Q (F0 m (pc + 3) ls rest)) : W p l e R s m args below meth c H locs cells slots Q (F0 m pc ls (.int (lg_cmp x y) :: rest)) :=
  lv_if_ne hx hb hdg ht (fun h => kt (fun q => h (lgc_eq.mpr q))) (fun h => kf (lgc_eq.mp h))
theorem tsw_out {N : Nat} (hN : N + 1 < 2 ^ 31) {x : Int32} (h : ∀ j, j < N + 1 → ¬ x = nI j) : x.toInt < 0 ∨ (N : Int) < x.toInt := by
  rcases (show x.toInt < 0 ∨ 0 ≤ x.toInt by omega) with q | q
  · exact Or.inl q
  · refine Or.inr (Classical.byContradiction fun q2 => ?_)
    have h1 : x = nI x.toInt.toNat := by
      apply Int32.toInt_inj.mp
      rw [nI_toInt (by omega)]
      omega
    exact h x.toInt.toNat (by omega) h1
end RL
end
section
/-! THE CLASS'S OWN FUNCTIONS, as its loops compute them (pure) -/
def cnt (st m : Int32) : Bool := !decide (((st >>> (m &&& 31)) &&& nI 1) = 0)
def inR (x n : Int32) : Bool := !decide (x < 0) && !decide (n ≤ x)
def fitsB (hi : Nat → Int32) (k : Nat) (sq : Int32) : Bool := decide (∀ r, r < k → hi r < sq)
def shl1 (f : Nat → Int32) (a k : Nat) : Nat → Int32 := fun j => if a ≤ j ∧ j + 1 < k then f (j + 1) else f j
def allR (rc : Int32) : Int32 := (nI 1 <<< (rc &&& 31)) - nI 1
def rAt (en : Nat → Int32) (sq : Int32) : Nat → Int32
  | 0 => nI 0
  | k + 1 => if cnt (en k) sq = true then rAt en sq k ||| (nI 1 <<< (nI k &&& 31)) else rAt en sq k
def rWi (en : Nat → Int32) (sq : Int32) : Nat → Int32
  | 0 => nI 0
  | k + 1 => if (en k &&& (sq ^^^ (-1))) = 0 then rWi en sq k ||| (nI 1 <<< (nI k &&& 31)) else rWi en sq k
def lnO (le : Nat → Int32) (rs : Int32) : Nat → Int32
  | 0 => nI 0
  | k + 1 => if cnt rs (nI k) = true then lnO le rs k + le k else lnO le rs k
def orf (en : Nat → Int32) (sq rs : Int32) : Nat → Int32
  | 0 => sq
  | k + 1 => if cnt rs (nI k) = true ∧ ¬ (en k &&& sq) = 0 then orf en sq rs k ||| en k else orf en sq rs k
def psC (en : Nat → Int32) (rs x : Int32) : Nat → Int32
  | 0 => x
  | k + 1 => if cnt rs (nI k) = true ∧ ¬ (en k &&& psC en rs x k) = 0 then psC en rs x k ||| en k else psC en rs x k
/-- what is reached after j rounds -/
def rC (en : Nat → Int32) (rs : Int32) (k q : Nat) : Nat → Int32
  | 0 => nI 1 <<< (nI q &&& 31)
  | j + 1 => psC en rs (rC en rs k q j) k
def prC (en : Nat → Int32) (rs : Int32) (k q : Nat) : Nat → Int32
  | 0 => nI 0
  | j + 1 => rC en rs k q j
def rsC (en : Nat → Int32) (rs : Int32) (k q : Nat) : Int32 := rC en rs k q 16
theorem rC_fix {en : Nat → Int32} {rs : Int32} {k q j : Nat} (h : rC en rs k q (j + 1) = rC en rs k q j) : ∀ i, rC en rs k q (j + i) = rC en rs k q j
  | 0 => rfl
  | i + 1 => by
    show psC en rs (rC en rs k q (j + i)) k = _
    rw [rC_fix h i]
    exact h
theorem sh1_ne : ∀ q, q < 32 → ¬ nI 1 <<< (nI q &&& 31) = nI 0 := by decide +kernel
theorem rC_stop {en : Nat → Int32} {rs : Int32} {k q j : Nat} (hq : q < 16) (hj : j ≤ 16) (h : rC en rs k q j = prC en rs k q j) : rC en rs k q j = rsC en rs k q := by
  cases j with
  | zero => exact absurd h (sh1_ne q (by omega))
  | succ j =>
    have h1 := rC_fix (h : rC en rs k q (j + 1) = rC en rs k q j) (16 - j)
    rw [show j + (16 - j) = 16 by omega] at h1
    exact (h.trans h1.symm)
def sfm (f : Nat → Int32) (x v : Int32) (k : Nat) : Nat → Int32 := fun j => if j < k ∧ cnt x (nI j) = true then v else f j
theorem sfm_0 (f : Nat → Int32) (x v : Int32) : sfm f x v 0 = f := by
  funext j
  simp [sfm]
theorem sfm_1 (f : Nat → Int32) (x v : Int32) (i : Nat) : sfm f x v (i + 1) = if cnt x (nI i) = true then upd (sfm f x v i) i v else sfm f x v i := by
  funext j
  by_cases h : cnt x (nI i) = true
  · rw [if_pos h]
    by_cases hj : j = i
    · subst hj; simp [sfm, upd, h]
    · simp only [sfm, upd, if_neg hj]
      have e : j < i + 1 ↔ j < i := by omega
      simp only [e]
  · rw [if_neg h]
    by_cases hj : j = i
    · subst hj; simp [sfm, h]
    · simp only [sfm]
      have e : j < i + 1 ↔ j < i := by omega
      simp only [e]
theorem fitsB_t {hi : Nat → Int32} {k : Nat} {sq : Int32} {i : Nat} (h : k ≤ i) (hy : ∀ r, r < i → hi r < sq) : fitsB hi k sq = true := decide_eq_true (fun r hr => hy r (by omega))
theorem fitsB_f {hi : Nat → Int32} {k : Nat} {sq : Int32} {i : Nat} (h : i < k) (hy : ¬ hi i < sq) : fitsB hi k sq = false := decide_eq_false (fun q => hy (q i h))
theorem shl1_0 (f : Nat → Int32) (r : Nat) : shl1 f r (r + 1) = f := by
  funext j
  simp only [shl1]
  split
  · omega
  · rfl
theorem shl1_1 {f : Nat → Int32} {r i : Nat} (h : r + 1 ≤ i) : upd (shl1 f r i) (i - 1) (shl1 f r i i) = shl1 f r (i + 1) := by
  funext j
  by_cases hj : j = i - 1
  · subst hj
    simp only [upd, if_true, shl1]
    rw [if_neg (by omega), if_pos (by omega), show i - 1 + 1 = i by omega]
  · simp only [upd, if_neg hj, shl1]
    have e : (r ≤ j ∧ j + 1 < i + 1) ↔ (r ≤ j ∧ j + 1 < i) := by omega
    simp only [e]
theorem cnt_t {x y : Int32} (h : ¬ ((x >>> (y &&& 31)) &&& nI 1) = 0) : cnt x y = true := by simp only [cnt]; rw [decide_eq_false h]; rfl
theorem cnt_f {x y : Int32} (h : ((x >>> (y &&& 31)) &&& nI 1) = 0) : cnt x y = false := by simp only [cnt]; rw [decide_eq_true h]; rfl
theorem inR_t {x n : Int32} (h1 : ¬ x < 0) (h2 : ¬ n ≤ x) : inR x n = true := by simp only [inR]; rw [decide_eq_false h1, decide_eq_false h2]; rfl
theorem inR_f1 {x n : Int32} (h1 : x < 0) : inR x n = false := by simp only [inR]; rw [decide_eq_true h1]; rfl
theorem inR_f2 {x n : Int32} (h2 : n ≤ x) : inR x n = false := by simp only [inR]; rw [decide_eq_true h2]; simp
theorem ifn1 {a b : Prop} [Decidable (a ∧ b)] {α : Type} {x y : α} (h : ¬ a) : (if a ∧ b then x else y) = y := if_neg (fun q => h q.1)
theorem ifn2 {a b : Prop} [Decidable (a ∧ b)] {α : Type} {x y : α} (h : ¬ b) : (if a ∧ b then x else y) = y := if_neg (fun q => h q.2)
end
section
set_option maxHeartbeats 400000 in
set_option maxRecDepth 100000 in
theorem c_X4_contains (l : Launch) (E : EE) (sz : Nat) (x y : Int32) : Ci l yX4_contains wsX4_contains 0 0 E [.int x, .int y] [] sz (b2i (cnt x y)) [] := by
  refine C_of (QQ := QI E (b2i (cnt x y)) []) (cc := cX4_contains) (maxL := 2) (ret := (some .boolean)) (by decide +kernel) rfl (Nat.le_of_ble_eq_true rfl) ?_
  intro p e s m args below meth c A R Q ls hx hb hr hts hown hml hlocks hA hK hN hP hD hS hl hR hQ
  have hown : s.vm.findClass RX4 = some m.cls := hown
  have hl : lv_has ls 2 [(0, .int x), (1, .int y)] := hl
  refine lv_iload_n hx hb dX4_contains_0 rfl (lv_at hl 0 rfl) ?_
  refine lv_iload_n hx hb dX4_contains_1 rfl (lv_at hl 1 rfl) ?_
  refine lv_ishr hx hb dX4_contains_2 ?_
  refine lv_iconst (v := nI 1) hx hb dX4_contains_3 (by decide) ?_
  refine lv_iand hx hb dX4_contains_4 ?_
  refine lv_if_eq (tgt := 12) hx hb dX4_contains_5 (by decide) (fun zc5 => ?_) (fun zc5 => ?_)
  · refine lv_iconst (v := nI 0) hx hb dX4_contains_12 (by decide) ?_
    exact ret_z hQ hx hb hr hlocks (hP.sub [] rfl) (hD.sub [] (by decide) rfl) hS dX4_contains_13 (nz_0) (by exact b2i_f (cnt_f zc5))
  · refine lv_iconst (v := nI 1) hx hb dX4_contains_8 (by decide) ?_
    refine lv_goto (tgt := 13) hx hb dX4_contains_9 (by decide) ?_
    exact ret_z hQ hx hb hr hlocks (hP.sub [] rfl) (hD.sub [] (by decide) rfl) hS dX4_contains_13 (nz_1) (by exact b2i_t (cnt_t zc5))
set_option maxHeartbeats 400000 in
set_option maxRecDepth 100000 in
theorem c_X4_setForMembers (l : Launch) (E : EE) (sz : Nat) (q1 : Nat) (f : Nat → Int32) (x v : Int32) : Cv l yX4_setForMembers wsX4_setForMembers 1 21 E [.ref q1, .int x, .int v] [(q1, aI E 16 f)] sz [(q1, aI E 16 (sfm f x v 16))] := by
  refine C_of (QQ := QV E [(q1, aI E 16 (sfm f x v 16))]) (cc := cX4_setForMembers) (maxL := 4) (ret := none) (by decide +kernel) rfl (Nat.le_of_ble_eq_true rfl) ?_
  intro p e s m args below meth c A R Q ls hx hb hr hts hown hml hlocks hA hK hN hP hD hS hl hR hQ
  have hown : s.vm.findClass RX4 = some m.cls := hown
  have hl : lv_has ls 4 [(0, .ref q1), (1, .int x), (2, .int v)] := hl
  refine lv_iconst (v := nI 0) hx hb dX4_setForMembers_0 (by decide) ?_
  refine lv_istore_n (lv' := [(3, .int (nI 0)), (0, .ref q1), (1, .int x), (2, .int v)]) hx hb dX4_setForMembers_1 rfl hl (by decide) rfl (fun ls hl => ?_)
  have L2 : ∀ (fu : Nat) (i : Nat) (g : Nat → Int32), (eg : g = sfm f x v i) → (hi : i ≤ 16) → 16 - i < fu → ∀ (H : Heap) (locs : List Loc), va_P E.1 vwCl [(q1, aI E 16 g)] H → va_D A [(q1, aI E 16 g)] → va_S A s.heap H locs → ∀ (ls : Array Slot), lv_has ls 4 [(3, .int (nI i)), (0, .ref q1), (1, .int x), (2, .int v)] → W p l e R s m args below meth c H locs 0 0 Q (F0 m 2 ls []) := by
    intro fu
    induction fu with
    | zero => intro i g eg hi hfu; exact absurd hfu (Nat.not_lt_zero _)
    | succ fu ih2 =>
      intro i g eg hi hfu H locs hP hD hS ls hl
      refine lv_iload_n hx hb dX4_setForMembers_2 rfl (lv_at hl 0 rfl) ?_
      refine lv_aload_n hx hb dX4_setForMembers_3 rfl (lv_at hl 1 rfl) ?_
      refine va_alen (D := E.1) (cl := vwCl) (tys := tyE E) hx hb hK hP 0 0 rfl rfl (v := nI 16) rfl dX4_setForMembers_4 ?_
      refine rk_geN (tgt := 26) hx hb (by omega) (by omega) dX4_setForMembers_5 (by decide) (fun zc5 => ?_) (fun zc5 => ?_)
      · obtain rfl : i = 16 := by omega
        subst eg
        exact ret_v hQ hx hb hr hlocks (hP.sub [0] rfl) (hD.sub [0] (by decide) rfl) hS dX4_setForMembers_26
      · refine lv_iload_n hx hb dX4_setForMembers_8 rfl (lv_at hl 2 rfl) ?_
        refine lv_iload_n hx hb dX4_setForMembers_9 rfl (lv_at hl 0 rfl) ?_
        refine kS_i (E := E) (As := [.int x, .int (nI i)]) (rest := []) (wr := [(q1, aI E 16 g)]) ⟨hx, hb, hml, hown, hts⟩ (c_X4_contains (l := l) (E := E) (sz := _) (x := x) (y := nI i) ) (cwS 2 hts gX4_setForMembers_X4_contains rfl rfl rfl (by decide +kernel) ⟨by rw [hR]; decide, by rw [hR]; decide⟩) hK hN hP hD hS hA [] [0] rfl (by decide) rfl (by decide) (by decide) rfl hl.1 rfl (Nat.le_of_ble_eq_true rfl) dX4_setForMembers_10 ⟨Nat.zero_le _, Nat.zero_le _⟩ (fun H locs hP hD hS => ?_)
        have hP : va_P E.1 vwCl [(q1, aI E 16 g)] H := hP
        have hD : va_D A [(q1, aI E 16 g)] := hD
        refine rk_if_eqB (tgt := 20) hx hb dX4_setForMembers_13 (by decide) (fun zc13 => ?_) (fun zc13 => ?_)
        · refine lv_iinc (v := nI (i + 1)) (lv' := [(3, .int (nI (i + 1))), (0, .ref q1), (1, .int x), (2, .int v)]) hx hb dX4_setForMembers_20 hl (k := 0) rfl (by rw [show Int32.ofInt 1 = nI 1 by decide]; exact nI_add _ _) (by decide) rfl (fun ls hl => ?_)
          refine lv_goto (tgt := 2) hx hb dX4_setForMembers_23 (by decide) ?_
          exact ih2 (i + 1) g (by rw [eg, sfm_1]; exact (if_neg (by rw [zc13]; decide)).symm) (by first | assumption | omega | rfl) (by omega) _ _ (hP.sub [0] rfl) (hD.sub [0] (by decide) rfl) hS ls (lv_sub hl [0, 1, 2, 3] rfl)
        · refine lv_aload_n hx hb dX4_setForMembers_16 rfl (lv_at hl 1 rfl) ?_
          refine lv_iload_n hx hb dX4_setForMembers_17 rfl (lv_at hl 0 rfl) ?_
          refine lv_iload_n hx hb dX4_setForMembers_18 rfl (lv_at hl 3 rfl) ?_
          refine rk_iast hx hb hK hP hD hS 0 rfl (by omega) (by omega) (ws' := [(q1, aI E 16 (upd g i v))]) rfl dX4_setForMembers_19 (fun H locs hP hD hS => ?_)
          refine lv_iinc (v := nI (i + 1)) (lv' := [(3, .int (nI (i + 1))), (0, .ref q1), (1, .int x), (2, .int v)]) hx hb dX4_setForMembers_20 hl (k := 0) rfl (by rw [show Int32.ofInt 1 = nI 1 by decide]; exact nI_add _ _) (by decide) rfl (fun ls hl => ?_)
          refine lv_goto (tgt := 2) hx hb dX4_setForMembers_23 (by decide) ?_
          exact ih2 (i + 1) (upd g i v) (by rw [eg, sfm_1]; exact (if_pos zc13).symm) (by first | assumption | omega | rfl) (by omega) _ _ (hP.sub [0] rfl) (hD.sub [0] (by decide) rfl) hS ls (lv_sub hl [0, 1, 2, 3] rfl)
  exact L2 ((16 - 0) + 1) 0 f (by exact (sfm_0 f x v).symm) (by first | assumption | omega | rfl) (Nat.lt_succ_self _) _ _ (hP.sub [0] rfl) (hD.sub [0] (by decide) rfl) hS ls (lv_sub hl [0, 1, 2, 3] rfl)
theorem iw_X3_hasSquare_3 : ∀ w ∈ u_ws RX3 TX3 6, w ∈ wsX3_hasSquare := by decide +kernel
theorem fl_X3_hasSquare_9 : Cond.fieldLink RX3 9 (TX3 0).1 (TX3 0).2.1 (TX3 0).2.2.1 ∈ wsX3_hasSquare := by decide +kernel
set_option maxHeartbeats 400000 in
set_option maxRecDepth 100000 in
theorem c_X3_hasSquare (l : Launch) (E : EE) (sz : Nat) (h0 : Nat) (sc f1 : Int32) (q1 q2 q3 q4 : Nat) (x : Int32) : Ci l yX3_hasSquare wsX3_hasSquare 0 0 E [.ref h0, .int x] [(h0, .inr (3, [.int sc, .int f1, .ref q1, .ref q2, .ref q3, .ref q4]))] sz (b2i (inR x sc)) [(h0, .inr (3, [.int sc, .int f1, .ref q1, .ref q2, .ref q3, .ref q4]))] := by
  refine C_of (QQ := QI E (b2i (inR x sc)) [(h0, .inr (3, [.int sc, .int f1, .ref q1, .ref q2, .ref q3, .ref q4]))]) (cc := cX3_hasSquare) (maxL := 2) (ret := (some .boolean)) (by decide +kernel) rfl (Nat.le_of_ble_eq_true rfl) ?_
  intro p e s m args below meth c A R Q ls hx hb hr hts hown hml hlocks hA hK hN hP hD hS hl hR hQ
  have hown : s.vm.findClass RX3 = some m.cls := hown
  have hl : lv_has ls 2 [(0, .ref h0), (1, .int x)] := hl
  refine lv_iload_n hx hb dX3_hasSquare_0 rfl (lv_at hl 1 rfl) ?_
  refine lv_if_lt (tgt := 16) hx hb dX3_hasSquare_1 (by decide) (fun zc1 => ?_) (fun zc1 => ?_)
  · refine lv_iconst (v := nI 0) hx hb dX3_hasSquare_16 (by decide) ?_
    exact ret_z hQ hx hb hr hlocks (hP.sub [0] rfl) (hD.sub [0] (by decide) rfl) hS dX3_hasSquare_17 (nz_0) (by exact b2i_f (inR_f1 zc1))
  · refine lv_iload_n hx hb dX3_hasSquare_4 rfl (lv_at hl 1 rfl) ?_
    refine lv_aload_n hx hb dX3_hasSquare_5 rfl (lv_at hl 0 rfl) ?_
    refine rk_get (ci := 3) (C := RX3) (T := TX3) (N := 6) hx hb hts iw_X3_hasSquare_3 hown hK hP 0 rfl rfl 0 (by decide) fl_X3_hasSquare_9 rfl (v := .int sc) rfl dX3_hasSquare_6 ?_
    refine lv_icmp_ge (tgt := 16) hx hb dX3_hasSquare_9 (by decide) (fun zc9 => ?_) (fun zc9 => ?_)
    · refine lv_iconst (v := nI 0) hx hb dX3_hasSquare_16 (by decide) ?_
      exact ret_z hQ hx hb hr hlocks (hP.sub [0] rfl) (hD.sub [0] (by decide) rfl) hS dX3_hasSquare_17 (nz_0) (by exact b2i_f (inR_f2 zc9))
    · refine lv_iconst (v := nI 1) hx hb dX3_hasSquare_12 (by decide) ?_
      refine lv_goto (tgt := 17) hx hb dX3_hasSquare_13 (by decide) ?_
      exact ret_z hQ hx hb hr hlocks (hP.sub [0] rfl) (hD.sub [0] (by decide) rfl) hS dX3_hasSquare_17 (nz_1) (by exact b2i_t (inR_t zc1 zc9))
theorem iw_X3_hasRoad_3 : ∀ w ∈ u_ws RX3 TX3 6, w ∈ wsX3_hasRoad := by decide +kernel
theorem fl_X3_hasRoad_15 : Cond.fieldLink RX3 15 (TX3 1).1 (TX3 1).2.1 (TX3 1).2.2.1 ∈ wsX3_hasRoad := by decide +kernel
set_option maxHeartbeats 400000 in
set_option maxRecDepth 100000 in
theorem c_X3_hasRoad (l : Launch) (E : EE) (sz : Nat) (h0 : Nat) (sc f1 : Int32) (q1 q2 q3 q4 : Nat) (x : Int32) : Ci l yX3_hasRoad wsX3_hasRoad 0 0 E [.ref h0, .int x] [(h0, .inr (3, [.int sc, .int f1, .ref q1, .ref q2, .ref q3, .ref q4]))] sz (b2i (inR x f1)) [(h0, .inr (3, [.int sc, .int f1, .ref q1, .ref q2, .ref q3, .ref q4]))] := by
  refine C_of (QQ := QI E (b2i (inR x f1)) [(h0, .inr (3, [.int sc, .int f1, .ref q1, .ref q2, .ref q3, .ref q4]))]) (cc := cX3_hasRoad) (maxL := 2) (ret := (some .boolean)) (by decide +kernel) rfl (Nat.le_of_ble_eq_true rfl) ?_
  intro p e s m args below meth c A R Q ls hx hb hr hts hown hml hlocks hA hK hN hP hD hS hl hR hQ
  have hown : s.vm.findClass RX3 = some m.cls := hown
  have hl : lv_has ls 2 [(0, .ref h0), (1, .int x)] := hl
  refine lv_iload_n hx hb dX3_hasRoad_0 rfl (lv_at hl 1 rfl) ?_
  refine lv_if_lt (tgt := 16) hx hb dX3_hasRoad_1 (by decide) (fun zc1 => ?_) (fun zc1 => ?_)
  · refine lv_iconst (v := nI 0) hx hb dX3_hasRoad_16 (by decide) ?_
    exact ret_z hQ hx hb hr hlocks (hP.sub [0] rfl) (hD.sub [0] (by decide) rfl) hS dX3_hasRoad_17 (nz_0) (by exact b2i_f (inR_f1 zc1))
  · refine lv_iload_n hx hb dX3_hasRoad_4 rfl (lv_at hl 1 rfl) ?_
    refine lv_aload_n hx hb dX3_hasRoad_5 rfl (lv_at hl 0 rfl) ?_
    refine rk_get (ci := 3) (C := RX3) (T := TX3) (N := 6) hx hb hts iw_X3_hasRoad_3 hown hK hP 0 rfl rfl 1 (by decide) fl_X3_hasRoad_15 rfl (v := .int f1) rfl dX3_hasRoad_6 ?_
    refine lv_icmp_ge (tgt := 16) hx hb dX3_hasRoad_9 (by decide) (fun zc9 => ?_) (fun zc9 => ?_)
    · refine lv_iconst (v := nI 0) hx hb dX3_hasRoad_16 (by decide) ?_
      exact ret_z hQ hx hb hr hlocks (hP.sub [0] rfl) (hD.sub [0] (by decide) rfl) hS dX3_hasRoad_17 (nz_0) (by exact b2i_f (inR_f2 zc9))
    · refine lv_iconst (v := nI 1) hx hb dX3_hasRoad_12 (by decide) ?_
      refine lv_goto (tgt := 17) hx hb dX3_hasRoad_13 (by decide) ?_
      exact ret_z hQ hx hb hr hlocks (hP.sub [0] rfl) (hD.sub [0] (by decide) rfl) hS dX3_hasRoad_17 (nz_1) (by exact b2i_t (inR_t zc1 zc9))
theorem iw_X3_allRoads_3 : ∀ w ∈ u_ws RX3 TX3 6, w ∈ wsX3_allRoads := by decide +kernel
theorem fl_X3_allRoads_15 : Cond.fieldLink RX3 15 (TX3 1).1 (TX3 1).2.1 (TX3 1).2.2.1 ∈ wsX3_allRoads := by decide +kernel
set_option maxHeartbeats 400000 in
set_option maxRecDepth 100000 in
theorem c_X3_allRoads (l : Launch) (E : EE) (sz : Nat) (h0 : Nat) (sc f1 : Int32) (q1 q2 q3 q4 : Nat) : Ci l yX3_allRoads wsX3_allRoads 0 0 E [.ref h0] [(h0, .inr (3, [.int sc, .int f1, .ref q1, .ref q2, .ref q3, .ref q4]))] sz (allR f1) [(h0, .inr (3, [.int sc, .int f1, .ref q1, .ref q2, .ref q3, .ref q4]))] := by
  refine C_of (QQ := QI E (allR f1) [(h0, .inr (3, [.int sc, .int f1, .ref q1, .ref q2, .ref q3, .ref q4]))]) (cc := cX3_allRoads) (maxL := 1) (ret := (some .int)) (by decide +kernel) rfl (Nat.le_of_ble_eq_true rfl) ?_
  intro p e s m args below meth c A R Q ls hx hb hr hts hown hml hlocks hA hK hN hP hD hS hl hR hQ
  have hown : s.vm.findClass RX3 = some m.cls := hown
  have hl : lv_has ls 1 [(0, .ref h0)] := hl
  refine lv_iconst (v := nI 1) hx hb dX3_allRoads_0 (by decide) ?_
  refine lv_aload_n hx hb dX3_allRoads_1 rfl (lv_at hl 0 rfl) ?_
  refine rk_get (ci := 3) (C := RX3) (T := TX3) (N := 6) hx hb hts iw_X3_allRoads_3 hown hK hP 0 rfl rfl 1 (by decide) fl_X3_allRoads_15 rfl (v := .int f1) rfl dX3_allRoads_2 ?_
  refine lv_ishl hx hb dX3_allRoads_5 ?_
  refine lv_iconst (v := nI 1) hx hb dX3_allRoads_6 (by decide) ?_
  refine lv_isub hx hb dX3_allRoads_7 ?_
  exact ret_i hQ hx hb hr hlocks (hP.sub [0] rfl) (hD.sub [0] (by decide) rfl) hS dX3_allRoads_8 (rfl)
theorem iw_X3_fitsInto_3 : ∀ w ∈ u_ws RX3 TX3 6, w ∈ wsX3_fitsInto := by decide +kernel
theorem fl_X3_fitsInto_15 : Cond.fieldLink RX3 15 (TX3 1).1 (TX3 1).2.1 (TX3 1).2.2.1 ∈ wsX3_fitsInto := by decide +kernel
theorem fl_X3_fitsInto_22 : Cond.fieldLink RX3 22 (TX3 3).1 (TX3 3).2.1 (TX3 3).2.2.1 ∈ wsX3_fitsInto := by decide +kernel
set_option maxHeartbeats 400000 in
set_option maxRecDepth 100000 in
theorem c_X3_fitsInto (l : Launch) (E : EE) (sz : Nat) (h0 q1 q2 q3 q4 : Nat) (sc : Int32) (k : Nat) (hi : Nat → Int32) (x : Int32) (hk : k ≤ 30) : Ci l yX3_fitsInto wsX3_fitsInto 0 0 E [.ref h0, .int x] [(h0, .inr (3, [.int sc, .int (nI k), .ref q1, .ref q2, .ref q3, .ref q4])), (q2, aI E 30 hi)] sz (b2i (fitsB hi k x)) [(h0, .inr (3, [.int sc, .int (nI k), .ref q1, .ref q2, .ref q3, .ref q4])), (q2, aI E 30 hi)] := by
  refine C_of (QQ := QI E (b2i (fitsB hi k x)) [(h0, .inr (3, [.int sc, .int (nI k), .ref q1, .ref q2, .ref q3, .ref q4])), (q2, aI E 30 hi)]) (cc := cX3_fitsInto) (maxL := 3) (ret := (some .boolean)) (by decide +kernel) rfl (Nat.le_of_ble_eq_true rfl) ?_
  intro p e s m args below meth c A R Q ls hx hb hr hts hown hml hlocks hA hK hN hP hD hS hl hR hQ
  have hown : s.vm.findClass RX3 = some m.cls := hown
  have hl : lv_has ls 3 [(0, .ref h0), (1, .int x)] := hl
  refine lv_iconst (v := nI 0) hx hb dX3_fitsInto_0 (by decide) ?_
  refine lv_istore_n (lv' := [(2, .int (nI 0)), (0, .ref h0), (1, .int x)]) hx hb dX3_fitsInto_1 rfl hl (by decide) rfl (fun ls hl => ?_)
  have L2 : ∀ (fu : Nat) (i : Nat), (hy : ∀ r, r < i → hi r < x) → (hi2 : i ≤ k) → k - i < fu → ∀ (H : Heap) (locs : List Loc), va_P E.1 vwCl [(h0, .inr (3, [.int sc, .int (nI k), .ref q1, .ref q2, .ref q3, .ref q4])), (q2, aI E 30 hi)] H → va_D A [(h0, .inr (3, [.int sc, .int (nI k), .ref q1, .ref q2, .ref q3, .ref q4])), (q2, aI E 30 hi)] → va_S A s.heap H locs → ∀ (ls : Array Slot), lv_has ls 3 [(2, .int (nI i)), (0, .ref h0), (1, .int x)] → W p l e R s m args below meth c H locs 0 0 Q (F0 m 2 ls []) := by
    intro fu
    induction fu with
    | zero => intro i hy hi2 hfu; exact absurd hfu (Nat.not_lt_zero _)
    | succ fu ih2 =>
      intro i hy hi2 hfu H locs hP hD hS ls hl
      refine lv_iload_n hx hb dX3_fitsInto_2 rfl (lv_at hl 0 rfl) ?_
      refine lv_aload_n hx hb dX3_fitsInto_3 rfl (lv_at hl 1 rfl) ?_
      refine rk_get (ci := 3) (C := RX3) (T := TX3) (N := 6) hx hb hts iw_X3_fitsInto_3 hown hK hP 0 rfl rfl 1 (by decide) fl_X3_fitsInto_15 rfl (v := .int (nI k)) rfl dX3_fitsInto_4 ?_
      refine rk_geN (tgt := 28) hx hb (by omega) (by omega) dX3_fitsInto_7 (by decide) (fun zc7 => ?_) (fun zc7 => ?_)
      · refine lv_iconst (v := nI 1) hx hb dX3_fitsInto_28 (by decide) ?_
        exact ret_z hQ hx hb hr hlocks (hP.sub [0, 1] rfl) (hD.sub [0, 1] (by decide) rfl) hS dX3_fitsInto_29 (nz_1) (by exact b2i_t (fitsB_t (by omega) hy))
      · refine lv_aload_n hx hb dX3_fitsInto_10 rfl (lv_at hl 1 rfl) ?_
        refine rk_get (ci := 3) (C := RX3) (T := TX3) (N := 6) hx hb hts iw_X3_fitsInto_3 hown hK hP 0 rfl rfl 3 (by decide) fl_X3_fitsInto_22 rfl (v := .ref q2) rfl dX3_fitsInto_11 ?_
        refine lv_iload_n hx hb dX3_fitsInto_14 rfl (lv_at hl 0 rfl) ?_
        refine rk_iald hx hb hK hP 1 rfl (by omega) (by omega) (v := hi i) (rfl) dX3_fitsInto_15 ?_
        refine lv_iload_n hx hb dX3_fitsInto_16 rfl (lv_at hl 2 rfl) ?_
        refine lv_icmp_lt (tgt := 22) hx hb dX3_fitsInto_17 (by decide) (fun zc17 => ?_) (fun zc17 => ?_)
        · refine lv_iinc (v := nI (i + 1)) (lv' := [(2, .int (nI (i + 1))), (0, .ref h0), (1, .int x)]) hx hb dX3_fitsInto_22 hl (k := 0) rfl (by rw [show Int32.ofInt 1 = nI 1 by decide]; exact nI_add _ _) (by decide) rfl (fun ls hl => ?_)
          refine lv_goto (tgt := 2) hx hb dX3_fitsInto_25 (by decide) ?_
          exact ih2 (i + 1) (by intro r hr; rcases Nat.lt_succ_iff_lt_or_eq.mp hr with z | z; exact hy r z; subst z; assumption) (by first | assumption | omega | rfl) (by omega) _ _ (hP.sub [0, 1] rfl) (hD.sub [0, 1] (by decide) rfl) hS ls (lv_sub hl [0, 1, 2] rfl)
        · refine lv_iconst (v := nI 0) hx hb dX3_fitsInto_20 (by decide) ?_
          exact ret_z hQ hx hb hr hlocks (hP.sub [0, 1] rfl) (hD.sub [0, 1] (by decide) rfl) hS dX3_fitsInto_21 (nz_0) (by exact b2i_f (fitsB_f (by omega) (by assumption)))
  exact L2 ((k - 0) + 1) 0 (fun r hr => absurd hr (Nat.not_lt_zero r)) (by first | assumption | omega | rfl) (Nat.lt_succ_self _) _ _ (hP.sub [0, 1] rfl) (hD.sub [0, 1] (by decide) rfl) hS ls (lv_sub hl [0, 1, 2] rfl)
theorem iw_X3_addRoad_3 : ∀ w ∈ u_ws RX3 TX3 6, w ∈ wsX3_addRoad := by decide +kernel
theorem fl_X3_addRoad_15 : Cond.fieldLink RX3 15 (TX3 1).1 (TX3 1).2.1 (TX3 1).2.2.1 ∈ wsX3_addRoad := by decide +kernel
theorem fl_X3_addRoad_18 : Cond.fieldLink RX3 18 (TX3 2).1 (TX3 2).2.1 (TX3 2).2.2.1 ∈ wsX3_addRoad := by decide +kernel
theorem ml37_X3_addRoad : Cond.methodLink RX3 37 Lib.Math.min.name ∈ wsX3_addRoad := by decide +kernel
theorem stmin_X3_addRoad : Cond.static Lib.Math.min.name ∈ wsX3_addRoad := by decide +kernel
theorem inJ9_X3_addRoad : Cond.initialized "java/lang/Math" ∈ wsX3_addRoad := by decide +kernel
theorem cdmin_X3_addRoad : Cond.code Lib.Math.min.name Lib.Math.min.code 2 (some .int) ∈ wsX3_addRoad := by decide +kernel
theorem fl_X3_addRoad_22 : Cond.fieldLink RX3 22 (TX3 3).1 (TX3 3).2.1 (TX3 3).2.2.1 ∈ wsX3_addRoad := by decide +kernel
theorem ml43_X3_addRoad : Cond.methodLink RX3 43 Lib.Math.max.name ∈ wsX3_addRoad := by decide +kernel
theorem stmax_X3_addRoad : Cond.static Lib.Math.max.name ∈ wsX3_addRoad := by decide +kernel
theorem cdmax_X3_addRoad : Cond.code Lib.Math.max.name Lib.Math.max.code 2 (some .int) ∈ wsX3_addRoad := by decide +kernel
theorem fl_X3_addRoad_25 : Cond.fieldLink RX3 25 (TX3 4).1 (TX3 4).2.1 (TX3 4).2.2.1 ∈ wsX3_addRoad := by decide +kernel
theorem fl_X3_addRoad_28 : Cond.fieldLink RX3 28 (TX3 5).1 (TX3 5).2.1 (TX3 5).2.2.1 ∈ wsX3_addRoad := by decide +kernel
set_option maxHeartbeats 400000 in
set_option maxRecDepth 100000 in
theorem c_X3_addRoad (l : Launch) (E : EE) (sz : Nat) (h0 q1 q2 q3 q4 : Nat) (sc : Int32) (k : Nat) (lo hi le en : Nat → Int32) (x y z : Int32) (hk : k < 30) : Cv l yX3_addRoad wsX3_addRoad 1 15 E [.ref h0, .int x, .int y, .int z] [(h0, .inr (3, [.int sc, .int (nI k), .ref q1, .ref q2, .ref q3, .ref q4])), (q1, aI E 30 lo), (q2, aI E 30 hi), (q3, aI E 30 le), (q4, aI E 30 en)] sz [(h0, .inr (3, [.int sc, .int (nI (k + 1)), .ref q1, .ref q2, .ref q3, .ref q4])), (q1, aI E 30 (upd lo k (if y < x then y else x))), (q2, aI E 30 (upd hi k (if x < y then y else x))), (q3, aI E 30 (upd le k z)), (q4, aI E 30 (upd en k ((nI 1 <<< (x &&& 31)) ||| (nI 1 <<< (y &&& 31)))))] := by
  refine C_of (QQ := QV E [(h0, .inr (3, [.int sc, .int (nI (k + 1)), .ref q1, .ref q2, .ref q3, .ref q4])), (q1, aI E 30 (upd lo k (if y < x then y else x))), (q2, aI E 30 (upd hi k (if x < y then y else x))), (q3, aI E 30 (upd le k z)), (q4, aI E 30 (upd en k ((nI 1 <<< (x &&& 31)) ||| (nI 1 <<< (y &&& 31)))))]) (cc := cX3_addRoad) (maxL := 4) (ret := none) (by decide +kernel) rfl (Nat.le_of_ble_eq_true rfl) ?_
  intro p e s m args below meth c A R Q ls hx hb hr hts hown hml hlocks hA hK hN hP hD hS hl hR hQ
  have hown : s.vm.findClass RX3 = some m.cls := hown
  have hl : lv_has ls 4 [(0, .ref h0), (1, .int x), (2, .int y), (3, .int z)] := hl
  refine lv_aload_n hx hb dX3_addRoad_0 rfl (lv_at hl 0 rfl) ?_
  refine rk_get (ci := 3) (C := RX3) (T := TX3) (N := 6) hx hb hts iw_X3_addRoad_3 hown hK hP 0 rfl rfl 1 (by decide) fl_X3_addRoad_15 rfl (v := .int (nI k)) rfl dX3_addRoad_1 ?_
  refine lv_bipush (v := nI 30) hx hb dX3_addRoad_4 (by decide) ?_
  refine rk_ltN (tgt := 10) hx hb (by omega) (by omega) dX3_addRoad_6 (by decide) (fun zc6 => ?_) (fun q => absurd q (by omega))
  refine lv_aload_n hx hb dX3_addRoad_10 rfl (lv_at hl 0 rfl) ?_
  refine rk_get (ci := 3) (C := RX3) (T := TX3) (N := 6) hx hb hts iw_X3_addRoad_3 hown hK hP 0 rfl rfl 2 (by decide) fl_X3_addRoad_18 rfl (v := .ref q1) rfl dX3_addRoad_11 ?_
  refine lv_aload_n hx hb dX3_addRoad_14 rfl (lv_at hl 0 rfl) ?_
  refine rk_get (ci := 3) (C := RX3) (T := TX3) (N := 6) hx hb hts iw_X3_addRoad_3 hown hK hP 0 rfl rfl 1 (by decide) fl_X3_addRoad_15 rfl (v := .int (nI k)) rfl dX3_addRoad_15 ?_
  refine lv_iload_n hx hb dX3_addRoad_18 rfl (lv_at hl 1 rfl) ?_
  refine lv_iload_n hx hb dX3_addRoad_19 rfl (lv_at hl 2 rfl) ?_
  refine va_mmin hx hb (hml.trans hl.1.symm) hown (hts _ ml37_X3_addRoad) (hts _ stmin_X3_addRoad) (hts _ inJ9_X3_addRoad) (hts _ cdmin_X3_addRoad) (by rw [hR]; decide) (by rw [hR]; exact Nat.le_of_ble_eq_true rfl) (Nat.zero_le _) (Nat.zero_le _) dX3_addRoad_20 ?_
  refine rk_iast hx hb hK hP hD hS 1 rfl (by omega) (by omega) (ws' := [(h0, .inr (3, [.int sc, .int (nI k), .ref q1, .ref q2, .ref q3, .ref q4])), (q1, aI E 30 (upd lo k (if y < x then y else x))), (q2, aI E 30 hi), (q3, aI E 30 le), (q4, aI E 30 en)]) rfl dX3_addRoad_23 (fun H locs hP hD hS => ?_)
  refine lv_aload_n hx hb dX3_addRoad_24 rfl (lv_at hl 0 rfl) ?_
  refine rk_get (ci := 3) (C := RX3) (T := TX3) (N := 6) hx hb hts iw_X3_addRoad_3 hown hK hP 0 rfl rfl 3 (by decide) fl_X3_addRoad_22 rfl (v := .ref q2) rfl dX3_addRoad_25 ?_
  refine lv_aload_n hx hb dX3_addRoad_28 rfl (lv_at hl 0 rfl) ?_
  refine rk_get (ci := 3) (C := RX3) (T := TX3) (N := 6) hx hb hts iw_X3_addRoad_3 hown hK hP 0 rfl rfl 1 (by decide) fl_X3_addRoad_15 rfl (v := .int (nI k)) rfl dX3_addRoad_29 ?_
  refine lv_iload_n hx hb dX3_addRoad_32 rfl (lv_at hl 1 rfl) ?_
  refine lv_iload_n hx hb dX3_addRoad_33 rfl (lv_at hl 2 rfl) ?_
  refine va_mmax hx hb (hml.trans hl.1.symm) hown (hts _ ml43_X3_addRoad) (hts _ stmax_X3_addRoad) (hts _ inJ9_X3_addRoad) (hts _ cdmax_X3_addRoad) (by rw [hR]; decide) (by rw [hR]; exact Nat.le_of_ble_eq_true rfl) (Nat.zero_le _) (Nat.zero_le _) dX3_addRoad_34 ?_
  refine rk_iast hx hb hK hP hD hS 2 rfl (by omega) (by omega) (ws' := [(h0, .inr (3, [.int sc, .int (nI k), .ref q1, .ref q2, .ref q3, .ref q4])), (q1, aI E 30 (upd lo k (if y < x then y else x))), (q2, aI E 30 (upd hi k (if x < y then y else x))), (q3, aI E 30 le), (q4, aI E 30 en)]) rfl dX3_addRoad_37 (fun H locs hP hD hS => ?_)
  refine lv_aload_n hx hb dX3_addRoad_38 rfl (lv_at hl 0 rfl) ?_
  refine rk_get (ci := 3) (C := RX3) (T := TX3) (N := 6) hx hb hts iw_X3_addRoad_3 hown hK hP 0 rfl rfl 4 (by decide) fl_X3_addRoad_25 rfl (v := .ref q3) rfl dX3_addRoad_39 ?_
  refine lv_aload_n hx hb dX3_addRoad_42 rfl (lv_at hl 0 rfl) ?_
  refine rk_get (ci := 3) (C := RX3) (T := TX3) (N := 6) hx hb hts iw_X3_addRoad_3 hown hK hP 0 rfl rfl 1 (by decide) fl_X3_addRoad_15 rfl (v := .int (nI k)) rfl dX3_addRoad_43 ?_
  refine lv_iload_n hx hb dX3_addRoad_46 rfl (lv_at hl 3 rfl) ?_
  refine rk_iast hx hb hK hP hD hS 3 rfl (by omega) (by omega) (ws' := [(h0, .inr (3, [.int sc, .int (nI k), .ref q1, .ref q2, .ref q3, .ref q4])), (q1, aI E 30 (upd lo k (if y < x then y else x))), (q2, aI E 30 (upd hi k (if x < y then y else x))), (q3, aI E 30 (upd le k z)), (q4, aI E 30 en)]) rfl dX3_addRoad_47 (fun H locs hP hD hS => ?_)
  refine lv_aload_n hx hb dX3_addRoad_48 rfl (lv_at hl 0 rfl) ?_
  refine rk_get (ci := 3) (C := RX3) (T := TX3) (N := 6) hx hb hts iw_X3_addRoad_3 hown hK hP 0 rfl rfl 5 (by decide) fl_X3_addRoad_28 rfl (v := .ref q4) rfl dX3_addRoad_49 ?_
  refine lv_aload_n hx hb dX3_addRoad_52 rfl (lv_at hl 0 rfl) ?_
  refine rk_get (ci := 3) (C := RX3) (T := TX3) (N := 6) hx hb hts iw_X3_addRoad_3 hown hK hP 0 rfl rfl 1 (by decide) fl_X3_addRoad_15 rfl (v := .int (nI k)) rfl dX3_addRoad_53 ?_
  refine lv_iconst (v := nI 1) hx hb dX3_addRoad_56 (by decide) ?_
  refine lv_iload_n hx hb dX3_addRoad_57 rfl (lv_at hl 1 rfl) ?_
  refine lv_ishl hx hb dX3_addRoad_58 ?_
  refine lv_iconst (v := nI 1) hx hb dX3_addRoad_59 (by decide) ?_
  refine lv_iload_n hx hb dX3_addRoad_60 rfl (lv_at hl 2 rfl) ?_
  refine lv_ishl hx hb dX3_addRoad_61 ?_
  refine lv_ior hx hb dX3_addRoad_62 ?_
  refine rk_iast hx hb hK hP hD hS 4 rfl (by omega) (by omega) (ws' := [(h0, .inr (3, [.int sc, .int (nI k), .ref q1, .ref q2, .ref q3, .ref q4])), (q1, aI E 30 (upd lo k (if y < x then y else x))), (q2, aI E 30 (upd hi k (if x < y then y else x))), (q3, aI E 30 (upd le k z)), (q4, aI E 30 (upd en k (((nI 1) <<< (x &&& 31)) ||| ((nI 1) <<< (y &&& 31)))))]) rfl dX3_addRoad_63 (fun H locs hP hD hS => ?_)
  refine lv_aload_n hx hb dX3_addRoad_64 rfl (lv_at hl 0 rfl) ?_
  refine lv_dup hx hb dX3_addRoad_65 rfl ?_
  refine rk_get (ci := 3) (C := RX3) (T := TX3) (N := 6) hx hb hts iw_X3_addRoad_3 hown hK hP 0 rfl rfl 1 (by decide) fl_X3_addRoad_15 rfl (v := .int (nI k)) rfl dX3_addRoad_66 ?_
  refine lv_iconst (v := nI 1) hx hb dX3_addRoad_69 (by decide) ?_
  refine rk_iaddN hx hb dX3_addRoad_70 ?_
  refine rk_put (ci := 3) (C := RX3) (T := TX3) (N := 6) hx hb hts iw_X3_addRoad_3 tyX3 tyX3_ok nmX3 hown hK hP hD hS 0 rfl rfl 1 (by decide) fl_X3_addRoad_15 rfl rfl (tyX3_ok 1 (by decide)) rfl rfl (Nat.le_of_ble_eq_true rfl) (ws' := [(h0, .inr (3, [.int sc, .int (nI (k + 1)), .ref q1, .ref q2, .ref q3, .ref q4])), (q1, aI E 30 (upd lo k (if y < x then y else x))), (q2, aI E 30 (upd hi k (if x < y then y else x))), (q3, aI E 30 (upd le k z)), (q4, aI E 30 (upd en k (((nI 1) <<< (x &&& 31)) ||| ((nI 1) <<< (y &&& 31)))))]) rfl dX3_addRoad_71 (fun H locs hP hD hS => ?_)
  exact ret_v hQ hx hb hr hlocks (hP.sub [0, 1, 2, 3, 4] rfl) (hD.sub [0, 1, 2, 3, 4] (by decide) rfl) hS dX3_addRoad_74
theorem iw_X3_removeRoad_3 : ∀ w ∈ u_ws RX3 TX3 6, w ∈ wsX3_removeRoad := by decide +kernel
theorem fl_X3_removeRoad_15 : Cond.fieldLink RX3 15 (TX3 1).1 (TX3 1).2.1 (TX3 1).2.2.1 ∈ wsX3_removeRoad := by decide +kernel
theorem fl_X3_removeRoad_18 : Cond.fieldLink RX3 18 (TX3 2).1 (TX3 2).2.1 (TX3 2).2.2.1 ∈ wsX3_removeRoad := by decide +kernel
theorem fl_X3_removeRoad_22 : Cond.fieldLink RX3 22 (TX3 3).1 (TX3 3).2.1 (TX3 3).2.2.1 ∈ wsX3_removeRoad := by decide +kernel
theorem fl_X3_removeRoad_25 : Cond.fieldLink RX3 25 (TX3 4).1 (TX3 4).2.1 (TX3 4).2.2.1 ∈ wsX3_removeRoad := by decide +kernel
theorem fl_X3_removeRoad_28 : Cond.fieldLink RX3 28 (TX3 5).1 (TX3 5).2.1 (TX3 5).2.2.1 ∈ wsX3_removeRoad := by decide +kernel
set_option maxHeartbeats 400000 in
set_option maxRecDepth 100000 in
theorem c_X3_removeRoad (l : Launch) (E : EE) (sz : Nat) (h0 q1 q2 q3 q4 : Nat) (sc : Int32) (k : Nat) (lo hi le en : Nat → Int32) (r : Nat) (hk : k ≤ 30) (hr9 : r < k) : Cv l yX3_removeRoad wsX3_removeRoad 0 0 E [.ref h0, .int (nI r)] [(h0, .inr (3, [.int sc, .int (nI k), .ref q1, .ref q2, .ref q3, .ref q4])), (q1, aI E 30 lo), (q2, aI E 30 hi), (q3, aI E 30 le), (q4, aI E 30 en)] sz [(h0, .inr (3, [.int sc, .int (nI (k - 1)), .ref q1, .ref q2, .ref q3, .ref q4])), (q1, aI E 30 (shl1 lo r k)), (q2, aI E 30 (shl1 hi r k)), (q3, aI E 30 (shl1 le r k)), (q4, aI E 30 (shl1 en r k))] := by
  refine C_of (QQ := QV E [(h0, .inr (3, [.int sc, .int (nI (k - 1)), .ref q1, .ref q2, .ref q3, .ref q4])), (q1, aI E 30 (shl1 lo r k)), (q2, aI E 30 (shl1 hi r k)), (q3, aI E 30 (shl1 le r k)), (q4, aI E 30 (shl1 en r k))]) (cc := cX3_removeRoad) (maxL := 3) (ret := none) (by decide +kernel) rfl (Nat.le_of_ble_eq_true rfl) ?_
  intro p e s m args below meth c A R Q ls hx hb hr hts hown hml hlocks hA hK hN hP hD hS hl hR hQ
  have hown : s.vm.findClass RX3 = some m.cls := hown
  have hl : lv_has ls 3 [(0, .ref h0), (1, .int (nI r))] := hl
  refine lv_iload_n hx hb dX3_removeRoad_0 rfl (lv_at hl 1 rfl) ?_
  refine lv_iconst (v := nI 1) hx hb dX3_removeRoad_1 (by decide) ?_
  refine rk_iaddN hx hb dX3_removeRoad_2 ?_
  refine lv_istore_n (lv' := [(2, .int (nI (r + 1))), (0, .ref h0), (1, .int (nI r))]) hx hb dX3_removeRoad_3 rfl hl (by decide) rfl (fun ls hl => ?_)
  have L4 : ∀ (fu : Nat) (i : Nat) (a1 a2 a3 a4 : Nat → Int32), (e1 : a1 = shl1 lo r i) → (e2 : a2 = shl1 hi r i) → (e3 : a3 = shl1 le r i) → (e4 : a4 = shl1 en r i) → (hi1 : r + 1 ≤ i) → (hi2 : i ≤ k) → k - i < fu → ∀ (H : Heap) (locs : List Loc), va_P E.1 vwCl [(h0, .inr (3, [.int sc, .int (nI k), .ref q1, .ref q2, .ref q3, .ref q4])), (q1, aI E 30 a1), (q2, aI E 30 a2), (q3, aI E 30 a3), (q4, aI E 30 a4)] H → va_D A [(h0, .inr (3, [.int sc, .int (nI k), .ref q1, .ref q2, .ref q3, .ref q4])), (q1, aI E 30 a1), (q2, aI E 30 a2), (q3, aI E 30 a3), (q4, aI E 30 a4)] → va_S A s.heap H locs → ∀ (ls : Array Slot), lv_has ls 3 [(2, .int (nI i)), (0, .ref h0), (1, .int (nI r))] → W p l e R s m args below meth c H locs 0 0 Q (F0 m 4 ls []) := by
    intro fu
    induction fu with
    | zero => intro i a1 a2 a3 a4 e1 e2 e3 e4 hi1 hi2 hfu; exact absurd hfu (Nat.not_lt_zero _)
    | succ fu ih4 =>
      intro i a1 a2 a3 a4 e1 e2 e3 e4 hi1 hi2 hfu H locs hP hD hS ls hl
      refine lv_iload_n hx hb dX3_removeRoad_4 rfl (lv_at hl 0 rfl) ?_
      refine lv_aload_n hx hb dX3_removeRoad_5 rfl (lv_at hl 1 rfl) ?_
      refine rk_get (ci := 3) (C := RX3) (T := TX3) (N := 6) hx hb hts iw_X3_removeRoad_3 hown hK hP 0 rfl rfl 1 (by decide) fl_X3_removeRoad_15 rfl (v := .int (nI k)) rfl dX3_removeRoad_6 ?_
      refine rk_geN (tgt := 74) hx hb (by omega) (by omega) dX3_removeRoad_9 (by decide) (fun zc9 => ?_) (fun zc9 => ?_)
      · obtain rfl : k = i := by omega
        subst e1; subst e2; subst e3; subst e4
        refine lv_aload_n hx hb dX3_removeRoad_74 rfl (lv_at hl 1 rfl) ?_
        refine lv_dup hx hb dX3_removeRoad_75 rfl ?_
        refine rk_get (ci := 3) (C := RX3) (T := TX3) (N := 6) hx hb hts iw_X3_removeRoad_3 hown hK hP 0 rfl rfl 1 (by decide) fl_X3_removeRoad_15 rfl (v := .int (nI k)) rfl dX3_removeRoad_76 ?_
        refine lv_iconst (v := nI 1) hx hb dX3_removeRoad_79 (by decide) ?_
        refine rk_isubN hx hb (by omega) dX3_removeRoad_80 ?_
        refine rk_put (ci := 3) (C := RX3) (T := TX3) (N := 6) hx hb hts iw_X3_removeRoad_3 tyX3 tyX3_ok nmX3 hown hK hP hD hS 0 rfl rfl 1 (by decide) fl_X3_removeRoad_15 rfl rfl (tyX3_ok 1 (by decide)) rfl rfl (Nat.le_of_ble_eq_true rfl) (ws' := [(h0, .inr (3, [.int sc, .int (nI (k - 1)), .ref q1, .ref q2, .ref q3, .ref q4])), (q1, aI E 30 ((shl1 lo r k))), (q2, aI E 30 ((shl1 hi r k))), (q3, aI E 30 ((shl1 le r k))), (q4, aI E 30 ((shl1 en r k)))]) rfl dX3_removeRoad_81 (fun H locs hP hD hS => ?_)
        exact ret_v hQ hx hb hr hlocks (hP.sub [0, 1, 2, 3, 4] rfl) (hD.sub [0, 1, 2, 3, 4] (by decide) rfl) hS dX3_removeRoad_84
      · refine lv_aload_n hx hb dX3_removeRoad_12 rfl (lv_at hl 1 rfl) ?_
        refine rk_get (ci := 3) (C := RX3) (T := TX3) (N := 6) hx hb hts iw_X3_removeRoad_3 hown hK hP 0 rfl rfl 2 (by decide) fl_X3_removeRoad_18 rfl (v := .ref q1) rfl dX3_removeRoad_13 ?_
        refine lv_iload_n hx hb dX3_removeRoad_16 rfl (lv_at hl 0 rfl) ?_
        refine lv_iconst (v := nI 1) hx hb dX3_removeRoad_17 (by decide) ?_
        refine rk_isubN hx hb (by omega) dX3_removeRoad_18 ?_
        refine lv_aload_n hx hb dX3_removeRoad_19 rfl (lv_at hl 1 rfl) ?_
        refine rk_get (ci := 3) (C := RX3) (T := TX3) (N := 6) hx hb hts iw_X3_removeRoad_3 hown hK hP 0 rfl rfl 2 (by decide) fl_X3_removeRoad_18 rfl (v := .ref q1) rfl dX3_removeRoad_20 ?_
        refine lv_iload_n hx hb dX3_removeRoad_23 rfl (lv_at hl 0 rfl) ?_
        refine rk_iald hx hb hK hP 1 rfl (by omega) (by omega) (v := a1 i) (rfl) dX3_removeRoad_24 ?_
        refine rk_iast hx hb hK hP hD hS 1 rfl (by omega) (by omega) (ws' := [(h0, .inr (3, [.int sc, .int (nI k), .ref q1, .ref q2, .ref q3, .ref q4])), (q1, aI E 30 (upd a1 (i - 1) (a1 i))), (q2, aI E 30 a2), (q3, aI E 30 a3), (q4, aI E 30 a4)]) rfl dX3_removeRoad_25 (fun H locs hP hD hS => ?_)
        refine lv_aload_n hx hb dX3_removeRoad_26 rfl (lv_at hl 1 rfl) ?_
        refine rk_get (ci := 3) (C := RX3) (T := TX3) (N := 6) hx hb hts iw_X3_removeRoad_3 hown hK hP 0 rfl rfl 3 (by decide) fl_X3_removeRoad_22 rfl (v := .ref q2) rfl dX3_removeRoad_27 ?_
        refine lv_iload_n hx hb dX3_removeRoad_30 rfl (lv_at hl 0 rfl) ?_
        refine lv_iconst (v := nI 1) hx hb dX3_removeRoad_31 (by decide) ?_
        refine rk_isubN hx hb (by omega) dX3_removeRoad_32 ?_
        refine lv_aload_n hx hb dX3_removeRoad_33 rfl (lv_at hl 1 rfl) ?_
        refine rk_get (ci := 3) (C := RX3) (T := TX3) (N := 6) hx hb hts iw_X3_removeRoad_3 hown hK hP 0 rfl rfl 3 (by decide) fl_X3_removeRoad_22 rfl (v := .ref q2) rfl dX3_removeRoad_34 ?_
        refine lv_iload_n hx hb dX3_removeRoad_37 rfl (lv_at hl 0 rfl) ?_
        refine rk_iald hx hb hK hP 2 rfl (by omega) (by omega) (v := a2 i) (rfl) dX3_removeRoad_38 ?_
        refine rk_iast hx hb hK hP hD hS 2 rfl (by omega) (by omega) (ws' := [(h0, .inr (3, [.int sc, .int (nI k), .ref q1, .ref q2, .ref q3, .ref q4])), (q1, aI E 30 (upd a1 (i - 1) (a1 i))), (q2, aI E 30 (upd a2 (i - 1) (a2 i))), (q3, aI E 30 a3), (q4, aI E 30 a4)]) rfl dX3_removeRoad_39 (fun H locs hP hD hS => ?_)
        refine lv_aload_n hx hb dX3_removeRoad_40 rfl (lv_at hl 1 rfl) ?_
        refine rk_get (ci := 3) (C := RX3) (T := TX3) (N := 6) hx hb hts iw_X3_removeRoad_3 hown hK hP 0 rfl rfl 4 (by decide) fl_X3_removeRoad_25 rfl (v := .ref q3) rfl dX3_removeRoad_41 ?_
        refine lv_iload_n hx hb dX3_removeRoad_44 rfl (lv_at hl 0 rfl) ?_
        refine lv_iconst (v := nI 1) hx hb dX3_removeRoad_45 (by decide) ?_
        refine rk_isubN hx hb (by omega) dX3_removeRoad_46 ?_
        refine lv_aload_n hx hb dX3_removeRoad_47 rfl (lv_at hl 1 rfl) ?_
        refine rk_get (ci := 3) (C := RX3) (T := TX3) (N := 6) hx hb hts iw_X3_removeRoad_3 hown hK hP 0 rfl rfl 4 (by decide) fl_X3_removeRoad_25 rfl (v := .ref q3) rfl dX3_removeRoad_48 ?_
        refine lv_iload_n hx hb dX3_removeRoad_51 rfl (lv_at hl 0 rfl) ?_
        refine rk_iald hx hb hK hP 3 rfl (by omega) (by omega) (v := a3 i) (rfl) dX3_removeRoad_52 ?_
        refine rk_iast hx hb hK hP hD hS 3 rfl (by omega) (by omega) (ws' := [(h0, .inr (3, [.int sc, .int (nI k), .ref q1, .ref q2, .ref q3, .ref q4])), (q1, aI E 30 (upd a1 (i - 1) (a1 i))), (q2, aI E 30 (upd a2 (i - 1) (a2 i))), (q3, aI E 30 (upd a3 (i - 1) (a3 i))), (q4, aI E 30 a4)]) rfl dX3_removeRoad_53 (fun H locs hP hD hS => ?_)
        refine lv_aload_n hx hb dX3_removeRoad_54 rfl (lv_at hl 1 rfl) ?_
        refine rk_get (ci := 3) (C := RX3) (T := TX3) (N := 6) hx hb hts iw_X3_removeRoad_3 hown hK hP 0 rfl rfl 5 (by decide) fl_X3_removeRoad_28 rfl (v := .ref q4) rfl dX3_removeRoad_55 ?_
        refine lv_iload_n hx hb dX3_removeRoad_58 rfl (lv_at hl 0 rfl) ?_
        refine lv_iconst (v := nI 1) hx hb dX3_removeRoad_59 (by decide) ?_
        refine rk_isubN hx hb (by omega) dX3_removeRoad_60 ?_
        refine lv_aload_n hx hb dX3_removeRoad_61 rfl (lv_at hl 1 rfl) ?_
        refine rk_get (ci := 3) (C := RX3) (T := TX3) (N := 6) hx hb hts iw_X3_removeRoad_3 hown hK hP 0 rfl rfl 5 (by decide) fl_X3_removeRoad_28 rfl (v := .ref q4) rfl dX3_removeRoad_62 ?_
        refine lv_iload_n hx hb dX3_removeRoad_65 rfl (lv_at hl 0 rfl) ?_
        refine rk_iald hx hb hK hP 4 rfl (by omega) (by omega) (v := a4 i) (rfl) dX3_removeRoad_66 ?_
        refine rk_iast hx hb hK hP hD hS 4 rfl (by omega) (by omega) (ws' := [(h0, .inr (3, [.int sc, .int (nI k), .ref q1, .ref q2, .ref q3, .ref q4])), (q1, aI E 30 (upd a1 (i - 1) (a1 i))), (q2, aI E 30 (upd a2 (i - 1) (a2 i))), (q3, aI E 30 (upd a3 (i - 1) (a3 i))), (q4, aI E 30 (upd a4 (i - 1) (a4 i)))]) rfl dX3_removeRoad_67 (fun H locs hP hD hS => ?_)
        refine lv_iinc (v := nI (i + 1)) (lv' := [(2, .int (nI (i + 1))), (0, .ref h0), (1, .int (nI r))]) hx hb dX3_removeRoad_68 hl (k := 0) rfl (by rw [show Int32.ofInt 1 = nI 1 by decide]; exact nI_add _ _) (by decide) rfl (fun ls hl => ?_)
        refine lv_goto (tgt := 4) hx hb dX3_removeRoad_71 (by decide) ?_
        exact ih4 (i + 1) (upd a1 (i - 1) (a1 i)) (upd a2 (i - 1) (a2 i)) (upd a3 (i - 1) (a3 i)) (upd a4 (i - 1) (a4 i)) (by rw [e1]; exact shl1_1 (by omega)) (by rw [e2]; exact shl1_1 (by omega)) (by rw [e3]; exact shl1_1 (by omega)) (by rw [e4]; exact shl1_1 (by omega)) (by first | assumption | omega | rfl) (by first | assumption | omega | rfl) (by omega) _ _ (hP.sub [0, 1, 2, 3, 4] rfl) (hD.sub [0, 1, 2, 3, 4] (by decide) rfl) hS ls (lv_sub hl [0, 1, 2] rfl)
  exact L4 ((k - (r + 1)) + 1) (r + 1) lo hi le en (by exact (shl1_0 _ _).symm) (by exact (shl1_0 _ _).symm) (by exact (shl1_0 _ _).symm) (by exact (shl1_0 _ _).symm) (by first | assumption | omega | rfl) (by first | assumption | omega | rfl) (Nat.lt_succ_self _) _ _ (hP.sub [0, 1, 2, 3, 4] rfl) (hD.sub [0, 1, 2, 3, 4] (by decide) rfl) hS ls (lv_sub hl [0, 1, 2] rfl)
theorem iw_X3_roadsAt_3 : ∀ w ∈ u_ws RX3 TX3 6, w ∈ wsX3_roadsAt := by decide +kernel
theorem fl_X3_roadsAt_15 : Cond.fieldLink RX3 15 (TX3 1).1 (TX3 1).2.1 (TX3 1).2.2.1 ∈ wsX3_roadsAt := by decide +kernel
theorem fl_X3_roadsAt_28 : Cond.fieldLink RX3 28 (TX3 5).1 (TX3 5).2.1 (TX3 5).2.2.1 ∈ wsX3_roadsAt := by decide +kernel
theorem inX4_X3_roadsAt : Cond.initialized RX4 ∈ wsX3_roadsAt := by decide +kernel
theorem stX4_contains_X3_roadsAt : Cond.static yX4_contains ∈ wsX3_roadsAt := by decide +kernel
set_option maxHeartbeats 400000 in
set_option maxRecDepth 100000 in
theorem c_X3_roadsAt (l : Launch) (E : EE) (sz : Nat) (h0 q1 q2 q3 q4 : Nat) (sc : Int32) (k : Nat) (en : Nat → Int32) (x : Int32) (hk : k ≤ 30) : Ci l yX3_roadsAt wsX3_roadsAt 1 21 E [.ref h0, .int x] [(h0, .inr (3, [.int sc, .int (nI k), .ref q1, .ref q2, .ref q3, .ref q4])), (q4, aI E 30 en)] sz (rAt en x k) [(h0, .inr (3, [.int sc, .int (nI k), .ref q1, .ref q2, .ref q3, .ref q4])), (q4, aI E 30 en)] := by
  refine C_of (QQ := QI E (rAt en x k) [(h0, .inr (3, [.int sc, .int (nI k), .ref q1, .ref q2, .ref q3, .ref q4])), (q4, aI E 30 en)]) (cc := cX3_roadsAt) (maxL := 4) (ret := (some .int)) (by decide +kernel) rfl (Nat.le_of_ble_eq_true rfl) ?_
  intro p e s m args below meth c A R Q ls hx hb hr hts hown hml hlocks hA hK hN hP hD hS hl hR hQ
  have hown : s.vm.findClass RX3 = some m.cls := hown
  have hl : lv_has ls 4 [(0, .ref h0), (1, .int x)] := hl
  refine lv_iconst (v := nI 0) hx hb dX3_roadsAt_0 (by decide) ?_
  refine lv_istore_n (lv' := [(2, .int (nI 0)), (0, .ref h0), (1, .int x)]) hx hb dX3_roadsAt_1 rfl hl (by decide) rfl (fun ls hl => ?_)
  refine lv_iconst (v := nI 0) hx hb dX3_roadsAt_2 (by decide) ?_
  refine lv_istore_n (lv' := [(3, .int (nI 0)), (2, .int (nI 0)), (0, .ref h0), (1, .int x)]) hx hb dX3_roadsAt_3 rfl hl (by decide) rfl (fun ls hl => ?_)
  have L4 : ∀ (fu : Nat) (y : Int32) (i : Nat), (ey : y = rAt en x i) → (hi2 : i ≤ k) → k - i < fu → ∀ (H : Heap) (locs : List Loc), va_P E.1 vwCl [(h0, .inr (3, [.int sc, .int (nI k), .ref q1, .ref q2, .ref q3, .ref q4])), (q4, aI E 30 en)] H → va_D A [(h0, .inr (3, [.int sc, .int (nI k), .ref q1, .ref q2, .ref q3, .ref q4])), (q4, aI E 30 en)] → va_S A s.heap H locs → ∀ (ls : Array Slot), lv_has ls 4 [(3, .int (nI i)), (2, .int y), (0, .ref h0), (1, .int x)] → W p l e R s m args below meth c H locs 0 0 Q (F0 m 4 ls []) := by
    intro fu
    induction fu with
    | zero => intro y i ey hi2 hfu; exact absurd hfu (Nat.not_lt_zero _)
    | succ fu ih4 =>
      intro y i ey hi2 hfu H locs hP hD hS ls hl
      refine lv_iload_n hx hb dX3_roadsAt_4 rfl (lv_at hl 0 rfl) ?_
      refine lv_aload_n hx hb dX3_roadsAt_5 rfl (lv_at hl 2 rfl) ?_
      refine rk_get (ci := 3) (C := RX3) (T := TX3) (N := 6) hx hb hts iw_X3_roadsAt_3 hown hK hP 0 rfl rfl 1 (by decide) fl_X3_roadsAt_15 rfl (v := .int (nI k)) rfl dX3_roadsAt_6 ?_
      refine rk_geN (tgt := 37) hx hb (by omega) (by omega) dX3_roadsAt_9 (by decide) (fun zc9 => ?_) (fun zc9 => ?_)
      · refine lv_iload_n hx hb dX3_roadsAt_37 rfl (lv_at hl 1 rfl) ?_
        exact ret_i hQ hx hb hr hlocks (hP.sub [0, 1] rfl) (hD.sub [0, 1] (by decide) rfl) hS dX3_roadsAt_38 (by obtain rfl : k = i := (by omega); exact ey)
      · refine lv_aload_n hx hb dX3_roadsAt_12 rfl (lv_at hl 2 rfl) ?_
        refine rk_get (ci := 3) (C := RX3) (T := TX3) (N := 6) hx hb hts iw_X3_roadsAt_3 hown hK hP 0 rfl rfl 5 (by decide) fl_X3_roadsAt_28 rfl (v := .ref q4) rfl dX3_roadsAt_13 ?_
        refine lv_iload_n hx hb dX3_roadsAt_16 rfl (lv_at hl 0 rfl) ?_
        refine rk_iald hx hb hK hP 1 rfl (by omega) (by omega) (v := en i) (rfl) dX3_roadsAt_17 ?_
        refine lv_iload_n hx hb dX3_roadsAt_18 rfl (lv_at hl 3 rfl) ?_
        refine kSN_i (E := E) (As := [.int (en i), .int x]) (rest := []) (wr := [(h0, .inr (3, [.int sc, .int (nI k), .ref q1, .ref q2, .ref q3, .ref q4])), (q4, aI E 30 en)]) ⟨hx, hb, hml, hown, hts⟩ (c_X4_contains (l := l) (E := E) (sz := _) (x := en i) (y := x) ) ⟨va_cnB 2 hts gX3_roadsAt_X4_contains_n46 rfl rfl rfl hN.2.2.2.1 (hts _ inX4_X3_roadsAt) (by decide +kernel) ⟨by rw [hR]; decide, by rw [hR]; decide⟩, hts _ stX4_contains_X3_roadsAt, trivial⟩ hK hN hP hD hS hA [] [0, 1] rfl (by decide) rfl (by decide) (by decide) rfl hl.1 rfl (Nat.le_of_ble_eq_true rfl) dX3_roadsAt_19 ⟨Nat.zero_le _, Nat.zero_le _⟩ (fun H locs hP hD hS => ?_)
        have hP : va_P E.1 vwCl [(h0, .inr (3, [.int sc, .int (nI k), .ref q1, .ref q2, .ref q3, .ref q4])), (q4, aI E 30 en)] H := hP
        have hD : va_D A [(h0, .inr (3, [.int sc, .int (nI k), .ref q1, .ref q2, .ref q3, .ref q4])), (q4, aI E 30 en)] := hD
        refine rk_if_eqB (tgt := 31) hx hb dX3_roadsAt_22 (by decide) (fun zc22 => ?_) (fun zc22 => ?_)
        · refine lv_iinc (v := nI (i + 1)) (lv' := [(3, .int (nI (i + 1))), (2, .int y), (0, .ref h0), (1, .int x)]) hx hb dX3_roadsAt_31 hl (k := 0) rfl (by rw [show Int32.ofInt 1 = nI 1 by decide]; exact nI_add _ _) (by decide) rfl (fun ls hl => ?_)
          refine lv_goto (tgt := 4) hx hb dX3_roadsAt_34 (by decide) ?_
          exact ih4 y (i + 1) (by subst ey; simp only [rAt]; exact (if_neg (by rw [zc22]; decide)).symm) (by first | assumption | omega | rfl) (by omega) _ _ (hP.sub [0, 1] rfl) (hD.sub [0, 1] (by decide) rfl) hS ls (lv_sub hl [0, 1, 2, 3] rfl)
        · refine lv_iload_n hx hb dX3_roadsAt_25 rfl (lv_at hl 1 rfl) ?_
          refine lv_iconst (v := nI 1) hx hb dX3_roadsAt_26 (by decide) ?_
          refine lv_iload_n hx hb dX3_roadsAt_27 rfl (lv_at hl 0 rfl) ?_
          refine lv_ishl hx hb dX3_roadsAt_28 ?_
          refine lv_ior hx hb dX3_roadsAt_29 ?_
          refine lv_istore_n (lv' := [(2, .int (y ||| ((nI 1) <<< ((nI i) &&& 31)))), (3, .int (nI i)), (0, .ref h0), (1, .int x)]) hx hb dX3_roadsAt_30 rfl hl (by decide) rfl (fun ls hl => ?_)
          refine lv_iinc (v := nI (i + 1)) (lv' := [(3, .int (nI (i + 1))), (2, .int (y ||| ((nI 1) <<< ((nI i) &&& 31)))), (0, .ref h0), (1, .int x)]) hx hb dX3_roadsAt_31 hl (k := 1) rfl (by rw [show Int32.ofInt 1 = nI 1 by decide]; exact nI_add _ _) (by decide) rfl (fun ls hl => ?_)
          refine lv_goto (tgt := 4) hx hb dX3_roadsAt_34 (by decide) ?_
          exact ih4 (y ||| ((nI 1) <<< ((nI i) &&& 31))) (i + 1) (by subst ey; simp only [rAt]; exact (if_pos zc22).symm) (by first | assumption | omega | rfl) (by omega) _ _ (hP.sub [0, 1] rfl) (hD.sub [0, 1] (by decide) rfl) hS ls (lv_sub hl [0, 1, 2, 3] rfl)
  exact L4 ((k - 0) + 1) (nI 0) 0 (rfl) (by first | assumption | omega | rfl) (Nat.lt_succ_self _) _ _ (hP.sub [0, 1] rfl) (hD.sub [0, 1] (by decide) rfl) hS ls (lv_sub hl [0, 1, 2, 3] rfl)
theorem iw_X3_roadsWithin_3 : ∀ w ∈ u_ws RX3 TX3 6, w ∈ wsX3_roadsWithin := by decide +kernel
theorem fl_X3_roadsWithin_15 : Cond.fieldLink RX3 15 (TX3 1).1 (TX3 1).2.1 (TX3 1).2.2.1 ∈ wsX3_roadsWithin := by decide +kernel
theorem fl_X3_roadsWithin_28 : Cond.fieldLink RX3 28 (TX3 5).1 (TX3 5).2.1 (TX3 5).2.2.1 ∈ wsX3_roadsWithin := by decide +kernel
set_option maxHeartbeats 400000 in
set_option maxRecDepth 100000 in
theorem c_X3_roadsWithin (l : Launch) (E : EE) (sz : Nat) (h0 q1 q2 q3 q4 : Nat) (sc : Int32) (k : Nat) (en : Nat → Int32) (x : Int32) (hk : k ≤ 30) : Ci l yX3_roadsWithin wsX3_roadsWithin 0 0 E [.ref h0, .int x] [(h0, .inr (3, [.int sc, .int (nI k), .ref q1, .ref q2, .ref q3, .ref q4])), (q4, aI E 30 en)] sz (rWi en x k) [(h0, .inr (3, [.int sc, .int (nI k), .ref q1, .ref q2, .ref q3, .ref q4])), (q4, aI E 30 en)] := by
  refine C_of (QQ := QI E (rWi en x k) [(h0, .inr (3, [.int sc, .int (nI k), .ref q1, .ref q2, .ref q3, .ref q4])), (q4, aI E 30 en)]) (cc := cX3_roadsWithin) (maxL := 4) (ret := (some .int)) (by decide +kernel) rfl (Nat.le_of_ble_eq_true rfl) ?_
  intro p e s m args below meth c A R Q ls hx hb hr hts hown hml hlocks hA hK hN hP hD hS hl hR hQ
  have hown : s.vm.findClass RX3 = some m.cls := hown
  have hl : lv_has ls 4 [(0, .ref h0), (1, .int x)] := hl
  refine lv_iconst (v := nI 0) hx hb dX3_roadsWithin_0 (by decide) ?_
  refine lv_istore_n (lv' := [(2, .int (nI 0)), (0, .ref h0), (1, .int x)]) hx hb dX3_roadsWithin_1 rfl hl (by decide) rfl (fun ls hl => ?_)
  refine lv_iconst (v := nI 0) hx hb dX3_roadsWithin_2 (by decide) ?_
  refine lv_istore_n (lv' := [(3, .int (nI 0)), (2, .int (nI 0)), (0, .ref h0), (1, .int x)]) hx hb dX3_roadsWithin_3 rfl hl (by decide) rfl (fun ls hl => ?_)
  have L4 : ∀ (fu : Nat) (y : Int32) (i : Nat), (ey : y = rWi en x i) → (hi2 : i ≤ k) → k - i < fu → ∀ (H : Heap) (locs : List Loc), va_P E.1 vwCl [(h0, .inr (3, [.int sc, .int (nI k), .ref q1, .ref q2, .ref q3, .ref q4])), (q4, aI E 30 en)] H → va_D A [(h0, .inr (3, [.int sc, .int (nI k), .ref q1, .ref q2, .ref q3, .ref q4])), (q4, aI E 30 en)] → va_S A s.heap H locs → ∀ (ls : Array Slot), lv_has ls 4 [(3, .int (nI i)), (2, .int y), (0, .ref h0), (1, .int x)] → W p l e R s m args below meth c H locs 0 0 Q (F0 m 4 ls []) := by
    intro fu
    induction fu with
    | zero => intro y i ey hi2 hfu; exact absurd hfu (Nat.not_lt_zero _)
    | succ fu ih4 =>
      intro y i ey hi2 hfu H locs hP hD hS ls hl
      refine lv_iload_n hx hb dX3_roadsWithin_4 rfl (lv_at hl 0 rfl) ?_
      refine lv_aload_n hx hb dX3_roadsWithin_5 rfl (lv_at hl 2 rfl) ?_
      refine rk_get (ci := 3) (C := RX3) (T := TX3) (N := 6) hx hb hts iw_X3_roadsWithin_3 hown hK hP 0 rfl rfl 1 (by decide) fl_X3_roadsWithin_15 rfl (v := .int (nI k)) rfl dX3_roadsWithin_6 ?_
      refine rk_geN (tgt := 37) hx hb (by omega) (by omega) dX3_roadsWithin_9 (by decide) (fun zc9 => ?_) (fun zc9 => ?_)
      · refine lv_iload_n hx hb dX3_roadsWithin_37 rfl (lv_at hl 1 rfl) ?_
        exact ret_i hQ hx hb hr hlocks (hP.sub [0, 1] rfl) (hD.sub [0, 1] (by decide) rfl) hS dX3_roadsWithin_38 (by obtain rfl : k = i := (by omega); exact ey)
      · refine lv_aload_n hx hb dX3_roadsWithin_12 rfl (lv_at hl 2 rfl) ?_
        refine rk_get (ci := 3) (C := RX3) (T := TX3) (N := 6) hx hb hts iw_X3_roadsWithin_3 hown hK hP 0 rfl rfl 5 (by decide) fl_X3_roadsWithin_28 rfl (v := .ref q4) rfl dX3_roadsWithin_13 ?_
        refine lv_iload_n hx hb dX3_roadsWithin_16 rfl (lv_at hl 0 rfl) ?_
        refine rk_iald hx hb hK hP 1 rfl (by omega) (by omega) (v := en i) (rfl) dX3_roadsWithin_17 ?_
        refine lv_iload_n hx hb dX3_roadsWithin_18 rfl (lv_at hl 3 rfl) ?_
        refine lv_iconst (v := (-1)) hx hb dX3_roadsWithin_19 (by decide) ?_
        refine lv_ixor hx hb dX3_roadsWithin_20 ?_
        refine lv_iand hx hb dX3_roadsWithin_21 ?_
        refine lv_if_ne (tgt := 31) hx hb dX3_roadsWithin_22 (by decide) (fun zc22 => ?_) (fun zc22 => ?_)
        · refine lv_iinc (v := nI (i + 1)) (lv' := [(3, .int (nI (i + 1))), (2, .int y), (0, .ref h0), (1, .int x)]) hx hb dX3_roadsWithin_31 hl (k := 0) rfl (by rw [show Int32.ofInt 1 = nI 1 by decide]; exact nI_add _ _) (by decide) rfl (fun ls hl => ?_)
          refine lv_goto (tgt := 4) hx hb dX3_roadsWithin_34 (by decide) ?_
          exact ih4 y (i + 1) (by subst ey; simp only [rWi]; exact (if_neg zc22).symm) (by first | assumption | omega | rfl) (by omega) _ _ (hP.sub [0, 1] rfl) (hD.sub [0, 1] (by decide) rfl) hS ls (lv_sub hl [0, 1, 2, 3] rfl)
        · refine lv_iload_n hx hb dX3_roadsWithin_25 rfl (lv_at hl 1 rfl) ?_
          refine lv_iconst (v := nI 1) hx hb dX3_roadsWithin_26 (by decide) ?_
          refine lv_iload_n hx hb dX3_roadsWithin_27 rfl (lv_at hl 0 rfl) ?_
          refine lv_ishl hx hb dX3_roadsWithin_28 ?_
          refine lv_ior hx hb dX3_roadsWithin_29 ?_
          refine lv_istore_n (lv' := [(2, .int (y ||| ((nI 1) <<< ((nI i) &&& 31)))), (3, .int (nI i)), (0, .ref h0), (1, .int x)]) hx hb dX3_roadsWithin_30 rfl hl (by decide) rfl (fun ls hl => ?_)
          refine lv_iinc (v := nI (i + 1)) (lv' := [(3, .int (nI (i + 1))), (2, .int (y ||| ((nI 1) <<< ((nI i) &&& 31)))), (0, .ref h0), (1, .int x)]) hx hb dX3_roadsWithin_31 hl (k := 1) rfl (by rw [show Int32.ofInt 1 = nI 1 by decide]; exact nI_add _ _) (by decide) rfl (fun ls hl => ?_)
          refine lv_goto (tgt := 4) hx hb dX3_roadsWithin_34 (by decide) ?_
          exact ih4 (y ||| ((nI 1) <<< ((nI i) &&& 31))) (i + 1) (by subst ey; simp only [rWi]; exact (if_pos zc22).symm) (by first | assumption | omega | rfl) (by omega) _ _ (hP.sub [0, 1] rfl) (hD.sub [0, 1] (by decide) rfl) hS ls (lv_sub hl [0, 1, 2, 3] rfl)
  exact L4 ((k - 0) + 1) (nI 0) 0 (rfl) (by first | assumption | omega | rfl) (Nat.lt_succ_self _) _ _ (hP.sub [0, 1] rfl) (hD.sub [0, 1] (by decide) rfl) hS ls (lv_sub hl [0, 1, 2, 3] rfl)
theorem iw_X3_lengthOf_3 : ∀ w ∈ u_ws RX3 TX3 6, w ∈ wsX3_lengthOf := by decide +kernel
theorem fl_X3_lengthOf_15 : Cond.fieldLink RX3 15 (TX3 1).1 (TX3 1).2.1 (TX3 1).2.2.1 ∈ wsX3_lengthOf := by decide +kernel
theorem inX4_X3_lengthOf : Cond.initialized RX4 ∈ wsX3_lengthOf := by decide +kernel
theorem stX4_contains_X3_lengthOf : Cond.static yX4_contains ∈ wsX3_lengthOf := by decide +kernel
theorem fl_X3_lengthOf_25 : Cond.fieldLink RX3 25 (TX3 4).1 (TX3 4).2.1 (TX3 4).2.2.1 ∈ wsX3_lengthOf := by decide +kernel
set_option maxHeartbeats 400000 in
set_option maxRecDepth 100000 in
theorem c_X3_lengthOf (l : Launch) (E : EE) (sz : Nat) (h0 q1 q2 q3 q4 : Nat) (sc : Int32) (k : Nat) (le : Nat → Int32) (x : Int32) (hk : k ≤ 30) : Ci l yX3_lengthOf wsX3_lengthOf 1 21 E [.ref h0, .int x] [(h0, .inr (3, [.int sc, .int (nI k), .ref q1, .ref q2, .ref q3, .ref q4])), (q3, aI E 30 le)] sz (lnO le x k) [(h0, .inr (3, [.int sc, .int (nI k), .ref q1, .ref q2, .ref q3, .ref q4])), (q3, aI E 30 le)] := by
  refine C_of (QQ := QI E (lnO le x k) [(h0, .inr (3, [.int sc, .int (nI k), .ref q1, .ref q2, .ref q3, .ref q4])), (q3, aI E 30 le)]) (cc := cX3_lengthOf) (maxL := 4) (ret := (some .int)) (by decide +kernel) rfl (Nat.le_of_ble_eq_true rfl) ?_
  intro p e s m args below meth c A R Q ls hx hb hr hts hown hml hlocks hA hK hN hP hD hS hl hR hQ
  have hown : s.vm.findClass RX3 = some m.cls := hown
  have hl : lv_has ls 4 [(0, .ref h0), (1, .int x)] := hl
  refine lv_iconst (v := nI 0) hx hb dX3_lengthOf_0 (by decide) ?_
  refine lv_istore_n (lv' := [(2, .int (nI 0)), (0, .ref h0), (1, .int x)]) hx hb dX3_lengthOf_1 rfl hl (by decide) rfl (fun ls hl => ?_)
  refine lv_iconst (v := nI 0) hx hb dX3_lengthOf_2 (by decide) ?_
  refine lv_istore_n (lv' := [(3, .int (nI 0)), (2, .int (nI 0)), (0, .ref h0), (1, .int x)]) hx hb dX3_lengthOf_3 rfl hl (by decide) rfl (fun ls hl => ?_)
  have L4 : ∀ (fu : Nat) (y : Int32) (i : Nat), (ey : y = lnO le x i) → (hi2 : i ≤ k) → k - i < fu → ∀ (H : Heap) (locs : List Loc), va_P E.1 vwCl [(h0, .inr (3, [.int sc, .int (nI k), .ref q1, .ref q2, .ref q3, .ref q4])), (q3, aI E 30 le)] H → va_D A [(h0, .inr (3, [.int sc, .int (nI k), .ref q1, .ref q2, .ref q3, .ref q4])), (q3, aI E 30 le)] → va_S A s.heap H locs → ∀ (ls : Array Slot), lv_has ls 4 [(3, .int (nI i)), (2, .int y), (0, .ref h0), (1, .int x)] → W p l e R s m args below meth c H locs 0 0 Q (F0 m 4 ls []) := by
    intro fu
    induction fu with
    | zero => intro y i ey hi2 hfu; exact absurd hfu (Nat.not_lt_zero _)
    | succ fu ih4 =>
      intro y i ey hi2 hfu H locs hP hD hS ls hl
      refine lv_iload_n hx hb dX3_lengthOf_4 rfl (lv_at hl 0 rfl) ?_
      refine lv_aload_n hx hb dX3_lengthOf_5 rfl (lv_at hl 2 rfl) ?_
      refine rk_get (ci := 3) (C := RX3) (T := TX3) (N := 6) hx hb hts iw_X3_lengthOf_3 hown hK hP 0 rfl rfl 1 (by decide) fl_X3_lengthOf_15 rfl (v := .int (nI k)) rfl dX3_lengthOf_6 ?_
      refine rk_geN (tgt := 35) hx hb (by omega) (by omega) dX3_lengthOf_9 (by decide) (fun zc9 => ?_) (fun zc9 => ?_)
      · refine lv_iload_n hx hb dX3_lengthOf_35 rfl (lv_at hl 1 rfl) ?_
        exact ret_i hQ hx hb hr hlocks (hP.sub [0, 1] rfl) (hD.sub [0, 1] (by decide) rfl) hS dX3_lengthOf_36 (by obtain rfl : k = i := (by omega); exact ey)
      · refine lv_iload_n hx hb dX3_lengthOf_12 rfl (lv_at hl 3 rfl) ?_
        refine lv_iload_n hx hb dX3_lengthOf_13 rfl (lv_at hl 0 rfl) ?_
        refine kSN_i (E := E) (As := [.int x, .int (nI i)]) (rest := []) (wr := [(h0, .inr (3, [.int sc, .int (nI k), .ref q1, .ref q2, .ref q3, .ref q4])), (q3, aI E 30 le)]) ⟨hx, hb, hml, hown, hts⟩ (c_X4_contains (l := l) (E := E) (sz := _) (x := x) (y := nI i) ) ⟨va_cnB 2 hts gX3_lengthOf_X4_contains_n46 rfl rfl rfl hN.2.2.2.1 (hts _ inX4_X3_lengthOf) (by decide +kernel) ⟨by rw [hR]; decide, by rw [hR]; decide⟩, hts _ stX4_contains_X3_lengthOf, trivial⟩ hK hN hP hD hS hA [] [0, 1] rfl (by decide) rfl (by decide) (by decide) rfl hl.1 rfl (Nat.le_of_ble_eq_true rfl) dX3_lengthOf_14 ⟨Nat.zero_le _, Nat.zero_le _⟩ (fun H locs hP hD hS => ?_)
        have hP : va_P E.1 vwCl [(h0, .inr (3, [.int sc, .int (nI k), .ref q1, .ref q2, .ref q3, .ref q4])), (q3, aI E 30 le)] H := hP
        have hD : va_D A [(h0, .inr (3, [.int sc, .int (nI k), .ref q1, .ref q2, .ref q3, .ref q4])), (q3, aI E 30 le)] := hD
        refine rk_if_eqB (tgt := 29) hx hb dX3_lengthOf_17 (by decide) (fun zc17 => ?_) (fun zc17 => ?_)
        · refine lv_iinc (v := nI (i + 1)) (lv' := [(3, .int (nI (i + 1))), (2, .int y), (0, .ref h0), (1, .int x)]) hx hb dX3_lengthOf_29 hl (k := 0) rfl (by rw [show Int32.ofInt 1 = nI 1 by decide]; exact nI_add _ _) (by decide) rfl (fun ls hl => ?_)
          refine lv_goto (tgt := 4) hx hb dX3_lengthOf_32 (by decide) ?_
          exact ih4 y (i + 1) (by subst ey; simp only [lnO]; exact (if_neg (by rw [zc17]; decide)).symm) (by first | assumption | omega | rfl) (by omega) _ _ (hP.sub [0, 1] rfl) (hD.sub [0, 1] (by decide) rfl) hS ls (lv_sub hl [0, 1, 2, 3] rfl)
        · refine lv_iload_n hx hb dX3_lengthOf_20 rfl (lv_at hl 1 rfl) ?_
          refine lv_aload_n hx hb dX3_lengthOf_21 rfl (lv_at hl 2 rfl) ?_
          refine rk_get (ci := 3) (C := RX3) (T := TX3) (N := 6) hx hb hts iw_X3_lengthOf_3 hown hK hP 0 rfl rfl 4 (by decide) fl_X3_lengthOf_25 rfl (v := .ref q3) rfl dX3_lengthOf_22 ?_
          refine lv_iload_n hx hb dX3_lengthOf_25 rfl (lv_at hl 0 rfl) ?_
          refine rk_iald hx hb hK hP 1 rfl (by omega) (by omega) (v := le i) (rfl) dX3_lengthOf_26 ?_
          refine lv_iadd hx hb dX3_lengthOf_27 ?_
          refine lv_istore_n (lv' := [(2, .int (y + (le i))), (3, .int (nI i)), (0, .ref h0), (1, .int x)]) hx hb dX3_lengthOf_28 rfl hl (by decide) rfl (fun ls hl => ?_)
          refine lv_iinc (v := nI (i + 1)) (lv' := [(3, .int (nI (i + 1))), (2, .int (y + (le i))), (0, .ref h0), (1, .int x)]) hx hb dX3_lengthOf_29 hl (k := 1) rfl (by rw [show Int32.ofInt 1 = nI 1 by decide]; exact nI_add _ _) (by decide) rfl (fun ls hl => ?_)
          refine lv_goto (tgt := 4) hx hb dX3_lengthOf_32 (by decide) ?_
          exact ih4 (y + (le i)) (i + 1) (by subst ey; simp only [lnO]; exact (if_pos zc17).symm) (by first | assumption | omega | rfl) (by omega) _ _ (hP.sub [0, 1] rfl) (hD.sub [0, 1] (by decide) rfl) hS ls (lv_sub hl [0, 1, 2, 3] rfl)
  exact L4 ((k - 0) + 1) (nI 0) 0 (rfl) (by first | assumption | omega | rfl) (Nat.lt_succ_self _) _ _ (hP.sub [0, 1] rfl) (hD.sub [0, 1] (by decide) rfl) hS ls (lv_sub hl [0, 1, 2, 3] rfl)
theorem iw_X3_oneRoadFurther_3 : ∀ w ∈ u_ws RX3 TX3 6, w ∈ wsX3_oneRoadFurther := by decide +kernel
theorem fl_X3_oneRoadFurther_15 : Cond.fieldLink RX3 15 (TX3 1).1 (TX3 1).2.1 (TX3 1).2.2.1 ∈ wsX3_oneRoadFurther := by decide +kernel
theorem inX4_X3_oneRoadFurther : Cond.initialized RX4 ∈ wsX3_oneRoadFurther := by decide +kernel
theorem stX4_contains_X3_oneRoadFurther : Cond.static yX4_contains ∈ wsX3_oneRoadFurther := by decide +kernel
theorem fl_X3_oneRoadFurther_28 : Cond.fieldLink RX3 28 (TX3 5).1 (TX3 5).2.1 (TX3 5).2.2.1 ∈ wsX3_oneRoadFurther := by decide +kernel
set_option maxHeartbeats 400000 in
set_option maxRecDepth 100000 in
theorem c_X3_oneRoadFurther (l : Launch) (E : EE) (sz : Nat) (h0 q1 q2 q3 q4 : Nat) (sc : Int32) (k : Nat) (en : Nat → Int32) (x w : Int32) (hk : k ≤ 30) : Ci l yX3_oneRoadFurther wsX3_oneRoadFurther 1 21 E [.ref h0, .int x, .int w] [(h0, .inr (3, [.int sc, .int (nI k), .ref q1, .ref q2, .ref q3, .ref q4])), (q4, aI E 30 en)] sz (orf en x w k) [(h0, .inr (3, [.int sc, .int (nI k), .ref q1, .ref q2, .ref q3, .ref q4])), (q4, aI E 30 en)] := by
  refine C_of (QQ := QI E (orf en x w k) [(h0, .inr (3, [.int sc, .int (nI k), .ref q1, .ref q2, .ref q3, .ref q4])), (q4, aI E 30 en)]) (cc := cX3_oneRoadFurther) (maxL := 5) (ret := (some .int)) (by decide +kernel) rfl (Nat.le_of_ble_eq_true rfl) ?_
  intro p e s m args below meth c A R Q ls hx hb hr hts hown hml hlocks hA hK hN hP hD hS hl hR hQ
  have hown : s.vm.findClass RX3 = some m.cls := hown
  have hl : lv_has ls 5 [(0, .ref h0), (1, .int x), (2, .int w)] := hl
  refine lv_iload_n hx hb dX3_oneRoadFurther_0 rfl (lv_at hl 1 rfl) ?_
  refine lv_istore_n (lv' := [(3, .int x), (0, .ref h0), (1, .int x), (2, .int w)]) hx hb dX3_oneRoadFurther_1 rfl hl (by decide) rfl (fun ls hl => ?_)
  refine lv_iconst (v := nI 0) hx hb dX3_oneRoadFurther_2 (by decide) ?_
  refine lv_istore (lv' := [(4, .int (nI 0)), (3, .int x), (0, .ref h0), (1, .int x), (2, .int w)]) hx hb dX3_oneRoadFurther_3 hl (by decide) rfl (fun ls hl => ?_)
  have L5 : ∀ (fu : Nat) (y : Int32) (i : Nat), (ey : y = orf en x w i) → (hi2 : i ≤ k) → k - i < fu → ∀ (H : Heap) (locs : List Loc), va_P E.1 vwCl [(h0, .inr (3, [.int sc, .int (nI k), .ref q1, .ref q2, .ref q3, .ref q4])), (q4, aI E 30 en)] H → va_D A [(h0, .inr (3, [.int sc, .int (nI k), .ref q1, .ref q2, .ref q3, .ref q4])), (q4, aI E 30 en)] → va_S A s.heap H locs → ∀ (ls : Array Slot), lv_has ls 5 [(4, .int (nI i)), (3, .int y), (0, .ref h0), (1, .int x), (2, .int w)] → W p l e R s m args below meth c H locs 0 0 Q (F0 m 5 ls []) := by
    intro fu
    induction fu with
    | zero => intro y i ey hi2 hfu; exact absurd hfu (Nat.not_lt_zero _)
    | succ fu ih5 =>
      intro y i ey hi2 hfu H locs hP hD hS ls hl
      refine lv_iload hx hb dX3_oneRoadFurther_5 (lv_at hl 0 rfl) ?_
      refine lv_aload_n hx hb dX3_oneRoadFurther_7 rfl (lv_at hl 2 rfl) ?_
      refine rk_get (ci := 3) (C := RX3) (T := TX3) (N := 6) hx hb hts iw_X3_oneRoadFurther_3 hown hK hP 0 rfl rfl 1 (by decide) fl_X3_oneRoadFurther_15 rfl (v := .int (nI k)) rfl dX3_oneRoadFurther_8 ?_
      refine rk_geN (tgt := 51) hx hb (by omega) (by omega) dX3_oneRoadFurther_11 (by decide) (fun zc11 => ?_) (fun zc11 => ?_)
      · refine lv_iload_n hx hb dX3_oneRoadFurther_51 rfl (lv_at hl 1 rfl) ?_
        exact ret_i hQ hx hb hr hlocks (hP.sub [0, 1] rfl) (hD.sub [0, 1] (by decide) rfl) hS dX3_oneRoadFurther_52 (by obtain rfl : k = i := (by omega); exact ey)
      · refine lv_iload_n hx hb dX3_oneRoadFurther_14 rfl (lv_at hl 4 rfl) ?_
        refine lv_iload hx hb dX3_oneRoadFurther_15 (lv_at hl 0 rfl) ?_
        refine kSN_i (E := E) (As := [.int w, .int (nI i)]) (rest := []) (wr := [(h0, .inr (3, [.int sc, .int (nI k), .ref q1, .ref q2, .ref q3, .ref q4])), (q4, aI E 30 en)]) ⟨hx, hb, hml, hown, hts⟩ (c_X4_contains (l := l) (E := E) (sz := _) (x := w) (y := nI i) ) ⟨va_cnB 2 hts gX3_oneRoadFurther_X4_contains_n46 rfl rfl rfl hN.2.2.2.1 (hts _ inX4_X3_oneRoadFurther) (by decide +kernel) ⟨by rw [hR]; decide, by rw [hR]; decide⟩, hts _ stX4_contains_X3_oneRoadFurther, trivial⟩ hK hN hP hD hS hA [] [0, 1] rfl (by decide) rfl (by decide) (by decide) rfl hl.1 rfl (Nat.le_of_ble_eq_true rfl) dX3_oneRoadFurther_17 ⟨Nat.zero_le _, Nat.zero_le _⟩ (fun H locs hP hD hS => ?_)
        have hP : va_P E.1 vwCl [(h0, .inr (3, [.int sc, .int (nI k), .ref q1, .ref q2, .ref q3, .ref q4])), (q4, aI E 30 en)] H := hP
        have hD : va_D A [(h0, .inr (3, [.int sc, .int (nI k), .ref q1, .ref q2, .ref q3, .ref q4])), (q4, aI E 30 en)] := hD
        refine rk_if_eqB (tgt := 45) hx hb dX3_oneRoadFurther_20 (by decide) (fun zc20 => ?_) (fun zc20 => ?_)
        · refine lv_iinc (v := nI (i + 1)) (lv' := [(4, .int (nI (i + 1))), (3, .int y), (0, .ref h0), (1, .int x), (2, .int w)]) hx hb dX3_oneRoadFurther_45 hl (k := 0) rfl (by rw [show Int32.ofInt 1 = nI 1 by decide]; exact nI_add _ _) (by decide) rfl (fun ls hl => ?_)
          refine lv_goto (tgt := 5) hx hb dX3_oneRoadFurther_48 (by decide) ?_
          exact ih5 y (i + 1) (by subst ey; simp only [orf]; exact (ifn1 (by rw [zc20]; decide)).symm) (by first | assumption | omega | rfl) (by omega) _ _ (hP.sub [0, 1] rfl) (hD.sub [0, 1] (by decide) rfl) hS ls (lv_sub hl [0, 1, 2, 3, 4] rfl)
        · refine lv_aload_n hx hb dX3_oneRoadFurther_23 rfl (lv_at hl 2 rfl) ?_
          refine rk_get (ci := 3) (C := RX3) (T := TX3) (N := 6) hx hb hts iw_X3_oneRoadFurther_3 hown hK hP 0 rfl rfl 5 (by decide) fl_X3_oneRoadFurther_28 rfl (v := .ref q4) rfl dX3_oneRoadFurther_24 ?_
          refine lv_iload hx hb dX3_oneRoadFurther_27 (lv_at hl 0 rfl) ?_
          refine rk_iald hx hb hK hP 1 rfl (by omega) (by omega) (v := en i) (rfl) dX3_oneRoadFurther_29 ?_
          refine lv_iload_n hx hb dX3_oneRoadFurther_30 rfl (lv_at hl 3 rfl) ?_
          refine lv_iand hx hb dX3_oneRoadFurther_31 ?_
          refine lv_if_eq (tgt := 45) hx hb dX3_oneRoadFurther_32 (by decide) (fun zc32 => ?_) (fun zc32 => ?_)
          · refine lv_iinc (v := nI (i + 1)) (lv' := [(4, .int (nI (i + 1))), (3, .int y), (0, .ref h0), (1, .int x), (2, .int w)]) hx hb dX3_oneRoadFurther_45 hl (k := 0) rfl (by rw [show Int32.ofInt 1 = nI 1 by decide]; exact nI_add _ _) (by decide) rfl (fun ls hl => ?_)
            refine lv_goto (tgt := 5) hx hb dX3_oneRoadFurther_48 (by decide) ?_
            exact ih5 y (i + 1) (by subst ey; simp only [orf]; exact (ifn2 (fun q => q zc32)).symm) (by first | assumption | omega | rfl) (by omega) _ _ (hP.sub [0, 1] rfl) (hD.sub [0, 1] (by decide) rfl) hS ls (lv_sub hl [0, 1, 2, 3, 4] rfl)
          · refine lv_iload_n hx hb dX3_oneRoadFurther_35 rfl (lv_at hl 1 rfl) ?_
            refine lv_aload_n hx hb dX3_oneRoadFurther_36 rfl (lv_at hl 2 rfl) ?_
            refine rk_get (ci := 3) (C := RX3) (T := TX3) (N := 6) hx hb hts iw_X3_oneRoadFurther_3 hown hK hP 0 rfl rfl 5 (by decide) fl_X3_oneRoadFurther_28 rfl (v := .ref q4) rfl dX3_oneRoadFurther_37 ?_
            refine lv_iload hx hb dX3_oneRoadFurther_40 (lv_at hl 0 rfl) ?_
            refine rk_iald hx hb hK hP 1 rfl (by omega) (by omega) (v := en i) (rfl) dX3_oneRoadFurther_42 ?_
            refine lv_ior hx hb dX3_oneRoadFurther_43 ?_
            refine lv_istore_n (lv' := [(3, .int (y ||| (en i))), (4, .int (nI i)), (0, .ref h0), (1, .int x), (2, .int w)]) hx hb dX3_oneRoadFurther_44 rfl hl (by decide) rfl (fun ls hl => ?_)
            refine lv_iinc (v := nI (i + 1)) (lv' := [(4, .int (nI (i + 1))), (3, .int (y ||| (en i))), (0, .ref h0), (1, .int x), (2, .int w)]) hx hb dX3_oneRoadFurther_45 hl (k := 1) rfl (by rw [show Int32.ofInt 1 = nI 1 by decide]; exact nI_add _ _) (by decide) rfl (fun ls hl => ?_)
            refine lv_goto (tgt := 5) hx hb dX3_oneRoadFurther_48 (by decide) ?_
            exact ih5 (y ||| (en i)) (i + 1) (by subst ey; simp only [orf]; exact (if_pos (And.intro zc20 zc32)).symm) (by first | assumption | omega | rfl) (by omega) _ _ (hP.sub [0, 1] rfl) (hD.sub [0, 1] (by decide) rfl) hS ls (lv_sub hl [0, 1, 2, 3, 4] rfl)
  exact L5 ((k - 0) + 1) x 0 (rfl) (by first | assumption | omega | rfl) (Nat.lt_succ_self _) _ _ (hP.sub [0, 1] rfl) (hD.sub [0, 1] (by decide) rfl) hS ls (lv_sub hl [0, 1, 2, 3, 4] rfl)
theorem iw_X3_reach_3 : ∀ w ∈ u_ws RX3 TX3 6, w ∈ wsX3_reach := by decide +kernel
theorem fl_X3_reach_15 : Cond.fieldLink RX3 15 (TX3 1).1 (TX3 1).2.1 (TX3 1).2.2.1 ∈ wsX3_reach := by decide +kernel
theorem inX4_X3_reach : Cond.initialized RX4 ∈ wsX3_reach := by decide +kernel
theorem stX4_contains_X3_reach : Cond.static yX4_contains ∈ wsX3_reach := by decide +kernel
theorem fl_X3_reach_28 : Cond.fieldLink RX3 28 (TX3 5).1 (TX3 5).2.1 (TX3 5).2.2.1 ∈ wsX3_reach := by decide +kernel
set_option maxHeartbeats 400000 in
set_option maxRecDepth 100000 in
theorem c_X3_reach (l : Launch) (E : EE) (sz : Nat) (h0 q1 q2 q3 q4 : Nat) (sc : Int32) (k : Nat) (en : Nat → Int32) (q : Nat) (w : Int32) (hk : k ≤ 30) (hq : q < 16) : Ci l yX3_reach wsX3_reach 1 21 E [.ref h0, .int (nI q), .int w] [(h0, .inr (3, [.int sc, .int (nI k), .ref q1, .ref q2, .ref q3, .ref q4])), (q4, aI E 30 en)] sz (rsC en w k q) [(h0, .inr (3, [.int sc, .int (nI k), .ref q1, .ref q2, .ref q3, .ref q4])), (q4, aI E 30 en)] := by
  refine C_of (QQ := QI E (rsC en w k q) [(h0, .inr (3, [.int sc, .int (nI k), .ref q1, .ref q2, .ref q3, .ref q4])), (q4, aI E 30 en)]) (cc := cX3_reach) (maxL := 7) (ret := (some .int)) (by decide +kernel) rfl (Nat.le_of_ble_eq_true rfl) ?_
  intro p e s m args below meth c A R Q ls hx hb hr hts hown hml hlocks hA hK hN hP hD hS hl hR hQ
  have hown : s.vm.findClass RX3 = some m.cls := hown
  have hl : lv_has ls 7 [(0, .ref h0), (1, .int (nI q)), (2, .int w)] := hl
  refine lv_iconst (v := nI 1) hx hb dX3_reach_0 (by decide) ?_
  refine lv_iload_n hx hb dX3_reach_1 rfl (lv_at hl 1 rfl) ?_
  refine lv_ishl hx hb dX3_reach_2 ?_
  refine lv_istore_n (lv' := [(3, .int ((nI 1) <<< ((nI q) &&& 31))), (0, .ref h0), (1, .int (nI q)), (2, .int w)]) hx hb dX3_reach_3 rfl hl (by decide) rfl (fun ls hl => ?_)
  refine lv_iconst (v := nI 0) hx hb dX3_reach_4 (by decide) ?_
  refine lv_istore (lv' := [(4, .int (nI 0)), (3, .int ((nI 1) <<< ((nI q) &&& 31))), (0, .ref h0), (1, .int (nI q)), (2, .int w)]) hx hb dX3_reach_5 hl (by decide) rfl (fun ls hl => ?_)
  refine lv_iconst (v := nI 0) hx hb dX3_reach_7 (by decide) ?_
  refine lv_istore (lv' := [(5, .int (nI 0)), (4, .int (nI 0)), (3, .int ((nI 1) <<< ((nI q) &&& 31))), (0, .ref h0), (1, .int (nI q)), (2, .int w)]) hx hb dX3_reach_8 hl (by decide) rfl (fun ls hl => ?_)
  have L10 : ∀ (fu : Nat) (x3 x4 : Int32) (j : Nat), (e3 : x3 = rC en w k q j) → (e4 : x4 = prC en w k q j) → (hj : j ≤ 16) → 16 - j < fu → ∀ (H : Heap) (locs : List Loc), va_P E.1 vwCl [(h0, .inr (3, [.int sc, .int (nI k), .ref q1, .ref q2, .ref q3, .ref q4])), (q4, aI E 30 en)] H → va_D A [(h0, .inr (3, [.int sc, .int (nI k), .ref q1, .ref q2, .ref q3, .ref q4])), (q4, aI E 30 en)] → va_S A s.heap H locs → ∀ (ls : Array Slot), lv_has ls 7 [(5, .int (nI j)), (4, .int x4), (3, .int x3), (0, .ref h0), (1, .int (nI q)), (2, .int w)] → W p l e R s m args below meth c H locs 0 0 Q (F0 m 10 ls []) := by
    intro fu
    induction fu with
    | zero => intro x3 x4 j e3 e4 hj hfu; exact absurd hfu (Nat.not_lt_zero _)
    | succ fu ih10 =>
      intro x3 x4 j e3 e4 hj hfu H locs hP hD hS ls hl
      refine lv_iload hx hb dX3_reach_10 (lv_at hl 0 rfl) ?_
      refine lv_bipush (v := nI 16) hx hb dX3_reach_12 (by decide) ?_
      refine rk_geN (tgt := 81) hx hb (by omega) (by omega) dX3_reach_14 (by decide) (fun zc14 => ?_) (fun zc14 => ?_)
      · refine lv_iload_n hx hb dX3_reach_81 rfl (lv_at hl 2 rfl) ?_
        exact ret_i hQ hx hb hr hlocks (hP.sub [0, 1] rfl) (hD.sub [0, 1] (by decide) rfl) hS dX3_reach_82 (by obtain rfl : j = 16 := (by omega); exact e3)
      · refine lv_iload_n hx hb dX3_reach_17 rfl (lv_at hl 2 rfl) ?_
        refine lv_iload hx hb dX3_reach_18 (lv_at hl 1 rfl) ?_
        refine lv_icmp_eq (tgt := 81) hx hb dX3_reach_20 (by decide) (fun zc20 => ?_) (fun zc20 => ?_)
        · refine lv_iload_n hx hb dX3_reach_81 rfl (lv_at hl 2 rfl) ?_
          exact ret_i hQ hx hb hr hlocks (hP.sub [0, 1] rfl) (hD.sub [0, 1] (by decide) rfl) hS dX3_reach_82 (by rw [e3]; exact rC_stop hq hj (by rw [← e3, ← e4]; exact zc20))
        · refine lv_iload_n hx hb dX3_reach_23 rfl (lv_at hl 2 rfl) ?_
          refine lv_istore (lv' := [(4, .int x3), (5, .int (nI j)), (3, .int x3), (0, .ref h0), (1, .int (nI q)), (2, .int w)]) hx hb dX3_reach_24 hl (by decide) rfl (fun ls hl => ?_)
          refine lv_iconst (v := nI 0) hx hb dX3_reach_26 (by decide) ?_
          refine lv_istore (lv' := [(6, .int (nI 0)), (4, .int x3), (5, .int (nI j)), (3, .int x3), (0, .ref h0), (1, .int (nI q)), (2, .int w)]) hx hb dX3_reach_27 hl (by decide) rfl (fun ls hl => ?_)
          have L29 : ∀ (fu : Nat) (y : Int32) (i : Nat), (ey : y = psC en w x3 i) → (hi2 : i ≤ k) → k - i < fu → ∀ (H : Heap) (locs : List Loc), va_P E.1 vwCl [(h0, .inr (3, [.int sc, .int (nI k), .ref q1, .ref q2, .ref q3, .ref q4])), (q4, aI E 30 en)] H → va_D A [(h0, .inr (3, [.int sc, .int (nI k), .ref q1, .ref q2, .ref q3, .ref q4])), (q4, aI E 30 en)] → va_S A s.heap H locs → ∀ (ls : Array Slot), lv_has ls 7 [(6, .int (nI i)), (4, .int x3), (5, .int (nI j)), (3, .int y), (0, .ref h0), (1, .int (nI q)), (2, .int w)] → W p l e R s m args below meth c H locs 0 0 Q (F0 m 29 ls []) := by
            intro fu
            induction fu with
            | zero => intro y i ey hi2 hfu; exact absurd hfu (Nat.not_lt_zero _)
            | succ fu ih29 =>
              intro y i ey hi2 hfu H locs hP hD hS ls hl
              refine lv_iload hx hb dX3_reach_29 (lv_at hl 0 rfl) ?_
              refine lv_aload_n hx hb dX3_reach_31 rfl (lv_at hl 4 rfl) ?_
              refine rk_get (ci := 3) (C := RX3) (T := TX3) (N := 6) hx hb hts iw_X3_reach_3 hown hK hP 0 rfl rfl 1 (by decide) fl_X3_reach_15 rfl (v := .int (nI k)) rfl dX3_reach_32 ?_
              refine rk_geN (tgt := 75) hx hb (by omega) (by omega) dX3_reach_35 (by decide) (fun zc35 => ?_) (fun zc35 => ?_)
              · refine lv_iinc (v := nI (j + 1)) (lv' := [(5, .int (nI (j + 1))), (6, .int (nI i)), (4, .int x3), (3, .int y), (0, .ref h0), (1, .int (nI q)), (2, .int w)]) hx hb dX3_reach_75 hl (k := 2) rfl (by rw [show Int32.ofInt 1 = nI 1 by decide]; exact nI_add _ _) (by decide) rfl (fun ls hl => ?_)
                refine lv_goto (tgt := 10) hx hb dX3_reach_78 (by decide) ?_
                exact ih10 y x3 (j + 1) (by obtain rfl : k = i := (by omega); rw [ey, e3]; rfl) (by rw [e3]; rfl) (by first | assumption | omega | rfl) (by omega) _ _ (hP.sub [0, 1] rfl) (hD.sub [0, 1] (by decide) rfl) hS ls (lv_sub hl [0, 2, 3, 4, 5, 6] rfl)
              · refine lv_iload_n hx hb dX3_reach_38 rfl (lv_at hl 6 rfl) ?_
                refine lv_iload hx hb dX3_reach_39 (lv_at hl 0 rfl) ?_
                refine kSN_i (E := E) (As := [.int w, .int (nI i)]) (rest := []) (wr := [(h0, .inr (3, [.int sc, .int (nI k), .ref q1, .ref q2, .ref q3, .ref q4])), (q4, aI E 30 en)]) ⟨hx, hb, hml, hown, hts⟩ (c_X4_contains (l := l) (E := E) (sz := _) (x := w) (y := nI i) ) ⟨va_cnB 2 hts gX3_reach_X4_contains_n46 rfl rfl rfl hN.2.2.2.1 (hts _ inX4_X3_reach) (by decide +kernel) ⟨by rw [hR]; decide, by rw [hR]; decide⟩, hts _ stX4_contains_X3_reach, trivial⟩ hK hN hP hD hS hA [] [0, 1] rfl (by decide) rfl (by decide) (by decide) rfl hl.1 rfl (Nat.le_of_ble_eq_true rfl) dX3_reach_41 ⟨Nat.zero_le _, Nat.zero_le _⟩ (fun H locs hP hD hS => ?_)
                have hP : va_P E.1 vwCl [(h0, .inr (3, [.int sc, .int (nI k), .ref q1, .ref q2, .ref q3, .ref q4])), (q4, aI E 30 en)] H := hP
                have hD : va_D A [(h0, .inr (3, [.int sc, .int (nI k), .ref q1, .ref q2, .ref q3, .ref q4])), (q4, aI E 30 en)] := hD
                refine rk_if_eqB (tgt := 69) hx hb dX3_reach_44 (by decide) (fun zc44 => ?_) (fun zc44 => ?_)
                · refine lv_iinc (v := nI (i + 1)) (lv' := [(6, .int (nI (i + 1))), (4, .int x3), (5, .int (nI j)), (3, .int y), (0, .ref h0), (1, .int (nI q)), (2, .int w)]) hx hb dX3_reach_69 hl (k := 0) rfl (by rw [show Int32.ofInt 1 = nI 1 by decide]; exact nI_add _ _) (by decide) rfl (fun ls hl => ?_)
                  refine lv_goto (tgt := 29) hx hb dX3_reach_72 (by decide) ?_
                  exact ih29 y (i + 1) (by subst ey; simp only [psC]; exact (ifn1 (by rw [zc44]; decide)).symm) (by first | assumption | omega | rfl) (by omega) _ _ (hP.sub [0, 1] rfl) (hD.sub [0, 1] (by decide) rfl) hS ls (lv_sub hl [0, 1, 2, 3, 4, 5, 6] rfl)
                · refine lv_aload_n hx hb dX3_reach_47 rfl (lv_at hl 4 rfl) ?_
                  refine rk_get (ci := 3) (C := RX3) (T := TX3) (N := 6) hx hb hts iw_X3_reach_3 hown hK hP 0 rfl rfl 5 (by decide) fl_X3_reach_28 rfl (v := .ref q4) rfl dX3_reach_48 ?_
                  refine lv_iload hx hb dX3_reach_51 (lv_at hl 0 rfl) ?_
                  refine rk_iald hx hb hK hP 1 rfl (by omega) (by omega) (v := en i) (rfl) dX3_reach_53 ?_
                  refine lv_iload_n hx hb dX3_reach_54 rfl (lv_at hl 3 rfl) ?_
                  refine lv_iand hx hb dX3_reach_55 ?_
                  refine lv_if_eq (tgt := 69) hx hb dX3_reach_56 (by decide) (fun zc56 => ?_) (fun zc56 => ?_)
                  · refine lv_iinc (v := nI (i + 1)) (lv' := [(6, .int (nI (i + 1))), (4, .int x3), (5, .int (nI j)), (3, .int y), (0, .ref h0), (1, .int (nI q)), (2, .int w)]) hx hb dX3_reach_69 hl (k := 0) rfl (by rw [show Int32.ofInt 1 = nI 1 by decide]; exact nI_add _ _) (by decide) rfl (fun ls hl => ?_)
                    refine lv_goto (tgt := 29) hx hb dX3_reach_72 (by decide) ?_
                    exact ih29 y (i + 1) (by subst ey; simp only [psC]; exact (ifn2 (fun q => q zc56)).symm) (by first | assumption | omega | rfl) (by omega) _ _ (hP.sub [0, 1] rfl) (hD.sub [0, 1] (by decide) rfl) hS ls (lv_sub hl [0, 1, 2, 3, 4, 5, 6] rfl)
                  · refine lv_iload_n hx hb dX3_reach_59 rfl (lv_at hl 3 rfl) ?_
                    refine lv_aload_n hx hb dX3_reach_60 rfl (lv_at hl 4 rfl) ?_
                    refine rk_get (ci := 3) (C := RX3) (T := TX3) (N := 6) hx hb hts iw_X3_reach_3 hown hK hP 0 rfl rfl 5 (by decide) fl_X3_reach_28 rfl (v := .ref q4) rfl dX3_reach_61 ?_
                    refine lv_iload hx hb dX3_reach_64 (lv_at hl 0 rfl) ?_
                    refine rk_iald hx hb hK hP 1 rfl (by omega) (by omega) (v := en i) (rfl) dX3_reach_66 ?_
                    refine lv_ior hx hb dX3_reach_67 ?_
                    refine lv_istore_n (lv' := [(3, .int (y ||| (en i))), (6, .int (nI i)), (4, .int x3), (5, .int (nI j)), (0, .ref h0), (1, .int (nI q)), (2, .int w)]) hx hb dX3_reach_68 rfl hl (by decide) rfl (fun ls hl => ?_)
                    refine lv_iinc (v := nI (i + 1)) (lv' := [(6, .int (nI (i + 1))), (3, .int (y ||| (en i))), (4, .int x3), (5, .int (nI j)), (0, .ref h0), (1, .int (nI q)), (2, .int w)]) hx hb dX3_reach_69 hl (k := 1) rfl (by rw [show Int32.ofInt 1 = nI 1 by decide]; exact nI_add _ _) (by decide) rfl (fun ls hl => ?_)
                    refine lv_goto (tgt := 29) hx hb dX3_reach_72 (by decide) ?_
                    exact ih29 (y ||| (en i)) (i + 1) (by subst ey; simp only [psC]; exact (if_pos (And.intro zc44 zc56)).symm) (by first | assumption | omega | rfl) (by omega) _ _ (hP.sub [0, 1] rfl) (hD.sub [0, 1] (by decide) rfl) hS ls (lv_sub hl [0, 2, 3, 1, 4, 5, 6] rfl)
          exact L29 ((k - 0) + 1) x3 0 (rfl) (by first | assumption | omega | rfl) (Nat.lt_succ_self _) _ _ (hP.sub [0, 1] rfl) (hD.sub [0, 1] (by decide) rfl) hS ls (lv_sub hl [0, 1, 2, 3, 4, 5, 6] rfl)
  exact L10 ((16 - 0) + 1) ((nI 1) <<< ((nI q) &&& 31)) (nI 0) 0 (rfl) (rfl) (by first | assumption | omega | rfl) (Nat.lt_succ_self _) _ _ (hP.sub [0, 1] rfl) (hD.sub [0, 1] (by decide) rfl) hS ls (lv_sub hl [0, 1, 2, 3, 4, 5] rfl)
theorem iw_X3_copyFrom_3 : ∀ w ∈ u_ws RX3 TX3 6, w ∈ wsX3_copyFrom := by decide +kernel
theorem fl_X3_copyFrom_9 : Cond.fieldLink RX3 9 (TX3 0).1 (TX3 0).2.1 (TX3 0).2.2.1 ∈ wsX3_copyFrom := by decide +kernel
theorem fl_X3_copyFrom_15 : Cond.fieldLink RX3 15 (TX3 1).1 (TX3 1).2.1 (TX3 1).2.2.1 ∈ wsX3_copyFrom := by decide +kernel
theorem fl_X3_copyFrom_18 : Cond.fieldLink RX3 18 (TX3 2).1 (TX3 2).2.1 (TX3 2).2.2.1 ∈ wsX3_copyFrom := by decide +kernel
theorem mlac_X3_copyFrom : Cond.methodLink RX3 31 arraycopyName ∈ wsX3_copyFrom := by decide +kernel
theorem ntac_X3_copyFrom : Cond.native arraycopyName ∈ wsX3_copyFrom := by decide +kernel
theorem stac_X3_copyFrom : Cond.static arraycopyName ∈ wsX3_copyFrom := by decide +kernel
theorem inac_X3_copyFrom : Cond.initialized "java/lang/System" ∈ wsX3_copyFrom := by decide +kernel
theorem fl_X3_copyFrom_22 : Cond.fieldLink RX3 22 (TX3 3).1 (TX3 3).2.1 (TX3 3).2.2.1 ∈ wsX3_copyFrom := by decide +kernel
theorem fl_X3_copyFrom_25 : Cond.fieldLink RX3 25 (TX3 4).1 (TX3 4).2.1 (TX3 4).2.2.1 ∈ wsX3_copyFrom := by decide +kernel
theorem fl_X3_copyFrom_28 : Cond.fieldLink RX3 28 (TX3 5).1 (TX3 5).2.1 (TX3 5).2.2.1 ∈ wsX3_copyFrom := by decide +kernel
set_option maxHeartbeats 400000 in
set_option maxRecDepth 100000 in
theorem c_X3_copyFrom (l : Launch) (E : EE) (sz : Nat) (h0 q1 q2 q3 q4 g0 p1 p2 p3 p4 : Nat) (sc rc sd rd : Int32) (lo hi le en mo mi me mn : Nat → Int32) : Cv l yX3_copyFrom wsX3_copyFrom 1 30 E [.ref h0, .ref g0] [(h0, .inr (3, [.int sc, .int rc, .ref q1, .ref q2, .ref q3, .ref q4])), (q1, aI E 30 lo), (q2, aI E 30 hi), (q3, aI E 30 le), (q4, aI E 30 en), (g0, .inr (3, [.int sd, .int rd, .ref p1, .ref p2, .ref p3, .ref p4])), (p1, aI E 30 mo), (p2, aI E 30 mi), (p3, aI E 30 me), (p4, aI E 30 mn)] sz [(h0, .inr (3, [.int sd, .int rd, .ref q1, .ref q2, .ref q3, .ref q4])), (q1, aI E 30 (va_cpy mo lo 0 0 30)), (q2, aI E 30 (va_cpy mi hi 0 0 30)), (q3, aI E 30 (va_cpy me le 0 0 30)), (q4, aI E 30 (va_cpy mn en 0 0 30)), (g0, .inr (3, [.int sd, .int rd, .ref p1, .ref p2, .ref p3, .ref p4])), (p1, aI E 30 mo), (p2, aI E 30 mi), (p3, aI E 30 me), (p4, aI E 30 mn)] := by
  refine C_of (QQ := QV E [(h0, .inr (3, [.int sd, .int rd, .ref q1, .ref q2, .ref q3, .ref q4])), (q1, aI E 30 (va_cpy mo lo 0 0 30)), (q2, aI E 30 (va_cpy mi hi 0 0 30)), (q3, aI E 30 (va_cpy me le 0 0 30)), (q4, aI E 30 (va_cpy mn en 0 0 30)), (g0, .inr (3, [.int sd, .int rd, .ref p1, .ref p2, .ref p3, .ref p4])), (p1, aI E 30 mo), (p2, aI E 30 mi), (p3, aI E 30 me), (p4, aI E 30 mn)]) (cc := cX3_copyFrom) (maxL := 2) (ret := none) (by decide +kernel) rfl (Nat.le_of_ble_eq_true rfl) ?_
  intro p e s m args below meth c A R Q ls hx hb hr hts hown hml hlocks hA hK hN hP hD hS hl hR hQ
  have hown : s.vm.findClass RX3 = some m.cls := hown
  have hl : lv_has ls 2 [(0, .ref h0), (1, .ref g0)] := hl
  refine lv_aload_n hx hb dX3_copyFrom_0 rfl (lv_at hl 0 rfl) ?_
  refine lv_aload_n hx hb dX3_copyFrom_1 rfl (lv_at hl 1 rfl) ?_
  refine rk_get (ci := 3) (C := RX3) (T := TX3) (N := 6) hx hb hts iw_X3_copyFrom_3 hown hK hP 5 rfl rfl 0 (by decide) fl_X3_copyFrom_9 rfl (v := .int sd) rfl dX3_copyFrom_2 ?_
  refine rk_put (ci := 3) (C := RX3) (T := TX3) (N := 6) hx hb hts iw_X3_copyFrom_3 tyX3 tyX3_ok nmX3 hown hK hP hD hS 0 rfl rfl 0 (by decide) fl_X3_copyFrom_9 rfl rfl (tyX3_ok 0 (by decide)) rfl rfl (Nat.le_of_ble_eq_true rfl) (ws' := [(h0, .inr (3, [.int sd, .int rc, .ref q1, .ref q2, .ref q3, .ref q4])), (q1, aI E 30 lo), (q2, aI E 30 hi), (q3, aI E 30 le), (q4, aI E 30 en), (g0, .inr (3, [.int sd, .int rd, .ref p1, .ref p2, .ref p3, .ref p4])), (p1, aI E 30 mo), (p2, aI E 30 mi), (p3, aI E 30 me), (p4, aI E 30 mn)]) rfl dX3_copyFrom_5 (fun H locs hP hD hS => ?_)
  refine lv_aload_n hx hb dX3_copyFrom_8 rfl (lv_at hl 0 rfl) ?_
  refine lv_aload_n hx hb dX3_copyFrom_9 rfl (lv_at hl 1 rfl) ?_
  refine rk_get (ci := 3) (C := RX3) (T := TX3) (N := 6) hx hb hts iw_X3_copyFrom_3 hown hK hP 5 rfl rfl 1 (by decide) fl_X3_copyFrom_15 rfl (v := .int rd) rfl dX3_copyFrom_10 ?_
  refine rk_put (ci := 3) (C := RX3) (T := TX3) (N := 6) hx hb hts iw_X3_copyFrom_3 tyX3 tyX3_ok nmX3 hown hK hP hD hS 0 rfl rfl 1 (by decide) fl_X3_copyFrom_15 rfl rfl (tyX3_ok 1 (by decide)) rfl rfl (Nat.le_of_ble_eq_true rfl) (ws' := [(h0, .inr (3, [.int sd, .int rd, .ref q1, .ref q2, .ref q3, .ref q4])), (q1, aI E 30 lo), (q2, aI E 30 hi), (q3, aI E 30 le), (q4, aI E 30 en), (g0, .inr (3, [.int sd, .int rd, .ref p1, .ref p2, .ref p3, .ref p4])), (p1, aI E 30 mo), (p2, aI E 30 mi), (p3, aI E 30 me), (p4, aI E 30 mn)]) rfl dX3_copyFrom_13 (fun H locs hP hD hS => ?_)
  refine lv_aload_n hx hb dX3_copyFrom_16 rfl (lv_at hl 1 rfl) ?_
  refine rk_get (ci := 3) (C := RX3) (T := TX3) (N := 6) hx hb hts iw_X3_copyFrom_3 hown hK hP 5 rfl rfl 2 (by decide) fl_X3_copyFrom_18 rfl (v := .ref p1) rfl dX3_copyFrom_17 ?_
  refine lv_iconst (v := nI 0) hx hb dX3_copyFrom_20 (by decide) ?_
  refine lv_aload_n hx hb dX3_copyFrom_21 rfl (lv_at hl 0 rfl) ?_
  refine rk_get (ci := 3) (C := RX3) (T := TX3) (N := 6) hx hb hts iw_X3_copyFrom_3 hown hK hP 0 rfl rfl 2 (by decide) fl_X3_copyFrom_18 rfl (v := .ref q1) rfl dX3_copyFrom_22 ?_
  refine lv_iconst (v := nI 0) hx hb dX3_copyFrom_25 (by decide) ?_
  refine lv_bipush (v := nI 30) hx hb dX3_copyFrom_26 (by decide) ?_
  refine va_copyi (D := E.1) (cl := vwCl) (tys := tyE E) (ty := .int) hx hb (hml.trans hl.1.symm) hown (hts _ mlac_X3_copyFrom) (hts _ ntac_X3_copyFrom) (hts _ stac_X3_copyFrom) (hts _ inac_X3_copyFrom) hK hP hD hS 6 1 0 0 rfl rfl rfl rfl rfl (by decide) (by decide) (by decide) (by decide) (by decide) (fun _ _ => rfl) (by rw [hR]; decide) (by rw [hR]; exact Nat.le_of_ble_eq_true rfl) dX3_copyFrom_28 (fun H locs hP hD hS => ?_)
  have hP : va_P E.1 vwCl [(h0, .inr (3, [.int sd, .int rd, .ref q1, .ref q2, .ref q3, .ref q4])), (q1, aI E 30 (va_cpy mo lo 0 0 30)), (q2, aI E 30 hi), (q3, aI E 30 le), (q4, aI E 30 en), (g0, .inr (3, [.int sd, .int rd, .ref p1, .ref p2, .ref p3, .ref p4])), (p1, aI E 30 mo), (p2, aI E 30 mi), (p3, aI E 30 me), (p4, aI E 30 mn)] H := hP
  have hD : va_D A [(h0, .inr (3, [.int sd, .int rd, .ref q1, .ref q2, .ref q3, .ref q4])), (q1, aI E 30 (va_cpy mo lo 0 0 30)), (q2, aI E 30 hi), (q3, aI E 30 le), (q4, aI E 30 en), (g0, .inr (3, [.int sd, .int rd, .ref p1, .ref p2, .ref p3, .ref p4])), (p1, aI E 30 mo), (p2, aI E 30 mi), (p3, aI E 30 me), (p4, aI E 30 mn)] := hD
  refine lv_aload_n hx hb dX3_copyFrom_31 rfl (lv_at hl 1 rfl) ?_
  refine rk_get (ci := 3) (C := RX3) (T := TX3) (N := 6) hx hb hts iw_X3_copyFrom_3 hown hK hP 5 rfl rfl 3 (by decide) fl_X3_copyFrom_22 rfl (v := .ref p2) rfl dX3_copyFrom_32 ?_
  refine lv_iconst (v := nI 0) hx hb dX3_copyFrom_35 (by decide) ?_
  refine lv_aload_n hx hb dX3_copyFrom_36 rfl (lv_at hl 0 rfl) ?_
  refine rk_get (ci := 3) (C := RX3) (T := TX3) (N := 6) hx hb hts iw_X3_copyFrom_3 hown hK hP 0 rfl rfl 3 (by decide) fl_X3_copyFrom_22 rfl (v := .ref q2) rfl dX3_copyFrom_37 ?_
  refine lv_iconst (v := nI 0) hx hb dX3_copyFrom_40 (by decide) ?_
  refine lv_bipush (v := nI 30) hx hb dX3_copyFrom_41 (by decide) ?_
  refine va_copyi (D := E.1) (cl := vwCl) (tys := tyE E) (ty := .int) hx hb (hml.trans hl.1.symm) hown (hts _ mlac_X3_copyFrom) (hts _ ntac_X3_copyFrom) (hts _ stac_X3_copyFrom) (hts _ inac_X3_copyFrom) hK hP hD hS 7 2 0 0 rfl rfl rfl rfl rfl (by decide) (by decide) (by decide) (by decide) (by decide) (fun _ _ => rfl) (by rw [hR]; decide) (by rw [hR]; exact Nat.le_of_ble_eq_true rfl) dX3_copyFrom_43 (fun H locs hP hD hS => ?_)
  have hP : va_P E.1 vwCl [(h0, .inr (3, [.int sd, .int rd, .ref q1, .ref q2, .ref q3, .ref q4])), (q1, aI E 30 (va_cpy mo lo 0 0 30)), (q2, aI E 30 (va_cpy mi hi 0 0 30)), (q3, aI E 30 le), (q4, aI E 30 en), (g0, .inr (3, [.int sd, .int rd, .ref p1, .ref p2, .ref p3, .ref p4])), (p1, aI E 30 mo), (p2, aI E 30 mi), (p3, aI E 30 me), (p4, aI E 30 mn)] H := hP
  have hD : va_D A [(h0, .inr (3, [.int sd, .int rd, .ref q1, .ref q2, .ref q3, .ref q4])), (q1, aI E 30 (va_cpy mo lo 0 0 30)), (q2, aI E 30 (va_cpy mi hi 0 0 30)), (q3, aI E 30 le), (q4, aI E 30 en), (g0, .inr (3, [.int sd, .int rd, .ref p1, .ref p2, .ref p3, .ref p4])), (p1, aI E 30 mo), (p2, aI E 30 mi), (p3, aI E 30 me), (p4, aI E 30 mn)] := hD
  refine lv_aload_n hx hb dX3_copyFrom_46 rfl (lv_at hl 1 rfl) ?_
  refine rk_get (ci := 3) (C := RX3) (T := TX3) (N := 6) hx hb hts iw_X3_copyFrom_3 hown hK hP 5 rfl rfl 4 (by decide) fl_X3_copyFrom_25 rfl (v := .ref p3) rfl dX3_copyFrom_47 ?_
  refine lv_iconst (v := nI 0) hx hb dX3_copyFrom_50 (by decide) ?_
  refine lv_aload_n hx hb dX3_copyFrom_51 rfl (lv_at hl 0 rfl) ?_
  refine rk_get (ci := 3) (C := RX3) (T := TX3) (N := 6) hx hb hts iw_X3_copyFrom_3 hown hK hP 0 rfl rfl 4 (by decide) fl_X3_copyFrom_25 rfl (v := .ref q3) rfl dX3_copyFrom_52 ?_
  refine lv_iconst (v := nI 0) hx hb dX3_copyFrom_55 (by decide) ?_
  refine lv_bipush (v := nI 30) hx hb dX3_copyFrom_56 (by decide) ?_
  refine va_copyi (D := E.1) (cl := vwCl) (tys := tyE E) (ty := .int) hx hb (hml.trans hl.1.symm) hown (hts _ mlac_X3_copyFrom) (hts _ ntac_X3_copyFrom) (hts _ stac_X3_copyFrom) (hts _ inac_X3_copyFrom) hK hP hD hS 8 3 0 0 rfl rfl rfl rfl rfl (by decide) (by decide) (by decide) (by decide) (by decide) (fun _ _ => rfl) (by rw [hR]; decide) (by rw [hR]; exact Nat.le_of_ble_eq_true rfl) dX3_copyFrom_58 (fun H locs hP hD hS => ?_)
  have hP : va_P E.1 vwCl [(h0, .inr (3, [.int sd, .int rd, .ref q1, .ref q2, .ref q3, .ref q4])), (q1, aI E 30 (va_cpy mo lo 0 0 30)), (q2, aI E 30 (va_cpy mi hi 0 0 30)), (q3, aI E 30 (va_cpy me le 0 0 30)), (q4, aI E 30 en), (g0, .inr (3, [.int sd, .int rd, .ref p1, .ref p2, .ref p3, .ref p4])), (p1, aI E 30 mo), (p2, aI E 30 mi), (p3, aI E 30 me), (p4, aI E 30 mn)] H := hP
  have hD : va_D A [(h0, .inr (3, [.int sd, .int rd, .ref q1, .ref q2, .ref q3, .ref q4])), (q1, aI E 30 (va_cpy mo lo 0 0 30)), (q2, aI E 30 (va_cpy mi hi 0 0 30)), (q3, aI E 30 (va_cpy me le 0 0 30)), (q4, aI E 30 en), (g0, .inr (3, [.int sd, .int rd, .ref p1, .ref p2, .ref p3, .ref p4])), (p1, aI E 30 mo), (p2, aI E 30 mi), (p3, aI E 30 me), (p4, aI E 30 mn)] := hD
  refine lv_aload_n hx hb dX3_copyFrom_61 rfl (lv_at hl 1 rfl) ?_
  refine rk_get (ci := 3) (C := RX3) (T := TX3) (N := 6) hx hb hts iw_X3_copyFrom_3 hown hK hP 5 rfl rfl 5 (by decide) fl_X3_copyFrom_28 rfl (v := .ref p4) rfl dX3_copyFrom_62 ?_
  refine lv_iconst (v := nI 0) hx hb dX3_copyFrom_65 (by decide) ?_
  refine lv_aload_n hx hb dX3_copyFrom_66 rfl (lv_at hl 0 rfl) ?_
  refine rk_get (ci := 3) (C := RX3) (T := TX3) (N := 6) hx hb hts iw_X3_copyFrom_3 hown hK hP 0 rfl rfl 5 (by decide) fl_X3_copyFrom_28 rfl (v := .ref q4) rfl dX3_copyFrom_67 ?_
  refine lv_iconst (v := nI 0) hx hb dX3_copyFrom_70 (by decide) ?_
  refine lv_bipush (v := nI 30) hx hb dX3_copyFrom_71 (by decide) ?_
  refine va_copyi (D := E.1) (cl := vwCl) (tys := tyE E) (ty := .int) hx hb (hml.trans hl.1.symm) hown (hts _ mlac_X3_copyFrom) (hts _ ntac_X3_copyFrom) (hts _ stac_X3_copyFrom) (hts _ inac_X3_copyFrom) hK hP hD hS 9 4 0 0 rfl rfl rfl rfl rfl (by decide) (by decide) (by decide) (by decide) (by decide) (fun _ _ => rfl) (by rw [hR]; decide) (by rw [hR]; exact Nat.le_of_ble_eq_true rfl) dX3_copyFrom_73 (fun H locs hP hD hS => ?_)
  have hP : va_P E.1 vwCl [(h0, .inr (3, [.int sd, .int rd, .ref q1, .ref q2, .ref q3, .ref q4])), (q1, aI E 30 (va_cpy mo lo 0 0 30)), (q2, aI E 30 (va_cpy mi hi 0 0 30)), (q3, aI E 30 (va_cpy me le 0 0 30)), (q4, aI E 30 (va_cpy mn en 0 0 30)), (g0, .inr (3, [.int sd, .int rd, .ref p1, .ref p2, .ref p3, .ref p4])), (p1, aI E 30 mo), (p2, aI E 30 mi), (p3, aI E 30 me), (p4, aI E 30 mn)] H := hP
  have hD : va_D A [(h0, .inr (3, [.int sd, .int rd, .ref q1, .ref q2, .ref q3, .ref q4])), (q1, aI E 30 (va_cpy mo lo 0 0 30)), (q2, aI E 30 (va_cpy mi hi 0 0 30)), (q3, aI E 30 (va_cpy me le 0 0 30)), (q4, aI E 30 (va_cpy mn en 0 0 30)), (g0, .inr (3, [.int sd, .int rd, .ref p1, .ref p2, .ref p3, .ref p4])), (p1, aI E 30 mo), (p2, aI E 30 mi), (p3, aI E 30 me), (p4, aI E 30 mn)] := hD
  exact ret_v hQ hx hb hr hlocks (hP.sub [0, 1, 2, 3, 4, 5, 6, 7, 8, 9] rfl) (hD.sub [0, 1, 2, 3, 4, 5, 6, 7, 8, 9] (by decide) rfl) hS dX3_copyFrom_76
end
section
/-! THE SURVEY'S FUNCTIONS (pure) -/
def bcnt (p : Nat → Bool) : Nat → Nat
  | 0 => 0
  | n + 1 => bcnt p n + (if p n then 1 else 0)
/-- how many bits of an int are set -/
def popc (x : Int32) : Nat := bcnt (fun i => x.toBitVec.getLsbD i) 32
theorem bcnt_le (p : Nat → Bool) : ∀ n, bcnt p n ≤ n
  | 0 => Nat.le_refl 0
  | n + 1 => by
    have h := bcnt_le p n
    simp only [bcnt]
    split <;> omega
theorem popc_lt (x : Int32) : popc x < 2 ^ 31 := Nat.lt_of_le_of_lt (bcnt_le _ 32) (by decide)
def swP (g : Nat → Int32) (po : Nat → Int32) : Nat → Int32 × Nat × (Nat → Int32)
  | 0 => (nI 0, 0, po)
  | q + 1 => if cnt (swP g po q).1 (nI q) = true then swP g po q else ((swP g po q).1 ||| g q, (swP g po q).2.1 + 1, sfm (swP g po q).2.2 (g q) (g q) 16)
def swD (g : Nat → Int32) (dO dS : Nat → Int32) : Nat → Int32 × Nat × (Nat → Int32) × (Nat → Int32)
  | 0 => (nI 0, 0, dO, dS)
  | q + 1 => if cnt (swD g dO dS q).1 (nI q) = true then swD g dO dS q else ((swD g dO dS q).1 ||| g q, (swD g dO dS q).2.1 + 1, sfm (swD g dO dS q).2.2.1 (g q) (nI (swD g dO dS q).2.1) 16, upd (swD g dO dS q).2.2.2 (swD g dO dS q).2.1 (g q))
theorem swD_le (g : Nat → Int32) (dO dS : Nat → Int32) : ∀ q, (swD g dO dS q).2.1 ≤ q
  | 0 => Nat.le_refl 0
  | q + 1 => by
    have h := swD_le g dO dS q
    simp only [swD]
    split
    · omega
    · exact Nat.succ_le_succ h
theorem swP_le (g : Nat → Int32) (po : Nat → Int32) : ∀ q, (swP g po q).2.1 ≤ q
  | 0 => Nat.le_refl 0
  | q + 1 => by
    have h := swP_le g po q
    simp only [swP]
    split
    · omega
    · exact Nat.succ_le_succ h
/-- the roads but one -/
def aRx (k r : Nat) : Int32 := allR (nI k) &&& ((nI 1 <<< (nI r &&& 31)) ^^^ (-1))
def sdR (en : Nat → Int32) (k : Nat) (a : Nat → Nat) (r : Nat) : Int32 := rsC en (aRx k r) k (a r)
def lsf (f sd : Nat → Int32) (i : Nat) : Nat → Int32 := fun j => if j < i then sd j else f j
theorem lsf_0 (f sd : Nat → Int32) : lsf f sd 0 = f := by funext j; simp [lsf]
theorem lsf_1 (f sd : Nat → Int32) (i : Nat) : upd (lsf f sd i) i (sd i) = lsf f sd (i + 1) := by
  funext j
  by_cases hj : j = i
  · subst hj; simp [upd, lsf]
  · simp only [upd, if_neg hj, lsf]
    have e : j < i + 1 ↔ j < i := by omega
    simp only [e]
def pRs (sd hi : Nat → Int32) : Nat → Int32
  | 0 => nI 0
  | r + 1 => if cnt (sd r) (hi r) = true then pRs sd hi r else pRs sd hi r ||| (nI 1 <<< (nI r &&& 31))
def sqB (po lS : Nat → Int32) (x r : Nat) : Int32 := po x &&& (if cnt (lS r) (nI x) = true then lS r ^^^ (-1) else lS r)
def rBt (po lS : Nat → Int32) (x : Nat) (y : Int32) : Nat → Int32
  | 0 => nI 0
  | r + 1 => if cnt (sqB po lS x r) y = true then rBt po lS x y r ||| (nI 1 <<< (nI r &&& 31)) else rBt po lS x y r
def rAh (po lS : Nat → Int32) (x r : Nat) (ow : Int32) : Nat → Nat
  | 0 => 0
  | t + 1 => if cnt ow (nI t) = true ∧ popc (sqB po lS x r) < popc (sqB po lS x t) then rAh po lS x r ow t + 1 else rAh po lS x r ow t
/-- the first place from i on, n places far, at which p holds, else -6 -/
def fst6 (p : Nat → Bool) : Nat → Nat → Int32
  | _, 0 => -6
  | i, n + 1 => if p i = true then nI i else fst6 p (i + 1) n
def rOWp (po lS : Nat → Int32) (x : Nat) (ow pl : Int32) (k : Nat) (r : Nat) : Bool := cnt ow (nI r) && decide (nI (rAh po lS x r ow k) = pl)
def pAf (pr : Int32) (po lS : Nat → Int32) (x : Nat) (y : Int32) (k : Nat) : Int32 := if cnt (po x) y = true then nI (popc pr) - nI (popc (rBt po lS x y k)) else nI (popc pr + 1)
def mPw (g : Nat → Int32) (o : Int32) : Nat → Int32 × Nat
  | 0 => (o, 0)
  | t + 1 => if cnt (mPw g o t).1 (nI t) = true then ((mPw g o t).1 &&& (g t ^^^ (-1)), (mPw g o t).2 + 1) else mPw g o t
def mPr (en po : Nat → Int32) (k n x : Nat) : Int32 :=
  if nI (mPw (rsC en (allR (nI k) &&& (rAt en (nI x) k ^^^ (-1))) k) (po x &&& ((nI 1 <<< (nI x &&& 31)) ^^^ (-1))) n).2 - nI 1 < nI 0 then nI 0 else nI (mPw (rsC en (allR (nI k) &&& (rAt en (nI x) k ^^^ (-1))) k) (po x &&& ((nI 1 <<< (nI x &&& 31)) ^^^ (-1))) n).2 - nI 1
def pSq (mp : Nat → Int32) : Nat → Nat
  | 0 => 0
  | q + 1 => if mp q ≤ 0 then pSq mp q else pSq mp q + 1
def pRo (en : Nat → Int32) (pr mm : Int32) : Nat → Nat
  | 0 => 0
  | r + 1 => if cnt pr (nI r) = true ∧ ¬ (en r &&& mm) = 0 then pRo en pr mm r + 1 else pRo en pr mm r
theorem pRo_le (en : Nat → Int32) (pr mm : Int32) : ∀ r, pRo en pr mm r ≤ r
  | 0 => Nat.le_refl 0
  | r + 1 => by
    have h := pRo_le en pr mm r
    simp only [pRo]
    split <;> omega
def dLn (en le dS : Nat → Int32) (k d : Nat) : Int32 := lnO le (rWi en (dS d) k) k
def lgD (ln : Nat → Int32) : Nat → Nat × Int32
  | 0 => (0, ln 0)
  | d + 1 => if ¬ ln d ≤ (lgD ln d).2 then (d, ln d) else lgD ln d
def lfD (en dS : Nat → Int32) (pr pc : Int32) (k : Nat) : Nat → Nat
  | 0 => 0
  | d + 1 => if ¬ (dS d &&& pc) = 0 ∧ pRo en pr (dS d) k = 1 then lfD en dS pr pc k d + 1 else lfD en dS pr pc k d
theorem lfD_le (en dS : Nat → Int32) (pr pc : Int32) (k : Nat) : ∀ d, lfD en dS pr pc k d ≤ d
  | 0 => Nat.le_refl 0
  | d + 1 => by
    have h := lfD_le en dS pr pc k d
    simp only [lfD]
    split <;> omega
def bfs (en : Nat → Int32) (os : Int32) (k : Nat) (b0 : Int32) : Nat → Int32
  | 0 => b0
  | j + 1 => orf en (bfs en os k b0 j) os k
def lrP (en : Nat → Int32) (os : Int32) (k : Nat) (b0 h : Int32) (i : Nat) : Bool := cnt (bfs en os k b0 (i - 1)) h
def shoB (g : Nat → Int32) (f t : Nat) (w : Int32) : Bool := decide (g f + w < g t)
def sho (g : Nat → Int32) (f t : Nat) (w : Int32) : Nat → Int32 := if g f + w < g t then upd g t (g f + w) else g
def psL (a b : Nat → Nat) (le g : Nat → Int32) : Nat → (Nat → Int32)
  | 0 => g
  | r + 1 => sho (sho (psL a b le g r) (a r) (b r) (le r)) (b r) (a r) (le r)
def psF (a b : Nat → Nat) (le g : Nat → Int32) : Nat → Bool
  | 0 => false
  | r + 1 => (psF a b le g r || shoB (psL a b le g r) (a r) (b r) (le r)) || shoB (sho (psL a b le g r) (a r) (b r) (le r)) (b r) (a r) (le r)
theorem sho_same {g : Nat → Int32} {f t : Nat} {w : Int32} (h : shoB g f t w = false) : sho g f t w = g := by
  simp only [shoB, decide_eq_false_iff_not] at h
  simp [sho, h]
theorem psL_same {a b : Nat → Nat} {le g : Nat → Int32} : ∀ r, psF a b le g r = false → psL a b le g r = g
  | 0, _ => rfl
  | r + 1, h => by
    simp only [psF, Bool.or_eq_false_iff] at h
    have h1 := psL_same r h.1.1
    rw [h1] at h
    have h2 := sho_same h.1.2
    rw [h2] at h
    simp only [psL, h1, h2, sho_same h.2]
def d0 (x : Nat) : Nat → Int32 := upd (fun _ => nI 1584) x (nI 0)
def dLf (f : Nat → Int32) (i : Nat) : Nat → Int32 := fun j => if j < i then nI 1584 else f j
theorem dLf_0 (f : Nat → Int32) : dLf f 0 = f := by funext j; simp [dLf]
theorem dLf_1 (f : Nat → Int32) (i : Nat) : upd (dLf f i) i (nI 1584) = dLf f (i + 1) := by
  funext j
  by_cases hj : j = i
  · subst hj; simp [upd, dLf]
  · simp only [upd, if_neg hj, dLf]
    have e : j < i + 1 ↔ j < i := by omega
    simp only [e]
/-- the distances after j rounds -/
def dL (a b : Nat → Nat) (le g : Nat → Int32) (k : Nat) : Nat → (Nat → Int32)
  | 0 => g
  | j + 1 => psL a b le (dL a b le g k j) k
/-- whether round j still shortened -/
def dF (a b : Nat → Nat) (le g : Nat → Int32) (k : Nat) : Nat → Bool
  | 0 => true
  | j + 1 => psF a b le (dL a b le g k j) k
theorem dL_fix {a b : Nat → Nat} {le g : Nat → Int32} {k j : Nat} (h : dL a b le g k (j + 1) = dL a b le g k j) : ∀ i, dL a b le g k (j + i) = dL a b le g k j
  | 0 => rfl
  | i + 1 => by
    show psL a b le (dL a b le g k (j + i)) k = _
    rw [dL_fix h i]
    exact h
theorem dL_stop {a b : Nat → Nat} {le g : Nat → Int32} {k j : Nat} (hj : j ≤ 16) (h : dF a b le g k j = false) : dL a b le g k j = dL a b le g k 16 := by
  cases j with
  | zero => exact absurd h (by simp [dF])
  | succ j =>
    have h0 : dL a b le g k (j + 1) = dL a b le g k j := psL_same k h
    have h1 := dL_fix h0 (16 - j)
    rw [show j + (16 - j) = 16 by omega] at h1
    exact h0.trans h1.symm
theorem b2i_or (x y : Bool) : b2i x ||| b2i y = b2i (x || y) := by cases x <;> cases y <;> rfl
theorem fst6_hit {p : Nat → Bool} {i n : Nat} (h : p i = true) (hn : 0 < n) : nI i = fst6 p i n := by
  obtain ⟨j, rfl⟩ : ∃ j, n = j + 1 := ⟨n - 1, by omega⟩
  simp [fst6, h]
theorem fst6_miss {p : Nat → Bool} {i n n' : Nat} (h : p i = false) (hn : n = n' + 1) : fst6 p i n = fst6 p (i + 1) n' := by
  subst hn
  simp [fst6, h]
theorem lgD_1 (ln : Nat → Int32) : lgD ln 1 = (0, ln 0) := by simp [lgD, Int32.le_refl]
theorem bfs_s {en : Nat → Int32} {os : Int32} {k : Nat} {b0 : Int32} {i : Nat} (h : 2 ≤ i) : orf en (bfs en os k b0 (i - 2)) os k = bfs en os k b0 (i - 1) := by
  rw [show i - 1 = (i - 2) + 1 by omega]
  rfl
theorem swP_t {g : Nat → Int32} {po : Nat → Int32} {q : Nat} (h : cnt (swP g po q).1 (nI q) = true) : swP g po (q + 1) = swP g po q := by rw [swP, if_pos h]
theorem swP_f {g : Nat → Int32} {po : Nat → Int32} {q : Nat} (h : cnt (swP g po q).1 (nI q) = false) : swP g po (q + 1) = ((swP g po q).1 ||| g q, (swP g po q).2.1 + 1, sfm (swP g po q).2.2 (g q) (g q) 16) := by rw [swP, if_neg (by rw [h]; decide)]
theorem swD_t {g : Nat → Int32} {dO dS : Nat → Int32} {q : Nat} (h : cnt (swD g dO dS q).1 (nI q) = true) : swD g dO dS (q + 1) = swD g dO dS q := by rw [swD, if_pos h]
theorem swD_f {g : Nat → Int32} {dO dS : Nat → Int32} {q : Nat} (h : cnt (swD g dO dS q).1 (nI q) = false) : swD g dO dS (q + 1) = ((swD g dO dS q).1 ||| g q, (swD g dO dS q).2.1 + 1, sfm (swD g dO dS q).2.2.1 (g q) (nI (swD g dO dS q).2.1) 16, upd (swD g dO dS q).2.2.2 (swD g dO dS q).2.1 (g q)) := by rw [swD, if_neg (by rw [h]; decide)]
theorem mPw_t {g : Nat → Int32} {o : Int32} {t : Nat} (h : cnt (mPw g o t).1 (nI t) = true) : mPw g o (t + 1) = ((mPw g o t).1 &&& (g t ^^^ (-1)), (mPw g o t).2 + 1) := by rw [mPw, if_pos h]
theorem mPw_f {g : Nat → Int32} {o : Int32} {t : Nat} (h : cnt (mPw g o t).1 (nI t) = false) : mPw g o (t + 1) = mPw g o t := by rw [mPw, if_neg (by rw [h]; decide)]
theorem lgD_t {ln : Nat → Int32} {d : Nat} (h : ¬ ln d ≤ (lgD ln d).2) : lgD ln (d + 1) = (d, ln d) := by rw [lgD, if_pos h]
theorem lgD_f {ln : Nat → Int32} {d : Nat} (h : ln d ≤ (lgD ln d).2) : lgD ln (d + 1) = lgD ln d := by rw [lgD, if_neg (fun q => q h)]
theorem sqB_t {po lS : Nat → Int32} {x r : Nat} (h : cnt (lS r) (nI x) = true) : sqB po lS x r = po x &&& (lS r ^^^ (-1)) := by rw [sqB, if_pos h]
theorem sqB_f {po lS : Nat → Int32} {x r : Nat} (h : cnt (lS r) (nI x) = false) : sqB po lS x r = po x &&& lS r := by rw [sqB, if_neg (by rw [h]; decide)]
theorem rOWp_t {po lS : Nat → Int32} {x : Nat} {ow pl : Int32} {k r : Nat} (h1 : cnt ow (nI r) = true) (h2 : nI (rAh po lS x r ow k) = pl) : rOWp po lS x ow pl k r = true := by simp only [rOWp]; rw [h1, decide_eq_true h2]; rfl
theorem rOWp_f1 {po lS : Nat → Int32} {x : Nat} {ow pl : Int32} {k r : Nat} (h1 : cnt ow (nI r) = false) : rOWp po lS x ow pl k r = false := by simp only [rOWp]; rw [h1]; rfl
theorem rOWp_f2 {po lS : Nat → Int32} {x : Nat} {ow pl : Int32} {k r : Nat} (h2 : ¬ nI (rAh po lS x r ow k) = pl) : rOWp po lS x ow pl k r = false := by simp only [rOWp]; rw [decide_eq_false h2]; simp
theorem pRs_t {sd hi : Nat → Int32} {r : Nat} (h : cnt (sd r) (hi r) = true) : pRs sd hi (r + 1) = pRs sd hi r := by rw [pRs, if_pos h]
theorem pRs_f {sd hi : Nat → Int32} {r : Nat} (h : cnt (sd r) (hi r) = false) : pRs sd hi (r + 1) = pRs sd hi r ||| (nI 1 <<< (nI r &&& 31)) := by rw [pRs, if_neg (by rw [h]; decide)]
end
section
/-! pasted out of kit/laws (BITS: the family bt; NUMBERS: fa_and, fa_or) -/
def bt (x : Int32) (i : Nat) : Bool := x.toBitVec.getLsbD i
theorem b_ext {x y : Int32} (h : ∀ i, i < 32 → bt x i = bt y i) : x = y := Int32.toBitVec_inj.mp (BitVec.eq_of_getLsbD_eq (fun i hi => h i hi))
theorem b_or (x y : Int32) (i : Nat) : bt (x ||| y) i = (bt x i || bt y i) := by unfold bt; rw [Int32.toBitVec_or, BitVec.getLsbD_or]
theorem b_and (x y : Int32) (i : Nat) : bt (x &&& y) i = (bt x i && bt y i) := by unfold bt; rw [Int32.toBitVec_and, BitVec.getLsbD_and]
theorem b_xor (x y : Int32) (i : Nat) : bt (x ^^^ y) i = (bt x i ^^ bt y i) := by unfold bt; rw [Int32.toBitVec_xor, BitVec.getLsbD_xor]
theorem b_big {x : Int32} {i : Nat} (h : 32 ≤ i) : bt x i = false := BitVec.getLsbD_of_ge _ _ h
theorem b_255 (i : Nat) : bt 255 i = decide (i < 8) := by
  rcases Nat.lt_or_ge i 32 with h | h
  · exact (by decide +kernel : ∀ i, i < 32 → bt 255 i = decide (i < 8)) i h
  · rw [b_big h, decide_eq_false (by omega)]
theorem b_65535 (i : Nat) : bt 65535 i = decide (i < 16) := by
  rcases Nat.lt_or_ge i 32 with h | h
  · exact (by decide +kernel : ∀ i, i < 32 → bt 65535 i = decide (i < 16)) i h
  · rw [b_big h, decide_eq_false (by omega)]
theorem b_m1 : ∀ i, i < 32 → bt (-1) i = true := by decide +kernel
theorem b_0 (i : Nat) : bt 0 i = false := BitVec.getLsbD_zero
theorem s_l : ∀ n, n < 32 → ((nI n &&& 31).toBitVec.smod 32).toNat = n := by decide +kernel
theorem s_u : ∀ n, n < 32 → (((nI n).toUInt32 &&& Int32.toUInt32 31).toBitVec % 32).toNat = n := by decide +kernel
theorem b_shl (n : Nat) (hn : n < 32) (x : Int32) {i : Nat} (hi : i < 32) : bt (x <<< (nI n &&& 31)) i = (decide (n ≤ i) && bt x (i - n)) := by
  unfold bt
  rw [Int32.toBitVec_shiftLeft]
  show (x.toBitVec <<< ((nI n &&& 31).toBitVec.smod 32).toNat).getLsbD i = _
  rw [s_l n hn, BitVec.getLsbD_shiftLeft]
  rcases Nat.lt_or_ge i n with h | h
  · simp [h, Nat.not_le.mpr h]
  · simp [hi, h, Nat.not_lt.mpr h]
theorem b_ushr (n : Nat) (hn : n < 32) (x : Int32) (i : Nat) : bt ((x.toUInt32 >>> ((nI n).toUInt32 &&& Int32.toUInt32 31)).toInt32) i = bt x (n + i) := by
  show (x.toUInt32 >>> ((nI n).toUInt32 &&& Int32.toUInt32 31)).toBitVec.getLsbD i = x.toUInt32.toBitVec.getLsbD (n + i)
  rw [UInt32.toBitVec_shiftRight]
  show (x.toUInt32.toBitVec >>> (((nI n).toUInt32 &&& Int32.toUInt32 31).toBitVec % 32).toNat).getLsbD i = _
  rw [s_u n hn, BitVec.getLsbD_ushiftRight]
theorem b_sshr (n : Nat) (hn : n < 32) (x : Int32) {i : Nat} (hi : i < 32) : bt (x >>> (nI n &&& 31)) i = if n + i < 32 then bt x (n + i) else bt x 31 := by
  unfold bt
  rw [Int32.toBitVec_shiftRight]
  show (x.toBitVec.sshiftRight ((nI n &&& 31).toBitVec.smod 32).toNat).getLsbD i = _
  rw [s_l n hn, BitVec.getLsbD_sshiftRight, BitVec.msb_eq_getLsbD_last]
  simp [hi]
theorem wb_of32 (x : Int32) : ∃ n, n < 2 ^ 32 ∧ x = nI n := ⟨x.toBitVec.toNat, x.toBitVec.isLt, Int32.toBitVec_inj.mp (by show _ = BitVec.ofNat 32 _; simp)⟩
theorem fa_and (a b : Nat) : nI a &&& nI b = nI (a &&& b) := by
  apply Int32.toBitVec_inj.1
  show BitVec.ofNat 32 a &&& BitVec.ofNat 32 b = BitVec.ofNat 32 (a &&& b)
  apply BitVec.eq_of_getLsbD_eq
  intro i hi
  simp [hi]
theorem fa_or (a b : Nat) : nI a ||| nI b = nI (a ||| b) := by
  apply Int32.toBitVec_inj.1
  show BitVec.ofNat 32 a ||| BitVec.ofNat 32 b = BitVec.ofNat 32 (a ||| b)
  apply BitVec.eq_of_getLsbD_eq
  intro i hi
  simp [hi]
end
section
/-! Integer.bitCount counts bits -/
theorem bcnt_cong {p q : Nat → Bool} : ∀ {n : Nat}, (∀ i, i < n → p i = q i) → bcnt p n = bcnt q n
  | 0, _ => rfl
  | n + 1, h => by rw [bcnt, bcnt, bcnt_cong (fun i hi => h i (by omega)), h n (by omega)]
theorem bcnt_split (p : Nat → Bool) (m : Nat) : ∀ n, bcnt p (m + n) = bcnt p m + bcnt (fun i => p (m + i)) n
  | 0 => rfl
  | n + 1 => by
    show bcnt p (m + n) + _ = bcnt p m + (bcnt (fun i => p (m + i)) n + _)
    rw [bcnt_split p m n, Nat.add_assoc]
    rfl
def ush (x : Int32) (k : Nat) : Int32 := (x.toUInt32 >>> ((nI k).toUInt32 &&& Int32.toUInt32 31)).toInt32
def swA (x : Int32) : Int32 := x - (ush x 1 &&& nI 1431655765)
def swB (a : Int32) : Int32 := (a &&& nI 858993459) + (ush a 2 &&& nI 858993459)
def swC (b : Int32) : Int32 := (b + ush b 4) &&& nI 252645135
def swX (c : Int32) : Int32 := c + ush c 8
def swE (d : Int32) : Int32 := d + ush d 16
theorem usN {n : Nat} (hn : n < 2 ^ 32) (k : Nat) (hk : k < 32) : ush (nI n) k = nI (n / 2 ^ k) := pk_ushrN hn (nI k) k (s_u k hk)
theorem mkS {w b s M m : Nat} (hb : b < 256) (hs : s ≤ 8) (hm : m < 2 ^ (8 - s)) : ((256 * w + b) / 2 ^ s) &&& (256 * M + m) = 256 * ((w / 2 ^ s) &&& M) + ((b / 2 ^ s) &&& m) := by
  have hm8 : m < 2 ^ 8 := Nat.lt_of_lt_of_le hm (Nat.pow_le_pow_right (by decide) (by omega))
  have hbm : ((b / 2 ^ s) &&& m) < 2 ^ 8 := Nat.lt_of_le_of_lt Nat.and_le_right hm8
  apply Nat.eq_of_testBit_eq
  intro j
  rw [show (256 : Nat) = 2 ^ 8 by decide, Nat.testBit_and, Nat.testBit_div_two_pow, Nat.testBit_two_pow_mul_add _ hb, Nat.testBit_two_pow_mul_add _ hm8, Nat.testBit_two_pow_mul_add _ hbm]
  by_cases hj : j < 8
  · rw [if_pos hj, if_pos hj, Nat.testBit_and, Nat.testBit_div_two_pow]
    by_cases h2 : s + j < 8
    · rw [if_pos (by omega), Nat.add_comm j s]
    · have h3 : m.testBit j = false := Nat.testBit_lt_two_pow (Nat.lt_of_lt_of_le hm (Nat.pow_le_pow_right (by decide) (by omega)))
      rw [h3, Bool.and_false, Bool.and_false]
  · rw [if_neg hj, if_neg hj, if_neg (by omega), Nat.testBit_and, Nat.testBit_div_two_pow, show j + s - 8 = j - 8 + s by omega]
def fA (M X : Nat) : Nat := X - (X / 2 &&& M)
def fB (M a : Nat) : Nat := (a &&& M) + (a / 4 &&& M)
def fC (M a : Nat) : Nat := (a + a / 16) &&& M
theorem fA_s {w b M : Nat} (hb : b < 256) : fA (256 * M + 85) (256 * w + b) = 256 * fA M w + fA 85 b := by
  have h := mkS (w := w) (M := M) (m := 85) (s := 1) hb (by omega) (by decide)
  simp only [Nat.pow_one] at h
  have h1 : (w / 2 &&& M) ≤ w / 2 := Nat.and_le_left
  have h2 : (b / 2 &&& 85) ≤ b / 2 := Nat.and_le_left
  simp only [fA, h]
  omega
theorem fB_s {w b M : Nat} (hb : b < 256) : fB (256 * M + 51) (256 * w + b) = 256 * fB M w + fB 51 b := by
  have h := mkS (w := w) (M := M) (m := 51) (s := 2) hb (by omega) (by decide)
  have h0 := mkS (w := w) (M := M) (m := 51) (s := 0) hb (by omega) (by decide)
  rw [show (2 : Nat) ^ 2 = 4 by decide] at h
  rw [show (2 : Nat) ^ 0 = 1 by decide] at h0
  simp only [Nat.div_one] at h0
  simp only [fB, h, h0]
  omega
theorem fC_s {w b M : Nat} (hb : b ≤ 68) (hw : w % 16 ≤ 4) : fC (256 * M + 15) (256 * w + b) = 256 * fC M w + fC 15 b := by
  have e : 256 * w + b + (256 * w + b) / 16 = 256 * (w + w / 16) + (b + b / 16 + 16 * (w % 16)) := by omega
  have h0 := mkS (w := w + w / 16) (b := b + b / 16 + 16 * (w % 16)) (M := M) (m := 15) (s := 0) (by omega) (by omega) (by decide)
  rw [show (2 : Nat) ^ 0 = 1 by decide] at h0
  simp only [Nat.div_one] at h0
  simp only [fC, e, h0]
  have m1 : ∀ x : Nat, x &&& 15 = x % 16 := fun x => Nat.and_two_pow_sub_one_eq_mod x 4
  rw [m1, m1]
  omega
def pB (v : Nat) : Nat := bcnt (fun i => v.testBit i) 8
theorem byte_all : ∀ v, v < 256 → fA 85 v < 256 ∧ fB 51 (fA 85 v) ≤ 68 ∧ fB 51 (fA 85 v) % 16 ≤ 4 ∧ fC 15 (fB 51 (fA 85 v)) = pB v ∧ pB v ≤ 8 := by decide +kernel
theorem four (X : Nat) (h : X < 2 ^ 32) : ∃ v0 v1 v2 v3 : Nat, v0 < 256 ∧ v1 < 256 ∧ v2 < 256 ∧ v3 < 256 ∧ X = 256 * (256 * (256 * v3 + v2) + v1) + v0 :=
  ⟨X % 256, X / 256 % 256, X / 65536 % 256, X / 16777216, by omega, by omega, by omega, by omega, by omega⟩
theorem bt_nI (X : Nat) {i : Nat} (hi : i < 32) : bt (nI X) i = X.testBit i := by
  show (BitVec.ofNat 32 X).getLsbD i = X.testBit i
  rw [BitVec.getLsbD_ofNat, decide_eq_true hi, Bool.true_and]
theorem tb_byte {w b : Nat} (hb : b < 256) (i : Nat) : (256 * w + b).testBit i = if i < 8 then b.testBit i else w.testBit (i - 8) := by
  rw [show (256 : Nat) = 2 ^ 8 by decide, Nat.testBit_two_pow_mul_add _ hb]
theorem bc_byte {w b : Nat} (hb : b < 256) (n : Nat) : bcnt (fun i => (256 * w + b).testBit i) (8 + n) = pB b + bcnt (fun i => w.testBit i) n := by
  rw [bcnt_split]
  congr 1
  · exact bcnt_cong (fun i hi => by rw [tb_byte hb, if_pos hi])
  · exact bcnt_cong (fun i hi => by rw [tb_byte hb, if_neg (by omega)]; congr 1; omega)
theorem popc_four {v0 v1 v2 v3 : Nat} (h0 : v0 < 256) (h1 : v1 < 256) (h2 : v2 < 256) (h3 : v3 < 256) : popc (nI (256 * (256 * (256 * v3 + v2) + v1) + v0)) = pB v0 + (pB v1 + (pB v2 + pB v3)) := by
  have e : popc (nI (256 * (256 * (256 * v3 + v2) + v1) + v0)) = bcnt (fun i => (256 * (256 * (256 * v3 + v2) + v1) + v0).testBit i) 32 := bcnt_cong (fun i hi => bt_nI _ hi)
  rw [e, show (32 : Nat) = 8 + 24 by decide, bc_byte h0, show (24 : Nat) = 8 + 16 by decide, bc_byte h1, show (16 : Nat) = 8 + 8 by decide, bc_byte h2]
  rfl
theorem sw_fin {x0 x1 x2 x3 : Nat} (h0 : x0 ≤ 8) (h1 : x1 ≤ 8) (h2 : x2 ≤ 8) (h3 : x3 ≤ 8) : (256 * (256 * (256 * x3 + x2) + x1) + x0 + (256 * (256 * (256 * x3 + x2) + x1) + x0) / 256 + (256 * (256 * (256 * x3 + x2) + x1) + x0 + (256 * (256 * (256 * x3 + x2) + x1) + x0) / 256) / 65536) % 64 = x0 + (x1 + (x2 + x3)) := by
  have e1 : (256 * (256 * (256 * x3 + x2) + x1) + x0) / 256 = 256 * (256 * x3 + x2) + x1 := by omega
  rw [e1]
  have e2 : (256 * (256 * (256 * x3 + x2) + x1) + x0 + (256 * (256 * x3 + x2) + x1)) / 65536 = 256 * x3 + (x2 + x3) := by omega
  rw [e2]
  omega
theorem sw_eq (x : Int32) : swE (swX (swC (swB (swA x)))) &&& nI 63 = nI (popc x) := by
  obtain ⟨X, hX, rfl⟩ := wb_of32 x
  obtain ⟨v0, v1, v2, v3, h0, h1, h2, h3, rfl⟩ := four X hX
  obtain ⟨a0, b0, c0, d0, p0⟩ := byte_all v0 h0
  obtain ⟨a1, b1, c1, d1, p1⟩ := byte_all v1 h1
  obtain ⟨a2, b2, c2, d2, p2⟩ := byte_all v2 h2
  obtain ⟨a3, b3, c3, d3, p3⟩ := byte_all v3 h3
  have eA : swA (nI (256 * (256 * (256 * v3 + v2) + v1) + v0)) = nI (256 * (256 * (256 * fA 85 v3 + fA 85 v2) + fA 85 v1) + fA 85 v0) := by
    rw [swA, usN hX 1 (by decide), Nat.pow_one, fa_and, pk_sub (Nat.le_trans Nat.and_le_left (Nat.div_le_self _ _))]
    show nI (fA 1431655765 _) = _
    rw [show (1431655765 : Nat) = 256 * (256 * (256 * 85 + 85) + 85) + 85 by decide, fA_s h0, fA_s h1, fA_s h2]
  have eB : swB (nI (256 * (256 * (256 * fA 85 v3 + fA 85 v2) + fA 85 v1) + fA 85 v0)) = nI (256 * (256 * (256 * fB 51 (fA 85 v3) + fB 51 (fA 85 v2)) + fB 51 (fA 85 v1)) + fB 51 (fA 85 v0)) := by
    rw [swB, usN (by omega) 2 (by decide), fa_and, fa_and, nI_add]
    show nI (fB 858993459 _) = _
    rw [show (858993459 : Nat) = 256 * (256 * (256 * 51 + 51) + 51) + 51 by decide, fB_s a0, fB_s a1, fB_s a2]
  have eC : swC (nI (256 * (256 * (256 * fB 51 (fA 85 v3) + fB 51 (fA 85 v2)) + fB 51 (fA 85 v1)) + fB 51 (fA 85 v0))) = nI (256 * (256 * (256 * pB v3 + pB v2) + pB v1) + pB v0) := by
    rw [swC, usN (by omega) 4 (by decide), nI_add, fa_and]
    show nI (fC 252645135 _) = _
    rw [show (252645135 : Nat) = 256 * (256 * (256 * 15 + 15) + 15) + 15 by decide, fC_s b0 (by omega), fC_s b1 (by omega), fC_s b2 c3, d0, d1, d2, d3]
  rw [eA, eB, eC, swX, usN (by omega) 8 (by decide), nI_add, swE, usN (by omega) 16 (by decide), nI_add, fa_and, popc_four h0 h1 h2 h3]
  have m1 : ∀ x : Nat, x &&& 63 = x % 64 := fun x => Nat.and_two_pow_sub_one_eq_mod x 6
  rw [m1, show (2 : Nat) ^ 8 = 256 by decide, show (2 : Nat) ^ 16 = 65536 by decide]
  exact congrArg nI (sw_fin p0 p1 p2 p3)
end
section
theorem ct265_J6_bitCount_0f7a4 : Cond.constant RJ6 265 (nI 1431655765) ∈ wsJ6_bitCount_0f7a4 := by decide +kernel
theorem ct266_J6_bitCount_0f7a4 : Cond.constant RJ6 266 (nI 858993459) ∈ wsJ6_bitCount_0f7a4 := by decide +kernel
theorem ct267_J6_bitCount_0f7a4 : Cond.constant RJ6 267 (nI 252645135) ∈ wsJ6_bitCount_0f7a4 := by decide +kernel
set_option maxHeartbeats 400000 in
set_option maxRecDepth 100000 in
theorem c_J6_bitCount_0f7a4 (l : Launch) (E : EE) (sz : Nat) (x : Int32) : Ci l yJ6_bitCount_0f7a4 wsJ6_bitCount_0f7a4 0 0 E [.int x] [] sz (nI (popc x)) [] := by
  refine C_of (QQ := QI E (nI (popc x)) []) (cc := cJ6_bitCount_0f7a4) (maxL := 1) (ret := (some .int)) (by decide +kernel) rfl (Nat.le_of_ble_eq_true rfl) ?_
  intro p e s m args below meth c A R Q ls hx hb hr hts hown hml hlocks hA hK hN hP hD hS hl hR hQ
  have hown : s.vm.findClass RJ6 = some m.cls := hown
  have hl : lv_has ls 1 [(0, .int x)] := hl
  refine lv_iload_n hx hb dJ6_bitCount_0f7a4_0 rfl (lv_at hl 0 rfl) ?_
  refine lv_iload_n hx hb dJ6_bitCount_0f7a4_1 rfl (lv_at hl 0 rfl) ?_
  refine lv_iconst (v := nI 1) hx hb dJ6_bitCount_0f7a4_2 (by decide) ?_
  refine lv_iushr hx hb dJ6_bitCount_0f7a4_3 rfl ?_
  refine lv_ldcw (v := nI 1431655765) hx hb hown (hts _ ct265_J6_bitCount_0f7a4) dJ6_bitCount_0f7a4_4 ?_
  refine lv_iand hx hb dJ6_bitCount_0f7a4_7 ?_
  refine lv_isub hx hb dJ6_bitCount_0f7a4_8 ?_
  refine rk_ev (show _ = swA x from rfl) ?_
  refine lv_istore_n (lv' := [(0, .int (swA x))]) hx hb dJ6_bitCount_0f7a4_9 rfl hl (by decide) rfl (fun ls hl => ?_)
  refine lv_iload_n hx hb dJ6_bitCount_0f7a4_10 rfl (lv_at hl 0 rfl) ?_
  refine lv_ldcw (v := nI 858993459) hx hb hown (hts _ ct266_J6_bitCount_0f7a4) dJ6_bitCount_0f7a4_11 ?_
  refine lv_iand hx hb dJ6_bitCount_0f7a4_14 ?_
  refine lv_iload_n hx hb dJ6_bitCount_0f7a4_15 rfl (lv_at hl 0 rfl) ?_
  refine lv_iconst (v := nI 2) hx hb dJ6_bitCount_0f7a4_16 (by decide) ?_
  refine lv_iushr hx hb dJ6_bitCount_0f7a4_17 rfl ?_
  refine lv_ldcw (v := nI 858993459) hx hb hown (hts _ ct266_J6_bitCount_0f7a4) dJ6_bitCount_0f7a4_18 ?_
  refine lv_iand hx hb dJ6_bitCount_0f7a4_21 ?_
  refine lv_iadd hx hb dJ6_bitCount_0f7a4_22 ?_
  refine rk_ev (show _ = swB (swA x) from rfl) ?_
  refine lv_istore_n (lv' := [(0, .int (swB (swA x)))]) hx hb dJ6_bitCount_0f7a4_23 rfl hl (by decide) rfl (fun ls hl => ?_)
  refine lv_iload_n hx hb dJ6_bitCount_0f7a4_24 rfl (lv_at hl 0 rfl) ?_
  refine lv_iload_n hx hb dJ6_bitCount_0f7a4_25 rfl (lv_at hl 0 rfl) ?_
  refine lv_iconst (v := nI 4) hx hb dJ6_bitCount_0f7a4_26 (by decide) ?_
  refine lv_iushr hx hb dJ6_bitCount_0f7a4_27 rfl ?_
  refine lv_iadd hx hb dJ6_bitCount_0f7a4_28 ?_
  refine lv_ldcw (v := nI 252645135) hx hb hown (hts _ ct267_J6_bitCount_0f7a4) dJ6_bitCount_0f7a4_29 ?_
  refine lv_iand hx hb dJ6_bitCount_0f7a4_32 ?_
  refine rk_ev (show _ = swC (swB (swA x)) from rfl) ?_
  refine lv_istore_n (lv' := [(0, .int (swC (swB (swA x))))]) hx hb dJ6_bitCount_0f7a4_33 rfl hl (by decide) rfl (fun ls hl => ?_)
  refine lv_iload_n hx hb dJ6_bitCount_0f7a4_34 rfl (lv_at hl 0 rfl) ?_
  refine lv_iload_n hx hb dJ6_bitCount_0f7a4_35 rfl (lv_at hl 0 rfl) ?_
  refine lv_bipush (v := nI 8) hx hb dJ6_bitCount_0f7a4_36 (by decide) ?_
  refine lv_iushr hx hb dJ6_bitCount_0f7a4_38 rfl ?_
  refine lv_iadd hx hb dJ6_bitCount_0f7a4_39 ?_
  refine rk_ev (show _ = swX (swC (swB (swA x))) from rfl) ?_
  refine lv_istore_n (lv' := [(0, .int (swX (swC (swB (swA x)))))]) hx hb dJ6_bitCount_0f7a4_40 rfl hl (by decide) rfl (fun ls hl => ?_)
  refine lv_iload_n hx hb dJ6_bitCount_0f7a4_41 rfl (lv_at hl 0 rfl) ?_
  refine lv_iload_n hx hb dJ6_bitCount_0f7a4_42 rfl (lv_at hl 0 rfl) ?_
  refine lv_bipush (v := nI 16) hx hb dJ6_bitCount_0f7a4_43 (by decide) ?_
  refine lv_iushr hx hb dJ6_bitCount_0f7a4_45 rfl ?_
  refine lv_iadd hx hb dJ6_bitCount_0f7a4_46 ?_
  refine rk_ev (show _ = swE (swX (swC (swB (swA x)))) from rfl) ?_
  refine lv_istore_n (lv' := [(0, .int (swE (swX (swC (swB (swA x))))))]) hx hb dJ6_bitCount_0f7a4_47 rfl hl (by decide) rfl (fun ls hl => ?_)
  refine lv_iload_n hx hb dJ6_bitCount_0f7a4_48 rfl (lv_at hl 0 rfl) ?_
  refine lv_bipush (v := nI 63) hx hb dJ6_bitCount_0f7a4_49 (by decide) ?_
  refine lv_iand hx hb dJ6_bitCount_0f7a4_51 ?_
  exact ret_i hQ hx hb hr hlocks (hP.sub [] rfl) (hD.sub [] (by decide) rfl) hS dJ6_bitCount_0f7a4_52 (by exact sw_eq x)
end
section
theorem iw_X2_findPieces_2 : ∀ w ∈ u_ws RX2 TX2 9, w ∈ wsX2_findPieces := by decide +kernel
theorem fl_X2_findPieces_43 : Cond.fieldLink RX2 43 (TX2 6).1 (TX2 6).2.1 (TX2 6).2.2.1 ∈ wsX2_findPieces := by decide +kernel
theorem fl_X2_findPieces_27 : Cond.fieldLink RX2 27 (TX2 0).1 (TX2 0).2.1 (TX2 0).2.2.1 ∈ wsX2_findPieces := by decide +kernel
theorem iw_X2_findPieces_3 : ∀ w ∈ u_ws RX3 TX3 6, w ∈ wsX2_findPieces := by decide +kernel
theorem fl_X2_findPieces_47 : Cond.fieldLink RX2 47 (TX3 0).1 (TX3 0).2.1 (TX3 0).2.2.1 ∈ wsX2_findPieces := by decide +kernel
theorem inX4_X2_findPieces : Cond.initialized RX4 ∈ wsX2_findPieces := by decide +kernel
theorem stX4_contains_X2_findPieces : Cond.static yX4_contains ∈ wsX2_findPieces := by decide +kernel
theorem fl_X2_findPieces_9 : Cond.fieldLink RX2 9 (TX2 1).1 (TX2 1).2.1 (TX2 1).2.2.1 ∈ wsX2_findPieces := by decide +kernel
theorem stX4_setForMembers_X2_findPieces : Cond.static yX4_setForMembers ∈ wsX2_findPieces := by decide +kernel
set_option maxHeartbeats 400000 in
set_option maxRecDepth 100000 in
theorem c_X2_findPieces (l : Launch) (E : EE) (sz : Nat) (s0 t0 sP sD sS sL sF q1 q2 q3 q4 : Nat) (k n : Nat) (pc ds pr : Int32) (po en : Nat → Int32) (gk : k ≤ 30) (gn : n ≤ 16) : Cv l yX2_findPieces wsX2_findPieces 2 47 E [.ref s0] [(s0, .inr (2, [.ref t0, .ref sP, .ref sD, .ref sS, .ref sL, .ref sF, .int pc, .int ds, .int pr])), (t0, .inr (3, [.int (nI n), .int (nI k), .ref q1, .ref q2, .ref q3, .ref q4])), (sP, aI E 16 po), (q4, aI E 30 en)] sz [(s0, .inr (2, [.ref t0, .ref sP, .ref sD, .ref sS, .ref sL, .ref sF, .int (nI ((swP (rsC en (allR (nI k)) k) po n).2.1)), .int ds, .int pr])), (t0, .inr (3, [.int (nI n), .int (nI k), .ref q1, .ref q2, .ref q3, .ref q4])), (sP, aI E 16 ((swP (rsC en (allR (nI k)) k) po n).2.2)), (q4, aI E 30 en)] := by
  refine C_of (QQ := QV E [(s0, .inr (2, [.ref t0, .ref sP, .ref sD, .ref sS, .ref sL, .ref sF, .int (nI ((swP (rsC en (allR (nI k)) k) po n).2.1)), .int ds, .int pr])), (t0, .inr (3, [.int (nI n), .int (nI k), .ref q1, .ref q2, .ref q3, .ref q4])), (sP, aI E 16 ((swP (rsC en (allR (nI k)) k) po n).2.2)), (q4, aI E 30 en)]) (cc := cX2_findPieces) (maxL := 4) (ret := none) (by decide +kernel) rfl (Nat.le_of_ble_eq_true rfl) ?_
  intro p e s m args below meth c A R Q ls hx hb hr hts hown hml hlocks hA hK hN hP hD hS hl hR hQ
  have hown : s.vm.findClass RX2 = some m.cls := hown
  have hl : lv_has ls 4 [(0, .ref s0)] := hl
  refine lv_iconst (v := nI 0) hx hb dX2_findPieces_0 (by decide) ?_
  refine lv_istore_n (lv' := [(1, .int (nI 0)), (0, .ref s0)]) hx hb dX2_findPieces_1 rfl hl (by decide) rfl (fun ls hl => ?_)
  refine lv_aload_n hx hb dX2_findPieces_2 rfl (lv_at hl 1 rfl) ?_
  refine lv_iconst (v := nI 0) hx hb dX2_findPieces_3 (by decide) ?_
  refine rk_put (ci := 2) (C := RX2) (T := TX2) (N := 9) hx hb hts iw_X2_findPieces_2 tyX2 tyX2_ok nmX2 hown hK hP hD hS 0 rfl rfl 6 (by decide) fl_X2_findPieces_43 rfl rfl (tyX2_ok 6 (by decide)) rfl rfl (Nat.le_of_ble_eq_true rfl) (ws' := [(s0, .inr (2, [.ref t0, .ref sP, .ref sD, .ref sS, .ref sL, .ref sF, .int (nI 0), .int ds, .int pr])), (t0, .inr (3, [.int (nI n), .int (nI k), .ref q1, .ref q2, .ref q3, .ref q4])), (sP, aI E 16 po), (q4, aI E 30 en)]) rfl dX2_findPieces_4 (fun H locs hP hD hS => ?_)
  refine lv_iconst (v := nI 0) hx hb dX2_findPieces_7 (by decide) ?_
  refine lv_istore_n (lv' := [(2, .int (nI 0)), (1, .int (nI 0)), (0, .ref s0)]) hx hb dX2_findPieces_8 rfl hl (by decide) rfl (fun ls hl => ?_)
  have L9 : ∀ (fu : Nat) (sn : Int32) (q p1 : Nat) (f : Nat → Int32), (e1 : sn = (swP (rsC en (allR (nI k)) k) po q).1) → (e2 : p1 = (swP (rsC en (allR (nI k)) k) po q).2.1) → (e3 : f = (swP (rsC en (allR (nI k)) k) po q).2.2) → (gq : q ≤ n) → n - q < fu → ∀ (H : Heap) (locs : List Loc), va_P E.1 vwCl [(s0, .inr (2, [.ref t0, .ref sP, .ref sD, .ref sS, .ref sL, .ref sF, .int (nI p1), .int ds, .int pr])), (t0, .inr (3, [.int (nI n), .int (nI k), .ref q1, .ref q2, .ref q3, .ref q4])), (sP, aI E 16 f), (q4, aI E 30 en)] H → va_D A [(s0, .inr (2, [.ref t0, .ref sP, .ref sD, .ref sS, .ref sL, .ref sF, .int (nI p1), .int ds, .int pr])), (t0, .inr (3, [.int (nI n), .int (nI k), .ref q1, .ref q2, .ref q3, .ref q4])), (sP, aI E 16 f), (q4, aI E 30 en)] → va_S A s.heap H locs → ∀ (ls : Array Slot), lv_has ls 4 [(2, .int (nI q)), (1, .int sn), (0, .ref s0)] → W p l e R s m args below meth c H locs 0 0 Q (F0 m 9 ls []) := by
    intro fu
    induction fu with
    | zero => intro sn q p1 f e1 e2 e3 gq hfu; exact absurd hfu (Nat.not_lt_zero _)
    | succ fu ih9 =>
      intro sn q p1 f e1 e2 e3 gq hfu H locs hP hD hS ls hl
      refine lv_iload_n hx hb dX2_findPieces_9 rfl (lv_at hl 0 rfl) ?_
      refine lv_aload_n hx hb dX2_findPieces_10 rfl (lv_at hl 2 rfl) ?_
      refine rk_get (ci := 2) (C := RX2) (T := TX2) (N := 9) hx hb hts iw_X2_findPieces_2 hown hK hP 0 rfl rfl 0 (by decide) fl_X2_findPieces_27 rfl (v := .ref t0) rfl dX2_findPieces_11 ?_
      refine rk_get (ci := 3) (C := RX3) (T := TX3) (N := 6) hx hb hts iw_X2_findPieces_3 hown hK hP 1 rfl rfl 0 (by decide) fl_X2_findPieces_47 rfl (v := .int (nI n)) rfl dX2_findPieces_14 ?_
      refine rk_geN (tgt := 73) hx hb (by omega) (by omega) dX2_findPieces_17 (by decide) (fun zc17 => ?_) (fun zc17 => ?_)
      · obtain rfl : n = q := by omega
        subst e1; subst e2; subst e3
        exact ret_v hQ hx hb hr hlocks (hP.sub [0, 1, 2, 3] rfl) (hD.sub [0, 1, 2, 3] (by decide) rfl) hS dX2_findPieces_73
      · refine lv_iload_n hx hb dX2_findPieces_20 rfl (lv_at hl 1 rfl) ?_
        refine lv_iload_n hx hb dX2_findPieces_21 rfl (lv_at hl 0 rfl) ?_
        refine kSN_i (E := E) (As := [.int sn, .int (nI q)]) (rest := []) (wr := [(s0, .inr (2, [.ref t0, .ref sP, .ref sD, .ref sS, .ref sL, .ref sF, .int (nI p1), .int ds, .int pr])), (t0, .inr (3, [.int (nI n), .int (nI k), .ref q1, .ref q2, .ref q3, .ref q4])), (sP, aI E 16 f), (q4, aI E 30 en)]) ⟨hx, hb, hml, hown, hts⟩ (c_X4_contains (l := l) (E := E) (sz := _) (x := sn) (y := nI q) ) ⟨va_cnB 2 hts gX2_findPieces_X4_contains_n52 rfl rfl rfl hN.2.1 (hts _ inX4_X2_findPieces) (by decide +kernel) ⟨by rw [hR]; decide, by rw [hR]; decide⟩, hts _ stX4_contains_X2_findPieces, trivial⟩ hK hN hP hD hS hA [] [0, 1, 2, 3] rfl (by decide) rfl (by decide) (by decide) rfl hl.1 rfl (Nat.le_of_ble_eq_true rfl) dX2_findPieces_22 ⟨Nat.zero_le _, Nat.zero_le _⟩ (fun H locs hP hD hS => ?_)
        have hP : va_P E.1 vwCl [(s0, .inr (2, [.ref t0, .ref sP, .ref sD, .ref sS, .ref sL, .ref sF, .int (nI p1), .int ds, .int pr])), (t0, .inr (3, [.int (nI n), .int (nI k), .ref q1, .ref q2, .ref q3, .ref q4])), (sP, aI E 16 f), (q4, aI E 30 en)] H := hP
        have hD : va_D A [(s0, .inr (2, [.ref t0, .ref sP, .ref sD, .ref sS, .ref sL, .ref sF, .int (nI p1), .int ds, .int pr])), (t0, .inr (3, [.int (nI n), .int (nI k), .ref q1, .ref q2, .ref q3, .ref q4])), (sP, aI E 16 f), (q4, aI E 30 en)] := hD
        refine rk_if_neB (tgt := 67) hx hb dX2_findPieces_25 (by decide) (fun zc25 => ?_) (fun zc25 => ?_)
        · refine lv_iinc (v := nI (q + 1)) (lv' := [(2, .int (nI (q + 1))), (1, .int sn), (0, .ref s0)]) hx hb dX2_findPieces_67 hl (k := 0) rfl (by rw [show Int32.ofInt 1 = nI 1 by decide]; exact nI_add _ _) (by decide) rfl (fun ls hl => ?_)
          refine lv_goto (tgt := 9) hx hb dX2_findPieces_70 (by decide) ?_
          exact ih9 sn (q + 1) p1 f (by subst e1; subst e2; subst e3; rw [swP_t zc25]) (by subst e1; subst e2; subst e3; rw [swP_t zc25]) (by subst e1; subst e2; subst e3; rw [swP_t zc25]) (by first | assumption | omega | rfl) (by omega) _ _ (hP.sub [0, 1, 2, 3] rfl) (hD.sub [0, 1, 2, 3] (by decide) rfl) hS ls (lv_sub hl [0, 1, 2] rfl)
        · refine lv_aload_n hx hb dX2_findPieces_28 rfl (lv_at hl 2 rfl) ?_
          refine rk_get (ci := 2) (C := RX2) (T := TX2) (N := 9) hx hb hts iw_X2_findPieces_2 hown hK hP 0 rfl rfl 0 (by decide) fl_X2_findPieces_27 rfl (v := .ref t0) rfl dX2_findPieces_29 ?_
          refine lv_iload_n hx hb dX2_findPieces_32 rfl (lv_at hl 0 rfl) ?_
          refine lv_aload_n hx hb dX2_findPieces_33 rfl (lv_at hl 2 rfl) ?_
          refine rk_get (ci := 2) (C := RX2) (T := TX2) (N := 9) hx hb hts iw_X2_findPieces_2 hown hK hP 0 rfl rfl 0 (by decide) fl_X2_findPieces_27 rfl (v := .ref t0) rfl dX2_findPieces_34 ?_
          refine kV_i (E := E) (As := []) (rest := [.int (nI q), .ref t0]) (wr := [(s0, .inr (2, [.ref t0, .ref sP, .ref sD, .ref sS, .ref sL, .ref sF, .int (nI p1), .int ds, .int pr])), (sP, aI E 16 f), (q4, aI E 30 en)]) ⟨hx, hb, hml, hown, hts⟩ (c_X3_allRoads (l := l) (E := E) (sz := _) (h0 := t0) (sc := nI n) (f1 := nI k) (q1 := q1) (q2 := q2) (q3 := q3) (q4 := q4) ) (cwV 0 hts gX2_findPieces_X3_allRoads rfl rfl rfl (by decide +kernel) ⟨by rw [hR]; decide, by rw [hR]; decide⟩) hK hN hP hD hS hA [1] [0, 2, 3] rfl (by decide) rfl (by decide) (by decide) 1 3 rfl rfl rfl hl.1 rfl (Nat.le_of_ble_eq_true rfl) dX2_findPieces_37 ⟨Nat.zero_le _, Nat.zero_le _⟩ (fun H locs hP hD hS => ?_)
          have hP : va_P E.1 vwCl [(s0, .inr (2, [.ref t0, .ref sP, .ref sD, .ref sS, .ref sL, .ref sF, .int (nI p1), .int ds, .int pr])), (sP, aI E 16 f), (q4, aI E 30 en), (t0, .inr (3, [.int (nI n), .int (nI k), .ref q1, .ref q2, .ref q3, .ref q4]))] H := hP
          have hD : va_D A [(s0, .inr (2, [.ref t0, .ref sP, .ref sD, .ref sS, .ref sL, .ref sF, .int (nI p1), .int ds, .int pr])), (sP, aI E 16 f), (q4, aI E 30 en), (t0, .inr (3, [.int (nI n), .int (nI k), .ref q1, .ref q2, .ref q3, .ref q4]))] := hD
          refine kV_i (E := E) (As := [.int (nI q), .int (allR (nI k))]) (rest := []) (wr := [(s0, .inr (2, [.ref t0, .ref sP, .ref sD, .ref sS, .ref sL, .ref sF, .int (nI p1), .int ds, .int pr])), (sP, aI E 16 f)]) ⟨hx, hb, hml, hown, hts⟩ (c_X3_reach (l := l) (E := E) (sz := _) (h0 := t0) (q1 := q1) (q2 := q2) (q3 := q3) (q4 := q4) (sc := nI n) (k := k) (en := en) (q := q) (w := allR (nI k)) (hk := by first | assumption | omega) (hq := by first | assumption | omega)) (cwV 2 hts gX2_findPieces_X3_reach rfl rfl rfl (by decide +kernel) ⟨by rw [hR]; decide, by rw [hR]; decide⟩) hK hN hP hD hS hA [3, 2] [0, 1] rfl (by decide) rfl (by decide) (by decide) 3 3 rfl rfl rfl hl.1 rfl (Nat.le_of_ble_eq_true rfl) dX2_findPieces_40 ⟨Nat.zero_le _, Nat.zero_le _⟩ (fun H locs hP hD hS => ?_)
          have hP : va_P E.1 vwCl [(s0, .inr (2, [.ref t0, .ref sP, .ref sD, .ref sS, .ref sL, .ref sF, .int (nI p1), .int ds, .int pr])), (sP, aI E 16 f), (t0, .inr (3, [.int (nI n), .int (nI k), .ref q1, .ref q2, .ref q3, .ref q4])), (q4, aI E 30 en)] H := hP
          have hD : va_D A [(s0, .inr (2, [.ref t0, .ref sP, .ref sD, .ref sS, .ref sL, .ref sF, .int (nI p1), .int ds, .int pr])), (sP, aI E 16 f), (t0, .inr (3, [.int (nI n), .int (nI k), .ref q1, .ref q2, .ref q3, .ref q4])), (q4, aI E 30 en)] := hD
          refine lv_istore_n (lv' := [(3, .int (rsC en (allR (nI k)) k q)), (2, .int (nI q)), (1, .int sn), (0, .ref s0)]) hx hb dX2_findPieces_43 rfl hl (by decide) rfl (fun ls hl => ?_)
          refine lv_aload_n hx hb dX2_findPieces_44 rfl (lv_at hl 3 rfl) ?_
          refine rk_get (ci := 2) (C := RX2) (T := TX2) (N := 9) hx hb hts iw_X2_findPieces_2 hown hK hP 0 rfl rfl 1 (by decide) fl_X2_findPieces_9 rfl (v := .ref sP) rfl dX2_findPieces_45 ?_
          refine lv_iload_n hx hb dX2_findPieces_48 rfl (lv_at hl 0 rfl) ?_
          refine lv_iload_n hx hb dX2_findPieces_49 rfl (lv_at hl 0 rfl) ?_
          refine kSN_v (E := E) (As := [.ref sP, .int (rsC en (allR (nI k)) k q), .int (rsC en (allR (nI k)) k q)]) (rest := []) (wr := [(s0, .inr (2, [.ref t0, .ref sP, .ref sD, .ref sS, .ref sL, .ref sF, .int (nI p1), .int ds, .int pr])), (t0, .inr (3, [.int (nI n), .int (nI k), .ref q1, .ref q2, .ref q3, .ref q4])), (q4, aI E 30 en)]) ⟨hx, hb, hml, hown, hts⟩ (c_X4_setForMembers (l := l) (E := E) (sz := _) (q1 := sP) (f := f) (x := rsC en (allR (nI k)) k q) (v := rsC en (allR (nI k)) k q) ) ⟨va_cnB 3 hts gX2_findPieces_X4_setForMembers_n64 rfl rfl rfl hN.2.2.1 (hts _ inX4_X2_findPieces) (by decide +kernel) ⟨by rw [hR]; decide, by rw [hR]; decide⟩, hts _ stX4_setForMembers_X2_findPieces, trivial⟩ hK hN hP hD hS hA [1] [0, 2, 3] rfl (by decide) rfl (by decide) (by decide) rfl hl.1 rfl (Nat.le_of_ble_eq_true rfl) dX2_findPieces_50 ⟨Nat.zero_le _, Nat.zero_le _⟩ (fun H locs hP hD hS => ?_)
          have hP : va_P E.1 vwCl [(s0, .inr (2, [.ref t0, .ref sP, .ref sD, .ref sS, .ref sL, .ref sF, .int (nI p1), .int ds, .int pr])), (t0, .inr (3, [.int (nI n), .int (nI k), .ref q1, .ref q2, .ref q3, .ref q4])), (q4, aI E 30 en), (sP, aI E 16 (sfm f (rsC en (allR (nI k)) k q) (rsC en (allR (nI k)) k q) 16))] H := hP
          have hD : va_D A [(s0, .inr (2, [.ref t0, .ref sP, .ref sD, .ref sS, .ref sL, .ref sF, .int (nI p1), .int ds, .int pr])), (t0, .inr (3, [.int (nI n), .int (nI k), .ref q1, .ref q2, .ref q3, .ref q4])), (q4, aI E 30 en), (sP, aI E 16 (sfm f (rsC en (allR (nI k)) k q) (rsC en (allR (nI k)) k q) 16))] := hD
          refine lv_iload_n hx hb dX2_findPieces_53 rfl (lv_at hl 2 rfl) ?_
          refine lv_iload_n hx hb dX2_findPieces_54 rfl (lv_at hl 0 rfl) ?_
          refine lv_ior hx hb dX2_findPieces_55 ?_
          refine lv_istore_n (lv' := [(1, .int (sn ||| (rsC en (allR (nI k)) k q))), (3, .int (rsC en (allR (nI k)) k q)), (2, .int (nI q)), (0, .ref s0)]) hx hb dX2_findPieces_56 rfl hl (by decide) rfl (fun ls hl => ?_)
          refine lv_aload_n hx hb dX2_findPieces_57 rfl (lv_at hl 3 rfl) ?_
          refine lv_dup hx hb dX2_findPieces_58 rfl ?_
          refine rk_get (ci := 2) (C := RX2) (T := TX2) (N := 9) hx hb hts iw_X2_findPieces_2 hown hK hP 0 rfl rfl 6 (by decide) fl_X2_findPieces_43 rfl (v := .int (nI p1)) rfl dX2_findPieces_59 ?_
          refine lv_iconst (v := nI 1) hx hb dX2_findPieces_62 (by decide) ?_
          refine rk_iaddN hx hb dX2_findPieces_63 ?_
          refine rk_put (ci := 2) (C := RX2) (T := TX2) (N := 9) hx hb hts iw_X2_findPieces_2 tyX2 tyX2_ok nmX2 hown hK hP hD hS 0 rfl rfl 6 (by decide) fl_X2_findPieces_43 rfl rfl (tyX2_ok 6 (by decide)) rfl rfl (Nat.le_of_ble_eq_true rfl) (ws' := [(s0, .inr (2, [.ref t0, .ref sP, .ref sD, .ref sS, .ref sL, .ref sF, .int (nI (p1 + 1)), .int ds, .int pr])), (t0, .inr (3, [.int (nI n), .int (nI k), .ref q1, .ref q2, .ref q3, .ref q4])), (q4, aI E 30 en), (sP, aI E 16 (sfm f (rsC en (allR (nI k)) k q) (rsC en (allR (nI k)) k q) 16))]) rfl dX2_findPieces_64 (fun H locs hP hD hS => ?_)
          refine lv_iinc (v := nI (q + 1)) (lv' := [(2, .int (nI (q + 1))), (1, .int (sn ||| (rsC en (allR (nI k)) k q))), (3, .int (rsC en (allR (nI k)) k q)), (0, .ref s0)]) hx hb dX2_findPieces_67 hl (k := 2) rfl (by rw [show Int32.ofInt 1 = nI 1 by decide]; exact nI_add _ _) (by decide) rfl (fun ls hl => ?_)
          refine lv_goto (tgt := 9) hx hb dX2_findPieces_70 (by decide) ?_
          exact ih9 (sn ||| (rsC en (allR (nI k)) k q)) (q + 1) (p1 + 1) (sfm f (rsC en (allR (nI k)) k q) (rsC en (allR (nI k)) k q) 16) (by subst e1; subst e2; subst e3; rw [swP_f zc25]) (by subst e1; subst e2; subst e3; rw [swP_f zc25]) (by subst e1; subst e2; subst e3; rw [swP_f zc25]) (by first | assumption | omega | rfl) (by omega) _ _ (hP.sub [0, 1, 3, 2] rfl) (hD.sub [0, 1, 3, 2] (by decide) rfl) hS ls (lv_sub hl [0, 1, 3] rfl)
  exact L9 ((n - 0) + 1) (nI 0) 0 0 po (rfl) (rfl) (rfl) (by first | assumption | omega | rfl) (Nat.lt_succ_self _) _ _ (hP.sub [0, 1, 2, 3] rfl) (hD.sub [0, 1, 2, 3] (by decide) rfl) hS ls (lv_sub hl [0, 1, 2] rfl)
theorem iw_X2_findPartingRoads_2 : ∀ w ∈ u_ws RX2 TX2 9, w ∈ wsX2_findPartingRoads := by decide +kernel
theorem fl_X2_findPartingRoads_68 : Cond.fieldLink RX2 68 (TX2 8).1 (TX2 8).2.1 (TX2 8).2.2.1 ∈ wsX2_findPartingRoads := by decide +kernel
theorem fl_X2_findPartingRoads_27 : Cond.fieldLink RX2 27 (TX2 0).1 (TX2 0).2.1 (TX2 0).2.2.1 ∈ wsX2_findPartingRoads := by decide +kernel
theorem iw_X2_findPartingRoads_3 : ∀ w ∈ u_ws RX3 TX3 6, w ∈ wsX2_findPartingRoads := by decide +kernel
theorem fl_X2_findPartingRoads_71 : Cond.fieldLink RX2 71 (TX3 1).1 (TX3 1).2.1 (TX3 1).2.2.1 ∈ wsX2_findPartingRoads := by decide +kernel
theorem fl_X2_findPartingRoads_21 : Cond.fieldLink RX2 21 (TX2 4).1 (TX2 4).2.1 (TX2 4).2.2.1 ∈ wsX2_findPartingRoads := by decide +kernel
theorem fl_X2_findPartingRoads_74 : Cond.fieldLink RX2 74 (TX3 2).1 (TX3 2).2.1 (TX3 2).2.2.1 ∈ wsX2_findPartingRoads := by decide +kernel
theorem fl_X2_findPartingRoads_77 : Cond.fieldLink RX2 77 (TX3 3).1 (TX3 3).2.1 (TX3 3).2.2.1 ∈ wsX2_findPartingRoads := by decide +kernel
theorem inX4_X2_findPartingRoads : Cond.initialized RX4 ∈ wsX2_findPartingRoads := by decide +kernel
theorem stX4_contains_X2_findPartingRoads : Cond.static yX4_contains ∈ wsX2_findPartingRoads := by decide +kernel
set_option maxHeartbeats 400000 in
set_option maxRecDepth 100000 in
theorem c_X2_findPartingRoads (l : Launch) (E : EE) (sz : Nat) (s0 t0 sP sD sS sL sF q1 q2 q3 q4 : Nat) (sc : Int32) (k : Nat) (pc ds pr : Int32) (lS lo hi en : Nat → Int32) (a : Nat → Nat) (gk : k ≤ 30) (glo : ∀ r, r < k → lo r = nI (a r)) (ga : ∀ r, r < k → a r < 16) : Cv l yX2_findPartingRoads wsX2_findPartingRoads 2 47 E [.ref s0] [(s0, .inr (2, [.ref t0, .ref sP, .ref sD, .ref sS, .ref sL, .ref sF, .int pc, .int ds, .int pr])), (t0, .inr (3, [.int sc, .int (nI k), .ref q1, .ref q2, .ref q3, .ref q4])), (sL, aI E 30 lS), (q1, aI E 30 lo), (q2, aI E 30 hi), (q4, aI E 30 en)] sz [(s0, .inr (2, [.ref t0, .ref sP, .ref sD, .ref sS, .ref sL, .ref sF, .int pc, .int ds, .int (pRs (sdR en k a) hi k)])), (t0, .inr (3, [.int sc, .int (nI k), .ref q1, .ref q2, .ref q3, .ref q4])), (sL, aI E 30 (lsf lS (sdR en k a) k)), (q1, aI E 30 lo), (q2, aI E 30 hi), (q4, aI E 30 en)] := by
  refine C_of (QQ := QV E [(s0, .inr (2, [.ref t0, .ref sP, .ref sD, .ref sS, .ref sL, .ref sF, .int pc, .int ds, .int (pRs (sdR en k a) hi k)])), (t0, .inr (3, [.int sc, .int (nI k), .ref q1, .ref q2, .ref q3, .ref q4])), (sL, aI E 30 (lsf lS (sdR en k a) k)), (q1, aI E 30 lo), (q2, aI E 30 hi), (q4, aI E 30 en)]) (cc := cX2_findPartingRoads) (maxL := 2) (ret := none) (by decide +kernel) rfl (Nat.le_of_ble_eq_true rfl) ?_
  intro p e s m args below meth c A R Q ls hx hb hr hts hown hml hlocks hA hK hN hP hD hS hl hR hQ
  have hown : s.vm.findClass RX2 = some m.cls := hown
  have hl : lv_has ls 2 [(0, .ref s0)] := hl
  refine lv_aload_n hx hb dX2_findPartingRoads_0 rfl (lv_at hl 0 rfl) ?_
  refine lv_iconst (v := nI 0) hx hb dX2_findPartingRoads_1 (by decide) ?_
  refine rk_put (ci := 2) (C := RX2) (T := TX2) (N := 9) hx hb hts iw_X2_findPartingRoads_2 tyX2 tyX2_ok nmX2 hown hK hP hD hS 0 rfl rfl 8 (by decide) fl_X2_findPartingRoads_68 rfl rfl (tyX2_ok 8 (by decide)) rfl rfl (Nat.le_of_ble_eq_true rfl) (ws' := [(s0, .inr (2, [.ref t0, .ref sP, .ref sD, .ref sS, .ref sL, .ref sF, .int pc, .int ds, .int (nI 0)])), (t0, .inr (3, [.int sc, .int (nI k), .ref q1, .ref q2, .ref q3, .ref q4])), (sL, aI E 30 lS), (q1, aI E 30 lo), (q2, aI E 30 hi), (q4, aI E 30 en)]) rfl dX2_findPartingRoads_2 (fun H locs hP hD hS => ?_)
  refine lv_iconst (v := nI 0) hx hb dX2_findPartingRoads_5 (by decide) ?_
  refine lv_istore_n (lv' := [(1, .int (nI 0)), (0, .ref s0)]) hx hb dX2_findPartingRoads_6 rfl hl (by decide) rfl (fun ls hl => ?_)
  have L7 : ∀ (fu : Nat) (p1 : Int32) (r : Nat) (f : Nat → Int32), (e1 : p1 = pRs (sdR en k a) hi r) → (e3 : f = lsf lS (sdR en k a) r) → (gr : r ≤ k) → k - r < fu → ∀ (H : Heap) (locs : List Loc), va_P E.1 vwCl [(s0, .inr (2, [.ref t0, .ref sP, .ref sD, .ref sS, .ref sL, .ref sF, .int pc, .int ds, .int p1])), (t0, .inr (3, [.int sc, .int (nI k), .ref q1, .ref q2, .ref q3, .ref q4])), (sL, aI E 30 f), (q1, aI E 30 lo), (q2, aI E 30 hi), (q4, aI E 30 en)] H → va_D A [(s0, .inr (2, [.ref t0, .ref sP, .ref sD, .ref sS, .ref sL, .ref sF, .int pc, .int ds, .int p1])), (t0, .inr (3, [.int sc, .int (nI k), .ref q1, .ref q2, .ref q3, .ref q4])), (sL, aI E 30 f), (q1, aI E 30 lo), (q2, aI E 30 hi), (q4, aI E 30 en)] → va_S A s.heap H locs → ∀ (ls : Array Slot), lv_has ls 2 [(1, .int (nI r)), (0, .ref s0)] → W p l e R s m args below meth c H locs 0 0 Q (F0 m 7 ls []) := by
    intro fu
    induction fu with
    | zero => intro p1 r f e1 e3 gr hfu; exact absurd hfu (Nat.not_lt_zero _)
    | succ fu ih7 =>
      intro p1 r f e1 e3 gr hfu H locs hP hD hS ls hl
      refine lv_iload_n hx hb dX2_findPartingRoads_7 rfl (lv_at hl 0 rfl) ?_
      refine lv_aload_n hx hb dX2_findPartingRoads_8 rfl (lv_at hl 1 rfl) ?_
      refine rk_get (ci := 2) (C := RX2) (T := TX2) (N := 9) hx hb hts iw_X2_findPartingRoads_2 hown hK hP 0 rfl rfl 0 (by decide) fl_X2_findPartingRoads_27 rfl (v := .ref t0) rfl dX2_findPartingRoads_9 ?_
      refine rk_get (ci := 3) (C := RX3) (T := TX3) (N := 6) hx hb hts iw_X2_findPartingRoads_3 hown hK hP 1 rfl rfl 1 (by decide) fl_X2_findPartingRoads_71 rfl (v := .int (nI k)) rfl dX2_findPartingRoads_12 ?_
      refine rk_geN (tgt := 92) hx hb (by omega) (by omega) dX2_findPartingRoads_15 (by decide) (fun zc15 => ?_) (fun zc15 => ?_)
      · obtain rfl : k = r := by omega
        subst e1; subst e3
        exact ret_v hQ hx hb hr hlocks (hP.sub [0, 1, 2, 3, 4, 5] rfl) (hD.sub [0, 1, 2, 3, 4, 5] (by decide) rfl) hS dX2_findPartingRoads_92
      · refine lv_aload_n hx hb dX2_findPartingRoads_18 rfl (lv_at hl 1 rfl) ?_
        refine rk_get (ci := 2) (C := RX2) (T := TX2) (N := 9) hx hb hts iw_X2_findPartingRoads_2 hown hK hP 0 rfl rfl 4 (by decide) fl_X2_findPartingRoads_21 rfl (v := .ref sL) rfl dX2_findPartingRoads_19 ?_
        refine lv_iload_n hx hb dX2_findPartingRoads_22 rfl (lv_at hl 0 rfl) ?_
        refine lv_aload_n hx hb dX2_findPartingRoads_23 rfl (lv_at hl 1 rfl) ?_
        refine rk_get (ci := 2) (C := RX2) (T := TX2) (N := 9) hx hb hts iw_X2_findPartingRoads_2 hown hK hP 0 rfl rfl 0 (by decide) fl_X2_findPartingRoads_27 rfl (v := .ref t0) rfl dX2_findPartingRoads_24 ?_
        refine lv_aload_n hx hb dX2_findPartingRoads_27 rfl (lv_at hl 1 rfl) ?_
        refine rk_get (ci := 2) (C := RX2) (T := TX2) (N := 9) hx hb hts iw_X2_findPartingRoads_2 hown hK hP 0 rfl rfl 0 (by decide) fl_X2_findPartingRoads_27 rfl (v := .ref t0) rfl dX2_findPartingRoads_28 ?_
        refine rk_get (ci := 3) (C := RX3) (T := TX3) (N := 6) hx hb hts iw_X2_findPartingRoads_3 hown hK hP 1 rfl rfl 2 (by decide) fl_X2_findPartingRoads_74 rfl (v := .ref q1) rfl dX2_findPartingRoads_31 ?_
        refine lv_iload_n hx hb dX2_findPartingRoads_34 rfl (lv_at hl 0 rfl) ?_
        refine rk_iald hx hb hK hP 3 rfl (by omega) (by omega) (v := nI (a r)) (glo r (by omega)) dX2_findPartingRoads_35 ?_
        refine lv_aload_n hx hb dX2_findPartingRoads_36 rfl (lv_at hl 1 rfl) ?_
        refine rk_get (ci := 2) (C := RX2) (T := TX2) (N := 9) hx hb hts iw_X2_findPartingRoads_2 hown hK hP 0 rfl rfl 0 (by decide) fl_X2_findPartingRoads_27 rfl (v := .ref t0) rfl dX2_findPartingRoads_37 ?_
        refine kV_i (E := E) (As := []) (rest := [.int (nI (a r)), .ref t0, .int (nI r), .ref sL]) (wr := [(s0, .inr (2, [.ref t0, .ref sP, .ref sD, .ref sS, .ref sL, .ref sF, .int pc, .int ds, .int p1])), (sL, aI E 30 f), (q1, aI E 30 lo), (q2, aI E 30 hi), (q4, aI E 30 en)]) ⟨hx, hb, hml, hown, hts⟩ (c_X3_allRoads (l := l) (E := E) (sz := _) (h0 := t0) (sc := sc) (f1 := nI k) (q1 := q1) (q2 := q2) (q3 := q3) (q4 := q4) ) (cwV 0 hts gX2_findPartingRoads_X3_allRoads rfl rfl rfl (by decide +kernel) ⟨by rw [hR]; decide, by rw [hR]; decide⟩) hK hN hP hD hS hA [1] [0, 2, 3, 4, 5] rfl (by decide) rfl (by decide) (by decide) 1 3 rfl rfl rfl hl.1 rfl (Nat.le_of_ble_eq_true rfl) dX2_findPartingRoads_40 ⟨Nat.zero_le _, Nat.zero_le _⟩ (fun H locs hP hD hS => ?_)
        have hP : va_P E.1 vwCl [(s0, .inr (2, [.ref t0, .ref sP, .ref sD, .ref sS, .ref sL, .ref sF, .int pc, .int ds, .int p1])), (sL, aI E 30 f), (q1, aI E 30 lo), (q2, aI E 30 hi), (q4, aI E 30 en), (t0, .inr (3, [.int sc, .int (nI k), .ref q1, .ref q2, .ref q3, .ref q4]))] H := hP
        have hD : va_D A [(s0, .inr (2, [.ref t0, .ref sP, .ref sD, .ref sS, .ref sL, .ref sF, .int pc, .int ds, .int p1])), (sL, aI E 30 f), (q1, aI E 30 lo), (q2, aI E 30 hi), (q4, aI E 30 en), (t0, .inr (3, [.int sc, .int (nI k), .ref q1, .ref q2, .ref q3, .ref q4]))] := hD
        refine lv_iconst (v := nI 1) hx hb dX2_findPartingRoads_43 (by decide) ?_
        refine lv_iload_n hx hb dX2_findPartingRoads_44 rfl (lv_at hl 0 rfl) ?_
        refine lv_ishl hx hb dX2_findPartingRoads_45 ?_
        refine lv_iconst (v := (-1)) hx hb dX2_findPartingRoads_46 (by decide) ?_
        refine lv_ixor hx hb dX2_findPartingRoads_47 ?_
        refine lv_iand hx hb dX2_findPartingRoads_48 ?_
        refine kV_i (E := E) (As := [.int (nI (a r)), .int ((allR (nI k)) &&& (((nI 1) <<< ((nI r) &&& 31)) ^^^ ((-1))))]) (rest := [.int (nI r), .ref sL]) (wr := [(s0, .inr (2, [.ref t0, .ref sP, .ref sD, .ref sS, .ref sL, .ref sF, .int pc, .int ds, .int p1])), (sL, aI E 30 f), (q1, aI E 30 lo), (q2, aI E 30 hi)]) ⟨hx, hb, hml, hown, hts⟩ (c_X3_reach (l := l) (E := E) (sz := _) (h0 := t0) (q1 := q1) (q2 := q2) (q3 := q3) (q4 := q4) (sc := sc) (k := k) (en := en) (q := a r) (w := (allR (nI k)) &&& (((nI 1) <<< ((nI r) &&& 31)) ^^^ ((-1)))) (hk := by first | assumption | omega) (hq := ga r (by omega))) (cwV 2 hts gX2_findPartingRoads_X3_reach rfl rfl rfl (by decide +kernel) ⟨by rw [hR]; decide, by rw [hR]; decide⟩) hK hN hP hD hS hA [5, 4] [0, 1, 2, 3] rfl (by decide) rfl (by decide) (by decide) 5 3 rfl rfl rfl hl.1 rfl (Nat.le_of_ble_eq_true rfl) dX2_findPartingRoads_49 ⟨Nat.zero_le _, Nat.zero_le _⟩ (fun H locs hP hD hS => ?_)
        have hP : va_P E.1 vwCl [(s0, .inr (2, [.ref t0, .ref sP, .ref sD, .ref sS, .ref sL, .ref sF, .int pc, .int ds, .int p1])), (sL, aI E 30 f), (q1, aI E 30 lo), (q2, aI E 30 hi), (t0, .inr (3, [.int sc, .int (nI k), .ref q1, .ref q2, .ref q3, .ref q4])), (q4, aI E 30 en)] H := hP
        have hD : va_D A [(s0, .inr (2, [.ref t0, .ref sP, .ref sD, .ref sS, .ref sL, .ref sF, .int pc, .int ds, .int p1])), (sL, aI E 30 f), (q1, aI E 30 lo), (q2, aI E 30 hi), (t0, .inr (3, [.int sc, .int (nI k), .ref q1, .ref q2, .ref q3, .ref q4])), (q4, aI E 30 en)] := hD
        refine rk_ev (show _ = sdR en k a r from rfl) ?_
        refine rk_iast hx hb hK hP hD hS 1 rfl (by omega) (by omega) (ws' := [(s0, .inr (2, [.ref t0, .ref sP, .ref sD, .ref sS, .ref sL, .ref sF, .int pc, .int ds, .int p1])), (sL, aI E 30 (upd f r (sdR en k a r))), (q1, aI E 30 lo), (q2, aI E 30 hi), (t0, .inr (3, [.int sc, .int (nI k), .ref q1, .ref q2, .ref q3, .ref q4])), (q4, aI E 30 en)]) rfl dX2_findPartingRoads_52 (fun H locs hP hD hS => ?_)
        refine lv_aload_n hx hb dX2_findPartingRoads_53 rfl (lv_at hl 1 rfl) ?_
        refine rk_get (ci := 2) (C := RX2) (T := TX2) (N := 9) hx hb hts iw_X2_findPartingRoads_2 hown hK hP 0 rfl rfl 4 (by decide) fl_X2_findPartingRoads_21 rfl (v := .ref sL) rfl dX2_findPartingRoads_54 ?_
        refine lv_iload_n hx hb dX2_findPartingRoads_57 rfl (lv_at hl 0 rfl) ?_
        refine rk_iald hx hb hK hP 1 rfl (by omega) (by omega) (v := sdR en k a r) (pk_us) dX2_findPartingRoads_58 ?_
        refine lv_aload_n hx hb dX2_findPartingRoads_59 rfl (lv_at hl 1 rfl) ?_
        refine rk_get (ci := 2) (C := RX2) (T := TX2) (N := 9) hx hb hts iw_X2_findPartingRoads_2 hown hK hP 0 rfl rfl 0 (by decide) fl_X2_findPartingRoads_27 rfl (v := .ref t0) rfl dX2_findPartingRoads_60 ?_
        refine rk_get (ci := 3) (C := RX3) (T := TX3) (N := 6) hx hb hts iw_X2_findPartingRoads_3 hown hK hP 4 rfl rfl 3 (by decide) fl_X2_findPartingRoads_77 rfl (v := .ref q2) rfl dX2_findPartingRoads_63 ?_
        refine lv_iload_n hx hb dX2_findPartingRoads_66 rfl (lv_at hl 0 rfl) ?_
        refine rk_iald hx hb hK hP 3 rfl (by omega) (by omega) (v := hi r) (rfl) dX2_findPartingRoads_67 ?_
        refine kSN_i (E := E) (As := [.int (sdR en k a r), .int (hi r)]) (rest := []) (wr := [(s0, .inr (2, [.ref t0, .ref sP, .ref sD, .ref sS, .ref sL, .ref sF, .int pc, .int ds, .int p1])), (sL, aI E 30 (upd f r (sdR en k a r))), (q1, aI E 30 lo), (q2, aI E 30 hi), (t0, .inr (3, [.int sc, .int (nI k), .ref q1, .ref q2, .ref q3, .ref q4])), (q4, aI E 30 en)]) ⟨hx, hb, hml, hown, hts⟩ (c_X4_contains (l := l) (E := E) (sz := _) (x := sdR en k a r) (y := hi r) ) ⟨va_cnB 2 hts gX2_findPartingRoads_X4_contains_n52 rfl rfl rfl hN.2.1 (hts _ inX4_X2_findPartingRoads) (by decide +kernel) ⟨by rw [hR]; decide, by rw [hR]; decide⟩, hts _ stX4_contains_X2_findPartingRoads, trivial⟩ hK hN hP hD hS hA [] [0, 1, 2, 3, 4, 5] rfl (by decide) rfl (by decide) (by decide) rfl hl.1 rfl (Nat.le_of_ble_eq_true rfl) dX2_findPartingRoads_68 ⟨Nat.zero_le _, Nat.zero_le _⟩ (fun H locs hP hD hS => ?_)
        have hP : va_P E.1 vwCl [(s0, .inr (2, [.ref t0, .ref sP, .ref sD, .ref sS, .ref sL, .ref sF, .int pc, .int ds, .int p1])), (sL, aI E 30 (upd f r (sdR en k a r))), (q1, aI E 30 lo), (q2, aI E 30 hi), (t0, .inr (3, [.int sc, .int (nI k), .ref q1, .ref q2, .ref q3, .ref q4])), (q4, aI E 30 en)] H := hP
        have hD : va_D A [(s0, .inr (2, [.ref t0, .ref sP, .ref sD, .ref sS, .ref sL, .ref sF, .int pc, .int ds, .int p1])), (sL, aI E 30 (upd f r (sdR en k a r))), (q1, aI E 30 lo), (q2, aI E 30 hi), (t0, .inr (3, [.int sc, .int (nI k), .ref q1, .ref q2, .ref q3, .ref q4])), (q4, aI E 30 en)] := hD
        refine rk_if_neB (tgt := 86) hx hb dX2_findPartingRoads_71 (by decide) (fun zc71 => ?_) (fun zc71 => ?_)
        · refine lv_iinc (v := nI (r + 1)) (lv' := [(1, .int (nI (r + 1))), (0, .ref s0)]) hx hb dX2_findPartingRoads_86 hl (k := 0) rfl (by rw [show Int32.ofInt 1 = nI 1 by decide]; exact nI_add _ _) (by decide) rfl (fun ls hl => ?_)
          refine lv_goto (tgt := 7) hx hb dX2_findPartingRoads_89 (by decide) ?_
          exact ih7 p1 (r + 1) (upd f r (sdR en k a r)) (by subst e1; exact (pRs_t (sd := (sdR en k a)) (hi := hi) (r := r) zc71).symm) (by rw [e3]; exact lsf_1 lS (sdR en k a) r) (by first | assumption | omega | rfl) (by omega) _ _ (hP.sub [0, 4, 1, 2, 3, 5] rfl) (hD.sub [0, 4, 1, 2, 3, 5] (by decide) rfl) hS ls (lv_sub hl [0, 1] rfl)
        · refine lv_aload_n hx hb dX2_findPartingRoads_74 rfl (lv_at hl 1 rfl) ?_
          refine lv_dup hx hb dX2_findPartingRoads_75 rfl ?_
          refine rk_get (ci := 2) (C := RX2) (T := TX2) (N := 9) hx hb hts iw_X2_findPartingRoads_2 hown hK hP 0 rfl rfl 8 (by decide) fl_X2_findPartingRoads_68 rfl (v := .int p1) rfl dX2_findPartingRoads_76 ?_
          refine lv_iconst (v := nI 1) hx hb dX2_findPartingRoads_79 (by decide) ?_
          refine lv_iload_n hx hb dX2_findPartingRoads_80 rfl (lv_at hl 0 rfl) ?_
          refine lv_ishl hx hb dX2_findPartingRoads_81 ?_
          refine lv_ior hx hb dX2_findPartingRoads_82 ?_
          refine rk_put (ci := 2) (C := RX2) (T := TX2) (N := 9) hx hb hts iw_X2_findPartingRoads_2 tyX2 tyX2_ok nmX2 hown hK hP hD hS 0 rfl rfl 8 (by decide) fl_X2_findPartingRoads_68 rfl rfl (tyX2_ok 8 (by decide)) rfl rfl (Nat.le_of_ble_eq_true rfl) (ws' := [(s0, .inr (2, [.ref t0, .ref sP, .ref sD, .ref sS, .ref sL, .ref sF, .int pc, .int ds, .int (p1 ||| ((nI 1) <<< ((nI r) &&& 31)))])), (sL, aI E 30 (upd f r (sdR en k a r))), (q1, aI E 30 lo), (q2, aI E 30 hi), (t0, .inr (3, [.int sc, .int (nI k), .ref q1, .ref q2, .ref q3, .ref q4])), (q4, aI E 30 en)]) rfl dX2_findPartingRoads_83 (fun H locs hP hD hS => ?_)
          refine lv_iinc (v := nI (r + 1)) (lv' := [(1, .int (nI (r + 1))), (0, .ref s0)]) hx hb dX2_findPartingRoads_86 hl (k := 0) rfl (by rw [show Int32.ofInt 1 = nI 1 by decide]; exact nI_add _ _) (by decide) rfl (fun ls hl => ?_)
          refine lv_goto (tgt := 7) hx hb dX2_findPartingRoads_89 (by decide) ?_
          exact ih7 (p1 ||| ((nI 1) <<< ((nI r) &&& 31))) (r + 1) (upd f r (sdR en k a r)) (by subst e1; exact (pRs_f (sd := (sdR en k a)) (hi := hi) (r := r) zc71).symm) (by rw [e3]; exact lsf_1 lS (sdR en k a) r) (by first | assumption | omega | rfl) (by omega) _ _ (hP.sub [0, 4, 1, 2, 3, 5] rfl) (hD.sub [0, 4, 1, 2, 3, 5] (by decide) rfl) hS ls (lv_sub hl [0, 1] rfl)
  exact L7 ((k - 0) + 1) (nI 0) 0 lS (rfl) (by exact (lsf_0 _ _).symm) (by first | assumption | omega | rfl) (Nat.lt_succ_self _) _ _ (hP.sub [0, 1, 2, 3, 4, 5] rfl) (hD.sub [0, 1, 2, 3, 4, 5] (by decide) rfl) hS ls (lv_sub hl [0, 1] rfl)
theorem iw_X2_findDistricts_2 : ∀ w ∈ u_ws RX2 TX2 9, w ∈ wsX2_findDistricts := by decide +kernel
theorem fl_X2_findDistricts_80 : Cond.fieldLink RX2 80 (TX2 7).1 (TX2 7).2.1 (TX2 7).2.2.1 ∈ wsX2_findDistricts := by decide +kernel
theorem fl_X2_findDistricts_27 : Cond.fieldLink RX2 27 (TX2 0).1 (TX2 0).2.1 (TX2 0).2.2.1 ∈ wsX2_findDistricts := by decide +kernel
theorem iw_X2_findDistricts_3 : ∀ w ∈ u_ws RX3 TX3 6, w ∈ wsX2_findDistricts := by decide +kernel
theorem fl_X2_findDistricts_47 : Cond.fieldLink RX2 47 (TX3 0).1 (TX3 0).2.1 (TX3 0).2.2.1 ∈ wsX2_findDistricts := by decide +kernel
theorem inX4_X2_findDistricts : Cond.initialized RX4 ∈ wsX2_findDistricts := by decide +kernel
theorem stX4_contains_X2_findDistricts : Cond.static yX4_contains ∈ wsX2_findDistricts := by decide +kernel
theorem fl_X2_findDistricts_68 : Cond.fieldLink RX2 68 (TX2 8).1 (TX2 8).2.1 (TX2 8).2.2.1 ∈ wsX2_findDistricts := by decide +kernel
theorem fl_X2_findDistricts_15 : Cond.fieldLink RX2 15 (TX2 2).1 (TX2 2).2.1 (TX2 2).2.2.1 ∈ wsX2_findDistricts := by decide +kernel
theorem stX4_setForMembers_X2_findDistricts : Cond.static yX4_setForMembers ∈ wsX2_findDistricts := by decide +kernel
theorem fl_X2_findDistricts_18 : Cond.fieldLink RX2 18 (TX2 3).1 (TX2 3).2.1 (TX2 3).2.2.1 ∈ wsX2_findDistricts := by decide +kernel
set_option maxHeartbeats 400000 in
set_option maxRecDepth 100000 in
theorem c_X2_findDistricts (l : Launch) (E : EE) (sz : Nat) (s0 t0 sP sD sS sL sF q1 q2 q3 q4 : Nat) (k n : Nat) (pc ds pr : Int32) (dO dS en : Nat → Int32) (gk : k ≤ 30) (gn : n ≤ 16) : Cv l yX2_findDistricts wsX2_findDistricts 2 47 E [.ref s0] [(s0, .inr (2, [.ref t0, .ref sP, .ref sD, .ref sS, .ref sL, .ref sF, .int pc, .int ds, .int pr])), (t0, .inr (3, [.int (nI n), .int (nI k), .ref q1, .ref q2, .ref q3, .ref q4])), (sD, aI E 16 dO), (sS, aI E 16 dS), (q4, aI E 30 en)] sz [(s0, .inr (2, [.ref t0, .ref sP, .ref sD, .ref sS, .ref sL, .ref sF, .int pc, .int (nI ((swD (rsC en (allR (nI k) &&& (pr ^^^ (-1))) k) dO dS n).2.1)), .int pr])), (t0, .inr (3, [.int (nI n), .int (nI k), .ref q1, .ref q2, .ref q3, .ref q4])), (sD, aI E 16 ((swD (rsC en (allR (nI k) &&& (pr ^^^ (-1))) k) dO dS n).2.2.1)), (sS, aI E 16 ((swD (rsC en (allR (nI k) &&& (pr ^^^ (-1))) k) dO dS n).2.2.2)), (q4, aI E 30 en)] := by
  refine C_of (QQ := QV E [(s0, .inr (2, [.ref t0, .ref sP, .ref sD, .ref sS, .ref sL, .ref sF, .int pc, .int (nI ((swD (rsC en (allR (nI k) &&& (pr ^^^ (-1))) k) dO dS n).2.1)), .int pr])), (t0, .inr (3, [.int (nI n), .int (nI k), .ref q1, .ref q2, .ref q3, .ref q4])), (sD, aI E 16 ((swD (rsC en (allR (nI k) &&& (pr ^^^ (-1))) k) dO dS n).2.2.1)), (sS, aI E 16 ((swD (rsC en (allR (nI k) &&& (pr ^^^ (-1))) k) dO dS n).2.2.2)), (q4, aI E 30 en)]) (cc := cX2_findDistricts) (maxL := 4) (ret := none) (by decide +kernel) rfl (Nat.le_of_ble_eq_true rfl) ?_
  intro p e s m args below meth c A R Q ls hx hb hr hts hown hml hlocks hA hK hN hP hD hS hl hR hQ
  have hown : s.vm.findClass RX2 = some m.cls := hown
  have hl : lv_has ls 4 [(0, .ref s0)] := hl
  refine lv_iconst (v := nI 0) hx hb dX2_findDistricts_0 (by decide) ?_
  refine lv_istore_n (lv' := [(1, .int (nI 0)), (0, .ref s0)]) hx hb dX2_findDistricts_1 rfl hl (by decide) rfl (fun ls hl => ?_)
  refine lv_aload_n hx hb dX2_findDistricts_2 rfl (lv_at hl 1 rfl) ?_
  refine lv_iconst (v := nI 0) hx hb dX2_findDistricts_3 (by decide) ?_
  refine rk_put (ci := 2) (C := RX2) (T := TX2) (N := 9) hx hb hts iw_X2_findDistricts_2 tyX2 tyX2_ok nmX2 hown hK hP hD hS 0 rfl rfl 7 (by decide) fl_X2_findDistricts_80 rfl rfl (tyX2_ok 7 (by decide)) rfl rfl (Nat.le_of_ble_eq_true rfl) (ws' := [(s0, .inr (2, [.ref t0, .ref sP, .ref sD, .ref sS, .ref sL, .ref sF, .int pc, .int (nI 0), .int pr])), (t0, .inr (3, [.int (nI n), .int (nI k), .ref q1, .ref q2, .ref q3, .ref q4])), (sD, aI E 16 dO), (sS, aI E 16 dS), (q4, aI E 30 en)]) rfl dX2_findDistricts_4 (fun H locs hP hD hS => ?_)
  refine lv_iconst (v := nI 0) hx hb dX2_findDistricts_7 (by decide) ?_
  refine lv_istore_n (lv' := [(2, .int (nI 0)), (1, .int (nI 0)), (0, .ref s0)]) hx hb dX2_findDistricts_8 rfl hl (by decide) rfl (fun ls hl => ?_)
  have L9 : ∀ (fu : Nat) (sn : Int32) (q p1 : Nat) (f f2 : Nat → Int32), (e1 : sn = (swD (rsC en (allR (nI k) &&& (pr ^^^ (-1))) k) dO dS q).1) → (e2 : p1 = (swD (rsC en (allR (nI k) &&& (pr ^^^ (-1))) k) dO dS q).2.1) → (e3 : f = (swD (rsC en (allR (nI k) &&& (pr ^^^ (-1))) k) dO dS q).2.2.1) → (e4 : f2 = (swD (rsC en (allR (nI k) &&& (pr ^^^ (-1))) k) dO dS q).2.2.2) → (gq : q ≤ n) → n - q < fu → ∀ (H : Heap) (locs : List Loc), va_P E.1 vwCl [(s0, .inr (2, [.ref t0, .ref sP, .ref sD, .ref sS, .ref sL, .ref sF, .int pc, .int (nI p1), .int pr])), (t0, .inr (3, [.int (nI n), .int (nI k), .ref q1, .ref q2, .ref q3, .ref q4])), (sD, aI E 16 f), (sS, aI E 16 f2), (q4, aI E 30 en)] H → va_D A [(s0, .inr (2, [.ref t0, .ref sP, .ref sD, .ref sS, .ref sL, .ref sF, .int pc, .int (nI p1), .int pr])), (t0, .inr (3, [.int (nI n), .int (nI k), .ref q1, .ref q2, .ref q3, .ref q4])), (sD, aI E 16 f), (sS, aI E 16 f2), (q4, aI E 30 en)] → va_S A s.heap H locs → ∀ (ls : Array Slot), lv_has ls 4 [(2, .int (nI q)), (1, .int sn), (0, .ref s0)] → W p l e R s m args below meth c H locs 0 0 Q (F0 m 9 ls []) := by
    intro fu
    induction fu with
    | zero => intro sn q p1 f f2 e1 e2 e3 e4 gq hfu; exact absurd hfu (Nat.not_lt_zero _)
    | succ fu ih9 =>
      intro sn q p1 f f2 e1 e2 e3 e4 gq hfu H locs hP hD hS ls hl
      have gp : p1 ≤ q := by rw [e2]; exact swD_le _ _ _ _
      refine lv_iload_n hx hb dX2_findDistricts_9 rfl (lv_at hl 0 rfl) ?_
      refine lv_aload_n hx hb dX2_findDistricts_10 rfl (lv_at hl 2 rfl) ?_
      refine rk_get (ci := 2) (C := RX2) (T := TX2) (N := 9) hx hb hts iw_X2_findDistricts_2 hown hK hP 0 rfl rfl 0 (by decide) fl_X2_findDistricts_27 rfl (v := .ref t0) rfl dX2_findDistricts_11 ?_
      refine rk_get (ci := 3) (C := RX3) (T := TX3) (N := 6) hx hb hts iw_X2_findDistricts_3 hown hK hP 1 rfl rfl 0 (by decide) fl_X2_findDistricts_47 rfl (v := .int (nI n)) rfl dX2_findDistricts_14 ?_
      refine rk_geN (tgt := 93) hx hb (by omega) (by omega) dX2_findDistricts_17 (by decide) (fun zc17 => ?_) (fun zc17 => ?_)
      · obtain rfl : n = q := by omega
        subst e1; subst e2; subst e3; subst e4
        exact ret_v hQ hx hb hr hlocks (hP.sub [0, 1, 2, 3, 4] rfl) (hD.sub [0, 1, 2, 3, 4] (by decide) rfl) hS dX2_findDistricts_93
      · refine lv_iload_n hx hb dX2_findDistricts_20 rfl (lv_at hl 1 rfl) ?_
        refine lv_iload_n hx hb dX2_findDistricts_21 rfl (lv_at hl 0 rfl) ?_
        refine kSN_i (E := E) (As := [.int sn, .int (nI q)]) (rest := []) (wr := [(s0, .inr (2, [.ref t0, .ref sP, .ref sD, .ref sS, .ref sL, .ref sF, .int pc, .int (nI p1), .int pr])), (t0, .inr (3, [.int (nI n), .int (nI k), .ref q1, .ref q2, .ref q3, .ref q4])), (sD, aI E 16 f), (sS, aI E 16 f2), (q4, aI E 30 en)]) ⟨hx, hb, hml, hown, hts⟩ (c_X4_contains (l := l) (E := E) (sz := _) (x := sn) (y := nI q) ) ⟨va_cnB 2 hts gX2_findDistricts_X4_contains_n52 rfl rfl rfl hN.2.1 (hts _ inX4_X2_findDistricts) (by decide +kernel) ⟨by rw [hR]; decide, by rw [hR]; decide⟩, hts _ stX4_contains_X2_findDistricts, trivial⟩ hK hN hP hD hS hA [] [0, 1, 2, 3, 4] rfl (by decide) rfl (by decide) (by decide) rfl hl.1 rfl (Nat.le_of_ble_eq_true rfl) dX2_findDistricts_22 ⟨Nat.zero_le _, Nat.zero_le _⟩ (fun H locs hP hD hS => ?_)
        have hP : va_P E.1 vwCl [(s0, .inr (2, [.ref t0, .ref sP, .ref sD, .ref sS, .ref sL, .ref sF, .int pc, .int (nI p1), .int pr])), (t0, .inr (3, [.int (nI n), .int (nI k), .ref q1, .ref q2, .ref q3, .ref q4])), (sD, aI E 16 f), (sS, aI E 16 f2), (q4, aI E 30 en)] H := hP
        have hD : va_D A [(s0, .inr (2, [.ref t0, .ref sP, .ref sD, .ref sS, .ref sL, .ref sF, .int pc, .int (nI p1), .int pr])), (t0, .inr (3, [.int (nI n), .int (nI k), .ref q1, .ref q2, .ref q3, .ref q4])), (sD, aI E 16 f), (sS, aI E 16 f2), (q4, aI E 30 en)] := hD
        refine rk_if_neB (tgt := 87) hx hb dX2_findDistricts_25 (by decide) (fun zc25 => ?_) (fun zc25 => ?_)
        · refine lv_iinc (v := nI (q + 1)) (lv' := [(2, .int (nI (q + 1))), (1, .int sn), (0, .ref s0)]) hx hb dX2_findDistricts_87 hl (k := 0) rfl (by rw [show Int32.ofInt 1 = nI 1 by decide]; exact nI_add _ _) (by decide) rfl (fun ls hl => ?_)
          refine lv_goto (tgt := 9) hx hb dX2_findDistricts_90 (by decide) ?_
          exact ih9 sn (q + 1) p1 f f2 (by subst e1; subst e2; subst e3; subst e4; rw [swD_t zc25]) (by subst e1; subst e2; subst e3; subst e4; rw [swD_t zc25]) (by subst e1; subst e2; subst e3; subst e4; rw [swD_t zc25]) (by subst e1; subst e2; subst e3; subst e4; rw [swD_t zc25]) (by first | assumption | omega | rfl) (by omega) _ _ (hP.sub [0, 1, 2, 3, 4] rfl) (hD.sub [0, 1, 2, 3, 4] (by decide) rfl) hS ls (lv_sub hl [0, 1, 2] rfl)
        · refine lv_aload_n hx hb dX2_findDistricts_28 rfl (lv_at hl 2 rfl) ?_
          refine rk_get (ci := 2) (C := RX2) (T := TX2) (N := 9) hx hb hts iw_X2_findDistricts_2 hown hK hP 0 rfl rfl 0 (by decide) fl_X2_findDistricts_27 rfl (v := .ref t0) rfl dX2_findDistricts_29 ?_
          refine lv_iload_n hx hb dX2_findDistricts_32 rfl (lv_at hl 0 rfl) ?_
          refine lv_aload_n hx hb dX2_findDistricts_33 rfl (lv_at hl 2 rfl) ?_
          refine rk_get (ci := 2) (C := RX2) (T := TX2) (N := 9) hx hb hts iw_X2_findDistricts_2 hown hK hP 0 rfl rfl 0 (by decide) fl_X2_findDistricts_27 rfl (v := .ref t0) rfl dX2_findDistricts_34 ?_
          refine kV_i (E := E) (As := []) (rest := [.int (nI q), .ref t0]) (wr := [(s0, .inr (2, [.ref t0, .ref sP, .ref sD, .ref sS, .ref sL, .ref sF, .int pc, .int (nI p1), .int pr])), (sD, aI E 16 f), (sS, aI E 16 f2), (q4, aI E 30 en)]) ⟨hx, hb, hml, hown, hts⟩ (c_X3_allRoads (l := l) (E := E) (sz := _) (h0 := t0) (sc := nI n) (f1 := nI k) (q1 := q1) (q2 := q2) (q3 := q3) (q4 := q4) ) (cwV 0 hts gX2_findDistricts_X3_allRoads rfl rfl rfl (by decide +kernel) ⟨by rw [hR]; decide, by rw [hR]; decide⟩) hK hN hP hD hS hA [1] [0, 2, 3, 4] rfl (by decide) rfl (by decide) (by decide) 1 3 rfl rfl rfl hl.1 rfl (Nat.le_of_ble_eq_true rfl) dX2_findDistricts_37 ⟨Nat.zero_le _, Nat.zero_le _⟩ (fun H locs hP hD hS => ?_)
          have hP : va_P E.1 vwCl [(s0, .inr (2, [.ref t0, .ref sP, .ref sD, .ref sS, .ref sL, .ref sF, .int pc, .int (nI p1), .int pr])), (sD, aI E 16 f), (sS, aI E 16 f2), (q4, aI E 30 en), (t0, .inr (3, [.int (nI n), .int (nI k), .ref q1, .ref q2, .ref q3, .ref q4]))] H := hP
          have hD : va_D A [(s0, .inr (2, [.ref t0, .ref sP, .ref sD, .ref sS, .ref sL, .ref sF, .int pc, .int (nI p1), .int pr])), (sD, aI E 16 f), (sS, aI E 16 f2), (q4, aI E 30 en), (t0, .inr (3, [.int (nI n), .int (nI k), .ref q1, .ref q2, .ref q3, .ref q4]))] := hD
          refine lv_aload_n hx hb dX2_findDistricts_40 rfl (lv_at hl 2 rfl) ?_
          refine rk_get (ci := 2) (C := RX2) (T := TX2) (N := 9) hx hb hts iw_X2_findDistricts_2 hown hK hP 0 rfl rfl 8 (by decide) fl_X2_findDistricts_68 rfl (v := .int pr) rfl dX2_findDistricts_41 ?_
          refine lv_iconst (v := (-1)) hx hb dX2_findDistricts_44 (by decide) ?_
          refine lv_ixor hx hb dX2_findDistricts_45 ?_
          refine lv_iand hx hb dX2_findDistricts_46 ?_
          refine kV_i (E := E) (As := [.int (nI q), .int ((allR (nI k)) &&& (pr ^^^ ((-1))))]) (rest := []) (wr := [(s0, .inr (2, [.ref t0, .ref sP, .ref sD, .ref sS, .ref sL, .ref sF, .int pc, .int (nI p1), .int pr])), (sD, aI E 16 f), (sS, aI E 16 f2)]) ⟨hx, hb, hml, hown, hts⟩ (c_X3_reach (l := l) (E := E) (sz := _) (h0 := t0) (q1 := q1) (q2 := q2) (q3 := q3) (q4 := q4) (sc := nI n) (k := k) (en := en) (q := q) (w := (allR (nI k)) &&& (pr ^^^ ((-1)))) (hk := by first | assumption | omega) (hq := by first | assumption | omega)) (cwV 2 hts gX2_findDistricts_X3_reach rfl rfl rfl (by decide +kernel) ⟨by rw [hR]; decide, by rw [hR]; decide⟩) hK hN hP hD hS hA [4, 3] [0, 1, 2] rfl (by decide) rfl (by decide) (by decide) 4 3 rfl rfl rfl hl.1 rfl (Nat.le_of_ble_eq_true rfl) dX2_findDistricts_47 ⟨Nat.zero_le _, Nat.zero_le _⟩ (fun H locs hP hD hS => ?_)
          have hP : va_P E.1 vwCl [(s0, .inr (2, [.ref t0, .ref sP, .ref sD, .ref sS, .ref sL, .ref sF, .int pc, .int (nI p1), .int pr])), (sD, aI E 16 f), (sS, aI E 16 f2), (t0, .inr (3, [.int (nI n), .int (nI k), .ref q1, .ref q2, .ref q3, .ref q4])), (q4, aI E 30 en)] H := hP
          have hD : va_D A [(s0, .inr (2, [.ref t0, .ref sP, .ref sD, .ref sS, .ref sL, .ref sF, .int pc, .int (nI p1), .int pr])), (sD, aI E 16 f), (sS, aI E 16 f2), (t0, .inr (3, [.int (nI n), .int (nI k), .ref q1, .ref q2, .ref q3, .ref q4])), (q4, aI E 30 en)] := hD
          refine lv_istore_n (lv' := [(3, .int (rsC en ((allR (nI k)) &&& (pr ^^^ ((-1)))) k q)), (2, .int (nI q)), (1, .int sn), (0, .ref s0)]) hx hb dX2_findDistricts_50 rfl hl (by decide) rfl (fun ls hl => ?_)
          refine lv_aload_n hx hb dX2_findDistricts_51 rfl (lv_at hl 3 rfl) ?_
          refine rk_get (ci := 2) (C := RX2) (T := TX2) (N := 9) hx hb hts iw_X2_findDistricts_2 hown hK hP 0 rfl rfl 2 (by decide) fl_X2_findDistricts_15 rfl (v := .ref sD) rfl dX2_findDistricts_52 ?_
          refine lv_iload_n hx hb dX2_findDistricts_55 rfl (lv_at hl 0 rfl) ?_
          refine lv_aload_n hx hb dX2_findDistricts_56 rfl (lv_at hl 3 rfl) ?_
          refine rk_get (ci := 2) (C := RX2) (T := TX2) (N := 9) hx hb hts iw_X2_findDistricts_2 hown hK hP 0 rfl rfl 7 (by decide) fl_X2_findDistricts_80 rfl (v := .int (nI p1)) rfl dX2_findDistricts_57 ?_
          refine kSN_v (E := E) (As := [.ref sD, .int (rsC en ((allR (nI k)) &&& (pr ^^^ ((-1)))) k q), .int (nI p1)]) (rest := []) (wr := [(s0, .inr (2, [.ref t0, .ref sP, .ref sD, .ref sS, .ref sL, .ref sF, .int pc, .int (nI p1), .int pr])), (sS, aI E 16 f2), (t0, .inr (3, [.int (nI n), .int (nI k), .ref q1, .ref q2, .ref q3, .ref q4])), (q4, aI E 30 en)]) ⟨hx, hb, hml, hown, hts⟩ (c_X4_setForMembers (l := l) (E := E) (sz := _) (q1 := sD) (f := f) (x := rsC en ((allR (nI k)) &&& (pr ^^^ ((-1)))) k q) (v := nI p1) ) ⟨va_cnB 3 hts gX2_findDistricts_X4_setForMembers_n64 rfl rfl rfl hN.2.2.1 (hts _ inX4_X2_findDistricts) (by decide +kernel) ⟨by rw [hR]; decide, by rw [hR]; decide⟩, hts _ stX4_setForMembers_X2_findDistricts, trivial⟩ hK hN hP hD hS hA [1] [0, 2, 3, 4] rfl (by decide) rfl (by decide) (by decide) rfl hl.1 rfl (Nat.le_of_ble_eq_true rfl) dX2_findDistricts_60 ⟨Nat.zero_le _, Nat.zero_le _⟩ (fun H locs hP hD hS => ?_)
          have hP : va_P E.1 vwCl [(s0, .inr (2, [.ref t0, .ref sP, .ref sD, .ref sS, .ref sL, .ref sF, .int pc, .int (nI p1), .int pr])), (sS, aI E 16 f2), (t0, .inr (3, [.int (nI n), .int (nI k), .ref q1, .ref q2, .ref q3, .ref q4])), (q4, aI E 30 en), (sD, aI E 16 (sfm f (rsC en ((allR (nI k)) &&& (pr ^^^ ((-1)))) k q) (nI p1) 16))] H := hP
          have hD : va_D A [(s0, .inr (2, [.ref t0, .ref sP, .ref sD, .ref sS, .ref sL, .ref sF, .int pc, .int (nI p1), .int pr])), (sS, aI E 16 f2), (t0, .inr (3, [.int (nI n), .int (nI k), .ref q1, .ref q2, .ref q3, .ref q4])), (q4, aI E 30 en), (sD, aI E 16 (sfm f (rsC en ((allR (nI k)) &&& (pr ^^^ ((-1)))) k q) (nI p1) 16))] := hD
          refine lv_aload_n hx hb dX2_findDistricts_63 rfl (lv_at hl 3 rfl) ?_
          refine rk_get (ci := 2) (C := RX2) (T := TX2) (N := 9) hx hb hts iw_X2_findDistricts_2 hown hK hP 0 rfl rfl 3 (by decide) fl_X2_findDistricts_18 rfl (v := .ref sS) rfl dX2_findDistricts_64 ?_
          refine lv_aload_n hx hb dX2_findDistricts_67 rfl (lv_at hl 3 rfl) ?_
          refine rk_get (ci := 2) (C := RX2) (T := TX2) (N := 9) hx hb hts iw_X2_findDistricts_2 hown hK hP 0 rfl rfl 7 (by decide) fl_X2_findDistricts_80 rfl (v := .int (nI p1)) rfl dX2_findDistricts_68 ?_
          refine lv_iload_n hx hb dX2_findDistricts_71 rfl (lv_at hl 0 rfl) ?_
          refine rk_iast hx hb hK hP hD hS 1 rfl (by omega) (by omega) (ws' := [(s0, .inr (2, [.ref t0, .ref sP, .ref sD, .ref sS, .ref sL, .ref sF, .int pc, .int (nI p1), .int pr])), (sS, aI E 16 (upd f2 p1 (rsC en ((allR (nI k)) &&& (pr ^^^ ((-1)))) k q))), (t0, .inr (3, [.int (nI n), .int (nI k), .ref q1, .ref q2, .ref q3, .ref q4])), (q4, aI E 30 en), (sD, aI E 16 (sfm f (rsC en ((allR (nI k)) &&& (pr ^^^ ((-1)))) k q) (nI p1) 16))]) rfl dX2_findDistricts_72 (fun H locs hP hD hS => ?_)
          refine lv_iload_n hx hb dX2_findDistricts_73 rfl (lv_at hl 2 rfl) ?_
          refine lv_iload_n hx hb dX2_findDistricts_74 rfl (lv_at hl 0 rfl) ?_
          refine lv_ior hx hb dX2_findDistricts_75 ?_
          refine lv_istore_n (lv' := [(1, .int (sn ||| (rsC en ((allR (nI k)) &&& (pr ^^^ ((-1)))) k q))), (3, .int (rsC en ((allR (nI k)) &&& (pr ^^^ ((-1)))) k q)), (2, .int (nI q)), (0, .ref s0)]) hx hb dX2_findDistricts_76 rfl hl (by decide) rfl (fun ls hl => ?_)
          refine lv_aload_n hx hb dX2_findDistricts_77 rfl (lv_at hl 3 rfl) ?_
          refine lv_dup hx hb dX2_findDistricts_78 rfl ?_
          refine rk_get (ci := 2) (C := RX2) (T := TX2) (N := 9) hx hb hts iw_X2_findDistricts_2 hown hK hP 0 rfl rfl 7 (by decide) fl_X2_findDistricts_80 rfl (v := .int (nI p1)) rfl dX2_findDistricts_79 ?_
          refine lv_iconst (v := nI 1) hx hb dX2_findDistricts_82 (by decide) ?_
          refine rk_iaddN hx hb dX2_findDistricts_83 ?_
          refine rk_put (ci := 2) (C := RX2) (T := TX2) (N := 9) hx hb hts iw_X2_findDistricts_2 tyX2 tyX2_ok nmX2 hown hK hP hD hS 0 rfl rfl 7 (by decide) fl_X2_findDistricts_80 rfl rfl (tyX2_ok 7 (by decide)) rfl rfl (Nat.le_of_ble_eq_true rfl) (ws' := [(s0, .inr (2, [.ref t0, .ref sP, .ref sD, .ref sS, .ref sL, .ref sF, .int pc, .int (nI (p1 + 1)), .int pr])), (sS, aI E 16 (upd f2 p1 (rsC en ((allR (nI k)) &&& (pr ^^^ ((-1)))) k q))), (t0, .inr (3, [.int (nI n), .int (nI k), .ref q1, .ref q2, .ref q3, .ref q4])), (q4, aI E 30 en), (sD, aI E 16 (sfm f (rsC en ((allR (nI k)) &&& (pr ^^^ ((-1)))) k q) (nI p1) 16))]) rfl dX2_findDistricts_84 (fun H locs hP hD hS => ?_)
          refine lv_iinc (v := nI (q + 1)) (lv' := [(2, .int (nI (q + 1))), (1, .int (sn ||| (rsC en ((allR (nI k)) &&& (pr ^^^ ((-1)))) k q))), (3, .int (rsC en ((allR (nI k)) &&& (pr ^^^ ((-1)))) k q)), (0, .ref s0)]) hx hb dX2_findDistricts_87 hl (k := 2) rfl (by rw [show Int32.ofInt 1 = nI 1 by decide]; exact nI_add _ _) (by decide) rfl (fun ls hl => ?_)
          refine lv_goto (tgt := 9) hx hb dX2_findDistricts_90 (by decide) ?_
          exact ih9 (sn ||| (rsC en ((allR (nI k)) &&& (pr ^^^ ((-1)))) k q)) (q + 1) (p1 + 1) (sfm f (rsC en ((allR (nI k)) &&& (pr ^^^ ((-1)))) k q) (nI p1) 16) (upd f2 p1 (rsC en ((allR (nI k)) &&& (pr ^^^ ((-1)))) k q)) (by subst e1; subst e2; subst e3; subst e4; rw [swD_f zc25]) (by subst e1; subst e2; subst e3; subst e4; rw [swD_f zc25]) (by subst e1; subst e2; subst e3; subst e4; rw [swD_f zc25]) (by subst e1; subst e2; subst e3; subst e4; rw [swD_f zc25]) (by first | assumption | omega | rfl) (by omega) _ _ (hP.sub [0, 2, 4, 1, 3] rfl) (hD.sub [0, 2, 4, 1, 3] (by decide) rfl) hS ls (lv_sub hl [0, 1, 3] rfl)
  exact L9 ((n - 0) + 1) (nI 0) 0 0 dO dS (rfl) (rfl) (rfl) (rfl) (by first | assumption | omega | rfl) (Nat.lt_succ_self _) _ _ (hP.sub [0, 1, 2, 3, 4] rfl) (hD.sub [0, 1, 2, 3, 4] (by decide) rfl) hS ls (lv_sub hl [0, 1, 2] rfl)
set_option maxHeartbeats 400000 in
set_option maxRecDepth 100000 in
theorem c_X2_renew (l : Launch) (E : EE) (sz : Nat) (s0 t0 sP sD sS sL sF q1 q2 q3 q4 : Nat) (k n : Nat) (pc ds pr : Int32) (po dO dS lS lo hi en : Nat → Int32) (a : Nat → Nat) (gk : k ≤ 30) (gn : n ≤ 16) (glo : ∀ r, r < k → lo r = nI (a r)) (ga : ∀ r, r < k → a r < 16) : Cv l yX2_renew wsX2_renew 3 70 E [.ref s0] [(s0, .inr (2, [.ref t0, .ref sP, .ref sD, .ref sS, .ref sL, .ref sF, .int pc, .int ds, .int pr])), (t0, .inr (3, [.int (nI n), .int (nI k), .ref q1, .ref q2, .ref q3, .ref q4])), (sP, aI E 16 po), (sD, aI E 16 dO), (sS, aI E 16 dS), (sL, aI E 30 lS), (q1, aI E 30 lo), (q2, aI E 30 hi), (q4, aI E 30 en)] sz [(s0, .inr (2, [.ref t0, .ref sP, .ref sD, .ref sS, .ref sL, .ref sF, .int (nI ((swP (rsC en (allR (nI k)) k) po n).2.1)), .int (nI ((swD (rsC en (allR (nI k) &&& ((pRs (sdR en k a) hi k) ^^^ (-1))) k) dO dS n).2.1)), .int (pRs (sdR en k a) hi k)])), (t0, .inr (3, [.int (nI n), .int (nI k), .ref q1, .ref q2, .ref q3, .ref q4])), (sP, aI E 16 ((swP (rsC en (allR (nI k)) k) po n).2.2)), (sD, aI E 16 ((swD (rsC en (allR (nI k) &&& ((pRs (sdR en k a) hi k) ^^^ (-1))) k) dO dS n).2.2.1)), (sS, aI E 16 ((swD (rsC en (allR (nI k) &&& ((pRs (sdR en k a) hi k) ^^^ (-1))) k) dO dS n).2.2.2)), (sL, aI E 30 (lsf lS (sdR en k a) k)), (q1, aI E 30 lo), (q2, aI E 30 hi), (q4, aI E 30 en)] := by
  refine C_of (QQ := QV E [(s0, .inr (2, [.ref t0, .ref sP, .ref sD, .ref sS, .ref sL, .ref sF, .int (nI ((swP (rsC en (allR (nI k)) k) po n).2.1)), .int (nI ((swD (rsC en (allR (nI k) &&& ((pRs (sdR en k a) hi k) ^^^ (-1))) k) dO dS n).2.1)), .int (pRs (sdR en k a) hi k)])), (t0, .inr (3, [.int (nI n), .int (nI k), .ref q1, .ref q2, .ref q3, .ref q4])), (sP, aI E 16 ((swP (rsC en (allR (nI k)) k) po n).2.2)), (sD, aI E 16 ((swD (rsC en (allR (nI k) &&& ((pRs (sdR en k a) hi k) ^^^ (-1))) k) dO dS n).2.2.1)), (sS, aI E 16 ((swD (rsC en (allR (nI k) &&& ((pRs (sdR en k a) hi k) ^^^ (-1))) k) dO dS n).2.2.2)), (sL, aI E 30 (lsf lS (sdR en k a) k)), (q1, aI E 30 lo), (q2, aI E 30 hi), (q4, aI E 30 en)]) (cc := cX2_renew) (maxL := 1) (ret := none) (by decide +kernel) rfl (Nat.le_of_ble_eq_true rfl) ?_
  intro p e s m args below meth c A R Q ls hx hb hr hts hown hml hlocks hA hK hN hP hD hS hl hR hQ
  have hown : s.vm.findClass RX2 = some m.cls := hown
  have hl : lv_has ls 1 [(0, .ref s0)] := hl
  refine lv_aload_n hx hb dX2_renew_0 rfl (lv_at hl 0 rfl) ?_
  refine kV_v (E := E) (As := []) (rest := []) (wr := [(sD, aI E 16 dO), (sS, aI E 16 dS), (sL, aI E 30 lS), (q1, aI E 30 lo), (q2, aI E 30 hi)]) ⟨hx, hb, hml, hown, hts⟩ (c_X2_findPieces (l := l) (E := E) (sz := _) (s0 := s0) (t0 := t0) (sP := sP) (sD := sD) (sS := sS) (sL := sL) (sF := sF) (q1 := q1) (q2 := q2) (q3 := q3) (q4 := q4) (k := k) (n := n) (pc := pc) (ds := ds) (pr := pr) (po := po) (en := en) (gk := by first | assumption | omega) (gn := by first | assumption | omega)) (cwV 0 hts gX2_renew_X2_findPieces rfl rfl rfl (by decide +kernel) ⟨by rw [hR]; decide, by rw [hR]; decide⟩) hK hN hP hD hS hA [0, 1, 2, 8] [3, 4, 5, 6, 7] rfl (by decide) rfl (by decide) (by decide) 0 2 rfl rfl rfl hl.1 rfl (Nat.le_of_ble_eq_true rfl) dX2_renew_1 ⟨Nat.zero_le _, Nat.zero_le _⟩ (fun H locs hP hD hS => ?_)
  have hP : va_P E.1 vwCl [(sD, aI E 16 dO), (sS, aI E 16 dS), (sL, aI E 30 lS), (q1, aI E 30 lo), (q2, aI E 30 hi), (s0, .inr (2, [.ref t0, .ref sP, .ref sD, .ref sS, .ref sL, .ref sF, .int (nI ((swP (rsC en (allR (nI k)) k) po n).2.1)), .int ds, .int pr])), (t0, .inr (3, [.int (nI n), .int (nI k), .ref q1, .ref q2, .ref q3, .ref q4])), (sP, aI E 16 ((swP (rsC en (allR (nI k)) k) po n).2.2)), (q4, aI E 30 en)] H := hP
  have hD : va_D A [(sD, aI E 16 dO), (sS, aI E 16 dS), (sL, aI E 30 lS), (q1, aI E 30 lo), (q2, aI E 30 hi), (s0, .inr (2, [.ref t0, .ref sP, .ref sD, .ref sS, .ref sL, .ref sF, .int (nI ((swP (rsC en (allR (nI k)) k) po n).2.1)), .int ds, .int pr])), (t0, .inr (3, [.int (nI n), .int (nI k), .ref q1, .ref q2, .ref q3, .ref q4])), (sP, aI E 16 ((swP (rsC en (allR (nI k)) k) po n).2.2)), (q4, aI E 30 en)] := hD
  refine lv_aload_n hx hb dX2_renew_4 rfl (lv_at hl 0 rfl) ?_
  refine kV_v (E := E) (As := []) (rest := []) (wr := [(sD, aI E 16 dO), (sS, aI E 16 dS), (sP, aI E 16 ((swP (rsC en (allR (nI k)) k) po n).2.2))]) ⟨hx, hb, hml, hown, hts⟩ (c_X2_findPartingRoads (l := l) (E := E) (sz := _) (s0 := s0) (t0 := t0) (sP := sP) (sD := sD) (sS := sS) (sL := sL) (sF := sF) (q1 := q1) (q2 := q2) (q3 := q3) (q4 := q4) (sc := nI n) (k := k) (pc := nI ((swP (rsC en (allR (nI k)) k) po n).2.1)) (ds := ds) (pr := pr) (lS := lS) (lo := lo) (hi := hi) (en := en) (a := a) (gk := by first | assumption | omega) (glo := by first | assumption | omega) (ga := by first | assumption | omega)) (cwV 0 hts gX2_renew_X2_findPartingRoads rfl rfl rfl (by decide +kernel) ⟨by rw [hR]; decide, by rw [hR]; decide⟩) hK hN hP hD hS hA [5, 6, 2, 3, 4, 8] [0, 1, 7] rfl (by decide) rfl (by decide) (by decide) 5 2 rfl rfl rfl hl.1 rfl (Nat.le_of_ble_eq_true rfl) dX2_renew_5 ⟨Nat.zero_le _, Nat.zero_le _⟩ (fun H locs hP hD hS => ?_)
  have hP : va_P E.1 vwCl [(sD, aI E 16 dO), (sS, aI E 16 dS), (sP, aI E 16 ((swP (rsC en (allR (nI k)) k) po n).2.2)), (s0, .inr (2, [.ref t0, .ref sP, .ref sD, .ref sS, .ref sL, .ref sF, .int (nI ((swP (rsC en (allR (nI k)) k) po n).2.1)), .int ds, .int (pRs (sdR en k a) hi k)])), (t0, .inr (3, [.int (nI n), .int (nI k), .ref q1, .ref q2, .ref q3, .ref q4])), (sL, aI E 30 (lsf lS (sdR en k a) k)), (q1, aI E 30 lo), (q2, aI E 30 hi), (q4, aI E 30 en)] H := hP
  have hD : va_D A [(sD, aI E 16 dO), (sS, aI E 16 dS), (sP, aI E 16 ((swP (rsC en (allR (nI k)) k) po n).2.2)), (s0, .inr (2, [.ref t0, .ref sP, .ref sD, .ref sS, .ref sL, .ref sF, .int (nI ((swP (rsC en (allR (nI k)) k) po n).2.1)), .int ds, .int (pRs (sdR en k a) hi k)])), (t0, .inr (3, [.int (nI n), .int (nI k), .ref q1, .ref q2, .ref q3, .ref q4])), (sL, aI E 30 (lsf lS (sdR en k a) k)), (q1, aI E 30 lo), (q2, aI E 30 hi), (q4, aI E 30 en)] := hD
  refine lv_aload_n hx hb dX2_renew_8 rfl (lv_at hl 0 rfl) ?_
  refine kV_v (E := E) (As := []) (rest := []) (wr := [(sP, aI E 16 ((swP (rsC en (allR (nI k)) k) po n).2.2)), (sL, aI E 30 (lsf lS (sdR en k a) k)), (q1, aI E 30 lo), (q2, aI E 30 hi)]) ⟨hx, hb, hml, hown, hts⟩ (c_X2_findDistricts (l := l) (E := E) (sz := _) (s0 := s0) (t0 := t0) (sP := sP) (sD := sD) (sS := sS) (sL := sL) (sF := sF) (q1 := q1) (q2 := q2) (q3 := q3) (q4 := q4) (k := k) (n := n) (pc := nI ((swP (rsC en (allR (nI k)) k) po n).2.1)) (ds := ds) (pr := pRs (sdR en k a) hi k) (dO := dO) (dS := dS) (en := en) (gk := by first | assumption | omega) (gn := by first | assumption | omega)) (cwV 0 hts gX2_renew_X2_findDistricts rfl rfl rfl (by decide +kernel) ⟨by rw [hR]; decide, by rw [hR]; decide⟩) hK hN hP hD hS hA [3, 4, 0, 1, 8] [2, 5, 6, 7] rfl (by decide) rfl (by decide) (by decide) 3 2 rfl rfl rfl hl.1 rfl (Nat.le_of_ble_eq_true rfl) dX2_renew_9 ⟨Nat.zero_le _, Nat.zero_le _⟩ (fun H locs hP hD hS => ?_)
  have hP : va_P E.1 vwCl [(sP, aI E 16 ((swP (rsC en (allR (nI k)) k) po n).2.2)), (sL, aI E 30 (lsf lS (sdR en k a) k)), (q1, aI E 30 lo), (q2, aI E 30 hi), (s0, .inr (2, [.ref t0, .ref sP, .ref sD, .ref sS, .ref sL, .ref sF, .int (nI ((swP (rsC en (allR (nI k)) k) po n).2.1)), .int (nI ((swD (rsC en (allR (nI k) &&& ((pRs (sdR en k a) hi k) ^^^ (-1))) k) dO dS n).2.1)), .int (pRs (sdR en k a) hi k)])), (t0, .inr (3, [.int (nI n), .int (nI k), .ref q1, .ref q2, .ref q3, .ref q4])), (sD, aI E 16 ((swD (rsC en (allR (nI k) &&& ((pRs (sdR en k a) hi k) ^^^ (-1))) k) dO dS n).2.2.1)), (sS, aI E 16 ((swD (rsC en (allR (nI k) &&& ((pRs (sdR en k a) hi k) ^^^ (-1))) k) dO dS n).2.2.2)), (q4, aI E 30 en)] H := hP
  have hD : va_D A [(sP, aI E 16 ((swP (rsC en (allR (nI k)) k) po n).2.2)), (sL, aI E 30 (lsf lS (sdR en k a) k)), (q1, aI E 30 lo), (q2, aI E 30 hi), (s0, .inr (2, [.ref t0, .ref sP, .ref sD, .ref sS, .ref sL, .ref sF, .int (nI ((swP (rsC en (allR (nI k)) k) po n).2.1)), .int (nI ((swD (rsC en (allR (nI k) &&& ((pRs (sdR en k a) hi k) ^^^ (-1))) k) dO dS n).2.1)), .int (pRs (sdR en k a) hi k)])), (t0, .inr (3, [.int (nI n), .int (nI k), .ref q1, .ref q2, .ref q3, .ref q4])), (sD, aI E 16 ((swD (rsC en (allR (nI k) &&& ((pRs (sdR en k a) hi k) ^^^ (-1))) k) dO dS n).2.2.1)), (sS, aI E 16 ((swD (rsC en (allR (nI k) &&& ((pRs (sdR en k a) hi k) ^^^ (-1))) k) dO dS n).2.2.2)), (q4, aI E 30 en)] := hD
  exact ret_v hQ hx hb hr hlocks (hP.sub [4, 5, 0, 6, 7, 1, 2, 3, 8] rfl) (hD.sub [4, 5, 0, 6, 7, 1, 2, 3, 8] (by decide) rfl) hS dX2_renew_12
theorem iw_X2_hangTogether_2 : ∀ w ∈ u_ws RX2 TX2 9, w ∈ wsX2_hangTogether := by decide +kernel
theorem fl_X2_hangTogether_9 : Cond.fieldLink RX2 9 (TX2 1).1 (TX2 1).2.1 (TX2 1).2.2.1 ∈ wsX2_hangTogether := by decide +kernel
theorem inX4_X2_hangTogether : Cond.initialized RX4 ∈ wsX2_hangTogether := by decide +kernel
theorem stX4_contains_X2_hangTogether : Cond.static yX4_contains ∈ wsX2_hangTogether := by decide +kernel
set_option maxHeartbeats 400000 in
set_option maxRecDepth 100000 in
theorem c_X2_hangTogether (l : Launch) (E : EE) (sz : Nat) (s0 t0 sP sD sS sL sF q1 q2 q3 q4 : Nat) (pc ds pr : Int32) (x : Nat) (y : Int32) (po : Nat → Int32) (g1 : x < 16) : Ci l yX2_hangTogether wsX2_hangTogether 1 21 E [.ref s0, .int (nI x), .int y] [(s0, .inr (2, [.ref t0, .ref sP, .ref sD, .ref sS, .ref sL, .ref sF, .int pc, .int ds, .int pr])), (sP, aI E 16 po)] sz (b2i (cnt (po x) y)) [(s0, .inr (2, [.ref t0, .ref sP, .ref sD, .ref sS, .ref sL, .ref sF, .int pc, .int ds, .int pr])), (sP, aI E 16 po)] := by
  refine C_of (QQ := QI E (b2i (cnt (po x) y)) [(s0, .inr (2, [.ref t0, .ref sP, .ref sD, .ref sS, .ref sL, .ref sF, .int pc, .int ds, .int pr])), (sP, aI E 16 po)]) (cc := cX2_hangTogether) (maxL := 3) (ret := (some .boolean)) (by decide +kernel) rfl (Nat.le_of_ble_eq_true rfl) ?_
  intro p e s m args below meth c A R Q ls hx hb hr hts hown hml hlocks hA hK hN hP hD hS hl hR hQ
  have hown : s.vm.findClass RX2 = some m.cls := hown
  have hl : lv_has ls 3 [(0, .ref s0), (1, .int (nI x)), (2, .int y)] := hl
  refine lv_aload_n hx hb dX2_hangTogether_0 rfl (lv_at hl 0 rfl) ?_
  refine rk_get (ci := 2) (C := RX2) (T := TX2) (N := 9) hx hb hts iw_X2_hangTogether_2 hown hK hP 0 rfl rfl 1 (by decide) fl_X2_hangTogether_9 rfl (v := .ref sP) rfl dX2_hangTogether_1 ?_
  refine lv_iload_n hx hb dX2_hangTogether_4 rfl (lv_at hl 1 rfl) ?_
  refine rk_iald hx hb hK hP 1 rfl (by omega) (by omega) (v := po x) (rfl) dX2_hangTogether_5 ?_
  refine lv_iload_n hx hb dX2_hangTogether_6 rfl (lv_at hl 2 rfl) ?_
  refine kSN_i (E := E) (As := [.int (po x), .int y]) (rest := []) (wr := [(s0, .inr (2, [.ref t0, .ref sP, .ref sD, .ref sS, .ref sL, .ref sF, .int pc, .int ds, .int pr])), (sP, aI E 16 po)]) ⟨hx, hb, hml, hown, hts⟩ (c_X4_contains (l := l) (E := E) (sz := _) (x := po x) (y := y) ) ⟨va_cnB 2 hts gX2_hangTogether_X4_contains_n52 rfl rfl rfl hN.2.1 (hts _ inX4_X2_hangTogether) (by decide +kernel) ⟨by rw [hR]; decide, by rw [hR]; decide⟩, hts _ stX4_contains_X2_hangTogether, trivial⟩ hK hN hP hD hS hA [] [0, 1] rfl (by decide) rfl (by decide) (by decide) rfl hl.1 rfl (Nat.le_of_ble_eq_true rfl) dX2_hangTogether_7 ⟨Nat.zero_le _, Nat.zero_le _⟩ (fun H locs hP hD hS => ?_)
  have hP : va_P E.1 vwCl [(s0, .inr (2, [.ref t0, .ref sP, .ref sD, .ref sS, .ref sL, .ref sF, .int pc, .int ds, .int pr])), (sP, aI E 16 po)] H := hP
  have hD : va_D A [(s0, .inr (2, [.ref t0, .ref sP, .ref sD, .ref sS, .ref sL, .ref sF, .int pc, .int ds, .int pr])), (sP, aI E 16 po)] := hD
  exact ret_z hQ hx hb hr hlocks (hP.sub [0, 1] rfl) (hD.sub [0, 1] (by decide) rfl) hS dX2_hangTogether_10 (b2i_nz _) (rfl)
theorem iw_X2_squaresBehind_2 : ∀ w ∈ u_ws RX2 TX2 9, w ∈ wsX2_squaresBehind := by decide +kernel
theorem fl_X2_squaresBehind_21 : Cond.fieldLink RX2 21 (TX2 4).1 (TX2 4).2.1 (TX2 4).2.2.1 ∈ wsX2_squaresBehind := by decide +kernel
theorem fl_X2_squaresBehind_9 : Cond.fieldLink RX2 9 (TX2 1).1 (TX2 1).2.1 (TX2 1).2.2.1 ∈ wsX2_squaresBehind := by decide +kernel
theorem inX4_X2_squaresBehind : Cond.initialized RX4 ∈ wsX2_squaresBehind := by decide +kernel
theorem stX4_contains_X2_squaresBehind : Cond.static yX4_contains ∈ wsX2_squaresBehind := by decide +kernel
set_option maxHeartbeats 400000 in
set_option maxRecDepth 100000 in
theorem c_X2_squaresBehind (l : Launch) (E : EE) (sz : Nat) (s0 t0 sP sD sS sL sF q1 q2 q3 q4 : Nat) (pc ds pr : Int32) (x r : Nat) (po lS : Nat → Int32) (g1 : x < 16) (g2 : r < 30) : Ci l yX2_squaresBehind wsX2_squaresBehind 1 21 E [.ref s0, .int (nI x), .int (nI r)] [(s0, .inr (2, [.ref t0, .ref sP, .ref sD, .ref sS, .ref sL, .ref sF, .int pc, .int ds, .int pr])), (sP, aI E 16 po), (sL, aI E 30 lS)] sz (sqB po lS x r) [(s0, .inr (2, [.ref t0, .ref sP, .ref sD, .ref sS, .ref sL, .ref sF, .int pc, .int ds, .int pr])), (sP, aI E 16 po), (sL, aI E 30 lS)] := by
  refine C_of (QQ := QI E (sqB po lS x r) [(s0, .inr (2, [.ref t0, .ref sP, .ref sD, .ref sS, .ref sL, .ref sF, .int pc, .int ds, .int pr])), (sP, aI E 16 po), (sL, aI E 30 lS)]) (cc := cX2_squaresBehind) (maxL := 4) (ret := (some .int)) (by decide +kernel) rfl (Nat.le_of_ble_eq_true rfl) ?_
  intro p e s m args below meth c A R Q ls hx hb hr hts hown hml hlocks hA hK hN hP hD hS hl hR hQ
  have hown : s.vm.findClass RX2 = some m.cls := hown
  have hl : lv_has ls 4 [(0, .ref s0), (1, .int (nI x)), (2, .int (nI r))] := hl
  refine lv_aload_n hx hb dX2_squaresBehind_0 rfl (lv_at hl 0 rfl) ?_
  refine rk_get (ci := 2) (C := RX2) (T := TX2) (N := 9) hx hb hts iw_X2_squaresBehind_2 hown hK hP 0 rfl rfl 4 (by decide) fl_X2_squaresBehind_21 rfl (v := .ref sL) rfl dX2_squaresBehind_1 ?_
  refine lv_iload_n hx hb dX2_squaresBehind_4 rfl (lv_at hl 2 rfl) ?_
  refine rk_iald hx hb hK hP 2 rfl (by omega) (by omega) (v := lS r) (rfl) dX2_squaresBehind_5 ?_
  refine lv_istore_n (lv' := [(3, .int (lS r)), (0, .ref s0), (1, .int (nI x)), (2, .int (nI r))]) hx hb dX2_squaresBehind_6 rfl hl (by decide) rfl (fun ls hl => ?_)
  refine lv_aload_n hx hb dX2_squaresBehind_7 rfl (lv_at hl 1 rfl) ?_
  refine rk_get (ci := 2) (C := RX2) (T := TX2) (N := 9) hx hb hts iw_X2_squaresBehind_2 hown hK hP 0 rfl rfl 1 (by decide) fl_X2_squaresBehind_9 rfl (v := .ref sP) rfl dX2_squaresBehind_8 ?_
  refine lv_iload_n hx hb dX2_squaresBehind_11 rfl (lv_at hl 2 rfl) ?_
  refine rk_iald hx hb hK hP 1 rfl (by omega) (by omega) (v := po x) (rfl) dX2_squaresBehind_12 ?_
  refine lv_iload_n hx hb dX2_squaresBehind_13 rfl (lv_at hl 0 rfl) ?_
  refine lv_iload_n hx hb dX2_squaresBehind_14 rfl (lv_at hl 2 rfl) ?_
  refine kSN_i (E := E) (As := [.int (lS r), .int (nI x)]) (rest := [.int (po x)]) (wr := [(s0, .inr (2, [.ref t0, .ref sP, .ref sD, .ref sS, .ref sL, .ref sF, .int pc, .int ds, .int pr])), (sP, aI E 16 po), (sL, aI E 30 lS)]) ⟨hx, hb, hml, hown, hts⟩ (c_X4_contains (l := l) (E := E) (sz := _) (x := lS r) (y := nI x) ) ⟨va_cnB 2 hts gX2_squaresBehind_X4_contains_n52 rfl rfl rfl hN.2.1 (hts _ inX4_X2_squaresBehind) (by decide +kernel) ⟨by rw [hR]; decide, by rw [hR]; decide⟩, hts _ stX4_contains_X2_squaresBehind, trivial⟩ hK hN hP hD hS hA [] [0, 1, 2] rfl (by decide) rfl (by decide) (by decide) rfl hl.1 rfl (Nat.le_of_ble_eq_true rfl) dX2_squaresBehind_15 ⟨Nat.zero_le _, Nat.zero_le _⟩ (fun H locs hP hD hS => ?_)
  have hP : va_P E.1 vwCl [(s0, .inr (2, [.ref t0, .ref sP, .ref sD, .ref sS, .ref sL, .ref sF, .int pc, .int ds, .int pr])), (sP, aI E 16 po), (sL, aI E 30 lS)] H := hP
  have hD : va_D A [(s0, .inr (2, [.ref t0, .ref sP, .ref sD, .ref sS, .ref sL, .ref sF, .int pc, .int ds, .int pr])), (sP, aI E 16 po), (sL, aI E 30 lS)] := hD
  refine rk_if_eqB (tgt := 27) hx hb dX2_squaresBehind_18 (by decide) (fun zc18 => ?_) (fun zc18 => ?_)
  · refine lv_iload_n hx hb dX2_squaresBehind_27 rfl (lv_at hl 0 rfl) ?_
    refine lv_iand hx hb dX2_squaresBehind_28 ?_
    exact ret_i hQ hx hb hr hlocks (hP.sub [0, 1, 2] rfl) (hD.sub [0, 1, 2] (by decide) rfl) hS dX2_squaresBehind_29 (by exact (sqB_f zc18).symm)
  · refine lv_iload_n hx hb dX2_squaresBehind_21 rfl (lv_at hl 0 rfl) ?_
    refine lv_iconst (v := (-1)) hx hb dX2_squaresBehind_22 (by decide) ?_
    refine lv_ixor hx hb dX2_squaresBehind_23 ?_
    refine lv_goto (tgt := 28) hx hb dX2_squaresBehind_24 (by decide) ?_
    refine lv_iand hx hb dX2_squaresBehind_28 ?_
    exact ret_i hQ hx hb hr hlocks (hP.sub [0, 1, 2] rfl) (hD.sub [0, 1, 2] (by decide) rfl) hS dX2_squaresBehind_29 (by exact (sqB_t zc18).symm)
theorem iw_X2_pairsParted_2 : ∀ w ∈ u_ws RX2 TX2 9, w ∈ wsX2_pairsParted := by decide +kernel
theorem fl_X2_pairsParted_27 : Cond.fieldLink RX2 27 (TX2 0).1 (TX2 0).2.1 (TX2 0).2.2.1 ∈ wsX2_pairsParted := by decide +kernel
theorem iw_X2_pairsParted_3 : ∀ w ∈ u_ws RX3 TX3 6, w ∈ wsX2_pairsParted := by decide +kernel
theorem fl_X2_pairsParted_74 : Cond.fieldLink RX2 74 (TX3 2).1 (TX3 2).2.1 (TX3 2).2.2.1 ∈ wsX2_pairsParted := by decide +kernel
theorem inJ6_X2_pairsParted : Cond.initialized RJ6 ∈ wsX2_pairsParted := by decide +kernel
theorem ml86_X2_pairsParted : Cond.methodLink RX2 86 yJ6_bitCount_0f7a4 ∈ wsX2_pairsParted := by decide +kernel
theorem stJ6_X2_pairsParted : Cond.static yJ6_bitCount_0f7a4 ∈ wsX2_pairsParted := by decide +kernel
theorem fl_X2_pairsParted_9 : Cond.fieldLink RX2 9 (TX2 1).1 (TX2 1).2.1 (TX2 1).2.2.1 ∈ wsX2_pairsParted := by decide +kernel
set_option maxHeartbeats 400000 in
set_option maxRecDepth 100000 in
theorem c_X2_pairsParted (l : Launch) (E : EE) (sz : Nat) (s0 t0 sP sD sS sL sF q1 q2 q3 q4 : Nat) (sc : Int32) (k : Nat) (pc ds pr : Int32) (r : Nat) (po lS lo : Nat → Int32) (a : Nat → Nat) (gr : r < k) (gk : k ≤ 30) (glo : ∀ r, r < k → lo r = nI (a r)) (ga : ∀ r, r < k → a r < 16) : Ci l yX2_pairsParted wsX2_pairsParted 2 44 E [.ref s0, .int (nI r)] [(s0, .inr (2, [.ref t0, .ref sP, .ref sD, .ref sS, .ref sL, .ref sF, .int pc, .int ds, .int pr])), (t0, .inr (3, [.int sc, .int (nI k), .ref q1, .ref q2, .ref q3, .ref q4])), (sP, aI E 16 po), (sL, aI E 30 lS), (q1, aI E 30 lo)] sz (nI (popc (sqB po lS (a r) r)) * (nI (popc (po (a r))) - nI (popc (sqB po lS (a r) r)))) [(s0, .inr (2, [.ref t0, .ref sP, .ref sD, .ref sS, .ref sL, .ref sF, .int pc, .int ds, .int pr])), (t0, .inr (3, [.int sc, .int (nI k), .ref q1, .ref q2, .ref q3, .ref q4])), (sP, aI E 16 po), (sL, aI E 30 lS), (q1, aI E 30 lo)] := by
  refine C_of (QQ := QI E (nI (popc (sqB po lS (a r) r)) * (nI (popc (po (a r))) - nI (popc (sqB po lS (a r) r)))) [(s0, .inr (2, [.ref t0, .ref sP, .ref sD, .ref sS, .ref sL, .ref sF, .int pc, .int ds, .int pr])), (t0, .inr (3, [.int sc, .int (nI k), .ref q1, .ref q2, .ref q3, .ref q4])), (sP, aI E 16 po), (sL, aI E 30 lS), (q1, aI E 30 lo)]) (cc := cX2_pairsParted) (maxL := 4) (ret := (some .int)) (by decide +kernel) rfl (Nat.le_of_ble_eq_true rfl) ?_
  intro p e s m args below meth c A R Q ls hx hb hr hts hown hml hlocks hA hK hN hP hD hS hl hR hQ
  have hown : s.vm.findClass RX2 = some m.cls := hown
  have hl : lv_has ls 4 [(0, .ref s0), (1, .int (nI r))] := hl
  refine lv_aload_n hx hb dX2_pairsParted_0 rfl (lv_at hl 0 rfl) ?_
  refine rk_get (ci := 2) (C := RX2) (T := TX2) (N := 9) hx hb hts iw_X2_pairsParted_2 hown hK hP 0 rfl rfl 0 (by decide) fl_X2_pairsParted_27 rfl (v := .ref t0) rfl dX2_pairsParted_1 ?_
  refine rk_get (ci := 3) (C := RX3) (T := TX3) (N := 6) hx hb hts iw_X2_pairsParted_3 hown hK hP 1 rfl rfl 2 (by decide) fl_X2_pairsParted_74 rfl (v := .ref q1) rfl dX2_pairsParted_4 ?_
  refine lv_iload_n hx hb dX2_pairsParted_7 rfl (lv_at hl 1 rfl) ?_
  refine rk_iald hx hb hK hP 4 rfl (by omega) (by omega) (v := nI (a r)) (glo r (by omega)) dX2_pairsParted_8 ?_
  refine lv_istore_n (lv' := [(2, .int (nI (a r))), (0, .ref s0), (1, .int (nI r))]) hx hb dX2_pairsParted_9 rfl hl (by decide) rfl (fun ls hl => ?_)
  refine lv_aload_n hx hb dX2_pairsParted_10 rfl (lv_at hl 1 rfl) ?_
  refine lv_iload_n hx hb dX2_pairsParted_11 rfl (lv_at hl 0 rfl) ?_
  refine lv_iload_n hx hb dX2_pairsParted_12 rfl (lv_at hl 2 rfl) ?_
  refine kV_i (E := E) (As := [.int (nI (a r)), .int (nI r)]) (rest := []) (wr := [(t0, .inr (3, [.int sc, .int (nI k), .ref q1, .ref q2, .ref q3, .ref q4])), (q1, aI E 30 lo)]) ⟨hx, hb, hml, hown, hts⟩ (c_X2_squaresBehind (l := l) (E := E) (sz := _) (s0 := s0) (t0 := t0) (sP := sP) (sD := sD) (sS := sS) (sL := sL) (sF := sF) (q1 := 0) (q2 := 0) (q3 := 0) (q4 := 0) (pc := pc) (ds := ds) (pr := pr) (x := a r) (r := r) (po := po) (lS := lS) (g1 := ga r gr) (g2 := by first | assumption | omega)) (cwV 2 hts gX2_pairsParted_X2_squaresBehind rfl rfl rfl (by decide +kernel) ⟨by rw [hR]; decide, by rw [hR]; decide⟩) hK hN hP hD hS hA [0, 2, 3] [1, 4] rfl (by decide) rfl (by decide) (by decide) 0 2 rfl rfl rfl hl.1 rfl (Nat.le_of_ble_eq_true rfl) dX2_pairsParted_13 ⟨Nat.zero_le _, Nat.zero_le _⟩ (fun H locs hP hD hS => ?_)
  have hP : va_P E.1 vwCl [(t0, .inr (3, [.int sc, .int (nI k), .ref q1, .ref q2, .ref q3, .ref q4])), (q1, aI E 30 lo), (s0, .inr (2, [.ref t0, .ref sP, .ref sD, .ref sS, .ref sL, .ref sF, .int pc, .int ds, .int pr])), (sP, aI E 16 po), (sL, aI E 30 lS)] H := hP
  have hD : va_D A [(t0, .inr (3, [.int sc, .int (nI k), .ref q1, .ref q2, .ref q3, .ref q4])), (q1, aI E 30 lo), (s0, .inr (2, [.ref t0, .ref sP, .ref sD, .ref sS, .ref sL, .ref sF, .int pc, .int ds, .int pr])), (sP, aI E 16 po), (sL, aI E 30 lS)] := hD
  refine kS_i (E := E) (As := [.int (sqB po lS (a r) r)]) (rest := []) (wr := [(t0, .inr (3, [.int sc, .int (nI k), .ref q1, .ref q2, .ref q3, .ref q4])), (q1, aI E 30 lo), (s0, .inr (2, [.ref t0, .ref sP, .ref sD, .ref sS, .ref sL, .ref sF, .int pc, .int ds, .int pr])), (sP, aI E 16 po), (sL, aI E 30 lS)]) ⟨hx, hb, hml, hown, hts⟩ (c_J6_bitCount_0f7a4 (l := l) (E := E) (sz := _) (x := sqB po lS (a r) r)) ⟨callB_of 1 hts ggX2_pairsParted_J6_bitCount_0f7a4 rfl rfl rfl (hts _ inJ6_X2_pairsParted) (hts _ ml86_X2_pairsParted) (by decide +kernel) ⟨by rw [hR]; decide, by rw [hR]; decide⟩, hts _ stJ6_X2_pairsParted⟩ hK hN hP hD hS hA [] [0, 1, 2, 3, 4] rfl (by decide) rfl (by decide) (by decide) rfl hl.1 rfl (Nat.le_of_ble_eq_true rfl) dX2_pairsParted_16 ⟨Nat.zero_le _, Nat.zero_le _⟩ (fun H locs hP hD hS => ?_)
  have hP : va_P E.1 vwCl [(t0, .inr (3, [.int sc, .int (nI k), .ref q1, .ref q2, .ref q3, .ref q4])), (q1, aI E 30 lo), (s0, .inr (2, [.ref t0, .ref sP, .ref sD, .ref sS, .ref sL, .ref sF, .int pc, .int ds, .int pr])), (sP, aI E 16 po), (sL, aI E 30 lS)] H := hP
  have hD : va_D A [(t0, .inr (3, [.int sc, .int (nI k), .ref q1, .ref q2, .ref q3, .ref q4])), (q1, aI E 30 lo), (s0, .inr (2, [.ref t0, .ref sP, .ref sD, .ref sS, .ref sL, .ref sF, .int pc, .int ds, .int pr])), (sP, aI E 16 po), (sL, aI E 30 lS)] := hD
  refine lv_istore_n (lv' := [(3, .int (nI (popc (sqB po lS (a r) r)))), (2, .int (nI (a r))), (0, .ref s0), (1, .int (nI r))]) hx hb dX2_pairsParted_19 rfl hl (by decide) rfl (fun ls hl => ?_)
  refine lv_iload_n hx hb dX2_pairsParted_20 rfl (lv_at hl 0 rfl) ?_
  refine lv_aload_n hx hb dX2_pairsParted_21 rfl (lv_at hl 2 rfl) ?_
  refine rk_get (ci := 2) (C := RX2) (T := TX2) (N := 9) hx hb hts iw_X2_pairsParted_2 hown hK hP 2 rfl rfl 1 (by decide) fl_X2_pairsParted_9 rfl (v := .ref sP) rfl dX2_pairsParted_22 ?_
  refine lv_iload_n hx hb dX2_pairsParted_25 rfl (lv_at hl 1 rfl) ?_
  refine rk_iald hx hb hK hP 3 rfl (ga r gr) (by omega) (v := po (a r)) (rfl) dX2_pairsParted_26 ?_
  refine kS_i (E := E) (As := [.int (po (a r))]) (rest := [.int (nI (popc (sqB po lS (a r) r)))]) (wr := [(t0, .inr (3, [.int sc, .int (nI k), .ref q1, .ref q2, .ref q3, .ref q4])), (q1, aI E 30 lo), (s0, .inr (2, [.ref t0, .ref sP, .ref sD, .ref sS, .ref sL, .ref sF, .int pc, .int ds, .int pr])), (sP, aI E 16 po), (sL, aI E 30 lS)]) ⟨hx, hb, hml, hown, hts⟩ (c_J6_bitCount_0f7a4 (l := l) (E := E) (sz := _) (x := po (a r))) ⟨callB_of 1 hts ggX2_pairsParted_J6_bitCount_0f7a4 rfl rfl rfl (hts _ inJ6_X2_pairsParted) (hts _ ml86_X2_pairsParted) (by decide +kernel) ⟨by rw [hR]; decide, by rw [hR]; decide⟩, hts _ stJ6_X2_pairsParted⟩ hK hN hP hD hS hA [] [0, 1, 2, 3, 4] rfl (by decide) rfl (by decide) (by decide) rfl hl.1 rfl (Nat.le_of_ble_eq_true rfl) dX2_pairsParted_27 ⟨Nat.zero_le _, Nat.zero_le _⟩ (fun H locs hP hD hS => ?_)
  have hP : va_P E.1 vwCl [(t0, .inr (3, [.int sc, .int (nI k), .ref q1, .ref q2, .ref q3, .ref q4])), (q1, aI E 30 lo), (s0, .inr (2, [.ref t0, .ref sP, .ref sD, .ref sS, .ref sL, .ref sF, .int pc, .int ds, .int pr])), (sP, aI E 16 po), (sL, aI E 30 lS)] H := hP
  have hD : va_D A [(t0, .inr (3, [.int sc, .int (nI k), .ref q1, .ref q2, .ref q3, .ref q4])), (q1, aI E 30 lo), (s0, .inr (2, [.ref t0, .ref sP, .ref sD, .ref sS, .ref sL, .ref sF, .int pc, .int ds, .int pr])), (sP, aI E 16 po), (sL, aI E 30 lS)] := hD
  refine lv_iload_n hx hb dX2_pairsParted_30 rfl (lv_at hl 0 rfl) ?_
  refine lv_isub hx hb dX2_pairsParted_31 ?_
  refine lv_imul hx hb dX2_pairsParted_32 ?_
  exact ret_i hQ hx hb hr hlocks (hP.sub [2, 0, 3, 4, 1] rfl) (hD.sub [2, 0, 3, 4, 1] (by decide) rfl) hS dX2_pairsParted_33 (rfl)
theorem iw_X2_roadsBetween_2 : ∀ w ∈ u_ws RX2 TX2 9, w ∈ wsX2_roadsBetween := by decide +kernel
theorem fl_X2_roadsBetween_27 : Cond.fieldLink RX2 27 (TX2 0).1 (TX2 0).2.1 (TX2 0).2.2.1 ∈ wsX2_roadsBetween := by decide +kernel
theorem iw_X2_roadsBetween_3 : ∀ w ∈ u_ws RX3 TX3 6, w ∈ wsX2_roadsBetween := by decide +kernel
theorem fl_X2_roadsBetween_71 : Cond.fieldLink RX2 71 (TX3 1).1 (TX3 1).2.1 (TX3 1).2.2.1 ∈ wsX2_roadsBetween := by decide +kernel
theorem inX4_X2_roadsBetween : Cond.initialized RX4 ∈ wsX2_roadsBetween := by decide +kernel
theorem stX4_contains_X2_roadsBetween : Cond.static yX4_contains ∈ wsX2_roadsBetween := by decide +kernel
set_option maxHeartbeats 400000 in
set_option maxRecDepth 100000 in
theorem c_X2_roadsBetween (l : Launch) (E : EE) (sz : Nat) (s0 t0 sP sD sS sL sF q1 q2 q3 q4 : Nat) (sc : Int32) (k : Nat) (pc ds pr : Int32) (x : Nat) (y : Int32) (po lS : Nat → Int32) (g1 : x < 16) (gk : k ≤ 30) : Ci l yX2_roadsBetween wsX2_roadsBetween 2 44 E [.ref s0, .int (nI x), .int y] [(s0, .inr (2, [.ref t0, .ref sP, .ref sD, .ref sS, .ref sL, .ref sF, .int pc, .int ds, .int pr])), (t0, .inr (3, [.int sc, .int (nI k), .ref q1, .ref q2, .ref q3, .ref q4])), (sP, aI E 16 po), (sL, aI E 30 lS)] sz (rBt po lS x y k) [(s0, .inr (2, [.ref t0, .ref sP, .ref sD, .ref sS, .ref sL, .ref sF, .int pc, .int ds, .int pr])), (t0, .inr (3, [.int sc, .int (nI k), .ref q1, .ref q2, .ref q3, .ref q4])), (sP, aI E 16 po), (sL, aI E 30 lS)] := by
  refine C_of (QQ := QI E (rBt po lS x y k) [(s0, .inr (2, [.ref t0, .ref sP, .ref sD, .ref sS, .ref sL, .ref sF, .int pc, .int ds, .int pr])), (t0, .inr (3, [.int sc, .int (nI k), .ref q1, .ref q2, .ref q3, .ref q4])), (sP, aI E 16 po), (sL, aI E 30 lS)]) (cc := cX2_roadsBetween) (maxL := 5) (ret := (some .int)) (by decide +kernel) rfl (Nat.le_of_ble_eq_true rfl) ?_
  intro p e s m args below meth c A R Q ls hx hb hr hts hown hml hlocks hA hK hN hP hD hS hl hR hQ
  have hown : s.vm.findClass RX2 = some m.cls := hown
  have hl : lv_has ls 5 [(0, .ref s0), (1, .int (nI x)), (2, .int y)] := hl
  refine lv_iconst (v := nI 0) hx hb dX2_roadsBetween_0 (by decide) ?_
  refine lv_istore_n (lv' := [(3, .int (nI 0)), (0, .ref s0), (1, .int (nI x)), (2, .int y)]) hx hb dX2_roadsBetween_1 rfl hl (by decide) rfl (fun ls hl => ?_)
  refine lv_iconst (v := nI 0) hx hb dX2_roadsBetween_2 (by decide) ?_
  refine lv_istore (lv' := [(4, .int (nI 0)), (3, .int (nI 0)), (0, .ref s0), (1, .int (nI x)), (2, .int y)]) hx hb dX2_roadsBetween_3 hl (by decide) rfl (fun ls hl => ?_)
  have L5 : ∀ (fu : Nat) (z : Int32) (i : Nat), (ez : z = rBt po lS x y i) → (gi : i ≤ k) → k - i < fu → ∀ (H : Heap) (locs : List Loc), va_P E.1 vwCl [(s0, .inr (2, [.ref t0, .ref sP, .ref sD, .ref sS, .ref sL, .ref sF, .int pc, .int ds, .int pr])), (t0, .inr (3, [.int sc, .int (nI k), .ref q1, .ref q2, .ref q3, .ref q4])), (sP, aI E 16 po), (sL, aI E 30 lS)] H → va_D A [(s0, .inr (2, [.ref t0, .ref sP, .ref sD, .ref sS, .ref sL, .ref sF, .int pc, .int ds, .int pr])), (t0, .inr (3, [.int sc, .int (nI k), .ref q1, .ref q2, .ref q3, .ref q4])), (sP, aI E 16 po), (sL, aI E 30 lS)] → va_S A s.heap H locs → ∀ (ls : Array Slot), lv_has ls 5 [(4, .int (nI i)), (3, .int z), (0, .ref s0), (1, .int (nI x)), (2, .int y)] → W p l e R s m args below meth c H locs 0 0 Q (F0 m 5 ls []) := by
    intro fu
    induction fu with
    | zero => intro z i ez gi hfu; exact absurd hfu (Nat.not_lt_zero _)
    | succ fu ih5 =>
      intro z i ez gi hfu H locs hP hD hS ls hl
      refine lv_iload hx hb dX2_roadsBetween_5 (lv_at hl 0 rfl) ?_
      refine lv_aload_n hx hb dX2_roadsBetween_7 rfl (lv_at hl 2 rfl) ?_
      refine rk_get (ci := 2) (C := RX2) (T := TX2) (N := 9) hx hb hts iw_X2_roadsBetween_2 hown hK hP 0 rfl rfl 0 (by decide) fl_X2_roadsBetween_27 rfl (v := .ref t0) rfl dX2_roadsBetween_8 ?_
      refine rk_get (ci := 3) (C := RX3) (T := TX3) (N := 6) hx hb hts iw_X2_roadsBetween_3 hown hK hP 1 rfl rfl 1 (by decide) fl_X2_roadsBetween_71 rfl (v := .int (nI k)) rfl dX2_roadsBetween_11 ?_
      refine rk_geN (tgt := 44) hx hb (by omega) (by omega) dX2_roadsBetween_14 (by decide) (fun zc14 => ?_) (fun zc14 => ?_)
      · refine lv_iload_n hx hb dX2_roadsBetween_44 rfl (lv_at hl 1 rfl) ?_
        exact ret_i hQ hx hb hr hlocks (hP.sub [0, 1, 2, 3] rfl) (hD.sub [0, 1, 2, 3] (by decide) rfl) hS dX2_roadsBetween_45 (by obtain rfl : k = i := (by omega); exact ez)
      · refine lv_aload_n hx hb dX2_roadsBetween_17 rfl (lv_at hl 2 rfl) ?_
        refine lv_iload_n hx hb dX2_roadsBetween_18 rfl (lv_at hl 3 rfl) ?_
        refine lv_iload hx hb dX2_roadsBetween_19 (lv_at hl 0 rfl) ?_
        refine kV_i (E := E) (As := [.int (nI x), .int (nI i)]) (rest := []) (wr := [(t0, .inr (3, [.int sc, .int (nI k), .ref q1, .ref q2, .ref q3, .ref q4]))]) ⟨hx, hb, hml, hown, hts⟩ (c_X2_squaresBehind (l := l) (E := E) (sz := _) (s0 := s0) (t0 := t0) (sP := sP) (sD := sD) (sS := sS) (sL := sL) (sF := sF) (q1 := 0) (q2 := 0) (q3 := 0) (q4 := 0) (pc := pc) (ds := ds) (pr := pr) (x := x) (r := i) (po := po) (lS := lS) (g1 := by first | assumption | omega) (g2 := by first | assumption | omega)) (cwV 2 hts gX2_roadsBetween_X2_squaresBehind rfl rfl rfl (by decide +kernel) ⟨by rw [hR]; decide, by rw [hR]; decide⟩) hK hN hP hD hS hA [0, 2, 3] [1] rfl (by decide) rfl (by decide) (by decide) 0 2 rfl rfl rfl hl.1 rfl (Nat.le_of_ble_eq_true rfl) dX2_roadsBetween_21 ⟨Nat.zero_le _, Nat.zero_le _⟩ (fun H locs hP hD hS => ?_)
        have hP : va_P E.1 vwCl [(t0, .inr (3, [.int sc, .int (nI k), .ref q1, .ref q2, .ref q3, .ref q4])), (s0, .inr (2, [.ref t0, .ref sP, .ref sD, .ref sS, .ref sL, .ref sF, .int pc, .int ds, .int pr])), (sP, aI E 16 po), (sL, aI E 30 lS)] H := hP
        have hD : va_D A [(t0, .inr (3, [.int sc, .int (nI k), .ref q1, .ref q2, .ref q3, .ref q4])), (s0, .inr (2, [.ref t0, .ref sP, .ref sD, .ref sS, .ref sL, .ref sF, .int pc, .int ds, .int pr])), (sP, aI E 16 po), (sL, aI E 30 lS)] := hD
        refine lv_iload_n hx hb dX2_roadsBetween_24 rfl (lv_at hl 4 rfl) ?_
        refine kSN_i (E := E) (As := [.int (sqB po lS x i), .int y]) (rest := []) (wr := [(t0, .inr (3, [.int sc, .int (nI k), .ref q1, .ref q2, .ref q3, .ref q4])), (s0, .inr (2, [.ref t0, .ref sP, .ref sD, .ref sS, .ref sL, .ref sF, .int pc, .int ds, .int pr])), (sP, aI E 16 po), (sL, aI E 30 lS)]) ⟨hx, hb, hml, hown, hts⟩ (c_X4_contains (l := l) (E := E) (sz := _) (x := sqB po lS x i) (y := y) ) ⟨va_cnB 2 hts gX2_roadsBetween_X4_contains_n52 rfl rfl rfl hN.2.1 (hts _ inX4_X2_roadsBetween) (by decide +kernel) ⟨by rw [hR]; decide, by rw [hR]; decide⟩, hts _ stX4_contains_X2_roadsBetween, trivial⟩ hK hN hP hD hS hA [] [0, 1, 2, 3] rfl (by decide) rfl (by decide) (by decide) rfl hl.1 rfl (Nat.le_of_ble_eq_true rfl) dX2_roadsBetween_25 ⟨Nat.zero_le _, Nat.zero_le _⟩ (fun H locs hP hD hS => ?_)
        have hP : va_P E.1 vwCl [(t0, .inr (3, [.int sc, .int (nI k), .ref q1, .ref q2, .ref q3, .ref q4])), (s0, .inr (2, [.ref t0, .ref sP, .ref sD, .ref sS, .ref sL, .ref sF, .int pc, .int ds, .int pr])), (sP, aI E 16 po), (sL, aI E 30 lS)] H := hP
        have hD : va_D A [(t0, .inr (3, [.int sc, .int (nI k), .ref q1, .ref q2, .ref q3, .ref q4])), (s0, .inr (2, [.ref t0, .ref sP, .ref sD, .ref sS, .ref sL, .ref sF, .int pc, .int ds, .int pr])), (sP, aI E 16 po), (sL, aI E 30 lS)] := hD
        refine rk_if_eqB (tgt := 38) hx hb dX2_roadsBetween_28 (by decide) (fun zc28 => ?_) (fun zc28 => ?_)
        · refine lv_iinc (v := nI (i + 1)) (lv' := [(4, .int (nI (i + 1))), (3, .int z), (0, .ref s0), (1, .int (nI x)), (2, .int y)]) hx hb dX2_roadsBetween_38 hl (k := 0) rfl (by rw [show Int32.ofInt 1 = nI 1 by decide]; exact nI_add _ _) (by decide) rfl (fun ls hl => ?_)
          refine lv_goto (tgt := 5) hx hb dX2_roadsBetween_41 (by decide) ?_
          exact ih5 z (i + 1) (by subst ez; simp only [rBt]; exact (if_neg (by rw [zc28]; decide)).symm) (by first | assumption | omega | rfl) (by omega) _ _ (hP.sub [1, 0, 2, 3] rfl) (hD.sub [1, 0, 2, 3] (by decide) rfl) hS ls (lv_sub hl [0, 1, 2, 3, 4] rfl)
        · refine lv_iload_n hx hb dX2_roadsBetween_31 rfl (lv_at hl 1 rfl) ?_
          refine lv_iconst (v := nI 1) hx hb dX2_roadsBetween_32 (by decide) ?_
          refine lv_iload hx hb dX2_roadsBetween_33 (lv_at hl 0 rfl) ?_
          refine lv_ishl hx hb dX2_roadsBetween_35 ?_
          refine lv_ior hx hb dX2_roadsBetween_36 ?_
          refine lv_istore_n (lv' := [(3, .int (z ||| ((nI 1) <<< ((nI i) &&& 31)))), (4, .int (nI i)), (0, .ref s0), (1, .int (nI x)), (2, .int y)]) hx hb dX2_roadsBetween_37 rfl hl (by decide) rfl (fun ls hl => ?_)
          refine lv_iinc (v := nI (i + 1)) (lv' := [(4, .int (nI (i + 1))), (3, .int (z ||| ((nI 1) <<< ((nI i) &&& 31)))), (0, .ref s0), (1, .int (nI x)), (2, .int y)]) hx hb dX2_roadsBetween_38 hl (k := 1) rfl (by rw [show Int32.ofInt 1 = nI 1 by decide]; exact nI_add _ _) (by decide) rfl (fun ls hl => ?_)
          refine lv_goto (tgt := 5) hx hb dX2_roadsBetween_41 (by decide) ?_
          exact ih5 (z ||| ((nI 1) <<< ((nI i) &&& 31))) (i + 1) (by subst ez; simp only [rBt]; exact (if_pos zc28).symm) (by first | assumption | omega | rfl) (by omega) _ _ (hP.sub [1, 0, 2, 3] rfl) (hD.sub [1, 0, 2, 3] (by decide) rfl) hS ls (lv_sub hl [0, 1, 2, 3, 4] rfl)
  exact L5 ((k - 0) + 1) (nI 0) 0 (rfl) (by first | assumption | omega | rfl) (Nat.lt_succ_self _) _ _ (hP.sub [0, 1, 2, 3] rfl) (hD.sub [0, 1, 2, 3] (by decide) rfl) hS ls (lv_sub hl [0, 1, 2, 3, 4] rfl)
end
