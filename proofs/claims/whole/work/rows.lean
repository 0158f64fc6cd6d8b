section
-- ===== PART A: goes FIRST, ahead of the names: the tables' words, and 'selects' of the private methods out of them =====
/-- a private method of a class that the tables say can be made, by its rows of tables_1 -/
def lw_okq (q : MethodName × Nat) : Prop := (q.1.cls ≠ "java/lang/invoke/MethodHandle" ∧ q.1.cls ≠ "java/lang/invoke/VarHandle") ∧ Cond.instantiable q.1.cls q.2 ∈ tables_1 ∧ Cond.privateMethod q.1 ∈ tables_1 ∧ Cond.instanceMethod q.1 ∈ tables_1
theorem lw_p0 : lw_okq (⟨"PeopleLands", "sheetOf", "(Z)LPeopleLands$Sheet;"⟩, 8) := ⟨⟨by decide +kernel, by decide +kernel⟩, List.mem_of_getElem? (i := 15) (by decide +kernel), List.mem_of_getElem? (i := 248) (by decide +kernel), List.mem_of_getElem? (i := 249) (by decide +kernel)⟩
theorem lw_p1 : lw_okq (⟨"PeopleLands", "unlikeCells", "()J"⟩, 8) := ⟨⟨by decide +kernel, by decide +kernel⟩, List.mem_of_getElem? (i := 15) (by decide +kernel), List.mem_of_getElem? (i := 303) (by decide +kernel), List.mem_of_getElem? (i := 304) (by decide +kernel)⟩
theorem lw_p2 : lw_okq (⟨"PeopleLands", "shareOut", "()V"⟩, 8) := ⟨⟨by decide +kernel, by decide +kernel⟩, List.mem_of_getElem? (i := 15) (by decide +kernel), List.mem_of_getElem? (i := 339) (by decide +kernel), List.mem_of_getElem? (i := 340) (by decide +kernel)⟩
theorem lw_p3 : lw_okq (⟨"PeopleLands$Census", "shareByRests", "(I)V"⟩, 4) := ⟨⟨by decide +kernel, by decide +kernel⟩, List.mem_of_getElem? (i := 66) (by decide +kernel), List.mem_of_getElem? (i := 351) (by decide +kernel), List.mem_of_getElem? (i := 352) (by decide +kernel)⟩
theorem lw_p4 : lw_okq (⟨"PeopleLands$Census", "shareByDivisors", "(I)V"⟩, 4) := ⟨⟨by decide +kernel, by decide +kernel⟩, List.mem_of_getElem? (i := 66) (by decide +kernel), List.mem_of_getElem? (i := 359) (by decide +kernel), List.mem_of_getElem? (i := 360) (by decide +kernel)⟩
theorem lw_p5 : lw_okq (⟨"PeopleLands$Census", "divisorOf", "(I)I"⟩, 4) := ⟨⟨by decide +kernel, by decide +kernel⟩, List.mem_of_getElem? (i := 66) (by decide +kernel), List.mem_of_getElem? (i := 363) (by decide +kernel), List.mem_of_getElem? (i := 364) (by decide +kernel)⟩
theorem lw_p6 : lw_okq (⟨"PeopleLands$Ground", "pieceFrom", "(JJ)J"⟩, 5) := ⟨⟨by decide +kernel, by decide +kernel⟩, List.mem_of_getElem? (i := 23) (by decide +kernel), List.mem_of_getElem? (i := 375) (by decide +kernel), List.mem_of_getElem? (i := 376) (by decide +kernel)⟩
theorem lw_p7 : lw_okq (⟨"PeopleLands", "faultsAgainst", "(J)I"⟩, 8) := ⟨⟨by decide +kernel, by decide +kernel⟩, List.mem_of_getElem? (i := 15) (by decide +kernel), List.mem_of_getElem? (i := 401) (by decide +kernel), List.mem_of_getElem? (i := 402) (by decide +kernel)⟩
theorem lw_p8 : lw_okq (⟨"PeopleLands", "isChange", "(II)Z"⟩, 8) := ⟨⟨by decide +kernel, by decide +kernel⟩, List.mem_of_getElem? (i := 15) (by decide +kernel), List.mem_of_getElem? (i := 415) (by decide +kernel), List.mem_of_getElem? (i := 416) (by decide +kernel)⟩
theorem lw_p9 : lw_okq (⟨"PeopleLands", "faultsBehind", "(IIJ)I"⟩, 8) := ⟨⟨by decide +kernel, by decide +kernel⟩, List.mem_of_getElem? (i := 15) (by decide +kernel), List.mem_of_getElem? (i := 420) (by decide +kernel), List.mem_of_getElem? (i := 421) (by decide +kernel)⟩
theorem lw_p10 : lw_okq (⟨"PeopleLands$Handing", "looseCells", "(IJ)J"⟩, 6) := ⟨⟨by decide +kernel, by decide +kernel⟩, List.mem_of_getElem? (i := 90) (by decide +kernel), List.mem_of_getElem? (i := 439) (by decide +kernel), List.mem_of_getElem? (i := 440) (by decide +kernel)⟩
theorem lw_p11 : lw_okq (⟨"PeopleLands$Handing", "seeWhoHands", "()V"⟩, 6) := ⟨⟨by decide +kernel, by decide +kernel⟩, List.mem_of_getElem? (i := 90) (by decide +kernel), List.mem_of_getElem? (i := 458) (by decide +kernel), List.mem_of_getElem? (i := 459) (by decide +kernel)⟩
theorem lw_p12 : lw_okq (⟨"PeopleLands$Handing", "measureLengths", "()V"⟩, 6) := ⟨⟨by decide +kernel, by decide +kernel⟩, List.mem_of_getElem? (i := 90) (by decide +kernel), List.mem_of_getElem? (i := 462) (by decide +kernel), List.mem_of_getElem? (i := 463) (by decide +kernel)⟩
theorem lw_p13 : lw_okq (⟨"PeopleLands$Handing", "nextOf", "(I)I"⟩, 6) := ⟨⟨by decide +kernel, by decide +kernel⟩, List.mem_of_getElem? (i := 90) (by decide +kernel), List.mem_of_getElem? (i := 470) (by decide +kernel), List.mem_of_getElem? (i := 471) (by decide +kernel)⟩
theorem lw_p14 : lw_okq (⟨"PeopleLands$Handing", "cellsToHand", "(II)J"⟩, 6) := ⟨⟨by decide +kernel, by decide +kernel⟩, List.mem_of_getElem? (i := 90) (by decide +kernel), List.mem_of_getElem? (i := 486) (by decide +kernel), List.mem_of_getElem? (i := 487) (by decide +kernel)⟩
theorem lw_p15 : lw_okq (⟨"PeopleLands", "leastSteps", "(JJ)I"⟩, 8) := ⟨⟨by decide +kernel, by decide +kernel⟩, List.mem_of_getElem? (i := 15) (by decide +kernel), List.mem_of_getElem? (i := 506) (by decide +kernel), List.mem_of_getElem? (i := 507) (by decide +kernel)⟩
def lw_privs_1 : List (MethodName × Nat) := [(⟨"PeopleLands", "sheetOf", "(Z)LPeopleLands$Sheet;"⟩, 8), (⟨"PeopleLands", "unlikeCells", "()J"⟩, 8), (⟨"PeopleLands", "shareOut", "()V"⟩, 8), (⟨"PeopleLands$Census", "shareByRests", "(I)V"⟩, 4), (⟨"PeopleLands$Census", "shareByDivisors", "(I)V"⟩, 4), (⟨"PeopleLands$Census", "divisorOf", "(I)I"⟩, 4), (⟨"PeopleLands$Ground", "pieceFrom", "(JJ)J"⟩, 5), (⟨"PeopleLands", "faultsAgainst", "(J)I"⟩, 8), (⟨"PeopleLands", "isChange", "(II)Z"⟩, 8), (⟨"PeopleLands", "faultsBehind", "(IIJ)I"⟩, 8), (⟨"PeopleLands$Handing", "looseCells", "(IJ)J"⟩, 6), (⟨"PeopleLands$Handing", "seeWhoHands", "()V"⟩, 6), (⟨"PeopleLands$Handing", "measureLengths", "()V"⟩, 6), (⟨"PeopleLands$Handing", "nextOf", "(I)I"⟩, 6), (⟨"PeopleLands$Handing", "cellsToHand", "(II)J"⟩, 6), (⟨"PeopleLands", "leastSteps", "(JJ)I"⟩, 8)]
theorem lw_r1 : ∀ q ∈ lw_privs_1, lw_okq q := List.forall_mem_cons.mpr ⟨lw_p0, List.forall_mem_cons.mpr ⟨lw_p1, List.forall_mem_cons.mpr ⟨lw_p2, List.forall_mem_cons.mpr ⟨lw_p3, List.forall_mem_cons.mpr ⟨lw_p4, List.forall_mem_cons.mpr ⟨lw_p5, List.forall_mem_cons.mpr ⟨lw_p6, List.forall_mem_cons.mpr ⟨lw_p7, List.forall_mem_cons.mpr ⟨lw_p8, List.forall_mem_cons.mpr ⟨lw_p9, List.forall_mem_cons.mpr ⟨lw_p10, List.forall_mem_cons.mpr ⟨lw_p11, List.forall_mem_cons.mpr ⟨lw_p12, List.forall_mem_cons.mpr ⟨lw_p13, List.forall_mem_cons.mpr ⟨lw_p14, List.forall_mem_cons.mpr ⟨lw_p15, fun _ h => absurd h List.not_mem_nil⟩⟩⟩⟩⟩⟩⟩⟩⟩⟩⟩⟩⟩⟩⟩⟩
theorem lw_p16 : lw_okq (⟨"PeopleLands$Matching", "placeFor", "(I)I"⟩, 9) := ⟨⟨by decide +kernel, by decide +kernel⟩, List.mem_of_getElem? (i := 117) (by decide +kernel), List.mem_of_getElem? (i := 530) (by decide +kernel), List.mem_of_getElem? (i := 531) (by decide +kernel)⟩
theorem lw_p17 : lw_okq (⟨"PeopleLands$Matching", "tightenFrom", "(I)V"⟩, 9) := ⟨⟨by decide +kernel, by decide +kernel⟩, List.mem_of_getElem? (i := 117) (by decide +kernel), List.mem_of_getElem? (i := 535) (by decide +kernel), List.mem_of_getElem? (i := 536) (by decide +kernel)⟩
theorem lw_p18 : lw_okq (⟨"PeopleLands$Matching", "isReached", "(I)Z"⟩, 9) := ⟨⟨by decide +kernel, by decide +kernel⟩, List.mem_of_getElem? (i := 117) (by decide +kernel), List.mem_of_getElem? (i := 539) (by decide +kernel), List.mem_of_getElem? (i := 540) (by decide +kernel)⟩
theorem lw_p19 : lw_okq (⟨"PeopleLands$Matching", "nearestColumn", "()I"⟩, 9) := ⟨⟨by decide +kernel, by decide +kernel⟩, List.mem_of_getElem? (i := 117) (by decide +kernel), List.mem_of_getElem? (i := 543) (by decide +kernel), List.mem_of_getElem? (i := 544) (by decide +kernel)⟩
theorem lw_p20 : lw_okq (⟨"PeopleLands$Matching", "movePrices", "(J)V"⟩, 9) := ⟨⟨by decide +kernel, by decide +kernel⟩, List.mem_of_getElem? (i := 117) (by decide +kernel), List.mem_of_getElem? (i := 547) (by decide +kernel), List.mem_of_getElem? (i := 548) (by decide +kernel)⟩
theorem lw_p21 : lw_okq (⟨"PeopleLands$Matching", "makeRoom", "(I)V"⟩, 9) := ⟨⟨by decide +kernel, by decide +kernel⟩, List.mem_of_getElem? (i := 117) (by decide +kernel), List.mem_of_getElem? (i := 551) (by decide +kernel), List.mem_of_getElem? (i := 552) (by decide +kernel)⟩
theorem lw_p22 : lw_okq (⟨"PeopleLands$Tiles", "setCosts", "(IJJ)V"⟩, 4) := ⟨⟨by decide +kernel, by decide +kernel⟩, List.mem_of_getElem? (i := 151) (by decide +kernel), List.mem_of_getElem? (i := 579) (by decide +kernel), List.mem_of_getElem? (i := 580) (by decide +kernel)⟩
theorem lw_p23 : lw_okq (⟨"PeopleLands", "tally", "(II)I"⟩, 8) := ⟨⟨by decide +kernel, by decide +kernel⟩, List.mem_of_getElem? (i := 15) (by decide +kernel), List.mem_of_getElem? (i := 637) (by decide +kernel), List.mem_of_getElem? (i := 638) (by decide +kernel)⟩
theorem lw_p24 : lw_okq (⟨"PeopleLands", "leaderBy", "(I)I"⟩, 8) := ⟨⟨by decide +kernel, by decide +kernel⟩, List.mem_of_getElem? (i := 15) (by decide +kernel), List.mem_of_getElem? (i := 655) (by decide +kernel), List.mem_of_getElem? (i := 656) (by decide +kernel)⟩
theorem lw_p25 : lw_okq (⟨"PeopleLands$Poll", "setPrices", "(III)V"⟩, 3) := ⟨⟨by decide +kernel, by decide +kernel⟩, List.mem_of_getElem? (i := 173) (by decide +kernel), List.mem_of_getElem? (i := 670) (by decide +kernel), List.mem_of_getElem? (i := 671) (by decide +kernel)⟩
theorem lw_p26 : lw_okq (⟨"PeopleLandsModel", "noCell", "(I)Z"⟩, 25) := ⟨⟨by decide +kernel, by decide +kernel⟩, List.mem_of_getElem? (i := 684) (by decide +kernel), List.mem_of_getElem? (i := 779) (by decide +kernel), List.mem_of_getElem? (i := 780) (by decide +kernel)⟩
theorem lw_p27 : lw_okq (⟨"PeopleLandsModel", "cellOf", "(ZI)I"⟩, 25) := ⟨⟨by decide +kernel, by decide +kernel⟩, List.mem_of_getElem? (i := 684) (by decide +kernel), List.mem_of_getElem? (i := 783) (by decide +kernel), List.mem_of_getElem? (i := 784) (by decide +kernel)⟩
theorem lw_p28 : lw_okq (⟨"PeopleLandsModel", "put", "(ZII)V"⟩, 25) := ⟨⟨by decide +kernel, by decide +kernel⟩, List.mem_of_getElem? (i := 684) (by decide +kernel), List.mem_of_getElem? (i := 787) (by decide +kernel), List.mem_of_getElem? (i := 788) (by decide +kernel)⟩
theorem lw_p29 : lw_okq (⟨"PeopleLandsModel", "manyOf", "(ZI)I"⟩, 25) := ⟨⟨by decide +kernel, by decide +kernel⟩, List.mem_of_getElem? (i := 684) (by decide +kernel), List.mem_of_getElem? (i := 811) (by decide +kernel), List.mem_of_getElem? (i := 812) (by decide +kernel)⟩
theorem lw_p30 : lw_okq (⟨"PeopleLandsModel", "share", "()V"⟩, 25) := ⟨⟨by decide +kernel, by decide +kernel⟩, List.mem_of_getElem? (i := 684) (by decide +kernel), List.mem_of_getElem? (i := 828) (by decide +kernel), List.mem_of_getElem? (i := 829) (by decide +kernel)⟩
theorem lw_p31 : lw_okq (⟨"PeopleLandsModel", "partsOf", "(I)I"⟩, 25) := ⟨⟨by decide +kernel, by decide +kernel⟩, List.mem_of_getElem? (i := 684) (by decide +kernel), List.mem_of_getElem? (i := 836) (by decide +kernel), List.mem_of_getElem? (i := 837) (by decide +kernel)⟩
def lw_privs_2 : List (MethodName × Nat) := [(⟨"PeopleLands$Matching", "placeFor", "(I)I"⟩, 9), (⟨"PeopleLands$Matching", "tightenFrom", "(I)V"⟩, 9), (⟨"PeopleLands$Matching", "isReached", "(I)Z"⟩, 9), (⟨"PeopleLands$Matching", "nearestColumn", "()I"⟩, 9), (⟨"PeopleLands$Matching", "movePrices", "(J)V"⟩, 9), (⟨"PeopleLands$Matching", "makeRoom", "(I)V"⟩, 9), (⟨"PeopleLands$Tiles", "setCosts", "(IJJ)V"⟩, 4), (⟨"PeopleLands", "tally", "(II)I"⟩, 8), (⟨"PeopleLands", "leaderBy", "(I)I"⟩, 8), (⟨"PeopleLands$Poll", "setPrices", "(III)V"⟩, 3), (⟨"PeopleLandsModel", "noCell", "(I)Z"⟩, 25), (⟨"PeopleLandsModel", "cellOf", "(ZI)I"⟩, 25), (⟨"PeopleLandsModel", "put", "(ZII)V"⟩, 25), (⟨"PeopleLandsModel", "manyOf", "(ZI)I"⟩, 25), (⟨"PeopleLandsModel", "share", "()V"⟩, 25), (⟨"PeopleLandsModel", "partsOf", "(I)I"⟩, 25)]
theorem lw_r2 : ∀ q ∈ lw_privs_2, lw_okq q := List.forall_mem_cons.mpr ⟨lw_p16, List.forall_mem_cons.mpr ⟨lw_p17, List.forall_mem_cons.mpr ⟨lw_p18, List.forall_mem_cons.mpr ⟨lw_p19, List.forall_mem_cons.mpr ⟨lw_p20, List.forall_mem_cons.mpr ⟨lw_p21, List.forall_mem_cons.mpr ⟨lw_p22, List.forall_mem_cons.mpr ⟨lw_p23, List.forall_mem_cons.mpr ⟨lw_p24, List.forall_mem_cons.mpr ⟨lw_p25, List.forall_mem_cons.mpr ⟨lw_p26, List.forall_mem_cons.mpr ⟨lw_p27, List.forall_mem_cons.mpr ⟨lw_p28, List.forall_mem_cons.mpr ⟨lw_p29, List.forall_mem_cons.mpr ⟨lw_p30, List.forall_mem_cons.mpr ⟨lw_p31, fun _ h => absurd h List.not_mem_nil⟩⟩⟩⟩⟩⟩⟩⟩⟩⟩⟩⟩⟩⟩⟩⟩
theorem lw_p32 : lw_okq (⟨"PeopleLandsModel", "isBeside", "(II)Z"⟩, 25) := ⟨⟨by decide +kernel, by decide +kernel⟩, List.mem_of_getElem? (i := 684) (by decide +kernel), List.mem_of_getElem? (i := 840) (by decide +kernel), List.mem_of_getElem? (i := 841) (by decide +kernel)⟩
theorem lw_p33 : lw_okq (⟨"PeopleLandsModel", "areBeside", "(ZII)Z"⟩, 25) := ⟨⟨by decide +kernel, by decide +kernel⟩, List.mem_of_getElem? (i := 684) (by decide +kernel), List.mem_of_getElem? (i := 851) (by decide +kernel), List.mem_of_getElem? (i := 852) (by decide +kernel)⟩
theorem lw_p34 : lw_okq (⟨"PeopleLandsModel", "touches", "(ZII)Z"⟩, 25) := ⟨⟨by decide +kernel, by decide +kernel⟩, List.mem_of_getElem? (i := 684) (by decide +kernel), List.mem_of_getElem? (i := 855) (by decide +kernel), List.mem_of_getElem? (i := 856) (by decide +kernel)⟩
theorem lw_p35 : lw_okq (⟨"PeopleLandsModel", "allFaults", "()I"⟩, 25) := ⟨⟨by decide +kernel, by decide +kernel⟩, List.mem_of_getElem? (i := 684) (by decide +kernel), List.mem_of_getElem? (i := 863) (by decide +kernel), List.mem_of_getElem? (i := 864) (by decide +kernel)⟩
theorem lw_p36 : lw_okq (⟨"PeopleLandsModel", "isChange", "(II)Z"⟩, 25) := ⟨⟨by decide +kernel, by decide +kernel⟩, List.mem_of_getElem? (i := 684) (by decide +kernel), List.mem_of_getElem? (i := 871) (by decide +kernel), List.mem_of_getElem? (i := 872) (by decide +kernel)⟩
theorem lw_p37 : lw_okq (⟨"PeopleLandsModel", "faultsBy", "(II)I"⟩, 25) := ⟨⟨by decide +kernel, by decide +kernel⟩, List.mem_of_getElem? (i := 684) (by decide +kernel), List.mem_of_getElem? (i := 875) (by decide +kernel), List.mem_of_getElem? (i := 876) (by decide +kernel)⟩
theorem lw_p38 : lw_okq (⟨"PeopleLandsModel", "may", "(II)Z"⟩, 25) := ⟨⟨by decide +kernel, by decide +kernel⟩, List.mem_of_getElem? (i := 684) (by decide +kernel), List.mem_of_getElem? (i := 888) (by decide +kernel), List.mem_of_getElem? (i := 889) (by decide +kernel)⟩
theorem lw_p39 : lw_okq (⟨"PeopleLandsModel", "linked", "()Z"⟩, 25) := ⟨⟨by decide +kernel, by decide +kernel⟩, List.mem_of_getElem? (i := 684) (by decide +kernel), List.mem_of_getElem? (i := 900) (by decide +kernel), List.mem_of_getElem? (i := 901) (by decide +kernel)⟩
theorem lw_p40 : lw_okq (⟨"PeopleLandsModel", "leastTo", "(II)I"⟩, 25) := ⟨⟨by decide +kernel, by decide +kernel⟩, List.mem_of_getElem? (i := 684) (by decide +kernel), List.mem_of_getElem? (i := 904) (by decide +kernel), List.mem_of_getElem? (i := 905) (by decide +kernel)⟩
theorem lw_p41 : lw_okq (⟨"PeopleLandsModel", "passOn", "()I"⟩, 25) := ⟨⟨by decide +kernel, by decide +kernel⟩, List.mem_of_getElem? (i := 684) (by decide +kernel), List.mem_of_getElem? (i := 916) (by decide +kernel), List.mem_of_getElem? (i := 917) (by decide +kernel)⟩
theorem lw_p42 : lw_okq (⟨"PeopleLandsModel", "assign", "(I)I"⟩, 25) := ⟨⟨by decide +kernel, by decide +kernel⟩, List.mem_of_getElem? (i := 684) (by decide +kernel), List.mem_of_getElem? (i := 932) (by decide +kernel), List.mem_of_getElem? (i := 933) (by decide +kernel)⟩
theorem lw_p43 : lw_okq (⟨"PeopleLandsModel", "steps", "(II)I"⟩, 25) := ⟨⟨by decide +kernel, by decide +kernel⟩, List.mem_of_getElem? (i := 684) (by decide +kernel), List.mem_of_getElem? (i := 936) (by decide +kernel), List.mem_of_getElem? (i := 937) (by decide +kernel)⟩
theorem lw_p44 : lw_okq (⟨"PeopleLandsModel", "leastOff", "(I)I"⟩, 25) := ⟨⟨by decide +kernel, by decide +kernel⟩, List.mem_of_getElem? (i := 684) (by decide +kernel), List.mem_of_getElem? (i := 944) (by decide +kernel), List.mem_of_getElem? (i := 945) (by decide +kernel)⟩
theorem lw_p45 : lw_okq (⟨"PeopleLandsModel", "isThere", "(I)Z"⟩, 25) := ⟨⟨by decide +kernel, by decide +kernel⟩, List.mem_of_getElem? (i := 684) (by decide +kernel), List.mem_of_getElem? (i := 948) (by decide +kernel), List.mem_of_getElem? (i := 949) (by decide +kernel)⟩
theorem lw_p46 : lw_okq (⟨"PeopleLandsModel", "offOf", "(II)I"⟩, 25) := ⟨⟨by decide +kernel, by decide +kernel⟩, List.mem_of_getElem? (i := 684) (by decide +kernel), List.mem_of_getElem? (i := 952) (by decide +kernel), List.mem_of_getElem? (i := 953) (by decide +kernel)⟩
theorem lw_p47 : lw_okq (⟨"PeopleLandsModel", "layTiles", "()I"⟩, 25) := ⟨⟨by decide +kernel, by decide +kernel⟩, List.mem_of_getElem? (i := 684) (by decide +kernel), List.mem_of_getElem? (i := 960) (by decide +kernel), List.mem_of_getElem? (i := 961) (by decide +kernel)⟩
def lw_privs_3 : List (MethodName × Nat) := [(⟨"PeopleLandsModel", "isBeside", "(II)Z"⟩, 25), (⟨"PeopleLandsModel", "areBeside", "(ZII)Z"⟩, 25), (⟨"PeopleLandsModel", "touches", "(ZII)Z"⟩, 25), (⟨"PeopleLandsModel", "allFaults", "()I"⟩, 25), (⟨"PeopleLandsModel", "isChange", "(II)Z"⟩, 25), (⟨"PeopleLandsModel", "faultsBy", "(II)I"⟩, 25), (⟨"PeopleLandsModel", "may", "(II)Z"⟩, 25), (⟨"PeopleLandsModel", "linked", "()Z"⟩, 25), (⟨"PeopleLandsModel", "leastTo", "(II)I"⟩, 25), (⟨"PeopleLandsModel", "passOn", "()I"⟩, 25), (⟨"PeopleLandsModel", "assign", "(I)I"⟩, 25), (⟨"PeopleLandsModel", "steps", "(II)I"⟩, 25), (⟨"PeopleLandsModel", "leastOff", "(I)I"⟩, 25), (⟨"PeopleLandsModel", "isThere", "(I)Z"⟩, 25), (⟨"PeopleLandsModel", "offOf", "(II)I"⟩, 25), (⟨"PeopleLandsModel", "layTiles", "()I"⟩, 25)]
theorem lw_r3 : ∀ q ∈ lw_privs_3, lw_okq q := List.forall_mem_cons.mpr ⟨lw_p32, List.forall_mem_cons.mpr ⟨lw_p33, List.forall_mem_cons.mpr ⟨lw_p34, List.forall_mem_cons.mpr ⟨lw_p35, List.forall_mem_cons.mpr ⟨lw_p36, List.forall_mem_cons.mpr ⟨lw_p37, List.forall_mem_cons.mpr ⟨lw_p38, List.forall_mem_cons.mpr ⟨lw_p39, List.forall_mem_cons.mpr ⟨lw_p40, List.forall_mem_cons.mpr ⟨lw_p41, List.forall_mem_cons.mpr ⟨lw_p42, List.forall_mem_cons.mpr ⟨lw_p43, List.forall_mem_cons.mpr ⟨lw_p44, List.forall_mem_cons.mpr ⟨lw_p45, List.forall_mem_cons.mpr ⟨lw_p46, List.forall_mem_cons.mpr ⟨lw_p47, fun _ h => absurd h List.not_mem_nil⟩⟩⟩⟩⟩⟩⟩⟩⟩⟩⟩⟩⟩⟩⟩⟩
theorem lw_p48 : lw_okq (⟨"PeopleLandsModel", "winner", "(I)I"⟩, 25) := ⟨⟨by decide +kernel, by decide +kernel⟩, List.mem_of_getElem? (i := 684) (by decide +kernel), List.mem_of_getElem? (i := 979) (by decide +kernel), List.mem_of_getElem? (i := 980) (by decide +kernel)⟩
theorem lw_p49 : lw_okq (⟨"PeopleLandsModel", "sum", "(II)I"⟩, 25) := ⟨⟨by decide +kernel, by decide +kernel⟩, List.mem_of_getElem? (i := 684) (by decide +kernel), List.mem_of_getElem? (i := 990) (by decide +kernel), List.mem_of_getElem? (i := 991) (by decide +kernel)⟩
theorem lw_p50 : lw_okq (⟨"PeopleLandsModel", "leader", "(I)I"⟩, 25) := ⟨⟨by decide +kernel, by decide +kernel⟩, List.mem_of_getElem? (i := 684) (by decide +kernel), List.mem_of_getElem? (i := 998) (by decide +kernel), List.mem_of_getElem? (i := 999) (by decide +kernel)⟩
def lw_privs_4 : List (MethodName × Nat) := [(⟨"PeopleLandsModel", "winner", "(I)I"⟩, 25), (⟨"PeopleLandsModel", "sum", "(II)I"⟩, 25), (⟨"PeopleLandsModel", "leader", "(I)I"⟩, 25)]
theorem lw_r4 : ∀ q ∈ lw_privs_4, lw_okq q := List.forall_mem_cons.mpr ⟨lw_p48, List.forall_mem_cons.mpr ⟨lw_p49, List.forall_mem_cons.mpr ⟨lw_p50, fun _ h => absurd h List.not_mem_nil⟩⟩⟩
def lw_privs : List (MethodName × Nat) := lw_privs_1 ++ (lw_privs_2 ++ (lw_privs_3 ++ (lw_privs_4)))
def lw_tbl : List Cond := k2_sels lw_privs ++ tables_1
theorem lw_privs_ok : ∀ q ∈ lw_privs, lw_okq q := by
  show ∀ q ∈ lw_privs_1 ++ (lw_privs_2 ++ (lw_privs_3 ++ (lw_privs_4))), lw_okq q
  exact List.forall_mem_append.mpr ⟨lw_r1, List.forall_mem_append.mpr ⟨lw_r2, List.forall_mem_append.mpr ⟨lw_r3, lw_r4⟩⟩⟩
-- ===== end of PART A; then your names; then what follows =====
end
section
-- made by wip/whole/print_names.py: class tables, method names, the instruction tables of every method
def RX0 : String := "PeopleLands$Census"
def TX0 : u_T := fun k => match k with
  | 0 => ("PeopleLands$Census", "heads", "[I", true)
  | 1 => ("PeopleLands$Census", "due", "[I", true)
  | 2 => ("PeopleLands$Census", "rests", "[I", true)
  | _ => ("PeopleLands$Census", "way", "I", false)
def tyX0 : Nat → FieldType := fun k => match k with
  | 0 => .array .int
  | 1 => .array .int
  | 2 => .array .int
  | _ => .int
theorem nmX0 : ∀ a, a < 4 → ∀ b, b < 4 → a ≠ b → (TX0 a).2.1 ≠ (TX0 b).2.1 := by decide +kernel
theorem tyX0_ok : ∀ k, k < 4 → parseFieldDescriptor (TX0 k).2.2.1 = some (tyX0 k) := by decide +kernel
abbrev cX0_init : ByteArray := prog_2_method_1_code
def yX0_init : MethodName := ⟨RX0, "<init>", "()V"⟩
abbrev cX0_allHeads : ByteArray := prog_2_method_2_code
def yX0_allHeads : MethodName := ⟨RX0, "allHeads", "()I"⟩
abbrev cX0_shareOut : ByteArray := prog_2_method_3_code
def yX0_shareOut : MethodName := ⟨RX0, "shareOut", "(I)V"⟩
abbrev cX0_shareByRests : ByteArray := prog_2_method_4_code
def yX0_shareByRests : MethodName := ⟨RX0, "shareByRests", "(I)V"⟩
abbrev cX0_shareByDivisors : ByteArray := prog_2_method_5_code
def yX0_shareByDivisors : MethodName := ⟨RX0, "shareByDivisors", "(I)V"⟩
abbrev cX0_divisorOf : ByteArray := prog_2_method_6_code
def yX0_divisorOf : MethodName := ⟨RX0, "divisorOf", "(I)I"⟩
def RX1 : String := "PeopleLands$Ground"
def TX1 : u_T := fun k => match k with
  | 0 => ("PeopleLands$Ground", "width", "I", false)
  | 1 => ("PeopleLands$Ground", "height", "I", false)
  | 2 => ("PeopleLands$Ground", "all", "J", false)
  | 3 => ("PeopleLands$Ground", "westEdge", "J", false)
  | _ => ("PeopleLands$Ground", "eastEdge", "J", false)
def tyX1 : Nat → FieldType := fun k => match k with
  | 0 => .int
  | 1 => .int
  | 2 => .long
  | 3 => .long
  | _ => .long
theorem nmX1 : ∀ a, a < 5 → ∀ b, b < 5 → a ≠ b → (TX1 a).2.1 ≠ (TX1 b).2.1 := by decide +kernel
theorem tyX1_ok : ∀ k, k < 5 → parseFieldDescriptor (TX1 k).2.2.1 = some (tyX1 k) := by decide +kernel
abbrev cX1_init : ByteArray := prog_3_method_1_code
def yX1_init : MethodName := ⟨RX1, "<init>", "(II)V"⟩
abbrev cX1_lay : ByteArray := prog_3_method_2_code
def yX1_lay : MethodName := ⟨RX1, "lay", "(II)V"⟩
abbrev cX1_size : ByteArray := prog_3_method_3_code
def yX1_size : MethodName := ⟨RX1, "size", "()I"⟩
abbrev cX1_knows : ByteArray := prog_3_method_4_code
def yX1_knows : MethodName := ⟨RX1, "knows", "(I)Z"⟩
abbrev cX1_columnOf : ByteArray := prog_3_method_5_code
def yX1_columnOf : MethodName := ⟨RX1, "columnOf", "(I)I"⟩
abbrev cX1_rowOf : ByteArray := prog_3_method_6_code
def yX1_rowOf : MethodName := ⟨RX1, "rowOf", "(I)I"⟩
abbrev cX1_steps : ByteArray := prog_3_method_7_code
def yX1_steps : MethodName := ⟨RX1, "steps", "(II)I"⟩
abbrev cX1_boxed : ByteArray := prog_3_method_8_code
def yX1_boxed : MethodName := ⟨RX1, "boxed", "(II)J"⟩
abbrev cX1_rimOf : ByteArray := prog_3_method_9_code
def yX1_rimOf : MethodName := ⟨RX1, "rimOf", "(J)J"⟩
abbrev cX1_partsOf : ByteArray := prog_3_method_10_code
def yX1_partsOf : MethodName := ⟨RX1, "partsOf", "(J)I"⟩
abbrev cX1_pieceFrom : ByteArray := prog_3_method_11_code
def yX1_pieceFrom : MethodName := ⟨RX1, "pieceFrom", "(JJ)J"⟩
def RX2 : String := "PeopleLands$Handing"
def TX2 : u_T := fun k => match k with
  | 0 => ("PeopleLands$Handing", "ground", "LPeopleLands$Ground;", true)
  | 1 => ("PeopleLands$Handing", "drawing", "LPeopleLands$Sheet;", true)
  | 2 => ("PeopleLands$Handing", "census", "LPeopleLands$Census;", true)
  | 3 => ("PeopleLands$Handing", "hands", "[Z", true)
  | 4 => ("PeopleLands$Handing", "lengths", "[I", true)
  | _ => ("PeopleLands$Handing", "links", "[I", true)
def tyX2 : Nat → FieldType := fun k => match k with
  | 0 => .object "PeopleLands$Ground"
  | 1 => .object "PeopleLands$Sheet"
  | 2 => .object "PeopleLands$Census"
  | 3 => .array .boolean
  | 4 => .array .int
  | _ => .array .int
theorem nmX2 : ∀ a, a < 6 → ∀ b, b < 6 → a ≠ b → (TX2 a).2.1 ≠ (TX2 b).2.1 := by decide +kernel
theorem tyX2_ok : ∀ k, k < 6 → parseFieldDescriptor (TX2 k).2.2.1 = some (tyX2 k) := by decide +kernel
abbrev cX2_init : ByteArray := prog_4_method_1_code
def yX2_init : MethodName := ⟨RX2, "<init>", "(LPeopleLands$Ground;LPeopleLands$Sheet;LPeopleLands$Census;)V"⟩
abbrev cX2_allows : ByteArray := prog_4_method_2_code
def yX2_allows : MethodName := ⟨RX2, "allows", "(II)Z"⟩
abbrev cX2_looseCells : ByteArray := prog_4_method_3_code
def yX2_looseCells : MethodName := ⟨RX2, "looseCells", "(IJ)J"⟩
abbrev cX2_cellsToHand : ByteArray := prog_4_method_4_code
def yX2_cellsToHand : MethodName := ⟨RX2, "cellsToHand", "(II)J"⟩
abbrev cX2_findChain : ByteArray := prog_4_method_5_code
def yX2_findChain : MethodName := ⟨RX2, "findChain", "()I"⟩
abbrev cX2_seeWhoHands : ByteArray := prog_4_method_6_code
def yX2_seeWhoHands : MethodName := ⟨RX2, "seeWhoHands", "()V"⟩
abbrev cX2_measureLengths : ByteArray := prog_4_method_7_code
def yX2_measureLengths : MethodName := ⟨RX2, "measureLengths", "()V"⟩
abbrev cX2_nextOf : ByteArray := prog_4_method_8_code
def yX2_nextOf : MethodName := ⟨RX2, "nextOf", "(I)I"⟩
abbrev cX2_passAlong : ByteArray := prog_4_method_9_code
def yX2_passAlong : MethodName := ⟨RX2, "passAlong", "(I)I"⟩
def RX3 : String := "PeopleLands$Matching"
def TX3 : u_T := fun k => match k with
  | 0 => ("PeopleLands$Matching", "costs", "[J", true)
  | 1 => ("PeopleLands$Matching", "rowPrices", "[J", true)
  | 2 => ("PeopleLands$Matching", "columnPrices", "[J", true)
  | 3 => ("PeopleLands$Matching", "slacks", "[J", true)
  | 4 => ("PeopleLands$Matching", "rowAt", "[I", true)
  | 5 => ("PeopleLands$Matching", "cameFrom", "[I", true)
  | 6 => ("PeopleLands$Matching", "reached", "J", false)
  | 7 => ("PeopleLands$Matching", "rows", "I", false)
  | _ => ("PeopleLands$Matching", "columns", "I", false)
def tyX3 : Nat → FieldType := fun k => match k with
  | 0 => .array .long
  | 1 => .array .long
  | 2 => .array .long
  | 3 => .array .long
  | 4 => .array .int
  | 5 => .array .int
  | 6 => .long
  | 7 => .int
  | _ => .int
theorem nmX3 : ∀ a, a < 9 → ∀ b, b < 9 → a ≠ b → (TX3 a).2.1 ≠ (TX3 b).2.1 := by decide +kernel
theorem tyX3_ok : ∀ k, k < 9 → parseFieldDescriptor (TX3 k).2.2.1 = some (tyX3 k) := by decide +kernel
abbrev cX3_init : ByteArray := prog_5_method_1_code
def yX3_init : MethodName := ⟨RX3, "<init>", "()V"⟩
abbrev cX3_begin : ByteArray := prog_5_method_2_code
def yX3_begin : MethodName := ⟨RX3, "begin", "(II)V"⟩
abbrev cX3_setCost : ByteArray := prog_5_method_3_code
def yX3_setCost : MethodName := ⟨RX3, "setCost", "(IIJ)V"⟩
abbrev cX3_solve : ByteArray := prog_5_method_4_code
def yX3_solve : MethodName := ⟨RX3, "solve", "()V"⟩
abbrev cX3_rowIn : ByteArray := prog_5_method_5_code
def yX3_rowIn : MethodName := ⟨RX3, "rowIn", "(I)I"⟩
abbrev cX3_sum : ByteArray := prog_5_method_6_code
def yX3_sum : MethodName := ⟨RX3, "sum", "()J"⟩
abbrev cX3_placeFor : ByteArray := prog_5_method_7_code
def yX3_placeFor : MethodName := ⟨RX3, "placeFor", "(I)I"⟩
abbrev cX3_tightenFrom : ByteArray := prog_5_method_8_code
def yX3_tightenFrom : MethodName := ⟨RX3, "tightenFrom", "(I)V"⟩
abbrev cX3_nearestColumn : ByteArray := prog_5_method_9_code
def yX3_nearestColumn : MethodName := ⟨RX3, "nearestColumn", "()I"⟩
abbrev cX3_movePrices : ByteArray := prog_5_method_10_code
def yX3_movePrices : MethodName := ⟨RX3, "movePrices", "(J)V"⟩
abbrev cX3_isReached : ByteArray := prog_5_method_11_code
def yX3_isReached : MethodName := ⟨RX3, "isReached", "(I)Z"⟩
abbrev cX3_makeRoom : ByteArray := prog_5_method_12_code
def yX3_makeRoom : MethodName := ⟨RX3, "makeRoom", "(I)V"⟩
def RX4 : String := "PeopleLands$Poll"
def TX4 : u_T := fun k => match k with
  | 0 => ("PeopleLands$Poll", "votes", "[I", true)
  | 1 => ("PeopleLands$Poll", "prices", "[I", true)
  | _ => ("PeopleLands$Poll", "sizes", "[I", true)
def tyX4 : Nat → FieldType := fun k => match k with
  | 0 => .array .int
  | 1 => .array .int
  | _ => .array .int
theorem nmX4 : ∀ a, a < 3 → ∀ b, b < 3 → a ≠ b → (TX4 a).2.1 ≠ (TX4 b).2.1 := by decide +kernel
theorem tyX4_ok : ∀ k, k < 3 → parseFieldDescriptor (TX4 k).2.2.1 = some (tyX4 k) := by decide +kernel
abbrev cX4_init : ByteArray := prog_6_method_1_code
def yX4_init : MethodName := ⟨RX4, "<init>", "()V"⟩
abbrev cX4_votesOf : ByteArray := prog_6_method_2_code
def yX4_votesOf : MethodName := ⟨RX4, "votesOf", "(II)I"⟩
abbrev cX4_setVotes : ByteArray := prog_6_method_3_code
def yX4_setVotes : MethodName := ⟨RX4, "setVotes", "(III)V"⟩
abbrev cX4_winnerOf : ByteArray := prog_6_method_4_code
def yX4_winnerOf : MethodName := ⟨RX4, "winnerOf", "(I)I"⟩
abbrev cX4_votesForAll : ByteArray := prog_6_method_5_code
def yX4_votesForAll : MethodName := ⟨RX4, "votesForAll", "(I)I"⟩
abbrev cX4_cellsWon : ByteArray := prog_6_method_6_code
def yX4_cellsWon : MethodName := ⟨RX4, "cellsWon", "(ILPeopleLands$Sheet;)I"⟩
abbrev cX4_fewestToTurn : ByteArray := prog_6_method_7_code
def yX4_fewestToTurn : MethodName := ⟨RX4, "fewestToTurn", "(IILPeopleLands$Sheet;)I"⟩
abbrev cX4_setPrices : ByteArray := prog_6_method_8_code
def yX4_setPrices : MethodName := ⟨RX4, "setPrices", "(III)V"⟩
abbrev cX4_cheapest : ByteArray := prog_6_method_9_code
def yX4_cheapest : MethodName := ⟨RX4, "cheapest", "([I[IIII)I"⟩
def RX5 : String := "PeopleLands$Sheet"
def TX5 : u_T := fun k => match k with
  | 0 => ("PeopleLands$Sheet", "ground", "LPeopleLands$Ground;", true)
  | _ => ("PeopleLands$Sheet", "owned", "[J", true)
def tyX5 : Nat → FieldType := fun k => match k with
  | 0 => .object "PeopleLands$Ground"
  | _ => .array .long
theorem nmX5 : ∀ a, a < 2 → ∀ b, b < 2 → a ≠ b → (TX5 a).2.1 ≠ (TX5 b).2.1 := by decide +kernel
theorem tyX5_ok : ∀ k, k < 2 → parseFieldDescriptor (TX5 k).2.2.1 = some (tyX5 k) := by decide +kernel
abbrev cX5_init : ByteArray := prog_7_method_1_code
def yX5_init : MethodName := ⟨RX5, "<init>", "(LPeopleLands$Ground;)V"⟩
abbrev cX5_clear : ByteArray := prog_7_method_2_code
def yX5_clear : MethodName := ⟨RX5, "clear", "()V"⟩
abbrev cX5_copy : ByteArray := prog_7_method_3_code
def yX5_copy : MethodName := ⟨RX5, "copy", "(LPeopleLands$Sheet;)V"⟩
abbrev cX5_put : ByteArray := prog_7_method_4_code
def yX5_put : MethodName := ⟨RX5, "put", "(JI)V"⟩
abbrev cX5_ownerOf : ByteArray := prog_7_method_5_code
def yX5_ownerOf : MethodName := ⟨RX5, "ownerOf", "(I)I"⟩
abbrev cX5_cellsOf : ByteArray := prog_7_method_6_code
def yX5_cellsOf : MethodName := ⟨RX5, "cellsOf", "(I)J"⟩
abbrev cX5_sizeOf : ByteArray := prog_7_method_7_code
def yX5_sizeOf : MethodName := ⟨RX5, "sizeOf", "(I)I"⟩
abbrev cX5_landCells : ByteArray := prog_7_method_8_code
def yX5_landCells : MethodName := ⟨RX5, "landCells", "()J"⟩
abbrev cX5_landsWithCells : ByteArray := prog_7_method_9_code
def yX5_landsWithCells : MethodName := ⟨RX5, "landsWithCells", "()I"⟩
abbrev cX5_areNeighbours : ByteArray := prog_7_method_10_code
def yX5_areNeighbours : MethodName := ⟨RX5, "areNeighbours", "(II)Z"⟩
abbrev cX5_neighbourPairs : ByteArray := prog_7_method_11_code
def yX5_neighbourPairs : MethodName := ⟨RX5, "neighbourPairs", "()J"⟩
def RX6 : String := "PeopleLands$Tiles"
def TX6 : u_T := fun k => match k with
  | 0 => ("PeopleLands$Tiles", "ground", "LPeopleLands$Ground;", true)
  | 1 => ("PeopleLands$Tiles", "matching", "LPeopleLands$Matching;", true)
  | 2 => ("PeopleLands$Tiles", "landOfRow", "[I", true)
  | _ => ("PeopleLands$Tiles", "sheet", "LPeopleLands$Sheet;", true)
def tyX6 : Nat → FieldType := fun k => match k with
  | 0 => .object "PeopleLands$Ground"
  | 1 => .object "PeopleLands$Matching"
  | 2 => .array .int
  | _ => .object "PeopleLands$Sheet"
theorem nmX6 : ∀ a, a < 4 → ∀ b, b < 4 → a ≠ b → (TX6 a).2.1 ≠ (TX6 b).2.1 := by decide +kernel
theorem tyX6_ok : ∀ k, k < 4 → parseFieldDescriptor (TX6 k).2.2.1 = some (tyX6 k) := by decide +kernel
abbrev cX6_init : ByteArray := prog_8_method_1_code
def yX6_init : MethodName := ⟨RX6, "<init>", "(LPeopleLands$Ground;LPeopleLands$Matching;)V"⟩
abbrev cX6_findBest : ByteArray := prog_8_method_2_code
def yX6_findBest : MethodName := ⟨RX6, "findBest", "(LPeopleLands$Sheet;)I"⟩
abbrev cX6_digitOf : ByteArray := prog_8_method_3_code
def yX6_digitOf : MethodName := ⟨RX6, "digitOf", "(I)J"⟩
abbrev cX6_setCosts : ByteArray := prog_8_method_4_code
def yX6_setCosts : MethodName := ⟨RX6, "setCosts", "(IJJ)V"⟩
def RX7 : String := "PeopleLands"
def TX7 : u_T := fun k => match k with
  | 0 => ("PeopleLands", "ground", "LPeopleLands$Ground;", true)
  | 1 => ("PeopleLands", "map", "LPeopleLands$Sheet;", true)
  | 2 => ("PeopleLands", "drawing", "LPeopleLands$Sheet;", true)
  | 3 => ("PeopleLands", "census", "LPeopleLands$Census;", true)
  | 4 => ("PeopleLands", "handing", "LPeopleLands$Handing;", true)
  | 5 => ("PeopleLands", "matching", "LPeopleLands$Matching;", true)
  | 6 => ("PeopleLands", "tiles", "LPeopleLands$Tiles;", true)
  | _ => ("PeopleLands", "poll", "LPeopleLands$Poll;", true)
def tyX7 : Nat → FieldType := fun k => match k with
  | 0 => .object "PeopleLands$Ground"
  | 1 => .object "PeopleLands$Sheet"
  | 2 => .object "PeopleLands$Sheet"
  | 3 => .object "PeopleLands$Census"
  | 4 => .object "PeopleLands$Handing"
  | 5 => .object "PeopleLands$Matching"
  | 6 => .object "PeopleLands$Tiles"
  | _ => .object "PeopleLands$Poll"
theorem nmX7 : ∀ a, a < 8 → ∀ b, b < 8 → a ≠ b → (TX7 a).2.1 ≠ (TX7 b).2.1 := by decide +kernel
theorem tyX7_ok : ∀ k, k < 8 → parseFieldDescriptor (TX7 k).2.2.1 = some (tyX7 k) := by decide +kernel
abbrev cX7_init : ByteArray := prog_1_method_1_code
def yX7_init : MethodName := ⟨RX7, "<init>", "()V"⟩
abbrev cX7_field : ByteArray := prog_1_method_2_code
def yX7_field : MethodName := ⟨RX7, "field", "(II)I"⟩
abbrev cX7_give : ByteArray := prog_1_method_3_code
def yX7_give : MethodName := ⟨RX7, "give", "(ZII)I"⟩
abbrev cX7_box : ByteArray := prog_1_method_4_code
def yX7_box : MethodName := ⟨RX7, "box", "(ZIII)I"⟩
abbrev cX7_at : ByteArray := prog_1_method_5_code
def yX7_at : MethodName := ⟨RX7, "at", "(ZI)I"⟩
abbrev cX7_trace : ByteArray := prog_1_method_6_code
def yX7_trace : MethodName := ⟨RX7, "trace", "()I"⟩
abbrev cX7_cells : ByteArray := prog_1_method_7_code
def yX7_cells : MethodName := ⟨RX7, "cells", "(ZI)I"⟩
abbrev cX7_heads : ByteArray := prog_1_method_8_code
def yX7_heads : MethodName := ⟨RX7, "heads", "(II)I"⟩
abbrev cX7_way : ByteArray := prog_1_method_9_code
def yX7_way : MethodName := ⟨RX7, "way", "(I)I"⟩
abbrev cX7_due : ByteArray := prog_1_method_10_code
def yX7_due : MethodName := ⟨RX7, "due", "(I)I"⟩
abbrev cX7_parts : ByteArray := prog_1_method_11_code
def yX7_parts : MethodName := ⟨RX7, "parts", "(I)I"⟩
abbrev cX7_beside : ByteArray := prog_1_method_12_code
def yX7_beside : MethodName := ⟨RX7, "beside", "(ZII)I"⟩
abbrev cX7_faults : ByteArray := prog_1_method_13_code
def yX7_faults : MethodName := ⟨RX7, "faults", "()I"⟩
abbrev cX7_would : ByteArray := prog_1_method_14_code
def yX7_would : MethodName := ⟨RX7, "would", "(II)I"⟩
abbrev cX7_mend : ByteArray := prog_1_method_15_code
def yX7_mend : MethodName := ⟨RX7, "mend", "()I"⟩
abbrev cX7_mayHand : ByteArray := prog_1_method_16_code
def yX7_mayHand : MethodName := ⟨RX7, "mayHand", "(II)I"⟩
abbrev cX7_hand : ByteArray := prog_1_method_17_code
def yX7_hand : MethodName := ⟨RX7, "hand", "(II)I"⟩
abbrev cX7_chain : ByteArray := prog_1_method_18_code
def yX7_chain : MethodName := ⟨RX7, "chain", "()I"⟩
abbrev cX7_link : ByteArray := prog_1_method_19_code
def yX7_link : MethodName := ⟨RX7, "link", "(I)I"⟩
abbrev cX7_pass : ByteArray := prog_1_method_20_code
def yX7_pass : MethodName := ⟨RX7, "pass", "()I"⟩
abbrev cX7_settle : ByteArray := prog_1_method_21_code
def yX7_settle : MethodName := ⟨RX7, "settle", "()I"⟩
abbrev cX7_changed : ByteArray := prog_1_method_22_code
def yX7_changed : MethodName := ⟨RX7, "changed", "()I"⟩
abbrev cX7_carried : ByteArray := prog_1_method_23_code
def yX7_carried : MethodName := ⟨RX7, "carried", "(I)I"⟩
abbrev cX7_off : ByteArray := prog_1_method_24_code
def yX7_off : MethodName := ⟨RX7, "off", "()I"⟩
abbrev cX7_tile : ByteArray := prog_1_method_25_code
def yX7_tile : MethodName := ⟨RX7, "tile", "(I)I"⟩
abbrev cX7_kept : ByteArray := prog_1_method_26_code
def yX7_kept : MethodName := ⟨RX7, "kept", "()I"⟩
abbrev cX7_votes : ByteArray := prog_1_method_27_code
def yX7_votes : MethodName := ⟨RX7, "votes", "(III)I"⟩
abbrev cX7_won : ByteArray := prog_1_method_28_code
def yX7_won : MethodName := ⟨RX7, "won", "(I)I"⟩
abbrev cX7_has : ByteArray := prog_1_method_29_code
def yX7_has : MethodName := ⟨RX7, "has", "(II)I"⟩
abbrev cX7_ahead : ByteArray := prog_1_method_30_code
def yX7_ahead : MethodName := ⟨RX7, "ahead", "(I)I"⟩
abbrev cX7_turn : ByteArray := prog_1_method_31_code
def yX7_turn : MethodName := ⟨RX7, "turn", "(I)I"⟩
abbrev cX7_count : ByteArray := prog_1_method_32_code
def yX7_count : MethodName := ⟨RX7, "count", "(I)I"⟩
abbrev cX7_isEdge : ByteArray := prog_1_method_33_code
def yX7_isEdge : MethodName := ⟨RX7, "isEdge", "(I)Z"⟩
abbrev cX7_isLand : ByteArray := prog_1_method_34_code
def yX7_isLand : MethodName := ⟨RX7, "isLand", "(I)Z"⟩
abbrev cX7_isOwner : ByteArray := prog_1_method_35_code
def yX7_isOwner : MethodName := ⟨RX7, "isOwner", "(I)Z"⟩
abbrev cX7_isSide : ByteArray := prog_1_method_36_code
def yX7_isSide : MethodName := ⟨RX7, "isSide", "(I)Z"⟩
abbrev cX7_isPeople : ByteArray := prog_1_method_37_code
def yX7_isPeople : MethodName := ⟨RX7, "isPeople", "(I)Z"⟩
abbrev cX7_lowestCell : ByteArray := prog_1_method_38_code
def yX7_lowestCell : MethodName := ⟨RX7, "lowestCell", "(J)I"⟩
abbrev cX7_leaderOf : ByteArray := prog_1_method_39_code
def yX7_leaderOf : MethodName := ⟨RX7, "leaderOf", "(III)I"⟩
abbrev cX7_sheetOf : ByteArray := prog_1_method_40_code
def yX7_sheetOf : MethodName := ⟨RX7, "sheetOf", "(Z)LPeopleLands$Sheet;"⟩
abbrev cX7_shareOut : ByteArray := prog_1_method_41_code
def yX7_shareOut : MethodName := ⟨RX7, "shareOut", "()V"⟩
abbrev cX7_unlikeCells : ByteArray := prog_1_method_42_code
def yX7_unlikeCells : MethodName := ⟨RX7, "unlikeCells", "()J"⟩
abbrev cX7_isChange : ByteArray := prog_1_method_43_code
def yX7_isChange : MethodName := ⟨RX7, "isChange", "(II)Z"⟩
abbrev cX7_faultsAgainst : ByteArray := prog_1_method_44_code
def yX7_faultsAgainst : MethodName := ⟨RX7, "faultsAgainst", "(J)I"⟩
abbrev cX7_faultsBehind : ByteArray := prog_1_method_45_code
def yX7_faultsBehind : MethodName := ⟨RX7, "faultsBehind", "(IIJ)I"⟩
abbrev cX7_leastSteps : ByteArray := prog_1_method_46_code
def yX7_leastSteps : MethodName := ⟨RX7, "leastSteps", "(JJ)I"⟩
abbrev cX7_tally : ByteArray := prog_1_method_47_code
def yX7_tally : MethodName := ⟨RX7, "tally", "(II)I"⟩
abbrev cX7_leaderBy : ByteArray := prog_1_method_48_code
def yX7_leaderBy : MethodName := ⟨RX7, "leaderBy", "(I)I"⟩
def RX8 : String := "PeopleLandsModel"
def TX8 : u_T := fun k => match k with
  | 0 => ("PeopleLandsModel", "thrown", "I", false)
  | 1 => ("PeopleLandsModel", "w", "I", false)
  | 2 => ("PeopleLandsModel", "h", "I", false)
  | 3 => ("PeopleLandsModel", "map", "[I", true)
  | 4 => ("PeopleLandsModel", "drawn", "[I", true)
  | 5 => ("PeopleLandsModel", "heads", "[I", true)
  | 6 => ("PeopleLandsModel", "way", "I", false)
  | 7 => ("PeopleLandsModel", "dues", "[I", true)
  | 8 => ("PeopleLandsModel", "isSeen", "[Z", true)
  | 9 => ("PeopleLandsModel", "queue", "[I", true)
  | 10 => ("PeopleLandsModel", "hands", "[Z", true)
  | 11 => ("PeopleLandsModel", "chain", "[I", true)
  | 12 => ("PeopleLandsModel", "links", "I", false)
  | 13 => ("PeopleLandsModel", "from", "[I", true)
  | 14 => ("PeopleLandsModel", "to", "[I", true)
  | 15 => ("PeopleLandsModel", "payA", "[I", true)
  | 16 => ("PeopleLandsModel", "payB", "[I", true)
  | 17 => ("PeopleLandsModel", "match", "[I", true)
  | 18 => ("PeopleLandsModel", "least", "[I", true)
  | 19 => ("PeopleLandsModel", "before", "[I", true)
  | 20 => ("PeopleLandsModel", "isUsed", "[Z", true)
  | 21 => ("PeopleLandsModel", "tiles", "[I", true)
  | 22 => ("PeopleLandsModel", "table", "[I", true)
  | 23 => ("PeopleLandsModel", "votes", "[I", true)
  | _ => ("PeopleLandsModel", "price", "[I", true)
def tyX8 : Nat → FieldType := fun k => match k with
  | 0 => .int
  | 1 => .int
  | 2 => .int
  | 3 => .array .int
  | 4 => .array .int
  | 5 => .array .int
  | 6 => .int
  | 7 => .array .int
  | 8 => .array .boolean
  | 9 => .array .int
  | 10 => .array .boolean
  | 11 => .array .int
  | 12 => .int
  | 13 => .array .int
  | 14 => .array .int
  | 15 => .array .int
  | 16 => .array .int
  | 17 => .array .int
  | 18 => .array .int
  | 19 => .array .int
  | 20 => .array .boolean
  | 21 => .array .int
  | 22 => .array .int
  | 23 => .array .int
  | _ => .array .int
theorem nmX8 : ∀ a, a < 25 → ∀ b, b < 25 → a ≠ b → (TX8 a).2.1 ≠ (TX8 b).2.1 := by decide +kernel
theorem tyX8_ok : ∀ k, k < 25 → parseFieldDescriptor (TX8 k).2.2.1 = some (tyX8 k) := by decide +kernel
abbrev cX8_init : ByteArray := prog_10_method_1_code
def yX8_init : MethodName := ⟨RX8, "<init>", "()V"⟩
abbrev cX8_in : ByteArray := prog_10_method_3_code
def yX8_in : MethodName := ⟨RX8, "in", "(JJJ)Z"⟩
abbrev cX8_size : ByteArray := prog_10_method_4_code
def yX8_size : MethodName := ⟨RX8, "size", "(I)I"⟩
abbrev cX8_noCell : ByteArray := prog_10_method_5_code
def yX8_noCell : MethodName := ⟨RX8, "noCell", "(I)Z"⟩
abbrev cX8_noLand : ByteArray := prog_10_method_6_code
def yX8_noLand : MethodName := ⟨RX8, "noLand", "(I)Z"⟩
abbrev cX8_field : ByteArray := prog_10_method_7_code
def yX8_field : MethodName := ⟨RX8, "field", "(II)I"⟩
abbrev cX8_cellOf : ByteArray := prog_10_method_8_code
def yX8_cellOf : MethodName := ⟨RX8, "cellOf", "(ZI)I"⟩
abbrev cX8_put : ByteArray := prog_10_method_9_code
def yX8_put : MethodName := ⟨RX8, "put", "(ZII)V"⟩
abbrev cX8_give : ByteArray := prog_10_method_10_code
def yX8_give : MethodName := ⟨RX8, "give", "(ZII)I"⟩
abbrev cX8_box : ByteArray := prog_10_method_11_code
def yX8_box : MethodName := ⟨RX8, "box", "(ZIII)I"⟩
abbrev cX8_at : ByteArray := prog_10_method_12_code
def yX8_at : MethodName := ⟨RX8, "at", "(ZI)I"⟩
abbrev cX8_trace : ByteArray := prog_10_method_13_code
def yX8_trace : MethodName := ⟨RX8, "trace", "()I"⟩
abbrev cX8_manyOf : ByteArray := prog_10_method_14_code
def yX8_manyOf : MethodName := ⟨RX8, "manyOf", "(ZI)I"⟩
abbrev cX8_cells : ByteArray := prog_10_method_15_code
def yX8_cells : MethodName := ⟨RX8, "cells", "(ZI)I"⟩
abbrev cX8_heads : ByteArray := prog_10_method_16_code
def yX8_heads : MethodName := ⟨RX8, "heads", "(II)I"⟩
abbrev cX8_way : ByteArray := prog_10_method_17_code
def yX8_way : MethodName := ⟨RX8, "way", "(I)I"⟩
abbrev cX8_share : ByteArray := prog_10_method_18_code
def yX8_share : MethodName := ⟨RX8, "share", "()V"⟩
abbrev cX8_due : ByteArray := prog_10_method_19_code
def yX8_due : MethodName := ⟨RX8, "due", "(I)I"⟩
abbrev cX8_isBeside : ByteArray := prog_10_method_20_code
def yX8_isBeside : MethodName := ⟨RX8, "isBeside", "(II)Z"⟩
abbrev cX8_partsOf : ByteArray := prog_10_method_21_code
def yX8_partsOf : MethodName := ⟨RX8, "partsOf", "(I)I"⟩
abbrev cX8_parts : ByteArray := prog_10_method_22_code
def yX8_parts : MethodName := ⟨RX8, "parts", "(I)I"⟩
abbrev cX8_touches : ByteArray := prog_10_method_23_code
def yX8_touches : MethodName := ⟨RX8, "touches", "(ZII)Z"⟩
abbrev cX8_areBeside : ByteArray := prog_10_method_24_code
def yX8_areBeside : MethodName := ⟨RX8, "areBeside", "(ZII)Z"⟩
abbrev cX8_beside : ByteArray := prog_10_method_25_code
def yX8_beside : MethodName := ⟨RX8, "beside", "(ZII)I"⟩
abbrev cX8_allFaults : ByteArray := prog_10_method_26_code
def yX8_allFaults : MethodName := ⟨RX8, "allFaults", "()I"⟩
abbrev cX8_faults : ByteArray := prog_10_method_27_code
def yX8_faults : MethodName := ⟨RX8, "faults", "()I"⟩
abbrev cX8_isChange : ByteArray := prog_10_method_28_code
def yX8_isChange : MethodName := ⟨RX8, "isChange", "(II)Z"⟩
abbrev cX8_faultsBy : ByteArray := prog_10_method_29_code
def yX8_faultsBy : MethodName := ⟨RX8, "faultsBy", "(II)I"⟩
abbrev cX8_would : ByteArray := prog_10_method_30_code
def yX8_would : MethodName := ⟨RX8, "would", "(II)I"⟩
abbrev cX8_mend : ByteArray := prog_10_method_31_code
def yX8_mend : MethodName := ⟨RX8, "mend", "()I"⟩
abbrev cX8_may : ByteArray := prog_10_method_32_code
def yX8_may : MethodName := ⟨RX8, "may", "(II)Z"⟩
abbrev cX8_mayHand : ByteArray := prog_10_method_33_code
def yX8_mayHand : MethodName := ⟨RX8, "mayHand", "(II)I"⟩
abbrev cX8_hand : ByteArray := prog_10_method_34_code
def yX8_hand : MethodName := ⟨RX8, "hand", "(II)I"⟩
abbrev cX8_leastTo : ByteArray := prog_10_method_35_code
def yX8_leastTo : MethodName := ⟨RX8, "leastTo", "(II)I"⟩
abbrev cX8_linked : ByteArray := prog_10_method_36_code
def yX8_linked : MethodName := ⟨RX8, "linked", "()Z"⟩
abbrev cX8_chain : ByteArray := prog_10_method_37_code
def yX8_chain : MethodName := ⟨RX8, "chain", "()I"⟩
abbrev cX8_link : ByteArray := prog_10_method_38_code
def yX8_link : MethodName := ⟨RX8, "link", "(I)I"⟩
abbrev cX8_passOn : ByteArray := prog_10_method_39_code
def yX8_passOn : MethodName := ⟨RX8, "passOn", "()I"⟩
abbrev cX8_pass : ByteArray := prog_10_method_40_code
def yX8_pass : MethodName := ⟨RX8, "pass", "()I"⟩
abbrev cX8_settle : ByteArray := prog_10_method_41_code
def yX8_settle : MethodName := ⟨RX8, "settle", "()I"⟩
abbrev cX8_changed : ByteArray := prog_10_method_42_code
def yX8_changed : MethodName := ⟨RX8, "changed", "()I"⟩
abbrev cX8_steps : ByteArray := prog_10_method_43_code
def yX8_steps : MethodName := ⟨RX8, "steps", "(II)I"⟩
abbrev cX8_assign : ByteArray := prog_10_method_44_code
def yX8_assign : MethodName := ⟨RX8, "assign", "(I)I"⟩
abbrev cX8_carried : ByteArray := prog_10_method_45_code
def yX8_carried : MethodName := ⟨RX8, "carried", "(I)I"⟩
abbrev cX8_offOf : ByteArray := prog_10_method_46_code
def yX8_offOf : MethodName := ⟨RX8, "offOf", "(II)I"⟩
abbrev cX8_isThere : ByteArray := prog_10_method_47_code
def yX8_isThere : MethodName := ⟨RX8, "isThere", "(I)Z"⟩
abbrev cX8_leastOff : ByteArray := prog_10_method_48_code
def yX8_leastOff : MethodName := ⟨RX8, "leastOff", "(I)I"⟩
abbrev cX8_layTiles : ByteArray := prog_10_method_49_code
def yX8_layTiles : MethodName := ⟨RX8, "layTiles", "()I"⟩
abbrev cX8_off : ByteArray := prog_10_method_50_code
def yX8_off : MethodName := ⟨RX8, "off", "()I"⟩
abbrev cX8_tile : ByteArray := prog_10_method_51_code
def yX8_tile : MethodName := ⟨RX8, "tile", "(I)I"⟩
abbrev cX8_kept : ByteArray := prog_10_method_52_code
def yX8_kept : MethodName := ⟨RX8, "kept", "()I"⟩
abbrev cX8_noSide : ByteArray := prog_10_method_53_code
def yX8_noSide : MethodName := ⟨RX8, "noSide", "(I)Z"⟩
abbrev cX8_votes : ByteArray := prog_10_method_54_code
def yX8_votes : MethodName := ⟨RX8, "votes", "(III)I"⟩
abbrev cX8_most : ByteArray := prog_10_method_55_code
def yX8_most : MethodName := ⟨RX8, "most", "(III)I"⟩
abbrev cX8_winner : ByteArray := prog_10_method_56_code
def yX8_winner : MethodName := ⟨RX8, "winner", "(I)I"⟩
abbrev cX8_won : ByteArray := prog_10_method_57_code
def yX8_won : MethodName := ⟨RX8, "won", "(I)I"⟩
abbrev cX8_sum : ByteArray := prog_10_method_58_code
def yX8_sum : MethodName := ⟨RX8, "sum", "(II)I"⟩
abbrev cX8_has : ByteArray := prog_10_method_59_code
def yX8_has : MethodName := ⟨RX8, "has", "(II)I"⟩
abbrev cX8_leader : ByteArray := prog_10_method_60_code
def yX8_leader : MethodName := ⟨RX8, "leader", "(I)I"⟩
abbrev cX8_ahead : ByteArray := prog_10_method_61_code
def yX8_ahead : MethodName := ⟨RX8, "ahead", "(I)I"⟩
abbrev cX8_turn : ByteArray := prog_10_method_62_code
def yX8_turn : MethodName := ⟨RX8, "turn", "(I)I"⟩
abbrev cX8_count : ByteArray := prog_10_method_63_code
def yX8_count : MethodName := ⟨RX8, "count", "(I)I"⟩
def RJ13 : String := "java/lang/Long"
abbrev cJ13_bitCount_95d88 : ByteArray := prog_11_method_50_code
def yJ13_bitCount_95d88 : MethodName := ⟨RJ13, "bitCount", "(J)I"⟩
def RJ9 : String := "java/lang/Math"
abbrev cJ9_abs_0f7a4 : ByteArray := prog_12_method_59_code
def yJ9_abs_0f7a4 : MethodName := ⟨RJ9, "abs", "(I)I"⟩
abbrev cJ9_max_7cf53 : ByteArray := prog_12_method_65_code
def yJ9_max_7cf53 : MethodName := ⟨RJ9, "max", "(II)I"⟩
abbrev cJ9_min_7cf53 : ByteArray := prog_12_method_69_code
def yJ9_min_7cf53 : MethodName := ⟨RJ9, "min", "(II)I"⟩
def RJ10 : String := "java/lang/System"
def RJ7 : String := "java/util/Arrays"
abbrev cJ7_fill_d0a16 : ByteArray := prog_14_method_101_code
def yJ7_fill_d0a16 : MethodName := ⟨RJ7, "fill", "([JJ)V"⟩
abbrev cJ7_fill_53178 : ByteArray := prog_14_method_103_code
def yJ7_fill_53178 : MethodName := ⟨RJ7, "fill", "([II)V"⟩
def RL : String := "PeopleLandsLaw"
abbrev cL_law : ByteArray := code
def yL_law : MethodName := ⟨RL, "law", "([I)Z"⟩
abbrev vwCl : List vw_C := [(RX0, TX0, 4), (RX1, TX1, 5), (RX2, TX2, 6), (RX3, TX3, 9), (RX4, TX4, 3), (RX5, TX5, 2), (RX6, TX6, 4), (RX7, TX7, 8), (RX8, TX8, 25)]
def yZ_Object_init : MethodName := ⟨"java/lang/Object", "<init>", "()V"⟩
def fl_tbl : List Cond := [
  .fieldLink RX1 15 "PeopleLands$Ground" "width" "I",
  .fieldLink RX1 19 "PeopleLands$Ground" "height" "I",
  .fieldLink RX1 22 "PeopleLands$Ground" "all" "J",
  .fieldLink RX2 82 "PeopleLands$Ground" "all" "J",
  .fieldLink RX5 37 "PeopleLands$Ground" "all" "J",
  .fieldLink RX7 236 "PeopleLands$Ground" "all" "J",
  .fieldLink RX1 26 "PeopleLands$Ground" "westEdge" "J",
  .fieldLink RX1 29 "PeopleLands$Ground" "eastEdge" "J",
  .fieldLink RX5 15 "PeopleLands$Sheet" "ground" "LPeopleLands$Ground;",
  .fieldLink RX5 9 "PeopleLands$Sheet" "owned" "[J",
  .fieldLink RX0 9 "PeopleLands$Census" "heads" "[I",
  .fieldLink RX7 140 "PeopleLands$Census" "heads" "[I",
  .fieldLink RX0 15 "PeopleLands$Census" "due" "[I",
  .fieldLink RX2 74 "PeopleLands$Census" "due" "[I",
  .fieldLink RX7 151 "PeopleLands$Census" "due" "[I",
  .fieldLink RX0 18 "PeopleLands$Census" "rests" "[I",
  .fieldLink RX0 27 "PeopleLands$Census" "way" "I",
  .fieldLink RX7 144 "PeopleLands$Census" "way" "I",
  .fieldLink RX2 22 "PeopleLands$Handing" "ground" "LPeopleLands$Ground;",
  .fieldLink RX2 26 "PeopleLands$Handing" "drawing" "LPeopleLands$Sheet;",
  .fieldLink RX2 30 "PeopleLands$Handing" "census" "LPeopleLands$Census;",
  .fieldLink RX2 9 "PeopleLands$Handing" "hands" "[Z",
  .fieldLink RX2 15 "PeopleLands$Handing" "lengths" "[I",
  .fieldLink RX2 19 "PeopleLands$Handing" "links" "[I",
  .fieldLink RX7 180 "PeopleLands$Handing" "links" "[I",
  .fieldLink RX3 11 "PeopleLands$Matching" "costs" "[J",
  .fieldLink RX3 15 "PeopleLands$Matching" "rowPrices" "[J",
  .fieldLink RX3 18 "PeopleLands$Matching" "columnPrices" "[J",
  .fieldLink RX3 21 "PeopleLands$Matching" "slacks" "[J",
  .fieldLink RX3 24 "PeopleLands$Matching" "rowAt" "[I",
  .fieldLink RX3 28 "PeopleLands$Matching" "cameFrom" "[I",
  .fieldLink RX3 55 "PeopleLands$Matching" "reached" "J",
  .fieldLink RX3 31 "PeopleLands$Matching" "rows" "I",
  .fieldLink RX3 35 "PeopleLands$Matching" "columns" "I",
  .fieldLink RX6 15 "PeopleLands$Tiles" "ground" "LPeopleLands$Ground;",
  .fieldLink RX6 19 "PeopleLands$Tiles" "matching" "LPeopleLands$Matching;",
  .fieldLink RX6 9 "PeopleLands$Tiles" "landOfRow" "[I",
  .fieldLink RX6 28 "PeopleLands$Tiles" "sheet" "LPeopleLands$Sheet;",
  .fieldLink RX7 197 "PeopleLands$Tiles" "sheet" "LPeopleLands$Sheet;",
  .fieldLink RX4 9 "PeopleLands$Poll" "votes" "[I",
  .fieldLink RX4 15 "PeopleLands$Poll" "prices" "[I",
  .fieldLink RX4 18 "PeopleLands$Poll" "sizes" "[I",
  .fieldLink RX7 14 "PeopleLands" "ground" "LPeopleLands$Ground;",
  .fieldLink RX7 23 "PeopleLands" "map" "LPeopleLands$Sheet;",
  .fieldLink RX7 27 "PeopleLands" "drawing" "LPeopleLands$Sheet;",
  .fieldLink RX7 33 "PeopleLands" "census" "LPeopleLands$Census;",
  .fieldLink RX7 42 "PeopleLands" "handing" "LPeopleLands$Handing;",
  .fieldLink RX7 49 "PeopleLands" "matching" "LPeopleLands$Matching;",
  .fieldLink RX7 58 "PeopleLands" "tiles" "LPeopleLands$Tiles;",
  .fieldLink RX7 65 "PeopleLands" "poll" "LPeopleLands$Poll;",
  .fieldLink RX8 78 "PeopleLandsModel" "thrown" "I",
  .fieldLink RX8 7 "PeopleLandsModel" "w" "I",
  .fieldLink RX8 13 "PeopleLandsModel" "h" "I",
  .fieldLink RX8 16 "PeopleLandsModel" "map" "[I",
  .fieldLink RX8 20 "PeopleLandsModel" "drawn" "[I",
  .fieldLink RX8 23 "PeopleLandsModel" "heads" "[I",
  .fieldLink RX8 111 "PeopleLandsModel" "way" "I",
  .fieldLink RX8 26 "PeopleLandsModel" "dues" "[I",
  .fieldLink RX8 29 "PeopleLandsModel" "isSeen" "[Z",
  .fieldLink RX8 33 "PeopleLandsModel" "queue" "[I",
  .fieldLink RX8 36 "PeopleLandsModel" "hands" "[Z",
  .fieldLink RX8 39 "PeopleLandsModel" "chain" "[I",
  .fieldLink RX8 153 "PeopleLandsModel" "links" "I",
  .fieldLink RX8 42 "PeopleLandsModel" "from" "[I",
  .fieldLink RX8 45 "PeopleLandsModel" "to" "[I",
  .fieldLink RX8 48 "PeopleLandsModel" "payA" "[I",
  .fieldLink RX8 51 "PeopleLandsModel" "payB" "[I",
  .fieldLink RX8 54 "PeopleLandsModel" "match" "[I",
  .fieldLink RX8 57 "PeopleLandsModel" "least" "[I",
  .fieldLink RX8 60 "PeopleLandsModel" "before" "[I",
  .fieldLink RX8 63 "PeopleLandsModel" "isUsed" "[Z",
  .fieldLink RX8 66 "PeopleLandsModel" "tiles" "[I",
  .fieldLink RX8 69 "PeopleLandsModel" "table" "[I",
  .fieldLink RX8 72 "PeopleLandsModel" "votes" "[I",
  .fieldLink RX8 75 "PeopleLandsModel" "price" "[I",
  .constantLong RX5 31 (-1),
  .constantLong RX7 115 (-1),
  .constantLong RJ13 314 (6148914691236517205),
  .constantLong RJ13 316 (3689348814741910323),
  .constantLong RJ13 318 (1085102592571150095),
  .constantLong RX1 48 (-1),
  .constantLong RX2 63 (-1),
  .constantLong RX3 59 (1152921504606846976),
  .constantLong RX6 81 (36),
  .constantLong RX6 79 (2176782336),
  .constant RX4 45 (1000000),
  .constantLong RX8 87 (2),
  .constantLong RX8 89 (6),
  .constantLong RX8 85 (5),
  .constantLong RX8 109 (999),
  .constant RX8 146 (1000000000)]
def nl_tbl : List (String × Nat × MethodName) := [(RX7, 32, yX0_init), (RX7, 48, yX3_init), (RX7, 64, yX4_init), (RX5, 33, yX7_isLand), (RX2, 96, yX7_lowestCell), (RX4, 21, yX7_isLand), (RX4, 25, yX7_isSide), (RX4, 32, yX7_leaderOf)]
abbrev It : Type := Nat × Instr × Nat × Nat × Nat × Int32 × Int64
abbrev Mt : Type := MethodName × ByteArray × Nat × Option FieldType × List It
def TX0_init : List It := [(0, .aload_n 0, 1, 0, 0, 0, 0), (1, .invokespecial 3, 3, 0, 178, 0, 0), (4, .aload_n 0, 1, 0, 0, 0, 0), (5, .bipush 6, 2, 0, 0, 6, 0), (7, .newarray .int, 2, 0, 0, 0, 0), (9, .putfield 9, 3, 0, 0, 0, 2), (12, .aload_n 0, 1, 0, 0, 0, 0), (13, .bipush 6, 2, 0, 0, 6, 0), (15, .newarray .int, 2, 0, 0, 0, 0), (17, .putfield 15, 3, 0, 1, 0, 2), (20, .aload_n 0, 1, 0, 0, 0, 0), (21, .bipush 6, 2, 0, 0, 6, 0), (23, .newarray .int, 2, 0, 0, 0, 0), (25, .putfield 18, 3, 0, 2, 0, 2), (28, .return_, 1, 0, 0, 0, 0)]
def mX0_init : Mt := (yX0_init, cX0_init, 1, none, TX0_init)
def TX0_allHeads : List It := [(0, .iconst 0, 1, 0, 0, 0, 0), (1, .istore_n 1, 1, 0, 0, 0, 0), (2, .iconst 0, 1, 0, 0, 0, 0), (3, .istore_n 2, 1, 0, 0, 0, 0), (4, .iload_n 2, 1, 0, 0, 0, 0), (5, .bipush 6, 2, 0, 0, 6, 0), (7, .if_icmp .ge 18, 3, 0, 25, 0, 0), (10, .iload_n 1, 1, 0, 0, 0, 0), (11, .aload_n 0, 1, 0, 0, 0, 0), (12, .getfield 9, 3, 0, 0, 0, 2), (15, .iload_n 2, 1, 0, 0, 0, 0), (16, .iaload, 1, 0, 0, 0, 0), (17, .iadd, 1, 0, 0, 0, 0), (18, .istore_n 1, 1, 0, 0, 0, 0), (19, .iinc 2 1, 3, 0, 0, 1, 0), (22, .goto (-18), 3, 0, 4, 0, 0), (25, .iload_n 1, 1, 0, 0, 0, 0), (26, .ireturn, 1, 0, 0, 0, 0)]
def mX0_allHeads : Mt := (yX0_allHeads, cX0_allHeads, 3, (some .int), TX0_allHeads)
def TX0_shareOut : List It := [(0, .aload_n 0, 1, 0, 0, 0, 0), (1, .getfield 15, 3, 0, 1, 0, 2), (4, .iconst 0, 1, 0, 0, 0, 0), (5, .invokestatic 21, 3, 0, 177, 0, 0), (8, .aload_n 0, 1, 0, 0, 0, 0), (9, .getfield 27, 3, 0, 3, 0, 0), (12, .ifCond .ne 11, 3, 0, 23, 0, 0), (15, .aload_n 0, 1, 0, 0, 0, 0), (16, .iload_n 1, 1, 0, 0, 0, 0), (17, .invokevirtual 31, 3, 0, 3, 0, 0), (20, .goto 8, 3, 0, 28, 0, 0), (23, .aload_n 0, 1, 0, 0, 0, 0), (24, .iload_n 1, 1, 0, 0, 0, 0), (25, .invokevirtual 35, 3, 0, 4, 0, 0), (28, .return_, 1, 0, 0, 0, 0)]
def mX0_shareOut : Mt := (yX0_shareOut, cX0_shareOut, 2, none, TX0_shareOut)
def TX0_shareByRests : List It := [(0, .aload_n 0, 1, 0, 0, 0, 0), (1, .invokevirtual 38, 3, 0, 1, 0, 0), (4, .istore_n 2, 1, 0, 0, 0, 0), (5, .iload_n 2, 1, 0, 0, 0, 0), (6, .iconst 1, 1, 0, 0, 1, 0), (7, .if_icmp .ge 4, 3, 0, 11, 0, 0), (10, .return_, 1, 0, 0, 0, 0), (11, .iload_n 1, 1, 0, 0, 0, 0), (12, .istore_n 3, 1, 0, 0, 0, 0), (13, .iconst 0, 1, 0, 0, 0, 0), (14, .istore 4, 2, 0, 0, 0, 0), (16, .iload 4, 2, 0, 0, 0, 0), (18, .bipush 6, 2, 0, 0, 6, 0), (20, .if_icmp .ge 55, 3, 0, 75, 0, 0), (23, .aload_n 0, 1, 0, 0, 0, 0), (24, .getfield 15, 3, 0, 1, 0, 2), (27, .iload 4, 2, 0, 0, 0, 0), (29, .aload_n 0, 1, 0, 0, 0, 0), (30, .getfield 9, 3, 0, 0, 0, 2), (33, .iload 4, 2, 0, 0, 0, 0), (35, .iaload, 1, 0, 0, 0, 0), (36, .iload_n 1, 1, 0, 0, 0, 0), (37, .imul, 1, 0, 0, 0, 0), (38, .iload_n 2, 1, 0, 0, 0, 0), (39, .idiv, 1, 0, 0, 0, 0), (40, .iastore, 1, 0, 0, 0, 0), (41, .aload_n 0, 1, 0, 0, 0, 0), (42, .getfield 18, 3, 0, 2, 0, 2), (45, .iload 4, 2, 0, 0, 0, 0), (47, .aload_n 0, 1, 0, 0, 0, 0), (48, .getfield 9, 3, 0, 0, 0, 2), (51, .iload 4, 2, 0, 0, 0, 0), (53, .iaload, 1, 0, 0, 0, 0), (54, .iload_n 1, 1, 0, 0, 0, 0), (55, .imul, 1, 0, 0, 0, 0), (56, .iload_n 2, 1, 0, 0, 0, 0), (57, .irem, 1, 0, 0, 0, 0), (58, .iastore, 1, 0, 0, 0, 0), (59, .iload_n 3, 1, 0, 0, 0, 0), (60, .aload_n 0, 1, 0, 0, 0, 0), (61, .getfield 15, 3, 0, 1, 0, 2), (64, .iload 4, 2, 0, 0, 0, 0), (66, .iaload, 1, 0, 0, 0, 0), (67, .isub, 1, 0, 0, 0, 0), (68, .istore_n 3, 1, 0, 0, 0, 0), (69, .iinc 4 1, 3, 0, 0, 1, 0), (72, .goto (-56), 3, 0, 16, 0, 0), (75, .iconst 0, 1, 0, 0, 0, 0), (76, .istore 4, 2, 0, 0, 0, 0), (78, .iload 4, 2, 0, 0, 0, 0), (80, .iload_n 3, 1, 0, 0, 0, 0), (81, .if_icmp .ge 68, 3, 0, 149, 0, 0), (84, .iconst 0, 1, 0, 0, 0, 0), (85, .istore 5, 2, 0, 0, 0, 0), (87, .iconst 1, 1, 0, 0, 1, 0), (88, .istore 6, 2, 0, 0, 0, 0), (90, .iload 6, 2, 0, 0, 0, 0), (92, .bipush 6, 2, 0, 0, 6, 0), (94, .if_icmp .ge 30, 3, 0, 124, 0, 0), (97, .aload_n 0, 1, 0, 0, 0, 0), (98, .getfield 18, 3, 0, 2, 0, 2), (101, .iload 6, 2, 0, 0, 0, 0), (103, .iaload, 1, 0, 0, 0, 0), (104, .aload_n 0, 1, 0, 0, 0, 0), (105, .getfield 18, 3, 0, 2, 0, 2), (108, .iload 5, 2, 0, 0, 0, 0), (110, .iaload, 1, 0, 0, 0, 0), (111, .if_icmp .le 7, 3, 0, 118, 0, 0), (114, .iload 6, 2, 0, 0, 0, 0), (116, .istore 5, 2, 0, 0, 0, 0), (118, .iinc 6 1, 3, 0, 0, 1, 0), (121, .goto (-31), 3, 0, 90, 0, 0), (124, .aload_n 0, 1, 0, 0, 0, 0), (125, .getfield 15, 3, 0, 1, 0, 2), (128, .iload 5, 2, 0, 0, 0, 0), (130, .dup2, 1, 0, 0, 0, 0), (131, .iaload, 1, 0, 0, 0, 0), (132, .iconst 1, 1, 0, 0, 1, 0), (133, .iadd, 1, 0, 0, 0, 0), (134, .iastore, 1, 0, 0, 0, 0), (135, .aload_n 0, 1, 0, 0, 0, 0), (136, .getfield 18, 3, 0, 2, 0, 2), (139, .iload 5, 2, 0, 0, 0, 0), (141, .iconst (-1), 1, 0, 0, (-1), 0), (142, .iastore, 1, 0, 0, 0, 0), (143, .iinc 4 1, 3, 0, 0, 1, 0), (146, .goto (-68), 3, 0, 78, 0, 0), (149, .return_, 1, 0, 0, 0, 0)]
def mX0_shareByRests : Mt := (yX0_shareByRests, cX0_shareByRests, 7, none, TX0_shareByRests)
def TX0_shareByDivisors : List It := [(0, .aload_n 0, 1, 0, 0, 0, 0), (1, .invokevirtual 38, 3, 0, 1, 0, 0), (4, .iconst 1, 1, 0, 0, 1, 0), (5, .if_icmp .ge 4, 3, 0, 9, 0, 0), (8, .return_, 1, 0, 0, 0, 0), (9, .iconst 0, 1, 0, 0, 0, 0), (10, .istore_n 2, 1, 0, 0, 0, 0), (11, .iload_n 2, 1, 0, 0, 0, 0), (12, .iload_n 1, 1, 0, 0, 0, 0), (13, .if_icmp .ge 69, 3, 0, 82, 0, 0), (16, .iconst 0, 1, 0, 0, 0, 0), (17, .istore_n 3, 1, 0, 0, 0, 0), (18, .iconst 1, 1, 0, 0, 1, 0), (19, .istore 4, 2, 0, 0, 0, 0), (21, .iload 4, 2, 0, 0, 0, 0), (23, .bipush 6, 2, 0, 0, 6, 0), (25, .if_icmp .ge 41, 3, 0, 66, 0, 0), (28, .aload_n 0, 1, 0, 0, 0, 0), (29, .getfield 9, 3, 0, 0, 0, 2), (32, .iload 4, 2, 0, 0, 0, 0), (34, .iaload, 1, 0, 0, 0, 0), (35, .aload_n 0, 1, 0, 0, 0, 0), (36, .iload_n 3, 1, 0, 0, 0, 0), (37, .invokevirtual 42, 3, 0, 5, 0, 0), (40, .imul, 1, 0, 0, 0, 0), (41, .aload_n 0, 1, 0, 0, 0, 0), (42, .getfield 9, 3, 0, 0, 0, 2), (45, .iload_n 3, 1, 0, 0, 0, 0), (46, .iaload, 1, 0, 0, 0, 0), (47, .aload_n 0, 1, 0, 0, 0, 0), (48, .iload 4, 2, 0, 0, 0, 0), (50, .invokevirtual 42, 3, 0, 5, 0, 0), (53, .imul, 1, 0, 0, 0, 0), (54, .if_icmp .le 6, 3, 0, 60, 0, 0), (57, .iload 4, 2, 0, 0, 0, 0), (59, .istore_n 3, 1, 0, 0, 0, 0), (60, .iinc 4 1, 3, 0, 0, 1, 0), (63, .goto (-42), 3, 0, 21, 0, 0), (66, .aload_n 0, 1, 0, 0, 0, 0), (67, .getfield 15, 3, 0, 1, 0, 2), (70, .iload_n 3, 1, 0, 0, 0, 0), (71, .dup2, 1, 0, 0, 0, 0), (72, .iaload, 1, 0, 0, 0, 0), (73, .iconst 1, 1, 0, 0, 1, 0), (74, .iadd, 1, 0, 0, 0, 0), (75, .iastore, 1, 0, 0, 0, 0), (76, .iinc 2 1, 3, 0, 0, 1, 0), (79, .goto (-68), 3, 0, 11, 0, 0), (82, .return_, 1, 0, 0, 0, 0)]
def mX0_shareByDivisors : Mt := (yX0_shareByDivisors, cX0_shareByDivisors, 5, none, TX0_shareByDivisors)
def TX0_divisorOf : List It := [(0, .aload_n 0, 1, 0, 0, 0, 0), (1, .getfield 27, 3, 0, 3, 0, 0), (4, .aload_n 0, 1, 0, 0, 0, 0), (5, .getfield 15, 3, 0, 1, 0, 2), (8, .iload_n 1, 1, 0, 0, 0, 0), (9, .iaload, 1, 0, 0, 0, 0), (10, .imul, 1, 0, 0, 0, 0), (11, .iconst 1, 1, 0, 0, 1, 0), (12, .iadd, 1, 0, 0, 0, 0), (13, .ireturn, 1, 0, 0, 0, 0)]
def mX0_divisorOf : Mt := (yX0_divisorOf, cX0_divisorOf, 2, (some .int), TX0_divisorOf)
def TX1_init : List It := [(0, .aload_n 0, 1, 0, 0, 0, 0), (1, .invokespecial 3, 3, 0, 178, 0, 0), (4, .aload_n 0, 1, 0, 0, 0, 0), (5, .iload_n 1, 1, 0, 0, 0, 0), (6, .iload_n 2, 1, 0, 0, 0, 0), (7, .invokevirtual 9, 3, 0, 7, 0, 0), (10, .return_, 1, 0, 0, 0, 0)]
def mX1_init : Mt := (yX1_init, cX1_init, 3, none, TX1_init)
def TX1_lay : List It := [(0, .aload_n 0, 1, 0, 0, 0, 0), (1, .iload_n 1, 1, 0, 0, 0, 0), (2, .putfield 15, 3, 1, 0, 0, 0), (5, .aload_n 0, 1, 0, 0, 0, 0), (6, .iload_n 2, 1, 0, 0, 0, 0), (7, .putfield 19, 3, 1, 1, 0, 0), (10, .aload_n 0, 1, 0, 0, 0, 0), (11, .lconst 1, 1, 0, 0, 0, 1), (12, .iload_n 1, 1, 0, 0, 0, 0), (13, .iload_n 2, 1, 0, 0, 0, 0), (14, .imul, 1, 0, 0, 0, 0), (15, .lshl, 1, 0, 0, 0, 0), (16, .lconst 1, 1, 0, 0, 0, 1), (17, .lsub, 1, 0, 0, 0, 0), (18, .putfield 22, 3, 1, 2, 0, 1), (21, .aload_n 0, 1, 0, 0, 0, 0), (22, .lconst 0, 1, 0, 0, 0, 0), (23, .putfield 26, 3, 1, 3, 0, 1), (26, .iconst 0, 1, 0, 0, 0, 0), (27, .istore_n 3, 1, 0, 0, 0, 0), (28, .iload_n 3, 1, 0, 0, 0, 0), (29, .iload_n 2, 1, 0, 0, 0, 0), (30, .if_icmp .ge 23, 3, 0, 53, 0, 0), (33, .aload_n 0, 1, 0, 0, 0, 0), (34, .dup, 1, 0, 0, 0, 0), (35, .getfield 26, 3, 1, 3, 0, 1), (38, .lconst 1, 1, 0, 0, 0, 1), (39, .iload_n 3, 1, 0, 0, 0, 0), (40, .iload_n 1, 1, 0, 0, 0, 0), (41, .imul, 1, 0, 0, 0, 0), (42, .lshl, 1, 0, 0, 0, 0), (43, .lor, 1, 0, 0, 0, 0), (44, .putfield 26, 3, 1, 3, 0, 1), (47, .iinc 3 1, 3, 0, 0, 1, 0), (50, .goto (-22), 3, 0, 28, 0, 0), (53, .aload_n 0, 1, 0, 0, 0, 0), (54, .aload_n 0, 1, 0, 0, 0, 0), (55, .getfield 26, 3, 1, 3, 0, 1), (58, .iload_n 1, 1, 0, 0, 0, 0), (59, .iconst 1, 1, 0, 0, 1, 0), (60, .isub, 1, 0, 0, 0, 0), (61, .lshl, 1, 0, 0, 0, 0), (62, .putfield 29, 3, 1, 4, 0, 1), (65, .return_, 1, 0, 0, 0, 0)]
def mX1_lay : Mt := (yX1_lay, cX1_lay, 4, none, TX1_lay)
def TX1_size : List It := [(0, .aload_n 0, 1, 0, 0, 0, 0), (1, .getfield 15, 3, 1, 0, 0, 0), (4, .aload_n 0, 1, 0, 0, 0, 0), (5, .getfield 19, 3, 1, 1, 0, 0), (8, .imul, 1, 0, 0, 0, 0), (9, .ireturn, 1, 0, 0, 0, 0)]
def mX1_size : Mt := (yX1_size, cX1_size, 1, (some .int), TX1_size)
def TX1_knows : List It := [(0, .iload_n 1, 1, 0, 0, 0, 0), (1, .ifCond .lt 15, 3, 0, 16, 0, 0), (4, .iload_n 1, 1, 0, 0, 0, 0), (5, .aload_n 0, 1, 0, 0, 0, 0), (6, .invokevirtual 32, 3, 0, 8, 0, 0), (9, .if_icmp .ge 7, 3, 0, 16, 0, 0), (12, .iconst 1, 1, 0, 0, 1, 0), (13, .goto 4, 3, 0, 17, 0, 0), (16, .iconst 0, 1, 0, 0, 0, 0), (17, .ireturn, 1, 0, 0, 0, 0)]
def mX1_knows : Mt := (yX1_knows, cX1_knows, 2, (some .boolean), TX1_knows)
def TX1_columnOf : List It := [(0, .aload_n 0, 1, 0, 0, 0, 0), (1, .getfield 15, 3, 1, 0, 0, 0), (4, .iconst 1, 1, 0, 0, 1, 0), (5, .if_icmp .ge 7, 3, 0, 12, 0, 0), (8, .iconst 0, 1, 0, 0, 0, 0), (9, .goto 9, 3, 0, 18, 0, 0), (12, .iload_n 1, 1, 0, 0, 0, 0), (13, .aload_n 0, 1, 0, 0, 0, 0), (14, .getfield 15, 3, 1, 0, 0, 0), (17, .irem, 1, 0, 0, 0, 0), (18, .ireturn, 1, 0, 0, 0, 0)]
def mX1_columnOf : Mt := (yX1_columnOf, cX1_columnOf, 2, (some .int), TX1_columnOf)
def TX1_rowOf : List It := [(0, .aload_n 0, 1, 0, 0, 0, 0), (1, .getfield 15, 3, 1, 0, 0, 0), (4, .iconst 1, 1, 0, 0, 1, 0), (5, .if_icmp .ge 7, 3, 0, 12, 0, 0), (8, .iconst 0, 1, 0, 0, 0, 0), (9, .goto 9, 3, 0, 18, 0, 0), (12, .iload_n 1, 1, 0, 0, 0, 0), (13, .aload_n 0, 1, 0, 0, 0, 0), (14, .getfield 15, 3, 1, 0, 0, 0), (17, .idiv, 1, 0, 0, 0, 0), (18, .ireturn, 1, 0, 0, 0, 0)]
def mX1_rowOf : Mt := (yX1_rowOf, cX1_rowOf, 2, (some .int), TX1_rowOf)
def TX1_steps : List It := [(0, .aload_n 0, 1, 0, 0, 0, 0), (1, .iload_n 1, 1, 0, 0, 0, 0), (2, .invokevirtual 36, 3, 0, 10, 0, 0), (5, .aload_n 0, 1, 0, 0, 0, 0), (6, .iload_n 2, 1, 0, 0, 0, 0), (7, .invokevirtual 36, 3, 0, 10, 0, 0), (10, .isub, 1, 0, 0, 0, 0), (11, .invokestatic 40, 3, 0, 173, 0, 0), (14, .aload_n 0, 1, 0, 0, 0, 0), (15, .iload_n 1, 1, 0, 0, 0, 0), (16, .invokevirtual 45, 3, 0, 11, 0, 0), (19, .aload_n 0, 1, 0, 0, 0, 0), (20, .iload_n 2, 1, 0, 0, 0, 0), (21, .invokevirtual 45, 3, 0, 11, 0, 0), (24, .isub, 1, 0, 0, 0, 0), (25, .invokestatic 40, 3, 0, 173, 0, 0), (28, .iadd, 1, 0, 0, 0, 0), (29, .ireturn, 1, 0, 0, 0, 0)]
def mX1_steps : Mt := (yX1_steps, cX1_steps, 3, (some .int), TX1_steps)
def TX1_boxed : List It := [(0, .lconst 0, 1, 0, 0, 0, 0), (1, .lstore_n 3, 1, 0, 0, 0, 0), (2, .aload_n 0, 1, 0, 0, 0, 0), (3, .iload_n 1, 1, 0, 0, 0, 0), (4, .invokevirtual 45, 3, 0, 11, 0, 0), (7, .istore 5, 2, 0, 0, 0, 0), (9, .iload 5, 2, 0, 0, 0, 0), (11, .aload_n 0, 1, 0, 0, 0, 0), (12, .iload_n 2, 1, 0, 0, 0, 0), (13, .invokevirtual 45, 3, 0, 11, 0, 0), (16, .if_icmp .gt 47, 3, 0, 63, 0, 0), (19, .aload_n 0, 1, 0, 0, 0, 0), (20, .iload_n 1, 1, 0, 0, 0, 0), (21, .invokevirtual 36, 3, 0, 10, 0, 0), (24, .istore 6, 2, 0, 0, 0, 0), (26, .iload 6, 2, 0, 0, 0, 0), (28, .aload_n 0, 1, 0, 0, 0, 0), (29, .iload_n 2, 1, 0, 0, 0, 0), (30, .invokevirtual 36, 3, 0, 10, 0, 0), (33, .if_icmp .gt 24, 3, 0, 57, 0, 0), (36, .lload_n 3, 1, 0, 0, 0, 0), (37, .lconst 1, 1, 0, 0, 0, 1), (38, .iload 5, 2, 0, 0, 0, 0), (40, .aload_n 0, 1, 0, 0, 0, 0), (41, .getfield 15, 3, 1, 0, 0, 0), (44, .imul, 1, 0, 0, 0, 0), (45, .iload 6, 2, 0, 0, 0, 0), (47, .iadd, 1, 0, 0, 0, 0), (48, .lshl, 1, 0, 0, 0, 0), (49, .lor, 1, 0, 0, 0, 0), (50, .lstore_n 3, 1, 0, 0, 0, 0), (51, .iinc 6 1, 3, 0, 0, 1, 0), (54, .goto (-28), 3, 0, 26, 0, 0), (57, .iinc 5 1, 3, 0, 0, 1, 0), (60, .goto (-51), 3, 0, 9, 0, 0), (63, .lload_n 3, 1, 0, 0, 0, 0), (64, .lreturn, 1, 0, 0, 0, 0)]
def mX1_boxed : Mt := (yX1_boxed, cX1_boxed, 7, (some .long), TX1_boxed)
def TX1_rimOf : List It := [(0, .lload_n 1, 1, 0, 0, 0, 0), (1, .aload_n 0, 1, 0, 0, 0, 0), (2, .getfield 29, 3, 1, 4, 0, 1), (5, .ldc2_w 48, 3, 0, 0, 0, (-1)), (8, .lxor, 1, 0, 0, 0, 0), (9, .land, 1, 0, 0, 0, 0), (10, .iconst 1, 1, 0, 0, 1, 0), (11, .lshl, 1, 0, 0, 0, 0), (12, .lload_n 1, 1, 0, 0, 0, 0), (13, .aload_n 0, 1, 0, 0, 0, 0), (14, .getfield 26, 3, 1, 3, 0, 1), (17, .ldc2_w 48, 3, 0, 0, 0, (-1)), (20, .lxor, 1, 0, 0, 0, 0), (21, .land, 1, 0, 0, 0, 0), (22, .iconst 1, 1, 0, 0, 1, 0), (23, .lushr, 1, 0, 0, 0, 0), (24, .lor, 1, 0, 0, 0, 0), (25, .lload_n 1, 1, 0, 0, 0, 0), (26, .aload_n 0, 1, 0, 0, 0, 0), (27, .getfield 15, 3, 1, 0, 0, 0), (30, .lshl, 1, 0, 0, 0, 0), (31, .lor, 1, 0, 0, 0, 0), (32, .lload_n 1, 1, 0, 0, 0, 0), (33, .aload_n 0, 1, 0, 0, 0, 0), (34, .getfield 15, 3, 1, 0, 0, 0), (37, .lushr, 1, 0, 0, 0, 0), (38, .lor, 1, 0, 0, 0, 0), (39, .lstore_n 3, 1, 0, 0, 0, 0), (40, .lload_n 3, 1, 0, 0, 0, 0), (41, .aload_n 0, 1, 0, 0, 0, 0), (42, .getfield 22, 3, 1, 2, 0, 1), (45, .land, 1, 0, 0, 0, 0), (46, .lreturn, 1, 0, 0, 0, 0)]
def mX1_rimOf : Mt := (yX1_rimOf, cX1_rimOf, 5, (some .long), TX1_rimOf)
def TX1_partsOf : List It := [(0, .lload_n 1, 1, 0, 0, 0, 0), (1, .lstore_n 3, 1, 0, 0, 0, 0), (2, .iconst 0, 1, 0, 0, 0, 0), (3, .istore 5, 2, 0, 0, 0, 0), (5, .iload 5, 2, 0, 0, 0, 0), (7, .bipush 36, 2, 0, 0, 36, 0), (9, .if_icmp .ge 31, 3, 0, 40, 0, 0), (12, .lload_n 3, 1, 0, 0, 0, 0), (13, .lconst 0, 1, 0, 0, 0, 0), (14, .lcmp, 1, 0, 0, 0, 0), (15, .ifCond .eq 25, 3, 0, 40, 0, 0), (18, .lload_n 3, 1, 0, 0, 0, 0), (19, .aload_n 0, 1, 0, 0, 0, 0), (20, .lload_n 3, 1, 0, 0, 0, 0), (21, .lload_n 3, 1, 0, 0, 0, 0), (22, .lneg, 1, 0, 0, 0, 0), (23, .land, 1, 0, 0, 0, 0), (24, .lload_n 3, 1, 0, 0, 0, 0), (25, .invokevirtual 50, 3, 0, 16, 0, 0), (28, .ldc2_w 48, 3, 0, 0, 0, (-1)), (31, .lxor, 1, 0, 0, 0, 0), (32, .land, 1, 0, 0, 0, 0), (33, .lstore_n 3, 1, 0, 0, 0, 0), (34, .iinc 5 1, 3, 0, 0, 1, 0), (37, .goto (-32), 3, 0, 5, 0, 0), (40, .iload 5, 2, 0, 0, 0, 0), (42, .ireturn, 1, 0, 0, 0, 0)]
def mX1_partsOf : Mt := (yX1_partsOf, cX1_partsOf, 6, (some .int), TX1_partsOf)
def TX1_pieceFrom : List It := [(0, .lload_n 1, 1, 0, 0, 0, 0), (1, .lstore 5, 2, 0, 0, 0, 0), (3, .iconst 0, 1, 0, 0, 0, 0), (4, .istore 7, 2, 0, 0, 0, 0), (6, .iload 7, 2, 0, 0, 0, 0), (8, .bipush 36, 2, 0, 0, 36, 0), (10, .if_icmp .ge 37, 3, 0, 47, 0, 0), (13, .lload 5, 2, 0, 0, 0, 0), (15, .aload_n 0, 1, 0, 0, 0, 0), (16, .lload 5, 2, 0, 0, 0, 0), (18, .invokevirtual 54, 3, 0, 14, 0, 0), (21, .lload_n 3, 1, 0, 0, 0, 0), (22, .land, 1, 0, 0, 0, 0), (23, .lor, 1, 0, 0, 0, 0), (24, .lstore 8, 2, 0, 0, 0, 0), (26, .lload 8, 2, 0, 0, 0, 0), (28, .lload 5, 2, 0, 0, 0, 0), (30, .lcmp, 1, 0, 0, 0, 0), (31, .ifCond .ne 6, 3, 0, 37, 0, 0), (34, .lload 5, 2, 0, 0, 0, 0), (36, .lreturn, 1, 0, 0, 0, 0), (37, .lload 8, 2, 0, 0, 0, 0), (39, .lstore 5, 2, 0, 0, 0, 0), (41, .iinc 7 1, 3, 0, 0, 1, 0), (44, .goto (-38), 3, 0, 6, 0, 0), (47, .lload 5, 2, 0, 0, 0, 0), (49, .lreturn, 1, 0, 0, 0, 0)]
def mX1_pieceFrom : Mt := (yX1_pieceFrom, cX1_pieceFrom, 10, (some .long), TX1_pieceFrom)
def TX2_init : List It := [(0, .aload_n 0, 1, 0, 0, 0, 0), (1, .invokespecial 3, 3, 0, 178, 0, 0), (4, .aload_n 0, 1, 0, 0, 0, 0), (5, .bipush 36, 2, 0, 0, 36, 0), (7, .newarray .boolean, 2, 0, 0, 0, 0), (9, .putfield 9, 3, 2, 3, 0, 2), (12, .aload_n 0, 1, 0, 0, 0, 0), (13, .bipush 6, 2, 0, 0, 6, 0), (15, .newarray .int, 2, 0, 0, 0, 0), (17, .putfield 15, 3, 2, 4, 0, 2), (20, .aload_n 0, 1, 0, 0, 0, 0), (21, .bipush 6, 2, 0, 0, 6, 0), (23, .newarray .int, 2, 0, 0, 0, 0), (25, .putfield 19, 3, 2, 5, 0, 2), (28, .aload_n 0, 1, 0, 0, 0, 0), (29, .aload_n 1, 1, 0, 0, 0, 0), (30, .putfield 22, 3, 2, 0, 0, 2), (33, .aload_n 0, 1, 0, 0, 0, 0), (34, .aload_n 2, 1, 0, 0, 0, 0), (35, .putfield 26, 3, 2, 1, 0, 2), (38, .aload_n 0, 1, 0, 0, 0, 0), (39, .aload_n 3, 1, 0, 0, 0, 0), (40, .putfield 30, 3, 2, 2, 0, 2), (43, .return_, 1, 0, 0, 0, 0)]
def mX2_init : Mt := (yX2_init, cX2_init, 4, none, TX2_init)
def TX2_allows : List It := [(0, .aload_n 0, 1, 0, 0, 0, 0), (1, .getfield 26, 3, 2, 1, 0, 2), (4, .iload_n 1, 1, 0, 0, 0, 0), (5, .invokevirtual 34, 3, 0, 51, 0, 0), (8, .istore_n 3, 1, 0, 0, 0, 0), (9, .iload_n 3, 1, 0, 0, 0, 0), (10, .bipush 6, 2, 0, 0, 6, 0), (12, .if_icmp .eq 8, 3, 0, 20, 0, 0), (15, .iload_n 3, 1, 0, 0, 0, 0), (16, .iload_n 2, 1, 0, 0, 0, 0), (17, .if_icmp .ne 5, 3, 0, 22, 0, 0), (20, .iconst 0, 1, 0, 0, 0, 0), (21, .ireturn, 1, 0, 0, 0, 0), (22, .lconst 1, 1, 0, 0, 0, 1), (23, .iload_n 1, 1, 0, 0, 0, 0), (24, .lshl, 1, 0, 0, 0, 0), (25, .lstore 4, 2, 0, 0, 0, 0), (27, .aload_n 0, 1, 0, 0, 0, 0), (28, .getfield 22, 3, 2, 0, 0, 2), (31, .lload 4, 2, 0, 0, 0, 0), (33, .invokevirtual 40, 3, 0, 14, 0, 0), (36, .aload_n 0, 1, 0, 0, 0, 0), (37, .getfield 26, 3, 2, 1, 0, 2), (40, .iload_n 2, 1, 0, 0, 0, 0), (41, .invokevirtual 46, 3, 0, 52, 0, 0), (44, .land, 1, 0, 0, 0, 0), (45, .lconst 0, 1, 0, 0, 0, 0), (46, .lcmp, 1, 0, 0, 0, 0), (47, .ifCond .eq 22, 3, 0, 69, 0, 0), (50, .aload_n 0, 1, 0, 0, 0, 0), (51, .iload_n 3, 1, 0, 0, 0, 0), (52, .lload 4, 2, 0, 0, 0, 0), (54, .invokevirtual 50, 3, 0, 19, 0, 0), (57, .lload 4, 2, 0, 0, 0, 0), (59, .land, 1, 0, 0, 0, 0), (60, .lconst 0, 1, 0, 0, 0, 0), (61, .lcmp, 1, 0, 0, 0, 0), (62, .ifCond .eq 7, 3, 0, 69, 0, 0), (65, .iconst 1, 1, 0, 0, 1, 0), (66, .goto 4, 3, 0, 70, 0, 0), (69, .iconst 0, 1, 0, 0, 0, 0), (70, .ireturn, 1, 0, 0, 0, 0)]
def mX2_allows : Mt := (yX2_allows, cX2_allows, 6, (some .boolean), TX2_allows)
def TX2_looseCells : List It := [(0, .aload_n 0, 1, 0, 0, 0, 0), (1, .getfield 26, 3, 2, 1, 0, 2), (4, .iload_n 1, 1, 0, 0, 0, 0), (5, .invokevirtual 46, 3, 0, 52, 0, 0), (8, .lstore 4, 2, 0, 0, 0, 0), (10, .lload 4, 2, 0, 0, 0, 0), (12, .invokestatic 54, 3, 0, 172, 0, 0), (15, .iconst 2, 1, 0, 0, 2, 0), (16, .if_icmp .ge 5, 3, 0, 21, 0, 0), (19, .lconst 0, 1, 0, 0, 0, 0), (20, .lreturn, 1, 0, 0, 0, 0), (21, .aload_n 0, 1, 0, 0, 0, 0), (22, .getfield 22, 3, 2, 0, 0, 2), (25, .lload 4, 2, 0, 0, 0, 0), (27, .invokevirtual 60, 3, 0, 15, 0, 0), (30, .istore 6, 2, 0, 0, 0, 0), (32, .lconst 0, 1, 0, 0, 0, 0), (33, .lstore 7, 2, 0, 0, 0, 0), (35, .iconst 0, 1, 0, 0, 0, 0), (36, .istore 9, 2, 0, 0, 0, 0), (38, .iload 9, 2, 0, 0, 0, 0), (40, .bipush 36, 2, 0, 0, 36, 0), (42, .if_icmp .ge 55, 3, 0, 97, 0, 0), (45, .lconst 1, 1, 0, 0, 0, 1), (46, .iload 9, 2, 0, 0, 0, 0), (48, .lshl, 1, 0, 0, 0, 0), (49, .lstore 10, 2, 0, 0, 0, 0), (51, .lload 4, 2, 0, 0, 0, 0), (53, .lload_n 2, 1, 0, 0, 0, 0), (54, .land, 1, 0, 0, 0, 0), (55, .lload 10, 2, 0, 0, 0, 0), (57, .land, 1, 0, 0, 0, 0), (58, .lconst 0, 1, 0, 0, 0, 0), (59, .lcmp, 1, 0, 0, 0, 0), (60, .ifCond .eq 31, 3, 0, 91, 0, 0), (63, .aload_n 0, 1, 0, 0, 0, 0), (64, .getfield 22, 3, 2, 0, 0, 2), (67, .lload 4, 2, 0, 0, 0, 0), (69, .lload 10, 2, 0, 0, 0, 0), (71, .ldc2_w 63, 3, 0, 0, 0, (-1)), (74, .lxor, 1, 0, 0, 0, 0), (75, .land, 1, 0, 0, 0, 0), (76, .invokevirtual 60, 3, 0, 15, 0, 0), (79, .iload 6, 2, 0, 0, 0, 0), (81, .if_icmp .gt 10, 3, 0, 91, 0, 0), (84, .lload 7, 2, 0, 0, 0, 0), (86, .lload 10, 2, 0, 0, 0, 0), (88, .lor, 1, 0, 0, 0, 0), (89, .lstore 7, 2, 0, 0, 0, 0), (91, .iinc 9 1, 3, 0, 0, 1, 0), (94, .goto (-56), 3, 0, 38, 0, 0), (97, .lload 7, 2, 0, 0, 0, 0), (99, .lreturn, 1, 0, 0, 0, 0)]
def mX2_looseCells : Mt := (yX2_looseCells, cX2_looseCells, 12, (some .long), TX2_looseCells)
def TX2_cellsToHand : List It := [(0, .aload_n 0, 1, 0, 0, 0, 0), (1, .iload_n 1, 1, 0, 0, 0, 0), (2, .aload_n 0, 1, 0, 0, 0, 0), (3, .getfield 22, 3, 2, 0, 0, 2), (6, .aload_n 0, 1, 0, 0, 0, 0), (7, .getfield 26, 3, 2, 1, 0, 2), (10, .iload_n 2, 1, 0, 0, 0, 0), (11, .invokevirtual 46, 3, 0, 52, 0, 0), (14, .invokevirtual 40, 3, 0, 14, 0, 0), (17, .invokevirtual 50, 3, 0, 19, 0, 0), (20, .lreturn, 1, 0, 0, 0, 0)]
def mX2_cellsToHand : Mt := (yX2_cellsToHand, cX2_cellsToHand, 3, (some .long), TX2_cellsToHand)
def TX2_findChain : List It := [(0, .aload_n 0, 1, 0, 0, 0, 0), (1, .invokevirtual 65, 3, 0, 22, 0, 0), (4, .aload_n 0, 1, 0, 0, 0, 0), (5, .invokevirtual 68, 3, 0, 23, 0, 0), (8, .bipush (-9), 2, 0, 0, (-9), 0), (10, .istore_n 1, 1, 0, 0, 0, 0), (11, .iconst 0, 1, 0, 0, 0, 0), (12, .istore_n 2, 1, 0, 0, 0, 0), (13, .iload_n 2, 1, 0, 0, 0, 0), (14, .bipush 6, 2, 0, 0, 6, 0), (16, .if_icmp .ge 67, 3, 0, 83, 0, 0), (19, .aload_n 0, 1, 0, 0, 0, 0), (20, .getfield 26, 3, 2, 1, 0, 2), (23, .iload_n 2, 1, 0, 0, 0, 0), (24, .invokevirtual 71, 3, 0, 53, 0, 0), (27, .aload_n 0, 1, 0, 0, 0, 0), (28, .getfield 30, 3, 2, 2, 0, 2), (31, .getfield 74, 3, 0, 1, 0, 2), (34, .iload_n 2, 1, 0, 0, 0, 0), (35, .iaload, 1, 0, 0, 0, 0), (36, .if_icmp .le 7, 3, 0, 43, 0, 0), (39, .iconst 1, 1, 0, 0, 1, 0), (40, .goto 4, 3, 0, 44, 0, 0), (43, .iconst 0, 1, 0, 0, 0, 0), (44, .istore_n 3, 1, 0, 0, 0, 0), (45, .iload_n 3, 1, 0, 0, 0, 0), (46, .ifCond .eq 31, 3, 0, 77, 0, 0), (49, .aload_n 0, 1, 0, 0, 0, 0), (50, .getfield 15, 3, 2, 4, 0, 2), (53, .iload_n 2, 1, 0, 0, 0, 0), (54, .iaload, 1, 0, 0, 0, 0), (55, .iload_n 1, 1, 0, 0, 0, 0), (56, .bipush (-9), 2, 0, 0, (-9), 0), (58, .if_icmp .ne 8, 3, 0, 66, 0, 0), (61, .bipush 7, 2, 0, 0, 7, 0), (63, .goto 9, 3, 0, 72, 0, 0), (66, .aload_n 0, 1, 0, 0, 0, 0), (67, .getfield 15, 3, 2, 4, 0, 2), (70, .iload_n 1, 1, 0, 0, 0, 0), (71, .iaload, 1, 0, 0, 0, 0), (72, .if_icmp .ge 5, 3, 0, 77, 0, 0), (75, .iload_n 2, 1, 0, 0, 0, 0), (76, .istore_n 1, 1, 0, 0, 0, 0), (77, .iinc 2 1, 3, 0, 0, 1, 0), (80, .goto (-67), 3, 0, 13, 0, 0), (83, .iload_n 1, 1, 0, 0, 0, 0), (84, .bipush (-9), 2, 0, 0, (-9), 0), (86, .if_icmp .ne 5, 3, 0, 91, 0, 0), (89, .iconst 0, 1, 0, 0, 0, 0), (90, .ireturn, 1, 0, 0, 0, 0), (91, .aload_n 0, 1, 0, 0, 0, 0), (92, .getfield 15, 3, 2, 4, 0, 2), (95, .iload_n 1, 1, 0, 0, 0, 0), (96, .iaload, 1, 0, 0, 0, 0), (97, .istore_n 2, 1, 0, 0, 0, 0), (98, .iconst 0, 1, 0, 0, 0, 0), (99, .istore_n 3, 1, 0, 0, 0, 0), (100, .iload_n 3, 1, 0, 0, 0, 0), (101, .iload_n 2, 1, 0, 0, 0, 0), (102, .if_icmp .ge 34, 3, 0, 136, 0, 0), (105, .iload_n 3, 1, 0, 0, 0, 0), (106, .bipush 6, 2, 0, 0, 6, 0), (108, .if_icmp .ge 28, 3, 0, 136, 0, 0), (111, .iload_n 1, 1, 0, 0, 0, 0), (112, .bipush (-9), 2, 0, 0, (-9), 0), (114, .if_icmp .eq 22, 3, 0, 136, 0, 0), (117, .aload_n 0, 1, 0, 0, 0, 0), (118, .getfield 19, 3, 2, 5, 0, 2), (121, .iload_n 3, 1, 0, 0, 0, 0), (122, .iload_n 1, 1, 0, 0, 0, 0), (123, .iastore, 1, 0, 0, 0, 0), (124, .aload_n 0, 1, 0, 0, 0, 0), (125, .iload_n 1, 1, 0, 0, 0, 0), (126, .invokevirtual 79, 3, 0, 24, 0, 0), (129, .istore_n 1, 1, 0, 0, 0, 0), (130, .iinc 3 1, 3, 0, 0, 1, 0), (133, .goto (-33), 3, 0, 100, 0, 0), (136, .iload_n 2, 1, 0, 0, 0, 0), (137, .ireturn, 1, 0, 0, 0, 0)]
def mX2_findChain : Mt := (yX2_findChain, cX2_findChain, 4, (some .int), TX2_findChain)
def TX2_seeWhoHands : List It := [(0, .iconst 0, 1, 0, 0, 0, 0), (1, .istore_n 1, 1, 0, 0, 0, 0), (2, .iload_n 1, 1, 0, 0, 0, 0), (3, .bipush 6, 2, 0, 0, 6, 0), (5, .if_icmp .ge 84, 3, 0, 89, 0, 0), (8, .aload_n 0, 1, 0, 0, 0, 0), (9, .iload_n 1, 1, 0, 0, 0, 0), (10, .aload_n 0, 1, 0, 0, 0, 0), (11, .getfield 22, 3, 2, 0, 0, 2), (14, .getfield 82, 3, 1, 2, 0, 1), (17, .invokevirtual 50, 3, 0, 19, 0, 0), (20, .lstore_n 2, 1, 0, 0, 0, 0), (21, .iconst 0, 1, 0, 0, 0, 0), (22, .istore 4, 2, 0, 0, 0, 0), (24, .iload 4, 2, 0, 0, 0, 0), (26, .bipush 6, 2, 0, 0, 6, 0), (28, .if_icmp .ge 55, 3, 0, 83, 0, 0), (31, .aload_n 0, 1, 0, 0, 0, 0), (32, .getfield 9, 3, 2, 3, 0, 2), (35, .iload_n 1, 1, 0, 0, 0, 0), (36, .bipush 6, 2, 0, 0, 6, 0), (38, .imul, 1, 0, 0, 0, 0), (39, .iload 4, 2, 0, 0, 0, 0), (41, .iadd, 1, 0, 0, 0, 0), (42, .iload_n 1, 1, 0, 0, 0, 0), (43, .iload 4, 2, 0, 0, 0, 0), (45, .if_icmp .eq 30, 3, 0, 75, 0, 0), (48, .lload_n 2, 1, 0, 0, 0, 0), (49, .aload_n 0, 1, 0, 0, 0, 0), (50, .getfield 22, 3, 2, 0, 0, 2), (53, .aload_n 0, 1, 0, 0, 0, 0), (54, .getfield 26, 3, 2, 1, 0, 2), (57, .iload 4, 2, 0, 0, 0, 0), (59, .invokevirtual 46, 3, 0, 52, 0, 0), (62, .invokevirtual 40, 3, 0, 14, 0, 0), (65, .land, 1, 0, 0, 0, 0), (66, .lconst 0, 1, 0, 0, 0, 0), (67, .lcmp, 1, 0, 0, 0, 0), (68, .ifCond .eq 7, 3, 0, 75, 0, 0), (71, .iconst 1, 1, 0, 0, 1, 0), (72, .goto 4, 3, 0, 76, 0, 0), (75, .iconst 0, 1, 0, 0, 0, 0), (76, .bastore, 1, 0, 0, 0, 0), (77, .iinc 4 1, 3, 0, 0, 1, 0), (80, .goto (-56), 3, 0, 24, 0, 0), (83, .iinc 1 1, 3, 0, 0, 1, 0), (86, .goto (-84), 3, 0, 2, 0, 0), (89, .return_, 1, 0, 0, 0, 0)]
def mX2_seeWhoHands : Mt := (yX2_seeWhoHands, cX2_seeWhoHands, 5, none, TX2_seeWhoHands)
def TX2_measureLengths : List It := [(0, .iconst 0, 1, 0, 0, 0, 0), (1, .istore_n 1, 1, 0, 0, 0, 0), (2, .iload_n 1, 1, 0, 0, 0, 0), (3, .bipush 6, 2, 0, 0, 6, 0), (5, .if_icmp .ge 41, 3, 0, 46, 0, 0), (8, .aload_n 0, 1, 0, 0, 0, 0), (9, .getfield 15, 3, 2, 4, 0, 2), (12, .iload_n 1, 1, 0, 0, 0, 0), (13, .aload_n 0, 1, 0, 0, 0, 0), (14, .getfield 26, 3, 2, 1, 0, 2), (17, .iload_n 1, 1, 0, 0, 0, 0), (18, .invokevirtual 71, 3, 0, 53, 0, 0), (21, .aload_n 0, 1, 0, 0, 0, 0), (22, .getfield 30, 3, 2, 2, 0, 2), (25, .getfield 74, 3, 0, 1, 0, 2), (28, .iload_n 1, 1, 0, 0, 0, 0), (29, .iaload, 1, 0, 0, 0, 0), (30, .if_icmp .ge 7, 3, 0, 37, 0, 0), (33, .iconst 1, 1, 0, 0, 1, 0), (34, .goto 5, 3, 0, 39, 0, 0), (37, .bipush 7, 2, 0, 0, 7, 0), (39, .iastore, 1, 0, 0, 0, 0), (40, .iinc 1 1, 3, 0, 0, 1, 0), (43, .goto (-41), 3, 0, 2, 0, 0), (46, .iconst 1, 1, 0, 0, 1, 0), (47, .istore_n 1, 1, 0, 0, 0, 0), (48, .iload_n 1, 1, 0, 0, 0, 0), (49, .bipush 6, 2, 0, 0, 6, 0), (51, .if_icmp .ge 74, 3, 0, 125, 0, 0), (54, .iconst 0, 1, 0, 0, 0, 0), (55, .istore_n 2, 1, 0, 0, 0, 0), (56, .iload_n 2, 1, 0, 0, 0, 0), (57, .bipush 6, 2, 0, 0, 6, 0), (59, .if_icmp .ge 60, 3, 0, 119, 0, 0), (62, .iconst 0, 1, 0, 0, 0, 0), (63, .istore_n 3, 1, 0, 0, 0, 0), (64, .iload_n 3, 1, 0, 0, 0, 0), (65, .bipush 6, 2, 0, 0, 6, 0), (67, .if_icmp .ge 46, 3, 0, 113, 0, 0), (70, .aload_n 0, 1, 0, 0, 0, 0), (71, .getfield 9, 3, 2, 3, 0, 2), (74, .iload_n 2, 1, 0, 0, 0, 0), (75, .bipush 6, 2, 0, 0, 6, 0), (77, .imul, 1, 0, 0, 0, 0), (78, .iload_n 3, 1, 0, 0, 0, 0), (79, .iadd, 1, 0, 0, 0, 0), (80, .baload, 1, 0, 0, 0, 0), (81, .ifCond .eq 26, 3, 0, 107, 0, 0), (84, .aload_n 0, 1, 0, 0, 0, 0), (85, .getfield 15, 3, 2, 4, 0, 2), (88, .iload_n 2, 1, 0, 0, 0, 0), (89, .aload_n 0, 1, 0, 0, 0, 0), (90, .getfield 15, 3, 2, 4, 0, 2), (93, .iload_n 2, 1, 0, 0, 0, 0), (94, .iaload, 1, 0, 0, 0, 0), (95, .aload_n 0, 1, 0, 0, 0, 0), (96, .getfield 15, 3, 2, 4, 0, 2), (99, .iload_n 3, 1, 0, 0, 0, 0), (100, .iaload, 1, 0, 0, 0, 0), (101, .iconst 1, 1, 0, 0, 1, 0), (102, .iadd, 1, 0, 0, 0, 0), (103, .invokestatic 86, 3, 0, 175, 0, 0), (106, .iastore, 1, 0, 0, 0, 0), (107, .iinc 3 1, 3, 0, 0, 1, 0), (110, .goto (-46), 3, 0, 64, 0, 0), (113, .iinc 2 1, 3, 0, 0, 1, 0), (116, .goto (-60), 3, 0, 56, 0, 0), (119, .iinc 1 1, 3, 0, 0, 1, 0), (122, .goto (-74), 3, 0, 48, 0, 0), (125, .return_, 1, 0, 0, 0, 0)]
def mX2_measureLengths : Mt := (yX2_measureLengths, cX2_measureLengths, 4, none, TX2_measureLengths)
def TX2_nextOf : List It := [(0, .iconst 0, 1, 0, 0, 0, 0), (1, .istore_n 2, 1, 0, 0, 0, 0), (2, .iload_n 2, 1, 0, 0, 0, 0), (3, .bipush 6, 2, 0, 0, 6, 0), (5, .if_icmp .ge 42, 3, 0, 47, 0, 0), (8, .aload_n 0, 1, 0, 0, 0, 0), (9, .getfield 9, 3, 2, 3, 0, 2), (12, .iload_n 1, 1, 0, 0, 0, 0), (13, .bipush 6, 2, 0, 0, 6, 0), (15, .imul, 1, 0, 0, 0, 0), (16, .iload_n 2, 1, 0, 0, 0, 0), (17, .iadd, 1, 0, 0, 0, 0), (18, .baload, 1, 0, 0, 0, 0), (19, .ifCond .eq 22, 3, 0, 41, 0, 0), (22, .aload_n 0, 1, 0, 0, 0, 0), (23, .getfield 15, 3, 2, 4, 0, 2), (26, .iload_n 2, 1, 0, 0, 0, 0), (27, .iaload, 1, 0, 0, 0, 0), (28, .aload_n 0, 1, 0, 0, 0, 0), (29, .getfield 15, 3, 2, 4, 0, 2), (32, .iload_n 1, 1, 0, 0, 0, 0), (33, .iaload, 1, 0, 0, 0, 0), (34, .iconst 1, 1, 0, 0, 1, 0), (35, .isub, 1, 0, 0, 0, 0), (36, .if_icmp .ne 5, 3, 0, 41, 0, 0), (39, .iload_n 2, 1, 0, 0, 0, 0), (40, .ireturn, 1, 0, 0, 0, 0), (41, .iinc 2 1, 3, 0, 0, 1, 0), (44, .goto (-42), 3, 0, 2, 0, 0), (47, .bipush (-9), 2, 0, 0, (-9), 0), (49, .ireturn, 1, 0, 0, 0, 0)]
def mX2_nextOf : Mt := (yX2_nextOf, cX2_nextOf, 3, (some .int), TX2_nextOf)
def TX2_passAlong : List It := [(0, .iconst 0, 1, 0, 0, 0, 0), (1, .istore_n 2, 1, 0, 0, 0, 0), (2, .iload_n 1, 1, 0, 0, 0, 0), (3, .bipush 6, 2, 0, 0, 6, 0), (5, .invokestatic 86, 3, 0, 175, 0, 0), (8, .iconst 2, 1, 0, 0, 2, 0), (9, .isub, 1, 0, 0, 0, 0), (10, .istore_n 3, 1, 0, 0, 0, 0), (11, .iload_n 3, 1, 0, 0, 0, 0), (12, .ifCond .lt 61, 3, 0, 73, 0, 0), (15, .aload_n 0, 1, 0, 0, 0, 0), (16, .getfield 19, 3, 2, 5, 0, 2), (19, .iload_n 3, 1, 0, 0, 0, 0), (20, .iconst 1, 1, 0, 0, 1, 0), (21, .iadd, 1, 0, 0, 0, 0), (22, .iaload, 1, 0, 0, 0, 0), (23, .istore 4, 2, 0, 0, 0, 0), (25, .aload_n 0, 1, 0, 0, 0, 0), (26, .aload_n 0, 1, 0, 0, 0, 0), (27, .getfield 19, 3, 2, 5, 0, 2), (30, .iload_n 3, 1, 0, 0, 0, 0), (31, .iaload, 1, 0, 0, 0, 0), (32, .iload 4, 2, 0, 0, 0, 0), (34, .invokevirtual 92, 3, 0, 20, 0, 0), (37, .invokestatic 96, 3, 0, 99, 0, 0), (40, .istore 5, 2, 0, 0, 0, 0), (42, .iload 5, 2, 0, 0, 0, 0), (44, .bipush (-9), 2, 0, 0, (-9), 0), (46, .if_icmp .ne 5, 3, 0, 51, 0, 0), (49, .iload_n 2, 1, 0, 0, 0, 0), (50, .ireturn, 1, 0, 0, 0, 0), (51, .aload_n 0, 1, 0, 0, 0, 0), (52, .getfield 26, 3, 2, 1, 0, 2), (55, .lconst 1, 1, 0, 0, 0, 1), (56, .iload 5, 2, 0, 0, 0, 0), (58, .lshl, 1, 0, 0, 0, 0), (59, .iload 4, 2, 0, 0, 0, 0), (61, .invokevirtual 99, 3, 0, 50, 0, 0), (64, .iinc 2 1, 3, 0, 0, 1, 0), (67, .iinc 3 (-1), 3, 0, 0, (-1), 0), (70, .goto (-59), 3, 0, 11, 0, 0), (73, .iload_n 2, 1, 0, 0, 0, 0), (74, .ireturn, 1, 0, 0, 0, 0)]
def mX2_passAlong : Mt := (yX2_passAlong, cX2_passAlong, 6, (some .int), TX2_passAlong)
def TX3_init : List It := [(0, .aload_n 0, 1, 0, 0, 0, 0), (1, .invokespecial 3, 3, 0, 178, 0, 0), (4, .aload_n 0, 1, 0, 0, 0, 0), (5, .sipush 324, 3, 0, 0, 324, 0), (8, .newarray .long, 2, 0, 0, 0, 0), (10, .putfield 11, 3, 3, 0, 0, 2), (13, .aload_n 0, 1, 0, 0, 0, 0), (14, .bipush 37, 2, 0, 0, 37, 0), (16, .newarray .long, 2, 0, 0, 0, 0), (18, .putfield 15, 3, 3, 1, 0, 2), (21, .aload_n 0, 1, 0, 0, 0, 0), (22, .bipush 37, 2, 0, 0, 37, 0), (24, .newarray .long, 2, 0, 0, 0, 0), (26, .putfield 18, 3, 3, 2, 0, 2), (29, .aload_n 0, 1, 0, 0, 0, 0), (30, .bipush 37, 2, 0, 0, 37, 0), (32, .newarray .long, 2, 0, 0, 0, 0), (34, .putfield 21, 3, 3, 3, 0, 2), (37, .aload_n 0, 1, 0, 0, 0, 0), (38, .bipush 37, 2, 0, 0, 37, 0), (40, .newarray .int, 2, 0, 0, 0, 0), (42, .putfield 24, 3, 3, 4, 0, 2), (45, .aload_n 0, 1, 0, 0, 0, 0), (46, .bipush 37, 2, 0, 0, 37, 0), (48, .newarray .int, 2, 0, 0, 0, 0), (50, .putfield 28, 3, 3, 5, 0, 2), (53, .return_, 1, 0, 0, 0, 0)]
def mX3_init : Mt := (yX3_init, cX3_init, 1, none, TX3_init)
def TX3_begin : List It := [(0, .iload_n 1, 1, 0, 0, 0, 0), (1, .ifCond .lt 27, 3, 0, 28, 0, 0), (4, .iload_n 1, 1, 0, 0, 0, 0), (5, .iload_n 2, 1, 0, 0, 0, 0), (6, .if_icmp .gt 22, 3, 0, 28, 0, 0), (9, .iload_n 2, 1, 0, 0, 0, 0), (10, .bipush 36, 2, 0, 0, 36, 0), (12, .if_icmp .gt 16, 3, 0, 28, 0, 0), (15, .iload_n 1, 1, 0, 0, 0, 0), (16, .iload_n 2, 1, 0, 0, 0, 0), (17, .imul, 1, 0, 0, 0, 0), (18, .sipush 324, 3, 0, 0, 324, 0), (21, .if_icmp .gt 7, 3, 0, 28, 0, 0), (24, .iconst 1, 1, 0, 0, 1, 0), (25, .goto 4, 3, 0, 29, 0, 0), (28, .iconst 0, 1, 0, 0, 0, 0), (29, .istore_n 3, 1, 0, 0, 0, 0), (30, .aload_n 0, 1, 0, 0, 0, 0), (31, .iload_n 3, 1, 0, 0, 0, 0), (32, .ifCond .eq 7, 3, 0, 39, 0, 0), (35, .iload_n 1, 1, 0, 0, 0, 0), (36, .goto 4, 3, 0, 40, 0, 0), (39, .iconst 0, 1, 0, 0, 0, 0), (40, .putfield 31, 3, 3, 7, 0, 0), (43, .aload_n 0, 1, 0, 0, 0, 0), (44, .iload_n 3, 1, 0, 0, 0, 0), (45, .ifCond .eq 7, 3, 0, 52, 0, 0), (48, .iload_n 2, 1, 0, 0, 0, 0), (49, .goto 4, 3, 0, 53, 0, 0), (52, .iconst 0, 1, 0, 0, 0, 0), (53, .putfield 35, 3, 3, 8, 0, 0), (56, .return_, 1, 0, 0, 0, 0)]
def mX3_begin : Mt := (yX3_begin, cX3_begin, 4, none, TX3_begin)
def TX3_setCost : List It := [(0, .iload_n 1, 1, 0, 0, 0, 0), (1, .ifCond .lt 37, 3, 0, 38, 0, 0), (4, .iload_n 1, 1, 0, 0, 0, 0), (5, .aload_n 0, 1, 0, 0, 0, 0), (6, .getfield 31, 3, 3, 7, 0, 0), (9, .if_icmp .ge 29, 3, 0, 38, 0, 0), (12, .iload_n 2, 1, 0, 0, 0, 0), (13, .ifCond .lt 25, 3, 0, 38, 0, 0), (16, .iload_n 2, 1, 0, 0, 0, 0), (17, .aload_n 0, 1, 0, 0, 0, 0), (18, .getfield 35, 3, 3, 8, 0, 0), (21, .if_icmp .ge 17, 3, 0, 38, 0, 0), (24, .aload_n 0, 1, 0, 0, 0, 0), (25, .getfield 11, 3, 3, 0, 0, 2), (28, .iload_n 1, 1, 0, 0, 0, 0), (29, .aload_n 0, 1, 0, 0, 0, 0), (30, .getfield 35, 3, 3, 8, 0, 0), (33, .imul, 1, 0, 0, 0, 0), (34, .iload_n 2, 1, 0, 0, 0, 0), (35, .iadd, 1, 0, 0, 0, 0), (36, .lload_n 3, 1, 0, 0, 0, 0), (37, .lastore, 1, 0, 0, 0, 0), (38, .return_, 1, 0, 0, 0, 0)]
def mX3_setCost : Mt := (yX3_setCost, cX3_setCost, 5, none, TX3_setCost)
def TX3_solve : List It := [(0, .aload_n 0, 1, 0, 0, 0, 0), (1, .getfield 15, 3, 3, 1, 0, 2), (4, .lconst 0, 1, 0, 0, 0, 0), (5, .invokestatic 38, 3, 0, 176, 0, 0), (8, .aload_n 0, 1, 0, 0, 0, 0), (9, .getfield 18, 3, 3, 2, 0, 2), (12, .lconst 0, 1, 0, 0, 0, 0), (13, .invokestatic 38, 3, 0, 176, 0, 0), (16, .aload_n 0, 1, 0, 0, 0, 0), (17, .getfield 24, 3, 3, 4, 0, 2), (20, .iconst 0, 1, 0, 0, 0, 0), (21, .invokestatic 44, 3, 0, 177, 0, 0), (24, .iconst 1, 1, 0, 0, 1, 0), (25, .istore_n 1, 1, 0, 0, 0, 0), (26, .iload_n 1, 1, 0, 0, 0, 0), (27, .aload_n 0, 1, 0, 0, 0, 0), (28, .getfield 31, 3, 3, 7, 0, 0), (31, .if_icmp .gt 18, 3, 0, 49, 0, 0), (34, .aload_n 0, 1, 0, 0, 0, 0), (35, .aload_n 0, 1, 0, 0, 0, 0), (36, .iload_n 1, 1, 0, 0, 0, 0), (37, .invokevirtual 47, 3, 0, 32, 0, 0), (40, .invokevirtual 51, 3, 0, 37, 0, 0), (43, .iinc 1 1, 3, 0, 0, 1, 0), (46, .goto (-20), 3, 0, 26, 0, 0), (49, .return_, 1, 0, 0, 0, 0)]
def mX3_solve : Mt := (yX3_solve, cX3_solve, 2, none, TX3_solve)
def TX3_rowIn : List It := [(0, .iload_n 1, 1, 0, 0, 0, 0), (1, .ifCond .lt 24, 3, 0, 25, 0, 0), (4, .iload_n 1, 1, 0, 0, 0, 0), (5, .aload_n 0, 1, 0, 0, 0, 0), (6, .getfield 35, 3, 3, 8, 0, 0), (9, .if_icmp .ge 16, 3, 0, 25, 0, 0), (12, .aload_n 0, 1, 0, 0, 0, 0), (13, .getfield 24, 3, 3, 4, 0, 2), (16, .iload_n 1, 1, 0, 0, 0, 0), (17, .iconst 1, 1, 0, 0, 1, 0), (18, .iadd, 1, 0, 0, 0, 0), (19, .iaload, 1, 0, 0, 0, 0), (20, .iconst 1, 1, 0, 0, 1, 0), (21, .isub, 1, 0, 0, 0, 0), (22, .goto 5, 3, 0, 27, 0, 0), (25, .bipush (-9), 2, 0, 0, (-9), 0), (27, .ireturn, 1, 0, 0, 0, 0)]
def mX3_rowIn : Mt := (yX3_rowIn, cX3_rowIn, 2, (some .int), TX3_rowIn)
def TX3_sum : List It := [(0, .lconst 0, 1, 0, 0, 0, 0), (1, .lstore_n 1, 1, 0, 0, 0, 0), (2, .iconst 1, 1, 0, 0, 1, 0), (3, .istore_n 3, 1, 0, 0, 0, 0), (4, .iload_n 3, 1, 0, 0, 0, 0), (5, .aload_n 0, 1, 0, 0, 0, 0), (6, .getfield 35, 3, 3, 8, 0, 0), (9, .if_icmp .gt 47, 3, 0, 56, 0, 0), (12, .lload_n 1, 1, 0, 0, 0, 0), (13, .aload_n 0, 1, 0, 0, 0, 0), (14, .getfield 24, 3, 3, 4, 0, 2), (17, .iload_n 3, 1, 0, 0, 0, 0), (18, .iaload, 1, 0, 0, 0, 0), (19, .ifCond .ne 7, 3, 0, 26, 0, 0), (22, .lconst 0, 1, 0, 0, 0, 0), (23, .goto 25, 3, 0, 48, 0, 0), (26, .aload_n 0, 1, 0, 0, 0, 0), (27, .getfield 11, 3, 3, 0, 0, 2), (30, .aload_n 0, 1, 0, 0, 0, 0), (31, .getfield 24, 3, 3, 4, 0, 2), (34, .iload_n 3, 1, 0, 0, 0, 0), (35, .iaload, 1, 0, 0, 0, 0), (36, .iconst 1, 1, 0, 0, 1, 0), (37, .isub, 1, 0, 0, 0, 0), (38, .aload_n 0, 1, 0, 0, 0, 0), (39, .getfield 35, 3, 3, 8, 0, 0), (42, .imul, 1, 0, 0, 0, 0), (43, .iload_n 3, 1, 0, 0, 0, 0), (44, .iadd, 1, 0, 0, 0, 0), (45, .iconst 1, 1, 0, 0, 1, 0), (46, .isub, 1, 0, 0, 0, 0), (47, .laload, 1, 0, 0, 0, 0), (48, .ladd, 1, 0, 0, 0, 0), (49, .lstore_n 1, 1, 0, 0, 0, 0), (50, .iinc 3 1, 3, 0, 0, 1, 0), (53, .goto (-49), 3, 0, 4, 0, 0), (56, .lload_n 1, 1, 0, 0, 0, 0), (57, .lreturn, 1, 0, 0, 0, 0)]
def mX3_sum : Mt := (yX3_sum, cX3_sum, 4, (some .long), TX3_sum)
def TX3_placeFor : List It := [(0, .aload_n 0, 1, 0, 0, 0, 0), (1, .getfield 24, 3, 3, 4, 0, 2), (4, .iconst 0, 1, 0, 0, 0, 0), (5, .iload_n 1, 1, 0, 0, 0, 0), (6, .iastore, 1, 0, 0, 0, 0), (7, .aload_n 0, 1, 0, 0, 0, 0), (8, .lconst 0, 1, 0, 0, 0, 0), (9, .putfield 55, 3, 3, 6, 0, 1), (12, .aload_n 0, 1, 0, 0, 0, 0), (13, .getfield 21, 3, 3, 3, 0, 2), (16, .ldc2_w 59, 3, 0, 0, 0, 1152921504606846976), (19, .invokestatic 38, 3, 0, 176, 0, 0), (22, .iconst 0, 1, 0, 0, 0, 0), (23, .istore_n 2, 1, 0, 0, 0, 0), (24, .iconst 0, 1, 0, 0, 0, 0), (25, .istore_n 3, 1, 0, 0, 0, 0), (26, .iload_n 3, 1, 0, 0, 0, 0), (27, .aload_n 0, 1, 0, 0, 0, 0), (28, .getfield 35, 3, 3, 8, 0, 0), (31, .if_icmp .gt 55, 3, 0, 86, 0, 0), (34, .aload_n 0, 1, 0, 0, 0, 0), (35, .getfield 24, 3, 3, 4, 0, 2), (38, .iload_n 2, 1, 0, 0, 0, 0), (39, .iaload, 1, 0, 0, 0, 0), (40, .ifCond .eq 46, 3, 0, 86, 0, 0), (43, .aload_n 0, 1, 0, 0, 0, 0), (44, .dup, 1, 0, 0, 0, 0), (45, .getfield 55, 3, 3, 6, 0, 1), (48, .lconst 1, 1, 0, 0, 0, 1), (49, .iload_n 2, 1, 0, 0, 0, 0), (50, .lshl, 1, 0, 0, 0, 0), (51, .lor, 1, 0, 0, 0, 0), (52, .putfield 55, 3, 3, 6, 0, 1), (55, .aload_n 0, 1, 0, 0, 0, 0), (56, .iload_n 2, 1, 0, 0, 0, 0), (57, .invokevirtual 61, 3, 0, 33, 0, 0), (60, .aload_n 0, 1, 0, 0, 0, 0), (61, .invokevirtual 64, 3, 0, 34, 0, 0), (64, .istore 4, 2, 0, 0, 0, 0), (66, .aload_n 0, 1, 0, 0, 0, 0), (67, .aload_n 0, 1, 0, 0, 0, 0), (68, .getfield 21, 3, 3, 3, 0, 2), (71, .iload 4, 2, 0, 0, 0, 0), (73, .laload, 1, 0, 0, 0, 0), (74, .invokevirtual 68, 3, 0, 35, 0, 0), (77, .iload 4, 2, 0, 0, 0, 0), (79, .istore_n 2, 1, 0, 0, 0, 0), (80, .iinc 3 1, 3, 0, 0, 1, 0), (83, .goto (-57), 3, 0, 26, 0, 0), (86, .iload_n 2, 1, 0, 0, 0, 0), (87, .ireturn, 1, 0, 0, 0, 0)]
def mX3_placeFor : Mt := (yX3_placeFor, cX3_placeFor, 5, (some .int), TX3_placeFor)
def TX3_tightenFrom : List It := [(0, .aload_n 0, 1, 0, 0, 0, 0), (1, .getfield 24, 3, 3, 4, 0, 2), (4, .iload_n 1, 1, 0, 0, 0, 0), (5, .iaload, 1, 0, 0, 0, 0), (6, .istore_n 2, 1, 0, 0, 0, 0), (7, .iconst 1, 1, 0, 0, 1, 0), (8, .istore_n 3, 1, 0, 0, 0, 0), (9, .iload_n 3, 1, 0, 0, 0, 0), (10, .aload_n 0, 1, 0, 0, 0, 0), (11, .getfield 35, 3, 3, 8, 0, 0), (14, .if_icmp .gt 77, 3, 0, 91, 0, 0), (17, .aload_n 0, 1, 0, 0, 0, 0), (18, .iload_n 3, 1, 0, 0, 0, 0), (19, .invokevirtual 72, 3, 0, 36, 0, 0), (22, .ifCond .ne 63, 3, 0, 85, 0, 0), (25, .aload_n 0, 1, 0, 0, 0, 0), (26, .getfield 11, 3, 3, 0, 0, 2), (29, .iload_n 2, 1, 0, 0, 0, 0), (30, .iconst 1, 1, 0, 0, 1, 0), (31, .isub, 1, 0, 0, 0, 0), (32, .aload_n 0, 1, 0, 0, 0, 0), (33, .getfield 35, 3, 3, 8, 0, 0), (36, .imul, 1, 0, 0, 0, 0), (37, .iload_n 3, 1, 0, 0, 0, 0), (38, .iadd, 1, 0, 0, 0, 0), (39, .iconst 1, 1, 0, 0, 1, 0), (40, .isub, 1, 0, 0, 0, 0), (41, .laload, 1, 0, 0, 0, 0), (42, .aload_n 0, 1, 0, 0, 0, 0), (43, .getfield 15, 3, 3, 1, 0, 2), (46, .iload_n 2, 1, 0, 0, 0, 0), (47, .laload, 1, 0, 0, 0, 0), (48, .lsub, 1, 0, 0, 0, 0), (49, .aload_n 0, 1, 0, 0, 0, 0), (50, .getfield 18, 3, 3, 2, 0, 2), (53, .iload_n 3, 1, 0, 0, 0, 0), (54, .laload, 1, 0, 0, 0, 0), (55, .lsub, 1, 0, 0, 0, 0), (56, .lstore 4, 2, 0, 0, 0, 0), (58, .lload 4, 2, 0, 0, 0, 0), (60, .aload_n 0, 1, 0, 0, 0, 0), (61, .getfield 21, 3, 3, 3, 0, 2), (64, .iload_n 3, 1, 0, 0, 0, 0), (65, .laload, 1, 0, 0, 0, 0), (66, .lcmp, 1, 0, 0, 0, 0), (67, .ifCond .ge 18, 3, 0, 85, 0, 0), (70, .aload_n 0, 1, 0, 0, 0, 0), (71, .getfield 21, 3, 3, 3, 0, 2), (74, .iload_n 3, 1, 0, 0, 0, 0), (75, .lload 4, 2, 0, 0, 0, 0), (77, .lastore, 1, 0, 0, 0, 0), (78, .aload_n 0, 1, 0, 0, 0, 0), (79, .getfield 28, 3, 3, 5, 0, 2), (82, .iload_n 3, 1, 0, 0, 0, 0), (83, .iload_n 1, 1, 0, 0, 0, 0), (84, .iastore, 1, 0, 0, 0, 0), (85, .iinc 3 1, 3, 0, 0, 1, 0), (88, .goto (-79), 3, 0, 9, 0, 0), (91, .return_, 1, 0, 0, 0, 0)]
def mX3_tightenFrom : Mt := (yX3_tightenFrom, cX3_tightenFrom, 6, none, TX3_tightenFrom)
def TX3_nearestColumn : List It := [(0, .iconst 0, 1, 0, 0, 0, 0), (1, .istore_n 1, 1, 0, 0, 0, 0), (2, .iconst 1, 1, 0, 0, 1, 0), (3, .istore_n 2, 1, 0, 0, 0, 0), (4, .iload_n 2, 1, 0, 0, 0, 0), (5, .aload_n 0, 1, 0, 0, 0, 0), (6, .getfield 35, 3, 3, 8, 0, 0), (9, .if_icmp .gt 35, 3, 0, 44, 0, 0), (12, .aload_n 0, 1, 0, 0, 0, 0), (13, .iload_n 2, 1, 0, 0, 0, 0), (14, .invokevirtual 72, 3, 0, 36, 0, 0), (17, .ifCond .ne 21, 3, 0, 38, 0, 0), (20, .aload_n 0, 1, 0, 0, 0, 0), (21, .getfield 21, 3, 3, 3, 0, 2), (24, .iload_n 2, 1, 0, 0, 0, 0), (25, .laload, 1, 0, 0, 0, 0), (26, .aload_n 0, 1, 0, 0, 0, 0), (27, .getfield 21, 3, 3, 3, 0, 2), (30, .iload_n 1, 1, 0, 0, 0, 0), (31, .laload, 1, 0, 0, 0, 0), (32, .lcmp, 1, 0, 0, 0, 0), (33, .ifCond .ge 5, 3, 0, 38, 0, 0), (36, .iload_n 2, 1, 0, 0, 0, 0), (37, .istore_n 1, 1, 0, 0, 0, 0), (38, .iinc 2 1, 3, 0, 0, 1, 0), (41, .goto (-37), 3, 0, 4, 0, 0), (44, .iload_n 1, 1, 0, 0, 0, 0), (45, .ireturn, 1, 0, 0, 0, 0)]
def mX3_nearestColumn : Mt := (yX3_nearestColumn, cX3_nearestColumn, 3, (some .int), TX3_nearestColumn)
def TX3_movePrices : List It := [(0, .iconst 0, 1, 0, 0, 0, 0), (1, .istore_n 3, 1, 0, 0, 0, 0), (2, .iload_n 3, 1, 0, 0, 0, 0), (3, .aload_n 0, 1, 0, 0, 0, 0), (4, .getfield 35, 3, 3, 8, 0, 0), (7, .if_icmp .gt 55, 3, 0, 62, 0, 0), (10, .aload_n 0, 1, 0, 0, 0, 0), (11, .iload_n 3, 1, 0, 0, 0, 0), (12, .invokevirtual 72, 3, 0, 36, 0, 0), (15, .ifCond .eq 31, 3, 0, 46, 0, 0), (18, .aload_n 0, 1, 0, 0, 0, 0), (19, .getfield 15, 3, 3, 1, 0, 2), (22, .aload_n 0, 1, 0, 0, 0, 0), (23, .getfield 24, 3, 3, 4, 0, 2), (26, .iload_n 3, 1, 0, 0, 0, 0), (27, .iaload, 1, 0, 0, 0, 0), (28, .dup2, 1, 0, 0, 0, 0), (29, .laload, 1, 0, 0, 0, 0), (30, .lload_n 1, 1, 0, 0, 0, 0), (31, .ladd, 1, 0, 0, 0, 0), (32, .lastore, 1, 0, 0, 0, 0), (33, .aload_n 0, 1, 0, 0, 0, 0), (34, .getfield 18, 3, 3, 2, 0, 2), (37, .iload_n 3, 1, 0, 0, 0, 0), (38, .dup2, 1, 0, 0, 0, 0), (39, .laload, 1, 0, 0, 0, 0), (40, .lload_n 1, 1, 0, 0, 0, 0), (41, .lsub, 1, 0, 0, 0, 0), (42, .lastore, 1, 0, 0, 0, 0), (43, .goto 13, 3, 0, 56, 0, 0), (46, .aload_n 0, 1, 0, 0, 0, 0), (47, .getfield 21, 3, 3, 3, 0, 2), (50, .iload_n 3, 1, 0, 0, 0, 0), (51, .dup2, 1, 0, 0, 0, 0), (52, .laload, 1, 0, 0, 0, 0), (53, .lload_n 1, 1, 0, 0, 0, 0), (54, .lsub, 1, 0, 0, 0, 0), (55, .lastore, 1, 0, 0, 0, 0), (56, .iinc 3 1, 3, 0, 0, 1, 0), (59, .goto (-57), 3, 0, 2, 0, 0), (62, .return_, 1, 0, 0, 0, 0)]
def mX3_movePrices : Mt := (yX3_movePrices, cX3_movePrices, 4, none, TX3_movePrices)
def TX3_isReached : List It := [(0, .aload_n 0, 1, 0, 0, 0, 0), (1, .getfield 55, 3, 3, 6, 0, 1), (4, .iload_n 1, 1, 0, 0, 0, 0), (5, .lushr, 1, 0, 0, 0, 0), (6, .lconst 1, 1, 0, 0, 0, 1), (7, .land, 1, 0, 0, 0, 0), (8, .lconst 0, 1, 0, 0, 0, 0), (9, .lcmp, 1, 0, 0, 0, 0), (10, .ifCond .eq 7, 3, 0, 17, 0, 0), (13, .iconst 1, 1, 0, 0, 1, 0), (14, .goto 4, 3, 0, 18, 0, 0), (17, .iconst 0, 1, 0, 0, 0, 0), (18, .ireturn, 1, 0, 0, 0, 0)]
def mX3_isReached : Mt := (yX3_isReached, cX3_isReached, 2, (some .boolean), TX3_isReached)
def TX3_makeRoom : List It := [(0, .iload_n 1, 1, 0, 0, 0, 0), (1, .istore_n 2, 1, 0, 0, 0, 0), (2, .iconst 0, 1, 0, 0, 0, 0), (3, .istore_n 3, 1, 0, 0, 0, 0), (4, .iload_n 3, 1, 0, 0, 0, 0), (5, .aload_n 0, 1, 0, 0, 0, 0), (6, .getfield 35, 3, 3, 8, 0, 0), (9, .if_icmp .gt 37, 3, 0, 46, 0, 0), (12, .iload_n 2, 1, 0, 0, 0, 0), (13, .ifCond .eq 33, 3, 0, 46, 0, 0), (16, .aload_n 0, 1, 0, 0, 0, 0), (17, .getfield 28, 3, 3, 5, 0, 2), (20, .iload_n 2, 1, 0, 0, 0, 0), (21, .iaload, 1, 0, 0, 0, 0), (22, .istore 4, 2, 0, 0, 0, 0), (24, .aload_n 0, 1, 0, 0, 0, 0), (25, .getfield 24, 3, 3, 4, 0, 2), (28, .iload_n 2, 1, 0, 0, 0, 0), (29, .aload_n 0, 1, 0, 0, 0, 0), (30, .getfield 24, 3, 3, 4, 0, 2), (33, .iload 4, 2, 0, 0, 0, 0), (35, .iaload, 1, 0, 0, 0, 0), (36, .iastore, 1, 0, 0, 0, 0), (37, .iload 4, 2, 0, 0, 0, 0), (39, .istore_n 2, 1, 0, 0, 0, 0), (40, .iinc 3 1, 3, 0, 0, 1, 0), (43, .goto (-39), 3, 0, 4, 0, 0), (46, .return_, 1, 0, 0, 0, 0)]
def mX3_makeRoom : Mt := (yX3_makeRoom, cX3_makeRoom, 5, none, TX3_makeRoom)
def TX4_init : List It := [(0, .aload_n 0, 1, 0, 0, 0, 0), (1, .invokespecial 3, 3, 0, 178, 0, 0), (4, .aload_n 0, 1, 0, 0, 0, 0), (5, .bipush 18, 2, 0, 0, 18, 0), (7, .newarray .int, 2, 0, 0, 0, 0), (9, .putfield 9, 3, 4, 0, 0, 2), (12, .aload_n 0, 1, 0, 0, 0, 0), (13, .bipush 24, 2, 0, 0, 24, 0), (15, .newarray .int, 2, 0, 0, 0, 0), (17, .putfield 15, 3, 4, 1, 0, 2), (20, .aload_n 0, 1, 0, 0, 0, 0), (21, .bipush 6, 2, 0, 0, 6, 0), (23, .newarray .int, 2, 0, 0, 0, 0), (25, .putfield 18, 3, 4, 2, 0, 2), (28, .return_, 1, 0, 0, 0, 0)]
def mX4_init : Mt := (yX4_init, cX4_init, 1, none, TX4_init)
def TX4_votesOf : List It := [(0, .iload_n 1, 1, 0, 0, 0, 0), (1, .invokestatic 21, 3, 0, 95, 0, 0), (4, .ifCond .eq 23, 3, 0, 27, 0, 0), (7, .iload_n 2, 1, 0, 0, 0, 0), (8, .invokestatic 25, 3, 0, 97, 0, 0), (11, .ifCond .eq 16, 3, 0, 27, 0, 0), (14, .aload_n 0, 1, 0, 0, 0, 0), (15, .getfield 9, 3, 4, 0, 0, 2), (18, .iload_n 1, 1, 0, 0, 0, 0), (19, .iconst 3, 1, 0, 0, 3, 0), (20, .imul, 1, 0, 0, 0, 0), (21, .iload_n 2, 1, 0, 0, 0, 0), (22, .iadd, 1, 0, 0, 0, 0), (23, .iaload, 1, 0, 0, 0, 0), (24, .goto 4, 3, 0, 28, 0, 0), (27, .iconst 0, 1, 0, 0, 0, 0), (28, .ireturn, 1, 0, 0, 0, 0)]
def mX4_votesOf : Mt := (yX4_votesOf, cX4_votesOf, 3, (some .int), TX4_votesOf)
def TX4_setVotes : List It := [(0, .iload_n 1, 1, 0, 0, 0, 0), (1, .invokestatic 21, 3, 0, 95, 0, 0), (4, .ifCond .eq 21, 3, 0, 25, 0, 0), (7, .iload_n 2, 1, 0, 0, 0, 0), (8, .invokestatic 25, 3, 0, 97, 0, 0), (11, .ifCond .eq 14, 3, 0, 25, 0, 0), (14, .aload_n 0, 1, 0, 0, 0, 0), (15, .getfield 9, 3, 4, 0, 0, 2), (18, .iload_n 1, 1, 0, 0, 0, 0), (19, .iconst 3, 1, 0, 0, 3, 0), (20, .imul, 1, 0, 0, 0, 0), (21, .iload_n 2, 1, 0, 0, 0, 0), (22, .iadd, 1, 0, 0, 0, 0), (23, .iload_n 3, 1, 0, 0, 0, 0), (24, .iastore, 1, 0, 0, 0, 0), (25, .return_, 1, 0, 0, 0, 0)]
def mX4_setVotes : Mt := (yX4_setVotes, cX4_setVotes, 4, none, TX4_setVotes)
def TX4_winnerOf : List It := [(0, .aload_n 0, 1, 0, 0, 0, 0), (1, .iload_n 1, 1, 0, 0, 0, 0), (2, .iconst 0, 1, 0, 0, 0, 0), (3, .invokevirtual 28, 3, 0, 39, 0, 0), (6, .aload_n 0, 1, 0, 0, 0, 0), (7, .iload_n 1, 1, 0, 0, 0, 0), (8, .iconst 1, 1, 0, 0, 1, 0), (9, .invokevirtual 28, 3, 0, 39, 0, 0), (12, .aload_n 0, 1, 0, 0, 0, 0), (13, .iload_n 1, 1, 0, 0, 0, 0), (14, .iconst 2, 1, 0, 0, 2, 0), (15, .invokevirtual 28, 3, 0, 39, 0, 0), (18, .invokestatic 32, 3, 0, 100, 0, 0), (21, .ireturn, 1, 0, 0, 0, 0)]
def mX4_winnerOf : Mt := (yX4_winnerOf, cX4_winnerOf, 2, (some .int), TX4_winnerOf)
def TX4_votesForAll : List It := [(0, .iconst 0, 1, 0, 0, 0, 0), (1, .istore_n 2, 1, 0, 0, 0, 0), (2, .iconst 0, 1, 0, 0, 0, 0), (3, .istore_n 3, 1, 0, 0, 0, 0), (4, .iload_n 3, 1, 0, 0, 0, 0), (5, .bipush 6, 2, 0, 0, 6, 0), (7, .if_icmp .ge 18, 3, 0, 25, 0, 0), (10, .iload_n 2, 1, 0, 0, 0, 0), (11, .aload_n 0, 1, 0, 0, 0, 0), (12, .iload_n 3, 1, 0, 0, 0, 0), (13, .iload_n 1, 1, 0, 0, 0, 0), (14, .invokevirtual 28, 3, 0, 39, 0, 0), (17, .iadd, 1, 0, 0, 0, 0), (18, .istore_n 2, 1, 0, 0, 0, 0), (19, .iinc 3 1, 3, 0, 0, 1, 0), (22, .goto (-18), 3, 0, 4, 0, 0), (25, .iload_n 2, 1, 0, 0, 0, 0), (26, .ireturn, 1, 0, 0, 0, 0)]
def mX4_votesForAll : Mt := (yX4_votesForAll, cX4_votesForAll, 4, (some .int), TX4_votesForAll)
def TX4_cellsWon : List It := [(0, .iconst 0, 1, 0, 0, 0, 0), (1, .istore_n 3, 1, 0, 0, 0, 0), (2, .iconst 0, 1, 0, 0, 0, 0), (3, .istore 4, 2, 0, 0, 0, 0), (5, .iload 4, 2, 0, 0, 0, 0), (7, .bipush 6, 2, 0, 0, 6, 0), (9, .if_icmp .ge 32, 3, 0, 41, 0, 0), (12, .iload_n 3, 1, 0, 0, 0, 0), (13, .aload_n 0, 1, 0, 0, 0, 0), (14, .iload 4, 2, 0, 0, 0, 0), (16, .invokevirtual 36, 3, 0, 41, 0, 0), (19, .iload_n 1, 1, 0, 0, 0, 0), (20, .if_icmp .ne 12, 3, 0, 32, 0, 0), (23, .aload_n 2, 1, 0, 0, 0, 0), (24, .iload 4, 2, 0, 0, 0, 0), (26, .invokevirtual 40, 3, 0, 53, 0, 0), (29, .goto 4, 3, 0, 33, 0, 0), (32, .iconst 0, 1, 0, 0, 0, 0), (33, .iadd, 1, 0, 0, 0, 0), (34, .istore_n 3, 1, 0, 0, 0, 0), (35, .iinc 4 1, 3, 0, 0, 1, 0), (38, .goto (-33), 3, 0, 5, 0, 0), (41, .iload_n 3, 1, 0, 0, 0, 0), (42, .ireturn, 1, 0, 0, 0, 0)]
def mX4_cellsWon : Mt := (yX4_cellsWon, cX4_cellsWon, 5, (some .int), TX4_cellsWon)
def TX4_fewestToTurn : List It := [(0, .aload_n 0, 1, 0, 0, 0, 0), (1, .getfield 15, 3, 4, 1, 0, 2), (4, .ldc 45, 2, 0, 0, 1000000, 0), (6, .invokestatic 46, 3, 0, 177, 0, 0), (9, .iconst 0, 1, 0, 0, 0, 0), (10, .istore 4, 2, 0, 0, 0, 0), (12, .iload 4, 2, 0, 0, 0, 0), (14, .bipush 6, 2, 0, 0, 6, 0), (16, .if_icmp .ge 30, 3, 0, 46, 0, 0), (19, .aload_n 0, 1, 0, 0, 0, 0), (20, .getfield 18, 3, 4, 2, 0, 2), (23, .iload 4, 2, 0, 0, 0, 0), (25, .aload_n 3, 1, 0, 0, 0, 0), (26, .iload 4, 2, 0, 0, 0, 0), (28, .invokevirtual 40, 3, 0, 53, 0, 0), (31, .iastore, 1, 0, 0, 0, 0), (32, .aload_n 0, 1, 0, 0, 0, 0), (33, .iload 4, 2, 0, 0, 0, 0), (35, .iload_n 1, 1, 0, 0, 0, 0), (36, .iload_n 2, 1, 0, 0, 0, 0), (37, .invokevirtual 52, 3, 0, 45, 0, 0), (40, .iinc 4 1, 3, 0, 0, 1, 0), (43, .goto (-31), 3, 0, 12, 0, 0), (46, .aload_n 0, 1, 0, 0, 0, 0), (47, .getfield 15, 3, 4, 1, 0, 2), (50, .aload_n 0, 1, 0, 0, 0, 0), (51, .getfield 18, 3, 4, 2, 0, 2), (54, .iconst 0, 1, 0, 0, 0, 0), (55, .iconst 0, 1, 0, 0, 0, 0), (56, .iconst 0, 1, 0, 0, 0, 0), (57, .invokestatic 56, 3, 0, 46, 0, 0), (60, .istore 4, 2, 0, 0, 0, 0), (62, .iload 4, 2, 0, 0, 0, 0), (64, .ldc 45, 2, 0, 0, 1000000, 0), (66, .if_icmp .ge 8, 3, 0, 74, 0, 0), (69, .iload 4, 2, 0, 0, 0, 0), (71, .goto 5, 3, 0, 76, 0, 0), (74, .bipush (-9), 2, 0, 0, (-9), 0), (76, .ireturn, 1, 0, 0, 0, 0)]
def mX4_fewestToTurn : Mt := (yX4_fewestToTurn, cX4_fewestToTurn, 5, (some .int), TX4_fewestToTurn)
def TX4_setPrices : List It := [(0, .aload_n 0, 1, 0, 0, 0, 0), (1, .iload_n 1, 1, 0, 0, 0, 0), (2, .iload_n 3, 1, 0, 0, 0, 0), (3, .invokevirtual 28, 3, 0, 39, 0, 0), (6, .istore 4, 2, 0, 0, 0, 0), (8, .aload_n 0, 1, 0, 0, 0, 0), (9, .iload_n 1, 1, 0, 0, 0, 0), (10, .iload_n 2, 1, 0, 0, 0, 0), (11, .invokevirtual 28, 3, 0, 39, 0, 0), (14, .istore 5, 2, 0, 0, 0, 0), (16, .aload_n 0, 1, 0, 0, 0, 0), (17, .iload_n 1, 1, 0, 0, 0, 0), (18, .iconst 3, 1, 0, 0, 3, 0), (19, .iload_n 2, 1, 0, 0, 0, 0), (20, .isub, 1, 0, 0, 0, 0), (21, .iload_n 3, 1, 0, 0, 0, 0), (22, .isub, 1, 0, 0, 0, 0), (23, .invokevirtual 28, 3, 0, 39, 0, 0), (26, .istore 6, 2, 0, 0, 0, 0), (28, .iconst 0, 1, 0, 0, 0, 0), (29, .istore 7, 2, 0, 0, 0, 0), (31, .iload 7, 2, 0, 0, 0, 0), (33, .iload 5, 2, 0, 0, 0, 0), (35, .if_icmp .gt 78, 3, 0, 113, 0, 0), (38, .iload 7, 2, 0, 0, 0, 0), (40, .sipush 999, 3, 0, 0, 999, 0), (43, .if_icmp .gt 70, 3, 0, 113, 0, 0), (46, .iload 4, 2, 0, 0, 0, 0), (48, .iload 7, 2, 0, 0, 0, 0), (50, .iadd, 1, 0, 0, 0, 0), (51, .iload 5, 2, 0, 0, 0, 0), (53, .iload 7, 2, 0, 0, 0, 0), (55, .isub, 1, 0, 0, 0, 0), (56, .iload 6, 2, 0, 0, 0, 0), (58, .invokestatic 32, 3, 0, 100, 0, 0), (61, .istore 8, 2, 0, 0, 0, 0), (63, .iload_n 1, 1, 0, 0, 0, 0), (64, .iconst 4, 1, 0, 0, 4, 0), (65, .imul, 1, 0, 0, 0, 0), (66, .iload 8, 2, 0, 0, 0, 0), (68, .bipush (-9), 2, 0, 0, (-9), 0), (70, .if_icmp .ne 7, 3, 0, 77, 0, 0), (73, .iconst 3, 1, 0, 0, 3, 0), (74, .goto 5, 3, 0, 79, 0, 0), (77, .iload 8, 2, 0, 0, 0, 0), (79, .iadd, 1, 0, 0, 0, 0), (80, .istore 9, 2, 0, 0, 0, 0), (82, .aload_n 0, 1, 0, 0, 0, 0), (83, .getfield 15, 3, 4, 1, 0, 2), (86, .iload 9, 2, 0, 0, 0, 0), (88, .aload_n 0, 1, 0, 0, 0, 0), (89, .getfield 15, 3, 4, 1, 0, 2), (92, .iload 9, 2, 0, 0, 0, 0), (94, .iaload, 1, 0, 0, 0, 0), (95, .iload 7, 2, 0, 0, 0, 0), (97, .invokestatic 60, 3, 0, 175, 0, 0), (100, .iastore, 1, 0, 0, 0, 0), (101, .iload 8, 2, 0, 0, 0, 0), (103, .ifCond .ne 4, 3, 0, 107, 0, 0), (106, .return_, 1, 0, 0, 0, 0), (107, .iinc 7 1, 3, 0, 0, 1, 0), (110, .goto (-79), 3, 0, 31, 0, 0), (113, .return_, 1, 0, 0, 0, 0)]
def mX4_setPrices : Mt := (yX4_setPrices, cX4_setPrices, 10, none, TX4_setPrices)
def TX4_cheapest : List It := [(0, .iload_n 2, 1, 0, 0, 0, 0), (1, .ifCond .lt 9, 3, 0, 10, 0, 0), (4, .iload_n 2, 1, 0, 0, 0, 0), (5, .bipush 6, 2, 0, 0, 6, 0), (7, .if_icmp .lt 19, 3, 0, 26, 0, 0), (10, .iload_n 3, 1, 0, 0, 0, 0), (11, .ifCond .le 12, 3, 0, 23, 0, 0), (14, .iload 4, 2, 0, 0, 0, 0), (16, .ifCond .le 7, 3, 0, 23, 0, 0), (19, .iconst 0, 1, 0, 0, 0, 0), (20, .goto 5, 3, 0, 25, 0, 0), (23, .ldc 45, 2, 0, 0, 1000000, 0), (25, .ireturn, 1, 0, 0, 0, 0), (26, .aload_n 1, 1, 0, 0, 0, 0), (27, .iload_n 2, 1, 0, 0, 0, 0), (28, .iaload, 1, 0, 0, 0, 0), (29, .istore 5, 2, 0, 0, 0, 0), (31, .ldc 45, 2, 0, 0, 1000000, 0), (33, .istore 6, 2, 0, 0, 0, 0), (35, .iconst 0, 1, 0, 0, 0, 0), (36, .istore 7, 2, 0, 0, 0, 0), (38, .iload 7, 2, 0, 0, 0, 0), (40, .iconst 4, 1, 0, 0, 4, 0), (41, .if_icmp .ge 103, 3, 0, 144, 0, 0), (44, .aload_n 0, 1, 0, 0, 0, 0), (45, .iload_n 2, 1, 0, 0, 0, 0), (46, .iconst 4, 1, 0, 0, 4, 0), (47, .imul, 1, 0, 0, 0, 0), (48, .iload 7, 2, 0, 0, 0, 0), (50, .iadd, 1, 0, 0, 0, 0), (51, .iaload, 1, 0, 0, 0, 0), (52, .istore 8, 2, 0, 0, 0, 0), (54, .iload 8, 2, 0, 0, 0, 0), (56, .iload 6, 2, 0, 0, 0, 0), (58, .if_icmp .ge 80, 3, 0, 138, 0, 0), (61, .iload_n 3, 1, 0, 0, 0, 0), (62, .iload 7, 2, 0, 0, 0, 0), (64, .ifCond .ne 8, 3, 0, 72, 0, 0), (67, .iload 5, 2, 0, 0, 0, 0), (69, .goto 16, 3, 0, 85, 0, 0), (72, .iload 7, 2, 0, 0, 0, 0), (74, .iconst 1, 1, 0, 0, 1, 0), (75, .if_icmp .ne 9, 3, 0, 84, 0, 0), (78, .iload 5, 2, 0, 0, 0, 0), (80, .ineg, 1, 0, 0, 0, 0), (81, .goto 4, 3, 0, 85, 0, 0), (84, .iconst 0, 1, 0, 0, 0, 0), (85, .iadd, 1, 0, 0, 0, 0), (86, .istore 9, 2, 0, 0, 0, 0), (88, .iload 4, 2, 0, 0, 0, 0), (90, .iload 7, 2, 0, 0, 0, 0), (92, .ifCond .ne 8, 3, 0, 100, 0, 0), (95, .iload 5, 2, 0, 0, 0, 0), (97, .goto 16, 3, 0, 113, 0, 0), (100, .iload 7, 2, 0, 0, 0, 0), (102, .iconst 2, 1, 0, 0, 2, 0), (103, .if_icmp .ne 9, 3, 0, 112, 0, 0), (106, .iload 5, 2, 0, 0, 0, 0), (108, .ineg, 1, 0, 0, 0, 0), (109, .goto 4, 3, 0, 113, 0, 0), (112, .iconst 0, 1, 0, 0, 0, 0), (113, .iadd, 1, 0, 0, 0, 0), (114, .istore 10, 2, 0, 0, 0, 0), (116, .iload 6, 2, 0, 0, 0, 0), (118, .iload 8, 2, 0, 0, 0, 0), (120, .aload_n 0, 1, 0, 0, 0, 0), (121, .aload_n 1, 1, 0, 0, 0, 0), (122, .iload_n 2, 1, 0, 0, 0, 0), (123, .iconst 1, 1, 0, 0, 1, 0), (124, .iadd, 1, 0, 0, 0, 0), (125, .iload 9, 2, 0, 0, 0, 0), (127, .iload 10, 2, 0, 0, 0, 0), (129, .invokestatic 56, 3, 0, 46, 0, 0), (132, .iadd, 1, 0, 0, 0, 0), (133, .invokestatic 60, 3, 0, 175, 0, 0), (136, .istore 6, 2, 0, 0, 0, 0), (138, .iinc 7 1, 3, 0, 0, 1, 0), (141, .goto (-103), 3, 0, 38, 0, 0), (144, .iload 6, 2, 0, 0, 0, 0), (146, .ireturn, 1, 0, 0, 0, 0)]
def mX4_cheapest : Mt := (yX4_cheapest, cX4_cheapest, 11, (some .int), TX4_cheapest)
def TX5_init : List It := [(0, .aload_n 0, 1, 0, 0, 0, 0), (1, .invokespecial 3, 3, 0, 178, 0, 0), (4, .aload_n 0, 1, 0, 0, 0, 0), (5, .bipush 6, 2, 0, 0, 6, 0), (7, .newarray .long, 2, 0, 0, 0, 0), (9, .putfield 9, 3, 5, 1, 0, 2), (12, .aload_n 0, 1, 0, 0, 0, 0), (13, .aload_n 1, 1, 0, 0, 0, 0), (14, .putfield 15, 3, 5, 0, 0, 2), (17, .return_, 1, 0, 0, 0, 0)]
def mX5_init : Mt := (yX5_init, cX5_init, 2, none, TX5_init)
def TX5_clear : List It := [(0, .aload_n 0, 1, 0, 0, 0, 0), (1, .getfield 9, 3, 5, 1, 0, 2), (4, .lconst 0, 1, 0, 0, 0, 0), (5, .invokestatic 19, 3, 0, 176, 0, 0), (8, .return_, 1, 0, 0, 0, 0)]
def mX5_clear : Mt := (yX5_clear, cX5_clear, 1, none, TX5_clear)
def TX5_copy : List It := [(0, .aload_n 1, 1, 0, 0, 0, 0), (1, .getfield 9, 3, 5, 1, 0, 2), (4, .iconst 0, 1, 0, 0, 0, 0), (5, .aload_n 0, 1, 0, 0, 0, 0), (6, .getfield 9, 3, 5, 1, 0, 2), (9, .iconst 0, 1, 0, 0, 0, 0), (10, .bipush 6, 2, 0, 0, 6, 0), (12, .invokestatic 25, 3, 0, 999, 0, 0), (15, .return_, 1, 0, 0, 0, 0)]
def mX5_copy : Mt := (yX5_copy, cX5_copy, 2, none, TX5_copy)
def TX5_put : List It := [(0, .iconst 0, 1, 0, 0, 0, 0), (1, .istore 4, 2, 0, 0, 0, 0), (3, .iload 4, 2, 0, 0, 0, 0), (5, .bipush 6, 2, 0, 0, 6, 0), (7, .if_icmp .ge 47, 3, 0, 54, 0, 0), (10, .aload_n 0, 1, 0, 0, 0, 0), (11, .getfield 9, 3, 5, 1, 0, 2), (14, .iload 4, 2, 0, 0, 0, 0), (16, .iload 4, 2, 0, 0, 0, 0), (18, .iload_n 3, 1, 0, 0, 0, 0), (19, .if_icmp .ne 15, 3, 0, 34, 0, 0), (22, .aload_n 0, 1, 0, 0, 0, 0), (23, .getfield 9, 3, 5, 1, 0, 2), (26, .iload 4, 2, 0, 0, 0, 0), (28, .laload, 1, 0, 0, 0, 0), (29, .lload_n 1, 1, 0, 0, 0, 0), (30, .lor, 1, 0, 0, 0, 0), (31, .goto 16, 3, 0, 47, 0, 0), (34, .aload_n 0, 1, 0, 0, 0, 0), (35, .getfield 9, 3, 5, 1, 0, 2), (38, .iload 4, 2, 0, 0, 0, 0), (40, .laload, 1, 0, 0, 0, 0), (41, .lload_n 1, 1, 0, 0, 0, 0), (42, .ldc2_w 31, 3, 0, 0, 0, (-1)), (45, .lxor, 1, 0, 0, 0, 0), (46, .land, 1, 0, 0, 0, 0), (47, .lastore, 1, 0, 0, 0, 0), (48, .iinc 4 1, 3, 0, 0, 1, 0), (51, .goto (-48), 3, 0, 3, 0, 0), (54, .return_, 1, 0, 0, 0, 0)]
def mX5_put : Mt := (yX5_put, cX5_put, 5, none, TX5_put)
def TX5_ownerOf : List It := [(0, .iconst 0, 1, 0, 0, 0, 0), (1, .istore_n 2, 1, 0, 0, 0, 0), (2, .iload_n 2, 1, 0, 0, 0, 0), (3, .bipush 6, 2, 0, 0, 6, 0), (5, .if_icmp .ge 26, 3, 0, 31, 0, 0), (8, .aload_n 0, 1, 0, 0, 0, 0), (9, .getfield 9, 3, 5, 1, 0, 2), (12, .iload_n 2, 1, 0, 0, 0, 0), (13, .laload, 1, 0, 0, 0, 0), (14, .iload_n 1, 1, 0, 0, 0, 0), (15, .lushr, 1, 0, 0, 0, 0), (16, .lconst 1, 1, 0, 0, 0, 1), (17, .land, 1, 0, 0, 0, 0), (18, .lconst 0, 1, 0, 0, 0, 0), (19, .lcmp, 1, 0, 0, 0, 0), (20, .ifCond .eq 5, 3, 0, 25, 0, 0), (23, .iload_n 2, 1, 0, 0, 0, 0), (24, .ireturn, 1, 0, 0, 0, 0), (25, .iinc 2 1, 3, 0, 0, 1, 0), (28, .goto (-26), 3, 0, 2, 0, 0), (31, .bipush 6, 2, 0, 0, 6, 0), (33, .ireturn, 1, 0, 0, 0, 0)]
def mX5_ownerOf : Mt := (yX5_ownerOf, cX5_ownerOf, 3, (some .int), TX5_ownerOf)
def TX5_cellsOf : List It := [(0, .iload_n 1, 1, 0, 0, 0, 0), (1, .invokestatic 33, 3, 0, 95, 0, 0), (4, .ifCond .eq 12, 3, 0, 16, 0, 0), (7, .aload_n 0, 1, 0, 0, 0, 0), (8, .getfield 9, 3, 5, 1, 0, 2), (11, .iload_n 1, 1, 0, 0, 0, 0), (12, .laload, 1, 0, 0, 0, 0), (13, .goto 19, 3, 0, 32, 0, 0), (16, .aload_n 0, 1, 0, 0, 0, 0), (17, .getfield 15, 3, 5, 0, 0, 2), (20, .getfield 37, 3, 1, 2, 0, 1), (23, .aload_n 0, 1, 0, 0, 0, 0), (24, .invokevirtual 43, 3, 0, 54, 0, 0), (27, .ldc2_w 31, 3, 0, 0, 0, (-1)), (30, .lxor, 1, 0, 0, 0, 0), (31, .land, 1, 0, 0, 0, 0), (32, .lreturn, 1, 0, 0, 0, 0)]
def mX5_cellsOf : Mt := (yX5_cellsOf, cX5_cellsOf, 2, (some .long), TX5_cellsOf)
def TX5_sizeOf : List It := [(0, .aload_n 0, 1, 0, 0, 0, 0), (1, .iload_n 1, 1, 0, 0, 0, 0), (2, .invokevirtual 47, 3, 0, 52, 0, 0), (5, .invokestatic 51, 3, 0, 172, 0, 0), (8, .ireturn, 1, 0, 0, 0, 0)]
def mX5_sizeOf : Mt := (yX5_sizeOf, cX5_sizeOf, 2, (some .int), TX5_sizeOf)
def TX5_landCells : List It := [(0, .lconst 0, 1, 0, 0, 0, 0), (1, .lstore_n 1, 1, 0, 0, 0, 0), (2, .iconst 0, 1, 0, 0, 0, 0), (3, .istore_n 3, 1, 0, 0, 0, 0), (4, .iload_n 3, 1, 0, 0, 0, 0), (5, .bipush 6, 2, 0, 0, 6, 0), (7, .if_icmp .ge 18, 3, 0, 25, 0, 0), (10, .lload_n 1, 1, 0, 0, 0, 0), (11, .aload_n 0, 1, 0, 0, 0, 0), (12, .getfield 9, 3, 5, 1, 0, 2), (15, .iload_n 3, 1, 0, 0, 0, 0), (16, .laload, 1, 0, 0, 0, 0), (17, .lor, 1, 0, 0, 0, 0), (18, .lstore_n 1, 1, 0, 0, 0, 0), (19, .iinc 3 1, 3, 0, 0, 1, 0), (22, .goto (-18), 3, 0, 4, 0, 0), (25, .lload_n 1, 1, 0, 0, 0, 0), (26, .lreturn, 1, 0, 0, 0, 0)]
def mX5_landCells : Mt := (yX5_landCells, cX5_landCells, 4, (some .long), TX5_landCells)
def TX5_landsWithCells : List It := [(0, .iconst 0, 1, 0, 0, 0, 0), (1, .istore_n 1, 1, 0, 0, 0, 0), (2, .iconst 0, 1, 0, 0, 0, 0), (3, .istore_n 2, 1, 0, 0, 0, 0), (4, .iload_n 2, 1, 0, 0, 0, 0), (5, .bipush 6, 2, 0, 0, 6, 0), (7, .if_icmp .ge 28, 3, 0, 35, 0, 0), (10, .iload_n 1, 1, 0, 0, 0, 0), (11, .aload_n 0, 1, 0, 0, 0, 0), (12, .getfield 9, 3, 5, 1, 0, 2), (15, .iload_n 2, 1, 0, 0, 0, 0), (16, .laload, 1, 0, 0, 0, 0), (17, .lconst 0, 1, 0, 0, 0, 0), (18, .lcmp, 1, 0, 0, 0, 0), (19, .ifCond .ne 7, 3, 0, 26, 0, 0), (22, .iconst 0, 1, 0, 0, 0, 0), (23, .goto 4, 3, 0, 27, 0, 0), (26, .iconst 1, 1, 0, 0, 1, 0), (27, .iadd, 1, 0, 0, 0, 0), (28, .istore_n 1, 1, 0, 0, 0, 0), (29, .iinc 2 1, 3, 0, 0, 1, 0), (32, .goto (-28), 3, 0, 4, 0, 0), (35, .iload_n 1, 1, 0, 0, 0, 0), (36, .ireturn, 1, 0, 0, 0, 0)]
def mX5_landsWithCells : Mt := (yX5_landsWithCells, cX5_landsWithCells, 3, (some .int), TX5_landsWithCells)
def TX5_areNeighbours : List It := [(0, .aload_n 0, 1, 0, 0, 0, 0), (1, .getfield 15, 3, 5, 0, 0, 2), (4, .aload_n 0, 1, 0, 0, 0, 0), (5, .iload_n 1, 1, 0, 0, 0, 0), (6, .invokevirtual 47, 3, 0, 52, 0, 0), (9, .invokevirtual 57, 3, 0, 14, 0, 0), (12, .aload_n 0, 1, 0, 0, 0, 0), (13, .iload_n 2, 1, 0, 0, 0, 0), (14, .invokevirtual 47, 3, 0, 52, 0, 0), (17, .land, 1, 0, 0, 0, 0), (18, .lconst 0, 1, 0, 0, 0, 0), (19, .lcmp, 1, 0, 0, 0, 0), (20, .ifCond .eq 7, 3, 0, 27, 0, 0), (23, .iconst 1, 1, 0, 0, 1, 0), (24, .goto 4, 3, 0, 28, 0, 0), (27, .iconst 0, 1, 0, 0, 0, 0), (28, .ireturn, 1, 0, 0, 0, 0)]
def mX5_areNeighbours : Mt := (yX5_areNeighbours, cX5_areNeighbours, 3, (some .boolean), TX5_areNeighbours)
def TX5_neighbourPairs : List It := [(0, .lconst 0, 1, 0, 0, 0, 0), (1, .lstore_n 1, 1, 0, 0, 0, 0), (2, .iconst 0, 1, 0, 0, 0, 0), (3, .istore_n 3, 1, 0, 0, 0, 0), (4, .iload_n 3, 1, 0, 0, 0, 0), (5, .bipush 6, 2, 0, 0, 6, 0), (7, .if_icmp .ge 69, 3, 0, 76, 0, 0), (10, .aload_n 0, 1, 0, 0, 0, 0), (11, .getfield 15, 3, 5, 0, 0, 2), (14, .aload_n 0, 1, 0, 0, 0, 0), (15, .getfield 9, 3, 5, 1, 0, 2), (18, .iload_n 3, 1, 0, 0, 0, 0), (19, .laload, 1, 0, 0, 0, 0), (20, .invokevirtual 57, 3, 0, 14, 0, 0), (23, .lstore 4, 2, 0, 0, 0, 0), (25, .iload_n 3, 1, 0, 0, 0, 0), (26, .iconst 1, 1, 0, 0, 1, 0), (27, .iadd, 1, 0, 0, 0, 0), (28, .istore 6, 2, 0, 0, 0, 0), (30, .iload 6, 2, 0, 0, 0, 0), (32, .bipush 6, 2, 0, 0, 6, 0), (34, .if_icmp .ge 36, 3, 0, 70, 0, 0), (37, .lload 4, 2, 0, 0, 0, 0), (39, .aload_n 0, 1, 0, 0, 0, 0), (40, .getfield 9, 3, 5, 1, 0, 2), (43, .iload 6, 2, 0, 0, 0, 0), (45, .laload, 1, 0, 0, 0, 0), (46, .land, 1, 0, 0, 0, 0), (47, .lconst 0, 1, 0, 0, 0, 0), (48, .lcmp, 1, 0, 0, 0, 0), (49, .ifCond .eq 15, 3, 0, 64, 0, 0), (52, .lload_n 1, 1, 0, 0, 0, 0), (53, .lconst 1, 1, 0, 0, 0, 1), (54, .iload_n 3, 1, 0, 0, 0, 0), (55, .bipush 6, 2, 0, 0, 6, 0), (57, .imul, 1, 0, 0, 0, 0), (58, .iload 6, 2, 0, 0, 0, 0), (60, .iadd, 1, 0, 0, 0, 0), (61, .lshl, 1, 0, 0, 0, 0), (62, .lor, 1, 0, 0, 0, 0), (63, .lstore_n 1, 1, 0, 0, 0, 0), (64, .iinc 6 1, 3, 0, 0, 1, 0), (67, .goto (-37), 3, 0, 30, 0, 0), (70, .iinc 3 1, 3, 0, 0, 1, 0), (73, .goto (-69), 3, 0, 4, 0, 0), (76, .lload_n 1, 1, 0, 0, 0, 0), (77, .lreturn, 1, 0, 0, 0, 0)]
def mX5_neighbourPairs : Mt := (yX5_neighbourPairs, cX5_neighbourPairs, 7, (some .long), TX5_neighbourPairs)
def TX6_init : List It := [(0, .aload_n 0, 1, 0, 0, 0, 0), (1, .invokespecial 3, 3, 0, 178, 0, 0), (4, .aload_n 0, 1, 0, 0, 0, 0), (5, .bipush 6, 2, 0, 0, 6, 0), (7, .newarray .int, 2, 0, 0, 0, 0), (9, .putfield 9, 3, 6, 2, 0, 2), (12, .aload_n 0, 1, 0, 0, 0, 0), (13, .aload_n 1, 1, 0, 0, 0, 0), (14, .putfield 15, 3, 6, 0, 0, 2), (17, .aload_n 0, 1, 0, 0, 0, 0), (18, .aload_n 2, 1, 0, 0, 0, 0), (19, .putfield 19, 3, 6, 1, 0, 2), (22, .aload_n 0, 1, 0, 0, 0, 0), (23, .new 23, 3, 5, 0, 0, 0), (26, .dup, 1, 0, 0, 0, 0), (27, .aload_n 1, 1, 0, 0, 0, 0), (28, .invokespecial 25, 3, 0, 47, 0, 0), (31, .putfield 28, 3, 6, 3, 0, 2), (34, .return_, 1, 0, 0, 0, 0)]
def mX6_init : Mt := (yX6_init, cX6_init, 3, none, TX6_init)
def TX6_findBest : List It := [(0, .aload_n 0, 1, 0, 0, 0, 0), (1, .getfield 19, 3, 6, 1, 0, 2), (4, .aload_n 1, 1, 0, 0, 0, 0), (5, .invokevirtual 32, 3, 0, 55, 0, 0), (8, .aload_n 0, 1, 0, 0, 0, 0), (9, .getfield 15, 3, 6, 0, 0, 2), (12, .invokevirtual 36, 3, 0, 8, 0, 0), (15, .invokevirtual 41, 3, 0, 27, 0, 0), (18, .iconst 0, 1, 0, 0, 0, 0), (19, .istore_n 2, 1, 0, 0, 0, 0), (20, .iconst 0, 1, 0, 0, 0, 0), (21, .istore_n 3, 1, 0, 0, 0, 0), (22, .iload_n 3, 1, 0, 0, 0, 0), (23, .bipush 6, 2, 0, 0, 6, 0), (25, .if_icmp .ge 47, 3, 0, 72, 0, 0), (28, .aload_n 1, 1, 0, 0, 0, 0), (29, .iload_n 3, 1, 0, 0, 0, 0), (30, .invokevirtual 47, 3, 0, 53, 0, 0), (33, .ifCond .le 33, 3, 0, 66, 0, 0), (36, .iload_n 2, 1, 0, 0, 0, 0), (37, .bipush 6, 2, 0, 0, 6, 0), (39, .if_icmp .ge 27, 3, 0, 66, 0, 0), (42, .aload_n 0, 1, 0, 0, 0, 0), (43, .getfield 9, 3, 6, 2, 0, 2), (46, .iload_n 2, 1, 0, 0, 0, 0), (47, .iload_n 3, 1, 0, 0, 0, 0), (48, .iastore, 1, 0, 0, 0, 0), (49, .aload_n 0, 1, 0, 0, 0, 0), (50, .iload_n 2, 1, 0, 0, 0, 0), (51, .aload_n 1, 1, 0, 0, 0, 0), (52, .iload_n 3, 1, 0, 0, 0, 0), (53, .invokevirtual 51, 3, 0, 52, 0, 0), (56, .iload_n 3, 1, 0, 0, 0, 0), (57, .invokestatic 55, 3, 0, 60, 0, 0), (60, .invokevirtual 58, 3, 0, 61, 0, 0), (63, .iinc 2 1, 3, 0, 0, 1, 0), (66, .iinc 3 1, 3, 0, 0, 1, 0), (69, .goto (-47), 3, 0, 22, 0, 0), (72, .aload_n 0, 1, 0, 0, 0, 0), (73, .getfield 19, 3, 6, 1, 0, 2), (76, .invokevirtual 62, 3, 0, 29, 0, 0), (79, .aload_n 0, 1, 0, 0, 0, 0), (80, .getfield 28, 3, 6, 3, 0, 2), (83, .invokevirtual 65, 3, 0, 48, 0, 0), (86, .iconst 0, 1, 0, 0, 0, 0), (87, .istore_n 3, 1, 0, 0, 0, 0), (88, .iload_n 3, 1, 0, 0, 0, 0), (89, .aload_n 0, 1, 0, 0, 0, 0), (90, .getfield 15, 3, 6, 0, 0, 2), (93, .invokevirtual 36, 3, 0, 8, 0, 0), (96, .if_icmp .ge 47, 3, 0, 143, 0, 0), (99, .aload_n 0, 1, 0, 0, 0, 0), (100, .getfield 19, 3, 6, 1, 0, 2), (103, .iload_n 3, 1, 0, 0, 0, 0), (104, .invokevirtual 68, 3, 0, 30, 0, 0), (107, .istore 4, 2, 0, 0, 0, 0), (109, .iload 4, 2, 0, 0, 0, 0), (111, .ifCond .lt 26, 3, 0, 137, 0, 0), (114, .iload 4, 2, 0, 0, 0, 0), (116, .iload_n 2, 1, 0, 0, 0, 0), (117, .if_icmp .ge 20, 3, 0, 137, 0, 0), (120, .aload_n 0, 1, 0, 0, 0, 0), (121, .getfield 28, 3, 6, 3, 0, 2), (124, .lconst 1, 1, 0, 0, 0, 1), (125, .iload_n 3, 1, 0, 0, 0, 0), (126, .lshl, 1, 0, 0, 0, 0), (127, .aload_n 0, 1, 0, 0, 0, 0), (128, .getfield 9, 3, 6, 2, 0, 2), (131, .iload 4, 2, 0, 0, 0, 0), (133, .iaload, 1, 0, 0, 0, 0), (134, .invokevirtual 71, 3, 0, 50, 0, 0), (137, .iinc 3 1, 3, 0, 0, 1, 0), (140, .goto (-52), 3, 0, 88, 0, 0), (143, .aload_n 0, 1, 0, 0, 0, 0), (144, .getfield 19, 3, 6, 1, 0, 2), (147, .invokevirtual 75, 3, 0, 31, 0, 0), (150, .ldc2_w 79, 3, 0, 0, 0, 2176782336), (153, .ldiv, 1, 0, 0, 0, 0), (154, .l2i, 1, 0, 0, 0, 0), (155, .ireturn, 1, 0, 0, 0, 0)]
def mX6_findBest : Mt := (yX6_findBest, cX6_findBest, 5, (some .int), TX6_findBest)
def TX6_digitOf : List It := [(0, .lconst 1, 1, 0, 0, 0, 1), (1, .lstore_n 1, 1, 0, 0, 0, 0), (2, .iload_n 0, 1, 0, 0, 0, 0), (3, .iconst 1, 1, 0, 0, 1, 0), (4, .iadd, 1, 0, 0, 0, 0), (5, .istore_n 3, 1, 0, 0, 0, 0), (6, .iload_n 3, 1, 0, 0, 0, 0), (7, .bipush 6, 2, 0, 0, 6, 0), (9, .if_icmp .ge 15, 3, 0, 24, 0, 0), (12, .lload_n 1, 1, 0, 0, 0, 0), (13, .ldc2_w 81, 3, 0, 0, 0, 36), (16, .lmul, 1, 0, 0, 0, 0), (17, .lstore_n 1, 1, 0, 0, 0, 0), (18, .iinc 3 1, 3, 0, 0, 1, 0), (21, .goto (-15), 3, 0, 6, 0, 0), (24, .lload_n 1, 1, 0, 0, 0, 0), (25, .lreturn, 1, 0, 0, 0, 0)]
def mX6_digitOf : Mt := (yX6_digitOf, cX6_digitOf, 4, (some .long), TX6_digitOf)
def TX6_setCosts : List It := [(0, .lload_n 2, 1, 0, 0, 0, 0), (1, .invokestatic 83, 3, 0, 172, 0, 0), (4, .istore 6, 2, 0, 0, 0, 0), (6, .iconst 0, 1, 0, 0, 0, 0), (7, .istore 7, 2, 0, 0, 0, 0), (9, .iconst 0, 1, 0, 0, 0, 0), (10, .istore 8, 2, 0, 0, 0, 0), (12, .iconst 0, 1, 0, 0, 0, 0), (13, .istore 9, 2, 0, 0, 0, 0), (15, .iload 9, 2, 0, 0, 0, 0), (17, .aload_n 0, 1, 0, 0, 0, 0), (18, .getfield 15, 3, 6, 0, 0, 2), (21, .invokevirtual 36, 3, 0, 8, 0, 0), (24, .if_icmp .ge 48, 3, 0, 72, 0, 0), (27, .lload_n 2, 1, 0, 0, 0, 0), (28, .iload 9, 2, 0, 0, 0, 0), (30, .lushr, 1, 0, 0, 0, 0), (31, .lconst 1, 1, 0, 0, 0, 1), (32, .land, 1, 0, 0, 0, 0), (33, .lconst 0, 1, 0, 0, 0, 0), (34, .lcmp, 1, 0, 0, 0, 0), (35, .ifCond .eq 31, 3, 0, 66, 0, 0), (38, .iload 7, 2, 0, 0, 0, 0), (40, .aload_n 0, 1, 0, 0, 0, 0), (41, .getfield 15, 3, 6, 0, 0, 2), (44, .iload 9, 2, 0, 0, 0, 0), (46, .invokevirtual 89, 3, 0, 10, 0, 0), (49, .iadd, 1, 0, 0, 0, 0), (50, .istore 7, 2, 0, 0, 0, 0), (52, .iload 8, 2, 0, 0, 0, 0), (54, .aload_n 0, 1, 0, 0, 0, 0), (55, .getfield 15, 3, 6, 0, 0, 2), (58, .iload 9, 2, 0, 0, 0, 0), (60, .invokevirtual 92, 3, 0, 11, 0, 0), (63, .iadd, 1, 0, 0, 0, 0), (64, .istore 8, 2, 0, 0, 0, 0), (66, .iinc 9 1, 3, 0, 0, 1, 0), (69, .goto (-54), 3, 0, 15, 0, 0), (72, .iconst 0, 1, 0, 0, 0, 0), (73, .istore 9, 2, 0, 0, 0, 0), (75, .iload 9, 2, 0, 0, 0, 0), (77, .aload_n 0, 1, 0, 0, 0, 0), (78, .getfield 15, 3, 6, 0, 0, 2), (81, .invokevirtual 36, 3, 0, 8, 0, 0), (84, .if_icmp .ge 77, 3, 0, 161, 0, 0), (87, .iload 6, 2, 0, 0, 0, 0), (89, .aload_n 0, 1, 0, 0, 0, 0), (90, .getfield 15, 3, 6, 0, 0, 2), (93, .iload 9, 2, 0, 0, 0, 0), (95, .invokevirtual 89, 3, 0, 10, 0, 0), (98, .imul, 1, 0, 0, 0, 0), (99, .iload 7, 2, 0, 0, 0, 0), (101, .isub, 1, 0, 0, 0, 0), (102, .i2l, 1, 0, 0, 0, 0), (103, .lstore 10, 2, 0, 0, 0, 0), (105, .iload 6, 2, 0, 0, 0, 0), (107, .aload_n 0, 1, 0, 0, 0, 0), (108, .getfield 15, 3, 6, 0, 0, 2), (111, .iload 9, 2, 0, 0, 0, 0), (113, .invokevirtual 92, 3, 0, 11, 0, 0), (116, .imul, 1, 0, 0, 0, 0), (117, .iload 8, 2, 0, 0, 0, 0), (119, .isub, 1, 0, 0, 0, 0), (120, .i2l, 1, 0, 0, 0, 0), (121, .lstore 12, 2, 0, 0, 0, 0), (123, .aload_n 0, 1, 0, 0, 0, 0), (124, .getfield 19, 3, 6, 1, 0, 2), (127, .iload_n 1, 1, 0, 0, 0, 0), (128, .iload 9, 2, 0, 0, 0, 0), (130, .lload 10, 2, 0, 0, 0, 0), (132, .lload 10, 2, 0, 0, 0, 0), (134, .lmul, 1, 0, 0, 0, 0), (135, .lload 12, 2, 0, 0, 0, 0), (137, .lload 12, 2, 0, 0, 0, 0), (139, .lmul, 1, 0, 0, 0, 0), (140, .ladd, 1, 0, 0, 0, 0), (141, .ldc2_w 79, 3, 0, 0, 0, 2176782336), (144, .lmul, 1, 0, 0, 0, 0), (145, .iload 9, 2, 0, 0, 0, 0), (147, .i2l, 1, 0, 0, 0, 0), (148, .lload 4, 2, 0, 0, 0, 0), (150, .lmul, 1, 0, 0, 0, 0), (151, .ladd, 1, 0, 0, 0, 0), (152, .invokevirtual 95, 3, 0, 28, 0, 0), (155, .iinc 9 1, 3, 0, 0, 1, 0), (158, .goto (-83), 3, 0, 75, 0, 0), (161, .return_, 1, 0, 0, 0, 0)]
def mX6_setCosts : Mt := (yX6_setCosts, cX6_setCosts, 14, none, TX6_setCosts)
def TX7_init : List It := [(0, .aload_n 0, 1, 0, 0, 0, 0), (1, .invokespecial 1, 3, 0, 178, 0, 0), (4, .aload_n 0, 1, 0, 0, 0, 0), (5, .new 7, 3, 1, 0, 0, 0), (8, .dup, 1, 0, 0, 0, 0), (9, .iconst 4, 1, 0, 0, 4, 0), (10, .iconst 4, 1, 0, 0, 4, 0), (11, .invokespecial 11, 3, 0, 6, 0, 0), (14, .putfield 14, 3, 7, 0, 0, 2), (17, .aload_n 0, 1, 0, 0, 0, 0), (18, .new 18, 3, 5, 0, 0, 0), (21, .dup, 1, 0, 0, 0, 0), (22, .aload_n 0, 1, 0, 0, 0, 0), (23, .getfield 14, 3, 7, 0, 0, 2), (26, .invokespecial 20, 3, 0, 47, 0, 0), (29, .putfield 23, 3, 7, 1, 0, 2), (32, .aload_n 0, 1, 0, 0, 0, 0), (33, .new 18, 3, 5, 0, 0, 0), (36, .dup, 1, 0, 0, 0, 0), (37, .aload_n 0, 1, 0, 0, 0, 0), (38, .getfield 14, 3, 7, 0, 0, 2), (41, .invokespecial 20, 3, 0, 47, 0, 0), (44, .putfield 27, 3, 7, 2, 0, 2), (47, .aload_n 0, 1, 0, 0, 0, 0), (48, .new 30, 3, 0, 0, 0, 0), (51, .dup, 1, 0, 0, 0, 0), (52, .invokespecial 32, 3, 0, 0, 0, 0), (55, .putfield 33, 3, 7, 3, 0, 2), (58, .aload_n 0, 1, 0, 0, 0, 0), (59, .new 37, 3, 2, 0, 0, 0), (62, .dup, 1, 0, 0, 0, 0), (63, .aload_n 0, 1, 0, 0, 0, 0), (64, .getfield 14, 3, 7, 0, 0, 2), (67, .aload_n 0, 1, 0, 0, 0, 0), (68, .getfield 27, 3, 7, 2, 0, 2), (71, .aload_n 0, 1, 0, 0, 0, 0), (72, .getfield 33, 3, 7, 3, 0, 2), (75, .invokespecial 39, 3, 0, 17, 0, 0), (78, .putfield 42, 3, 7, 4, 0, 2), (81, .aload_n 0, 1, 0, 0, 0, 0), (82, .new 46, 3, 3, 0, 0, 0), (85, .dup, 1, 0, 0, 0, 0), (86, .invokespecial 48, 3, 0, 26, 0, 0), (89, .putfield 49, 3, 7, 5, 0, 2), (92, .aload_n 0, 1, 0, 0, 0, 0), (93, .new 53, 3, 6, 0, 0, 0), (96, .dup, 1, 0, 0, 0, 0), (97, .aload_n 0, 1, 0, 0, 0, 0), (98, .getfield 14, 3, 7, 0, 0, 2), (101, .aload_n 0, 1, 0, 0, 0, 0), (102, .getfield 49, 3, 7, 5, 0, 2), (105, .invokespecial 55, 3, 0, 58, 0, 0), (108, .putfield 58, 3, 7, 6, 0, 2), (111, .aload_n 0, 1, 0, 0, 0, 0), (112, .new 62, 3, 4, 0, 0, 0), (115, .dup, 1, 0, 0, 0, 0), (116, .invokespecial 64, 3, 0, 38, 0, 0), (119, .putfield 65, 3, 7, 7, 0, 2), (122, .return_, 1, 0, 0, 0, 0)]
def mX7_init : Mt := (yX7_init, cX7_init, 1, none, TX7_init)
def TX7_field : List It := [(0, .iload_n 1, 1, 0, 0, 0, 0), (1, .invokestatic 69, 3, 0, 94, 0, 0), (4, .ifCond .eq 10, 3, 0, 14, 0, 0), (7, .iload_n 2, 1, 0, 0, 0, 0), (8, .invokestatic 69, 3, 0, 94, 0, 0), (11, .ifCond .ne 6, 3, 0, 17, 0, 0), (14, .bipush (-2), 2, 0, 0, (-2), 0), (16, .ireturn, 1, 0, 0, 0, 0), (17, .aload_n 0, 1, 0, 0, 0, 0), (18, .getfield 14, 3, 7, 0, 0, 2), (21, .iload_n 1, 1, 0, 0, 0, 0), (22, .iload_n 2, 1, 0, 0, 0, 0), (23, .invokevirtual 73, 3, 0, 7, 0, 0), (26, .aload_n 0, 1, 0, 0, 0, 0), (27, .getfield 23, 3, 7, 1, 0, 2), (30, .invokevirtual 76, 3, 0, 48, 0, 0), (33, .aload_n 0, 1, 0, 0, 0, 0), (34, .getfield 27, 3, 7, 2, 0, 2), (37, .invokevirtual 76, 3, 0, 48, 0, 0), (40, .aload_n 0, 1, 0, 0, 0, 0), (41, .getfield 14, 3, 7, 0, 0, 2), (44, .invokevirtual 79, 3, 0, 8, 0, 0), (47, .ireturn, 1, 0, 0, 0, 0)]
def mX7_field : Mt := (yX7_field, cX7_field, 3, (some .int), TX7_field)
def TX7_give : List It := [(0, .aload_n 0, 1, 0, 0, 0, 0), (1, .getfield 14, 3, 7, 0, 0, 2), (4, .iload_n 2, 1, 0, 0, 0, 0), (5, .invokevirtual 83, 3, 0, 9, 0, 0), (8, .ifCond .eq 10, 3, 0, 18, 0, 0), (11, .iload_n 3, 1, 0, 0, 0, 0), (12, .invokestatic 86, 3, 0, 96, 0, 0), (15, .ifCond .ne 5, 3, 0, 20, 0, 0), (18, .iconst (-1), 1, 0, 0, (-1), 0), (19, .ireturn, 1, 0, 0, 0, 0), (20, .aload_n 0, 1, 0, 0, 0, 0), (21, .iload_n 1, 1, 0, 0, 0, 0), (22, .invokevirtual 89, 3, 0, 101, 0, 0), (25, .astore 4, 2, 0, 0, 0, 0), (27, .aload 4, 2, 0, 0, 0, 0), (29, .iload_n 2, 1, 0, 0, 0, 0), (30, .invokevirtual 93, 3, 0, 51, 0, 0), (33, .istore 5, 2, 0, 0, 0, 0), (35, .aload 4, 2, 0, 0, 0, 0), (37, .lconst 1, 1, 0, 0, 0, 1), (38, .iload_n 2, 1, 0, 0, 0, 0), (39, .lshl, 1, 0, 0, 0, 0), (40, .iload_n 3, 1, 0, 0, 0, 0), (41, .invokevirtual 97, 3, 0, 50, 0, 0), (44, .iload 5, 2, 0, 0, 0, 0), (46, .ireturn, 1, 0, 0, 0, 0)]
def mX7_give : Mt := (yX7_give, cX7_give, 6, (some .int), TX7_give)
def TX7_box : List It := [(0, .aload_n 0, 1, 0, 0, 0, 0), (1, .getfield 14, 3, 7, 0, 0, 2), (4, .iload_n 2, 1, 0, 0, 0, 0), (5, .invokevirtual 83, 3, 0, 9, 0, 0), (8, .ifCond .eq 22, 3, 0, 30, 0, 0), (11, .aload_n 0, 1, 0, 0, 0, 0), (12, .getfield 14, 3, 7, 0, 0, 2), (15, .iload_n 3, 1, 0, 0, 0, 0), (16, .invokevirtual 83, 3, 0, 9, 0, 0), (19, .ifCond .eq 11, 3, 0, 30, 0, 0), (22, .iload 4, 2, 0, 0, 0, 0), (24, .invokestatic 86, 3, 0, 96, 0, 0), (27, .ifCond .ne 5, 3, 0, 32, 0, 0), (30, .iconst (-1), 1, 0, 0, (-1), 0), (31, .ireturn, 1, 0, 0, 0, 0), (32, .aload_n 0, 1, 0, 0, 0, 0), (33, .getfield 14, 3, 7, 0, 0, 2), (36, .iload_n 3, 1, 0, 0, 0, 0), (37, .invokevirtual 101, 3, 0, 10, 0, 0), (40, .aload_n 0, 1, 0, 0, 0, 0), (41, .getfield 14, 3, 7, 0, 0, 2), (44, .iload_n 2, 1, 0, 0, 0, 0), (45, .invokevirtual 101, 3, 0, 10, 0, 0), (48, .if_icmp .lt 22, 3, 0, 70, 0, 0), (51, .aload_n 0, 1, 0, 0, 0, 0), (52, .getfield 14, 3, 7, 0, 0, 2), (55, .iload_n 3, 1, 0, 0, 0, 0), (56, .invokevirtual 104, 3, 0, 11, 0, 0), (59, .aload_n 0, 1, 0, 0, 0, 0), (60, .getfield 14, 3, 7, 0, 0, 2), (63, .iload_n 2, 1, 0, 0, 0, 0), (64, .invokevirtual 104, 3, 0, 11, 0, 0), (67, .if_icmp .ge 6, 3, 0, 73, 0, 0), (70, .bipush (-2), 2, 0, 0, (-2), 0), (72, .ireturn, 1, 0, 0, 0, 0), (73, .aload_n 0, 1, 0, 0, 0, 0), (74, .iload_n 1, 1, 0, 0, 0, 0), (75, .invokevirtual 89, 3, 0, 101, 0, 0), (78, .astore 5, 2, 0, 0, 0, 0), (80, .aload_n 0, 1, 0, 0, 0, 0), (81, .getfield 14, 3, 7, 0, 0, 2), (84, .iload_n 2, 1, 0, 0, 0, 0), (85, .iload_n 3, 1, 0, 0, 0, 0), (86, .invokevirtual 107, 3, 0, 13, 0, 0), (89, .lstore 6, 2, 0, 0, 0, 0), (91, .lload 6, 2, 0, 0, 0, 0), (93, .aload 5, 2, 0, 0, 0, 0), (95, .iload 4, 2, 0, 0, 0, 0), (97, .invokevirtual 111, 3, 0, 52, 0, 0), (100, .ldc2_w 115, 3, 0, 0, 0, (-1)), (103, .lxor, 1, 0, 0, 0, 0), (104, .land, 1, 0, 0, 0, 0), (105, .invokestatic 117, 3, 0, 172, 0, 0), (108, .istore 8, 2, 0, 0, 0, 0), (110, .aload 5, 2, 0, 0, 0, 0), (112, .lload 6, 2, 0, 0, 0, 0), (114, .iload 4, 2, 0, 0, 0, 0), (116, .invokevirtual 97, 3, 0, 50, 0, 0), (119, .iload 8, 2, 0, 0, 0, 0), (121, .ireturn, 1, 0, 0, 0, 0)]
def mX7_box : Mt := (yX7_box, cX7_box, 9, (some .int), TX7_box)
def TX7_at : List It := [(0, .aload_n 0, 1, 0, 0, 0, 0), (1, .getfield 14, 3, 7, 0, 0, 2), (4, .iload_n 2, 1, 0, 0, 0, 0), (5, .invokevirtual 83, 3, 0, 9, 0, 0), (8, .ifCond .ne 5, 3, 0, 13, 0, 0), (11, .iconst (-1), 1, 0, 0, (-1), 0), (12, .ireturn, 1, 0, 0, 0, 0), (13, .aload_n 0, 1, 0, 0, 0, 0), (14, .iload_n 1, 1, 0, 0, 0, 0), (15, .invokevirtual 89, 3, 0, 101, 0, 0), (18, .iload_n 2, 1, 0, 0, 0, 0), (19, .invokevirtual 93, 3, 0, 51, 0, 0), (22, .ireturn, 1, 0, 0, 0, 0)]
def mX7_at : Mt := (yX7_at, cX7_at, 3, (some .int), TX7_at)
def TX7_trace : List It := [(0, .aload_n 0, 1, 0, 0, 0, 0), (1, .invokevirtual 123, 3, 0, 103, 0, 0), (4, .invokestatic 117, 3, 0, 172, 0, 0), (7, .istore_n 1, 1, 0, 0, 0, 0), (8, .aload_n 0, 1, 0, 0, 0, 0), (9, .getfield 27, 3, 7, 2, 0, 2), (12, .aload_n 0, 1, 0, 0, 0, 0), (13, .getfield 23, 3, 7, 1, 0, 2), (16, .invokevirtual 127, 3, 0, 49, 0, 0), (19, .iload_n 1, 1, 0, 0, 0, 0), (20, .ireturn, 1, 0, 0, 0, 0)]
def mX7_trace : Mt := (yX7_trace, cX7_trace, 2, (some .int), TX7_trace)
def TX7_cells : List It := [(0, .iload_n 2, 1, 0, 0, 0, 0), (1, .invokestatic 131, 3, 0, 95, 0, 0), (4, .ifCond .ne 5, 3, 0, 9, 0, 0), (7, .iconst (-1), 1, 0, 0, (-1), 0), (8, .ireturn, 1, 0, 0, 0, 0), (9, .aload_n 0, 1, 0, 0, 0, 0), (10, .iload_n 1, 1, 0, 0, 0, 0), (11, .invokevirtual 89, 3, 0, 101, 0, 0), (14, .iload_n 2, 1, 0, 0, 0, 0), (15, .invokevirtual 134, 3, 0, 53, 0, 0), (18, .ireturn, 1, 0, 0, 0, 0)]
def mX7_cells : Mt := (yX7_cells, cX7_cells, 3, (some .int), TX7_cells)
def TX7_heads : List It := [(0, .iload_n 1, 1, 0, 0, 0, 0), (1, .invokestatic 131, 3, 0, 95, 0, 0), (4, .ifCond .ne 5, 3, 0, 9, 0, 0), (7, .iconst (-1), 1, 0, 0, (-1), 0), (8, .ireturn, 1, 0, 0, 0, 0), (9, .iload_n 2, 1, 0, 0, 0, 0), (10, .invokestatic 137, 3, 0, 98, 0, 0), (13, .ifCond .ne 6, 3, 0, 19, 0, 0), (16, .bipush (-2), 2, 0, 0, (-2), 0), (18, .ireturn, 1, 0, 0, 0, 0), (19, .aload_n 0, 1, 0, 0, 0, 0), (20, .getfield 33, 3, 7, 3, 0, 2), (23, .getfield 140, 3, 0, 0, 0, 2), (26, .iload_n 1, 1, 0, 0, 0, 0), (27, .iaload, 1, 0, 0, 0, 0), (28, .istore_n 3, 1, 0, 0, 0, 0), (29, .aload_n 0, 1, 0, 0, 0, 0), (30, .getfield 33, 3, 7, 3, 0, 2), (33, .getfield 140, 3, 0, 0, 0, 2), (36, .iload_n 1, 1, 0, 0, 0, 0), (37, .iload_n 2, 1, 0, 0, 0, 0), (38, .iastore, 1, 0, 0, 0, 0), (39, .iload_n 3, 1, 0, 0, 0, 0), (40, .ireturn, 1, 0, 0, 0, 0)]
def mX7_heads : Mt := (yX7_heads, cX7_heads, 4, (some .int), TX7_heads)
def TX7_way : List It := [(0, .iload_n 1, 1, 0, 0, 0, 0), (1, .ifCond .lt 8, 3, 0, 9, 0, 0), (4, .iload_n 1, 1, 0, 0, 0, 0), (5, .iconst 3, 1, 0, 0, 3, 0), (6, .if_icmp .lt 6, 3, 0, 12, 0, 0), (9, .bipush (-2), 2, 0, 0, (-2), 0), (11, .ireturn, 1, 0, 0, 0, 0), (12, .aload_n 0, 1, 0, 0, 0, 0), (13, .getfield 33, 3, 7, 3, 0, 2), (16, .getfield 144, 3, 0, 3, 0, 0), (19, .istore_n 2, 1, 0, 0, 0, 0), (20, .aload_n 0, 1, 0, 0, 0, 0), (21, .getfield 33, 3, 7, 3, 0, 2), (24, .iload_n 1, 1, 0, 0, 0, 0), (25, .putfield 144, 3, 0, 3, 0, 0), (28, .iload_n 2, 1, 0, 0, 0, 0), (29, .ireturn, 1, 0, 0, 0, 0)]
def mX7_way : Mt := (yX7_way, cX7_way, 3, (some .int), TX7_way)
def TX7_due : List It := [(0, .iload_n 1, 1, 0, 0, 0, 0), (1, .invokestatic 131, 3, 0, 95, 0, 0), (4, .ifCond .ne 5, 3, 0, 9, 0, 0), (7, .iconst (-1), 1, 0, 0, (-1), 0), (8, .ireturn, 1, 0, 0, 0, 0), (9, .aload_n 0, 1, 0, 0, 0, 0), (10, .invokevirtual 148, 3, 0, 102, 0, 0), (13, .aload_n 0, 1, 0, 0, 0, 0), (14, .getfield 33, 3, 7, 3, 0, 2), (17, .getfield 151, 3, 0, 1, 0, 2), (20, .iload_n 1, 1, 0, 0, 0, 0), (21, .iaload, 1, 0, 0, 0, 0), (22, .ireturn, 1, 0, 0, 0, 0)]
def mX7_due : Mt := (yX7_due, cX7_due, 2, (some .int), TX7_due)
def TX7_parts : List It := [(0, .iload_n 1, 1, 0, 0, 0, 0), (1, .invokestatic 131, 3, 0, 95, 0, 0), (4, .ifCond .ne 5, 3, 0, 9, 0, 0), (7, .iconst (-1), 1, 0, 0, (-1), 0), (8, .ireturn, 1, 0, 0, 0, 0), (9, .aload_n 0, 1, 0, 0, 0, 0), (10, .getfield 14, 3, 7, 0, 0, 2), (13, .aload_n 0, 1, 0, 0, 0, 0), (14, .getfield 27, 3, 7, 2, 0, 2), (17, .iload_n 1, 1, 0, 0, 0, 0), (18, .invokevirtual 111, 3, 0, 52, 0, 0), (21, .invokevirtual 154, 3, 0, 15, 0, 0), (24, .ireturn, 1, 0, 0, 0, 0)]
def mX7_parts : Mt := (yX7_parts, cX7_parts, 2, (some .int), TX7_parts)
def TX7_beside : List It := [(0, .iload_n 2, 1, 0, 0, 0, 0), (1, .invokestatic 131, 3, 0, 95, 0, 0), (4, .ifCond .eq 10, 3, 0, 14, 0, 0), (7, .iload_n 3, 1, 0, 0, 0, 0), (8, .invokestatic 131, 3, 0, 95, 0, 0), (11, .ifCond .ne 5, 3, 0, 16, 0, 0), (14, .iconst (-1), 1, 0, 0, (-1), 0), (15, .ireturn, 1, 0, 0, 0, 0), (16, .iload_n 2, 1, 0, 0, 0, 0), (17, .iload_n 3, 1, 0, 0, 0, 0), (18, .if_icmp .ne 6, 3, 0, 24, 0, 0), (21, .bipush (-3), 2, 0, 0, (-3), 0), (23, .ireturn, 1, 0, 0, 0, 0), (24, .aload_n 0, 1, 0, 0, 0, 0), (25, .iload_n 1, 1, 0, 0, 0, 0), (26, .invokevirtual 89, 3, 0, 101, 0, 0), (29, .iload_n 2, 1, 0, 0, 0, 0), (30, .iload_n 3, 1, 0, 0, 0, 0), (31, .invokevirtual 157, 3, 0, 56, 0, 0), (34, .ifCond .eq 7, 3, 0, 41, 0, 0), (37, .iconst 1, 1, 0, 0, 1, 0), (38, .goto 4, 3, 0, 42, 0, 0), (41, .iconst 0, 1, 0, 0, 0, 0), (42, .ireturn, 1, 0, 0, 0, 0)]
def mX7_beside : Mt := (yX7_beside, cX7_beside, 4, (some .int), TX7_beside)
def TX7_faults : List It := [(0, .aload_n 0, 1, 0, 0, 0, 0), (1, .invokevirtual 148, 3, 0, 102, 0, 0), (4, .aload_n 0, 1, 0, 0, 0, 0), (5, .aload_n 0, 1, 0, 0, 0, 0), (6, .getfield 23, 3, 7, 1, 0, 2), (9, .invokevirtual 161, 3, 0, 57, 0, 0), (12, .invokevirtual 164, 3, 0, 105, 0, 0), (15, .ireturn, 1, 0, 0, 0, 0)]
def mX7_faults : Mt := (yX7_faults, cX7_faults, 1, (some .int), TX7_faults)
def TX7_would : List It := [(0, .aload_n 0, 1, 0, 0, 0, 0), (1, .getfield 14, 3, 7, 0, 0, 2), (4, .iload_n 1, 1, 0, 0, 0, 0), (5, .invokevirtual 83, 3, 0, 9, 0, 0), (8, .ifCond .eq 10, 3, 0, 18, 0, 0), (11, .iload_n 2, 1, 0, 0, 0, 0), (12, .invokestatic 86, 3, 0, 96, 0, 0), (15, .ifCond .ne 5, 3, 0, 20, 0, 0), (18, .iconst (-1), 1, 0, 0, (-1), 0), (19, .ireturn, 1, 0, 0, 0, 0), (20, .aload_n 0, 1, 0, 0, 0, 0), (21, .iload_n 1, 1, 0, 0, 0, 0), (22, .iload_n 2, 1, 0, 0, 0, 0), (23, .invokevirtual 167, 3, 0, 104, 0, 0), (26, .ifCond .ne 6, 3, 0, 32, 0, 0), (29, .bipush (-3), 2, 0, 0, (-3), 0), (31, .ireturn, 1, 0, 0, 0, 0), (32, .aload_n 0, 1, 0, 0, 0, 0), (33, .invokevirtual 148, 3, 0, 102, 0, 0), (36, .aload_n 0, 1, 0, 0, 0, 0), (37, .iload_n 1, 1, 0, 0, 0, 0), (38, .iload_n 2, 1, 0, 0, 0, 0), (39, .aload_n 0, 1, 0, 0, 0, 0), (40, .getfield 23, 3, 7, 1, 0, 2), (43, .invokevirtual 161, 3, 0, 57, 0, 0), (46, .invokevirtual 170, 3, 0, 106, 0, 0), (49, .ireturn, 1, 0, 0, 0, 0)]
def mX7_would : Mt := (yX7_would, cX7_would, 3, (some .int), TX7_would)
def TX7_mend : List It := [(0, .aload_n 0, 1, 0, 0, 0, 0), (1, .invokevirtual 148, 3, 0, 102, 0, 0), (4, .aload_n 0, 1, 0, 0, 0, 0), (5, .getfield 23, 3, 7, 1, 0, 2), (8, .invokevirtual 161, 3, 0, 57, 0, 0), (11, .lstore_n 1, 1, 0, 0, 0, 0), (12, .aload_n 0, 1, 0, 0, 0, 0), (13, .lload_n 1, 1, 0, 0, 0, 0), (14, .invokevirtual 164, 3, 0, 105, 0, 0), (17, .istore_n 3, 1, 0, 0, 0, 0), (18, .bipush (-9), 2, 0, 0, (-9), 0), (20, .istore 4, 2, 0, 0, 0, 0), (22, .bipush (-9), 2, 0, 0, (-9), 0), (24, .istore 5, 2, 0, 0, 0, 0), (26, .iconst 0, 1, 0, 0, 0, 0), (27, .istore 6, 2, 0, 0, 0, 0), (29, .iload 6, 2, 0, 0, 0, 0), (31, .aload_n 0, 1, 0, 0, 0, 0), (32, .getfield 14, 3, 7, 0, 0, 2), (35, .invokevirtual 79, 3, 0, 8, 0, 0), (38, .if_icmp .ge 64, 3, 0, 102, 0, 0), (41, .iconst 0, 1, 0, 0, 0, 0), (42, .istore 7, 2, 0, 0, 0, 0), (44, .iload 7, 2, 0, 0, 0, 0), (46, .bipush 6, 2, 0, 0, 6, 0), (48, .if_icmp .gt 48, 3, 0, 96, 0, 0), (51, .aload_n 0, 1, 0, 0, 0, 0), (52, .iload 6, 2, 0, 0, 0, 0), (54, .iload 7, 2, 0, 0, 0, 0), (56, .invokevirtual 167, 3, 0, 104, 0, 0), (59, .ifCond .eq 31, 3, 0, 90, 0, 0), (62, .aload_n 0, 1, 0, 0, 0, 0), (63, .iload 6, 2, 0, 0, 0, 0), (65, .iload 7, 2, 0, 0, 0, 0), (67, .lload_n 1, 1, 0, 0, 0, 0), (68, .invokevirtual 170, 3, 0, 106, 0, 0), (71, .istore 8, 2, 0, 0, 0, 0), (73, .iload 8, 2, 0, 0, 0, 0), (75, .iload_n 3, 1, 0, 0, 0, 0), (76, .if_icmp .ge 14, 3, 0, 90, 0, 0), (79, .iload 8, 2, 0, 0, 0, 0), (81, .istore_n 3, 1, 0, 0, 0, 0), (82, .iload 6, 2, 0, 0, 0, 0), (84, .istore 4, 2, 0, 0, 0, 0), (86, .iload 7, 2, 0, 0, 0, 0), (88, .istore 5, 2, 0, 0, 0, 0), (90, .iinc 7 1, 3, 0, 0, 1, 0), (93, .goto (-49), 3, 0, 44, 0, 0), (96, .iinc 6 1, 3, 0, 0, 1, 0), (99, .goto (-70), 3, 0, 29, 0, 0), (102, .iload 4, 2, 0, 0, 0, 0), (104, .bipush (-9), 2, 0, 0, (-9), 0), (106, .if_icmp .ne 6, 3, 0, 112, 0, 0), (109, .bipush (-9), 2, 0, 0, (-9), 0), (111, .ireturn, 1, 0, 0, 0, 0), (112, .aload_n 0, 1, 0, 0, 0, 0), (113, .getfield 27, 3, 7, 2, 0, 2), (116, .lconst 1, 1, 0, 0, 0, 1), (117, .iload 4, 2, 0, 0, 0, 0), (119, .lshl, 1, 0, 0, 0, 0), (120, .iload 5, 2, 0, 0, 0, 0), (122, .invokevirtual 97, 3, 0, 50, 0, 0), (125, .bipush 10, 2, 0, 0, 10, 0), (127, .iload 4, 2, 0, 0, 0, 0), (129, .imul, 1, 0, 0, 0, 0), (130, .iload 5, 2, 0, 0, 0, 0), (132, .iadd, 1, 0, 0, 0, 0), (133, .ireturn, 1, 0, 0, 0, 0)]
def mX7_mend : Mt := (yX7_mend, cX7_mend, 9, (some .int), TX7_mend)
def TX7_mayHand : List It := [(0, .aload_n 0, 1, 0, 0, 0, 0), (1, .getfield 14, 3, 7, 0, 0, 2), (4, .iload_n 1, 1, 0, 0, 0, 0), (5, .invokevirtual 83, 3, 0, 9, 0, 0), (8, .ifCond .eq 10, 3, 0, 18, 0, 0), (11, .iload_n 2, 1, 0, 0, 0, 0), (12, .invokestatic 131, 3, 0, 95, 0, 0), (15, .ifCond .ne 5, 3, 0, 20, 0, 0), (18, .iconst (-1), 1, 0, 0, (-1), 0), (19, .ireturn, 1, 0, 0, 0, 0), (20, .aload_n 0, 1, 0, 0, 0, 0), (21, .getfield 42, 3, 7, 4, 0, 2), (24, .iload_n 1, 1, 0, 0, 0, 0), (25, .iload_n 2, 1, 0, 0, 0, 0), (26, .invokevirtual 174, 3, 0, 18, 0, 0), (29, .ifCond .eq 7, 3, 0, 36, 0, 0), (32, .iconst 1, 1, 0, 0, 1, 0), (33, .goto 4, 3, 0, 37, 0, 0), (36, .iconst 0, 1, 0, 0, 0, 0), (37, .ireturn, 1, 0, 0, 0, 0)]
def mX7_mayHand : Mt := (yX7_mayHand, cX7_mayHand, 3, (some .int), TX7_mayHand)
def TX7_hand : List It := [(0, .aload_n 0, 1, 0, 0, 0, 0), (1, .getfield 14, 3, 7, 0, 0, 2), (4, .iload_n 1, 1, 0, 0, 0, 0), (5, .invokevirtual 83, 3, 0, 9, 0, 0), (8, .ifCond .eq 10, 3, 0, 18, 0, 0), (11, .iload_n 2, 1, 0, 0, 0, 0), (12, .invokestatic 131, 3, 0, 95, 0, 0), (15, .ifCond .ne 5, 3, 0, 20, 0, 0), (18, .iconst (-1), 1, 0, 0, (-1), 0), (19, .ireturn, 1, 0, 0, 0, 0), (20, .aload_n 0, 1, 0, 0, 0, 0), (21, .getfield 42, 3, 7, 4, 0, 2), (24, .iload_n 1, 1, 0, 0, 0, 0), (25, .iload_n 2, 1, 0, 0, 0, 0), (26, .invokevirtual 174, 3, 0, 18, 0, 0), (29, .ifCond .ne 6, 3, 0, 35, 0, 0), (32, .bipush (-3), 2, 0, 0, (-3), 0), (34, .ireturn, 1, 0, 0, 0, 0), (35, .aload_n 0, 1, 0, 0, 0, 0), (36, .getfield 27, 3, 7, 2, 0, 2), (39, .iload_n 1, 1, 0, 0, 0, 0), (40, .invokevirtual 93, 3, 0, 51, 0, 0), (43, .istore_n 3, 1, 0, 0, 0, 0), (44, .aload_n 0, 1, 0, 0, 0, 0), (45, .getfield 27, 3, 7, 2, 0, 2), (48, .lconst 1, 1, 0, 0, 0, 1), (49, .iload_n 1, 1, 0, 0, 0, 0), (50, .lshl, 1, 0, 0, 0, 0), (51, .iload_n 2, 1, 0, 0, 0, 0), (52, .invokevirtual 97, 3, 0, 50, 0, 0), (55, .iload_n 3, 1, 0, 0, 0, 0), (56, .ireturn, 1, 0, 0, 0, 0)]
def mX7_hand : Mt := (yX7_hand, cX7_hand, 4, (some .int), TX7_hand)
def TX7_chain : List It := [(0, .aload_n 0, 1, 0, 0, 0, 0), (1, .invokevirtual 148, 3, 0, 102, 0, 0), (4, .aload_n 0, 1, 0, 0, 0, 0), (5, .getfield 42, 3, 7, 4, 0, 2), (8, .invokevirtual 177, 3, 0, 21, 0, 0), (11, .istore_n 1, 1, 0, 0, 0, 0), (12, .iload_n 1, 1, 0, 0, 0, 0), (13, .ifCond .ne 8, 3, 0, 21, 0, 0), (16, .bipush (-9), 2, 0, 0, (-9), 0), (18, .goto 4, 3, 0, 22, 0, 0), (21, .iload_n 1, 1, 0, 0, 0, 0), (22, .ireturn, 1, 0, 0, 0, 0)]
def mX7_chain : Mt := (yX7_chain, cX7_chain, 2, (some .int), TX7_chain)
def TX7_link : List It := [(0, .aload_n 0, 1, 0, 0, 0, 0), (1, .invokevirtual 148, 3, 0, 102, 0, 0), (4, .aload_n 0, 1, 0, 0, 0, 0), (5, .getfield 42, 3, 7, 4, 0, 2), (8, .invokevirtual 177, 3, 0, 21, 0, 0), (11, .istore_n 2, 1, 0, 0, 0, 0), (12, .iload_n 1, 1, 0, 0, 0, 0), (13, .ifCond .lt 8, 3, 0, 21, 0, 0), (16, .iload_n 1, 1, 0, 0, 0, 0), (17, .iload_n 2, 1, 0, 0, 0, 0), (18, .if_icmp .lt 8, 3, 0, 26, 0, 0), (21, .bipush (-9), 2, 0, 0, (-9), 0), (23, .goto 12, 3, 0, 35, 0, 0), (26, .aload_n 0, 1, 0, 0, 0, 0), (27, .getfield 42, 3, 7, 4, 0, 2), (30, .getfield 180, 3, 2, 5, 0, 2), (33, .iload_n 1, 1, 0, 0, 0, 0), (34, .iaload, 1, 0, 0, 0, 0), (35, .ireturn, 1, 0, 0, 0, 0)]
def mX7_link : Mt := (yX7_link, cX7_link, 3, (some .int), TX7_link)
def TX7_pass : List It := [(0, .aload_n 0, 1, 0, 0, 0, 0), (1, .invokevirtual 148, 3, 0, 102, 0, 0), (4, .aload_n 0, 1, 0, 0, 0, 0), (5, .getfield 42, 3, 7, 4, 0, 2), (8, .invokevirtual 177, 3, 0, 21, 0, 0), (11, .istore_n 1, 1, 0, 0, 0, 0), (12, .iload_n 1, 1, 0, 0, 0, 0), (13, .ifCond .ne 8, 3, 0, 21, 0, 0), (16, .bipush (-3), 2, 0, 0, (-3), 0), (18, .goto 11, 3, 0, 29, 0, 0), (21, .aload_n 0, 1, 0, 0, 0, 0), (22, .getfield 42, 3, 7, 4, 0, 2), (25, .iload_n 1, 1, 0, 0, 0, 0), (26, .invokevirtual 183, 3, 0, 25, 0, 0), (29, .ireturn, 1, 0, 0, 0, 0)]
def mX7_pass : Mt := (yX7_pass, cX7_pass, 2, (some .int), TX7_pass)
def TX7_settle : List It := [(0, .aload_n 0, 1, 0, 0, 0, 0), (1, .invokevirtual 148, 3, 0, 102, 0, 0), (4, .iconst 0, 1, 0, 0, 0, 0), (5, .istore_n 1, 1, 0, 0, 0, 0), (6, .iload_n 1, 1, 0, 0, 0, 0), (7, .bipush 40, 2, 0, 0, 40, 0), (9, .if_icmp .ge 32, 3, 0, 41, 0, 0), (12, .aload_n 0, 1, 0, 0, 0, 0), (13, .getfield 42, 3, 7, 4, 0, 2), (16, .invokevirtual 177, 3, 0, 21, 0, 0), (19, .istore_n 2, 1, 0, 0, 0, 0), (20, .iload_n 2, 1, 0, 0, 0, 0), (21, .ifCond .ne 5, 3, 0, 26, 0, 0), (24, .iload_n 1, 1, 0, 0, 0, 0), (25, .ireturn, 1, 0, 0, 0, 0), (26, .aload_n 0, 1, 0, 0, 0, 0), (27, .getfield 42, 3, 7, 4, 0, 2), (30, .iload_n 2, 1, 0, 0, 0, 0), (31, .invokevirtual 183, 3, 0, 25, 0, 0), (34, .pop, 1, 0, 0, 0, 0), (35, .iinc 1 1, 3, 0, 0, 1, 0), (38, .goto (-32), 3, 0, 6, 0, 0), (41, .bipush 40, 2, 0, 0, 40, 0), (43, .ireturn, 1, 0, 0, 0, 0)]
def mX7_settle : Mt := (yX7_settle, cX7_settle, 3, (some .int), TX7_settle)
def TX7_changed : List It := [(0, .aload_n 0, 1, 0, 0, 0, 0), (1, .invokevirtual 123, 3, 0, 103, 0, 0), (4, .aload_n 0, 1, 0, 0, 0, 0), (5, .getfield 23, 3, 7, 1, 0, 2), (8, .invokevirtual 186, 3, 0, 54, 0, 0), (11, .land, 1, 0, 0, 0, 0), (12, .invokestatic 117, 3, 0, 172, 0, 0), (15, .ireturn, 1, 0, 0, 0, 0)]
def mX7_changed : Mt := (yX7_changed, cX7_changed, 1, (some .int), TX7_changed)
def TX7_carried : List It := [(0, .iload_n 1, 1, 0, 0, 0, 0), (1, .invokestatic 131, 3, 0, 95, 0, 0), (4, .ifCond .ne 5, 3, 0, 9, 0, 0), (7, .iconst (-1), 1, 0, 0, (-1), 0), (8, .ireturn, 1, 0, 0, 0, 0), (9, .aload_n 0, 1, 0, 0, 0, 0), (10, .getfield 23, 3, 7, 1, 0, 2), (13, .iload_n 1, 1, 0, 0, 0, 0), (14, .invokevirtual 134, 3, 0, 53, 0, 0), (17, .aload_n 0, 1, 0, 0, 0, 0), (18, .getfield 27, 3, 7, 2, 0, 2), (21, .iload_n 1, 1, 0, 0, 0, 0), (22, .invokevirtual 134, 3, 0, 53, 0, 0), (25, .if_icmp .eq 6, 3, 0, 31, 0, 0), (28, .bipush (-3), 2, 0, 0, (-3), 0), (30, .ireturn, 1, 0, 0, 0, 0), (31, .aload_n 0, 1, 0, 0, 0, 0), (32, .aload_n 0, 1, 0, 0, 0, 0), (33, .getfield 23, 3, 7, 1, 0, 2), (36, .iload_n 1, 1, 0, 0, 0, 0), (37, .invokevirtual 111, 3, 0, 52, 0, 0), (40, .aload_n 0, 1, 0, 0, 0, 0), (41, .getfield 27, 3, 7, 2, 0, 2), (44, .iload_n 1, 1, 0, 0, 0, 0), (45, .invokevirtual 111, 3, 0, 52, 0, 0), (48, .invokevirtual 189, 3, 0, 107, 0, 0), (51, .ireturn, 1, 0, 0, 0, 0)]
def mX7_carried : Mt := (yX7_carried, cX7_carried, 2, (some .int), TX7_carried)
def TX7_off : List It := [(0, .aload_n 0, 1, 0, 0, 0, 0), (1, .getfield 58, 3, 7, 6, 0, 2), (4, .aload_n 0, 1, 0, 0, 0, 0), (5, .getfield 23, 3, 7, 1, 0, 2), (8, .invokevirtual 193, 3, 0, 59, 0, 0), (11, .ireturn, 1, 0, 0, 0, 0)]
def mX7_off : Mt := (yX7_off, cX7_off, 1, (some .int), TX7_off)
def TX7_tile : List It := [(0, .iload_n 1, 1, 0, 0, 0, 0), (1, .invokestatic 131, 3, 0, 95, 0, 0), (4, .ifCond .ne 5, 3, 0, 9, 0, 0), (7, .iconst (-1), 1, 0, 0, (-1), 0), (8, .ireturn, 1, 0, 0, 0, 0), (9, .aload_n 0, 1, 0, 0, 0, 0), (10, .getfield 23, 3, 7, 1, 0, 2), (13, .iload_n 1, 1, 0, 0, 0, 0), (14, .invokevirtual 134, 3, 0, 53, 0, 0), (17, .ifCond .ne 6, 3, 0, 23, 0, 0), (20, .bipush (-9), 2, 0, 0, (-9), 0), (22, .ireturn, 1, 0, 0, 0, 0), (23, .aload_n 0, 1, 0, 0, 0, 0), (24, .getfield 58, 3, 7, 6, 0, 2), (27, .aload_n 0, 1, 0, 0, 0, 0), (28, .getfield 23, 3, 7, 1, 0, 2), (31, .invokevirtual 193, 3, 0, 59, 0, 0), (34, .pop, 1, 0, 0, 0, 0), (35, .aload_n 0, 1, 0, 0, 0, 0), (36, .getfield 58, 3, 7, 6, 0, 2), (39, .getfield 197, 3, 6, 3, 0, 2), (42, .iload_n 1, 1, 0, 0, 0, 0), (43, .invokevirtual 111, 3, 0, 52, 0, 0), (46, .invokestatic 200, 3, 0, 99, 0, 0), (49, .ireturn, 1, 0, 0, 0, 0)]
def mX7_tile : Mt := (yX7_tile, cX7_tile, 2, (some .int), TX7_tile)
def TX7_kept : List It := [(0, .aload_n 0, 1, 0, 0, 0, 0), (1, .getfield 58, 3, 7, 6, 0, 2), (4, .aload_n 0, 1, 0, 0, 0, 0), (5, .getfield 23, 3, 7, 1, 0, 2), (8, .invokevirtual 193, 3, 0, 59, 0, 0), (11, .pop, 1, 0, 0, 0, 0), (12, .aload_n 0, 1, 0, 0, 0, 0), (13, .getfield 23, 3, 7, 1, 0, 2), (16, .invokevirtual 161, 3, 0, 57, 0, 0), (19, .aload_n 0, 1, 0, 0, 0, 0), (20, .getfield 58, 3, 7, 6, 0, 2), (23, .getfield 197, 3, 6, 3, 0, 2), (26, .invokevirtual 161, 3, 0, 57, 0, 0), (29, .land, 1, 0, 0, 0, 0), (30, .invokestatic 117, 3, 0, 172, 0, 0), (33, .ireturn, 1, 0, 0, 0, 0)]
def mX7_kept : Mt := (yX7_kept, cX7_kept, 1, (some .int), TX7_kept)
def TX7_votes : List It := [(0, .iload_n 1, 1, 0, 0, 0, 0), (1, .invokestatic 131, 3, 0, 95, 0, 0), (4, .ifCond .eq 10, 3, 0, 14, 0, 0), (7, .iload_n 2, 1, 0, 0, 0, 0), (8, .invokestatic 203, 3, 0, 97, 0, 0), (11, .ifCond .ne 5, 3, 0, 16, 0, 0), (14, .iconst (-1), 1, 0, 0, (-1), 0), (15, .ireturn, 1, 0, 0, 0, 0), (16, .iload_n 3, 1, 0, 0, 0, 0), (17, .invokestatic 137, 3, 0, 98, 0, 0), (20, .ifCond .ne 6, 3, 0, 26, 0, 0), (23, .bipush (-2), 2, 0, 0, (-2), 0), (25, .ireturn, 1, 0, 0, 0, 0), (26, .aload_n 0, 1, 0, 0, 0, 0), (27, .getfield 65, 3, 7, 7, 0, 2), (30, .iload_n 1, 1, 0, 0, 0, 0), (31, .iload_n 2, 1, 0, 0, 0, 0), (32, .invokevirtual 206, 3, 0, 39, 0, 0), (35, .istore 4, 2, 0, 0, 0, 0), (37, .aload_n 0, 1, 0, 0, 0, 0), (38, .getfield 65, 3, 7, 7, 0, 2), (41, .iload_n 1, 1, 0, 0, 0, 0), (42, .iload_n 2, 1, 0, 0, 0, 0), (43, .iload_n 3, 1, 0, 0, 0, 0), (44, .invokevirtual 210, 3, 0, 40, 0, 0), (47, .iload 4, 2, 0, 0, 0, 0), (49, .ireturn, 1, 0, 0, 0, 0)]
def mX7_votes : Mt := (yX7_votes, cX7_votes, 5, (some .int), TX7_votes)
def TX7_won : List It := [(0, .iload_n 1, 1, 0, 0, 0, 0), (1, .invokestatic 131, 3, 0, 95, 0, 0), (4, .ifCond .ne 5, 3, 0, 9, 0, 0), (7, .iconst (-1), 1, 0, 0, (-1), 0), (8, .ireturn, 1, 0, 0, 0, 0), (9, .aload_n 0, 1, 0, 0, 0, 0), (10, .getfield 65, 3, 7, 7, 0, 2), (13, .iload_n 1, 1, 0, 0, 0, 0), (14, .invokevirtual 214, 3, 0, 41, 0, 0), (17, .ireturn, 1, 0, 0, 0, 0)]
def mX7_won : Mt := (yX7_won, cX7_won, 2, (some .int), TX7_won)
def TX7_has : List It := [(0, .iload_n 1, 1, 0, 0, 0, 0), (1, .invokestatic 203, 3, 0, 97, 0, 0), (4, .ifCond .ne 5, 3, 0, 9, 0, 0), (7, .iconst (-1), 1, 0, 0, (-1), 0), (8, .ireturn, 1, 0, 0, 0, 0), (9, .iload_n 2, 1, 0, 0, 0, 0), (10, .ifCond .lt 8, 3, 0, 18, 0, 0), (13, .iload_n 2, 1, 0, 0, 0, 0), (14, .iconst 2, 1, 0, 0, 2, 0), (15, .if_icmp .le 6, 3, 0, 21, 0, 0), (18, .bipush (-2), 2, 0, 0, (-2), 0), (20, .ireturn, 1, 0, 0, 0, 0), (21, .aload_n 0, 1, 0, 0, 0, 0), (22, .iload_n 1, 1, 0, 0, 0, 0), (23, .iload_n 2, 1, 0, 0, 0, 0), (24, .invokevirtual 217, 3, 0, 108, 0, 0), (27, .ireturn, 1, 0, 0, 0, 0)]
def mX7_has : Mt := (yX7_has, cX7_has, 3, (some .int), TX7_has)
def TX7_ahead : List It := [(0, .iload_n 1, 1, 0, 0, 0, 0), (1, .ifCond .lt 8, 3, 0, 9, 0, 0), (4, .iload_n 1, 1, 0, 0, 0, 0), (5, .iconst 2, 1, 0, 0, 2, 0), (6, .if_icmp .le 6, 3, 0, 12, 0, 0), (9, .bipush (-2), 2, 0, 0, (-2), 0), (11, .ireturn, 1, 0, 0, 0, 0), (12, .aload_n 0, 1, 0, 0, 0, 0), (13, .iload_n 1, 1, 0, 0, 0, 0), (14, .invokevirtual 220, 3, 0, 109, 0, 0), (17, .ireturn, 1, 0, 0, 0, 0)]
def mX7_ahead : Mt := (yX7_ahead, cX7_ahead, 2, (some .int), TX7_ahead)
def TX7_turn : List It := [(0, .iload_n 1, 1, 0, 0, 0, 0), (1, .invokestatic 203, 3, 0, 97, 0, 0), (4, .ifCond .ne 5, 3, 0, 9, 0, 0), (7, .iconst (-1), 1, 0, 0, (-1), 0), (8, .ireturn, 1, 0, 0, 0, 0), (9, .aload_n 0, 1, 0, 0, 0, 0), (10, .iconst 1, 1, 0, 0, 1, 0), (11, .invokevirtual 220, 3, 0, 109, 0, 0), (14, .istore_n 2, 1, 0, 0, 0, 0), (15, .iload_n 2, 1, 0, 0, 0, 0), (16, .bipush (-9), 2, 0, 0, (-9), 0), (18, .if_icmp .eq 8, 3, 0, 26, 0, 0), (21, .iload_n 2, 1, 0, 0, 0, 0), (22, .iload_n 1, 1, 0, 0, 0, 0), (23, .if_icmp .ne 6, 3, 0, 29, 0, 0), (26, .bipush (-3), 2, 0, 0, (-3), 0), (28, .ireturn, 1, 0, 0, 0, 0), (29, .aload_n 0, 1, 0, 0, 0, 0), (30, .getfield 65, 3, 7, 7, 0, 2), (33, .iload_n 2, 1, 0, 0, 0, 0), (34, .iload_n 1, 1, 0, 0, 0, 0), (35, .aload_n 0, 1, 0, 0, 0, 0), (36, .getfield 27, 3, 7, 2, 0, 2), (39, .invokevirtual 223, 3, 0, 44, 0, 0), (42, .ireturn, 1, 0, 0, 0, 0)]
def mX7_turn : Mt := (yX7_turn, cX7_turn, 3, (some .int), TX7_turn)
def TX7_count : List It := [(0, .iload_n 1, 1, 0, 0, 0, 0), (1, .tableswitch 81 0 4 #[35, 43, 54, 65, 73], 35, 0, 0, 0, 0), (36, .aload_n 0, 1, 0, 0, 0, 0), (37, .getfield 14, 3, 7, 0, 0, 2), (40, .invokevirtual 79, 3, 0, 8, 0, 0), (43, .ireturn, 1, 0, 0, 0, 0), (44, .aload_n 0, 1, 0, 0, 0, 0), (45, .getfield 23, 3, 7, 1, 0, 2), (48, .invokevirtual 186, 3, 0, 54, 0, 0), (51, .invokestatic 117, 3, 0, 172, 0, 0), (54, .ireturn, 1, 0, 0, 0, 0), (55, .aload_n 0, 1, 0, 0, 0, 0), (56, .getfield 27, 3, 7, 2, 0, 2), (59, .invokevirtual 186, 3, 0, 54, 0, 0), (62, .invokestatic 117, 3, 0, 172, 0, 0), (65, .ireturn, 1, 0, 0, 0, 0), (66, .aload_n 0, 1, 0, 0, 0, 0), (67, .getfield 33, 3, 7, 3, 0, 2), (70, .invokevirtual 227, 3, 0, 1, 0, 0), (73, .ireturn, 1, 0, 0, 0, 0), (74, .aload_n 0, 1, 0, 0, 0, 0), (75, .getfield 23, 3, 7, 1, 0, 2), (78, .invokevirtual 230, 3, 0, 55, 0, 0), (81, .ireturn, 1, 0, 0, 0, 0), (82, .bipush (-2), 2, 0, 0, (-2), 0), (84, .ireturn, 1, 0, 0, 0, 0)]
def mX7_count : Mt := (yX7_count, cX7_count, 2, (some .int), TX7_count)
def TX7_isEdge : List It := [(0, .iload_n 0, 1, 0, 0, 0, 0), (1, .iconst 2, 1, 0, 0, 2, 0), (2, .if_icmp .lt 13, 3, 0, 15, 0, 0), (5, .iload_n 0, 1, 0, 0, 0, 0), (6, .bipush 6, 2, 0, 0, 6, 0), (8, .if_icmp .gt 7, 3, 0, 15, 0, 0), (11, .iconst 1, 1, 0, 0, 1, 0), (12, .goto 4, 3, 0, 16, 0, 0), (15, .iconst 0, 1, 0, 0, 0, 0), (16, .ireturn, 1, 0, 0, 0, 0)]
def mX7_isEdge : Mt := (yX7_isEdge, cX7_isEdge, 1, (some .boolean), TX7_isEdge)
def TX7_isLand : List It := [(0, .iload_n 0, 1, 0, 0, 0, 0), (1, .ifCond .lt 13, 3, 0, 14, 0, 0), (4, .iload_n 0, 1, 0, 0, 0, 0), (5, .bipush 6, 2, 0, 0, 6, 0), (7, .if_icmp .ge 7, 3, 0, 14, 0, 0), (10, .iconst 1, 1, 0, 0, 1, 0), (11, .goto 4, 3, 0, 15, 0, 0), (14, .iconst 0, 1, 0, 0, 0, 0), (15, .ireturn, 1, 0, 0, 0, 0)]
def mX7_isLand : Mt := (yX7_isLand, cX7_isLand, 1, (some .boolean), TX7_isLand)
def TX7_isOwner : List It := [(0, .iload_n 0, 1, 0, 0, 0, 0), (1, .invokestatic 131, 3, 0, 95, 0, 0), (4, .ifCond .ne 9, 3, 0, 13, 0, 0), (7, .iload_n 0, 1, 0, 0, 0, 0), (8, .bipush 6, 2, 0, 0, 6, 0), (10, .if_icmp .ne 7, 3, 0, 17, 0, 0), (13, .iconst 1, 1, 0, 0, 1, 0), (14, .goto 4, 3, 0, 18, 0, 0), (17, .iconst 0, 1, 0, 0, 0, 0), (18, .ireturn, 1, 0, 0, 0, 0)]
def mX7_isOwner : Mt := (yX7_isOwner, cX7_isOwner, 1, (some .boolean), TX7_isOwner)
def TX7_isSide : List It := [(0, .iload_n 0, 1, 0, 0, 0, 0), (1, .ifCond .lt 12, 3, 0, 13, 0, 0), (4, .iload_n 0, 1, 0, 0, 0, 0), (5, .iconst 3, 1, 0, 0, 3, 0), (6, .if_icmp .ge 7, 3, 0, 13, 0, 0), (9, .iconst 1, 1, 0, 0, 1, 0), (10, .goto 4, 3, 0, 14, 0, 0), (13, .iconst 0, 1, 0, 0, 0, 0), (14, .ireturn, 1, 0, 0, 0, 0)]
def mX7_isSide : Mt := (yX7_isSide, cX7_isSide, 1, (some .boolean), TX7_isSide)
def TX7_isPeople : List It := [(0, .iload_n 0, 1, 0, 0, 0, 0), (1, .ifCond .lt 14, 3, 0, 15, 0, 0), (4, .iload_n 0, 1, 0, 0, 0, 0), (5, .sipush 999, 3, 0, 0, 999, 0), (8, .if_icmp .gt 7, 3, 0, 15, 0, 0), (11, .iconst 1, 1, 0, 0, 1, 0), (12, .goto 4, 3, 0, 16, 0, 0), (15, .iconst 0, 1, 0, 0, 0, 0), (16, .ireturn, 1, 0, 0, 0, 0)]
def mX7_isPeople : Mt := (yX7_isPeople, cX7_isPeople, 1, (some .boolean), TX7_isPeople)
def TX7_lowestCell : List It := [(0, .lload_n 0, 1, 0, 0, 0, 0), (1, .lconst 0, 1, 0, 0, 0, 0), (2, .lcmp, 1, 0, 0, 0, 0), (3, .ifCond .ne 8, 3, 0, 11, 0, 0), (6, .bipush (-9), 2, 0, 0, (-9), 0), (8, .goto 12, 3, 0, 20, 0, 0), (11, .lload_n 0, 1, 0, 0, 0, 0), (12, .lload_n 0, 1, 0, 0, 0, 0), (13, .lneg, 1, 0, 0, 0, 0), (14, .land, 1, 0, 0, 0, 0), (15, .lconst 1, 1, 0, 0, 0, 1), (16, .lsub, 1, 0, 0, 0, 0), (17, .invokestatic 117, 3, 0, 172, 0, 0), (20, .ireturn, 1, 0, 0, 0, 0)]
def mX7_lowestCell : Mt := (yX7_lowestCell, cX7_lowestCell, 2, (some .int), TX7_lowestCell)
def TX7_leaderOf : List It := [(0, .iload_n 0, 1, 0, 0, 0, 0), (1, .iload_n 1, 1, 0, 0, 0, 0), (2, .if_icmp .le 10, 3, 0, 12, 0, 0), (5, .iload_n 0, 1, 0, 0, 0, 0), (6, .iload_n 2, 1, 0, 0, 0, 0), (7, .if_icmp .le 5, 3, 0, 12, 0, 0), (10, .iconst 0, 1, 0, 0, 0, 0), (11, .ireturn, 1, 0, 0, 0, 0), (12, .iload_n 1, 1, 0, 0, 0, 0), (13, .iload_n 0, 1, 0, 0, 0, 0), (14, .if_icmp .le 10, 3, 0, 24, 0, 0), (17, .iload_n 1, 1, 0, 0, 0, 0), (18, .iload_n 2, 1, 0, 0, 0, 0), (19, .if_icmp .le 5, 3, 0, 24, 0, 0), (22, .iconst 1, 1, 0, 0, 1, 0), (23, .ireturn, 1, 0, 0, 0, 0), (24, .iload_n 2, 1, 0, 0, 0, 0), (25, .iload_n 0, 1, 0, 0, 0, 0), (26, .if_icmp .le 12, 3, 0, 38, 0, 0), (29, .iload_n 2, 1, 0, 0, 0, 0), (30, .iload_n 1, 1, 0, 0, 0, 0), (31, .if_icmp .le 7, 3, 0, 38, 0, 0), (34, .iconst 2, 1, 0, 0, 2, 0), (35, .goto 5, 3, 0, 40, 0, 0), (38, .bipush (-9), 2, 0, 0, (-9), 0), (40, .ireturn, 1, 0, 0, 0, 0)]
def mX7_leaderOf : Mt := (yX7_leaderOf, cX7_leaderOf, 3, (some .int), TX7_leaderOf)
def TX7_sheetOf : List It := [(0, .iload_n 1, 1, 0, 0, 0, 0), (1, .ifCond .eq 10, 3, 0, 11, 0, 0), (4, .aload_n 0, 1, 0, 0, 0, 0), (5, .getfield 27, 3, 7, 2, 0, 2), (8, .goto 7, 3, 0, 15, 0, 0), (11, .aload_n 0, 1, 0, 0, 0, 0), (12, .getfield 23, 3, 7, 1, 0, 2), (15, .areturn, 1, 0, 0, 0, 0)]
def mX7_sheetOf : Mt := (yX7_sheetOf, cX7_sheetOf, 2, (some (.object "PeopleLands$Sheet")), TX7_sheetOf)
def TX7_shareOut : List It := [(0, .aload_n 0, 1, 0, 0, 0, 0), (1, .getfield 33, 3, 7, 3, 0, 2), (4, .aload_n 0, 1, 0, 0, 0, 0), (5, .getfield 23, 3, 7, 1, 0, 2), (8, .invokevirtual 186, 3, 0, 54, 0, 0), (11, .invokestatic 117, 3, 0, 172, 0, 0), (14, .invokevirtual 233, 3, 0, 2, 0, 0), (17, .return_, 1, 0, 0, 0, 0)]
def mX7_shareOut : Mt := (yX7_shareOut, cX7_shareOut, 1, none, TX7_shareOut)
def TX7_unlikeCells : List It := [(0, .lconst 0, 1, 0, 0, 0, 0), (1, .lstore_n 1, 1, 0, 0, 0, 0), (2, .iconst 0, 1, 0, 0, 0, 0), (3, .istore_n 3, 1, 0, 0, 0, 0), (4, .iload_n 3, 1, 0, 0, 0, 0), (5, .bipush 6, 2, 0, 0, 6, 0), (7, .if_icmp .gt 29, 3, 0, 36, 0, 0), (10, .lload_n 1, 1, 0, 0, 0, 0), (11, .aload_n 0, 1, 0, 0, 0, 0), (12, .getfield 23, 3, 7, 1, 0, 2), (15, .iload_n 3, 1, 0, 0, 0, 0), (16, .invokevirtual 111, 3, 0, 52, 0, 0), (19, .aload_n 0, 1, 0, 0, 0, 0), (20, .getfield 27, 3, 7, 2, 0, 2), (23, .iload_n 3, 1, 0, 0, 0, 0), (24, .invokevirtual 111, 3, 0, 52, 0, 0), (27, .land, 1, 0, 0, 0, 0), (28, .lor, 1, 0, 0, 0, 0), (29, .lstore_n 1, 1, 0, 0, 0, 0), (30, .iinc 3 1, 3, 0, 0, 1, 0), (33, .goto (-29), 3, 0, 4, 0, 0), (36, .aload_n 0, 1, 0, 0, 0, 0), (37, .getfield 14, 3, 7, 0, 0, 2), (40, .getfield 236, 3, 1, 2, 0, 1), (43, .lload_n 1, 1, 0, 0, 0, 0), (44, .ldc2_w 115, 3, 0, 0, 0, (-1)), (47, .lxor, 1, 0, 0, 0, 0), (48, .land, 1, 0, 0, 0, 0), (49, .lreturn, 1, 0, 0, 0, 0)]
def mX7_unlikeCells : Mt := (yX7_unlikeCells, cX7_unlikeCells, 4, (some .long), TX7_unlikeCells)
def TX7_isChange : List It := [(0, .aload_n 0, 1, 0, 0, 0, 0), (1, .getfield 27, 3, 7, 2, 0, 2), (4, .iload_n 1, 1, 0, 0, 0, 0), (5, .invokevirtual 93, 3, 0, 51, 0, 0), (8, .istore_n 3, 1, 0, 0, 0, 0), (9, .iload_n 3, 1, 0, 0, 0, 0), (10, .iload_n 2, 1, 0, 0, 0, 0), (11, .if_icmp .ne 5, 3, 0, 16, 0, 0), (14, .iconst 0, 1, 0, 0, 0, 0), (15, .ireturn, 1, 0, 0, 0, 0), (16, .iload_n 2, 1, 0, 0, 0, 0), (17, .bipush 6, 2, 0, 0, 6, 0), (19, .if_icmp .ne 5, 3, 0, 24, 0, 0), (22, .iconst 1, 1, 0, 0, 1, 0), (23, .ireturn, 1, 0, 0, 0, 0), (24, .aload_n 0, 1, 0, 0, 0, 0), (25, .getfield 27, 3, 7, 2, 0, 2), (28, .iload_n 2, 1, 0, 0, 0, 0), (29, .invokevirtual 111, 3, 0, 52, 0, 0), (32, .lstore 4, 2, 0, 0, 0, 0), (34, .iload_n 3, 1, 0, 0, 0, 0), (35, .bipush 6, 2, 0, 0, 6, 0), (37, .if_icmp .ne 12, 3, 0, 49, 0, 0), (40, .lload 4, 2, 0, 0, 0, 0), (42, .lconst 0, 1, 0, 0, 0, 0), (43, .lcmp, 1, 0, 0, 0, 0), (44, .ifCond .ne 5, 3, 0, 49, 0, 0), (47, .iconst 1, 1, 0, 0, 1, 0), (48, .ireturn, 1, 0, 0, 0, 0), (49, .aload_n 0, 1, 0, 0, 0, 0), (50, .getfield 14, 3, 7, 0, 0, 2), (53, .lconst 1, 1, 0, 0, 0, 1), (54, .iload_n 1, 1, 0, 0, 0, 0), (55, .lshl, 1, 0, 0, 0, 0), (56, .invokevirtual 240, 3, 0, 14, 0, 0), (59, .lload 4, 2, 0, 0, 0, 0), (61, .land, 1, 0, 0, 0, 0), (62, .lconst 0, 1, 0, 0, 0, 0), (63, .lcmp, 1, 0, 0, 0, 0), (64, .ifCond .eq 7, 3, 0, 71, 0, 0), (67, .iconst 1, 1, 0, 0, 1, 0), (68, .goto 4, 3, 0, 72, 0, 0), (71, .iconst 0, 1, 0, 0, 0, 0), (72, .ireturn, 1, 0, 0, 0, 0)]
def mX7_isChange : Mt := (yX7_isChange, cX7_isChange, 6, (some .boolean), TX7_isChange)
def TX7_faultsAgainst : List It := [(0, .iconst 0, 1, 0, 0, 0, 0), (1, .istore_n 3, 1, 0, 0, 0, 0), (2, .iconst 0, 1, 0, 0, 0, 0), (3, .istore 4, 2, 0, 0, 0, 0), (5, .iload 4, 2, 0, 0, 0, 0), (7, .bipush 6, 2, 0, 0, 6, 0), (9, .if_icmp .ge 62, 3, 0, 71, 0, 0), (12, .iload_n 3, 1, 0, 0, 0, 0), (13, .aload_n 0, 1, 0, 0, 0, 0), (14, .getfield 27, 3, 7, 2, 0, 2), (17, .iload 4, 2, 0, 0, 0, 0), (19, .invokevirtual 134, 3, 0, 53, 0, 0), (22, .aload_n 0, 1, 0, 0, 0, 0), (23, .getfield 33, 3, 7, 3, 0, 2), (26, .getfield 151, 3, 0, 1, 0, 2), (29, .iload 4, 2, 0, 0, 0, 0), (31, .iaload, 1, 0, 0, 0, 0), (32, .isub, 1, 0, 0, 0, 0), (33, .invokestatic 244, 3, 0, 173, 0, 0), (36, .iadd, 1, 0, 0, 0, 0), (37, .istore_n 3, 1, 0, 0, 0, 0), (38, .iload_n 3, 1, 0, 0, 0, 0), (39, .iconst 3, 1, 0, 0, 3, 0), (40, .iconst 0, 1, 0, 0, 0, 0), (41, .aload_n 0, 1, 0, 0, 0, 0), (42, .getfield 14, 3, 7, 0, 0, 2), (45, .aload_n 0, 1, 0, 0, 0, 0), (46, .getfield 27, 3, 7, 2, 0, 2), (49, .iload 4, 2, 0, 0, 0, 0), (51, .invokevirtual 111, 3, 0, 52, 0, 0), (54, .invokevirtual 154, 3, 0, 15, 0, 0), (57, .iconst 1, 1, 0, 0, 1, 0), (58, .isub, 1, 0, 0, 0, 0), (59, .invokestatic 249, 3, 0, 174, 0, 0), (62, .imul, 1, 0, 0, 0, 0), (63, .iadd, 1, 0, 0, 0, 0), (64, .istore_n 3, 1, 0, 0, 0, 0), (65, .iinc 4 1, 3, 0, 0, 1, 0), (68, .goto (-63), 3, 0, 5, 0, 0), (71, .aload_n 0, 1, 0, 0, 0, 0), (72, .getfield 27, 3, 7, 2, 0, 2), (75, .invokevirtual 161, 3, 0, 57, 0, 0), (78, .lstore 4, 2, 0, 0, 0, 0), (80, .iload_n 3, 1, 0, 0, 0, 0), (81, .iconst 2, 1, 0, 0, 2, 0), (82, .lload_n 1, 1, 0, 0, 0, 0), (83, .lload 4, 2, 0, 0, 0, 0), (85, .ldc2_w 115, 3, 0, 0, 0, (-1)), (88, .lxor, 1, 0, 0, 0, 0), (89, .land, 1, 0, 0, 0, 0), (90, .invokestatic 117, 3, 0, 172, 0, 0), (93, .imul, 1, 0, 0, 0, 0), (94, .iadd, 1, 0, 0, 0, 0), (95, .lload 4, 2, 0, 0, 0, 0), (97, .lload_n 1, 1, 0, 0, 0, 0), (98, .ldc2_w 115, 3, 0, 0, 0, (-1)), (101, .lxor, 1, 0, 0, 0, 0), (102, .land, 1, 0, 0, 0, 0), (103, .invokestatic 117, 3, 0, 172, 0, 0), (106, .iadd, 1, 0, 0, 0, 0), (107, .ireturn, 1, 0, 0, 0, 0)]
def mX7_faultsAgainst : Mt := (yX7_faultsAgainst, cX7_faultsAgainst, 6, (some .int), TX7_faultsAgainst)
def TX7_faultsBehind : List It := [(0, .aload_n 0, 1, 0, 0, 0, 0), (1, .getfield 27, 3, 7, 2, 0, 2), (4, .iload_n 1, 1, 0, 0, 0, 0), (5, .invokevirtual 93, 3, 0, 51, 0, 0), (8, .istore 5, 2, 0, 0, 0, 0), (10, .aload_n 0, 1, 0, 0, 0, 0), (11, .getfield 27, 3, 7, 2, 0, 2), (14, .lconst 1, 1, 0, 0, 0, 1), (15, .iload_n 1, 1, 0, 0, 0, 0), (16, .lshl, 1, 0, 0, 0, 0), (17, .iload_n 2, 1, 0, 0, 0, 0), (18, .invokevirtual 97, 3, 0, 50, 0, 0), (21, .aload_n 0, 1, 0, 0, 0, 0), (22, .lload_n 3, 1, 0, 0, 0, 0), (23, .invokevirtual 164, 3, 0, 105, 0, 0), (26, .istore 6, 2, 0, 0, 0, 0), (28, .aload_n 0, 1, 0, 0, 0, 0), (29, .getfield 27, 3, 7, 2, 0, 2), (32, .lconst 1, 1, 0, 0, 0, 1), (33, .iload_n 1, 1, 0, 0, 0, 0), (34, .lshl, 1, 0, 0, 0, 0), (35, .iload 5, 2, 0, 0, 0, 0), (37, .invokevirtual 97, 3, 0, 50, 0, 0), (40, .iload 6, 2, 0, 0, 0, 0), (42, .ireturn, 1, 0, 0, 0, 0)]
def mX7_faultsBehind : Mt := (yX7_faultsBehind, cX7_faultsBehind, 7, (some .int), TX7_faultsBehind)
def TX7_leastSteps : List It := [(0, .lload_n 1, 1, 0, 0, 0, 0), (1, .lload_n 3, 1, 0, 0, 0, 0), (2, .ldc2_w 115, 3, 0, 0, 0, (-1)), (5, .lxor, 1, 0, 0, 0, 0), (6, .land, 1, 0, 0, 0, 0), (7, .lstore 5, 2, 0, 0, 0, 0), (9, .lload_n 3, 1, 0, 0, 0, 0), (10, .lload_n 1, 1, 0, 0, 0, 0), (11, .ldc2_w 115, 3, 0, 0, 0, (-1)), (14, .lxor, 1, 0, 0, 0, 0), (15, .land, 1, 0, 0, 0, 0), (16, .lstore 7, 2, 0, 0, 0, 0), (18, .lload 5, 2, 0, 0, 0, 0), (20, .invokestatic 117, 3, 0, 172, 0, 0), (23, .istore 9, 2, 0, 0, 0, 0), (25, .aload_n 0, 1, 0, 0, 0, 0), (26, .getfield 49, 3, 7, 5, 0, 2), (29, .iload 9, 2, 0, 0, 0, 0), (31, .iload 9, 2, 0, 0, 0, 0), (33, .invokevirtual 252, 3, 0, 27, 0, 0), (36, .iconst 0, 1, 0, 0, 0, 0), (37, .istore 10, 2, 0, 0, 0, 0), (39, .iload 10, 2, 0, 0, 0, 0), (41, .iload 9, 2, 0, 0, 0, 0), (43, .if_icmp .ge 80, 3, 0, 123, 0, 0), (46, .lload 5, 2, 0, 0, 0, 0), (48, .invokestatic 200, 3, 0, 99, 0, 0), (51, .istore 11, 2, 0, 0, 0, 0), (53, .lload 5, 2, 0, 0, 0, 0), (55, .lload 5, 2, 0, 0, 0, 0), (57, .lconst 1, 1, 0, 0, 0, 1), (58, .lsub, 1, 0, 0, 0, 0), (59, .land, 1, 0, 0, 0, 0), (60, .lstore 5, 2, 0, 0, 0, 0), (62, .lload 7, 2, 0, 0, 0, 0), (64, .lstore 12, 2, 0, 0, 0, 0), (66, .iconst 0, 1, 0, 0, 0, 0), (67, .istore 14, 2, 0, 0, 0, 0), (69, .iload 14, 2, 0, 0, 0, 0), (71, .iload 9, 2, 0, 0, 0, 0), (73, .if_icmp .ge 44, 3, 0, 117, 0, 0), (76, .aload_n 0, 1, 0, 0, 0, 0), (77, .getfield 49, 3, 7, 5, 0, 2), (80, .iload 10, 2, 0, 0, 0, 0), (82, .iload 14, 2, 0, 0, 0, 0), (84, .aload_n 0, 1, 0, 0, 0, 0), (85, .getfield 14, 3, 7, 0, 0, 2), (88, .iload 11, 2, 0, 0, 0, 0), (90, .lload 12, 2, 0, 0, 0, 0), (92, .invokestatic 200, 3, 0, 99, 0, 0), (95, .invokevirtual 255, 3, 0, 12, 0, 0), (98, .i2l, 1, 0, 0, 0, 0), (99, .invokevirtual 258, 3, 0, 28, 0, 0), (102, .lload 12, 2, 0, 0, 0, 0), (104, .lload 12, 2, 0, 0, 0, 0), (106, .lconst 1, 1, 0, 0, 0, 1), (107, .lsub, 1, 0, 0, 0, 0), (108, .land, 1, 0, 0, 0, 0), (109, .lstore 12, 2, 0, 0, 0, 0), (111, .iinc 14 1, 3, 0, 0, 1, 0), (114, .goto (-45), 3, 0, 69, 0, 0), (117, .iinc 10 1, 3, 0, 0, 1, 0), (120, .goto (-81), 3, 0, 39, 0, 0), (123, .aload_n 0, 1, 0, 0, 0, 0), (124, .getfield 49, 3, 7, 5, 0, 2), (127, .invokevirtual 262, 3, 0, 29, 0, 0), (130, .aload_n 0, 1, 0, 0, 0, 0), (131, .getfield 49, 3, 7, 5, 0, 2), (134, .invokevirtual 265, 3, 0, 31, 0, 0), (137, .l2i, 1, 0, 0, 0, 0), (138, .ireturn, 1, 0, 0, 0, 0)]
def mX7_leastSteps : Mt := (yX7_leastSteps, cX7_leastSteps, 15, (some .int), TX7_leastSteps)
def TX7_tally : List It := [(0, .iload_n 2, 1, 0, 0, 0, 0), (1, .iconst 2, 1, 0, 0, 2, 0), (2, .if_icmp .ne 14, 3, 0, 16, 0, 0), (5, .aload_n 0, 1, 0, 0, 0, 0), (6, .getfield 65, 3, 7, 7, 0, 2), (9, .iload_n 1, 1, 0, 0, 0, 0), (10, .invokevirtual 268, 3, 0, 42, 0, 0), (13, .goto 25, 3, 0, 38, 0, 0), (16, .aload_n 0, 1, 0, 0, 0, 0), (17, .getfield 65, 3, 7, 7, 0, 2), (20, .iload_n 1, 1, 0, 0, 0, 0), (21, .aload_n 0, 1, 0, 0, 0, 0), (22, .iload_n 2, 1, 0, 0, 0, 0), (23, .iconst 1, 1, 0, 0, 1, 0), (24, .if_icmp .ne 7, 3, 0, 31, 0, 0), (27, .iconst 1, 1, 0, 0, 1, 0), (28, .goto 4, 3, 0, 32, 0, 0), (31, .iconst 0, 1, 0, 0, 0, 0), (32, .invokevirtual 89, 3, 0, 101, 0, 0), (35, .invokevirtual 271, 3, 0, 43, 0, 0), (38, .ireturn, 1, 0, 0, 0, 0)]
def mX7_tally : Mt := (yX7_tally, cX7_tally, 3, (some .int), TX7_tally)
def TX7_leaderBy : List It := [(0, .aload_n 0, 1, 0, 0, 0, 0), (1, .iconst 0, 1, 0, 0, 0, 0), (2, .iload_n 1, 1, 0, 0, 0, 0), (3, .invokevirtual 217, 3, 0, 108, 0, 0), (6, .aload_n 0, 1, 0, 0, 0, 0), (7, .iconst 1, 1, 0, 0, 1, 0), (8, .iload_n 1, 1, 0, 0, 0, 0), (9, .invokevirtual 217, 3, 0, 108, 0, 0), (12, .aload_n 0, 1, 0, 0, 0, 0), (13, .iconst 2, 1, 0, 0, 2, 0), (14, .iload_n 1, 1, 0, 0, 0, 0), (15, .invokevirtual 217, 3, 0, 108, 0, 0), (18, .invokestatic 275, 3, 0, 100, 0, 0), (21, .ireturn, 1, 0, 0, 0, 0)]
def mX7_leaderBy : Mt := (yX7_leaderBy, cX7_leaderBy, 2, (some .int), TX7_leaderBy)
def TX8_init : List It := [(0, .aload_n 0, 1, 0, 0, 0, 0), (1, .invokespecial 1, 3, 0, 178, 0, 0), (4, .aload_n 0, 1, 0, 0, 0, 0), (5, .iconst 4, 1, 0, 0, 4, 0), (6, .putfield 7, 3, 8, 1, 0, 0), (9, .aload_n 0, 1, 0, 0, 0, 0), (10, .iconst 4, 1, 0, 0, 4, 0), (11, .putfield 13, 3, 8, 2, 0, 0), (14, .aload_n 0, 1, 0, 0, 0, 0), (15, .bipush 36, 2, 0, 0, 36, 0), (17, .newarray .int, 2, 0, 0, 0, 0), (19, .putfield 16, 3, 8, 3, 0, 2), (22, .aload_n 0, 1, 0, 0, 0, 0), (23, .bipush 36, 2, 0, 0, 36, 0), (25, .newarray .int, 2, 0, 0, 0, 0), (27, .putfield 20, 3, 8, 4, 0, 2), (30, .aload_n 0, 1, 0, 0, 0, 0), (31, .bipush 6, 2, 0, 0, 6, 0), (33, .newarray .int, 2, 0, 0, 0, 0), (35, .putfield 23, 3, 8, 5, 0, 2), (38, .aload_n 0, 1, 0, 0, 0, 0), (39, .bipush 6, 2, 0, 0, 6, 0), (41, .newarray .int, 2, 0, 0, 0, 0), (43, .putfield 26, 3, 8, 7, 0, 2), (46, .aload_n 0, 1, 0, 0, 0, 0), (47, .bipush 36, 2, 0, 0, 36, 0), (49, .newarray .boolean, 2, 0, 0, 0, 0), (51, .putfield 29, 3, 8, 8, 0, 2), (54, .aload_n 0, 1, 0, 0, 0, 0), (55, .bipush 36, 2, 0, 0, 36, 0), (57, .newarray .int, 2, 0, 0, 0, 0), (59, .putfield 33, 3, 8, 9, 0, 2), (62, .aload_n 0, 1, 0, 0, 0, 0), (63, .bipush 36, 2, 0, 0, 36, 0), (65, .newarray .boolean, 2, 0, 0, 0, 0), (67, .putfield 36, 3, 8, 10, 0, 2), (70, .aload_n 0, 1, 0, 0, 0, 0), (71, .bipush 6, 2, 0, 0, 6, 0), (73, .newarray .int, 2, 0, 0, 0, 0), (75, .putfield 39, 3, 8, 11, 0, 2), (78, .aload_n 0, 1, 0, 0, 0, 0), (79, .bipush 37, 2, 0, 0, 37, 0), (81, .newarray .int, 2, 0, 0, 0, 0), (83, .putfield 42, 3, 8, 13, 0, 2), (86, .aload_n 0, 1, 0, 0, 0, 0), (87, .bipush 37, 2, 0, 0, 37, 0), (89, .newarray .int, 2, 0, 0, 0, 0), (91, .putfield 45, 3, 8, 14, 0, 2), (94, .aload_n 0, 1, 0, 0, 0, 0), (95, .bipush 37, 2, 0, 0, 37, 0), (97, .newarray .int, 2, 0, 0, 0, 0), (99, .putfield 48, 3, 8, 15, 0, 2), (102, .aload_n 0, 1, 0, 0, 0, 0), (103, .bipush 37, 2, 0, 0, 37, 0), (105, .newarray .int, 2, 0, 0, 0, 0), (107, .putfield 51, 3, 8, 16, 0, 2), (110, .aload_n 0, 1, 0, 0, 0, 0), (111, .bipush 37, 2, 0, 0, 37, 0), (113, .newarray .int, 2, 0, 0, 0, 0), (115, .putfield 54, 3, 8, 17, 0, 2), (118, .aload_n 0, 1, 0, 0, 0, 0), (119, .bipush 37, 2, 0, 0, 37, 0), (121, .newarray .int, 2, 0, 0, 0, 0), (123, .putfield 57, 3, 8, 18, 0, 2), (126, .aload_n 0, 1, 0, 0, 0, 0), (127, .bipush 37, 2, 0, 0, 37, 0), (129, .newarray .int, 2, 0, 0, 0, 0), (131, .putfield 60, 3, 8, 19, 0, 2), (134, .aload_n 0, 1, 0, 0, 0, 0), (135, .bipush 37, 2, 0, 0, 37, 0), (137, .newarray .boolean, 2, 0, 0, 0, 0), (139, .putfield 63, 3, 8, 20, 0, 2), (142, .aload_n 0, 1, 0, 0, 0, 0), (143, .bipush 6, 2, 0, 0, 6, 0), (145, .newarray .int, 2, 0, 0, 0, 0), (147, .putfield 66, 3, 8, 21, 0, 2), (150, .aload_n 0, 1, 0, 0, 0, 0), (151, .bipush 64, 2, 0, 0, 64, 0), (153, .newarray .int, 2, 0, 0, 0, 0), (155, .putfield 69, 3, 8, 22, 0, 2), (158, .aload_n 0, 1, 0, 0, 0, 0), (159, .bipush 18, 2, 0, 0, 18, 0), (161, .newarray .int, 2, 0, 0, 0, 0), (163, .putfield 72, 3, 8, 23, 0, 2), (166, .aload_n 0, 1, 0, 0, 0, 0), (167, .bipush 24, 2, 0, 0, 24, 0), (169, .newarray .int, 2, 0, 0, 0, 0), (171, .putfield 75, 3, 8, 24, 0, 2), (174, .iconst 0, 1, 0, 0, 0, 0), (175, .istore_n 1, 1, 0, 0, 0, 0), (176, .iload_n 1, 1, 0, 0, 0, 0), (177, .bipush 36, 2, 0, 0, 36, 0), (179, .if_icmp .ge 25, 3, 0, 204, 0, 0), (182, .aload_n 0, 1, 0, 0, 0, 0), (183, .getfield 16, 3, 8, 3, 0, 2), (186, .iload_n 1, 1, 0, 0, 0, 0), (187, .bipush 6, 2, 0, 0, 6, 0), (189, .iastore, 1, 0, 0, 0, 0), (190, .aload_n 0, 1, 0, 0, 0, 0), (191, .getfield 20, 3, 8, 4, 0, 2), (194, .iload_n 1, 1, 0, 0, 0, 0), (195, .bipush 6, 2, 0, 0, 6, 0), (197, .iastore, 1, 0, 0, 0, 0), (198, .iinc 1 1, 3, 0, 0, 1, 0), (201, .goto (-25), 3, 0, 176, 0, 0), (204, .return_, 1, 0, 0, 0, 0)]
def mX8_init : Mt := (yX8_init, cX8_init, 2, none, TX8_init)
def TX8_in : List It := [(0, .lload_n 0, 1, 0, 0, 0, 0), (1, .lload_n 2, 1, 0, 0, 0, 0), (2, .lcmp, 1, 0, 0, 0, 0), (3, .ifCond .lt 14, 3, 0, 17, 0, 0), (6, .lload_n 0, 1, 0, 0, 0, 0), (7, .lload 4, 2, 0, 0, 0, 0), (9, .lcmp, 1, 0, 0, 0, 0), (10, .ifCond .gt 7, 3, 0, 17, 0, 0), (13, .iconst 1, 1, 0, 0, 1, 0), (14, .goto 4, 3, 0, 18, 0, 0), (17, .iconst 0, 1, 0, 0, 0, 0), (18, .ireturn, 1, 0, 0, 0, 0)]
def mX8_in : Mt := (yX8_in, cX8_in, 6, (some .boolean), TX8_in)
def TX8_size : List It := [(0, .iload_n 0, 1, 0, 0, 0, 0), (1, .ifCond .ge 8, 3, 0, 9, 0, 0), (4, .iload_n 0, 1, 0, 0, 0, 0), (5, .ineg, 1, 0, 0, 0, 0), (6, .goto 4, 3, 0, 10, 0, 0), (9, .iload_n 0, 1, 0, 0, 0, 0), (10, .ireturn, 1, 0, 0, 0, 0)]
def mX8_size : Mt := (yX8_size, cX8_size, 1, (some .int), TX8_size)
def TX8_noCell : List It := [(0, .iload_n 1, 1, 0, 0, 0, 0), (1, .i2l, 1, 0, 0, 0, 0), (2, .lconst 0, 1, 0, 0, 0, 0), (3, .aload_n 0, 1, 0, 0, 0, 0), (4, .getfield 7, 3, 8, 1, 0, 0), (7, .aload_n 0, 1, 0, 0, 0, 0), (8, .getfield 13, 3, 8, 2, 0, 0), (11, .imul, 1, 0, 0, 0, 0), (12, .iconst 1, 1, 0, 0, 1, 0), (13, .isub, 1, 0, 0, 0, 0), (14, .i2l, 1, 0, 0, 0, 0), (15, .invokestatic 81, 3, 0, 111, 0, 0), (18, .ifCond .ne 7, 3, 0, 25, 0, 0), (21, .iconst 1, 1, 0, 0, 1, 0), (22, .goto 4, 3, 0, 26, 0, 0), (25, .iconst 0, 1, 0, 0, 0, 0), (26, .ireturn, 1, 0, 0, 0, 0)]
def mX8_noCell : Mt := (yX8_noCell, cX8_noCell, 2, (some .boolean), TX8_noCell)
def TX8_noLand : List It := [(0, .iload_n 0, 1, 0, 0, 0, 0), (1, .i2l, 1, 0, 0, 0, 0), (2, .lconst 0, 1, 0, 0, 0, 0), (3, .ldc2_w 85, 3, 0, 0, 0, 5), (6, .invokestatic 81, 3, 0, 111, 0, 0), (9, .ifCond .ne 7, 3, 0, 16, 0, 0), (12, .iconst 1, 1, 0, 0, 1, 0), (13, .goto 4, 3, 0, 17, 0, 0), (16, .iconst 0, 1, 0, 0, 0, 0), (17, .ireturn, 1, 0, 0, 0, 0)]
def mX8_noLand : Mt := (yX8_noLand, cX8_noLand, 1, (some .boolean), TX8_noLand)
def TX8_field : List It := [(0, .aload_n 0, 1, 0, 0, 0, 0), (1, .iconst 0, 1, 0, 0, 0, 0), (2, .putfield 78, 3, 8, 0, 0, 0), (5, .iload_n 1, 1, 0, 0, 0, 0), (6, .i2l, 1, 0, 0, 0, 0), (7, .ldc2_w 87, 3, 0, 0, 0, 2), (10, .ldc2_w 89, 3, 0, 0, 0, 6), (13, .invokestatic 81, 3, 0, 111, 0, 0), (16, .ifCond .eq 17, 3, 0, 33, 0, 0), (19, .iload_n 2, 1, 0, 0, 0, 0), (20, .i2l, 1, 0, 0, 0, 0), (21, .ldc2_w 87, 3, 0, 0, 0, 2), (24, .ldc2_w 89, 3, 0, 0, 0, 6), (27, .invokestatic 81, 3, 0, 111, 0, 0), (30, .ifCond .ne 6, 3, 0, 36, 0, 0), (33, .bipush (-2), 2, 0, 0, (-2), 0), (35, .ireturn, 1, 0, 0, 0, 0), (36, .aload_n 0, 1, 0, 0, 0, 0), (37, .iload_n 1, 1, 0, 0, 0, 0), (38, .putfield 7, 3, 8, 1, 0, 0), (41, .aload_n 0, 1, 0, 0, 0, 0), (42, .iload_n 2, 1, 0, 0, 0, 0), (43, .putfield 13, 3, 8, 2, 0, 0), (46, .iconst 0, 1, 0, 0, 0, 0), (47, .istore_n 3, 1, 0, 0, 0, 0), (48, .iload_n 3, 1, 0, 0, 0, 0), (49, .bipush 36, 2, 0, 0, 36, 0), (51, .if_icmp .ge 25, 3, 0, 76, 0, 0), (54, .aload_n 0, 1, 0, 0, 0, 0), (55, .getfield 16, 3, 8, 3, 0, 2), (58, .iload_n 3, 1, 0, 0, 0, 0), (59, .bipush 6, 2, 0, 0, 6, 0), (61, .iastore, 1, 0, 0, 0, 0), (62, .aload_n 0, 1, 0, 0, 0, 0), (63, .getfield 20, 3, 8, 4, 0, 2), (66, .iload_n 3, 1, 0, 0, 0, 0), (67, .bipush 6, 2, 0, 0, 6, 0), (69, .iastore, 1, 0, 0, 0, 0), (70, .iinc 3 1, 3, 0, 0, 1, 0), (73, .goto (-25), 3, 0, 48, 0, 0), (76, .iload_n 1, 1, 0, 0, 0, 0), (77, .iload_n 2, 1, 0, 0, 0, 0), (78, .imul, 1, 0, 0, 0, 0), (79, .ireturn, 1, 0, 0, 0, 0)]
def mX8_field : Mt := (yX8_field, cX8_field, 4, (some .int), TX8_field)
def TX8_cellOf : List It := [(0, .iload_n 1, 1, 0, 0, 0, 0), (1, .ifCond .eq 12, 3, 0, 13, 0, 0), (4, .aload_n 0, 1, 0, 0, 0, 0), (5, .getfield 20, 3, 8, 4, 0, 2), (8, .iload_n 2, 1, 0, 0, 0, 0), (9, .iaload, 1, 0, 0, 0, 0), (10, .goto 9, 3, 0, 19, 0, 0), (13, .aload_n 0, 1, 0, 0, 0, 0), (14, .getfield 16, 3, 8, 3, 0, 2), (17, .iload_n 2, 1, 0, 0, 0, 0), (18, .iaload, 1, 0, 0, 0, 0), (19, .ireturn, 1, 0, 0, 0, 0)]
def mX8_cellOf : Mt := (yX8_cellOf, cX8_cellOf, 3, (some .int), TX8_cellOf)
def TX8_put : List It := [(0, .iload_n 1, 1, 0, 0, 0, 0), (1, .ifCond .eq 13, 3, 0, 14, 0, 0), (4, .aload_n 0, 1, 0, 0, 0, 0), (5, .getfield 20, 3, 8, 4, 0, 2), (8, .iload_n 2, 1, 0, 0, 0, 0), (9, .iload_n 3, 1, 0, 0, 0, 0), (10, .iastore, 1, 0, 0, 0, 0), (11, .goto 10, 3, 0, 21, 0, 0), (14, .aload_n 0, 1, 0, 0, 0, 0), (15, .getfield 16, 3, 8, 3, 0, 2), (18, .iload_n 2, 1, 0, 0, 0, 0), (19, .iload_n 3, 1, 0, 0, 0, 0), (20, .iastore, 1, 0, 0, 0, 0), (21, .return_, 1, 0, 0, 0, 0)]
def mX8_put : Mt := (yX8_put, cX8_put, 4, none, TX8_put)
def TX8_give : List It := [(0, .aload_n 0, 1, 0, 0, 0, 0), (1, .iconst 0, 1, 0, 0, 0, 0), (2, .putfield 78, 3, 8, 0, 0, 0), (5, .aload_n 0, 1, 0, 0, 0, 0), (6, .iload_n 2, 1, 0, 0, 0, 0), (7, .invokevirtual 91, 3, 0, 113, 0, 0), (10, .ifCond .ne 15, 3, 0, 25, 0, 0), (13, .iload_n 3, 1, 0, 0, 0, 0), (14, .i2l, 1, 0, 0, 0, 0), (15, .lconst 0, 1, 0, 0, 0, 0), (16, .ldc2_w 89, 3, 0, 0, 0, 6), (19, .invokestatic 81, 3, 0, 111, 0, 0), (22, .ifCond .ne 5, 3, 0, 27, 0, 0), (25, .iconst (-1), 1, 0, 0, (-1), 0), (26, .ireturn, 1, 0, 0, 0, 0), (27, .aload_n 0, 1, 0, 0, 0, 0), (28, .iload_n 1, 1, 0, 0, 0, 0), (29, .iload_n 2, 1, 0, 0, 0, 0), (30, .invokevirtual 95, 3, 0, 116, 0, 0), (33, .istore 4, 2, 0, 0, 0, 0), (35, .aload_n 0, 1, 0, 0, 0, 0), (36, .iload_n 1, 1, 0, 0, 0, 0), (37, .iload_n 2, 1, 0, 0, 0, 0), (38, .iload_n 3, 1, 0, 0, 0, 0), (39, .invokevirtual 99, 3, 0, 117, 0, 0), (42, .iload 4, 2, 0, 0, 0, 0), (44, .ireturn, 1, 0, 0, 0, 0)]
def mX8_give : Mt := (yX8_give, cX8_give, 5, (some .int), TX8_give)
def TX8_box : List It := [(0, .aload_n 0, 1, 0, 0, 0, 0), (1, .iconst 0, 1, 0, 0, 0, 0), (2, .putfield 78, 3, 8, 0, 0, 0), (5, .aload_n 0, 1, 0, 0, 0, 0), (6, .iload_n 2, 1, 0, 0, 0, 0), (7, .invokevirtual 91, 3, 0, 113, 0, 0), (10, .ifCond .ne 24, 3, 0, 34, 0, 0), (13, .aload_n 0, 1, 0, 0, 0, 0), (14, .iload_n 3, 1, 0, 0, 0, 0), (15, .invokevirtual 91, 3, 0, 113, 0, 0), (18, .ifCond .ne 16, 3, 0, 34, 0, 0), (21, .iload 4, 2, 0, 0, 0, 0), (23, .i2l, 1, 0, 0, 0, 0), (24, .lconst 0, 1, 0, 0, 0, 0), (25, .ldc2_w 89, 3, 0, 0, 0, 6), (28, .invokestatic 81, 3, 0, 111, 0, 0), (31, .ifCond .ne 5, 3, 0, 36, 0, 0), (34, .iconst (-1), 1, 0, 0, (-1), 0), (35, .ireturn, 1, 0, 0, 0, 0), (36, .iload_n 3, 1, 0, 0, 0, 0), (37, .aload_n 0, 1, 0, 0, 0, 0), (38, .getfield 7, 3, 8, 1, 0, 0), (41, .irem, 1, 0, 0, 0, 0), (42, .iload_n 2, 1, 0, 0, 0, 0), (43, .aload_n 0, 1, 0, 0, 0, 0), (44, .getfield 7, 3, 8, 1, 0, 0), (47, .irem, 1, 0, 0, 0, 0), (48, .if_icmp .lt 18, 3, 0, 66, 0, 0), (51, .iload_n 3, 1, 0, 0, 0, 0), (52, .aload_n 0, 1, 0, 0, 0, 0), (53, .getfield 7, 3, 8, 1, 0, 0), (56, .idiv, 1, 0, 0, 0, 0), (57, .iload_n 2, 1, 0, 0, 0, 0), (58, .aload_n 0, 1, 0, 0, 0, 0), (59, .getfield 7, 3, 8, 1, 0, 0), (62, .idiv, 1, 0, 0, 0, 0), (63, .if_icmp .ge 6, 3, 0, 69, 0, 0), (66, .bipush (-2), 2, 0, 0, (-2), 0), (68, .ireturn, 1, 0, 0, 0, 0), (69, .iconst 0, 1, 0, 0, 0, 0), (70, .istore 5, 2, 0, 0, 0, 0), (72, .iconst 0, 1, 0, 0, 0, 0), (73, .istore 6, 2, 0, 0, 0, 0), (75, .iload 6, 2, 0, 0, 0, 0), (77, .aload_n 0, 1, 0, 0, 0, 0), (78, .getfield 7, 3, 8, 1, 0, 0), (81, .aload_n 0, 1, 0, 0, 0, 0), (82, .getfield 13, 3, 8, 2, 0, 0), (85, .imul, 1, 0, 0, 0, 0), (86, .if_icmp .ge 96, 3, 0, 182, 0, 0), (89, .iload 6, 2, 0, 0, 0, 0), (91, .aload_n 0, 1, 0, 0, 0, 0), (92, .getfield 7, 3, 8, 1, 0, 0), (95, .irem, 1, 0, 0, 0, 0), (96, .i2l, 1, 0, 0, 0, 0), (97, .iload_n 2, 1, 0, 0, 0, 0), (98, .aload_n 0, 1, 0, 0, 0, 0), (99, .getfield 7, 3, 8, 1, 0, 0), (102, .irem, 1, 0, 0, 0, 0), (103, .i2l, 1, 0, 0, 0, 0), (104, .iload_n 3, 1, 0, 0, 0, 0), (105, .aload_n 0, 1, 0, 0, 0, 0), (106, .getfield 7, 3, 8, 1, 0, 0), (109, .irem, 1, 0, 0, 0, 0), (110, .i2l, 1, 0, 0, 0, 0), (111, .invokestatic 81, 3, 0, 111, 0, 0), (114, .ifCond .eq 62, 3, 0, 176, 0, 0), (117, .iload 6, 2, 0, 0, 0, 0), (119, .aload_n 0, 1, 0, 0, 0, 0), (120, .getfield 7, 3, 8, 1, 0, 0), (123, .idiv, 1, 0, 0, 0, 0), (124, .i2l, 1, 0, 0, 0, 0), (125, .iload_n 2, 1, 0, 0, 0, 0), (126, .aload_n 0, 1, 0, 0, 0, 0), (127, .getfield 7, 3, 8, 1, 0, 0), (130, .idiv, 1, 0, 0, 0, 0), (131, .i2l, 1, 0, 0, 0, 0), (132, .iload_n 3, 1, 0, 0, 0, 0), (133, .aload_n 0, 1, 0, 0, 0, 0), (134, .getfield 7, 3, 8, 1, 0, 0), (137, .idiv, 1, 0, 0, 0, 0), (138, .i2l, 1, 0, 0, 0, 0), (139, .invokestatic 81, 3, 0, 111, 0, 0), (142, .ifCond .eq 34, 3, 0, 176, 0, 0), (145, .iload 5, 2, 0, 0, 0, 0), (147, .aload_n 0, 1, 0, 0, 0, 0), (148, .iload_n 1, 1, 0, 0, 0, 0), (149, .iload 6, 2, 0, 0, 0, 0), (151, .invokevirtual 95, 3, 0, 116, 0, 0), (154, .iload 4, 2, 0, 0, 0, 0), (156, .if_icmp .ne 7, 3, 0, 163, 0, 0), (159, .iconst 0, 1, 0, 0, 0, 0), (160, .goto 4, 3, 0, 164, 0, 0), (163, .iconst 1, 1, 0, 0, 1, 0), (164, .iadd, 1, 0, 0, 0, 0), (165, .istore 5, 2, 0, 0, 0, 0), (167, .aload_n 0, 1, 0, 0, 0, 0), (168, .iload_n 1, 1, 0, 0, 0, 0), (169, .iload 6, 2, 0, 0, 0, 0), (171, .iload 4, 2, 0, 0, 0, 0), (173, .invokevirtual 99, 3, 0, 117, 0, 0), (176, .iinc 6 1, 3, 0, 0, 1, 0), (179, .goto (-104), 3, 0, 75, 0, 0), (182, .iload 5, 2, 0, 0, 0, 0), (184, .ireturn, 1, 0, 0, 0, 0)]
def mX8_box : Mt := (yX8_box, cX8_box, 7, (some .int), TX8_box)
def TX8_at : List It := [(0, .aload_n 0, 1, 0, 0, 0, 0), (1, .iconst 0, 1, 0, 0, 0, 0), (2, .putfield 78, 3, 8, 0, 0, 0), (5, .aload_n 0, 1, 0, 0, 0, 0), (6, .iload_n 2, 1, 0, 0, 0, 0), (7, .invokevirtual 91, 3, 0, 113, 0, 0), (10, .ifCond .eq 7, 3, 0, 17, 0, 0), (13, .iconst (-1), 1, 0, 0, (-1), 0), (14, .goto 9, 3, 0, 23, 0, 0), (17, .aload_n 0, 1, 0, 0, 0, 0), (18, .iload_n 1, 1, 0, 0, 0, 0), (19, .iload_n 2, 1, 0, 0, 0, 0), (20, .invokevirtual 95, 3, 0, 116, 0, 0), (23, .ireturn, 1, 0, 0, 0, 0)]
def mX8_at : Mt := (yX8_at, cX8_at, 3, (some .int), TX8_at)
def TX8_trace : List It := [(0, .aload_n 0, 1, 0, 0, 0, 0), (1, .iconst 0, 1, 0, 0, 0, 0), (2, .putfield 78, 3, 8, 0, 0, 0), (5, .iconst 0, 1, 0, 0, 0, 0), (6, .istore_n 1, 1, 0, 0, 0, 0), (7, .iconst 0, 1, 0, 0, 0, 0), (8, .istore_n 2, 1, 0, 0, 0, 0), (9, .iload_n 2, 1, 0, 0, 0, 0), (10, .aload_n 0, 1, 0, 0, 0, 0), (11, .getfield 7, 3, 8, 1, 0, 0), (14, .aload_n 0, 1, 0, 0, 0, 0), (15, .getfield 13, 3, 8, 2, 0, 0), (18, .imul, 1, 0, 0, 0, 0), (19, .if_icmp .ge 44, 3, 0, 63, 0, 0), (22, .iload_n 1, 1, 0, 0, 0, 0), (23, .aload_n 0, 1, 0, 0, 0, 0), (24, .getfield 16, 3, 8, 3, 0, 2), (27, .iload_n 2, 1, 0, 0, 0, 0), (28, .iaload, 1, 0, 0, 0, 0), (29, .aload_n 0, 1, 0, 0, 0, 0), (30, .getfield 20, 3, 8, 4, 0, 2), (33, .iload_n 2, 1, 0, 0, 0, 0), (34, .iaload, 1, 0, 0, 0, 0), (35, .if_icmp .ne 7, 3, 0, 42, 0, 0), (38, .iconst 0, 1, 0, 0, 0, 0), (39, .goto 4, 3, 0, 43, 0, 0), (42, .iconst 1, 1, 0, 0, 1, 0), (43, .iadd, 1, 0, 0, 0, 0), (44, .istore_n 1, 1, 0, 0, 0, 0), (45, .aload_n 0, 1, 0, 0, 0, 0), (46, .getfield 20, 3, 8, 4, 0, 2), (49, .iload_n 2, 1, 0, 0, 0, 0), (50, .aload_n 0, 1, 0, 0, 0, 0), (51, .getfield 16, 3, 8, 3, 0, 2), (54, .iload_n 2, 1, 0, 0, 0, 0), (55, .iaload, 1, 0, 0, 0, 0), (56, .iastore, 1, 0, 0, 0, 0), (57, .iinc 2 1, 3, 0, 0, 1, 0), (60, .goto (-51), 3, 0, 9, 0, 0), (63, .iload_n 1, 1, 0, 0, 0, 0), (64, .ireturn, 1, 0, 0, 0, 0)]
def mX8_trace : Mt := (yX8_trace, cX8_trace, 3, (some .int), TX8_trace)
def TX8_manyOf : List It := [(0, .iconst 0, 1, 0, 0, 0, 0), (1, .istore_n 3, 1, 0, 0, 0, 0), (2, .iconst 0, 1, 0, 0, 0, 0), (3, .istore 4, 2, 0, 0, 0, 0), (5, .iload 4, 2, 0, 0, 0, 0), (7, .aload_n 0, 1, 0, 0, 0, 0), (8, .getfield 7, 3, 8, 1, 0, 0), (11, .aload_n 0, 1, 0, 0, 0, 0), (12, .getfield 13, 3, 8, 2, 0, 0), (15, .imul, 1, 0, 0, 0, 0), (16, .if_icmp .ge 28, 3, 0, 44, 0, 0), (19, .iload_n 3, 1, 0, 0, 0, 0), (20, .aload_n 0, 1, 0, 0, 0, 0), (21, .iload_n 1, 1, 0, 0, 0, 0), (22, .iload 4, 2, 0, 0, 0, 0), (24, .invokevirtual 95, 3, 0, 116, 0, 0), (27, .iload_n 2, 1, 0, 0, 0, 0), (28, .if_icmp .ne 7, 3, 0, 35, 0, 0), (31, .iconst 1, 1, 0, 0, 1, 0), (32, .goto 4, 3, 0, 36, 0, 0), (35, .iconst 0, 1, 0, 0, 0, 0), (36, .iadd, 1, 0, 0, 0, 0), (37, .istore_n 3, 1, 0, 0, 0, 0), (38, .iinc 4 1, 3, 0, 0, 1, 0), (41, .goto (-36), 3, 0, 5, 0, 0), (44, .iload_n 3, 1, 0, 0, 0, 0), (45, .ireturn, 1, 0, 0, 0, 0)]
def mX8_manyOf : Mt := (yX8_manyOf, cX8_manyOf, 5, (some .int), TX8_manyOf)
def TX8_cells : List It := [(0, .aload_n 0, 1, 0, 0, 0, 0), (1, .iconst 0, 1, 0, 0, 0, 0), (2, .putfield 78, 3, 8, 0, 0, 0), (5, .iload_n 2, 1, 0, 0, 0, 0), (6, .invokestatic 103, 3, 0, 114, 0, 0), (9, .ifCond .eq 7, 3, 0, 16, 0, 0), (12, .iconst (-1), 1, 0, 0, (-1), 0), (13, .goto 9, 3, 0, 22, 0, 0), (16, .aload_n 0, 1, 0, 0, 0, 0), (17, .iload_n 1, 1, 0, 0, 0, 0), (18, .iload_n 2, 1, 0, 0, 0, 0), (19, .invokevirtual 106, 3, 0, 122, 0, 0), (22, .ireturn, 1, 0, 0, 0, 0)]
def mX8_cells : Mt := (yX8_cells, cX8_cells, 3, (some .int), TX8_cells)
def TX8_heads : List It := [(0, .aload_n 0, 1, 0, 0, 0, 0), (1, .iconst 0, 1, 0, 0, 0, 0), (2, .putfield 78, 3, 8, 0, 0, 0), (5, .iload_n 1, 1, 0, 0, 0, 0), (6, .invokestatic 103, 3, 0, 114, 0, 0), (9, .ifCond .eq 5, 3, 0, 14, 0, 0), (12, .iconst (-1), 1, 0, 0, (-1), 0), (13, .ireturn, 1, 0, 0, 0, 0), (14, .iload_n 2, 1, 0, 0, 0, 0), (15, .i2l, 1, 0, 0, 0, 0), (16, .lconst 0, 1, 0, 0, 0, 0), (17, .ldc2_w 109, 3, 0, 0, 0, 999), (20, .invokestatic 81, 3, 0, 111, 0, 0), (23, .ifCond .ne 6, 3, 0, 29, 0, 0), (26, .bipush (-2), 2, 0, 0, (-2), 0), (28, .ireturn, 1, 0, 0, 0, 0), (29, .aload_n 0, 1, 0, 0, 0, 0), (30, .getfield 23, 3, 8, 5, 0, 2), (33, .iload_n 1, 1, 0, 0, 0, 0), (34, .iaload, 1, 0, 0, 0, 0), (35, .istore_n 3, 1, 0, 0, 0, 0), (36, .aload_n 0, 1, 0, 0, 0, 0), (37, .getfield 23, 3, 8, 5, 0, 2), (40, .iload_n 1, 1, 0, 0, 0, 0), (41, .iload_n 2, 1, 0, 0, 0, 0), (42, .iastore, 1, 0, 0, 0, 0), (43, .iload_n 3, 1, 0, 0, 0, 0), (44, .ireturn, 1, 0, 0, 0, 0)]
def mX8_heads : Mt := (yX8_heads, cX8_heads, 4, (some .int), TX8_heads)
def TX8_way : List It := [(0, .aload_n 0, 1, 0, 0, 0, 0), (1, .iconst 0, 1, 0, 0, 0, 0), (2, .putfield 78, 3, 8, 0, 0, 0), (5, .iload_n 1, 1, 0, 0, 0, 0), (6, .i2l, 1, 0, 0, 0, 0), (7, .lconst 0, 1, 0, 0, 0, 0), (8, .ldc2_w 87, 3, 0, 0, 0, 2), (11, .invokestatic 81, 3, 0, 111, 0, 0), (14, .ifCond .ne 6, 3, 0, 20, 0, 0), (17, .bipush (-2), 2, 0, 0, (-2), 0), (19, .ireturn, 1, 0, 0, 0, 0), (20, .aload_n 0, 1, 0, 0, 0, 0), (21, .getfield 111, 3, 8, 6, 0, 0), (24, .istore_n 2, 1, 0, 0, 0, 0), (25, .aload_n 0, 1, 0, 0, 0, 0), (26, .iload_n 1, 1, 0, 0, 0, 0), (27, .putfield 111, 3, 8, 6, 0, 0), (30, .iload_n 2, 1, 0, 0, 0, 0), (31, .ireturn, 1, 0, 0, 0, 0)]
def mX8_way : Mt := (yX8_way, cX8_way, 3, (some .int), TX8_way)
def TX8_share : List It := [(0, .iconst 0, 1, 0, 0, 0, 0), (1, .istore_n 1, 1, 0, 0, 0, 0), (2, .iconst 0, 1, 0, 0, 0, 0), (3, .istore_n 2, 1, 0, 0, 0, 0), (4, .iload_n 2, 1, 0, 0, 0, 0), (5, .bipush 6, 2, 0, 0, 6, 0), (7, .if_icmp .ge 25, 3, 0, 32, 0, 0), (10, .iload_n 1, 1, 0, 0, 0, 0), (11, .aload_n 0, 1, 0, 0, 0, 0), (12, .getfield 23, 3, 8, 5, 0, 2), (15, .iload_n 2, 1, 0, 0, 0, 0), (16, .iaload, 1, 0, 0, 0, 0), (17, .iadd, 1, 0, 0, 0, 0), (18, .istore_n 1, 1, 0, 0, 0, 0), (19, .aload_n 0, 1, 0, 0, 0, 0), (20, .getfield 26, 3, 8, 7, 0, 2), (23, .iload_n 2, 1, 0, 0, 0, 0), (24, .iconst 0, 1, 0, 0, 0, 0), (25, .iastore, 1, 0, 0, 0, 0), (26, .iinc 2 1, 3, 0, 0, 1, 0), (29, .goto (-25), 3, 0, 4, 0, 0), (32, .iload_n 1, 1, 0, 0, 0, 0), (33, .ifCond .ne 4, 3, 0, 37, 0, 0), (36, .return_, 1, 0, 0, 0, 0), (37, .aload_n 0, 1, 0, 0, 0, 0), (38, .getfield 7, 3, 8, 1, 0, 0), (41, .aload_n 0, 1, 0, 0, 0, 0), (42, .getfield 13, 3, 8, 2, 0, 0), (45, .imul, 1, 0, 0, 0, 0), (46, .aload_n 0, 1, 0, 0, 0, 0), (47, .iconst 0, 1, 0, 0, 0, 0), (48, .bipush 6, 2, 0, 0, 6, 0), (50, .invokevirtual 106, 3, 0, 122, 0, 0), (53, .isub, 1, 0, 0, 0, 0), (54, .istore_n 2, 1, 0, 0, 0, 0), (55, .iload_n 2, 1, 0, 0, 0, 0), (56, .istore_n 3, 1, 0, 0, 0, 0), (57, .aload_n 0, 1, 0, 0, 0, 0), (58, .getfield 111, 3, 8, 6, 0, 0), (61, .ifCond .ne 47, 3, 0, 108, 0, 0), (64, .iconst 0, 1, 0, 0, 0, 0), (65, .istore 4, 2, 0, 0, 0, 0), (67, .iload 4, 2, 0, 0, 0, 0), (69, .bipush 6, 2, 0, 0, 6, 0), (71, .if_icmp .ge 37, 3, 0, 108, 0, 0), (74, .aload_n 0, 1, 0, 0, 0, 0), (75, .getfield 26, 3, 8, 7, 0, 2), (78, .iload 4, 2, 0, 0, 0, 0), (80, .aload_n 0, 1, 0, 0, 0, 0), (81, .getfield 23, 3, 8, 5, 0, 2), (84, .iload 4, 2, 0, 0, 0, 0), (86, .iaload, 1, 0, 0, 0, 0), (87, .iload_n 2, 1, 0, 0, 0, 0), (88, .imul, 1, 0, 0, 0, 0), (89, .iload_n 1, 1, 0, 0, 0, 0), (90, .idiv, 1, 0, 0, 0, 0), (91, .iastore, 1, 0, 0, 0, 0), (92, .iload_n 3, 1, 0, 0, 0, 0), (93, .aload_n 0, 1, 0, 0, 0, 0), (94, .getfield 26, 3, 8, 7, 0, 2), (97, .iload 4, 2, 0, 0, 0, 0), (99, .iaload, 1, 0, 0, 0, 0), (100, .isub, 1, 0, 0, 0, 0), (101, .istore_n 3, 1, 0, 0, 0, 0), (102, .iinc 4 1, 3, 0, 0, 1, 0), (105, .goto (-38), 3, 0, 67, 0, 0), (108, .iconst 0, 1, 0, 0, 0, 0), (109, .istore 4, 2, 0, 0, 0, 0), (111, .iconst 0, 1, 0, 0, 0, 0), (112, .istore 5, 2, 0, 0, 0, 0), (114, .iload 5, 2, 0, 0, 0, 0), (116, .iload_n 3, 1, 0, 0, 0, 0), (117, .if_icmp .ge 239, 3, 0, 356, 0, 0), (120, .bipush (-9), 2, 0, 0, (-9), 0), (122, .istore 6, 2, 0, 0, 0, 0), (124, .iconst 0, 1, 0, 0, 0, 0), (125, .istore 7, 2, 0, 0, 0, 0), (127, .iload 7, 2, 0, 0, 0, 0), (129, .bipush 6, 2, 0, 0, 6, 0), (131, .if_icmp .ge 199, 3, 0, 330, 0, 0), (134, .iconst 0, 1, 0, 0, 0, 0), (135, .istore 8, 2, 0, 0, 0, 0), (137, .aload_n 0, 1, 0, 0, 0, 0), (138, .getfield 111, 3, 8, 6, 0, 0), (141, .ifCond .ne 55, 3, 0, 196, 0, 0), (144, .iload 4, 2, 0, 0, 0, 0), (146, .iload 7, 2, 0, 0, 0, 0), (148, .ishr, 1, 0, 0, 0, 0), (149, .iconst 1, 1, 0, 0, 1, 0), (150, .iand, 1, 0, 0, 0, 0), (151, .ifCond .ne 39, 3, 0, 190, 0, 0), (154, .iload 6, 2, 0, 0, 0, 0), (156, .bipush (-9), 2, 0, 0, (-9), 0), (158, .if_icmp .eq 28, 3, 0, 186, 0, 0), (161, .aload_n 0, 1, 0, 0, 0, 0), (162, .getfield 23, 3, 8, 5, 0, 2), (165, .iload 7, 2, 0, 0, 0, 0), (167, .iaload, 1, 0, 0, 0, 0), (168, .iload_n 2, 1, 0, 0, 0, 0), (169, .imul, 1, 0, 0, 0, 0), (170, .iload_n 1, 1, 0, 0, 0, 0), (171, .irem, 1, 0, 0, 0, 0), (172, .aload_n 0, 1, 0, 0, 0, 0), (173, .getfield 23, 3, 8, 5, 0, 2), (176, .iload 6, 2, 0, 0, 0, 0), (178, .iaload, 1, 0, 0, 0, 0), (179, .iload_n 2, 1, 0, 0, 0, 0), (180, .imul, 1, 0, 0, 0, 0), (181, .iload_n 1, 1, 0, 0, 0, 0), (182, .irem, 1, 0, 0, 0, 0), (183, .if_icmp .le 7, 3, 0, 190, 0, 0), (186, .iconst 1, 1, 0, 0, 1, 0), (187, .goto 4, 3, 0, 191, 0, 0), (190, .iconst 0, 1, 0, 0, 0, 0), (191, .istore 8, 2, 0, 0, 0, 0), (193, .goto 117, 3, 0, 310, 0, 0), (196, .aload_n 0, 1, 0, 0, 0, 0), (197, .getfield 111, 3, 8, 6, 0, 0), (200, .iconst 1, 1, 0, 0, 1, 0), (201, .if_icmp .ne 15, 3, 0, 216, 0, 0), (204, .aload_n 0, 1, 0, 0, 0, 0), (205, .getfield 26, 3, 8, 7, 0, 2), (208, .iload 7, 2, 0, 0, 0, 0), (210, .iaload, 1, 0, 0, 0, 0), (211, .iconst 1, 1, 0, 0, 1, 0), (212, .iadd, 1, 0, 0, 0, 0), (213, .goto 14, 3, 0, 227, 0, 0), (216, .iconst 2, 1, 0, 0, 2, 0), (217, .aload_n 0, 1, 0, 0, 0, 0), (218, .getfield 26, 3, 8, 7, 0, 2), (221, .iload 7, 2, 0, 0, 0, 0), (223, .iaload, 1, 0, 0, 0, 0), (224, .imul, 1, 0, 0, 0, 0), (225, .iconst 1, 1, 0, 0, 1, 0), (226, .iadd, 1, 0, 0, 0, 0), (227, .istore 9, 2, 0, 0, 0, 0), (229, .iload 6, 2, 0, 0, 0, 0), (231, .bipush (-9), 2, 0, 0, (-9), 0), (233, .if_icmp .ne 7, 3, 0, 240, 0, 0), (236, .iconst 1, 1, 0, 0, 1, 0), (237, .goto 34, 3, 0, 271, 0, 0), (240, .aload_n 0, 1, 0, 0, 0, 0), (241, .getfield 111, 3, 8, 6, 0, 0), (244, .iconst 1, 1, 0, 0, 1, 0), (245, .if_icmp .ne 15, 3, 0, 260, 0, 0), (248, .aload_n 0, 1, 0, 0, 0, 0), (249, .getfield 26, 3, 8, 7, 0, 2), (252, .iload 6, 2, 0, 0, 0, 0), (254, .iaload, 1, 0, 0, 0, 0), (255, .iconst 1, 1, 0, 0, 1, 0), (256, .iadd, 1, 0, 0, 0, 0), (257, .goto 14, 3, 0, 271, 0, 0), (260, .iconst 2, 1, 0, 0, 2, 0), (261, .aload_n 0, 1, 0, 0, 0, 0), (262, .getfield 26, 3, 8, 7, 0, 2), (265, .iload 6, 2, 0, 0, 0, 0), (267, .iaload, 1, 0, 0, 0, 0), (268, .imul, 1, 0, 0, 0, 0), (269, .iconst 1, 1, 0, 0, 1, 0), (270, .iadd, 1, 0, 0, 0, 0), (271, .istore 10, 2, 0, 0, 0, 0), (273, .iload 6, 2, 0, 0, 0, 0), (275, .bipush (-9), 2, 0, 0, (-9), 0), (277, .if_icmp .eq 26, 3, 0, 303, 0, 0), (280, .aload_n 0, 1, 0, 0, 0, 0), (281, .getfield 23, 3, 8, 5, 0, 2), (284, .iload 7, 2, 0, 0, 0, 0), (286, .iaload, 1, 0, 0, 0, 0), (287, .iload 10, 2, 0, 0, 0, 0), (289, .imul, 1, 0, 0, 0, 0), (290, .aload_n 0, 1, 0, 0, 0, 0), (291, .getfield 23, 3, 8, 5, 0, 2), (294, .iload 6, 2, 0, 0, 0, 0), (296, .iaload, 1, 0, 0, 0, 0), (297, .iload 9, 2, 0, 0, 0, 0), (299, .imul, 1, 0, 0, 0, 0), (300, .if_icmp .le 7, 3, 0, 307, 0, 0), (303, .iconst 1, 1, 0, 0, 1, 0), (304, .goto 4, 3, 0, 308, 0, 0), (307, .iconst 0, 1, 0, 0, 0, 0), (308, .istore 8, 2, 0, 0, 0, 0), (310, .iload 8, 2, 0, 0, 0, 0), (312, .ifCond .eq 8, 3, 0, 320, 0, 0), (315, .iload 7, 2, 0, 0, 0, 0), (317, .goto 5, 3, 0, 322, 0, 0), (320, .iload 6, 2, 0, 0, 0, 0), (322, .istore 6, 2, 0, 0, 0, 0), (324, .iinc 7 1, 3, 0, 0, 1, 0), (327, .goto (-200), 3, 0, 127, 0, 0), (330, .aload_n 0, 1, 0, 0, 0, 0), (331, .getfield 26, 3, 8, 7, 0, 2), (334, .iload 6, 2, 0, 0, 0, 0), (336, .dup2, 1, 0, 0, 0, 0), (337, .iaload, 1, 0, 0, 0, 0), (338, .iconst 1, 1, 0, 0, 1, 0), (339, .iadd, 1, 0, 0, 0, 0), (340, .iastore, 1, 0, 0, 0, 0), (341, .iload 4, 2, 0, 0, 0, 0), (343, .iconst 1, 1, 0, 0, 1, 0), (344, .iload 6, 2, 0, 0, 0, 0), (346, .ishl, 1, 0, 0, 0, 0), (347, .ior, 1, 0, 0, 0, 0), (348, .istore 4, 2, 0, 0, 0, 0), (350, .iinc 5 1, 3, 0, 0, 1, 0), (353, .goto (-239), 3, 0, 114, 0, 0), (356, .return_, 1, 0, 0, 0, 0)]
def mX8_share : Mt := (yX8_share, cX8_share, 11, none, TX8_share)
def TX8_due : List It := [(0, .aload_n 0, 1, 0, 0, 0, 0), (1, .iconst 0, 1, 0, 0, 0, 0), (2, .putfield 78, 3, 8, 0, 0, 0), (5, .iload_n 1, 1, 0, 0, 0, 0), (6, .invokestatic 103, 3, 0, 114, 0, 0), (9, .ifCond .eq 5, 3, 0, 14, 0, 0), (12, .iconst (-1), 1, 0, 0, (-1), 0), (13, .ireturn, 1, 0, 0, 0, 0), (14, .aload_n 0, 1, 0, 0, 0, 0), (15, .invokevirtual 114, 3, 0, 126, 0, 0), (18, .aload_n 0, 1, 0, 0, 0, 0), (19, .getfield 26, 3, 8, 7, 0, 2), (22, .iload_n 1, 1, 0, 0, 0, 0), (23, .iaload, 1, 0, 0, 0, 0), (24, .ireturn, 1, 0, 0, 0, 0)]
def mX8_due : Mt := (yX8_due, cX8_due, 2, (some .int), TX8_due)
def TX8_isBeside : List It := [(0, .iload_n 1, 1, 0, 0, 0, 0), (1, .aload_n 0, 1, 0, 0, 0, 0), (2, .getfield 7, 3, 8, 1, 0, 0), (5, .irem, 1, 0, 0, 0, 0), (6, .iload_n 2, 1, 0, 0, 0, 0), (7, .aload_n 0, 1, 0, 0, 0, 0), (8, .getfield 7, 3, 8, 1, 0, 0), (11, .irem, 1, 0, 0, 0, 0), (12, .isub, 1, 0, 0, 0, 0), (13, .invokestatic 117, 3, 0, 112, 0, 0), (16, .iload_n 1, 1, 0, 0, 0, 0), (17, .aload_n 0, 1, 0, 0, 0, 0), (18, .getfield 7, 3, 8, 1, 0, 0), (21, .idiv, 1, 0, 0, 0, 0), (22, .iload_n 2, 1, 0, 0, 0, 0), (23, .aload_n 0, 1, 0, 0, 0, 0), (24, .getfield 7, 3, 8, 1, 0, 0), (27, .idiv, 1, 0, 0, 0, 0), (28, .isub, 1, 0, 0, 0, 0), (29, .invokestatic 117, 3, 0, 112, 0, 0), (32, .iadd, 1, 0, 0, 0, 0), (33, .iconst 1, 1, 0, 0, 1, 0), (34, .if_icmp .ne 7, 3, 0, 41, 0, 0), (37, .iconst 1, 1, 0, 0, 1, 0), (38, .goto 4, 3, 0, 42, 0, 0), (41, .iconst 0, 1, 0, 0, 0, 0), (42, .ireturn, 1, 0, 0, 0, 0)]
def mX8_isBeside : Mt := (yX8_isBeside, cX8_isBeside, 3, (some .boolean), TX8_isBeside)
def TX8_partsOf : List It := [(0, .iconst 0, 1, 0, 0, 0, 0), (1, .istore_n 2, 1, 0, 0, 0, 0), (2, .iload_n 2, 1, 0, 0, 0, 0), (3, .bipush 36, 2, 0, 0, 36, 0), (5, .if_icmp .ge 16, 3, 0, 21, 0, 0), (8, .aload_n 0, 1, 0, 0, 0, 0), (9, .getfield 29, 3, 8, 8, 0, 2), (12, .iload_n 2, 1, 0, 0, 0, 0), (13, .iconst 0, 1, 0, 0, 0, 0), (14, .bastore, 1, 0, 0, 0, 0), (15, .iinc 2 1, 3, 0, 0, 1, 0), (18, .goto (-16), 3, 0, 2, 0, 0), (21, .iconst 0, 1, 0, 0, 0, 0), (22, .istore_n 2, 1, 0, 0, 0, 0), (23, .iconst 0, 1, 0, 0, 0, 0), (24, .istore_n 3, 1, 0, 0, 0, 0), (25, .iload_n 3, 1, 0, 0, 0, 0), (26, .aload_n 0, 1, 0, 0, 0, 0), (27, .getfield 7, 3, 8, 1, 0, 0), (30, .aload_n 0, 1, 0, 0, 0, 0), (31, .getfield 13, 3, 8, 2, 0, 0), (34, .imul, 1, 0, 0, 0, 0), (35, .if_icmp .ge 144, 3, 0, 179, 0, 0), (38, .aload_n 0, 1, 0, 0, 0, 0), (39, .getfield 20, 3, 8, 4, 0, 2), (42, .iload_n 3, 1, 0, 0, 0, 0), (43, .iaload, 1, 0, 0, 0, 0), (44, .iload_n 1, 1, 0, 0, 0, 0), (45, .if_icmp .ne 128, 3, 0, 173, 0, 0), (48, .aload_n 0, 1, 0, 0, 0, 0), (49, .getfield 29, 3, 8, 8, 0, 2), (52, .iload_n 3, 1, 0, 0, 0, 0), (53, .baload, 1, 0, 0, 0, 0), (54, .ifCond .ne 119, 3, 0, 173, 0, 0), (57, .iinc 2 1, 3, 0, 0, 1, 0), (60, .aload_n 0, 1, 0, 0, 0, 0), (61, .getfield 29, 3, 8, 8, 0, 2), (64, .iload_n 3, 1, 0, 0, 0, 0), (65, .iconst 1, 1, 0, 0, 1, 0), (66, .bastore, 1, 0, 0, 0, 0), (67, .aload_n 0, 1, 0, 0, 0, 0), (68, .getfield 33, 3, 8, 9, 0, 2), (71, .iconst 0, 1, 0, 0, 0, 0), (72, .iload_n 3, 1, 0, 0, 0, 0), (73, .iastore, 1, 0, 0, 0, 0), (74, .iconst 1, 1, 0, 0, 1, 0), (75, .istore 4, 2, 0, 0, 0, 0), (77, .iconst 0, 1, 0, 0, 0, 0), (78, .istore 5, 2, 0, 0, 0, 0), (80, .iload 5, 2, 0, 0, 0, 0), (82, .iload 4, 2, 0, 0, 0, 0), (84, .if_icmp .ge 89, 3, 0, 173, 0, 0), (87, .iconst 0, 1, 0, 0, 0, 0), (88, .istore 6, 2, 0, 0, 0, 0), (90, .iload 6, 2, 0, 0, 0, 0), (92, .aload_n 0, 1, 0, 0, 0, 0), (93, .getfield 7, 3, 8, 1, 0, 0), (96, .aload_n 0, 1, 0, 0, 0, 0), (97, .getfield 13, 3, 8, 2, 0, 0), (100, .imul, 1, 0, 0, 0, 0), (101, .if_icmp .ge 66, 3, 0, 167, 0, 0), (104, .aload_n 0, 1, 0, 0, 0, 0), (105, .getfield 20, 3, 8, 4, 0, 2), (108, .iload 6, 2, 0, 0, 0, 0), (110, .iaload, 1, 0, 0, 0, 0), (111, .iload_n 1, 1, 0, 0, 0, 0), (112, .if_icmp .ne 49, 3, 0, 161, 0, 0), (115, .aload_n 0, 1, 0, 0, 0, 0), (116, .getfield 29, 3, 8, 8, 0, 2), (119, .iload 6, 2, 0, 0, 0, 0), (121, .baload, 1, 0, 0, 0, 0), (122, .ifCond .ne 39, 3, 0, 161, 0, 0), (125, .aload_n 0, 1, 0, 0, 0, 0), (126, .aload_n 0, 1, 0, 0, 0, 0), (127, .getfield 33, 3, 8, 9, 0, 2), (130, .iload 5, 2, 0, 0, 0, 0), (132, .iaload, 1, 0, 0, 0, 0), (133, .iload 6, 2, 0, 0, 0, 0), (135, .invokevirtual 121, 3, 0, 128, 0, 0), (138, .ifCond .eq 23, 3, 0, 161, 0, 0), (141, .aload_n 0, 1, 0, 0, 0, 0), (142, .getfield 29, 3, 8, 8, 0, 2), (145, .iload 6, 2, 0, 0, 0, 0), (147, .iconst 1, 1, 0, 0, 1, 0), (148, .bastore, 1, 0, 0, 0, 0), (149, .aload_n 0, 1, 0, 0, 0, 0), (150, .getfield 33, 3, 8, 9, 0, 2), (153, .iload 4, 2, 0, 0, 0, 0), (155, .iload 6, 2, 0, 0, 0, 0), (157, .iastore, 1, 0, 0, 0, 0), (158, .iinc 4 1, 3, 0, 0, 1, 0), (161, .iinc 6 1, 3, 0, 0, 1, 0), (164, .goto (-74), 3, 0, 90, 0, 0), (167, .iinc 5 1, 3, 0, 0, 1, 0), (170, .goto (-90), 3, 0, 80, 0, 0), (173, .iinc 3 1, 3, 0, 0, 1, 0), (176, .goto (-151), 3, 0, 25, 0, 0), (179, .iload_n 2, 1, 0, 0, 0, 0), (180, .ireturn, 1, 0, 0, 0, 0)]
def mX8_partsOf : Mt := (yX8_partsOf, cX8_partsOf, 7, (some .int), TX8_partsOf)
def TX8_parts : List It := [(0, .aload_n 0, 1, 0, 0, 0, 0), (1, .iconst 0, 1, 0, 0, 0, 0), (2, .putfield 78, 3, 8, 0, 0, 0), (5, .iload_n 1, 1, 0, 0, 0, 0), (6, .invokestatic 103, 3, 0, 114, 0, 0), (9, .ifCond .eq 7, 3, 0, 16, 0, 0), (12, .iconst (-1), 1, 0, 0, (-1), 0), (13, .goto 8, 3, 0, 21, 0, 0), (16, .aload_n 0, 1, 0, 0, 0, 0), (17, .iload_n 1, 1, 0, 0, 0, 0), (18, .invokevirtual 125, 3, 0, 129, 0, 0), (21, .ireturn, 1, 0, 0, 0, 0)]
def mX8_parts : Mt := (yX8_parts, cX8_parts, 2, (some .int), TX8_parts)
def TX8_touches : List It := [(0, .iconst 0, 1, 0, 0, 0, 0), (1, .istore 4, 2, 0, 0, 0, 0), (3, .iconst 0, 1, 0, 0, 0, 0), (4, .istore 5, 2, 0, 0, 0, 0), (6, .iload 5, 2, 0, 0, 0, 0), (8, .aload_n 0, 1, 0, 0, 0, 0), (9, .getfield 7, 3, 8, 1, 0, 0), (12, .aload_n 0, 1, 0, 0, 0, 0), (13, .getfield 13, 3, 8, 2, 0, 0), (16, .imul, 1, 0, 0, 0, 0), (17, .if_icmp .ge 42, 3, 0, 59, 0, 0), (20, .iload 4, 2, 0, 0, 0, 0), (22, .ifCond .ne 24, 3, 0, 46, 0, 0), (25, .aload_n 0, 1, 0, 0, 0, 0), (26, .iload_n 1, 1, 0, 0, 0, 0), (27, .iload 5, 2, 0, 0, 0, 0), (29, .invokevirtual 95, 3, 0, 116, 0, 0), (32, .iload_n 3, 1, 0, 0, 0, 0), (33, .if_icmp .ne 17, 3, 0, 50, 0, 0), (36, .aload_n 0, 1, 0, 0, 0, 0), (37, .iload_n 2, 1, 0, 0, 0, 0), (38, .iload 5, 2, 0, 0, 0, 0), (40, .invokevirtual 121, 3, 0, 128, 0, 0), (43, .ifCond .eq 7, 3, 0, 50, 0, 0), (46, .iconst 1, 1, 0, 0, 1, 0), (47, .goto 4, 3, 0, 51, 0, 0), (50, .iconst 0, 1, 0, 0, 0, 0), (51, .istore 4, 2, 0, 0, 0, 0), (53, .iinc 5 1, 3, 0, 0, 1, 0), (56, .goto (-50), 3, 0, 6, 0, 0), (59, .iload 4, 2, 0, 0, 0, 0), (61, .ireturn, 1, 0, 0, 0, 0)]
def mX8_touches : Mt := (yX8_touches, cX8_touches, 6, (some .boolean), TX8_touches)
def TX8_areBeside : List It := [(0, .iconst 0, 1, 0, 0, 0, 0), (1, .istore 4, 2, 0, 0, 0, 0), (3, .iconst 0, 1, 0, 0, 0, 0), (4, .istore 5, 2, 0, 0, 0, 0), (6, .iload 5, 2, 0, 0, 0, 0), (8, .aload_n 0, 1, 0, 0, 0, 0), (9, .getfield 7, 3, 8, 1, 0, 0), (12, .aload_n 0, 1, 0, 0, 0, 0), (13, .getfield 13, 3, 8, 2, 0, 0), (16, .imul, 1, 0, 0, 0, 0), (17, .if_icmp .ge 43, 3, 0, 60, 0, 0), (20, .iload 4, 2, 0, 0, 0, 0), (22, .ifCond .ne 25, 3, 0, 47, 0, 0), (25, .aload_n 0, 1, 0, 0, 0, 0), (26, .iload_n 1, 1, 0, 0, 0, 0), (27, .iload 5, 2, 0, 0, 0, 0), (29, .invokevirtual 95, 3, 0, 116, 0, 0), (32, .iload_n 2, 1, 0, 0, 0, 0), (33, .if_icmp .ne 18, 3, 0, 51, 0, 0), (36, .aload_n 0, 1, 0, 0, 0, 0), (37, .iload_n 1, 1, 0, 0, 0, 0), (38, .iload 5, 2, 0, 0, 0, 0), (40, .iload_n 3, 1, 0, 0, 0, 0), (41, .invokevirtual 128, 3, 0, 131, 0, 0), (44, .ifCond .eq 7, 3, 0, 51, 0, 0), (47, .iconst 1, 1, 0, 0, 1, 0), (48, .goto 4, 3, 0, 52, 0, 0), (51, .iconst 0, 1, 0, 0, 0, 0), (52, .istore 4, 2, 0, 0, 0, 0), (54, .iinc 5 1, 3, 0, 0, 1, 0), (57, .goto (-51), 3, 0, 6, 0, 0), (60, .iload 4, 2, 0, 0, 0, 0), (62, .ireturn, 1, 0, 0, 0, 0)]
def mX8_areBeside : Mt := (yX8_areBeside, cX8_areBeside, 6, (some .boolean), TX8_areBeside)
def TX8_beside : List It := [(0, .aload_n 0, 1, 0, 0, 0, 0), (1, .iconst 0, 1, 0, 0, 0, 0), (2, .putfield 78, 3, 8, 0, 0, 0), (5, .iload_n 2, 1, 0, 0, 0, 0), (6, .invokestatic 103, 3, 0, 114, 0, 0), (9, .ifCond .ne 10, 3, 0, 19, 0, 0), (12, .iload_n 3, 1, 0, 0, 0, 0), (13, .invokestatic 103, 3, 0, 114, 0, 0), (16, .ifCond .eq 5, 3, 0, 21, 0, 0), (19, .iconst (-1), 1, 0, 0, (-1), 0), (20, .ireturn, 1, 0, 0, 0, 0), (21, .iload_n 2, 1, 0, 0, 0, 0), (22, .iload_n 3, 1, 0, 0, 0, 0), (23, .if_icmp .ne 8, 3, 0, 31, 0, 0), (26, .bipush (-3), 2, 0, 0, (-3), 0), (28, .goto 18, 3, 0, 46, 0, 0), (31, .aload_n 0, 1, 0, 0, 0, 0), (32, .iload_n 1, 1, 0, 0, 0, 0), (33, .iload_n 2, 1, 0, 0, 0, 0), (34, .iload_n 3, 1, 0, 0, 0, 0), (35, .invokevirtual 132, 3, 0, 132, 0, 0), (38, .ifCond .eq 7, 3, 0, 45, 0, 0), (41, .iconst 1, 1, 0, 0, 1, 0), (42, .goto 4, 3, 0, 46, 0, 0), (45, .iconst 0, 1, 0, 0, 0, 0), (46, .ireturn, 1, 0, 0, 0, 0)]
def mX8_beside : Mt := (yX8_beside, cX8_beside, 4, (some .int), TX8_beside)
def TX8_allFaults : List It := [(0, .aload_n 0, 1, 0, 0, 0, 0), (1, .invokevirtual 114, 3, 0, 126, 0, 0), (4, .iconst 0, 1, 0, 0, 0, 0), (5, .istore_n 1, 1, 0, 0, 0, 0), (6, .iconst 0, 1, 0, 0, 0, 0), (7, .istore_n 2, 1, 0, 0, 0, 0), (8, .iload_n 2, 1, 0, 0, 0, 0), (9, .bipush 6, 2, 0, 0, 6, 0), (11, .if_icmp .ge 116, 3, 0, 127, 0, 0), (14, .aload_n 0, 1, 0, 0, 0, 0), (15, .iload_n 2, 1, 0, 0, 0, 0), (16, .invokevirtual 125, 3, 0, 129, 0, 0), (19, .istore_n 3, 1, 0, 0, 0, 0), (20, .iload_n 1, 1, 0, 0, 0, 0), (21, .aload_n 0, 1, 0, 0, 0, 0), (22, .iconst 1, 1, 0, 0, 1, 0), (23, .iload_n 2, 1, 0, 0, 0, 0), (24, .invokevirtual 106, 3, 0, 122, 0, 0), (27, .aload_n 0, 1, 0, 0, 0, 0), (28, .getfield 26, 3, 8, 7, 0, 2), (31, .iload_n 2, 1, 0, 0, 0, 0), (32, .iaload, 1, 0, 0, 0, 0), (33, .isub, 1, 0, 0, 0, 0), (34, .invokestatic 117, 3, 0, 112, 0, 0), (37, .iload_n 3, 1, 0, 0, 0, 0), (38, .iconst 1, 1, 0, 0, 1, 0), (39, .if_icmp .le 11, 3, 0, 50, 0, 0), (42, .iconst 3, 1, 0, 0, 3, 0), (43, .iload_n 3, 1, 0, 0, 0, 0), (44, .iconst 1, 1, 0, 0, 1, 0), (45, .isub, 1, 0, 0, 0, 0), (46, .imul, 1, 0, 0, 0, 0), (47, .goto 4, 3, 0, 51, 0, 0), (50, .iconst 0, 1, 0, 0, 0, 0), (51, .iadd, 1, 0, 0, 0, 0), (52, .iadd, 1, 0, 0, 0, 0), (53, .istore_n 1, 1, 0, 0, 0, 0), (54, .iconst 0, 1, 0, 0, 0, 0), (55, .istore 4, 2, 0, 0, 0, 0), (57, .iload 4, 2, 0, 0, 0, 0), (59, .iload_n 2, 1, 0, 0, 0, 0), (60, .if_icmp .ge 61, 3, 0, 121, 0, 0), (63, .aload_n 0, 1, 0, 0, 0, 0), (64, .iconst 0, 1, 0, 0, 0, 0), (65, .iload_n 2, 1, 0, 0, 0, 0), (66, .iload 4, 2, 0, 0, 0, 0), (68, .invokevirtual 132, 3, 0, 132, 0, 0), (71, .istore 5, 2, 0, 0, 0, 0), (73, .aload_n 0, 1, 0, 0, 0, 0), (74, .iconst 1, 1, 0, 0, 1, 0), (75, .iload_n 2, 1, 0, 0, 0, 0), (76, .iload 4, 2, 0, 0, 0, 0), (78, .invokevirtual 132, 3, 0, 132, 0, 0), (81, .istore 6, 2, 0, 0, 0, 0), (83, .iload_n 1, 1, 0, 0, 0, 0), (84, .iload 5, 2, 0, 0, 0, 0), (86, .ifCond .eq 12, 3, 0, 98, 0, 0), (89, .iload 6, 2, 0, 0, 0, 0), (91, .ifCond .ne 7, 3, 0, 98, 0, 0), (94, .iconst 2, 1, 0, 0, 2, 0), (95, .goto 18, 3, 0, 113, 0, 0), (98, .iload 6, 2, 0, 0, 0, 0), (100, .ifCond .eq 12, 3, 0, 112, 0, 0), (103, .iload 5, 2, 0, 0, 0, 0), (105, .ifCond .ne 7, 3, 0, 112, 0, 0), (108, .iconst 1, 1, 0, 0, 1, 0), (109, .goto 4, 3, 0, 113, 0, 0), (112, .iconst 0, 1, 0, 0, 0, 0), (113, .iadd, 1, 0, 0, 0, 0), (114, .istore_n 1, 1, 0, 0, 0, 0), (115, .iinc 4 1, 3, 0, 0, 1, 0), (118, .goto (-61), 3, 0, 57, 0, 0), (121, .iinc 2 1, 3, 0, 0, 1, 0), (124, .goto (-116), 3, 0, 8, 0, 0), (127, .iload_n 1, 1, 0, 0, 0, 0), (128, .ireturn, 1, 0, 0, 0, 0)]
def mX8_allFaults : Mt := (yX8_allFaults, cX8_allFaults, 7, (some .int), TX8_allFaults)
def TX8_faults : List It := [(0, .aload_n 0, 1, 0, 0, 0, 0), (1, .iconst 0, 1, 0, 0, 0, 0), (2, .putfield 78, 3, 8, 0, 0, 0), (5, .aload_n 0, 1, 0, 0, 0, 0), (6, .invokevirtual 135, 3, 0, 134, 0, 0), (9, .ireturn, 1, 0, 0, 0, 0)]
def mX8_faults : Mt := (yX8_faults, cX8_faults, 1, (some .int), TX8_faults)
def TX8_isChange : List It := [(0, .aload_n 0, 1, 0, 0, 0, 0), (1, .getfield 20, 3, 8, 4, 0, 2), (4, .iload_n 1, 1, 0, 0, 0, 0), (5, .iaload, 1, 0, 0, 0, 0), (6, .istore_n 3, 1, 0, 0, 0, 0), (7, .iload_n 3, 1, 0, 0, 0, 0), (8, .iload_n 2, 1, 0, 0, 0, 0), (9, .if_icmp .ne 5, 3, 0, 14, 0, 0), (12, .iconst 0, 1, 0, 0, 0, 0), (13, .ireturn, 1, 0, 0, 0, 0), (14, .iload_n 2, 1, 0, 0, 0, 0), (15, .bipush 6, 2, 0, 0, 6, 0), (17, .if_icmp .ne 5, 3, 0, 22, 0, 0), (20, .iconst 1, 1, 0, 0, 1, 0), (21, .ireturn, 1, 0, 0, 0, 0), (22, .aload_n 0, 1, 0, 0, 0, 0), (23, .iconst 1, 1, 0, 0, 1, 0), (24, .iload_n 1, 1, 0, 0, 0, 0), (25, .iload_n 2, 1, 0, 0, 0, 0), (26, .invokevirtual 128, 3, 0, 131, 0, 0), (29, .ifCond .ne 18, 3, 0, 47, 0, 0), (32, .iload_n 3, 1, 0, 0, 0, 0), (33, .bipush 6, 2, 0, 0, 6, 0), (35, .if_icmp .ne 16, 3, 0, 51, 0, 0), (38, .aload_n 0, 1, 0, 0, 0, 0), (39, .iconst 1, 1, 0, 0, 1, 0), (40, .iload_n 2, 1, 0, 0, 0, 0), (41, .invokevirtual 106, 3, 0, 122, 0, 0), (44, .ifCond .ne 7, 3, 0, 51, 0, 0), (47, .iconst 1, 1, 0, 0, 1, 0), (48, .goto 4, 3, 0, 52, 0, 0), (51, .iconst 0, 1, 0, 0, 0, 0), (52, .ireturn, 1, 0, 0, 0, 0)]
def mX8_isChange : Mt := (yX8_isChange, cX8_isChange, 4, (some .boolean), TX8_isChange)
def TX8_faultsBy : List It := [(0, .aload_n 0, 1, 0, 0, 0, 0), (1, .getfield 20, 3, 8, 4, 0, 2), (4, .iload_n 1, 1, 0, 0, 0, 0), (5, .iaload, 1, 0, 0, 0, 0), (6, .istore_n 3, 1, 0, 0, 0, 0), (7, .aload_n 0, 1, 0, 0, 0, 0), (8, .getfield 20, 3, 8, 4, 0, 2), (11, .iload_n 1, 1, 0, 0, 0, 0), (12, .iload_n 2, 1, 0, 0, 0, 0), (13, .iastore, 1, 0, 0, 0, 0), (14, .aload_n 0, 1, 0, 0, 0, 0), (15, .invokevirtual 135, 3, 0, 134, 0, 0), (18, .istore 4, 2, 0, 0, 0, 0), (20, .aload_n 0, 1, 0, 0, 0, 0), (21, .getfield 20, 3, 8, 4, 0, 2), (24, .iload_n 1, 1, 0, 0, 0, 0), (25, .iload_n 3, 1, 0, 0, 0, 0), (26, .iastore, 1, 0, 0, 0, 0), (27, .iload 4, 2, 0, 0, 0, 0), (29, .ireturn, 1, 0, 0, 0, 0)]
def mX8_faultsBy : Mt := (yX8_faultsBy, cX8_faultsBy, 5, (some .int), TX8_faultsBy)
def TX8_would : List It := [(0, .aload_n 0, 1, 0, 0, 0, 0), (1, .iconst 0, 1, 0, 0, 0, 0), (2, .putfield 78, 3, 8, 0, 0, 0), (5, .aload_n 0, 1, 0, 0, 0, 0), (6, .iload_n 1, 1, 0, 0, 0, 0), (7, .invokevirtual 91, 3, 0, 113, 0, 0), (10, .ifCond .ne 15, 3, 0, 25, 0, 0), (13, .iload_n 2, 1, 0, 0, 0, 0), (14, .i2l, 1, 0, 0, 0, 0), (15, .lconst 0, 1, 0, 0, 0, 0), (16, .ldc2_w 89, 3, 0, 0, 0, 6), (19, .invokestatic 81, 3, 0, 111, 0, 0), (22, .ifCond .ne 5, 3, 0, 27, 0, 0), (25, .iconst (-1), 1, 0, 0, (-1), 0), (26, .ireturn, 1, 0, 0, 0, 0), (27, .aload_n 0, 1, 0, 0, 0, 0), (28, .iload_n 1, 1, 0, 0, 0, 0), (29, .iload_n 2, 1, 0, 0, 0, 0), (30, .invokevirtual 139, 3, 0, 136, 0, 0), (33, .ifCond .eq 12, 3, 0, 45, 0, 0), (36, .aload_n 0, 1, 0, 0, 0, 0), (37, .iload_n 1, 1, 0, 0, 0, 0), (38, .iload_n 2, 1, 0, 0, 0, 0), (39, .invokevirtual 142, 3, 0, 137, 0, 0), (42, .goto 5, 3, 0, 47, 0, 0), (45, .bipush (-3), 2, 0, 0, (-3), 0), (47, .ireturn, 1, 0, 0, 0, 0)]
def mX8_would : Mt := (yX8_would, cX8_would, 3, (some .int), TX8_would)
def TX8_mend : List It := [(0, .aload_n 0, 1, 0, 0, 0, 0), (1, .iconst 0, 1, 0, 0, 0, 0), (2, .putfield 78, 3, 8, 0, 0, 0), (5, .aload_n 0, 1, 0, 0, 0, 0), (6, .invokevirtual 135, 3, 0, 134, 0, 0), (9, .istore_n 1, 1, 0, 0, 0, 0), (10, .bipush (-9), 2, 0, 0, (-9), 0), (12, .istore_n 2, 1, 0, 0, 0, 0), (13, .iconst 0, 1, 0, 0, 0, 0), (14, .istore_n 3, 1, 0, 0, 0, 0), (15, .iload_n 3, 1, 0, 0, 0, 0), (16, .aload_n 0, 1, 0, 0, 0, 0), (17, .getfield 7, 3, 8, 1, 0, 0), (20, .aload_n 0, 1, 0, 0, 0, 0), (21, .getfield 13, 3, 8, 2, 0, 0), (24, .imul, 1, 0, 0, 0, 0), (25, .if_icmp .ge 66, 3, 0, 91, 0, 0), (28, .iconst 0, 1, 0, 0, 0, 0), (29, .istore 4, 2, 0, 0, 0, 0), (31, .iload 4, 2, 0, 0, 0, 0), (33, .bipush 6, 2, 0, 0, 6, 0), (35, .if_icmp .gt 50, 3, 0, 85, 0, 0), (38, .aload_n 0, 1, 0, 0, 0, 0), (39, .iload_n 3, 1, 0, 0, 0, 0), (40, .iload 4, 2, 0, 0, 0, 0), (42, .invokevirtual 139, 3, 0, 136, 0, 0), (45, .ifCond .eq 13, 3, 0, 58, 0, 0), (48, .aload_n 0, 1, 0, 0, 0, 0), (49, .iload_n 3, 1, 0, 0, 0, 0), (50, .iload 4, 2, 0, 0, 0, 0), (52, .invokevirtual 142, 3, 0, 137, 0, 0), (55, .goto 5, 3, 0, 60, 0, 0), (58, .ldc 146, 2, 0, 0, 1000000000, 0), (60, .istore 5, 2, 0, 0, 0, 0), (62, .iload 5, 2, 0, 0, 0, 0), (64, .iload_n 1, 1, 0, 0, 0, 0), (65, .if_icmp .ge 14, 3, 0, 79, 0, 0), (68, .iload 5, 2, 0, 0, 0, 0), (70, .istore_n 1, 1, 0, 0, 0, 0), (71, .bipush 10, 2, 0, 0, 10, 0), (73, .iload_n 3, 1, 0, 0, 0, 0), (74, .imul, 1, 0, 0, 0, 0), (75, .iload 4, 2, 0, 0, 0, 0), (77, .iadd, 1, 0, 0, 0, 0), (78, .istore_n 2, 1, 0, 0, 0, 0), (79, .iinc 4 1, 3, 0, 0, 1, 0), (82, .goto (-51), 3, 0, 31, 0, 0), (85, .iinc 3 1, 3, 0, 0, 1, 0), (88, .goto (-73), 3, 0, 15, 0, 0), (91, .iload_n 2, 1, 0, 0, 0, 0), (92, .bipush (-9), 2, 0, 0, (-9), 0), (94, .if_icmp .eq 16, 3, 0, 110, 0, 0), (97, .aload_n 0, 1, 0, 0, 0, 0), (98, .getfield 20, 3, 8, 4, 0, 2), (101, .iload_n 2, 1, 0, 0, 0, 0), (102, .bipush 10, 2, 0, 0, 10, 0), (104, .idiv, 1, 0, 0, 0, 0), (105, .iload_n 2, 1, 0, 0, 0, 0), (106, .bipush 10, 2, 0, 0, 10, 0), (108, .irem, 1, 0, 0, 0, 0), (109, .iastore, 1, 0, 0, 0, 0), (110, .iload_n 2, 1, 0, 0, 0, 0), (111, .ireturn, 1, 0, 0, 0, 0)]
def mX8_mend : Mt := (yX8_mend, cX8_mend, 6, (some .int), TX8_mend)
def TX8_may : List It := [(0, .aload_n 0, 1, 0, 0, 0, 0), (1, .getfield 20, 3, 8, 4, 0, 2), (4, .iload_n 1, 1, 0, 0, 0, 0), (5, .iaload, 1, 0, 0, 0, 0), (6, .istore_n 3, 1, 0, 0, 0, 0), (7, .iload_n 3, 1, 0, 0, 0, 0), (8, .bipush 6, 2, 0, 0, 6, 0), (10, .if_icmp .eq 28, 3, 0, 38, 0, 0), (13, .iload_n 3, 1, 0, 0, 0, 0), (14, .iload_n 2, 1, 0, 0, 0, 0), (15, .if_icmp .eq 23, 3, 0, 38, 0, 0), (18, .aload_n 0, 1, 0, 0, 0, 0), (19, .iconst 1, 1, 0, 0, 1, 0), (20, .iload_n 1, 1, 0, 0, 0, 0), (21, .iload_n 2, 1, 0, 0, 0, 0), (22, .invokevirtual 128, 3, 0, 131, 0, 0), (25, .ifCond .eq 13, 3, 0, 38, 0, 0), (28, .aload_n 0, 1, 0, 0, 0, 0), (29, .iconst 1, 1, 0, 0, 1, 0), (30, .iload_n 3, 1, 0, 0, 0, 0), (31, .invokevirtual 106, 3, 0, 122, 0, 0), (34, .iconst 2, 1, 0, 0, 2, 0), (35, .if_icmp .ge 5, 3, 0, 40, 0, 0), (38, .iconst 0, 1, 0, 0, 0, 0), (39, .ireturn, 1, 0, 0, 0, 0), (40, .aload_n 0, 1, 0, 0, 0, 0), (41, .iload_n 3, 1, 0, 0, 0, 0), (42, .invokevirtual 125, 3, 0, 129, 0, 0), (45, .istore 4, 2, 0, 0, 0, 0), (47, .aload_n 0, 1, 0, 0, 0, 0), (48, .getfield 20, 3, 8, 4, 0, 2), (51, .iload_n 1, 1, 0, 0, 0, 0), (52, .iload_n 2, 1, 0, 0, 0, 0), (53, .iastore, 1, 0, 0, 0, 0), (54, .aload_n 0, 1, 0, 0, 0, 0), (55, .iload_n 3, 1, 0, 0, 0, 0), (56, .invokevirtual 125, 3, 0, 129, 0, 0), (59, .istore 5, 2, 0, 0, 0, 0), (61, .aload_n 0, 1, 0, 0, 0, 0), (62, .getfield 20, 3, 8, 4, 0, 2), (65, .iload_n 1, 1, 0, 0, 0, 0), (66, .iload_n 3, 1, 0, 0, 0, 0), (67, .iastore, 1, 0, 0, 0, 0), (68, .iload 5, 2, 0, 0, 0, 0), (70, .iload 4, 2, 0, 0, 0, 0), (72, .if_icmp .gt 7, 3, 0, 79, 0, 0), (75, .iconst 1, 1, 0, 0, 1, 0), (76, .goto 4, 3, 0, 80, 0, 0), (79, .iconst 0, 1, 0, 0, 0, 0), (80, .ireturn, 1, 0, 0, 0, 0)]
def mX8_may : Mt := (yX8_may, cX8_may, 6, (some .boolean), TX8_may)
def TX8_mayHand : List It := [(0, .aload_n 0, 1, 0, 0, 0, 0), (1, .iconst 0, 1, 0, 0, 0, 0), (2, .putfield 78, 3, 8, 0, 0, 0), (5, .aload_n 0, 1, 0, 0, 0, 0), (6, .iload_n 1, 1, 0, 0, 0, 0), (7, .invokevirtual 91, 3, 0, 113, 0, 0), (10, .ifCond .ne 10, 3, 0, 20, 0, 0), (13, .iload_n 2, 1, 0, 0, 0, 0), (14, .invokestatic 103, 3, 0, 114, 0, 0), (17, .ifCond .eq 7, 3, 0, 24, 0, 0), (20, .iconst (-1), 1, 0, 0, (-1), 0), (21, .goto 17, 3, 0, 38, 0, 0), (24, .aload_n 0, 1, 0, 0, 0, 0), (25, .iload_n 1, 1, 0, 0, 0, 0), (26, .iload_n 2, 1, 0, 0, 0, 0), (27, .invokevirtual 147, 3, 0, 140, 0, 0), (30, .ifCond .eq 7, 3, 0, 37, 0, 0), (33, .iconst 1, 1, 0, 0, 1, 0), (34, .goto 4, 3, 0, 38, 0, 0), (37, .iconst 0, 1, 0, 0, 0, 0), (38, .ireturn, 1, 0, 0, 0, 0)]
def mX8_mayHand : Mt := (yX8_mayHand, cX8_mayHand, 3, (some .int), TX8_mayHand)
def TX8_hand : List It := [(0, .aload_n 0, 1, 0, 0, 0, 0), (1, .iconst 0, 1, 0, 0, 0, 0), (2, .putfield 78, 3, 8, 0, 0, 0), (5, .aload_n 0, 1, 0, 0, 0, 0), (6, .iload_n 1, 1, 0, 0, 0, 0), (7, .invokevirtual 91, 3, 0, 113, 0, 0), (10, .ifCond .ne 10, 3, 0, 20, 0, 0), (13, .iload_n 2, 1, 0, 0, 0, 0), (14, .invokestatic 103, 3, 0, 114, 0, 0), (17, .ifCond .eq 5, 3, 0, 22, 0, 0), (20, .iconst (-1), 1, 0, 0, (-1), 0), (21, .ireturn, 1, 0, 0, 0, 0), (22, .aload_n 0, 1, 0, 0, 0, 0), (23, .iload_n 1, 1, 0, 0, 0, 0), (24, .iload_n 2, 1, 0, 0, 0, 0), (25, .invokevirtual 147, 3, 0, 140, 0, 0), (28, .ifCond .ne 6, 3, 0, 34, 0, 0), (31, .bipush (-3), 2, 0, 0, (-3), 0), (33, .ireturn, 1, 0, 0, 0, 0), (34, .aload_n 0, 1, 0, 0, 0, 0), (35, .getfield 20, 3, 8, 4, 0, 2), (38, .iload_n 1, 1, 0, 0, 0, 0), (39, .iaload, 1, 0, 0, 0, 0), (40, .istore_n 3, 1, 0, 0, 0, 0), (41, .aload_n 0, 1, 0, 0, 0, 0), (42, .getfield 20, 3, 8, 4, 0, 2), (45, .iload_n 1, 1, 0, 0, 0, 0), (46, .iload_n 2, 1, 0, 0, 0, 0), (47, .iastore, 1, 0, 0, 0, 0), (48, .iload_n 3, 1, 0, 0, 0, 0), (49, .ireturn, 1, 0, 0, 0, 0)]
def mX8_hand : Mt := (yX8_hand, cX8_hand, 4, (some .int), TX8_hand)
def TX8_leastTo : List It := [(0, .iconst 0, 1, 0, 0, 0, 0), (1, .istore_n 3, 1, 0, 0, 0, 0), (2, .iload_n 3, 1, 0, 0, 0, 0), (3, .aload_n 0, 1, 0, 0, 0, 0), (4, .getfield 7, 3, 8, 1, 0, 0), (7, .aload_n 0, 1, 0, 0, 0, 0), (8, .getfield 13, 3, 8, 2, 0, 0), (11, .imul, 1, 0, 0, 0, 0), (12, .if_icmp .ge 30, 3, 0, 42, 0, 0), (15, .aload_n 0, 1, 0, 0, 0, 0), (16, .getfield 20, 3, 8, 4, 0, 2), (19, .iload_n 3, 1, 0, 0, 0, 0), (20, .iaload, 1, 0, 0, 0, 0), (21, .iload_n 1, 1, 0, 0, 0, 0), (22, .if_icmp .ne 14, 3, 0, 36, 0, 0), (25, .aload_n 0, 1, 0, 0, 0, 0), (26, .iload_n 3, 1, 0, 0, 0, 0), (27, .iload_n 2, 1, 0, 0, 0, 0), (28, .invokevirtual 147, 3, 0, 140, 0, 0), (31, .ifCond .eq 5, 3, 0, 36, 0, 0), (34, .iload_n 3, 1, 0, 0, 0, 0), (35, .ireturn, 1, 0, 0, 0, 0), (36, .iinc 3 1, 3, 0, 0, 1, 0), (39, .goto (-37), 3, 0, 2, 0, 0), (42, .bipush (-9), 2, 0, 0, (-9), 0), (44, .ireturn, 1, 0, 0, 0, 0)]
def mX8_leastTo : Mt := (yX8_leastTo, cX8_leastTo, 4, (some .int), TX8_leastTo)
def TX8_linked : List It := [(0, .aload_n 0, 1, 0, 0, 0, 0), (1, .invokevirtual 114, 3, 0, 126, 0, 0), (4, .iconst 0, 1, 0, 0, 0, 0), (5, .istore_n 1, 1, 0, 0, 0, 0), (6, .iload_n 1, 1, 0, 0, 0, 0), (7, .bipush 6, 2, 0, 0, 6, 0), (9, .if_icmp .ge 55, 3, 0, 64, 0, 0), (12, .iconst 0, 1, 0, 0, 0, 0), (13, .istore_n 2, 1, 0, 0, 0, 0), (14, .iload_n 2, 1, 0, 0, 0, 0), (15, .bipush 6, 2, 0, 0, 6, 0), (17, .if_icmp .ge 41, 3, 0, 58, 0, 0), (20, .aload_n 0, 1, 0, 0, 0, 0), (21, .getfield 36, 3, 8, 10, 0, 2), (24, .bipush 6, 2, 0, 0, 6, 0), (26, .iload_n 1, 1, 0, 0, 0, 0), (27, .imul, 1, 0, 0, 0, 0), (28, .iload_n 2, 1, 0, 0, 0, 0), (29, .iadd, 1, 0, 0, 0, 0), (30, .iload_n 1, 1, 0, 0, 0, 0), (31, .iload_n 2, 1, 0, 0, 0, 0), (32, .if_icmp .eq 18, 3, 0, 50, 0, 0), (35, .aload_n 0, 1, 0, 0, 0, 0), (36, .iload_n 1, 1, 0, 0, 0, 0), (37, .iload_n 2, 1, 0, 0, 0, 0), (38, .invokevirtual 150, 3, 0, 143, 0, 0), (41, .bipush (-9), 2, 0, 0, (-9), 0), (43, .if_icmp .eq 7, 3, 0, 50, 0, 0), (46, .iconst 1, 1, 0, 0, 1, 0), (47, .goto 4, 3, 0, 51, 0, 0), (50, .iconst 0, 1, 0, 0, 0, 0), (51, .bastore, 1, 0, 0, 0, 0), (52, .iinc 2 1, 3, 0, 0, 1, 0), (55, .goto (-41), 3, 0, 14, 0, 0), (58, .iinc 1 1, 3, 0, 0, 1, 0), (61, .goto (-55), 3, 0, 6, 0, 0), (64, .iconst 0, 1, 0, 0, 0, 0), (65, .istore_n 1, 1, 0, 0, 0, 0), (66, .iload_n 1, 1, 0, 0, 0, 0), (67, .bipush 6, 2, 0, 0, 6, 0), (69, .if_icmp .ge 36, 3, 0, 105, 0, 0), (72, .aload_n 0, 1, 0, 0, 0, 0), (73, .getfield 57, 3, 8, 18, 0, 2), (76, .iload_n 1, 1, 0, 0, 0, 0), (77, .aload_n 0, 1, 0, 0, 0, 0), (78, .iconst 1, 1, 0, 0, 1, 0), (79, .iload_n 1, 1, 0, 0, 0, 0), (80, .invokevirtual 106, 3, 0, 122, 0, 0), (83, .aload_n 0, 1, 0, 0, 0, 0), (84, .getfield 26, 3, 8, 7, 0, 2), (87, .iload_n 1, 1, 0, 0, 0, 0), (88, .iaload, 1, 0, 0, 0, 0), (89, .if_icmp .ge 7, 3, 0, 96, 0, 0), (92, .iconst 1, 1, 0, 0, 1, 0), (93, .goto 5, 3, 0, 98, 0, 0), (96, .ldc 146, 2, 0, 0, 1000000000, 0), (98, .iastore, 1, 0, 0, 0, 0), (99, .iinc 1 1, 3, 0, 0, 1, 0), (102, .goto (-36), 3, 0, 66, 0, 0), (105, .iconst 0, 1, 0, 0, 0, 0), (106, .istore_n 1, 1, 0, 0, 0, 0), (107, .iload_n 1, 1, 0, 0, 0, 0), (108, .bipush 6, 2, 0, 0, 6, 0), (110, .if_icmp .ge 91, 3, 0, 201, 0, 0), (113, .iconst 0, 1, 0, 0, 0, 0), (114, .istore_n 2, 1, 0, 0, 0, 0), (115, .iload_n 2, 1, 0, 0, 0, 0), (116, .bipush 6, 2, 0, 0, 6, 0), (118, .if_icmp .ge 77, 3, 0, 195, 0, 0), (121, .iconst 0, 1, 0, 0, 0, 0), (122, .istore_n 3, 1, 0, 0, 0, 0), (123, .iload_n 3, 1, 0, 0, 0, 0), (124, .bipush 6, 2, 0, 0, 6, 0), (126, .if_icmp .ge 63, 3, 0, 189, 0, 0), (129, .aload_n 0, 1, 0, 0, 0, 0), (130, .getfield 57, 3, 8, 18, 0, 2), (133, .iload_n 2, 1, 0, 0, 0, 0), (134, .aload_n 0, 1, 0, 0, 0, 0), (135, .getfield 36, 3, 8, 10, 0, 2), (138, .bipush 6, 2, 0, 0, 6, 0), (140, .iload_n 2, 1, 0, 0, 0, 0), (141, .imul, 1, 0, 0, 0, 0), (142, .iload_n 3, 1, 0, 0, 0, 0), (143, .iadd, 1, 0, 0, 0, 0), (144, .baload, 1, 0, 0, 0, 0), (145, .ifCond .eq 31, 3, 0, 176, 0, 0), (148, .aload_n 0, 1, 0, 0, 0, 0), (149, .getfield 57, 3, 8, 18, 0, 2), (152, .iload_n 3, 1, 0, 0, 0, 0), (153, .iaload, 1, 0, 0, 0, 0), (154, .iconst 1, 1, 0, 0, 1, 0), (155, .iadd, 1, 0, 0, 0, 0), (156, .aload_n 0, 1, 0, 0, 0, 0), (157, .getfield 57, 3, 8, 18, 0, 2), (160, .iload_n 2, 1, 0, 0, 0, 0), (161, .iaload, 1, 0, 0, 0, 0), (162, .if_icmp .ge 14, 3, 0, 176, 0, 0), (165, .aload_n 0, 1, 0, 0, 0, 0), (166, .getfield 57, 3, 8, 18, 0, 2), (169, .iload_n 3, 1, 0, 0, 0, 0), (170, .iaload, 1, 0, 0, 0, 0), (171, .iconst 1, 1, 0, 0, 1, 0), (172, .iadd, 1, 0, 0, 0, 0), (173, .goto 9, 3, 0, 182, 0, 0), (176, .aload_n 0, 1, 0, 0, 0, 0), (177, .getfield 57, 3, 8, 18, 0, 2), (180, .iload_n 2, 1, 0, 0, 0, 0), (181, .iaload, 1, 0, 0, 0, 0), (182, .iastore, 1, 0, 0, 0, 0), (183, .iinc 3 1, 3, 0, 0, 1, 0), (186, .goto (-63), 3, 0, 123, 0, 0), (189, .iinc 2 1, 3, 0, 0, 1, 0), (192, .goto (-77), 3, 0, 115, 0, 0), (195, .iinc 1 1, 3, 0, 0, 1, 0), (198, .goto (-91), 3, 0, 107, 0, 0), (201, .bipush (-9), 2, 0, 0, (-9), 0), (203, .istore_n 1, 1, 0, 0, 0, 0), (204, .iconst 5, 1, 0, 0, 5, 0), (205, .istore_n 2, 1, 0, 0, 0, 0), (206, .iload_n 2, 1, 0, 0, 0, 0), (207, .ifCond .lt 72, 3, 0, 279, 0, 0), (210, .aload_n 0, 1, 0, 0, 0, 0), (211, .iconst 1, 1, 0, 0, 1, 0), (212, .iload_n 2, 1, 0, 0, 0, 0), (213, .invokevirtual 106, 3, 0, 122, 0, 0), (216, .aload_n 0, 1, 0, 0, 0, 0), (217, .getfield 26, 3, 8, 7, 0, 2), (220, .iload_n 2, 1, 0, 0, 0, 0), (221, .iaload, 1, 0, 0, 0, 0), (222, .if_icmp .le 18, 3, 0, 240, 0, 0), (225, .aload_n 0, 1, 0, 0, 0, 0), (226, .getfield 57, 3, 8, 18, 0, 2), (229, .iload_n 2, 1, 0, 0, 0, 0), (230, .iaload, 1, 0, 0, 0, 0), (231, .ldc 146, 2, 0, 0, 1000000000, 0), (233, .if_icmp .ge 7, 3, 0, 240, 0, 0), (236, .iconst 1, 1, 0, 0, 1, 0), (237, .goto 4, 3, 0, 241, 0, 0), (240, .iconst 0, 1, 0, 0, 0, 0), (241, .istore_n 3, 1, 0, 0, 0, 0), (242, .iload_n 3, 1, 0, 0, 0, 0), (243, .ifCond .eq 28, 3, 0, 271, 0, 0), (246, .iload_n 1, 1, 0, 0, 0, 0), (247, .bipush (-9), 2, 0, 0, (-9), 0), (249, .if_icmp .eq 18, 3, 0, 267, 0, 0), (252, .aload_n 0, 1, 0, 0, 0, 0), (253, .getfield 57, 3, 8, 18, 0, 2), (256, .iload_n 2, 1, 0, 0, 0, 0), (257, .iaload, 1, 0, 0, 0, 0), (258, .aload_n 0, 1, 0, 0, 0, 0), (259, .getfield 57, 3, 8, 18, 0, 2), (262, .iload_n 1, 1, 0, 0, 0, 0), (263, .iaload, 1, 0, 0, 0, 0), (264, .if_icmp .gt 7, 3, 0, 271, 0, 0), (267, .iload_n 2, 1, 0, 0, 0, 0), (268, .goto 4, 3, 0, 272, 0, 0), (271, .iload_n 1, 1, 0, 0, 0, 0), (272, .istore_n 1, 1, 0, 0, 0, 0), (273, .iinc 2 (-1), 3, 0, 0, (-1), 0), (276, .goto (-70), 3, 0, 206, 0, 0), (279, .aload_n 0, 1, 0, 0, 0, 0), (280, .iconst 0, 1, 0, 0, 0, 0), (281, .putfield 153, 3, 8, 12, 0, 0), (284, .iload_n 1, 1, 0, 0, 0, 0), (285, .bipush (-9), 2, 0, 0, (-9), 0), (287, .if_icmp .ne 5, 3, 0, 292, 0, 0), (290, .iconst 0, 1, 0, 0, 0, 0), (291, .ireturn, 1, 0, 0, 0, 0), (292, .aload_n 0, 1, 0, 0, 0, 0), (293, .getfield 39, 3, 8, 11, 0, 2), (296, .iconst 0, 1, 0, 0, 0, 0), (297, .iload_n 1, 1, 0, 0, 0, 0), (298, .iastore, 1, 0, 0, 0, 0), (299, .aload_n 0, 1, 0, 0, 0, 0), (300, .iconst 1, 1, 0, 0, 1, 0), (301, .putfield 153, 3, 8, 12, 0, 0), (304, .aload_n 0, 1, 0, 0, 0, 0), (305, .getfield 57, 3, 8, 18, 0, 2), (308, .iload_n 1, 1, 0, 0, 0, 0), (309, .iaload, 1, 0, 0, 0, 0), (310, .iconst 1, 1, 0, 0, 1, 0), (311, .if_icmp .le 80, 3, 0, 391, 0, 0), (314, .bipush (-9), 2, 0, 0, (-9), 0), (316, .istore_n 2, 1, 0, 0, 0, 0), (317, .iconst 5, 1, 0, 0, 5, 0), (318, .istore_n 3, 1, 0, 0, 0, 0), (319, .iload_n 3, 1, 0, 0, 0, 0), (320, .ifCond .lt 46, 3, 0, 366, 0, 0), (323, .aload_n 0, 1, 0, 0, 0, 0), (324, .getfield 36, 3, 8, 10, 0, 2), (327, .bipush 6, 2, 0, 0, 6, 0), (329, .iload_n 1, 1, 0, 0, 0, 0), (330, .imul, 1, 0, 0, 0, 0), (331, .iload_n 3, 1, 0, 0, 0, 0), (332, .iadd, 1, 0, 0, 0, 0), (333, .baload, 1, 0, 0, 0, 0), (334, .ifCond .eq 24, 3, 0, 358, 0, 0), (337, .aload_n 0, 1, 0, 0, 0, 0), (338, .getfield 57, 3, 8, 18, 0, 2), (341, .iload_n 3, 1, 0, 0, 0, 0), (342, .iaload, 1, 0, 0, 0, 0), (343, .aload_n 0, 1, 0, 0, 0, 0), (344, .getfield 57, 3, 8, 18, 0, 2), (347, .iload_n 1, 1, 0, 0, 0, 0), (348, .iaload, 1, 0, 0, 0, 0), (349, .iconst 1, 1, 0, 0, 1, 0), (350, .isub, 1, 0, 0, 0, 0), (351, .if_icmp .ne 7, 3, 0, 358, 0, 0), (354, .iload_n 3, 1, 0, 0, 0, 0), (355, .goto 4, 3, 0, 359, 0, 0), (358, .iload_n 2, 1, 0, 0, 0, 0), (359, .istore_n 2, 1, 0, 0, 0, 0), (360, .iinc 3 (-1), 3, 0, 0, (-1), 0), (363, .goto (-44), 3, 0, 319, 0, 0), (366, .iload_n 2, 1, 0, 0, 0, 0), (367, .istore_n 1, 1, 0, 0, 0, 0), (368, .aload_n 0, 1, 0, 0, 0, 0), (369, .getfield 39, 3, 8, 11, 0, 2), (372, .aload_n 0, 1, 0, 0, 0, 0), (373, .getfield 153, 3, 8, 12, 0, 0), (376, .iload_n 1, 1, 0, 0, 0, 0), (377, .iastore, 1, 0, 0, 0, 0), (378, .aload_n 0, 1, 0, 0, 0, 0), (379, .dup, 1, 0, 0, 0, 0), (380, .getfield 153, 3, 8, 12, 0, 0), (383, .iconst 1, 1, 0, 0, 1, 0), (384, .iadd, 1, 0, 0, 0, 0), (385, .putfield 153, 3, 8, 12, 0, 0), (388, .goto (-84), 3, 0, 304, 0, 0), (391, .iconst 1, 1, 0, 0, 1, 0), (392, .ireturn, 1, 0, 0, 0, 0)]
def mX8_linked : Mt := (yX8_linked, cX8_linked, 4, (some .boolean), TX8_linked)
def TX8_chain : List It := [(0, .aload_n 0, 1, 0, 0, 0, 0), (1, .iconst 0, 1, 0, 0, 0, 0), (2, .putfield 78, 3, 8, 0, 0, 0), (5, .aload_n 0, 1, 0, 0, 0, 0), (6, .invokevirtual 156, 3, 0, 144, 0, 0), (9, .ifCond .eq 10, 3, 0, 19, 0, 0), (12, .aload_n 0, 1, 0, 0, 0, 0), (13, .getfield 153, 3, 8, 12, 0, 0), (16, .goto 5, 3, 0, 21, 0, 0), (19, .bipush (-9), 2, 0, 0, (-9), 0), (21, .ireturn, 1, 0, 0, 0, 0)]
def mX8_chain : Mt := (yX8_chain, cX8_chain, 1, (some .int), TX8_chain)
def TX8_link : List It := [(0, .aload_n 0, 1, 0, 0, 0, 0), (1, .iconst 0, 1, 0, 0, 0, 0), (2, .putfield 78, 3, 8, 0, 0, 0), (5, .aload_n 0, 1, 0, 0, 0, 0), (6, .invokevirtual 156, 3, 0, 144, 0, 0), (9, .ifCond .eq 28, 3, 0, 37, 0, 0), (12, .iload_n 1, 1, 0, 0, 0, 0), (13, .i2l, 1, 0, 0, 0, 0), (14, .lconst 0, 1, 0, 0, 0, 0), (15, .aload_n 0, 1, 0, 0, 0, 0), (16, .getfield 153, 3, 8, 12, 0, 0), (19, .iconst 1, 1, 0, 0, 1, 0), (20, .isub, 1, 0, 0, 0, 0), (21, .i2l, 1, 0, 0, 0, 0), (22, .invokestatic 81, 3, 0, 111, 0, 0), (25, .ifCond .eq 12, 3, 0, 37, 0, 0), (28, .aload_n 0, 1, 0, 0, 0, 0), (29, .getfield 39, 3, 8, 11, 0, 2), (32, .iload_n 1, 1, 0, 0, 0, 0), (33, .iaload, 1, 0, 0, 0, 0), (34, .goto 5, 3, 0, 39, 0, 0), (37, .bipush (-9), 2, 0, 0, (-9), 0), (39, .ireturn, 1, 0, 0, 0, 0)]
def mX8_link : Mt := (yX8_link, cX8_link, 2, (some .int), TX8_link)
def TX8_passOn : List It := [(0, .iconst 0, 1, 0, 0, 0, 0), (1, .istore_n 1, 1, 0, 0, 0, 0), (2, .iconst 1, 1, 0, 0, 1, 0), (3, .istore_n 2, 1, 0, 0, 0, 0), (4, .aload_n 0, 1, 0, 0, 0, 0), (5, .getfield 153, 3, 8, 12, 0, 0), (8, .iconst 2, 1, 0, 0, 2, 0), (9, .isub, 1, 0, 0, 0, 0), (10, .istore_n 3, 1, 0, 0, 0, 0), (11, .iload_n 3, 1, 0, 0, 0, 0), (12, .ifCond .lt 68, 3, 0, 80, 0, 0), (15, .iload_n 2, 1, 0, 0, 0, 0), (16, .ifCond .eq 64, 3, 0, 80, 0, 0), (19, .aload_n 0, 1, 0, 0, 0, 0), (20, .aload_n 0, 1, 0, 0, 0, 0), (21, .getfield 39, 3, 8, 11, 0, 2), (24, .iload_n 3, 1, 0, 0, 0, 0), (25, .iaload, 1, 0, 0, 0, 0), (26, .aload_n 0, 1, 0, 0, 0, 0), (27, .getfield 39, 3, 8, 11, 0, 2), (30, .iload_n 3, 1, 0, 0, 0, 0), (31, .iconst 1, 1, 0, 0, 1, 0), (32, .iadd, 1, 0, 0, 0, 0), (33, .iaload, 1, 0, 0, 0, 0), (34, .invokevirtual 150, 3, 0, 143, 0, 0), (37, .istore 4, 2, 0, 0, 0, 0), (39, .iload 4, 2, 0, 0, 0, 0), (41, .bipush (-9), 2, 0, 0, (-9), 0), (43, .if_icmp .eq 7, 3, 0, 50, 0, 0), (46, .iconst 1, 1, 0, 0, 1, 0), (47, .goto 4, 3, 0, 51, 0, 0), (50, .iconst 0, 1, 0, 0, 0, 0), (51, .istore_n 2, 1, 0, 0, 0, 0), (52, .iload_n 2, 1, 0, 0, 0, 0), (53, .ifCond .eq 21, 3, 0, 74, 0, 0), (56, .aload_n 0, 1, 0, 0, 0, 0), (57, .getfield 20, 3, 8, 4, 0, 2), (60, .iload 4, 2, 0, 0, 0, 0), (62, .aload_n 0, 1, 0, 0, 0, 0), (63, .getfield 39, 3, 8, 11, 0, 2), (66, .iload_n 3, 1, 0, 0, 0, 0), (67, .iconst 1, 1, 0, 0, 1, 0), (68, .iadd, 1, 0, 0, 0, 0), (69, .iaload, 1, 0, 0, 0, 0), (70, .iastore, 1, 0, 0, 0, 0), (71, .iinc 1 1, 3, 0, 0, 1, 0), (74, .iinc 3 (-1), 3, 0, 0, (-1), 0), (77, .goto (-66), 3, 0, 11, 0, 0), (80, .iload_n 1, 1, 0, 0, 0, 0), (81, .ireturn, 1, 0, 0, 0, 0)]
def mX8_passOn : Mt := (yX8_passOn, cX8_passOn, 5, (some .int), TX8_passOn)
def TX8_pass : List It := [(0, .aload_n 0, 1, 0, 0, 0, 0), (1, .iconst 0, 1, 0, 0, 0, 0), (2, .putfield 78, 3, 8, 0, 0, 0), (5, .aload_n 0, 1, 0, 0, 0, 0), (6, .invokevirtual 156, 3, 0, 144, 0, 0), (9, .ifCond .eq 10, 3, 0, 19, 0, 0), (12, .aload_n 0, 1, 0, 0, 0, 0), (13, .invokevirtual 160, 3, 0, 147, 0, 0), (16, .goto 5, 3, 0, 21, 0, 0), (19, .bipush (-3), 2, 0, 0, (-3), 0), (21, .ireturn, 1, 0, 0, 0, 0)]
def mX8_pass : Mt := (yX8_pass, cX8_pass, 1, (some .int), TX8_pass)
def TX8_settle : List It := [(0, .aload_n 0, 1, 0, 0, 0, 0), (1, .iconst 0, 1, 0, 0, 0, 0), (2, .putfield 78, 3, 8, 0, 0, 0), (5, .iconst 0, 1, 0, 0, 0, 0), (6, .istore_n 1, 1, 0, 0, 0, 0), (7, .iload_n 1, 1, 0, 0, 0, 0), (8, .bipush 40, 2, 0, 0, 40, 0), (10, .if_icmp .ge 21, 3, 0, 31, 0, 0), (13, .aload_n 0, 1, 0, 0, 0, 0), (14, .invokevirtual 156, 3, 0, 144, 0, 0), (17, .ifCond .eq 14, 3, 0, 31, 0, 0), (20, .aload_n 0, 1, 0, 0, 0, 0), (21, .invokevirtual 160, 3, 0, 147, 0, 0), (24, .pop, 1, 0, 0, 0, 0), (25, .iinc 1 1, 3, 0, 0, 1, 0), (28, .goto (-21), 3, 0, 7, 0, 0), (31, .iload_n 1, 1, 0, 0, 0, 0), (32, .ireturn, 1, 0, 0, 0, 0)]
def mX8_settle : Mt := (yX8_settle, cX8_settle, 2, (some .int), TX8_settle)
def TX8_changed : List It := [(0, .aload_n 0, 1, 0, 0, 0, 0), (1, .iconst 0, 1, 0, 0, 0, 0), (2, .putfield 78, 3, 8, 0, 0, 0), (5, .iconst 0, 1, 0, 0, 0, 0), (6, .istore_n 1, 1, 0, 0, 0, 0), (7, .iconst 0, 1, 0, 0, 0, 0), (8, .istore_n 2, 1, 0, 0, 0, 0), (9, .iload_n 2, 1, 0, 0, 0, 0), (10, .aload_n 0, 1, 0, 0, 0, 0), (11, .getfield 7, 3, 8, 1, 0, 0), (14, .aload_n 0, 1, 0, 0, 0, 0), (15, .getfield 13, 3, 8, 2, 0, 0), (18, .imul, 1, 0, 0, 0, 0), (19, .if_icmp .ge 43, 3, 0, 62, 0, 0), (22, .iload_n 1, 1, 0, 0, 0, 0), (23, .aload_n 0, 1, 0, 0, 0, 0), (24, .getfield 16, 3, 8, 3, 0, 2), (27, .iload_n 2, 1, 0, 0, 0, 0), (28, .iaload, 1, 0, 0, 0, 0), (29, .bipush 6, 2, 0, 0, 6, 0), (31, .if_icmp .eq 22, 3, 0, 53, 0, 0), (34, .aload_n 0, 1, 0, 0, 0, 0), (35, .getfield 16, 3, 8, 3, 0, 2), (38, .iload_n 2, 1, 0, 0, 0, 0), (39, .iaload, 1, 0, 0, 0, 0), (40, .aload_n 0, 1, 0, 0, 0, 0), (41, .getfield 20, 3, 8, 4, 0, 2), (44, .iload_n 2, 1, 0, 0, 0, 0), (45, .iaload, 1, 0, 0, 0, 0), (46, .if_icmp .eq 7, 3, 0, 53, 0, 0), (49, .iconst 1, 1, 0, 0, 1, 0), (50, .goto 4, 3, 0, 54, 0, 0), (53, .iconst 0, 1, 0, 0, 0, 0), (54, .iadd, 1, 0, 0, 0, 0), (55, .istore_n 1, 1, 0, 0, 0, 0), (56, .iinc 2 1, 3, 0, 0, 1, 0), (59, .goto (-50), 3, 0, 9, 0, 0), (62, .iload_n 1, 1, 0, 0, 0, 0), (63, .ireturn, 1, 0, 0, 0, 0)]
def mX8_changed : Mt := (yX8_changed, cX8_changed, 3, (some .int), TX8_changed)
def TX8_steps : List It := [(0, .iload_n 1, 1, 0, 0, 0, 0), (1, .aload_n 0, 1, 0, 0, 0, 0), (2, .getfield 7, 3, 8, 1, 0, 0), (5, .irem, 1, 0, 0, 0, 0), (6, .iload_n 2, 1, 0, 0, 0, 0), (7, .aload_n 0, 1, 0, 0, 0, 0), (8, .getfield 7, 3, 8, 1, 0, 0), (11, .irem, 1, 0, 0, 0, 0), (12, .isub, 1, 0, 0, 0, 0), (13, .invokestatic 117, 3, 0, 112, 0, 0), (16, .iload_n 1, 1, 0, 0, 0, 0), (17, .aload_n 0, 1, 0, 0, 0, 0), (18, .getfield 7, 3, 8, 1, 0, 0), (21, .idiv, 1, 0, 0, 0, 0), (22, .iload_n 2, 1, 0, 0, 0, 0), (23, .aload_n 0, 1, 0, 0, 0, 0), (24, .getfield 7, 3, 8, 1, 0, 0), (27, .idiv, 1, 0, 0, 0, 0), (28, .isub, 1, 0, 0, 0, 0), (29, .invokestatic 117, 3, 0, 112, 0, 0), (32, .iadd, 1, 0, 0, 0, 0), (33, .ireturn, 1, 0, 0, 0, 0)]
def mX8_steps : Mt := (yX8_steps, cX8_steps, 3, (some .int), TX8_steps)
def TX8_assign : List It := [(0, .iconst 0, 1, 0, 0, 0, 0), (1, .istore_n 2, 1, 0, 0, 0, 0), (2, .iload_n 2, 1, 0, 0, 0, 0), (3, .iload_n 1, 1, 0, 0, 0, 0), (4, .if_icmp .gt 30, 3, 0, 34, 0, 0), (7, .aload_n 0, 1, 0, 0, 0, 0), (8, .getfield 48, 3, 8, 15, 0, 2), (11, .iload_n 2, 1, 0, 0, 0, 0), (12, .iconst 0, 1, 0, 0, 0, 0), (13, .iastore, 1, 0, 0, 0, 0), (14, .aload_n 0, 1, 0, 0, 0, 0), (15, .getfield 51, 3, 8, 16, 0, 2), (18, .iload_n 2, 1, 0, 0, 0, 0), (19, .iconst 0, 1, 0, 0, 0, 0), (20, .iastore, 1, 0, 0, 0, 0), (21, .aload_n 0, 1, 0, 0, 0, 0), (22, .getfield 54, 3, 8, 17, 0, 2), (25, .iload_n 2, 1, 0, 0, 0, 0), (26, .iconst 0, 1, 0, 0, 0, 0), (27, .iastore, 1, 0, 0, 0, 0), (28, .iinc 2 1, 3, 0, 0, 1, 0), (31, .goto (-29), 3, 0, 2, 0, 0), (34, .iconst 1, 1, 0, 0, 1, 0), (35, .istore_n 2, 1, 0, 0, 0, 0), (36, .iload_n 2, 1, 0, 0, 0, 0), (37, .iload_n 1, 1, 0, 0, 0, 0), (38, .if_icmp .gt 299, 3, 0, 337, 0, 0), (41, .aload_n 0, 1, 0, 0, 0, 0), (42, .getfield 54, 3, 8, 17, 0, 2), (45, .iconst 0, 1, 0, 0, 0, 0), (46, .iload_n 2, 1, 0, 0, 0, 0), (47, .iastore, 1, 0, 0, 0, 0), (48, .iconst 0, 1, 0, 0, 0, 0), (49, .istore_n 3, 1, 0, 0, 0, 0), (50, .iconst 0, 1, 0, 0, 0, 0), (51, .istore 4, 2, 0, 0, 0, 0), (53, .iload 4, 2, 0, 0, 0, 0), (55, .iload_n 1, 1, 0, 0, 0, 0), (56, .if_icmp .gt 26, 3, 0, 82, 0, 0), (59, .aload_n 0, 1, 0, 0, 0, 0), (60, .getfield 57, 3, 8, 18, 0, 2), (63, .iload 4, 2, 0, 0, 0, 0), (65, .ldc 146, 2, 0, 0, 1000000000, 0), (67, .iastore, 1, 0, 0, 0, 0), (68, .aload_n 0, 1, 0, 0, 0, 0), (69, .getfield 63, 3, 8, 20, 0, 2), (72, .iload 4, 2, 0, 0, 0, 0), (74, .iconst 0, 1, 0, 0, 0, 0), (75, .bastore, 1, 0, 0, 0, 0), (76, .iinc 4 1, 3, 0, 0, 1, 0), (79, .goto (-26), 3, 0, 53, 0, 0), (82, .aload_n 0, 1, 0, 0, 0, 0), (83, .getfield 63, 3, 8, 20, 0, 2), (86, .iload_n 3, 1, 0, 0, 0, 0), (87, .iconst 1, 1, 0, 0, 1, 0), (88, .bastore, 1, 0, 0, 0, 0), (89, .aload_n 0, 1, 0, 0, 0, 0), (90, .getfield 54, 3, 8, 17, 0, 2), (93, .iload_n 3, 1, 0, 0, 0, 0), (94, .iaload, 1, 0, 0, 0, 0), (95, .istore 4, 2, 0, 0, 0, 0), (97, .ldc 146, 2, 0, 0, 1000000000, 0), (99, .istore 5, 2, 0, 0, 0, 0), (101, .iconst 0, 1, 0, 0, 0, 0), (102, .istore 6, 2, 0, 0, 0, 0), (104, .iconst 1, 1, 0, 0, 1, 0), (105, .istore 7, 2, 0, 0, 0, 0), (107, .iload 7, 2, 0, 0, 0, 0), (109, .iload_n 1, 1, 0, 0, 0, 0), (110, .if_icmp .gt 109, 3, 0, 219, 0, 0), (113, .aload_n 0, 1, 0, 0, 0, 0), (114, .getfield 63, 3, 8, 20, 0, 2), (117, .iload 7, 2, 0, 0, 0, 0), (119, .baload, 1, 0, 0, 0, 0), (120, .ifCond .ne 93, 3, 0, 213, 0, 0), (123, .aload_n 0, 1, 0, 0, 0, 0), (124, .aload_n 0, 1, 0, 0, 0, 0), (125, .getfield 42, 3, 8, 13, 0, 2), (128, .iload 4, 2, 0, 0, 0, 0), (130, .iaload, 1, 0, 0, 0, 0), (131, .aload_n 0, 1, 0, 0, 0, 0), (132, .getfield 45, 3, 8, 14, 0, 2), (135, .iload 7, 2, 0, 0, 0, 0), (137, .iaload, 1, 0, 0, 0, 0), (138, .invokevirtual 163, 3, 0, 151, 0, 0), (141, .aload_n 0, 1, 0, 0, 0, 0), (142, .getfield 48, 3, 8, 15, 0, 2), (145, .iload 4, 2, 0, 0, 0, 0), (147, .iaload, 1, 0, 0, 0, 0), (148, .isub, 1, 0, 0, 0, 0), (149, .aload_n 0, 1, 0, 0, 0, 0), (150, .getfield 51, 3, 8, 16, 0, 2), (153, .iload 7, 2, 0, 0, 0, 0), (155, .iaload, 1, 0, 0, 0, 0), (156, .isub, 1, 0, 0, 0, 0), (157, .istore 8, 2, 0, 0, 0, 0), (159, .iload 8, 2, 0, 0, 0, 0), (161, .aload_n 0, 1, 0, 0, 0, 0), (162, .getfield 57, 3, 8, 18, 0, 2), (165, .iload 7, 2, 0, 0, 0, 0), (167, .iaload, 1, 0, 0, 0, 0), (168, .if_icmp .ge 20, 3, 0, 188, 0, 0), (171, .aload_n 0, 1, 0, 0, 0, 0), (172, .getfield 57, 3, 8, 18, 0, 2), (175, .iload 7, 2, 0, 0, 0, 0), (177, .iload 8, 2, 0, 0, 0, 0), (179, .iastore, 1, 0, 0, 0, 0), (180, .aload_n 0, 1, 0, 0, 0, 0), (181, .getfield 60, 3, 8, 19, 0, 2), (184, .iload 7, 2, 0, 0, 0, 0), (186, .iload_n 3, 1, 0, 0, 0, 0), (187, .iastore, 1, 0, 0, 0, 0), (188, .aload_n 0, 1, 0, 0, 0, 0), (189, .getfield 57, 3, 8, 18, 0, 2), (192, .iload 7, 2, 0, 0, 0, 0), (194, .iaload, 1, 0, 0, 0, 0), (195, .iload 5, 2, 0, 0, 0, 0), (197, .if_icmp .ge 16, 3, 0, 213, 0, 0), (200, .aload_n 0, 1, 0, 0, 0, 0), (201, .getfield 57, 3, 8, 18, 0, 2), (204, .iload 7, 2, 0, 0, 0, 0), (206, .iaload, 1, 0, 0, 0, 0), (207, .istore 5, 2, 0, 0, 0, 0), (209, .iload 7, 2, 0, 0, 0, 0), (211, .istore 6, 2, 0, 0, 0, 0), (213, .iinc 7 1, 3, 0, 0, 1, 0), (216, .goto (-109), 3, 0, 107, 0, 0), (219, .iconst 0, 1, 0, 0, 0, 0), (220, .istore 7, 2, 0, 0, 0, 0), (222, .iload 7, 2, 0, 0, 0, 0), (224, .iload_n 1, 1, 0, 0, 0, 0), (225, .if_icmp .gt 63, 3, 0, 288, 0, 0), (228, .aload_n 0, 1, 0, 0, 0, 0), (229, .getfield 63, 3, 8, 20, 0, 2), (232, .iload 7, 2, 0, 0, 0, 0), (234, .baload, 1, 0, 0, 0, 0), (235, .ifCond .eq 35, 3, 0, 270, 0, 0), (238, .aload_n 0, 1, 0, 0, 0, 0), (239, .getfield 48, 3, 8, 15, 0, 2), (242, .aload_n 0, 1, 0, 0, 0, 0), (243, .getfield 54, 3, 8, 17, 0, 2), (246, .iload 7, 2, 0, 0, 0, 0), (248, .iaload, 1, 0, 0, 0, 0), (249, .dup2, 1, 0, 0, 0, 0), (250, .iaload, 1, 0, 0, 0, 0), (251, .iload 5, 2, 0, 0, 0, 0), (253, .iadd, 1, 0, 0, 0, 0), (254, .iastore, 1, 0, 0, 0, 0), (255, .aload_n 0, 1, 0, 0, 0, 0), (256, .getfield 51, 3, 8, 16, 0, 2), (259, .iload 7, 2, 0, 0, 0, 0), (261, .dup2, 1, 0, 0, 0, 0), (262, .iaload, 1, 0, 0, 0, 0), (263, .iload 5, 2, 0, 0, 0, 0), (265, .isub, 1, 0, 0, 0, 0), (266, .iastore, 1, 0, 0, 0, 0), (267, .goto 15, 3, 0, 282, 0, 0), (270, .aload_n 0, 1, 0, 0, 0, 0), (271, .getfield 57, 3, 8, 18, 0, 2), (274, .iload 7, 2, 0, 0, 0, 0), (276, .dup2, 1, 0, 0, 0, 0), (277, .iaload, 1, 0, 0, 0, 0), (278, .iload 5, 2, 0, 0, 0, 0), (280, .isub, 1, 0, 0, 0, 0), (281, .iastore, 1, 0, 0, 0, 0), (282, .iinc 7 1, 3, 0, 0, 1, 0), (285, .goto (-63), 3, 0, 222, 0, 0), (288, .iload 6, 2, 0, 0, 0, 0), (290, .istore_n 3, 1, 0, 0, 0, 0), (291, .aload_n 0, 1, 0, 0, 0, 0), (292, .getfield 54, 3, 8, 17, 0, 2), (295, .iload_n 3, 1, 0, 0, 0, 0), (296, .iaload, 1, 0, 0, 0, 0), (297, .ifCond .ne (-215), 3, 0, 82, 0, 0), (300, .iload_n 3, 1, 0, 0, 0, 0), (301, .ifCond .eq 30, 3, 0, 331, 0, 0), (304, .aload_n 0, 1, 0, 0, 0, 0), (305, .getfield 54, 3, 8, 17, 0, 2), (308, .iload_n 3, 1, 0, 0, 0, 0), (309, .aload_n 0, 1, 0, 0, 0, 0), (310, .getfield 54, 3, 8, 17, 0, 2), (313, .aload_n 0, 1, 0, 0, 0, 0), (314, .getfield 60, 3, 8, 19, 0, 2), (317, .iload_n 3, 1, 0, 0, 0, 0), (318, .iaload, 1, 0, 0, 0, 0), (319, .iaload, 1, 0, 0, 0, 0), (320, .iastore, 1, 0, 0, 0, 0), (321, .aload_n 0, 1, 0, 0, 0, 0), (322, .getfield 60, 3, 8, 19, 0, 2), (325, .iload_n 3, 1, 0, 0, 0, 0), (326, .iaload, 1, 0, 0, 0, 0), (327, .istore_n 3, 1, 0, 0, 0, 0), (328, .goto (-28), 3, 0, 300, 0, 0), (331, .iinc 2 1, 3, 0, 0, 1, 0), (334, .goto (-298), 3, 0, 36, 0, 0), (337, .iconst 0, 1, 0, 0, 0, 0), (338, .istore_n 2, 1, 0, 0, 0, 0), (339, .iconst 1, 1, 0, 0, 1, 0), (340, .istore_n 3, 1, 0, 0, 0, 0), (341, .iload_n 3, 1, 0, 0, 0, 0), (342, .iload_n 1, 1, 0, 0, 0, 0), (343, .if_icmp .gt 33, 3, 0, 376, 0, 0), (346, .iload_n 2, 1, 0, 0, 0, 0), (347, .aload_n 0, 1, 0, 0, 0, 0), (348, .aload_n 0, 1, 0, 0, 0, 0), (349, .getfield 42, 3, 8, 13, 0, 2), (352, .aload_n 0, 1, 0, 0, 0, 0), (353, .getfield 54, 3, 8, 17, 0, 2), (356, .iload_n 3, 1, 0, 0, 0, 0), (357, .iaload, 1, 0, 0, 0, 0), (358, .iaload, 1, 0, 0, 0, 0), (359, .aload_n 0, 1, 0, 0, 0, 0), (360, .getfield 45, 3, 8, 14, 0, 2), (363, .iload_n 3, 1, 0, 0, 0, 0), (364, .iaload, 1, 0, 0, 0, 0), (365, .invokevirtual 163, 3, 0, 151, 0, 0), (368, .iadd, 1, 0, 0, 0, 0), (369, .istore_n 2, 1, 0, 0, 0, 0), (370, .iinc 3 1, 3, 0, 0, 1, 0), (373, .goto (-32), 3, 0, 341, 0, 0), (376, .iload_n 2, 1, 0, 0, 0, 0), (377, .ireturn, 1, 0, 0, 0, 0)]
def mX8_assign : Mt := (yX8_assign, cX8_assign, 9, (some .int), TX8_assign)
def TX8_carried : List It := [(0, .aload_n 0, 1, 0, 0, 0, 0), (1, .iconst 0, 1, 0, 0, 0, 0), (2, .putfield 78, 3, 8, 0, 0, 0), (5, .iload_n 1, 1, 0, 0, 0, 0), (6, .invokestatic 103, 3, 0, 114, 0, 0), (9, .ifCond .eq 5, 3, 0, 14, 0, 0), (12, .iconst (-1), 1, 0, 0, (-1), 0), (13, .ireturn, 1, 0, 0, 0, 0), (14, .aload_n 0, 1, 0, 0, 0, 0), (15, .iconst 0, 1, 0, 0, 0, 0), (16, .iload_n 1, 1, 0, 0, 0, 0), (17, .invokevirtual 106, 3, 0, 122, 0, 0), (20, .istore_n 2, 1, 0, 0, 0, 0), (21, .iload_n 2, 1, 0, 0, 0, 0), (22, .aload_n 0, 1, 0, 0, 0, 0), (23, .iconst 1, 1, 0, 0, 1, 0), (24, .iload_n 1, 1, 0, 0, 0, 0), (25, .invokevirtual 106, 3, 0, 122, 0, 0), (28, .if_icmp .eq 6, 3, 0, 34, 0, 0), (31, .bipush (-3), 2, 0, 0, (-3), 0), (33, .ireturn, 1, 0, 0, 0, 0), (34, .iconst 0, 1, 0, 0, 0, 0), (35, .istore_n 3, 1, 0, 0, 0, 0), (36, .iconst 0, 1, 0, 0, 0, 0), (37, .istore 4, 2, 0, 0, 0, 0), (39, .iconst 0, 1, 0, 0, 0, 0), (40, .istore 5, 2, 0, 0, 0, 0), (42, .iload 5, 2, 0, 0, 0, 0), (44, .aload_n 0, 1, 0, 0, 0, 0), (45, .getfield 7, 3, 8, 1, 0, 0), (48, .aload_n 0, 1, 0, 0, 0, 0), (49, .getfield 13, 3, 8, 2, 0, 0), (52, .imul, 1, 0, 0, 0, 0), (53, .if_icmp .ge 54, 3, 0, 107, 0, 0), (56, .aload_n 0, 1, 0, 0, 0, 0), (57, .getfield 16, 3, 8, 3, 0, 2), (60, .iload 5, 2, 0, 0, 0, 0), (62, .iaload, 1, 0, 0, 0, 0), (63, .iload_n 1, 1, 0, 0, 0, 0), (64, .if_icmp .ne 14, 3, 0, 78, 0, 0), (67, .iinc 3 1, 3, 0, 0, 1, 0), (70, .aload_n 0, 1, 0, 0, 0, 0), (71, .getfield 42, 3, 8, 13, 0, 2), (74, .iload_n 3, 1, 0, 0, 0, 0), (75, .iload 5, 2, 0, 0, 0, 0), (77, .iastore, 1, 0, 0, 0, 0), (78, .aload_n 0, 1, 0, 0, 0, 0), (79, .getfield 20, 3, 8, 4, 0, 2), (82, .iload 5, 2, 0, 0, 0, 0), (84, .iaload, 1, 0, 0, 0, 0), (85, .iload_n 1, 1, 0, 0, 0, 0), (86, .if_icmp .ne 15, 3, 0, 101, 0, 0), (89, .iinc 4 1, 3, 0, 0, 1, 0), (92, .aload_n 0, 1, 0, 0, 0, 0), (93, .getfield 45, 3, 8, 14, 0, 2), (96, .iload 4, 2, 0, 0, 0, 0), (98, .iload 5, 2, 0, 0, 0, 0), (100, .iastore, 1, 0, 0, 0, 0), (101, .iinc 5 1, 3, 0, 0, 1, 0), (104, .goto (-62), 3, 0, 42, 0, 0), (107, .aload_n 0, 1, 0, 0, 0, 0), (108, .iload_n 2, 1, 0, 0, 0, 0), (109, .invokevirtual 166, 3, 0, 152, 0, 0), (112, .ireturn, 1, 0, 0, 0, 0)]
def mX8_carried : Mt := (yX8_carried, cX8_carried, 6, (some .int), TX8_carried)
def TX8_offOf : List It := [(0, .iconst 0, 1, 0, 0, 0, 0), (1, .istore_n 3, 1, 0, 0, 0, 0), (2, .iconst 0, 1, 0, 0, 0, 0), (3, .istore 4, 2, 0, 0, 0, 0), (5, .iconst 0, 1, 0, 0, 0, 0), (6, .istore 5, 2, 0, 0, 0, 0), (8, .iconst 0, 1, 0, 0, 0, 0), (9, .istore 6, 2, 0, 0, 0, 0), (11, .iload 6, 2, 0, 0, 0, 0), (13, .aload_n 0, 1, 0, 0, 0, 0), (14, .getfield 7, 3, 8, 1, 0, 0), (17, .aload_n 0, 1, 0, 0, 0, 0), (18, .getfield 13, 3, 8, 2, 0, 0), (21, .imul, 1, 0, 0, 0, 0), (22, .if_icmp .ge 47, 3, 0, 69, 0, 0), (25, .aload_n 0, 1, 0, 0, 0, 0), (26, .getfield 16, 3, 8, 3, 0, 2), (29, .iload 6, 2, 0, 0, 0, 0), (31, .iaload, 1, 0, 0, 0, 0), (32, .iload_n 1, 1, 0, 0, 0, 0), (33, .if_icmp .ne 30, 3, 0, 63, 0, 0), (36, .iinc 3 1, 3, 0, 0, 1, 0), (39, .iload 4, 2, 0, 0, 0, 0), (41, .iload 6, 2, 0, 0, 0, 0), (43, .aload_n 0, 1, 0, 0, 0, 0), (44, .getfield 7, 3, 8, 1, 0, 0), (47, .irem, 1, 0, 0, 0, 0), (48, .iadd, 1, 0, 0, 0, 0), (49, .istore 4, 2, 0, 0, 0, 0), (51, .iload 5, 2, 0, 0, 0, 0), (53, .iload 6, 2, 0, 0, 0, 0), (55, .aload_n 0, 1, 0, 0, 0, 0), (56, .getfield 7, 3, 8, 1, 0, 0), (59, .idiv, 1, 0, 0, 0, 0), (60, .iadd, 1, 0, 0, 0, 0), (61, .istore 5, 2, 0, 0, 0, 0), (63, .iinc 6 1, 3, 0, 0, 1, 0), (66, .goto (-55), 3, 0, 11, 0, 0), (69, .iload_n 3, 1, 0, 0, 0, 0), (70, .iload_n 2, 1, 0, 0, 0, 0), (71, .aload_n 0, 1, 0, 0, 0, 0), (72, .getfield 7, 3, 8, 1, 0, 0), (75, .irem, 1, 0, 0, 0, 0), (76, .imul, 1, 0, 0, 0, 0), (77, .iload 4, 2, 0, 0, 0, 0), (79, .isub, 1, 0, 0, 0, 0), (80, .istore 6, 2, 0, 0, 0, 0), (82, .iload_n 3, 1, 0, 0, 0, 0), (83, .iload_n 2, 1, 0, 0, 0, 0), (84, .aload_n 0, 1, 0, 0, 0, 0), (85, .getfield 7, 3, 8, 1, 0, 0), (88, .idiv, 1, 0, 0, 0, 0), (89, .imul, 1, 0, 0, 0, 0), (90, .iload 5, 2, 0, 0, 0, 0), (92, .isub, 1, 0, 0, 0, 0), (93, .istore 7, 2, 0, 0, 0, 0), (95, .iload 6, 2, 0, 0, 0, 0), (97, .iload 6, 2, 0, 0, 0, 0), (99, .imul, 1, 0, 0, 0, 0), (100, .iload 7, 2, 0, 0, 0, 0), (102, .iload 7, 2, 0, 0, 0, 0), (104, .imul, 1, 0, 0, 0, 0), (105, .iadd, 1, 0, 0, 0, 0), (106, .ireturn, 1, 0, 0, 0, 0)]
def mX8_offOf : Mt := (yX8_offOf, cX8_offOf, 8, (some .int), TX8_offOf)
def TX8_isThere : List It := [(0, .aload_n 0, 1, 0, 0, 0, 0), (1, .iconst 0, 1, 0, 0, 0, 0), (2, .iload_n 1, 1, 0, 0, 0, 0), (3, .invokevirtual 106, 3, 0, 122, 0, 0), (6, .ifCond .le 7, 3, 0, 13, 0, 0), (9, .iconst 1, 1, 0, 0, 1, 0), (10, .goto 4, 3, 0, 14, 0, 0), (13, .iconst 0, 1, 0, 0, 0, 0), (14, .ireturn, 1, 0, 0, 0, 0)]
def mX8_isThere : Mt := (yX8_isThere, cX8_isThere, 2, (some .boolean), TX8_isThere)
def TX8_leastOff : List It := [(0, .iconst 0, 1, 0, 0, 0, 0), (1, .istore_n 2, 1, 0, 0, 0, 0), (2, .iconst 0, 1, 0, 0, 0, 0), (3, .istore_n 3, 1, 0, 0, 0, 0), (4, .iconst 0, 1, 0, 0, 0, 0), (5, .istore 4, 2, 0, 0, 0, 0), (7, .iload 4, 2, 0, 0, 0, 0), (9, .bipush 6, 2, 0, 0, 6, 0), (11, .if_icmp .ge 70, 3, 0, 81, 0, 0), (14, .iload_n 2, 1, 0, 0, 0, 0), (15, .iload 4, 2, 0, 0, 0, 0), (17, .iload_n 1, 1, 0, 0, 0, 0), (18, .if_icmp .lt 19, 3, 0, 37, 0, 0), (21, .aload_n 0, 1, 0, 0, 0, 0), (22, .iload 4, 2, 0, 0, 0, 0), (24, .invokevirtual 169, 3, 0, 155, 0, 0), (27, .ifCond .eq 10, 3, 0, 37, 0, 0), (30, .iconst 1, 1, 0, 0, 1, 0), (31, .iload 4, 2, 0, 0, 0, 0), (33, .ishl, 1, 0, 0, 0, 0), (34, .goto 4, 3, 0, 38, 0, 0), (37, .iconst 0, 1, 0, 0, 0, 0), (38, .ior, 1, 0, 0, 0, 0), (39, .istore_n 2, 1, 0, 0, 0, 0), (40, .iload_n 3, 1, 0, 0, 0, 0), (41, .iload 4, 2, 0, 0, 0, 0), (43, .iload_n 1, 1, 0, 0, 0, 0), (44, .if_icmp .ge 28, 3, 0, 72, 0, 0), (47, .aload_n 0, 1, 0, 0, 0, 0), (48, .iload 4, 2, 0, 0, 0, 0), (50, .invokevirtual 169, 3, 0, 155, 0, 0), (53, .ifCond .eq 19, 3, 0, 72, 0, 0), (56, .aload_n 0, 1, 0, 0, 0, 0), (57, .iload 4, 2, 0, 0, 0, 0), (59, .aload_n 0, 1, 0, 0, 0, 0), (60, .getfield 66, 3, 8, 21, 0, 2), (63, .iload 4, 2, 0, 0, 0, 0), (65, .iaload, 1, 0, 0, 0, 0), (66, .invokevirtual 172, 3, 0, 154, 0, 0), (69, .goto 4, 3, 0, 73, 0, 0), (72, .iconst 0, 1, 0, 0, 0, 0), (73, .iadd, 1, 0, 0, 0, 0), (74, .istore_n 3, 1, 0, 0, 0, 0), (75, .iinc 4 1, 3, 0, 0, 1, 0), (78, .goto (-71), 3, 0, 7, 0, 0), (81, .iconst 0, 1, 0, 0, 0, 0), (82, .istore 4, 2, 0, 0, 0, 0), (84, .iload 4, 2, 0, 0, 0, 0), (86, .bipush 64, 2, 0, 0, 64, 0), (88, .if_icmp .ge 27, 3, 0, 115, 0, 0), (91, .aload_n 0, 1, 0, 0, 0, 0), (92, .getfield 69, 3, 8, 22, 0, 2), (95, .iload 4, 2, 0, 0, 0, 0), (97, .iload 4, 2, 0, 0, 0, 0), (99, .ifCond .ne 7, 3, 0, 106, 0, 0), (102, .iconst 0, 1, 0, 0, 0, 0), (103, .goto 5, 3, 0, 108, 0, 0), (106, .ldc 146, 2, 0, 0, 1000000000, 0), (108, .iastore, 1, 0, 0, 0, 0), (109, .iinc 4 1, 3, 0, 0, 1, 0), (112, .goto (-28), 3, 0, 84, 0, 0), (115, .iconst 0, 1, 0, 0, 0, 0), (116, .istore 4, 2, 0, 0, 0, 0), (118, .iload 4, 2, 0, 0, 0, 0), (120, .aload_n 0, 1, 0, 0, 0, 0), (121, .getfield 7, 3, 8, 1, 0, 0), (124, .aload_n 0, 1, 0, 0, 0, 0), (125, .getfield 13, 3, 8, 2, 0, 0), (128, .imul, 1, 0, 0, 0, 0), (129, .if_icmp .ge 253, 3, 0, 382, 0, 0), (132, .iconst 1, 1, 0, 0, 1, 0), (133, .istore 5, 2, 0, 0, 0, 0), (135, .iconst 0, 1, 0, 0, 0, 0), (136, .istore 6, 2, 0, 0, 0, 0), (138, .iload 6, 2, 0, 0, 0, 0), (140, .iload_n 1, 1, 0, 0, 0, 0), (141, .if_icmp .ge 42, 3, 0, 183, 0, 0), (144, .iload 5, 2, 0, 0, 0, 0), (146, .ifCond .eq 28, 3, 0, 174, 0, 0), (149, .aload_n 0, 1, 0, 0, 0, 0), (150, .iload 6, 2, 0, 0, 0, 0), (152, .invokevirtual 169, 3, 0, 155, 0, 0), (155, .ifCond .eq 15, 3, 0, 170, 0, 0), (158, .aload_n 0, 1, 0, 0, 0, 0), (159, .getfield 66, 3, 8, 21, 0, 2), (162, .iload 6, 2, 0, 0, 0, 0), (164, .iaload, 1, 0, 0, 0, 0), (165, .iload 4, 2, 0, 0, 0, 0), (167, .if_icmp .eq 7, 3, 0, 174, 0, 0), (170, .iconst 1, 1, 0, 0, 1, 0), (171, .goto 4, 3, 0, 175, 0, 0), (174, .iconst 0, 1, 0, 0, 0, 0), (175, .istore 5, 2, 0, 0, 0, 0), (177, .iinc 6 1, 3, 0, 0, 1, 0), (180, .goto (-42), 3, 0, 138, 0, 0), (183, .iconst 0, 1, 0, 0, 0, 0), (184, .istore 6, 2, 0, 0, 0, 0), (186, .iload 6, 2, 0, 0, 0, 0), (188, .bipush 6, 2, 0, 0, 6, 0), (190, .if_icmp .ge 38, 3, 0, 228, 0, 0), (193, .aload_n 0, 1, 0, 0, 0, 0), (194, .getfield 48, 3, 8, 15, 0, 2), (197, .iload 6, 2, 0, 0, 0, 0), (199, .iload_n 2, 1, 0, 0, 0, 0), (200, .iload 6, 2, 0, 0, 0, 0), (202, .ishr, 1, 0, 0, 0, 0), (203, .iconst 1, 1, 0, 0, 1, 0), (204, .iand, 1, 0, 0, 0, 0), (205, .iconst 1, 1, 0, 0, 1, 0), (206, .if_icmp .ne 14, 3, 0, 220, 0, 0), (209, .aload_n 0, 1, 0, 0, 0, 0), (210, .iload 6, 2, 0, 0, 0, 0), (212, .iload 4, 2, 0, 0, 0, 0), (214, .invokevirtual 172, 3, 0, 154, 0, 0), (217, .goto 4, 3, 0, 221, 0, 0), (220, .iconst 0, 1, 0, 0, 0, 0), (221, .iastore, 1, 0, 0, 0, 0), (222, .iinc 6 1, 3, 0, 0, 1, 0), (225, .goto (-39), 3, 0, 186, 0, 0), (228, .bipush 63, 2, 0, 0, 63, 0), (230, .istore 6, 2, 0, 0, 0, 0), (232, .iload 6, 2, 0, 0, 0, 0), (234, .ifCond .le 142, 3, 0, 376, 0, 0), (237, .iload 5, 2, 0, 0, 0, 0), (239, .ifCond .eq 137, 3, 0, 376, 0, 0), (242, .iconst 0, 1, 0, 0, 0, 0), (243, .istore 7, 2, 0, 0, 0, 0), (245, .iload 7, 2, 0, 0, 0, 0), (247, .bipush 6, 2, 0, 0, 6, 0), (249, .if_icmp .ge 121, 3, 0, 370, 0, 0), (252, .iload 6, 2, 0, 0, 0, 0), (254, .iload 7, 2, 0, 0, 0, 0), (256, .ishr, 1, 0, 0, 0, 0), (257, .iconst 1, 1, 0, 0, 1, 0), (258, .iand, 1, 0, 0, 0, 0), (259, .iconst 1, 1, 0, 0, 1, 0), (260, .if_icmp .ne 36, 3, 0, 296, 0, 0), (263, .iload_n 2, 1, 0, 0, 0, 0), (264, .iload 7, 2, 0, 0, 0, 0), (266, .ishr, 1, 0, 0, 0, 0), (267, .iconst 1, 1, 0, 0, 1, 0), (268, .iand, 1, 0, 0, 0, 0), (269, .iconst 1, 1, 0, 0, 1, 0), (270, .if_icmp .ne 26, 3, 0, 296, 0, 0), (273, .aload_n 0, 1, 0, 0, 0, 0), (274, .getfield 69, 3, 8, 22, 0, 2), (277, .iload 6, 2, 0, 0, 0, 0), (279, .iconst 1, 1, 0, 0, 1, 0), (280, .iload 7, 2, 0, 0, 0, 0), (282, .ishl, 1, 0, 0, 0, 0), (283, .iconst (-1), 1, 0, 0, (-1), 0), (284, .ixor, 1, 0, 0, 0, 0), (285, .iand, 1, 0, 0, 0, 0), (286, .iaload, 1, 0, 0, 0, 0), (287, .ldc 146, 2, 0, 0, 1000000000, 0), (289, .if_icmp .ge 7, 3, 0, 296, 0, 0), (292, .iconst 1, 1, 0, 0, 1, 0), (293, .goto 4, 3, 0, 297, 0, 0), (296, .iconst 0, 1, 0, 0, 0, 0), (297, .istore 8, 2, 0, 0, 0, 0), (299, .iload 8, 2, 0, 0, 0, 0), (301, .ifCond .eq 28, 3, 0, 329, 0, 0), (304, .aload_n 0, 1, 0, 0, 0, 0), (305, .getfield 69, 3, 8, 22, 0, 2), (308, .iload 6, 2, 0, 0, 0, 0), (310, .iconst 1, 1, 0, 0, 1, 0), (311, .iload 7, 2, 0, 0, 0, 0), (313, .ishl, 1, 0, 0, 0, 0), (314, .iconst (-1), 1, 0, 0, (-1), 0), (315, .ixor, 1, 0, 0, 0, 0), (316, .iand, 1, 0, 0, 0, 0), (317, .iaload, 1, 0, 0, 0, 0), (318, .aload_n 0, 1, 0, 0, 0, 0), (319, .getfield 48, 3, 8, 15, 0, 2), (322, .iload 7, 2, 0, 0, 0, 0), (324, .iaload, 1, 0, 0, 0, 0), (325, .iadd, 1, 0, 0, 0, 0), (326, .goto 5, 3, 0, 331, 0, 0), (329, .ldc 146, 2, 0, 0, 1000000000, 0), (331, .istore 9, 2, 0, 0, 0, 0), (333, .aload_n 0, 1, 0, 0, 0, 0), (334, .getfield 69, 3, 8, 22, 0, 2), (337, .iload 6, 2, 0, 0, 0, 0), (339, .iload 9, 2, 0, 0, 0, 0), (341, .aload_n 0, 1, 0, 0, 0, 0), (342, .getfield 69, 3, 8, 22, 0, 2), (345, .iload 6, 2, 0, 0, 0, 0), (347, .iaload, 1, 0, 0, 0, 0), (348, .if_icmp .ge 8, 3, 0, 356, 0, 0), (351, .iload 9, 2, 0, 0, 0, 0), (353, .goto 10, 3, 0, 363, 0, 0), (356, .aload_n 0, 1, 0, 0, 0, 0), (357, .getfield 69, 3, 8, 22, 0, 2), (360, .iload 6, 2, 0, 0, 0, 0), (362, .iaload, 1, 0, 0, 0, 0), (363, .iastore, 1, 0, 0, 0, 0), (364, .iinc 7 1, 3, 0, 0, 1, 0), (367, .goto (-122), 3, 0, 245, 0, 0), (370, .iinc 6 (-1), 3, 0, 0, (-1), 0), (373, .goto (-141), 3, 0, 232, 0, 0), (376, .iinc 4 1, 3, 0, 0, 1, 0), (379, .goto (-261), 3, 0, 118, 0, 0), (382, .aload_n 0, 1, 0, 0, 0, 0), (383, .getfield 69, 3, 8, 22, 0, 2), (386, .iload_n 2, 1, 0, 0, 0, 0), (387, .iaload, 1, 0, 0, 0, 0), (388, .ldc 146, 2, 0, 0, 1000000000, 0), (390, .if_icmp .ge 14, 3, 0, 404, 0, 0), (393, .iload_n 3, 1, 0, 0, 0, 0), (394, .aload_n 0, 1, 0, 0, 0, 0), (395, .getfield 69, 3, 8, 22, 0, 2), (398, .iload_n 2, 1, 0, 0, 0, 0), (399, .iaload, 1, 0, 0, 0, 0), (400, .iadd, 1, 0, 0, 0, 0), (401, .goto 5, 3, 0, 406, 0, 0), (404, .ldc 146, 2, 0, 0, 1000000000, 0), (406, .ireturn, 1, 0, 0, 0, 0)]
def mX8_leastOff : Mt := (yX8_leastOff, cX8_leastOff, 10, (some .int), TX8_leastOff)
def TX8_layTiles : List It := [(0, .aload_n 0, 1, 0, 0, 0, 0), (1, .iconst 0, 1, 0, 0, 0, 0), (2, .invokevirtual 175, 3, 0, 156, 0, 0), (5, .istore_n 1, 1, 0, 0, 0, 0), (6, .iconst 0, 1, 0, 0, 0, 0), (7, .istore_n 2, 1, 0, 0, 0, 0), (8, .iload_n 2, 1, 0, 0, 0, 0), (9, .bipush 6, 2, 0, 0, 6, 0), (11, .if_icmp .ge 133, 3, 0, 144, 0, 0), (14, .aload_n 0, 1, 0, 0, 0, 0), (15, .getfield 66, 3, 8, 21, 0, 2), (18, .iload_n 2, 1, 0, 0, 0, 0), (19, .bipush (-9), 2, 0, 0, (-9), 0), (21, .iastore, 1, 0, 0, 0, 0), (22, .iconst 0, 1, 0, 0, 0, 0), (23, .istore_n 3, 1, 0, 0, 0, 0), (24, .iload_n 3, 1, 0, 0, 0, 0), (25, .aload_n 0, 1, 0, 0, 0, 0), (26, .getfield 7, 3, 8, 1, 0, 0), (29, .aload_n 0, 1, 0, 0, 0, 0), (30, .getfield 13, 3, 8, 2, 0, 0), (33, .imul, 1, 0, 0, 0, 0), (34, .if_icmp .ge 104, 3, 0, 138, 0, 0), (37, .aload_n 0, 1, 0, 0, 0, 0), (38, .iload_n 2, 1, 0, 0, 0, 0), (39, .invokevirtual 169, 3, 0, 155, 0, 0), (42, .ifCond .eq 96, 3, 0, 138, 0, 0), (45, .aload_n 0, 1, 0, 0, 0, 0), (46, .getfield 66, 3, 8, 21, 0, 2), (49, .iload_n 2, 1, 0, 0, 0, 0), (50, .iaload, 1, 0, 0, 0, 0), (51, .bipush (-9), 2, 0, 0, (-9), 0), (53, .if_icmp .ne 85, 3, 0, 138, 0, 0), (56, .iconst 1, 1, 0, 0, 1, 0), (57, .istore 4, 2, 0, 0, 0, 0), (59, .iconst 0, 1, 0, 0, 0, 0), (60, .istore 5, 2, 0, 0, 0, 0), (62, .iload 5, 2, 0, 0, 0, 0), (64, .iload_n 2, 1, 0, 0, 0, 0), (65, .if_icmp .ge 32, 3, 0, 97, 0, 0), (68, .iload 4, 2, 0, 0, 0, 0), (70, .ifCond .eq 18, 3, 0, 88, 0, 0), (73, .aload_n 0, 1, 0, 0, 0, 0), (74, .getfield 66, 3, 8, 21, 0, 2), (77, .iload 5, 2, 0, 0, 0, 0), (79, .iaload, 1, 0, 0, 0, 0), (80, .iload_n 3, 1, 0, 0, 0, 0), (81, .if_icmp .eq 7, 3, 0, 88, 0, 0), (84, .iconst 1, 1, 0, 0, 1, 0), (85, .goto 4, 3, 0, 89, 0, 0), (88, .iconst 0, 1, 0, 0, 0, 0), (89, .istore 4, 2, 0, 0, 0, 0), (91, .iinc 5 1, 3, 0, 0, 1, 0), (94, .goto (-32), 3, 0, 62, 0, 0), (97, .iload 4, 2, 0, 0, 0, 0), (99, .ifCond .eq 33, 3, 0, 132, 0, 0), (102, .aload_n 0, 1, 0, 0, 0, 0), (103, .getfield 66, 3, 8, 21, 0, 2), (106, .iload_n 2, 1, 0, 0, 0, 0), (107, .iload_n 3, 1, 0, 0, 0, 0), (108, .iastore, 1, 0, 0, 0, 0), (109, .aload_n 0, 1, 0, 0, 0, 0), (110, .getfield 66, 3, 8, 21, 0, 2), (113, .iload_n 2, 1, 0, 0, 0, 0), (114, .aload_n 0, 1, 0, 0, 0, 0), (115, .iload_n 2, 1, 0, 0, 0, 0), (116, .iconst 1, 1, 0, 0, 1, 0), (117, .iadd, 1, 0, 0, 0, 0), (118, .invokevirtual 175, 3, 0, 156, 0, 0), (121, .iload_n 1, 1, 0, 0, 0, 0), (122, .if_icmp .ne 7, 3, 0, 129, 0, 0), (125, .iload_n 3, 1, 0, 0, 0, 0), (126, .goto 5, 3, 0, 131, 0, 0), (129, .bipush (-9), 2, 0, 0, (-9), 0), (131, .iastore, 1, 0, 0, 0, 0), (132, .iinc 3 1, 3, 0, 0, 1, 0), (135, .goto (-111), 3, 0, 24, 0, 0), (138, .iinc 2 1, 3, 0, 0, 1, 0), (141, .goto (-133), 3, 0, 8, 0, 0), (144, .iload_n 1, 1, 0, 0, 0, 0), (145, .ireturn, 1, 0, 0, 0, 0)]
def mX8_layTiles : Mt := (yX8_layTiles, cX8_layTiles, 6, (some .int), TX8_layTiles)
def TX8_off : List It := [(0, .aload_n 0, 1, 0, 0, 0, 0), (1, .iconst 0, 1, 0, 0, 0, 0), (2, .putfield 78, 3, 8, 0, 0, 0), (5, .aload_n 0, 1, 0, 0, 0, 0), (6, .iconst 0, 1, 0, 0, 0, 0), (7, .invokevirtual 175, 3, 0, 156, 0, 0), (10, .ireturn, 1, 0, 0, 0, 0)]
def mX8_off : Mt := (yX8_off, cX8_off, 1, (some .int), TX8_off)
def TX8_tile : List It := [(0, .aload_n 0, 1, 0, 0, 0, 0), (1, .iconst 0, 1, 0, 0, 0, 0), (2, .putfield 78, 3, 8, 0, 0, 0), (5, .iload_n 1, 1, 0, 0, 0, 0), (6, .invokestatic 103, 3, 0, 114, 0, 0), (9, .ifCond .eq 5, 3, 0, 14, 0, 0), (12, .iconst (-1), 1, 0, 0, (-1), 0), (13, .ireturn, 1, 0, 0, 0, 0), (14, .aload_n 0, 1, 0, 0, 0, 0), (15, .invokevirtual 178, 3, 0, 157, 0, 0), (18, .pop, 1, 0, 0, 0, 0), (19, .aload_n 0, 1, 0, 0, 0, 0), (20, .getfield 66, 3, 8, 21, 0, 2), (23, .iload_n 1, 1, 0, 0, 0, 0), (24, .iaload, 1, 0, 0, 0, 0), (25, .ireturn, 1, 0, 0, 0, 0)]
def mX8_tile : Mt := (yX8_tile, cX8_tile, 2, (some .int), TX8_tile)
def TX8_kept : List It := [(0, .aload_n 0, 1, 0, 0, 0, 0), (1, .iconst 0, 1, 0, 0, 0, 0), (2, .putfield 78, 3, 8, 0, 0, 0), (5, .aload_n 0, 1, 0, 0, 0, 0), (6, .invokevirtual 178, 3, 0, 157, 0, 0), (9, .pop, 1, 0, 0, 0, 0), (10, .iconst 0, 1, 0, 0, 0, 0), (11, .istore_n 1, 1, 0, 0, 0, 0), (12, .iconst 0, 1, 0, 0, 0, 0), (13, .istore_n 2, 1, 0, 0, 0, 0), (14, .iload_n 2, 1, 0, 0, 0, 0), (15, .bipush 6, 2, 0, 0, 6, 0), (17, .if_icmp .ge 93, 3, 0, 110, 0, 0), (20, .iconst 0, 1, 0, 0, 0, 0), (21, .istore_n 3, 1, 0, 0, 0, 0), (22, .iload_n 3, 1, 0, 0, 0, 0), (23, .iload_n 2, 1, 0, 0, 0, 0), (24, .if_icmp .ge 80, 3, 0, 104, 0, 0), (27, .aload_n 0, 1, 0, 0, 0, 0), (28, .getfield 66, 3, 8, 21, 0, 2), (31, .iload_n 2, 1, 0, 0, 0, 0), (32, .iaload, 1, 0, 0, 0, 0), (33, .bipush (-9), 2, 0, 0, (-9), 0), (35, .if_icmp .eq 28, 3, 0, 63, 0, 0), (38, .aload_n 0, 1, 0, 0, 0, 0), (39, .getfield 66, 3, 8, 21, 0, 2), (42, .iload_n 3, 1, 0, 0, 0, 0), (43, .iaload, 1, 0, 0, 0, 0), (44, .bipush (-9), 2, 0, 0, (-9), 0), (46, .if_icmp .eq 17, 3, 0, 63, 0, 0), (49, .aload_n 0, 1, 0, 0, 0, 0), (50, .iconst 0, 1, 0, 0, 0, 0), (51, .iload_n 2, 1, 0, 0, 0, 0), (52, .iload_n 3, 1, 0, 0, 0, 0), (53, .invokevirtual 132, 3, 0, 132, 0, 0), (56, .ifCond .eq 7, 3, 0, 63, 0, 0), (59, .iconst 1, 1, 0, 0, 1, 0), (60, .goto 4, 3, 0, 64, 0, 0), (63, .iconst 0, 1, 0, 0, 0, 0), (64, .istore 4, 2, 0, 0, 0, 0), (66, .iload_n 1, 1, 0, 0, 0, 0), (67, .iload 4, 2, 0, 0, 0, 0), (69, .ifCond .eq 26, 3, 0, 95, 0, 0), (72, .aload_n 0, 1, 0, 0, 0, 0), (73, .aload_n 0, 1, 0, 0, 0, 0), (74, .getfield 66, 3, 8, 21, 0, 2), (77, .iload_n 2, 1, 0, 0, 0, 0), (78, .iaload, 1, 0, 0, 0, 0), (79, .aload_n 0, 1, 0, 0, 0, 0), (80, .getfield 66, 3, 8, 21, 0, 2), (83, .iload_n 3, 1, 0, 0, 0, 0), (84, .iaload, 1, 0, 0, 0, 0), (85, .invokevirtual 121, 3, 0, 128, 0, 0), (88, .ifCond .eq 7, 3, 0, 95, 0, 0), (91, .iconst 1, 1, 0, 0, 1, 0), (92, .goto 4, 3, 0, 96, 0, 0), (95, .iconst 0, 1, 0, 0, 0, 0), (96, .iadd, 1, 0, 0, 0, 0), (97, .istore_n 1, 1, 0, 0, 0, 0), (98, .iinc 3 1, 3, 0, 0, 1, 0), (101, .goto (-79), 3, 0, 22, 0, 0), (104, .iinc 2 1, 3, 0, 0, 1, 0), (107, .goto (-93), 3, 0, 14, 0, 0), (110, .iload_n 1, 1, 0, 0, 0, 0), (111, .ireturn, 1, 0, 0, 0, 0)]
def mX8_kept : Mt := (yX8_kept, cX8_kept, 5, (some .int), TX8_kept)
def TX8_noSide : List It := [(0, .iload_n 0, 1, 0, 0, 0, 0), (1, .i2l, 1, 0, 0, 0, 0), (2, .lconst 0, 1, 0, 0, 0, 0), (3, .ldc2_w 87, 3, 0, 0, 0, 2), (6, .invokestatic 81, 3, 0, 111, 0, 0), (9, .ifCond .ne 7, 3, 0, 16, 0, 0), (12, .iconst 1, 1, 0, 0, 1, 0), (13, .goto 4, 3, 0, 17, 0, 0), (16, .iconst 0, 1, 0, 0, 0, 0), (17, .ireturn, 1, 0, 0, 0, 0)]
def mX8_noSide : Mt := (yX8_noSide, cX8_noSide, 1, (some .boolean), TX8_noSide)
def TX8_votes : List It := [(0, .aload_n 0, 1, 0, 0, 0, 0), (1, .iconst 0, 1, 0, 0, 0, 0), (2, .putfield 78, 3, 8, 0, 0, 0), (5, .iload_n 1, 1, 0, 0, 0, 0), (6, .invokestatic 103, 3, 0, 114, 0, 0), (9, .ifCond .ne 10, 3, 0, 19, 0, 0), (12, .iload_n 2, 1, 0, 0, 0, 0), (13, .invokestatic 181, 3, 0, 161, 0, 0), (16, .ifCond .eq 5, 3, 0, 21, 0, 0), (19, .iconst (-1), 1, 0, 0, (-1), 0), (20, .ireturn, 1, 0, 0, 0, 0), (21, .iload_n 3, 1, 0, 0, 0, 0), (22, .i2l, 1, 0, 0, 0, 0), (23, .lconst 0, 1, 0, 0, 0, 0), (24, .ldc2_w 109, 3, 0, 0, 0, 999), (27, .invokestatic 81, 3, 0, 111, 0, 0), (30, .ifCond .ne 6, 3, 0, 36, 0, 0), (33, .bipush (-2), 2, 0, 0, (-2), 0), (35, .ireturn, 1, 0, 0, 0, 0), (36, .aload_n 0, 1, 0, 0, 0, 0), (37, .getfield 72, 3, 8, 23, 0, 2), (40, .iconst 3, 1, 0, 0, 3, 0), (41, .iload_n 1, 1, 0, 0, 0, 0), (42, .imul, 1, 0, 0, 0, 0), (43, .iload_n 2, 1, 0, 0, 0, 0), (44, .iadd, 1, 0, 0, 0, 0), (45, .iaload, 1, 0, 0, 0, 0), (46, .istore 4, 2, 0, 0, 0, 0), (48, .aload_n 0, 1, 0, 0, 0, 0), (49, .getfield 72, 3, 8, 23, 0, 2), (52, .iconst 3, 1, 0, 0, 3, 0), (53, .iload_n 1, 1, 0, 0, 0, 0), (54, .imul, 1, 0, 0, 0, 0), (55, .iload_n 2, 1, 0, 0, 0, 0), (56, .iadd, 1, 0, 0, 0, 0), (57, .iload_n 3, 1, 0, 0, 0, 0), (58, .iastore, 1, 0, 0, 0, 0), (59, .iload 4, 2, 0, 0, 0, 0), (61, .ireturn, 1, 0, 0, 0, 0)]
def mX8_votes : Mt := (yX8_votes, cX8_votes, 5, (some .int), TX8_votes)
def TX8_most : List It := [(0, .iload_n 0, 1, 0, 0, 0, 0), (1, .iload_n 1, 1, 0, 0, 0, 0), (2, .if_icmp .le 12, 3, 0, 14, 0, 0), (5, .iload_n 0, 1, 0, 0, 0, 0), (6, .iload_n 2, 1, 0, 0, 0, 0), (7, .if_icmp .le 7, 3, 0, 14, 0, 0), (10, .iconst 0, 1, 0, 0, 0, 0), (11, .goto 33, 3, 0, 44, 0, 0), (14, .iload_n 1, 1, 0, 0, 0, 0), (15, .iload_n 0, 1, 0, 0, 0, 0), (16, .if_icmp .le 12, 3, 0, 28, 0, 0), (19, .iload_n 1, 1, 0, 0, 0, 0), (20, .iload_n 2, 1, 0, 0, 0, 0), (21, .if_icmp .le 7, 3, 0, 28, 0, 0), (24, .iconst 1, 1, 0, 0, 1, 0), (25, .goto 19, 3, 0, 44, 0, 0), (28, .iload_n 2, 1, 0, 0, 0, 0), (29, .iload_n 0, 1, 0, 0, 0, 0), (30, .if_icmp .le 12, 3, 0, 42, 0, 0), (33, .iload_n 2, 1, 0, 0, 0, 0), (34, .iload_n 1, 1, 0, 0, 0, 0), (35, .if_icmp .le 7, 3, 0, 42, 0, 0), (38, .iconst 2, 1, 0, 0, 2, 0), (39, .goto 5, 3, 0, 44, 0, 0), (42, .bipush (-9), 2, 0, 0, (-9), 0), (44, .ireturn, 1, 0, 0, 0, 0)]
def mX8_most : Mt := (yX8_most, cX8_most, 3, (some .int), TX8_most)
def TX8_winner : List It := [(0, .aload_n 0, 1, 0, 0, 0, 0), (1, .getfield 72, 3, 8, 23, 0, 2), (4, .iconst 3, 1, 0, 0, 3, 0), (5, .iload_n 1, 1, 0, 0, 0, 0), (6, .imul, 1, 0, 0, 0, 0), (7, .iaload, 1, 0, 0, 0, 0), (8, .aload_n 0, 1, 0, 0, 0, 0), (9, .getfield 72, 3, 8, 23, 0, 2), (12, .iconst 3, 1, 0, 0, 3, 0), (13, .iload_n 1, 1, 0, 0, 0, 0), (14, .imul, 1, 0, 0, 0, 0), (15, .iconst 1, 1, 0, 0, 1, 0), (16, .iadd, 1, 0, 0, 0, 0), (17, .iaload, 1, 0, 0, 0, 0), (18, .aload_n 0, 1, 0, 0, 0, 0), (19, .getfield 72, 3, 8, 23, 0, 2), (22, .iconst 3, 1, 0, 0, 3, 0), (23, .iload_n 1, 1, 0, 0, 0, 0), (24, .imul, 1, 0, 0, 0, 0), (25, .iconst 2, 1, 0, 0, 2, 0), (26, .iadd, 1, 0, 0, 0, 0), (27, .iaload, 1, 0, 0, 0, 0), (28, .invokestatic 184, 3, 0, 163, 0, 0), (31, .ireturn, 1, 0, 0, 0, 0)]
def mX8_winner : Mt := (yX8_winner, cX8_winner, 2, (some .int), TX8_winner)
def TX8_won : List It := [(0, .aload_n 0, 1, 0, 0, 0, 0), (1, .iconst 0, 1, 0, 0, 0, 0), (2, .putfield 78, 3, 8, 0, 0, 0), (5, .iload_n 1, 1, 0, 0, 0, 0), (6, .invokestatic 103, 3, 0, 114, 0, 0), (9, .ifCond .eq 7, 3, 0, 16, 0, 0), (12, .iconst (-1), 1, 0, 0, (-1), 0), (13, .goto 8, 3, 0, 21, 0, 0), (16, .aload_n 0, 1, 0, 0, 0, 0), (17, .iload_n 1, 1, 0, 0, 0, 0), (18, .invokevirtual 188, 3, 0, 164, 0, 0), (21, .ireturn, 1, 0, 0, 0, 0)]
def mX8_won : Mt := (yX8_won, cX8_won, 2, (some .int), TX8_won)
def TX8_sum : List It := [(0, .iconst 0, 1, 0, 0, 0, 0), (1, .istore_n 3, 1, 0, 0, 0, 0), (2, .iconst 0, 1, 0, 0, 0, 0), (3, .istore 4, 2, 0, 0, 0, 0), (5, .iload 4, 2, 0, 0, 0, 0), (7, .bipush 6, 2, 0, 0, 6, 0), (9, .if_icmp .ge 61, 3, 0, 70, 0, 0), (12, .iload_n 3, 1, 0, 0, 0, 0), (13, .iload_n 2, 1, 0, 0, 0, 0), (14, .iconst 2, 1, 0, 0, 2, 0), (15, .if_icmp .ne 17, 3, 0, 32, 0, 0), (18, .aload_n 0, 1, 0, 0, 0, 0), (19, .getfield 72, 3, 8, 23, 0, 2), (22, .iconst 3, 1, 0, 0, 3, 0), (23, .iload 4, 2, 0, 0, 0, 0), (25, .imul, 1, 0, 0, 0, 0), (26, .iload_n 1, 1, 0, 0, 0, 0), (27, .iadd, 1, 0, 0, 0, 0), (28, .iaload, 1, 0, 0, 0, 0), (29, .goto 33, 3, 0, 62, 0, 0), (32, .aload_n 0, 1, 0, 0, 0, 0), (33, .iload 4, 2, 0, 0, 0, 0), (35, .invokevirtual 188, 3, 0, 164, 0, 0), (38, .iload_n 1, 1, 0, 0, 0, 0), (39, .if_icmp .ne 22, 3, 0, 61, 0, 0), (42, .aload_n 0, 1, 0, 0, 0, 0), (43, .iload_n 2, 1, 0, 0, 0, 0), (44, .iconst 1, 1, 0, 0, 1, 0), (45, .if_icmp .ne 7, 3, 0, 52, 0, 0), (48, .iconst 1, 1, 0, 0, 1, 0), (49, .goto 4, 3, 0, 53, 0, 0), (52, .iconst 0, 1, 0, 0, 0, 0), (53, .iload 4, 2, 0, 0, 0, 0), (55, .invokevirtual 106, 3, 0, 122, 0, 0), (58, .goto 4, 3, 0, 62, 0, 0), (61, .iconst 0, 1, 0, 0, 0, 0), (62, .iadd, 1, 0, 0, 0, 0), (63, .istore_n 3, 1, 0, 0, 0, 0), (64, .iinc 4 1, 3, 0, 0, 1, 0), (67, .goto (-62), 3, 0, 5, 0, 0), (70, .iload_n 3, 1, 0, 0, 0, 0), (71, .ireturn, 1, 0, 0, 0, 0)]
def mX8_sum : Mt := (yX8_sum, cX8_sum, 5, (some .int), TX8_sum)
def TX8_has : List It := [(0, .aload_n 0, 1, 0, 0, 0, 0), (1, .iconst 0, 1, 0, 0, 0, 0), (2, .putfield 78, 3, 8, 0, 0, 0), (5, .iload_n 1, 1, 0, 0, 0, 0), (6, .invokestatic 181, 3, 0, 161, 0, 0), (9, .ifCond .eq 5, 3, 0, 14, 0, 0), (12, .iconst (-1), 1, 0, 0, (-1), 0), (13, .ireturn, 1, 0, 0, 0, 0), (14, .iload_n 2, 1, 0, 0, 0, 0), (15, .i2l, 1, 0, 0, 0, 0), (16, .lconst 0, 1, 0, 0, 0, 0), (17, .ldc2_w 87, 3, 0, 0, 0, 2), (20, .invokestatic 81, 3, 0, 111, 0, 0), (23, .ifCond .eq 12, 3, 0, 35, 0, 0), (26, .aload_n 0, 1, 0, 0, 0, 0), (27, .iload_n 1, 1, 0, 0, 0, 0), (28, .iload_n 2, 1, 0, 0, 0, 0), (29, .invokevirtual 191, 3, 0, 166, 0, 0), (32, .goto 5, 3, 0, 37, 0, 0), (35, .bipush (-2), 2, 0, 0, (-2), 0), (37, .ireturn, 1, 0, 0, 0, 0)]
def mX8_has : Mt := (yX8_has, cX8_has, 3, (some .int), TX8_has)
def TX8_leader : List It := [(0, .aload_n 0, 1, 0, 0, 0, 0), (1, .iconst 0, 1, 0, 0, 0, 0), (2, .iload_n 1, 1, 0, 0, 0, 0), (3, .invokevirtual 191, 3, 0, 166, 0, 0), (6, .aload_n 0, 1, 0, 0, 0, 0), (7, .iconst 1, 1, 0, 0, 1, 0), (8, .iload_n 1, 1, 0, 0, 0, 0), (9, .invokevirtual 191, 3, 0, 166, 0, 0), (12, .aload_n 0, 1, 0, 0, 0, 0), (13, .iconst 2, 1, 0, 0, 2, 0), (14, .iload_n 1, 1, 0, 0, 0, 0), (15, .invokevirtual 191, 3, 0, 166, 0, 0), (18, .invokestatic 184, 3, 0, 163, 0, 0), (21, .ireturn, 1, 0, 0, 0, 0)]
def mX8_leader : Mt := (yX8_leader, cX8_leader, 2, (some .int), TX8_leader)
def TX8_ahead : List It := [(0, .aload_n 0, 1, 0, 0, 0, 0), (1, .iconst 0, 1, 0, 0, 0, 0), (2, .putfield 78, 3, 8, 0, 0, 0), (5, .iload_n 1, 1, 0, 0, 0, 0), (6, .i2l, 1, 0, 0, 0, 0), (7, .lconst 0, 1, 0, 0, 0, 0), (8, .ldc2_w 87, 3, 0, 0, 0, 2), (11, .invokestatic 81, 3, 0, 111, 0, 0), (14, .ifCond .eq 11, 3, 0, 25, 0, 0), (17, .aload_n 0, 1, 0, 0, 0, 0), (18, .iload_n 1, 1, 0, 0, 0, 0), (19, .invokevirtual 194, 3, 0, 168, 0, 0), (22, .goto 5, 3, 0, 27, 0, 0), (25, .bipush (-2), 2, 0, 0, (-2), 0), (27, .ireturn, 1, 0, 0, 0, 0)]
def mX8_ahead : Mt := (yX8_ahead, cX8_ahead, 2, (some .int), TX8_ahead)
def TX8_turn : List It := [(0, .aload_n 0, 1, 0, 0, 0, 0), (1, .iconst 0, 1, 0, 0, 0, 0), (2, .putfield 78, 3, 8, 0, 0, 0), (5, .iload_n 1, 1, 0, 0, 0, 0), (6, .invokestatic 181, 3, 0, 161, 0, 0), (9, .ifCond .eq 5, 3, 0, 14, 0, 0), (12, .iconst (-1), 1, 0, 0, (-1), 0), (13, .ireturn, 1, 0, 0, 0, 0), (14, .aload_n 0, 1, 0, 0, 0, 0), (15, .iconst 1, 1, 0, 0, 1, 0), (16, .invokevirtual 194, 3, 0, 168, 0, 0), (19, .istore_n 2, 1, 0, 0, 0, 0), (20, .iload_n 2, 1, 0, 0, 0, 0), (21, .bipush (-9), 2, 0, 0, (-9), 0), (23, .if_icmp .eq 8, 3, 0, 31, 0, 0), (26, .iload_n 2, 1, 0, 0, 0, 0), (27, .iload_n 1, 1, 0, 0, 0, 0), (28, .if_icmp .ne 6, 3, 0, 34, 0, 0), (31, .bipush (-3), 2, 0, 0, (-3), 0), (33, .ireturn, 1, 0, 0, 0, 0), (34, .iconst 3, 1, 0, 0, 3, 0), (35, .iload_n 2, 1, 0, 0, 0, 0), (36, .isub, 1, 0, 0, 0, 0), (37, .iload_n 1, 1, 0, 0, 0, 0), (38, .isub, 1, 0, 0, 0, 0), (39, .istore_n 3, 1, 0, 0, 0, 0), (40, .iconst 0, 1, 0, 0, 0, 0), (41, .istore 4, 2, 0, 0, 0, 0), (43, .iload 4, 2, 0, 0, 0, 0), (45, .bipush 6, 2, 0, 0, 6, 0), (47, .if_icmp .ge 138, 3, 0, 185, 0, 0), (50, .iconst 0, 1, 0, 0, 0, 0), (51, .istore 5, 2, 0, 0, 0, 0), (53, .iload 5, 2, 0, 0, 0, 0), (55, .iconst 4, 1, 0, 0, 4, 0), (56, .if_icmp .ge 23, 3, 0, 79, 0, 0), (59, .aload_n 0, 1, 0, 0, 0, 0), (60, .getfield 75, 3, 8, 24, 0, 2), (63, .iconst 4, 1, 0, 0, 4, 0), (64, .iload 4, 2, 0, 0, 0, 0), (66, .imul, 1, 0, 0, 0, 0), (67, .iload 5, 2, 0, 0, 0, 0), (69, .iadd, 1, 0, 0, 0, 0), (70, .ldc 146, 2, 0, 0, 1000000000, 0), (72, .iastore, 1, 0, 0, 0, 0), (73, .iinc 5 1, 3, 0, 0, 1, 0), (76, .goto (-23), 3, 0, 53, 0, 0), (79, .aload_n 0, 1, 0, 0, 0, 0), (80, .getfield 72, 3, 8, 23, 0, 2), (83, .iconst 3, 1, 0, 0, 3, 0), (84, .iload 4, 2, 0, 0, 0, 0), (86, .imul, 1, 0, 0, 0, 0), (87, .iload_n 2, 1, 0, 0, 0, 0), (88, .iadd, 1, 0, 0, 0, 0), (89, .iaload, 1, 0, 0, 0, 0), (90, .istore 5, 2, 0, 0, 0, 0), (92, .iload 5, 2, 0, 0, 0, 0), (94, .istore 6, 2, 0, 0, 0, 0), (96, .iload 6, 2, 0, 0, 0, 0), (98, .ifCond .lt 81, 3, 0, 179, 0, 0), (101, .iload 5, 2, 0, 0, 0, 0), (103, .iload 6, 2, 0, 0, 0, 0), (105, .isub, 1, 0, 0, 0, 0), (106, .istore 7, 2, 0, 0, 0, 0), (108, .aload_n 0, 1, 0, 0, 0, 0), (109, .getfield 72, 3, 8, 23, 0, 2), (112, .iconst 3, 1, 0, 0, 3, 0), (113, .iload 4, 2, 0, 0, 0, 0), (115, .imul, 1, 0, 0, 0, 0), (116, .iload_n 1, 1, 0, 0, 0, 0), (117, .iadd, 1, 0, 0, 0, 0), (118, .iaload, 1, 0, 0, 0, 0), (119, .iload 6, 2, 0, 0, 0, 0), (121, .iadd, 1, 0, 0, 0, 0), (122, .istore 8, 2, 0, 0, 0, 0), (124, .aload_n 0, 1, 0, 0, 0, 0), (125, .getfield 72, 3, 8, 23, 0, 2), (128, .iconst 3, 1, 0, 0, 3, 0), (129, .iload 4, 2, 0, 0, 0, 0), (131, .imul, 1, 0, 0, 0, 0), (132, .iload_n 3, 1, 0, 0, 0, 0), (133, .iadd, 1, 0, 0, 0, 0), (134, .iaload, 1, 0, 0, 0, 0), (135, .istore 9, 2, 0, 0, 0, 0), (137, .iload 7, 2, 0, 0, 0, 0), (139, .iload 8, 2, 0, 0, 0, 0), (141, .iload 9, 2, 0, 0, 0, 0), (143, .invokestatic 184, 3, 0, 163, 0, 0), (146, .istore 10, 2, 0, 0, 0, 0), (148, .aload_n 0, 1, 0, 0, 0, 0), (149, .getfield 75, 3, 8, 24, 0, 2), (152, .iconst 4, 1, 0, 0, 4, 0), (153, .iload 4, 2, 0, 0, 0, 0), (155, .imul, 1, 0, 0, 0, 0), (156, .iload 10, 2, 0, 0, 0, 0), (158, .bipush (-9), 2, 0, 0, (-9), 0), (160, .if_icmp .ne 7, 3, 0, 167, 0, 0), (163, .iconst 3, 1, 0, 0, 3, 0), (164, .goto 5, 3, 0, 169, 0, 0), (167, .iload 10, 2, 0, 0, 0, 0), (169, .iadd, 1, 0, 0, 0, 0), (170, .iload 6, 2, 0, 0, 0, 0), (172, .iastore, 1, 0, 0, 0, 0), (173, .iinc 6 (-1), 3, 0, 0, (-1), 0), (176, .goto (-80), 3, 0, 96, 0, 0), (179, .iinc 4 1, 3, 0, 0, 1, 0), (182, .goto (-139), 3, 0, 43, 0, 0), (185, .ldc 146, 2, 0, 0, 1000000000, 0), (187, .istore 4, 2, 0, 0, 0, 0), (189, .iconst 0, 1, 0, 0, 0, 0), (190, .istore 5, 2, 0, 0, 0, 0), (192, .iload 5, 2, 0, 0, 0, 0), (194, .sipush 4096, 3, 0, 0, 4096, 0), (197, .if_icmp .ge 183, 3, 0, 380, 0, 0), (200, .iconst 0, 1, 0, 0, 0, 0), (201, .istore 6, 2, 0, 0, 0, 0), (203, .iconst 0, 1, 0, 0, 0, 0), (204, .istore 7, 2, 0, 0, 0, 0), (206, .iconst 0, 1, 0, 0, 0, 0), (207, .istore 8, 2, 0, 0, 0, 0), (209, .iconst 0, 1, 0, 0, 0, 0), (210, .istore 9, 2, 0, 0, 0, 0), (212, .iconst 0, 1, 0, 0, 0, 0), (213, .istore 10, 2, 0, 0, 0, 0), (215, .iload 10, 2, 0, 0, 0, 0), (217, .bipush 6, 2, 0, 0, 6, 0), (219, .if_icmp .ge 125, 3, 0, 344, 0, 0), (222, .iload 5, 2, 0, 0, 0, 0), (224, .iconst 2, 1, 0, 0, 2, 0), (225, .iload 10, 2, 0, 0, 0, 0), (227, .imul, 1, 0, 0, 0, 0), (228, .ishr, 1, 0, 0, 0, 0), (229, .iconst 3, 1, 0, 0, 3, 0), (230, .iand, 1, 0, 0, 0, 0), (231, .istore 11, 2, 0, 0, 0, 0), (233, .aload_n 0, 1, 0, 0, 0, 0), (234, .iconst 1, 1, 0, 0, 1, 0), (235, .iload 10, 2, 0, 0, 0, 0), (237, .invokevirtual 106, 3, 0, 122, 0, 0), (240, .istore 12, 2, 0, 0, 0, 0), (242, .iload 6, 2, 0, 0, 0, 0), (244, .ldc 146, 2, 0, 0, 1000000000, 0), (246, .if_icmp .eq 20, 3, 0, 266, 0, 0), (249, .aload_n 0, 1, 0, 0, 0, 0), (250, .getfield 75, 3, 8, 24, 0, 2), (253, .iconst 4, 1, 0, 0, 4, 0), (254, .iload 10, 2, 0, 0, 0, 0), (256, .imul, 1, 0, 0, 0, 0), (257, .iload 11, 2, 0, 0, 0, 0), (259, .iadd, 1, 0, 0, 0, 0), (260, .iaload, 1, 0, 0, 0, 0), (261, .ldc 146, 2, 0, 0, 1000000000, 0), (263, .if_icmp .ne 8, 3, 0, 271, 0, 0), (266, .ldc 146, 2, 0, 0, 1000000000, 0), (268, .goto 18, 3, 0, 286, 0, 0), (271, .iload 6, 2, 0, 0, 0, 0), (273, .aload_n 0, 1, 0, 0, 0, 0), (274, .getfield 75, 3, 8, 24, 0, 2), (277, .iconst 4, 1, 0, 0, 4, 0), (278, .iload 10, 2, 0, 0, 0, 0), (280, .imul, 1, 0, 0, 0, 0), (281, .iload 11, 2, 0, 0, 0, 0), (283, .iadd, 1, 0, 0, 0, 0), (284, .iaload, 1, 0, 0, 0, 0), (285, .iadd, 1, 0, 0, 0, 0), (286, .istore 6, 2, 0, 0, 0, 0), (288, .iload 7, 2, 0, 0, 0, 0), (290, .iload 11, 2, 0, 0, 0, 0), (292, .ifCond .ne 8, 3, 0, 300, 0, 0), (295, .iload 12, 2, 0, 0, 0, 0), (297, .goto 4, 3, 0, 301, 0, 0), (300, .iconst 0, 1, 0, 0, 0, 0), (301, .iadd, 1, 0, 0, 0, 0), (302, .istore 7, 2, 0, 0, 0, 0), (304, .iload 8, 2, 0, 0, 0, 0), (306, .iload 11, 2, 0, 0, 0, 0), (308, .iconst 1, 1, 0, 0, 1, 0), (309, .if_icmp .ne 8, 3, 0, 317, 0, 0), (312, .iload 12, 2, 0, 0, 0, 0), (314, .goto 4, 3, 0, 318, 0, 0), (317, .iconst 0, 1, 0, 0, 0, 0), (318, .iadd, 1, 0, 0, 0, 0), (319, .istore 8, 2, 0, 0, 0, 0), (321, .iload 9, 2, 0, 0, 0, 0), (323, .iload 11, 2, 0, 0, 0, 0), (325, .iconst 2, 1, 0, 0, 2, 0), (326, .if_icmp .ne 8, 3, 0, 334, 0, 0), (329, .iload 12, 2, 0, 0, 0, 0), (331, .goto 4, 3, 0, 335, 0, 0), (334, .iconst 0, 1, 0, 0, 0, 0), (335, .iadd, 1, 0, 0, 0, 0), (336, .istore 9, 2, 0, 0, 0, 0), (338, .iinc 10 1, 3, 0, 0, 1, 0), (341, .goto (-126), 3, 0, 215, 0, 0), (344, .iload 8, 2, 0, 0, 0, 0), (346, .iload 7, 2, 0, 0, 0, 0), (348, .if_icmp .le 22, 3, 0, 370, 0, 0), (351, .iload 8, 2, 0, 0, 0, 0), (353, .iload 9, 2, 0, 0, 0, 0), (355, .if_icmp .le 15, 3, 0, 370, 0, 0), (358, .iload 6, 2, 0, 0, 0, 0), (360, .iload 4, 2, 0, 0, 0, 0), (362, .if_icmp .ge 8, 3, 0, 370, 0, 0), (365, .iload 6, 2, 0, 0, 0, 0), (367, .goto 5, 3, 0, 372, 0, 0), (370, .iload 4, 2, 0, 0, 0, 0), (372, .istore 4, 2, 0, 0, 0, 0), (374, .iinc 5 1, 3, 0, 0, 1, 0), (377, .goto (-185), 3, 0, 192, 0, 0), (380, .iload 4, 2, 0, 0, 0, 0), (382, .ldc 146, 2, 0, 0, 1000000000, 0), (384, .if_icmp .ne 8, 3, 0, 392, 0, 0), (387, .bipush (-9), 2, 0, 0, (-9), 0), (389, .goto 5, 3, 0, 394, 0, 0), (392, .iload 4, 2, 0, 0, 0, 0), (394, .ireturn, 1, 0, 0, 0, 0)]
def mX8_turn : Mt := (yX8_turn, cX8_turn, 13, (some .int), TX8_turn)
def TX8_count : List It := [(0, .aload_n 0, 1, 0, 0, 0, 0), (1, .iconst 0, 1, 0, 0, 0, 0), (2, .putfield 78, 3, 8, 0, 0, 0), (5, .iconst 0, 1, 0, 0, 0, 0), (6, .istore_n 2, 1, 0, 0, 0, 0), (7, .iconst 0, 1, 0, 0, 0, 0), (8, .istore_n 3, 1, 0, 0, 0, 0), (9, .iconst 0, 1, 0, 0, 0, 0), (10, .istore 4, 2, 0, 0, 0, 0), (12, .iload 4, 2, 0, 0, 0, 0), (14, .bipush 6, 2, 0, 0, 6, 0), (16, .if_icmp .ge 36, 3, 0, 52, 0, 0), (19, .iload_n 2, 1, 0, 0, 0, 0), (20, .aload_n 0, 1, 0, 0, 0, 0), (21, .getfield 23, 3, 8, 5, 0, 2), (24, .iload 4, 2, 0, 0, 0, 0), (26, .iaload, 1, 0, 0, 0, 0), (27, .iadd, 1, 0, 0, 0, 0), (28, .istore_n 2, 1, 0, 0, 0, 0), (29, .iload_n 3, 1, 0, 0, 0, 0), (30, .aload_n 0, 1, 0, 0, 0, 0), (31, .iload 4, 2, 0, 0, 0, 0), (33, .invokevirtual 169, 3, 0, 155, 0, 0), (36, .ifCond .eq 7, 3, 0, 43, 0, 0), (39, .iconst 1, 1, 0, 0, 1, 0), (40, .goto 4, 3, 0, 44, 0, 0), (43, .iconst 0, 1, 0, 0, 0, 0), (44, .iadd, 1, 0, 0, 0, 0), (45, .istore_n 3, 1, 0, 0, 0, 0), (46, .iinc 4 1, 3, 0, 0, 1, 0), (49, .goto (-37), 3, 0, 12, 0, 0), (52, .iload_n 1, 1, 0, 0, 0, 0), (53, .tableswitch 85 0 4 #[35, 45, 63, 81, 83], 35, 0, 0, 0, 0), (88, .aload_n 0, 1, 0, 0, 0, 0), (89, .getfield 7, 3, 8, 1, 0, 0), (92, .aload_n 0, 1, 0, 0, 0, 0), (93, .getfield 13, 3, 8, 2, 0, 0), (96, .imul, 1, 0, 0, 0, 0), (97, .ireturn, 1, 0, 0, 0, 0), (98, .aload_n 0, 1, 0, 0, 0, 0), (99, .getfield 7, 3, 8, 1, 0, 0), (102, .aload_n 0, 1, 0, 0, 0, 0), (103, .getfield 13, 3, 8, 2, 0, 0), (106, .imul, 1, 0, 0, 0, 0), (107, .aload_n 0, 1, 0, 0, 0, 0), (108, .iconst 0, 1, 0, 0, 0, 0), (109, .bipush 6, 2, 0, 0, 6, 0), (111, .invokevirtual 106, 3, 0, 122, 0, 0), (114, .isub, 1, 0, 0, 0, 0), (115, .ireturn, 1, 0, 0, 0, 0), (116, .aload_n 0, 1, 0, 0, 0, 0), (117, .getfield 7, 3, 8, 1, 0, 0), (120, .aload_n 0, 1, 0, 0, 0, 0), (121, .getfield 13, 3, 8, 2, 0, 0), (124, .imul, 1, 0, 0, 0, 0), (125, .aload_n 0, 1, 0, 0, 0, 0), (126, .iconst 1, 1, 0, 0, 1, 0), (127, .bipush 6, 2, 0, 0, 6, 0), (129, .invokevirtual 106, 3, 0, 122, 0, 0), (132, .isub, 1, 0, 0, 0, 0), (133, .ireturn, 1, 0, 0, 0, 0), (134, .iload_n 2, 1, 0, 0, 0, 0), (135, .ireturn, 1, 0, 0, 0, 0), (136, .iload_n 3, 1, 0, 0, 0, 0), (137, .ireturn, 1, 0, 0, 0, 0), (138, .bipush (-2), 2, 0, 0, (-2), 0), (140, .ireturn, 1, 0, 0, 0, 0)]
def mX8_count : Mt := (yX8_count, cX8_count, 5, (some .int), TX8_count)
def TJ13_bitCount_95d88 : List It := [(0, .lload_n 0, 1, 0, 0, 0, 0), (1, .lload_n 0, 1, 0, 0, 0, 0), (2, .iconst 1, 1, 0, 0, 1, 0), (3, .lushr, 1, 0, 0, 0, 0), (4, .ldc2_w 314, 3, 0, 0, 0, 6148914691236517205), (7, .land, 1, 0, 0, 0, 0), (8, .lsub, 1, 0, 0, 0, 0), (9, .lstore_n 0, 1, 0, 0, 0, 0), (10, .lload_n 0, 1, 0, 0, 0, 0), (11, .ldc2_w 316, 3, 0, 0, 0, 3689348814741910323), (14, .land, 1, 0, 0, 0, 0), (15, .lload_n 0, 1, 0, 0, 0, 0), (16, .iconst 2, 1, 0, 0, 2, 0), (17, .lushr, 1, 0, 0, 0, 0), (18, .ldc2_w 316, 3, 0, 0, 0, 3689348814741910323), (21, .land, 1, 0, 0, 0, 0), (22, .ladd, 1, 0, 0, 0, 0), (23, .lstore_n 0, 1, 0, 0, 0, 0), (24, .lload_n 0, 1, 0, 0, 0, 0), (25, .lload_n 0, 1, 0, 0, 0, 0), (26, .iconst 4, 1, 0, 0, 4, 0), (27, .lushr, 1, 0, 0, 0, 0), (28, .ladd, 1, 0, 0, 0, 0), (29, .ldc2_w 318, 3, 0, 0, 0, 1085102592571150095), (32, .land, 1, 0, 0, 0, 0), (33, .lstore_n 0, 1, 0, 0, 0, 0), (34, .lload_n 0, 1, 0, 0, 0, 0), (35, .lload_n 0, 1, 0, 0, 0, 0), (36, .bipush 8, 2, 0, 0, 8, 0), (38, .lushr, 1, 0, 0, 0, 0), (39, .ladd, 1, 0, 0, 0, 0), (40, .lstore_n 0, 1, 0, 0, 0, 0), (41, .lload_n 0, 1, 0, 0, 0, 0), (42, .lload_n 0, 1, 0, 0, 0, 0), (43, .bipush 16, 2, 0, 0, 16, 0), (45, .lushr, 1, 0, 0, 0, 0), (46, .ladd, 1, 0, 0, 0, 0), (47, .lstore_n 0, 1, 0, 0, 0, 0), (48, .lload_n 0, 1, 0, 0, 0, 0), (49, .lload_n 0, 1, 0, 0, 0, 0), (50, .bipush 32, 2, 0, 0, 32, 0), (52, .lushr, 1, 0, 0, 0, 0), (53, .ladd, 1, 0, 0, 0, 0), (54, .lstore_n 0, 1, 0, 0, 0, 0), (55, .lload_n 0, 1, 0, 0, 0, 0), (56, .l2i, 1, 0, 0, 0, 0), (57, .bipush 127, 2, 0, 0, 127, 0), (59, .iand, 1, 0, 0, 0, 0), (60, .ireturn, 1, 0, 0, 0, 0)]
def mJ13_bitCount_95d88 : Mt := (yJ13_bitCount_95d88, cJ13_bitCount_95d88, 2, (some .int), TJ13_bitCount_95d88)
def TJ9_abs_0f7a4 : List It := [(0, .iload_n 0, 1, 0, 0, 0, 0), (1, .ifCond .ge 8, 3, 0, 9, 0, 0), (4, .iload_n 0, 1, 0, 0, 0, 0), (5, .ineg, 1, 0, 0, 0, 0), (6, .goto 4, 3, 0, 10, 0, 0), (9, .iload_n 0, 1, 0, 0, 0, 0), (10, .ireturn, 1, 0, 0, 0, 0)]
def mJ9_abs_0f7a4 : Mt := (yJ9_abs_0f7a4, cJ9_abs_0f7a4, 1, (some .int), TJ9_abs_0f7a4)
def TJ9_max_7cf53 : List It := [(0, .iload_n 0, 1, 0, 0, 0, 0), (1, .iload_n 1, 1, 0, 0, 0, 0), (2, .if_icmp .lt 7, 3, 0, 9, 0, 0), (5, .iload_n 0, 1, 0, 0, 0, 0), (6, .goto 4, 3, 0, 10, 0, 0), (9, .iload_n 1, 1, 0, 0, 0, 0), (10, .ireturn, 1, 0, 0, 0, 0)]
def mJ9_max_7cf53 : Mt := (yJ9_max_7cf53, cJ9_max_7cf53, 2, (some .int), TJ9_max_7cf53)
def TJ9_min_7cf53 : List It := [(0, .iload_n 0, 1, 0, 0, 0, 0), (1, .iload_n 1, 1, 0, 0, 0, 0), (2, .if_icmp .gt 7, 3, 0, 9, 0, 0), (5, .iload_n 0, 1, 0, 0, 0, 0), (6, .goto 4, 3, 0, 10, 0, 0), (9, .iload_n 1, 1, 0, 0, 0, 0), (10, .ireturn, 1, 0, 0, 0, 0)]
def mJ9_min_7cf53 : Mt := (yJ9_min_7cf53, cJ9_min_7cf53, 2, (some .int), TJ9_min_7cf53)
def TJ7_fill_d0a16 : List It := [(0, .iconst 0, 1, 0, 0, 0, 0), (1, .istore_n 3, 1, 0, 0, 0, 0), (2, .aload_n 0, 1, 0, 0, 0, 0), (3, .arraylength, 1, 0, 0, 0, 0), (4, .istore 4, 2, 0, 0, 0, 0), (6, .iload_n 3, 1, 0, 0, 0, 0), (7, .iload 4, 2, 0, 0, 0, 0), (9, .if_icmp .ge 13, 3, 0, 22, 0, 0), (12, .aload_n 0, 1, 0, 0, 0, 0), (13, .iload_n 3, 1, 0, 0, 0, 0), (14, .lload_n 1, 1, 0, 0, 0, 0), (15, .lastore, 1, 0, 0, 0, 0), (16, .iinc 3 1, 3, 0, 0, 1, 0), (19, .goto (-13), 3, 0, 6, 0, 0), (22, .return_, 1, 0, 0, 0, 0)]
def mJ7_fill_d0a16 : Mt := (yJ7_fill_d0a16, cJ7_fill_d0a16, 5, none, TJ7_fill_d0a16)
def TJ7_fill_53178 : List It := [(0, .iconst 0, 1, 0, 0, 0, 0), (1, .istore_n 2, 1, 0, 0, 0, 0), (2, .aload_n 0, 1, 0, 0, 0, 0), (3, .arraylength, 1, 0, 0, 0, 0), (4, .istore_n 3, 1, 0, 0, 0, 0), (5, .iload_n 2, 1, 0, 0, 0, 0), (6, .iload_n 3, 1, 0, 0, 0, 0), (7, .if_icmp .ge 13, 3, 0, 20, 0, 0), (10, .aload_n 0, 1, 0, 0, 0, 0), (11, .iload_n 2, 1, 0, 0, 0, 0), (12, .iload_n 1, 1, 0, 0, 0, 0), (13, .iastore, 1, 0, 0, 0, 0), (14, .iinc 2 1, 3, 0, 0, 1, 0), (17, .goto (-12), 3, 0, 5, 0, 0), (20, .return_, 1, 0, 0, 0, 0)]
def mJ7_fill_53178 : Mt := (yJ7_fill_53178, cJ7_fill_53178, 4, none, TJ7_fill_53178)
end
section
/-! THE MACHINE IN SMALL: a memory of numbers over a graph of cells; a step of an instruction as a function; the walk AW and the contract AC over the kit's W and Met -/
abbrev Mem : Type := (Nat → Nat → Int32) × (Nat → Nat → Int64)
/-- a cell's shape: an array (type 0 int, 1 long, 2 boolean; length), or an object (class, its fields: 0 int, 1 long, 2 null, k + 3 the cell k) -/
abbrev Shp : Type := (Nat × Nat) ⊕ (Nat × List Nat)
/-- where the cells begin, the classes, the array classes -/
abbrev Cx : Type := Nat × va_G × (Nat → ClassId)
def am_v (b : Nat) (v : Value) : Value := match v with
  | .ref k => .ref (b + k)
  | w => w
def am_u (M : Mem) (a j c : Nat) : Value := match c with
  | 0 => .int (M.1 a j)
  | 1 => .long (M.2 a j)
  | 2 => .null
  | k + 3 => .ref k
def am_e (X : Cx) (M : Mem) (a : Nat) (h : Shp) : va_E := match h with
  | .inl (t, n) => .inl (X.2.2 t, n, match t with
    | 1 => .inr (.inl (M.2 a))
    | _ => .inl (M.1 a))
  | .inr (ci, cs) => .inr (ci, cs.mapIdx (fun j c => am_v X.1 (am_u M a j c)))
def am_w (X : Cx) (G : List Shp) (M : Mem) : va_W := G.mapIdx (fun a h => (X.1 + a, am_e X M a h))
theorem am_w_at {X : Cx} {G : List Shp} {M : Mem} {a : Nat} {h : Shp} (hG : G[a]? = some h) : (am_w X G M)[a]? = some (X.1 + a, am_e X M a h) := by
  simp [am_w, List.getElem?_mapIdx, hG]
theorem am_w_of {X : Cx} {G : List Shp} {M : Mem} {k : Nat} {q : Nat × va_E} (h : (am_w X G M)[k]? = some q) : ∃ g, G[k]? = some g ∧ q = (X.1 + k, am_e X M k g) := by
  simp only [am_w, List.getElem?_mapIdx] at h
  cases hg : G[k]? with
  | none => rw [hg] at h; simp at h
  | some g => rw [hg] at h; simp at h; exact ⟨g, rfl, h.symm⟩
abbrev am_A (X : Cx) : Nat → Prop := fun q => X.1 ≤ q
theorem am_D (X : Cx) (G : List Shp) (M : Mem) : va_D (am_A X) (am_w X G M) := by
  refine ⟨fun i j p q hi hj hpq => ?_, fun k q hk => ?_⟩
  · obtain ⟨g, -, rfl⟩ := am_w_of hi
    obtain ⟨g2, -, rfl⟩ := am_w_of hj
    dsimp only at hpq
    omega
  · obtain ⟨g, -, rfl⟩ := am_w_of hk
    exact Nat.le_add_right _ _
/-- a store changes one cell -/
theorem am_w_set {X : Cx} {G : List Shp} {M M' : Mem} {a : Nat} {h : Shp} {e : va_E} (hG : G[a]? = some h) (he : am_e X M' a h = e) (ho : ∀ b, b ≠ a → M'.1 b = M.1 b ∧ M'.2 b = M.2 b) : (am_w X G M).set a (X.1 + a, e) = am_w X G M' := by
  apply List.ext_getElem?
  intro k
  by_cases hk : k = a
  · subst hk
    have hl : k < (am_w X G M).length := by
      have := am_w_at (X := X) (M := M) hG
      exact (List.getElem?_eq_some_iff.mp this).1
    rw [List.getElem?_set_self hl, am_w_at hG, he]
  · rw [List.getElem?_set_ne (Ne.symm hk)]
    simp only [am_w, List.getElem?_mapIdx]
    cases G[k]? with
    | none => rfl
    | some g =>
      have h1 := ho k hk
      have : am_e X M k g = am_e X M' k g := by
        cases g with
        | inl x => obtain ⟨t, n⟩ := x; simp only [am_e, h1.1, h1.2]
        | inr x =>
          obtain ⟨ci, cs⟩ := x
          simp only [am_e]
          congr 2
          congr 1
          funext j c
          unfold am_u
          rw [h1.1, h1.2]
      simp [this]
/-- the heap holds the memory; s the method's start, kc the cells made since -/
def am_H (X : Cx) (G : List Shp) (M : Mem) (kc : Nat) (s : State) (H : Heap) (locs : List Loc) : Prop := va_P X.2.1 vwCl (am_w X G M) H ∧ s.heap.size + kc = X.1 + G.length ∧ va_S (am_A X) s.heap H locs
theorem am_H.ge {X : Cx} {G : List Shp} {M : Mem} {kc : Nat} {s : State} {H : Heap} {locs : List Loc} (h : am_H X G M kc s H locs) (hb : X.1 ≤ s.heap.size) : X.1 + G.length ≤ H.size := by
  cases hn : G.length with
  | zero => exact Nat.le_trans hb h.2.2.1
  | succ n =>
    have hl : n < G.length := by omega
    have := (h.1 n _ (am_w_at (X := X) (M := M) (List.getElem?_eq_getElem hl))).lt
    exact this
def am_K (X : Cx) (s : State) : Prop := va_K X.2.1 vwCl [(X.2.2 0, .int), (X.2.2 1, .long), (X.2.2 2, .boolean)] s ∧ ∀ q ∈ nl_tbl, va_Nw (.methodLinkNest q.1 q.2.1 q.2.2 "PeopleLands") s
theorem am_K.warm {X : Cx} {s U : State} (hW : s.WarmedH U.vm) (h : am_K X s) : am_K X U := ⟨va_K.moved hW.alike h.1, fun q hq => va_Nw.warmM hW (h.2 q hq)⟩
theorem am_K.same {X : Cx} {s U : State} (he : s.vm = U.vm) (h : am_K X s) : am_K X U := ⟨va_K.moved (by rw [← he]; exact Vm.Alike.refl s.vm) h.1, fun q hq => va_Nw.same rfl he (h.2 q hq)⟩
/-! locals -/
def am_g : List Value → Nat → Value
  | [], _ => .null
  | v :: _, 0 => v
  | _ :: L, n + 1 => am_g L n
def am_h : List Value → Nat → Bool
  | [], _ => false
  | _ :: _, 0 => true
  | _ :: L, n + 1 => am_h L n
def am_s : List Value → Nat → Value → List Value
  | [], _, _ => []
  | _ :: L, 0, v => v :: L
  | u :: L, n + 1, v => u :: am_s L n v
def am_c (L : List Value) (i : Nat) : List Value := match i with
  | 0 => L
  | i + 1 => match am_g L i with
    | .long _ => am_s L i .null
    | .double _ => am_s L i .null
    | _ => L
theorem am_s_len : ∀ (L : List Value) (i : Nat) (v : Value), (am_s L i v).length = L.length
  | [], _, _ => rfl
  | _ :: _, 0, _ => rfl
  | _ :: L, n + 1, v => by simp [am_s, am_s_len L n v]
theorem am_s_get : ∀ (L : List Value) (i : Nat) (v : Value) (j : Nat), am_g (am_s L i v) j = if j = i ∧ i < L.length then v else am_g L j
  | [], i, v, j => by simp [am_s, am_g]
  | u :: L, 0, v, 0 => by simp [am_s, am_g]
  | u :: L, 0, v, j + 1 => by simp [am_s, am_g]
  | u :: L, n + 1, v, 0 => by simp [am_s, am_g]
  | u :: L, n + 1, v, j + 1 => by simp [am_s, am_g, am_s_get L n v j]
theorem am_h_lt : ∀ {L : List Value} {i : Nat}, am_h L i = true → i < L.length
  | [], _, h => by simp [am_h] at h
  | _ :: _, 0, _ => by simp
  | _ :: L, n + 1, h => by have := am_h_lt (L := L) (i := n) h; simp; omega
theorem am_c_len (L : List Value) (i : Nat) : (am_c L i).length = L.length := by
  unfold am_c
  split
  · rfl
  · split <;> first | rfl | exact am_s_len _ _ _
theorem am_c_get (L : List Value) (i j : Nat) (h : am_g (am_c L i) j ≠ .null) : am_g (am_c L i) j = am_g L j ∧ ¬ (j + 1 = i ∧ (am_g L j).category = 2) := by
  unfold am_c at h ⊢
  split at h
  · exact ⟨rfl, fun q => by omega⟩
  · rename_i i
    split at h
    · rename_i x hx
      rw [am_s_get] at h ⊢
      by_cases hj : j = i ∧ i < L.length
      · rw [if_pos hj] at h; exact absurd rfl h
      · rw [if_neg hj] at h ⊢
        refine ⟨rfl, fun q => hj ⟨by omega, ?_⟩⟩
        have e : j = i := by omega
        subst e
        rcases Nat.lt_or_ge j L.length with z | z
        · exact z
        · exfalso
          have : ∀ (L : List Value) (j : Nat), L.length ≤ j → am_g L j = .null := by
            intro L
            induction L with
            | nil => intro j _; rfl
            | cons u L ih =>
              intro j hj
              cases j with
              | zero => simp at hj
              | succ j => exact ih j (by simpa using hj)
          exact h (this L j z)
    · rename_i x hx
      rw [am_s_get] at h ⊢
      by_cases hj : j = i ∧ i < L.length
      · rw [if_pos hj] at h; exact absurd rfl h
      · rw [if_neg hj] at h ⊢
        refine ⟨rfl, fun q => hj ⟨by omega, ?_⟩⟩
        have e : j = i := by omega
        subst e
        rcases Nat.lt_or_ge j L.length with z | z
        · exact z
        · exfalso
          have : ∀ (L : List Value) (j : Nat), L.length ≤ j → am_g L j = .null := by
            intro L
            induction L with
            | nil => intro j _; rfl
            | cons u L ih =>
              intro j hj
              cases j with
              | zero => simp at hj
              | succ j => exact ih j (by simpa using hj)
          exact h (this L j z)
    · rename_i h1 h2
      refine ⟨rfl, fun q => ?_⟩
      have e : j = i := by omega
      subst e
      cases hv : am_g L j <;> simp_all [Value.category]
def am_L (X : Cx) (n : Nat) (L : List Value) (ls : Array Slot) : Prop := L.length = n ∧ ls.size = n ∧ lv_wf ls ∧ ∀ i, am_g L i ≠ .null → ls[i]? = some (.val (am_v X.1 (am_g L i)))
/-- the list of known locals, as the kit's rows take it -/
def am_l (X : Cx) (L : List Value) : List (Nat × Value) := (List.range L.length).filterMap (fun i => match am_g L i with
  | .null => none
  | v => some (i, am_v X.1 v))
theorem am_l_mem {X : Cx} {L : List Value} {q : Nat × Value} (h : q ∈ am_l X L) : am_g L q.1 ≠ .null ∧ q.2 = am_v X.1 (am_g L q.1) := by
  obtain ⟨i, -, hi⟩ := List.mem_filterMap.mp h
  split at hi
  · cases hi
  · rename_i hne
    cases hi
    exact ⟨hne, rfl⟩
theorem am_l_in {X : Cx} {L : List Value} {i : Nat} (hi : i < L.length) (h : am_g L i ≠ .null) : (i, am_v X.1 (am_g L i)) ∈ am_l X L := by
  refine List.mem_filterMap.mpr ⟨i, List.mem_range.mpr hi, ?_⟩
  split
  · rename_i e; exact absurd e h
  · rfl
theorem am_g_lt : ∀ {L : List Value} {i : Nat}, am_g L i ≠ .null → i < L.length
  | [], _, h => absurd rfl h
  | _ :: _, 0, _ => by simp
  | _ :: L, n + 1, h => by have := am_g_lt (L := L) (i := n) h; simp; omega
theorem am_v_cat (b : Nat) (v : Value) : (am_v b v).category = v.category := by cases v <;> rfl
theorem am_v_null {b : Nat} {v : Value} (h : am_v b v = .null) : v = .null := by cases v <;> simp_all [am_v]
theorem am_L.has {X : Cx} {n : Nat} {L : List Value} {ls : Array Slot} (h : am_L X n L ls) : lv_has ls n (am_l X L) := by
  refine ⟨h.2.1, h.2.2.1, fun q hq => ?_⟩
  obtain ⟨h1, h2⟩ := am_l_mem hq
  rw [h2]
  exact h.2.2.2 q.1 h1
theorem am_L.st1 {X : Cx} {n i : Nat} {L : List Value} {ls ls' : Array Slot} {v : Value} (h : am_L X n L ls) (hi : am_h L i = true) (hv : v ≠ .null)
    (h' : lv_has ls' n ((i, am_v X.1 v) :: (am_l X L).filter (fun q => !(q.1 == i) && !(q.1 + 1 == i && q.2.category == 2)))) : am_L X n (am_s (am_c L i) i v) ls' := by
  have hl := am_h_lt hi
  refine ⟨by rw [am_s_len, am_c_len]; exact h.1, h'.1, h'.2.1, fun j hj => ?_⟩
  rw [am_s_get, am_c_len] at hj ⊢
  by_cases e : j = i
  · subst e
    rw [if_pos ⟨rfl, hl⟩]
    exact h'.2.2 _ List.mem_cons_self
  · rw [if_neg (fun q => e q.1)] at hj ⊢
    obtain ⟨h1, h2⟩ := am_c_get L i j hj
    rw [h1] at hj ⊢
    refine h'.2.2 (j, am_v X.1 (am_g L j)) (List.mem_cons_of_mem _ (List.mem_filter.mpr ⟨am_l_in (am_g_lt hj) hj, ?_⟩))
    simp only [am_v_cat, Bool.and_eq_true, Bool.not_eq_true', beq_eq_false_iff_ne, Bool.and_eq_false_iff]
    refine ⟨e, ?_⟩
    by_cases e2 : j + 1 = i
    · exact Or.inr (fun z => h2 ⟨e2, z⟩)
    · exact Or.inl e2
theorem am_L.st2 {X : Cx} {n i : Nat} {L : List Value} {ls ls' : Array Slot} {v : Value} (h : am_L X n L ls) (hi : am_h L (i + 1) = true) (hv : v ≠ .null)
    (h' : lv_has ls' n ((i, am_v X.1 v) :: (am_l X L).filter (fun q => !(q.1 == i) && (!(q.1 == i + 1) && !(q.1 + 1 == i && q.2.category == 2))))) : am_L X n (am_s (am_s (am_c L i) i v) (i + 1) .null) ls' := by
  have hl := am_h_lt hi
  refine ⟨by rw [am_s_len, am_s_len, am_c_len]; exact h.1, h'.1, h'.2.1, fun j hj => ?_⟩
  rw [am_s_get, am_s_len, am_c_len] at hj ⊢
  by_cases e : j = i + 1
  · rw [if_pos ⟨e, hl⟩] at hj; exact absurd rfl hj
  rw [if_neg (fun q => e q.1)] at hj ⊢
  rw [am_s_get, am_c_len] at hj ⊢
  by_cases e : j = i
  · subst e
    rw [if_pos ⟨rfl, by omega⟩]
    exact h'.2.2 _ List.mem_cons_self
  · rw [if_neg (fun q => e q.1)] at hj ⊢
    obtain ⟨h1, h2⟩ := am_c_get L i j hj
    rw [h1] at hj ⊢
    refine h'.2.2 (j, am_v X.1 (am_g L j)) (List.mem_cons_of_mem _ (List.mem_filter.mpr ⟨am_l_in (am_g_lt hj) hj, ?_⟩))
    simp only [am_v_cat, Bool.and_eq_true, Bool.not_eq_true', beq_eq_false_iff_ne, Bool.and_eq_false_iff]
    refine ⟨e, by omega, ?_⟩
    by_cases e2 : j + 1 = i
    · exact Or.inr (fun z => h2 ⟨e2, z⟩)
    · exact Or.inl e2
def am_sl : List Value → List Value
  | [] => []
  | .long x :: vs => .long x :: .null :: am_sl vs
  | .double x :: vs => .double x :: .null :: am_sl vs
  | v :: vs => v :: am_sl vs
def am_ent (n : Nat) (vs : List Value) : List Value := am_sl vs ++ List.replicate (n - (am_sl vs).length) .null
theorem am_sl_len (b : Nat) : ∀ vs : List Value, (lg_sl (vs.map (am_v b))).length = (am_sl vs).length
  | [] => rfl
  | v :: vs => by
    have ih := am_sl_len b vs
    cases v <;> simp_all [lg_sl, am_sl, am_v, Value.category]
theorem am_sl_get (b : Nat) : ∀ (vs : List Value) (r : List Slot) (k i : Nat), am_g (am_sl vs ++ List.replicate k .null) i ≠ .null → (lg_sl (vs.map (am_v b)) ++ r)[i]? = some (.val (am_v b (am_g (am_sl vs ++ List.replicate k .null) i)))
  | [], r, k, i, h => by
    exfalso
    have : ∀ (k i : Nat), am_g (List.replicate k .null) i = .null := by
      intro k
      induction k with
      | zero => intro i; rfl
      | succ k ih =>
        intro i
        cases i with
        | zero => rfl
        | succ i => exact ih i
    exact h (this k i)
  | v :: vs, r, k, i, h => by
    have ih := am_sl_get b vs r k
    cases v with
    | long x =>
      cases i with
      | zero => rfl
      | succ i => cases i with
        | zero => exact absurd rfl h
        | succ i => exact ih i h
    | double x =>
      cases i with
      | zero => rfl
      | succ i => cases i with
        | zero => exact absurd rfl h
        | succ i => exact ih i h
    | _ =>
      cases i with
      | zero => rfl
      | succ i => exact ih i h
theorem am_L.entry (X : Cx) (vs : List Value) (n : Nat) (h : (am_sl vs).length ≤ n) : am_L X n (am_ent n vs) (lg_sl (vs.map (am_v X.1)) ++ List.replicate (n - (lg_sl (vs.map (am_v X.1))).length) Slot.unset).toArray := by
  have h1 := lv_entry (vs.map (am_v X.1)) (n := n) (by rw [am_sl_len]; exact h)
  refine ⟨?_, h1.1, h1.2.1, fun i hi => ?_⟩
  · simp [am_ent]; omega
  · rw [List.getElem?_toArray]
    exact am_sl_get X.1 vs _ _ i hi
end
section
/-! one instruction as a function: what it asks, the locals, the stack, the memory behind it -/
def am_fc {α : Type} : List Value → (List Value → α) → α
  | [], k => k []
  | v :: L, k => match v with
    | .int x => am_fc L (fun L => k (.int x :: L))
    | .long x => am_fc L (fun L => k (.long x :: L))
    | .ref x => am_fc L (fun L => k (.ref x :: L))
    | w => am_fc L (fun L => k (w :: L))
theorem am_fc_eq {α : Type} : ∀ (L : List Value) (k : List Value → α), am_fc L k = k L
  | [], _ => rfl
  | v :: L, k => by cases v <;> simp [am_fc, am_fc_eq L]
abbrev Ot : Type := Option (Option Prop × List Value × List Value × Mem)
def am_sh : List Shp → Nat → Option Shp
  | [], _ => none
  | h :: _, 0 => some h
  | _ :: G, n + 1 => am_sh G n
theorem am_sh_eq : ∀ (G : List Shp) (a : Nat), am_sh G a = G[a]?
  | [], _ => rfl
  | _ :: _, 0 => rfl
  | _ :: G, n + 1 => by simp [am_sh, am_sh_eq G n]
def am_nth : List Nat → Nat → Option Nat
  | [], _ => none
  | h :: _, 0 => some h
  | _ :: G, n + 1 => am_nth G n
theorem am_nth_eq : ∀ (G : List Nat) (a : Nat), am_nth G a = G[a]?
  | [], _ => rfl
  | _ :: _, 0 => rfl
  | _ :: G, n + 1 => by simp [am_nth, am_nth_eq G n]
def am_x (G : List Shp) (q : It) (L S : List Value) (M : Mem) : Ot := match q with
  | (_, i, _, ci, k, v, w) => match i with
    | .iconst _ => some (none, L, .int v :: S, M)
    | .bipush _ => some (none, L, .int v :: S, M)
    | .sipush _ => some (none, L, .int v :: S, M)
    | .ldc _ => some (none, L, .int v :: S, M)
    | .lconst _ => some (none, L, .long w :: S, M)
    | .ldc2_w _ => some (none, L, .long w :: S, M)
    | .iload j => match am_g L j with
      | .int x => some (none, L, .int x :: S, M)
      | _ => none
    | .iload_n j => match am_g L j.val with
      | .int x => some (none, L, .int x :: S, M)
      | _ => none
    | .lload j => match am_g L j with
      | .long x => some (none, L, .long x :: S, M)
      | _ => none
    | .lload_n j => match am_g L j.val with
      | .long x => some (none, L, .long x :: S, M)
      | _ => none
    | .aload j => match am_g L j with
      | .ref x => some (none, L, .ref x :: S, M)
      | _ => none
    | .aload_n j => match am_g L j.val with
      | .ref x => some (none, L, .ref x :: S, M)
      | _ => none
    | .istore j => match S with
      | .int x :: S => match am_h L j with
        | true => am_fc (am_s (am_c L j) j (.int x)) (fun L => some (none, L, S, M))
        | false => none
      | _ => none
    | .istore_n j => match S with
      | .int x :: S => match am_h L j.val with
        | true => am_fc (am_s (am_c L j.val) j.val (.int x)) (fun L => some (none, L, S, M))
        | false => none
      | _ => none
    | .astore j => match S with
      | .ref x :: S => match am_h L j with
        | true => am_fc (am_s (am_c L j) j (.ref x)) (fun L => some (none, L, S, M))
        | false => none
      | _ => none
    | .astore_n j => match S with
      | .ref x :: S => match am_h L j.val with
        | true => am_fc (am_s (am_c L j.val) j.val (.ref x)) (fun L => some (none, L, S, M))
        | false => none
      | _ => none
    | .lstore j => match S with
      | .long x :: S => match am_h L (j + 1) with
        | true => am_fc (am_s (am_s (am_c L j) j (.long x)) (j + 1) .null) (fun L => some (none, L, S, M))
        | false => none
      | _ => none
    | .lstore_n j => match S with
      | .long x :: S => match am_h L (j.val + 1) with
        | true => am_fc (am_s (am_s (am_c L j.val) j.val (.long x)) (j.val + 1) .null) (fun L => some (none, L, S, M))
        | false => none
      | _ => none
    | .iinc j _ => match am_g L j with
      | .int x => am_fc (am_s (am_c L j) j (.int (x + v))) (fun L => some (none, L, S, M))
      | _ => none
    | .iadd => match S with
      | .int y :: .int x :: S => some (none, L, .int (x + y) :: S, M)
      | _ => none
    | .isub => match S with
      | .int y :: .int x :: S => some (none, L, .int (x - y) :: S, M)
      | _ => none
    | .imul => match S with
      | .int y :: .int x :: S => some (none, L, .int (x * y) :: S, M)
      | _ => none
    | .iand => match S with
      | .int y :: .int x :: S => some (none, L, .int (x &&& y) :: S, M)
      | _ => none
    | .ior => match S with
      | .int y :: .int x :: S => some (none, L, .int (x ||| y) :: S, M)
      | _ => none
    | .ixor => match S with
      | .int y :: .int x :: S => some (none, L, .int (x ^^^ y) :: S, M)
      | _ => none
    | .ishl => match S with
      | .int y :: .int x :: S => some (none, L, .int (x <<< (y &&& 31)) :: S, M)
      | _ => none
    | .ishr => match S with
      | .int y :: .int x :: S => some (none, L, .int (x >>> (y &&& 31)) :: S, M)
      | _ => none
    | .idiv => match S with
      | .int y :: .int x :: S => some (some (¬ y = 0), L, .int (x / y) :: S, M)
      | _ => none
    | .irem => match S with
      | .int y :: .int x :: S => some (some (¬ y = 0), L, .int (x - x / y * y) :: S, M)
      | _ => none
    | .ineg => match S with
      | .int x :: S => some (none, L, .int (-x) :: S, M)
      | _ => none
    | .ladd => match S with
      | .long y :: .long x :: S => some (none, L, .long (x + y) :: S, M)
      | _ => none
    | .lsub => match S with
      | .long y :: .long x :: S => some (none, L, .long (x - y) :: S, M)
      | _ => none
    | .lmul => match S with
      | .long y :: .long x :: S => some (none, L, .long (x * y) :: S, M)
      | _ => none
    | .land => match S with
      | .long y :: .long x :: S => some (none, L, .long (x &&& y) :: S, M)
      | _ => none
    | .lor => match S with
      | .long y :: .long x :: S => some (none, L, .long (x ||| y) :: S, M)
      | _ => none
    | .lxor => match S with
      | .long y :: .long x :: S => some (none, L, .long (x ^^^ y) :: S, M)
      | _ => none
    | .ldiv => match S with
      | .long y :: .long x :: S => some (some (¬ y = 0), L, .long (x / y) :: S, M)
      | _ => none
    | .lneg => match S with
      | .long x :: S => some (none, L, .long (-x) :: S, M)
      | _ => none
    | .lshl => match S with
      | .int y :: .long x :: S => some (none, L, .long (x <<< (y.toInt64 &&& 63)) :: S, M)
      | _ => none
    | .lushr => match S with
      | .int y :: .long x :: S => some (none, L, .long (x.toUInt64 >>> (y.toInt64.toUInt64 &&& Int64.toUInt64 63)).toInt64 :: S, M)
      | _ => none
    | .i2l => match S with
      | .int x :: S => some (none, L, .long x.toInt64 :: S, M)
      | _ => none
    | .l2i => match S with
      | .long x :: S => some (none, L, .int x.toInt32 :: S, M)
      | _ => none
    | .lcmp => match S with
      | .long y :: .long x :: S => some (none, L, .int (lg_cmp x y) :: S, M)
      | _ => none
    | .dup => match S with
      | .int x :: S => some (none, L, .int x :: .int x :: S, M)
      | .ref x :: S => some (none, L, .ref x :: .ref x :: S, M)
      | _ => none
    | .dup2 => match S with
      | .int y :: .int x :: S => some (none, L, .int y :: .int x :: .int y :: .int x :: S, M)
      | .int y :: .ref x :: S => some (none, L, .int y :: .ref x :: .int y :: .ref x :: S, M)
      | .long x :: S => some (none, L, .long x :: .long x :: S, M)
      | _ => none
    | .pop => match S with
      | .int _ :: S => some (none, L, S, M)
      | .ref _ :: S => some (none, L, S, M)
      | _ => none
    | .getfield _ => match S with
      | .ref a :: S => match am_sh G a with
        | some (.inr (cj, cs)) => match Nat.beq cj ci with
          | true => match am_nth cs k with
            | some 0 => some (none, L, .int (M.1 a k) :: S, M)
            | some 1 => some (none, L, .long (M.2 a k) :: S, M)
            | some (c + 3) => some (none, L, .ref c :: S, M)
            | _ => none
          | false => none
        | _ => none
      | _ => none
    | .putfield _ => match S with
      | .int x :: .ref a :: S => match am_sh G a with
        | some (.inr (cj, cs)) => match Nat.beq cj ci with
          | true => match am_nth cs k with
            | some 0 => match w with
              | 0 => some (none, L, S, (va_up M.1 a (upd (M.1 a) k x), M.2))
              | _ => none
            | _ => none
          | false => none
        | _ => none
      | .long x :: .ref a :: S => match am_sh G a with
        | some (.inr (cj, cs)) => match Nat.beq cj ci with
          | true => match am_nth cs k with
            | some 1 => match w with
              | 1 => some (none, L, S, (M.1, va_up M.2 a (vp_updL (M.2 a) k x)))
              | _ => none
            | _ => none
          | false => none
        | _ => none
      | _ => none
    | .iaload => match S with
      | .int j :: .ref a :: S => match am_sh G a with
        | some (.inl (0, n)) => some (some (vp_in j n), L, .int (M.1 a j.toNatClampNeg) :: S, M)
        | _ => none
      | _ => none
    | .baload => match S with
      | .int j :: .ref a :: S => match am_sh G a with
        | some (.inl (2, n)) => some (some (vp_in j n), L, .int (M.1 a j.toNatClampNeg) :: S, M)
        | _ => none
      | _ => none
    | .laload => match S with
      | .int j :: .ref a :: S => match am_sh G a with
        | some (.inl (1, n)) => some (some (vp_in j n), L, .long (M.2 a j.toNatClampNeg) :: S, M)
        | _ => none
      | _ => none
    | .iastore => match S with
      | .int x :: .int j :: .ref a :: S => match am_sh G a with
        | some (.inl (0, n)) => some (some (vp_in j n), L, S, (va_up M.1 a (upd (M.1 a) j.toNatClampNeg x), M.2))
        | _ => none
      | _ => none
    | .bastore => match S with
      | .int x :: .int j :: .ref a :: S => match am_sh G a with
        | some (.inl (2, n)) => some (some (vp_in j n), L, S, (va_up M.1 a (upd (M.1 a) j.toNatClampNeg (vp_nar .boolean x)), M.2))
        | _ => none
      | _ => none
    | .lastore => match S with
      | .long x :: .int j :: .ref a :: S => match am_sh G a with
        | some (.inl (1, n)) => some (some (vp_in j n), L, S, (M.1, va_up M.2 a (vp_updL (M.2 a) j.toNatClampNeg x)))
        | _ => none
      | _ => none
    | .arraylength => match S with
      | .ref a :: S => match am_sh G a with
        | some (.inl (0, n)) => some (none, L, .int (Int32.ofNat n) :: S, M)
        | some (.inl (1, n)) => some (none, L, .int (Int32.ofNat n) :: S, M)
        | some (.inl (2, n)) => some (none, L, .int (Int32.ofNat n) :: S, M)
        | _ => none
      | _ => none
    | _ => none
/-- what the table of a method must be: the instructions decoded, one behind the other -/
def am_hd (T : List It) (n : Nat) : Bool := match T with
  | [] => true
  | q :: _ => Nat.beq q.1 n
def am_dec (code : ByteArray) : List It → Bool
  | [] => true
  | q :: T => decide (decode code q.1 = .ok (q.2.1, q.2.2.1)) && (am_hd T (q.1 + q.2.2.1) && am_dec code T)
def am_wd (own : String) (q : It) : Bool := match q with
  | (pc, i, len, ci, k, v, w) => match i with
    | .iconst n => Nat.beq len 1 && decide (Int32.ofInt n = v)
    | .bipush n => Nat.beq len 2 && decide ((Int8.ofInt n).toInt32 = v)
    | .sipush n => Nat.beq len 3 && decide ((Int16.ofInt n).toInt32 = v)
    | .ldc n => Nat.beq len 2 && decide (Cond.constant own n v ∈ fl_tbl)
    | .lconst n => Nat.beq len 1 && decide (Int64.ofNat n.val = w)
    | .ldc2_w n => Nat.beq len 3 && decide (Cond.constantLong own n w ∈ fl_tbl)
    | .iload _ => Nat.beq len 2
    | .lload _ => Nat.beq len 2
    | .aload _ => Nat.beq len 2
    | .istore _ => Nat.beq len 2
    | .lstore _ => Nat.beq len 2
    | .astore _ => Nat.beq len 2
    | .iinc _ n => Nat.beq len 3 && decide (Int32.ofInt n = v)
    | .getfield n => Nat.beq len 3 && match vwCl[ci]? with
      | some r => decide (k < r.2.2) && decide (Cond.fieldLink own n (r.2.1 k).1 (r.2.1 k).2.1 (r.2.1 k).2.2.1 ∈ fl_tbl)
      | none => false
    | .putfield n => Nat.beq len 3 && match vwCl[ci]? with
      | some r => decide (k < r.2.2) && decide (Cond.fieldLink own n (r.2.1 k).1 (r.2.1 k).2.1 (r.2.1 k).2.2.1 ∈ fl_tbl) && (match w with
        | 0 => decide ((r.2.1 k).2.2.1 = "I" ∧ (r.2.1 k).2.2.2 = false)
        | 1 => decide ((r.2.1 k).2.2.1 = "J" ∧ (r.2.1 k).2.2.2 = false)
        | _ => true)
      | none => false
    | .goto off => Nat.beq len 3 && decide ((pc : Int) + off = (k : Int))
    | .if_icmp _ off => Nat.beq len 3 && decide ((pc : Int) + off = (k : Int))
    | .ifCond _ off => Nat.beq len 3 && decide ((pc : Int) + off = (k : Int))
    | .invokevirtual _ => Nat.beq len 3
    | .invokestatic _ => Nat.beq len 3
    | .invokespecial _ => Nat.beq len 3
    | .new _ => Nat.beq len 3
    | .newarray _ => Nat.beq len 2
    | .tableswitch _ _ _ _ => true
    | _ => Nat.beq len 1
def am_ok (mt : Mt) : Prop := am_dec mt.2.1 mt.2.2.2.2 = true ∧ mt.2.2.2.2.all (am_wd mt.1.cls) = true
end
section
def lw_g : List Cond := lw_tbl.filter goodWord
/-! the walk AW over W, and the soundness of one simple instruction -/
def am_C (X : Cx) (mt : Mt) (p : Program) (s : State) (m : MethodId) (args : Array Value) (meth : Method) (c : Code) : Prop :=
  p.tables.exec = Jvm.exec ∧ c.code = mt.2.1 ∧ c.maxLocals = mt.2.2.1 ∧ meth.sig.returnType = mt.2.2.2.1 ∧ meth.locks = false ∧ meth.name = mt.1.name ∧ s.vm.findClass mt.1.cls = some m.cls ∧ (∀ w ∈ lw_g, w.before args s = true) ∧ am_K X s ∧ X.1 ≤ s.heap.size
def am_Q (X : Cx) (mc : Nat) (Q : Option Value → List Shp → Mem → Prop) : Array Value → State → Outcome → State → Prop := fun _ st o t => ∃ (v : Option Value) (G : List Shp) (M : Mem), o = .returned (v.map (am_v X.1)) ∧ Q v G M ∧ va_P X.2.1 vwCl (am_w X G M) t.heap ∧ st.heap.size + mc = X.1 + G.length ∧ va_F (am_A X) st t
def AW (X : Cx) (l : Launch) (mt : Mt) (R : Room) (mc ms : Nat) (Q : Option Value → List Shp → Mem → Prop) (kc ks pc : Nat) (L S : List Value) (G : List Shp) (M : Mem) : Prop :=
  am_ok mt → ∀ (p : Program) (e : Env) (s : State) (m : MethodId) (args : Array Value) (below : List Frame) (meth : Method) (c : Code) (H : Heap) (locs : List Loc) (ls : Array Slot), am_C X mt p s m args meth c → am_H X G M kc s H locs → am_L X mt.2.2.1 L ls →
    W p l e R s m args below meth c H locs kc ks (MQ below (am_Q X mc Q) args s mc ms (am_A X)) (F0 m pc ls (S.map (am_v X.1)))
theorem fl_in : ∀ w ∈ fl_tbl, w ∈ lw_g := by decide +kernel
theorem cl_in : ∀ r ∈ vwCl, ∀ w ∈ u_ws r.1 r.2.1 r.2.2, w ∈ lw_g := by decide +kernel
theorem cl_nm : ∀ r ∈ vwCl, ∀ a, a < r.2.2 → ∀ b, b < r.2.2 → a ≠ b → (r.2.1 a).2.1 ≠ (r.2.1 b).2.1 := by
  intro r hr
  simp only [vwCl, List.mem_cons, List.not_mem_nil, or_false] at hr
  rcases hr with rfl | rfl | rfl | rfl | rfl | rfl | rfl | rfl | rfl
  · exact nmX0
  · exact nmX1
  · exact nmX2
  · exact nmX3
  · exact nmX4
  · exact nmX5
  · exact nmX6
  · exact nmX7
  · exact nmX8
theorem cl_ty : ∀ r ∈ vwCl, ∃ ty : Nat → FieldType, ∀ k, k < r.2.2 → parseFieldDescriptor (r.2.1 k).2.2.1 = some (ty k) := by
  intro r hr
  simp only [vwCl, List.mem_cons, List.not_mem_nil, or_false] at hr
  rcases hr with rfl | rfl | rfl | rfl | rfl | rfl | rfl | rfl | rfl
  · exact ⟨_, tyX0_ok⟩
  · exact ⟨_, tyX1_ok⟩
  · exact ⟨_, tyX2_ok⟩
  · exact ⟨_, tyX3_ok⟩
  · exact ⟨_, tyX4_ok⟩
  · exact ⟨_, tyX5_ok⟩
  · exact ⟨_, tyX6_ok⟩
  · exact ⟨_, tyX7_ok⟩
  · exact ⟨_, tyX8_ok⟩
theorem am_dec_at {code : ByteArray} : ∀ {T : List It} {q : It}, am_dec code T = true → q ∈ T → decode code q.1 = .ok (q.2.1, q.2.2.1)
  | [], _, _, h => by cases h
  | x :: T, q, h, hq => by
    simp only [am_dec, Bool.and_eq_true, decide_eq_true_eq] at h
    rcases List.mem_cons.mp hq with rfl | hq
    · exact h.1
    · exact am_dec_at h.2.2 hq
section Sx
variable {X : Cx} {l : Launch} {mt : Mt} {R : Room} {mc ms : Nat} {Q : Option Value → List Shp → Mem → Prop} {kc ks pc : Nat} {L S : List Value} {G : List Shp} {M : Mem}
/-- an instruction that leaves locals and heap as they are -/
theorem AW.plain {S' : List Value} {pc' : Nat} (h : ∀ (p : Program) (e : Env) (s : State) (m : MethodId) (args : Array Value) (below : List Frame) (meth : Method) (c : Code) (H : Heap) (locs : List Loc) (ls : Array Slot) (Z : State → Prop), am_C X mt p s m args meth c → va_P X.2.1 vwCl (am_w X G M) H → am_L X mt.2.2.1 L ls → W p l e R s m args below meth c H locs kc ks Z (F0 m pc' ls (S'.map (am_v X.1))) → W p l e R s m args below meth c H locs kc ks Z (F0 m pc ls (S.map (am_v X.1))))
    (k : AW X l mt R mc ms Q kc ks pc' L S' G M) : AW X l mt R mc ms Q kc ks pc L S G M := by
  intro hok p e s m args below meth c H locs ls hC hH hL
  exact h p e s m args below meth c H locs ls _ hC hH.1 hL (k hok p e s m args below meth c H locs ls hC hH hL)
theorem AW.ld {i : Nat} {v : Value} (hg : am_g L i = v) (hv : v ≠ .null) {ls : Array Slot} (hL : am_L X mt.2.2.1 L ls) : ls[i]? = some (.val (am_v X.1 v)) := by
  rw [← hg] at hv ⊢
  exact hL.2.2.2 i hv
theorem AW.st1 {i : Nat} {v : Value} {rest : List Value} {pc' : Nat} (hi : am_h L i = true) (hv : v ≠ .null)
    (h : ∀ (p : Program) (e : Env) (s : State) (m : MethodId) (args : Array Value) (below : List Frame) (meth : Method) (c : Code) (H : Heap) (locs : List Loc) (ls : Array Slot) (Z : State → Prop), am_C X mt p s m args meth c → am_L X mt.2.2.1 L ls → lv_has ls mt.2.2.1 (am_l X L) → i < mt.2.2.1 →
      (∀ ls' : Array Slot, lv_has ls' mt.2.2.1 ((i, am_v X.1 v) :: (am_l X L).filter (fun q => !(q.1 == i) && !(q.1 + 1 == i && q.2.category == 2))) → W p l e R s m args below meth c H locs kc ks Z (F0 m pc' ls' (rest.map (am_v X.1)))) → W p l e R s m args below meth c H locs kc ks Z (F0 m pc ls (S.map (am_v X.1))))
    (k : AW X l mt R mc ms Q kc ks pc' (am_s (am_c L i) i v) rest G M) : AW X l mt R mc ms Q kc ks pc L S G M := by
  intro hok p e s m args below meth c H locs ls hC hH hL
  exact h p e s m args below meth c H locs ls _ hC hL hL.has (by rw [← hL.1]; exact am_h_lt hi) (fun ls' hls => k hok p e s m args below meth c H locs ls' hC hH (hL.st1 hi hv hls))
theorem AW.st2 {i : Nat} {v : Value} {rest : List Value} {pc' : Nat} (hi : am_h L (i + 1) = true) (hv : v ≠ .null)
    (h : ∀ (p : Program) (e : Env) (s : State) (m : MethodId) (args : Array Value) (below : List Frame) (meth : Method) (c : Code) (H : Heap) (locs : List Loc) (ls : Array Slot) (Z : State → Prop), am_C X mt p s m args meth c → lv_has ls mt.2.2.1 (am_l X L) → i + 1 < mt.2.2.1 →
      (∀ ls' : Array Slot, lv_has ls' mt.2.2.1 ((i, am_v X.1 v) :: (am_l X L).filter (fun q => !(q.1 == i) && (!(q.1 == i + 1) && !(q.1 + 1 == i && q.2.category == 2)))) → W p l e R s m args below meth c H locs kc ks Z (F0 m pc' ls' (rest.map (am_v X.1)))) → W p l e R s m args below meth c H locs kc ks Z (F0 m pc ls (S.map (am_v X.1))))
    (k : AW X l mt R mc ms Q kc ks pc' (am_s (am_s (am_c L i) i v) (i + 1) .null) rest G M) : AW X l mt R mc ms Q kc ks pc L S G M := by
  intro hok p e s m args below meth c H locs ls hC hH hL
  exact h p e s m args below meth c H locs ls _ hC hL.has (by rw [← hL.1]; exact am_h_lt hi) (fun ls' hls => k hok p e s m args below meth c H locs ls' hC hH (hL.st2 hi hv hls))
/-- a store into a cell -/
theorem AW.wr {a : Nat} {h0 : Shp} {e1 : va_E} {M' : Mem} {rest : List Value} {pc' : Nat} (hG : am_sh G a = some h0) (he : am_e X M' a h0 = e1) (ho : ∀ b, b ≠ a → M'.1 b = M.1 b ∧ M'.2 b = M.2 b)
    (h : ∀ (p : Program) (e : Env) (s : State) (m : MethodId) (args : Array Value) (below : List Frame) (meth : Method) (c : Code) (H : Heap) (locs : List Loc) (ls : Array Slot) (Z : State → Prop), am_C X mt p s m args meth c → va_P X.2.1 vwCl (am_w X G M) H → va_D (am_A X) (am_w X G M) → va_S (am_A X) s.heap H locs → (am_w X G M)[a]? = some (X.1 + a, am_e X M a h0) →
      (∀ (H1 : Heap) (locs1 : List Loc), va_P X.2.1 vwCl ((am_w X G M).set a (X.1 + a, e1)) H1 → va_D (am_A X) ((am_w X G M).set a (X.1 + a, e1)) → va_S (am_A X) s.heap H1 locs1 → W p l e R s m args below meth c H1 locs1 kc ks Z (F0 m pc' ls (rest.map (am_v X.1)))) → W p l e R s m args below meth c H locs kc ks Z (F0 m pc ls (S.map (am_v X.1))))
    (k : AW X l mt R mc ms Q kc ks pc' L rest G M') : AW X l mt R mc ms Q kc ks pc L S G M := by
  intro hok p e s m args below meth c H locs ls hC hH hL
  rw [am_sh_eq] at hG
  refine h p e s m args below meth c H locs ls _ hC hH.1 (am_D X G M) hH.2.2 (am_w_at hG) (fun H1 locs1 hP1 hD1 hS1 => ?_)
  rw [am_w_set hG he ho] at hP1
  exact k hok p e s m args below meth c H1 locs1 ls hC ⟨hP1, hH.2.1, hS1⟩ hL
end Sx
end
section
/-! one simple instruction is sound -/
theorem am_h_of : ∀ {L : List Value} {i : Nat}, i < L.length → am_h L i = true
  | [], _, h => by simp at h
  | _ :: _, 0, _ => rfl
  | _ :: L, n + 1, h => am_h_of (L := L) (i := n) (by simpa using h)
theorem am_put {X : Cx} {M M' : Mem} {a k0 : Nat} {cs : List Nat} {v : Value} {c0 : Nat} (h0 : cs[k0]? = some c0) (h1 : am_v X.1 (am_u M' a k0 c0) = v) (h2 : ∀ j c, j ≠ k0 → am_u M' a j c = am_u M a j c) :
    cs.mapIdx (fun j c => am_v X.1 (am_u M' a j c)) = (cs.mapIdx (fun j c => am_v X.1 (am_u M a j c))).set k0 v := by
  apply List.ext_getElem?
  intro j
  by_cases hj : j = k0
  · subst hj
    have hl : j < cs.length := (List.getElem?_eq_some_iff.mp h0).1
    rw [List.getElem?_set_self (by simpa using hl), List.getElem?_mapIdx, h0]
    simp [h1]
  · rw [List.getElem?_set_ne (Ne.symm hj), List.getElem?_mapIdx, List.getElem?_mapIdx]
    cases cs[j]? with
    | none => rfl
    | some c => simp [h2 j c hj]
section Sy
variable {X : Cx} {l : Launch} {mt : Mt} {R : Room} {mc ms : Nat} {Q : Option Value → List Shp → Mem → Prop} {kc ks pc : Nat} {L S : List Value} {G : List Shp} {M : Mem}
theorem AW.ok (h : am_ok mt → AW X l mt R mc ms Q kc ks pc L S G M) : AW X l mt R mc ms Q kc ks pc L S G M := fun hok => h hok hok
set_option maxHeartbeats 4000000 in
theorem am_x_sound {c : Option Prop} {L' S' : List Value} {M' : Mem} {q : It} (hq : q ∈ mt.2.2.2.2) (h : am_x G q L S M = some (c, L', S', M')) (hc : ∀ P, c = some P → P) (k : AW X l mt R mc ms Q kc ks (q.1 + q.2.2.1) L' S' G M') : AW X l mt R mc ms Q kc ks q.1 L S G M := by
  refine AW.ok (fun hok => ?_)
  have hd := am_dec_at hok.1 hq
  have hw := List.all_eq_true.mp hok.2 q hq
  obtain ⟨pc, i, len, ci, k0, v, w⟩ := q
  dsimp only at hd k ⊢
  cases i with
  | iconst n =>
    simp only [am_wd, Bool.and_eq_true, Nat.beq_eq, decide_eq_true_eq] at hw
    obtain ⟨rfl, hv⟩ := hw
    simp only [am_x] at h
    cases h
    exact AW.plain (fun p e s m args below meth c H locs ls Z hC hP hL kk => lv_iconst hC.1 hC.2.1 hd hv kk) k
  | bipush n =>
    simp only [am_wd, Bool.and_eq_true, Nat.beq_eq, decide_eq_true_eq] at hw
    obtain ⟨rfl, hv⟩ := hw
    simp only [am_x] at h
    cases h
    exact AW.plain (fun p e s m args below meth c H locs ls Z hC hP hL kk => lv_bipush hC.1 hC.2.1 hd hv kk) k
  | sipush n =>
    simp only [am_wd, Bool.and_eq_true, Nat.beq_eq, decide_eq_true_eq] at hw
    obtain ⟨rfl, hv⟩ := hw
    simp only [am_x] at h
    cases h
    exact AW.plain (fun p e s m args below meth c H locs ls Z hC hP hL kk => lv_sipush hC.1 hC.2.1 hd hv kk) k
  | lconst n =>
    simp only [am_wd, Bool.and_eq_true, Nat.beq_eq, decide_eq_true_eq] at hw
    obtain ⟨rfl, hv⟩ := hw
    simp only [am_x] at h
    cases h
    exact AW.plain (fun p e s m args below meth c H locs ls Z hC hP hL kk => lv_lconst hC.1 hC.2.1 hd hv kk) k
  | ldc n =>
    simp only [am_wd, Bool.and_eq_true, Nat.beq_eq, decide_eq_true_eq] at hw
    obtain ⟨rfl, hv⟩ := hw
    simp only [am_x] at h
    cases h
    exact AW.plain (fun p e s m args below meth c H locs ls Z hC hP hL kk => lv_ldc hC.1 hC.2.1 hC.2.2.2.2.2.2.1 (hC.2.2.2.2.2.2.2.1 _ (fl_in _ hv)) hd kk) k
  | ldc2_w n =>
    simp only [am_wd, Bool.and_eq_true, Nat.beq_eq, decide_eq_true_eq] at hw
    obtain ⟨rfl, hv⟩ := hw
    simp only [am_x] at h
    cases h
    exact AW.plain (fun p e s m args below meth c H locs ls Z hC hP hL kk => lv_ldc2 hC.1 hC.2.1 hC.2.2.2.2.2.2.1 (hC.2.2.2.2.2.2.2.1 _ (fl_in _ hv)) hd kk) k
  | iload j =>
    have hl : len = 2 := by simpa [am_wd] using hw
    subst hl
    simp only [am_x] at h
    split at h
    · rename_i x hx
      cases h
      exact AW.plain (fun p e s m args below meth c H locs ls Z hC hP hL kk => lv_iload hC.1 hC.2.1 hd (AW.ld hx (by simp) hL) kk) k
    · cases h
  | iload_n j =>
    have hl : len = 1 := by simpa [am_wd] using hw
    subst hl
    simp only [am_x] at h
    split at h
    · rename_i x hx
      cases h
      exact AW.plain (fun p e s m args below meth c H locs ls Z hC hP hL kk => lv_iload_n hC.1 hC.2.1 hd rfl (AW.ld hx (by simp) hL) kk) k
    · cases h
  | lload j =>
    have hl : len = 2 := by simpa [am_wd] using hw
    subst hl
    simp only [am_x] at h
    split at h
    · rename_i x hx
      cases h
      exact AW.plain (fun p e s m args below meth c H locs ls Z hC hP hL kk => lv_lload hC.1 hC.2.1 hd (AW.ld hx (by simp) hL) kk) k
    · cases h
  | lload_n j =>
    have hl : len = 1 := by simpa [am_wd] using hw
    subst hl
    simp only [am_x] at h
    split at h
    · rename_i x hx
      cases h
      exact AW.plain (fun p e s m args below meth c H locs ls Z hC hP hL kk => lv_lload_n hC.1 hC.2.1 hd rfl (AW.ld hx (by simp) hL) kk) k
    · cases h
  | aload j =>
    have hl : len = 2 := by simpa [am_wd] using hw
    subst hl
    simp only [am_x] at h
    split at h
    · rename_i x hx
      cases h
      exact AW.plain (fun p e s m args below meth c H locs ls Z hC hP hL kk => lv_aload hC.1 hC.2.1 hd (AW.ld hx (by simp) hL) kk) k
    · cases h
  | aload_n j =>
    have hl : len = 1 := by simpa [am_wd] using hw
    subst hl
    simp only [am_x] at h
    split at h
    · rename_i x hx
      cases h
      exact AW.plain (fun p e s m args below meth c H locs ls Z hC hP hL kk => lv_aload_n hC.1 hC.2.1 hd rfl (AW.ld hx (by simp) hL) kk) k
    · cases h
  | istore j =>
    have hl : len = 2 := by simpa [am_wd] using hw
    subst hl
    simp only [am_x] at h
    split at h
    · split at h
      · rename_i hi
        rw [am_fc_eq] at h
        cases h
        exact AW.st1 (v := .int _) hi (by simp) (fun p e s m args below meth c H locs ls Z hC hL hh hn kk => lv_istore hC.1 hC.2.1 hd hh hn rfl kk) k
      · cases h
    · cases h
  | istore_n j =>
    have hl : len = 1 := by simpa [am_wd] using hw
    subst hl
    simp only [am_x] at h
    split at h
    · split at h
      · rename_i hi
        rw [am_fc_eq] at h
        cases h
        exact AW.st1 (v := .int _) hi (by simp) (fun p e s m args below meth c H locs ls Z hC hL hh hn kk => lv_istore_n hC.1 hC.2.1 hd rfl hh hn rfl kk) k
      · cases h
    · cases h
  | astore j =>
    have hl : len = 2 := by simpa [am_wd] using hw
    subst hl
    simp only [am_x] at h
    split at h
    · split at h
      · rename_i hi
        rw [am_fc_eq] at h
        cases h
        exact AW.st1 (v := .ref _) hi (by simp) (fun p e s m args below meth c H locs ls Z hC hL hh hn kk => lv_astore hC.1 hC.2.1 hd hh hn rfl kk) k
      · cases h
    · cases h
  | astore_n j =>
    have hl : len = 1 := by simpa [am_wd] using hw
    subst hl
    simp only [am_x] at h
    split at h
    · split at h
      · rename_i hi
        rw [am_fc_eq] at h
        cases h
        exact AW.st1 (v := .ref _) hi (by simp) (fun p e s m args below meth c H locs ls Z hC hL hh hn kk => lv_astore_n hC.1 hC.2.1 hd rfl hh hn rfl kk) k
      · cases h
    · cases h
  | lstore j =>
    have hl : len = 2 := by simpa [am_wd] using hw
    subst hl
    simp only [am_x] at h
    split at h
    · split at h
      · rename_i hi
        rw [am_fc_eq] at h
        cases h
        exact AW.st2 (v := .long _) hi (by simp) (fun p e s m args below meth c H locs ls Z hC hh hn kk => lv_lstore hC.1 hC.2.1 hd hh hn rfl kk) k
      · cases h
    · cases h
  | lstore_n j =>
    have hl : len = 1 := by simpa [am_wd] using hw
    subst hl
    simp only [am_x] at h
    split at h
    · split at h
      · rename_i hi
        rw [am_fc_eq] at h
        cases h
        exact AW.st2 (v := .long _) hi (by simp) (fun p e s m args below meth c H locs ls Z hC hh hn kk => lv_lstore_n hC.1 hC.2.1 hd rfl hh hn rfl kk) k
      · cases h
    · cases h
  | iinc j n =>
    simp only [am_wd, Bool.and_eq_true, Nat.beq_eq, decide_eq_true_eq] at hw
    obtain ⟨rfl, hv⟩ := hw
    simp only [am_x] at h
    split at h
    · rename_i x hx
      rw [am_fc_eq] at h
      cases h
      have hne : am_g L j ≠ .null := by rw [hx]; simp
      refine AW.st1 (am_h_of (am_g_lt hne)) (by simp) (fun p e s m args below meth c H locs ls Z hC hL hh hn kk => ?_) k
      obtain ⟨n2, hn2⟩ := List.getElem?_of_mem (am_l_in (X := X) (am_g_lt hne) hne)
      rw [hx] at hn2
      exact lv_iinc hC.1 hC.2.1 hd hh hn2 (by rw [hv]) hn rfl kk
    · cases h
  | iadd =>
    have hl : len = 1 := by simpa [am_wd] using hw
    subst hl
    simp only [am_x] at h
    split at h
    · cases h
      exact AW.plain (fun p e s m args below meth c H locs ls Z hC hP hL kk => lv_iadd hC.1 hC.2.1 hd kk) k
    · cases h
  | isub =>
    have hl : len = 1 := by simpa [am_wd] using hw
    subst hl
    simp only [am_x] at h
    split at h
    · cases h
      exact AW.plain (fun p e s m args below meth c H locs ls Z hC hP hL kk => lv_isub hC.1 hC.2.1 hd kk) k
    · cases h
  | imul =>
    have hl : len = 1 := by simpa [am_wd] using hw
    subst hl
    simp only [am_x] at h
    split at h
    · cases h
      exact AW.plain (fun p e s m args below meth c H locs ls Z hC hP hL kk => lv_imul hC.1 hC.2.1 hd kk) k
    · cases h
  | iand =>
    have hl : len = 1 := by simpa [am_wd] using hw
    subst hl
    simp only [am_x] at h
    split at h
    · cases h
      exact AW.plain (fun p e s m args below meth c H locs ls Z hC hP hL kk => lv_iand hC.1 hC.2.1 hd kk) k
    · cases h
  | ior =>
    have hl : len = 1 := by simpa [am_wd] using hw
    subst hl
    simp only [am_x] at h
    split at h
    · cases h
      exact AW.plain (fun p e s m args below meth c H locs ls Z hC hP hL kk => lv_ior hC.1 hC.2.1 hd kk) k
    · cases h
  | ixor =>
    have hl : len = 1 := by simpa [am_wd] using hw
    subst hl
    simp only [am_x] at h
    split at h
    · cases h
      exact AW.plain (fun p e s m args below meth c H locs ls Z hC hP hL kk => lv_ixor hC.1 hC.2.1 hd kk) k
    · cases h
  | ishl =>
    have hl : len = 1 := by simpa [am_wd] using hw
    subst hl
    simp only [am_x] at h
    split at h
    · cases h
      exact AW.plain (fun p e s m args below meth c H locs ls Z hC hP hL kk => lv_ishl hC.1 hC.2.1 hd kk) k
    · cases h
  | ishr =>
    have hl : len = 1 := by simpa [am_wd] using hw
    subst hl
    simp only [am_x] at h
    split at h
    · cases h
      exact AW.plain (fun p e s m args below meth c H locs ls Z hC hP hL kk => lv_ishr hC.1 hC.2.1 hd kk) k
    · cases h
  | ineg =>
    have hl : len = 1 := by simpa [am_wd] using hw
    subst hl
    simp only [am_x] at h
    split at h
    · cases h
      exact AW.plain (fun p e s m args below meth c H locs ls Z hC hP hL kk => lv_ineg hC.1 hC.2.1 hd kk) k
    · cases h
  | ladd =>
    have hl : len = 1 := by simpa [am_wd] using hw
    subst hl
    simp only [am_x] at h
    split at h
    · cases h
      exact AW.plain (fun p e s m args below meth c H locs ls Z hC hP hL kk => lv_ladd hC.1 hC.2.1 hd kk) k
    · cases h
  | lsub =>
    have hl : len = 1 := by simpa [am_wd] using hw
    subst hl
    simp only [am_x] at h
    split at h
    · cases h
      exact AW.plain (fun p e s m args below meth c H locs ls Z hC hP hL kk => lv_lsub hC.1 hC.2.1 hd kk) k
    · cases h
  | lmul =>
    have hl : len = 1 := by simpa [am_wd] using hw
    subst hl
    simp only [am_x] at h
    split at h
    · cases h
      exact AW.plain (fun p e s m args below meth c H locs ls Z hC hP hL kk => lv_lmul hC.1 hC.2.1 hd kk) k
    · cases h
  | land =>
    have hl : len = 1 := by simpa [am_wd] using hw
    subst hl
    simp only [am_x] at h
    split at h
    · cases h
      exact AW.plain (fun p e s m args below meth c H locs ls Z hC hP hL kk => lv_land hC.1 hC.2.1 hd kk) k
    · cases h
  | lor =>
    have hl : len = 1 := by simpa [am_wd] using hw
    subst hl
    simp only [am_x] at h
    split at h
    · cases h
      exact AW.plain (fun p e s m args below meth c H locs ls Z hC hP hL kk => lv_lor hC.1 hC.2.1 hd kk) k
    · cases h
  | lxor =>
    have hl : len = 1 := by simpa [am_wd] using hw
    subst hl
    simp only [am_x] at h
    split at h
    · cases h
      exact AW.plain (fun p e s m args below meth c H locs ls Z hC hP hL kk => lv_lxor hC.1 hC.2.1 hd kk) k
    · cases h
  | lneg =>
    have hl : len = 1 := by simpa [am_wd] using hw
    subst hl
    simp only [am_x] at h
    split at h
    · cases h
      exact AW.plain (fun p e s m args below meth c H locs ls Z hC hP hL kk => lv_lneg hC.1 hC.2.1 hd kk) k
    · cases h
  | idiv =>
    have hl : len = 1 := by simpa [am_wd] using hw
    subst hl
    simp only [am_x] at h
    split at h
    · cases h
      exact AW.plain (fun p e s m args below meth c H locs ls Z hC hP hL kk => lv_idiv hC.1 hC.2.1 hd (hc _ rfl) kk) k
    · cases h
  | irem =>
    have hl : len = 1 := by simpa [am_wd] using hw
    subst hl
    simp only [am_x] at h
    split at h
    · cases h
      exact AW.plain (fun p e s m args below meth c H locs ls Z hC hP hL kk => lv_irem hC.1 hC.2.1 hd (hc _ rfl) kk) k
    · cases h
  | ldiv =>
    have hl : len = 1 := by simpa [am_wd] using hw
    subst hl
    simp only [am_x] at h
    split at h
    · cases h
      exact AW.plain (fun p e s m args below meth c H locs ls Z hC hP hL kk => lv_ldiv hC.1 hC.2.1 hd (hc _ rfl) kk) k
    · cases h
  | lshl =>
    have hl : len = 1 := by simpa [am_wd] using hw
    subst hl
    simp only [am_x] at h
    split at h
    · cases h
      exact AW.plain (fun p e s m args below meth c H locs ls Z hC hP hL kk => lv_lshl hC.1 hC.2.1 hd rfl kk) k
    · cases h
  | lushr =>
    have hl : len = 1 := by simpa [am_wd] using hw
    subst hl
    simp only [am_x] at h
    split at h
    · cases h
      exact AW.plain (fun p e s m args below meth c H locs ls Z hC hP hL kk => lv_lushr hC.1 hC.2.1 hd rfl kk) k
    · cases h
  | i2l =>
    have hl : len = 1 := by simpa [am_wd] using hw
    subst hl
    simp only [am_x] at h
    split at h
    · cases h
      exact AW.plain (fun p e s m args below meth c H locs ls Z hC hP hL kk => lv_i2l hC.1 hC.2.1 hd rfl kk) k
    · cases h
  | l2i =>
    have hl : len = 1 := by simpa [am_wd] using hw
    subst hl
    simp only [am_x] at h
    split at h
    · cases h
      exact AW.plain (fun p e s m args below meth c H locs ls Z hC hP hL kk => lv_l2i hC.1 hC.2.1 hd rfl kk) k
    · cases h
  | lcmp =>
    have hl : len = 1 := by simpa [am_wd] using hw
    subst hl
    simp only [am_x] at h
    split at h
    · cases h
      exact AW.plain (fun p e s m args below meth c H locs ls Z hC hP hL kk => W.lcmp hC.1 hC.2.1 hd kk) k
    · cases h
  | dup =>
    have hl : len = 1 := by simpa [am_wd] using hw
    subst hl
    simp only [am_x] at h
    split at h
    · cases h
      exact AW.plain (fun p e s m args below meth c H locs ls Z hC hP hL kk => lv_dup hC.1 hC.2.1 hd rfl kk) k
    · cases h
      exact AW.plain (fun p e s m args below meth c H locs ls Z hC hP hL kk => lv_dup hC.1 hC.2.1 hd rfl kk) k
    · cases h
  | pop =>
    have hl : len = 1 := by simpa [am_wd] using hw
    subst hl
    simp only [am_x] at h
    split at h
    · cases h
      exact AW.plain (S := .int _ :: _) (fun p e s m args below meth c H locs ls Z hC hP hL kk => lv_pop hC.1 hC.2.1 hd rfl kk) k
    · cases h
      exact AW.plain (S := .ref _ :: _) (fun p e s m args below meth c H locs ls Z hC hP hL kk => lv_pop hC.1 hC.2.1 hd rfl kk) k
    · cases h
  | dup2 =>
    have hl : len = 1 := by simpa [am_wd] using hw
    subst hl
    simp only [am_x] at h
    split at h
    · cases h
      exact AW.plain (fun p e s m args below meth c H locs ls Z hC hP hL kk => lv_dup2_11 hC.1 hC.2.1 hd rfl rfl kk) k
    · cases h
      exact AW.plain (fun p e s m args below meth c H locs ls Z hC hP hL kk => lv_dup2_11 hC.1 hC.2.1 hd rfl rfl kk) k
    · cases h
      exact AW.plain (fun p e s m args below meth c H locs ls Z hC hP hL kk => lv_dup2_2 hC.1 hC.2.1 hd rfl kk) k
    · cases h
  | getfield n =>
    simp only [am_wd, Bool.and_eq_true, Nat.beq_eq] at hw
    obtain ⟨rfl, hw⟩ := hw
    split at hw
    case h_2 => cases hw
    rename_i r hr
    simp only [Bool.and_eq_true, decide_eq_true_eq] at hw
    simp only [am_x] at h
    split at h
    case h_2 => cases h
    rename_i a S0
    split at h
    case h_2 => cases h
    rename_i cj cs hG
    split at h
    case h_2 => cases h
    rename_i hb
    rw [Nat.beq_eq] at hb
    subst hb
    have he := am_w_at (X := X) (M := M) (by rw [← am_sh_eq]; exact hG)
    simp only [am_e] at he
    split at h
    · rename_i hn
      rw [am_nth_eq] at hn
      cases h
      exact AW.plain (fun p e s m args below meth c H locs ls Z hC hP hL kk => va_get (D := X.2.1) (C := r.1) (T := r.2.1) (N := r.2.2) hC.1 hC.2.1 hC.2.2.2.2.2.2.2.1 (cl_in r (List.mem_of_getElem? hr)) hC.2.2.2.2.2.2.1 hC.2.2.2.2.2.2.2.2.1.1 hP a he hr k0 hw.1 (hC.2.2.2.2.2.2.2.1 _ (fl_in _ hw.2)) (fun _ h9 => h9) (by rw [List.getElem?_mapIdx, hn]; rfl) hd kk) k
    · rename_i hn
      rw [am_nth_eq] at hn
      cases h
      exact AW.plain (fun p e s m args below meth c H locs ls Z hC hP hL kk => va_get (D := X.2.1) (C := r.1) (T := r.2.1) (N := r.2.2) hC.1 hC.2.1 hC.2.2.2.2.2.2.2.1 (cl_in r (List.mem_of_getElem? hr)) hC.2.2.2.2.2.2.1 hC.2.2.2.2.2.2.2.2.1.1 hP a he hr k0 hw.1 (hC.2.2.2.2.2.2.2.1 _ (fl_in _ hw.2)) (fun _ h9 => h9) (by rw [List.getElem?_mapIdx, hn]; rfl) hd kk) k
    · rename_i hn
      rw [am_nth_eq] at hn
      cases h
      exact AW.plain (fun p e s m args below meth c H locs ls Z hC hP hL kk => va_get (D := X.2.1) (C := r.1) (T := r.2.1) (N := r.2.2) hC.1 hC.2.1 hC.2.2.2.2.2.2.2.1 (cl_in r (List.mem_of_getElem? hr)) hC.2.2.2.2.2.2.1 hC.2.2.2.2.2.2.2.2.1.1 hP a he hr k0 hw.1 (hC.2.2.2.2.2.2.2.1 _ (fl_in _ hw.2)) (fun _ h9 => h9) (by rw [List.getElem?_mapIdx, hn]; rfl) hd kk) k
    · cases h
  | putfield n =>
    simp only [am_wd, Bool.and_eq_true, Nat.beq_eq] at hw
    obtain ⟨rfl, hw⟩ := hw
    split at hw
    case h_2 => cases hw
    rename_i r hr
    simp only [Bool.and_eq_true, decide_eq_true_eq] at hw
    simp only [am_x] at h
    split at h
    · rename_i x a S0
      split at h
      case h_2 => cases h
      rename_i cj cs hG
      split at h
      case h_2 => cases h
      rename_i hb
      rw [Nat.beq_eq] at hb
      subst hb
      split at h
      case h_2 => cases h
      rename_i hn
      rw [am_nth_eq] at hn
      split at h
      case h_2 => cases h
      cases h
      simp only [decide_eq_true_eq] at hw
      obtain ⟨⟨hw1, hw2⟩, hw3, hw4⟩ := hw
      obtain ⟨ty0, hty⟩ := cl_ty r (List.mem_of_getElem? hr)
      refine AW.wr (a := a) (h0 := .inr (cj, cs)) (e1 := .inr (cj, (cs.mapIdx (fun j c => am_v X.1 (am_u M a j c))).set k0 (.int x))) hG ?_ (fun b hb => ?_) (fun p e s m args below meth c H locs ls Z hC hP hD hS he kk => ?_) k
      · simp only [am_e]
        rw [am_put (M := M) hn (v := .int x) (by simp [am_u, am_v, va_up, upd, vp_updL]) (fun j c hj => by unfold am_u; simp [va_up, upd, vp_updL, hj])]
      · simp [va_up, hb]
      · exact va_put (D := X.2.1) (C := r.1) (T := r.2.1) (N := r.2.2) (ty := .int) hC.1 hC.2.1 hC.2.2.2.2.2.2.2.1 (cl_in r (List.mem_of_getElem? hr)) ty0 hty (cl_nm r (List.mem_of_getElem? hr)) hC.2.2.2.2.2.2.1 hC.2.2.2.2.2.2.2.2.1.1 hP hD hS a he hr k0 hw1 (hC.2.2.2.2.2.2.2.1 _ (fl_in _ hw2)) (fun _ h9 => h9) hw4 (by rw [hw3]; decide +kernel) rfl rfl (by have := (List.getElem?_eq_some_iff.mp hn).1; simpa using this) hd kk
    · rename_i x a S0
      split at h
      case h_2 => cases h
      rename_i cj cs hG
      split at h
      case h_2 => cases h
      rename_i hb
      rw [Nat.beq_eq] at hb
      subst hb
      split at h
      case h_2 => cases h
      rename_i hn
      rw [am_nth_eq] at hn
      split at h
      case h_2 => cases h
      cases h
      simp only [decide_eq_true_eq] at hw
      obtain ⟨⟨hw1, hw2⟩, hw3, hw4⟩ := hw
      obtain ⟨ty0, hty⟩ := cl_ty r (List.mem_of_getElem? hr)
      refine AW.wr (a := a) (h0 := .inr (cj, cs)) (e1 := .inr (cj, (cs.mapIdx (fun j c => am_v X.1 (am_u M a j c))).set k0 (.long x))) hG ?_ (fun b hb => ?_) (fun p e s m args below meth c H locs ls Z hC hP hD hS he kk => ?_) k
      · simp only [am_e]
        rw [am_put (M := M) hn (v := .long x) (by simp [am_u, am_v, va_up, upd, vp_updL]) (fun j c hj => by unfold am_u; simp [va_up, upd, vp_updL, hj])]
      · simp [va_up, hb]
      · exact va_put (D := X.2.1) (C := r.1) (T := r.2.1) (N := r.2.2) (ty := .long) hC.1 hC.2.1 hC.2.2.2.2.2.2.2.1 (cl_in r (List.mem_of_getElem? hr)) ty0 hty (cl_nm r (List.mem_of_getElem? hr)) hC.2.2.2.2.2.2.1 hC.2.2.2.2.2.2.2.2.1.1 hP hD hS a he hr k0 hw1 (hC.2.2.2.2.2.2.2.1 _ (fl_in _ hw2)) (fun _ h9 => h9) hw4 (by rw [hw3]; decide +kernel) rfl rfl (by have := (List.getElem?_eq_some_iff.mp hn).1; simpa using this) hd kk
    · cases h
  | iaload =>
    have hl : len = 1 := by simpa [am_wd] using hw
    subst hl
    simp only [am_x] at h
    split at h
    case h_2 => cases h
    split at h
    case h_2 => cases h
    rename_i n hG
    cases h
    have he := am_w_at (X := X) (M := M) (by rw [← am_sh_eq]; exact hG)
    exact AW.plain (fun p e s m args below meth c H locs ls Z hC hP hL kk => va_iald hC.1 hC.2.1 hC.2.2.2.2.2.2.2.2.1.1 hP _ 0 he rfl (hc _ rfl) hd kk) k
  | baload =>
    have hl : len = 1 := by simpa [am_wd] using hw
    subst hl
    simp only [am_x] at h
    split at h
    case h_2 => cases h
    split at h
    case h_2 => cases h
    rename_i n hG
    cases h
    have he := am_w_at (X := X) (M := M) (by rw [← am_sh_eq]; exact hG)
    exact AW.plain (fun p e s m args below meth c H locs ls Z hC hP hL kk => va_zald hC.1 hC.2.1 hC.2.2.2.2.2.2.2.2.1.1 hP _ 2 he rfl (hc _ rfl) hd kk) k
  | laload =>
    have hl : len = 1 := by simpa [am_wd] using hw
    subst hl
    simp only [am_x] at h
    split at h
    case h_2 => cases h
    split at h
    case h_2 => cases h
    rename_i n hG
    cases h
    have he := am_w_at (X := X) (M := M) (by rw [← am_sh_eq]; exact hG)
    exact AW.plain (fun p e s m args below meth c H locs ls Z hC hP hL kk => va_lald hC.1 hC.2.1 hC.2.2.2.2.2.2.2.2.1.1 hP _ 1 he rfl (hc _ rfl) hd kk) k
  | iastore =>
    have hl : len = 1 := by simpa [am_wd] using hw
    subst hl
    simp only [am_x] at h
    split at h
    case h_2 => cases h
    rename_i x j a S0
    split at h
    case h_2 => cases h
    rename_i n hG
    cases h
    exact AW.wr (a := a) (h0 := .inl (0, n)) (e1 := .inl (X.2.2 0, n, .inl (upd (M.1 a) j.toNatClampNeg x))) hG (by simp [am_e, va_up]) (fun b hb => by simp [va_up, hb]) (fun p e s m args below meth c H locs ls Z hC hP hD hS he kk => va_iast hC.1 hC.2.1 hC.2.2.2.2.2.2.2.2.1.1 hP hD hS a 0 he rfl (hc _ rfl) hd kk) k
  | bastore =>
    have hl : len = 1 := by simpa [am_wd] using hw
    subst hl
    simp only [am_x] at h
    split at h
    case h_2 => cases h
    rename_i x j a S0
    split at h
    case h_2 => cases h
    rename_i n hG
    cases h
    exact AW.wr (a := a) (h0 := .inl (2, n)) (e1 := .inl (X.2.2 2, n, .inl (upd (M.1 a) j.toNatClampNeg (vp_nar .boolean x)))) hG (by simp [am_e, va_up]) (fun b hb => by simp [va_up, hb]) (fun p e s m args below meth c H locs ls Z hC hP hD hS he kk => va_zast hC.1 hC.2.1 hC.2.2.2.2.2.2.2.2.1.1 hP hD hS a 2 he rfl (hc _ rfl) hd kk) k
  | lastore =>
    have hl : len = 1 := by simpa [am_wd] using hw
    subst hl
    simp only [am_x] at h
    split at h
    case h_2 => cases h
    rename_i x j a S0
    split at h
    case h_2 => cases h
    rename_i n hG
    cases h
    exact AW.wr (a := a) (h0 := .inl (1, n)) (e1 := .inl (X.2.2 1, n, .inr (.inl (vp_updL (M.2 a) j.toNatClampNeg x)))) hG (by simp [am_e, va_up]) (fun b hb => by simp [va_up, hb]) (fun p e s m args below meth c H locs ls Z hC hP hD hS he kk => va_last hC.1 hC.2.1 hC.2.2.2.2.2.2.2.2.1.1 hP hD hS a 1 he rfl (hc _ rfl) hd kk) k
  | arraylength =>
    have hl : len = 1 := by simpa [am_wd] using hw
    subst hl
    simp only [am_x] at h
    split at h
    case h_2 => cases h
    split at h
    · rename_i n hG
      cases h
      have he := am_w_at (X := X) (M := M) (by rw [← am_sh_eq]; exact hG)
      exact AW.plain (fun p e s m args below meth c H locs ls Z hC hP hL kk => va_alen hC.1 hC.2.1 hC.2.2.2.2.2.2.2.2.1.1 hP _ 0 he rfl rfl hd kk) k
    · rename_i n hG
      cases h
      have he := am_w_at (X := X) (M := M) (by rw [← am_sh_eq]; exact hG)
      exact AW.plain (fun p e s m args below meth c H locs ls Z hC hP hL kk => va_alen hC.1 hC.2.1 hC.2.2.2.2.2.2.2.2.1.1 hP _ 1 he rfl rfl hd kk) k
    · rename_i n hG
      cases h
      have he := am_w_at (X := X) (M := M) (by rw [← am_sh_eq]; exact hG)
      exact AW.plain (fun p e s m args below meth c H locs ls Z hC hP hL kk => va_alen hC.1 hC.2.1 hC.2.2.2.2.2.2.2.2.1.1 hP _ 2 he rfl rfl hd kk) k
    · cases h
  | _ => simp only [am_x] at h; cases h
end Sy
end
section
/-! a run of simple instructions; the branches; the ends; calls -/
def am_t : List It → Nat → List It
  | [], _ => []
  | q :: T, n => match Nat.beq q.1 n with
    | true => q :: T
    | false => am_t T n
def am_r (G : List Shp) : List It → Prop → List Value → List Value → Mem → Option (Prop × List It × List Value × List Value × Mem)
  | [], _, _, _, _ => none
  | q :: T, C, L, S, M => match am_x G q L S M with
    | some (none, L', S', M') => am_r G T C L' S' M'
    | some (some c, L', S', M') => am_r G T (C ∧ c) L' S' M'
    | none => am_fc L (fun L => am_fc S (fun S => some (C, q :: T, L, S, M)))
theorem am_t_mem : ∀ {T : List It} {n : Nat} {q : It}, q ∈ am_t T n → q ∈ T
  | [], _, _, h => h
  | x :: T, n, q, h => by
    unfold am_t at h
    split at h
    · exact h
    · exact List.mem_cons_of_mem _ (am_t_mem h)
theorem am_t_hd : ∀ (T : List It) (n : Nat), am_hd (am_t T n) n = true
  | [], _ => rfl
  | x :: T, n => by
    unfold am_t
    split
    · rename_i h; exact h
    · exact am_t_hd T n
theorem am_t_dec {code : ByteArray} : ∀ {T : List It} {n : Nat}, am_dec code T = true → am_dec code (am_t T n) = true
  | [], _, h => h
  | x :: T, n, h => by
    unfold am_t
    split
    · exact h
    · simp only [am_dec, Bool.and_eq_true] at h
      exact am_t_dec h.2.2
theorem am_r_C {G : List Shp} : ∀ {T : List It} {C C' : Prop} {L S L' S' : List Value} {M M' : Mem} {T' : List It}, am_r G T C L S M = some (C', T', L', S', M') → C' → C
  | [], _, _, _, _, _, _, _, _, _, h, _ => by cases h
  | q :: T, C, C', L, S, L', S', M, M', T', h, hC => by
    unfold am_r at h
    split at h
    · exact am_r_C h hC
    · exact (am_r_C h hC).1
    · rw [am_fc_eq, am_fc_eq] at h
      cases h
      exact hC
section Rl
variable {X : Cx} {l : Launch} {mt : Mt} {R : Room} {mc ms : Nat} {Q : Option Value → List Shp → Mem → Prop} {kc ks pc : Nat} {L S : List Value} {G : List Shp} {M : Mem}
theorem am_r_sound {q : It} {T' : List It} {C' : Prop} {L' S' : List Value} {M' : Mem} : ∀ (T : List It) (pc : Nat) (C : Prop) (L S : List Value) (M : Mem), (∀ q ∈ T, q ∈ mt.2.2.2.2) → am_hd T pc = true → am_dec mt.2.1 T = true → am_r G T C L S M = some (C', q :: T', L', S', M') → C' → (q ∈ mt.2.2.2.2 → AW X l mt R mc ms Q kc ks q.1 L' S' G M') → AW X l mt R mc ms Q kc ks pc L S G M
  | [], _, _, _, _, _, _, _, _, h, _, _ => by cases h
  | x :: T, pc, C, L, S, M, hm, hh, hdc, h, hC, k => by
    have hpc : x.1 = pc := by simpa [am_hd] using hh
    subst hpc
    have hx := hm x List.mem_cons_self
    have hdc0 := hdc
    simp only [am_dec, Bool.and_eq_true] at hdc
    unfold am_r at h
    split at h
    · rename_i L1 S1 M1 h1
      exact am_x_sound hx h1 (fun P hP => by cases hP) (am_r_sound T _ _ _ _ _ (fun q hq => hm q (List.mem_cons_of_mem _ hq)) hdc.2.1 hdc.2.2 h hC k)
    · rename_i c L1 S1 M1 h1
      have hc := (am_r_C h hC).2
      exact am_x_sound hx h1 (fun P hP => by cases hP; exact hc) (am_r_sound T _ _ _ _ _ (fun q hq => hm q (List.mem_cons_of_mem _ hq)) hdc.2.1 hdc.2.2 h hC k)
    · rw [am_fc_eq, am_fc_eq] at h
      cases h
      exact k hx
theorem AW.run {q : It} {T' : List It} {C : Prop} {L' S' : List Value} {M' : Mem} (h : am_r G (am_t mt.2.2.2.2 pc) True L S M = some (C, q :: T', L', S', M')) (hC : C) (k : q ∈ mt.2.2.2.2 → AW X l mt R mc ms Q kc ks q.1 L' S' G M') : AW X l mt R mc ms Q kc ks pc L S G M :=
  AW.ok (fun hok => am_r_sound _ _ _ _ _ _ (fun q hq => am_t_mem hq) (am_t_hd _ _) (am_t_dec hok.1) h hC k)
theorem AW.two {A B : Prop} {S1 S2 : List Value} {p1 p2 : Nat} (h : ∀ (p : Program) (e : Env) (s : State) (m : MethodId) (args : Array Value) (below : List Frame) (meth : Method) (c : Code) (H : Heap) (locs : List Loc) (ls : Array Slot) (Z : State → Prop), am_C X mt p s m args meth c → (A → W p l e R s m args below meth c H locs kc ks Z (F0 m p1 ls (S1.map (am_v X.1)))) → (B → W p l e R s m args below meth c H locs kc ks Z (F0 m p2 ls (S2.map (am_v X.1)))) → W p l e R s m args below meth c H locs kc ks Z (F0 m pc ls (S.map (am_v X.1))))
    (k1 : A → AW X l mt R mc ms Q kc ks p1 L S1 G M) (k2 : B → AW X l mt R mc ms Q kc ks p2 L S2 G M) : AW X l mt R mc ms Q kc ks pc L S G M := by
  intro hok p e s m args below meth c H locs ls hC hH hL
  exact h p e s m args below meth c H locs ls _ hC (fun a => k1 a hok p e s m args below meth c H locs ls hC hH hL) (fun b => k2 b hok p e s m args below meth c H locs ls hC hH hL)
theorem AW.goto {p1 len ci tgt : Nat} {off : Int} {v : Int32} {w : Int64} {T' : List It} {C : Prop} {L' S' : List Value} {M' : Mem} (h : am_r G (am_t mt.2.2.2.2 pc) True L S M = some (C, (p1, .goto off, len, ci, tgt, v, w) :: T', L', S', M')) (hC : C) (k : AW X l mt R mc ms Q kc ks tgt L' S' G M') : AW X l mt R mc ms Q kc ks pc L S G M := by
  refine AW.run h hC (fun hq => AW.ok fun hok => ?_)
  have hd := am_dec_at hok.1 hq
  have hw := List.all_eq_true.mp hok.2 _ hq
  simp only [am_wd, Bool.and_eq_true, Nat.beq_eq, decide_eq_true_eq] at hw
  obtain ⟨rfl, ht⟩ := hw
  exact AW.plain (fun p e s m args below meth c H locs ls Z hC hP hL kk => lv_goto hC.1 hC.2.1 hd ht kk) k
theorem AW.ieq {p1 len ci tgt : Nat} {off : Int} {v : Int32} {w : Int64} {T' : List It} {C : Prop} {L' S' : List Value} {M' : Mem} {x y : Int32} (h : am_r G (am_t mt.2.2.2.2 pc) True L S M = some (C, (p1, .if_icmp .eq off, len, ci, tgt, v, w) :: T', L', .int y :: .int x :: S', M')) (hC : C) (k1 : x = y → AW X l mt R mc ms Q kc ks tgt L' S' G M') (k2 : ¬ x = y → AW X l mt R mc ms Q kc ks (p1 + 3) L' S' G M') : AW X l mt R mc ms Q kc ks pc L S G M := by
  refine AW.run h hC (fun hq => AW.ok fun hok => ?_)
  have hd := am_dec_at hok.1 hq
  have hw := List.all_eq_true.mp hok.2 _ hq
  simp only [am_wd, Bool.and_eq_true, Nat.beq_eq, decide_eq_true_eq] at hw
  obtain ⟨rfl, ht⟩ := hw
  exact AW.two (fun p e s m args below meth c H locs ls Z hC a b => lv_icmp_eq hC.1 hC.2.1 hd ht a b) k1 k2
theorem AW.ine {p1 len ci tgt : Nat} {off : Int} {v : Int32} {w : Int64} {T' : List It} {C : Prop} {L' S' : List Value} {M' : Mem} {x y : Int32} (h : am_r G (am_t mt.2.2.2.2 pc) True L S M = some (C, (p1, .if_icmp .ne off, len, ci, tgt, v, w) :: T', L', .int y :: .int x :: S', M')) (hC : C) (k1 : ¬ x = y → AW X l mt R mc ms Q kc ks tgt L' S' G M') (k2 : x = y → AW X l mt R mc ms Q kc ks (p1 + 3) L' S' G M') : AW X l mt R mc ms Q kc ks pc L S G M := by
  refine AW.run h hC (fun hq => AW.ok fun hok => ?_)
  have hd := am_dec_at hok.1 hq
  have hw := List.all_eq_true.mp hok.2 _ hq
  simp only [am_wd, Bool.and_eq_true, Nat.beq_eq, decide_eq_true_eq] at hw
  obtain ⟨rfl, ht⟩ := hw
  exact AW.two (fun p e s m args below meth c H locs ls Z hC a b => lv_icmp_ne hC.1 hC.2.1 hd ht a b) k1 k2
theorem AW.ilt {p1 len ci tgt : Nat} {off : Int} {v : Int32} {w : Int64} {T' : List It} {C : Prop} {L' S' : List Value} {M' : Mem} {x y : Int32} (h : am_r G (am_t mt.2.2.2.2 pc) True L S M = some (C, (p1, .if_icmp .lt off, len, ci, tgt, v, w) :: T', L', .int y :: .int x :: S', M')) (hC : C) (k1 : x < y → AW X l mt R mc ms Q kc ks tgt L' S' G M') (k2 : ¬ x < y → AW X l mt R mc ms Q kc ks (p1 + 3) L' S' G M') : AW X l mt R mc ms Q kc ks pc L S G M := by
  refine AW.run h hC (fun hq => AW.ok fun hok => ?_)
  have hd := am_dec_at hok.1 hq
  have hw := List.all_eq_true.mp hok.2 _ hq
  simp only [am_wd, Bool.and_eq_true, Nat.beq_eq, decide_eq_true_eq] at hw
  obtain ⟨rfl, ht⟩ := hw
  exact AW.two (fun p e s m args below meth c H locs ls Z hC a b => lv_icmp_lt hC.1 hC.2.1 hd ht a b) k1 k2
theorem AW.ige {p1 len ci tgt : Nat} {off : Int} {v : Int32} {w : Int64} {T' : List It} {C : Prop} {L' S' : List Value} {M' : Mem} {x y : Int32} (h : am_r G (am_t mt.2.2.2.2 pc) True L S M = some (C, (p1, .if_icmp .ge off, len, ci, tgt, v, w) :: T', L', .int y :: .int x :: S', M')) (hC : C) (k1 : y ≤ x → AW X l mt R mc ms Q kc ks tgt L' S' G M') (k2 : ¬ y ≤ x → AW X l mt R mc ms Q kc ks (p1 + 3) L' S' G M') : AW X l mt R mc ms Q kc ks pc L S G M := by
  refine AW.run h hC (fun hq => AW.ok fun hok => ?_)
  have hd := am_dec_at hok.1 hq
  have hw := List.all_eq_true.mp hok.2 _ hq
  simp only [am_wd, Bool.and_eq_true, Nat.beq_eq, decide_eq_true_eq] at hw
  obtain ⟨rfl, ht⟩ := hw
  exact AW.two (fun p e s m args below meth c H locs ls Z hC a b => lv_icmp_ge hC.1 hC.2.1 hd ht a b) k1 k2
theorem AW.igt {p1 len ci tgt : Nat} {off : Int} {v : Int32} {w : Int64} {T' : List It} {C : Prop} {L' S' : List Value} {M' : Mem} {x y : Int32} (h : am_r G (am_t mt.2.2.2.2 pc) True L S M = some (C, (p1, .if_icmp .gt off, len, ci, tgt, v, w) :: T', L', .int y :: .int x :: S', M')) (hC : C) (k1 : y < x → AW X l mt R mc ms Q kc ks tgt L' S' G M') (k2 : ¬ y < x → AW X l mt R mc ms Q kc ks (p1 + 3) L' S' G M') : AW X l mt R mc ms Q kc ks pc L S G M := by
  refine AW.run h hC (fun hq => AW.ok fun hok => ?_)
  have hd := am_dec_at hok.1 hq
  have hw := List.all_eq_true.mp hok.2 _ hq
  simp only [am_wd, Bool.and_eq_true, Nat.beq_eq, decide_eq_true_eq] at hw
  obtain ⟨rfl, ht⟩ := hw
  exact AW.two (fun p e s m args below meth c H locs ls Z hC a b => lv_icmp_gt hC.1 hC.2.1 hd ht a b) k1 k2
theorem AW.ile {p1 len ci tgt : Nat} {off : Int} {v : Int32} {w : Int64} {T' : List It} {C : Prop} {L' S' : List Value} {M' : Mem} {x y : Int32} (h : am_r G (am_t mt.2.2.2.2 pc) True L S M = some (C, (p1, .if_icmp .le off, len, ci, tgt, v, w) :: T', L', .int y :: .int x :: S', M')) (hC : C) (k1 : x ≤ y → AW X l mt R mc ms Q kc ks tgt L' S' G M') (k2 : ¬ x ≤ y → AW X l mt R mc ms Q kc ks (p1 + 3) L' S' G M') : AW X l mt R mc ms Q kc ks pc L S G M := by
  refine AW.run h hC (fun hq => AW.ok fun hok => ?_)
  have hd := am_dec_at hok.1 hq
  have hw := List.all_eq_true.mp hok.2 _ hq
  simp only [am_wd, Bool.and_eq_true, Nat.beq_eq, decide_eq_true_eq] at hw
  obtain ⟨rfl, ht⟩ := hw
  exact AW.two (fun p e s m args below meth c H locs ls Z hC a b => lv_icmp_le hC.1 hC.2.1 hd ht a b) k1 k2
theorem AW.zeq {p1 len ci tgt : Nat} {off : Int} {v : Int32} {w : Int64} {T' : List It} {C : Prop} {L' S' : List Value} {M' : Mem} {x : Int32} (h : am_r G (am_t mt.2.2.2.2 pc) True L S M = some (C, (p1, .ifCond .eq off, len, ci, tgt, v, w) :: T', L', .int x :: S', M')) (hC : C) (k1 : x = 0 → AW X l mt R mc ms Q kc ks tgt L' S' G M') (k2 : ¬ x = 0 → AW X l mt R mc ms Q kc ks (p1 + 3) L' S' G M') : AW X l mt R mc ms Q kc ks pc L S G M := by
  refine AW.run h hC (fun hq => AW.ok fun hok => ?_)
  have hd := am_dec_at hok.1 hq
  have hw := List.all_eq_true.mp hok.2 _ hq
  simp only [am_wd, Bool.and_eq_true, Nat.beq_eq, decide_eq_true_eq] at hw
  obtain ⟨rfl, ht⟩ := hw
  exact AW.two (fun p e s m args below meth c H locs ls Z hC a b => lv_if_eq hC.1 hC.2.1 hd ht a b) k1 k2
theorem AW.zne {p1 len ci tgt : Nat} {off : Int} {v : Int32} {w : Int64} {T' : List It} {C : Prop} {L' S' : List Value} {M' : Mem} {x : Int32} (h : am_r G (am_t mt.2.2.2.2 pc) True L S M = some (C, (p1, .ifCond .ne off, len, ci, tgt, v, w) :: T', L', .int x :: S', M')) (hC : C) (k1 : ¬ x = 0 → AW X l mt R mc ms Q kc ks tgt L' S' G M') (k2 : x = 0 → AW X l mt R mc ms Q kc ks (p1 + 3) L' S' G M') : AW X l mt R mc ms Q kc ks pc L S G M := by
  refine AW.run h hC (fun hq => AW.ok fun hok => ?_)
  have hd := am_dec_at hok.1 hq
  have hw := List.all_eq_true.mp hok.2 _ hq
  simp only [am_wd, Bool.and_eq_true, Nat.beq_eq, decide_eq_true_eq] at hw
  obtain ⟨rfl, ht⟩ := hw
  exact AW.two (fun p e s m args below meth c H locs ls Z hC a b => lv_if_ne hC.1 hC.2.1 hd ht a b) k1 k2
theorem AW.zlt {p1 len ci tgt : Nat} {off : Int} {v : Int32} {w : Int64} {T' : List It} {C : Prop} {L' S' : List Value} {M' : Mem} {x : Int32} (h : am_r G (am_t mt.2.2.2.2 pc) True L S M = some (C, (p1, .ifCond .lt off, len, ci, tgt, v, w) :: T', L', .int x :: S', M')) (hC : C) (k1 : x < 0 → AW X l mt R mc ms Q kc ks tgt L' S' G M') (k2 : ¬ x < 0 → AW X l mt R mc ms Q kc ks (p1 + 3) L' S' G M') : AW X l mt R mc ms Q kc ks pc L S G M := by
  refine AW.run h hC (fun hq => AW.ok fun hok => ?_)
  have hd := am_dec_at hok.1 hq
  have hw := List.all_eq_true.mp hok.2 _ hq
  simp only [am_wd, Bool.and_eq_true, Nat.beq_eq, decide_eq_true_eq] at hw
  obtain ⟨rfl, ht⟩ := hw
  exact AW.two (fun p e s m args below meth c H locs ls Z hC a b => lv_if_lt hC.1 hC.2.1 hd ht a b) k1 k2
theorem AW.zge {p1 len ci tgt : Nat} {off : Int} {v : Int32} {w : Int64} {T' : List It} {C : Prop} {L' S' : List Value} {M' : Mem} {x : Int32} (h : am_r G (am_t mt.2.2.2.2 pc) True L S M = some (C, (p1, .ifCond .ge off, len, ci, tgt, v, w) :: T', L', .int x :: S', M')) (hC : C) (k1 : 0 ≤ x → AW X l mt R mc ms Q kc ks tgt L' S' G M') (k2 : ¬ 0 ≤ x → AW X l mt R mc ms Q kc ks (p1 + 3) L' S' G M') : AW X l mt R mc ms Q kc ks pc L S G M := by
  refine AW.run h hC (fun hq => AW.ok fun hok => ?_)
  have hd := am_dec_at hok.1 hq
  have hw := List.all_eq_true.mp hok.2 _ hq
  simp only [am_wd, Bool.and_eq_true, Nat.beq_eq, decide_eq_true_eq] at hw
  obtain ⟨rfl, ht⟩ := hw
  exact AW.two (fun p e s m args below meth c H locs ls Z hC a b => lv_if_ge hC.1 hC.2.1 hd ht a b) k1 k2
theorem AW.zgt {p1 len ci tgt : Nat} {off : Int} {v : Int32} {w : Int64} {T' : List It} {C : Prop} {L' S' : List Value} {M' : Mem} {x : Int32} (h : am_r G (am_t mt.2.2.2.2 pc) True L S M = some (C, (p1, .ifCond .gt off, len, ci, tgt, v, w) :: T', L', .int x :: S', M')) (hC : C) (k1 : 0 < x → AW X l mt R mc ms Q kc ks tgt L' S' G M') (k2 : ¬ 0 < x → AW X l mt R mc ms Q kc ks (p1 + 3) L' S' G M') : AW X l mt R mc ms Q kc ks pc L S G M := by
  refine AW.run h hC (fun hq => AW.ok fun hok => ?_)
  have hd := am_dec_at hok.1 hq
  have hw := List.all_eq_true.mp hok.2 _ hq
  simp only [am_wd, Bool.and_eq_true, Nat.beq_eq, decide_eq_true_eq] at hw
  obtain ⟨rfl, ht⟩ := hw
  exact AW.two (fun p e s m args below meth c H locs ls Z hC a b => lv_if_gt hC.1 hC.2.1 hd ht a b) k1 k2
theorem AW.zle {p1 len ci tgt : Nat} {off : Int} {v : Int32} {w : Int64} {T' : List It} {C : Prop} {L' S' : List Value} {M' : Mem} {x : Int32} (h : am_r G (am_t mt.2.2.2.2 pc) True L S M = some (C, (p1, .ifCond .le off, len, ci, tgt, v, w) :: T', L', .int x :: S', M')) (hC : C) (k1 : x ≤ 0 → AW X l mt R mc ms Q kc ks tgt L' S' G M') (k2 : ¬ x ≤ 0 → AW X l mt R mc ms Q kc ks (p1 + 3) L' S' G M') : AW X l mt R mc ms Q kc ks pc L S G M := by
  refine AW.run h hC (fun hq => AW.ok fun hok => ?_)
  have hd := am_dec_at hok.1 hq
  have hw := List.all_eq_true.mp hok.2 _ hq
  simp only [am_wd, Bool.and_eq_true, Nat.beq_eq, decide_eq_true_eq] at hw
  obtain ⟨rfl, ht⟩ := hw
  exact AW.two (fun p e s m args below meth c H locs ls Z hC a b => lv_if_le hC.1 hC.2.1 hd ht a b) k1 k2
theorem AW.iret {p1 len ci tgt : Nat} {v : Int32} {w : Int64} {T' : List It} {C : Prop} {L' : List Value} {M' : Mem} {z : Int32} {ty : FieldType} (hr : mt.2.2.2.1 = some ty) (hn : narrow ty (.int z) = .int z) (h : am_r G (am_t mt.2.2.2.2 pc) True L S M = some (C, (p1, .ireturn, len, ci, tgt, v, w) :: T', L', [.int z], M')) (hC : C) (hQ : Q (some (.int z)) G M') (hkc : kc = mc := by rfl) (hks : ks ≤ ms := by exact Nat.le_refl _) : AW X l mt R mc ms Q kc ks pc L S G M := by
  refine AW.run h hC (fun hq => AW.ok fun hok => ?_)
  have hd := am_dec_at hok.1 hq
  have hw := List.all_eq_true.mp hok.2 _ hq
  have hl : len = 1 := by simpa [am_wd] using hw
  subst hl
  subst hkc
  intro _ p e s m args below meth c H locs ls hC hH hL
  refine W.widen (Nat.le_refl _) hks ?_
  exact W.zret (v := z) hC.1 hC.2.1 (hC.2.2.2.1.trans hr) hn (fun t ht hW => ⟨some (.int z), G, M', rfl, hQ, by rw [ht]; exact hH.1, hH.2.1, hH.2.2.F ht⟩) hH.2.2.2.2 hd hC.2.2.2.2.1
theorem AW.lret {p1 len ci tgt : Nat} {v : Int32} {w : Int64} {T' : List It} {C : Prop} {L' : List Value} {M' : Mem} {z : Int64} (hr : mt.2.2.2.1 = some .long) (h : am_r G (am_t mt.2.2.2.2 pc) True L S M = some (C, (p1, .lreturn, len, ci, tgt, v, w) :: T', L', [.long z], M')) (hC : C) (hQ : Q (some (.long z)) G M') (hkc : kc = mc := by rfl) (hks : ks ≤ ms := by exact Nat.le_refl _) : AW X l mt R mc ms Q kc ks pc L S G M := by
  refine AW.run h hC (fun hq => AW.ok fun hok => ?_)
  have hd := am_dec_at hok.1 hq
  have hw := List.all_eq_true.mp hok.2 _ hq
  have hl : len = 1 := by simpa [am_wd] using hw
  subst hl
  subst hkc
  intro _ p e s m args below meth c H locs ls hC hH hL
  refine W.widen (Nat.le_refl _) hks ?_
  exact W.lret (v := z) hC.1 hC.2.1 (hC.2.2.2.1.trans hr) (fun t ht hW => ⟨some (.long z), G, M', rfl, hQ, by rw [ht]; exact hH.1, hH.2.1, hH.2.2.F ht⟩) hH.2.2.2.2 hd hC.2.2.2.2.1
theorem AW.vret {p1 len ci tgt : Nat} {v : Int32} {w : Int64} {T' : List It} {C : Prop} {L' : List Value} {M' : Mem} (hr : mt.2.2.2.1 = none) (h : am_r G (am_t mt.2.2.2.2 pc) True L S M = some (C, (p1, .return_, len, ci, tgt, v, w) :: T', L', [], M')) (hC : C) (hQ : Q (none) G M') (hkc : kc = mc := by rfl) (hks : ks ≤ ms := by exact Nat.le_refl _) : AW X l mt R mc ms Q kc ks pc L S G M := by
  refine AW.run h hC (fun hq => AW.ok fun hok => ?_)
  have hd := am_dec_at hok.1 hq
  have hw := List.all_eq_true.mp hok.2 _ hq
  have hl : len = 1 := by simpa [am_wd] using hw
  subst hl
  subst hkc
  intro _ p e s m args below meth c H locs ls hC hH hL
  refine W.widen (Nat.le_refl _) hks ?_
  exact W.vret hC.1 hC.2.1 (hC.2.2.2.1.trans hr) (fun t ht hW => ⟨none, G, M', rfl, hQ, by rw [ht]; exact hH.1, hH.2.1, hH.2.2.F ht⟩) hH.2.2.2.2 hd hC.2.2.2.2.1
theorem AW.aret {p1 len ci tgt : Nat} {v : Int32} {w : Int64} {T' : List It} {C : Prop} {L' : List Value} {M' : Mem} {z : Nat} {cn : String} (hr : mt.2.2.2.1 = some (.object cn)) (h : am_r G (am_t mt.2.2.2.2 pc) True L S M = some (C, (p1, .areturn, len, ci, tgt, v, w) :: T', L', [.ref z], M')) (hC : C) (hQ : Q (some (.ref z)) G M') (hkc : kc = mc := by rfl) (hks : ks ≤ ms := by exact Nat.le_refl _) : AW X l mt R mc ms Q kc ks pc L S G M := by
  refine AW.run h hC (fun hq => AW.ok fun hok => ?_)
  have hd := am_dec_at hok.1 hq
  have hw := List.all_eq_true.mp hok.2 _ hq
  have hl : len = 1 := by simpa [am_wd] using hw
  subst hl
  subst hkc
  intro _ p e s m args below meth c H locs ls hC hH hL
  refine W.widen (Nat.le_refl _) hks ?_
  exact W.aret hC.1 hC.2.1 (hC.2.2.2.1.trans hr) (Or.inl ⟨_, rfl⟩) (Or.inr ⟨_, rfl⟩) (fun t ht hW => ⟨some (.ref z), G, M', rfl, hQ, by rw [ht]; exact hH.1, hH.2.1, hH.2.2.F ht⟩) hH.2.2.2.2 hd hC.2.2.2.2.1
end Rl
/-! contracts -/
def am_R (rk mc ms : Nat) : Room := { frames := rk, cells := mc, slots := ms, locals := 49 * rk }
def am_P (X : Cx) (vs : List Value) (G : List Shp) (M : Mem) : Array Value → State → Prop := fun a U => a = (vs.map (am_v X.1)).toArray ∧ va_P X.2.1 vwCl (am_w X G M) U.heap ∧ U.heap.size = X.1 + G.length ∧ am_K X U
def AC (X : Cx) (l : Launch) (mt : Mt) (rk mc ms : Nat) (vs : List Value) (G : List Shp) (M : Mem) (Q : Option Value → List Shp → Mem → Prop) : Prop :=
  Met l mt.1 (.code mt.1 mt.2.1 mt.2.2.1 mt.2.2.2.1 :: lw_g) (am_R rk mc ms) (am_P X vs G M) (am_Q X mc Q) mc ms (am_A X)
theorem am_P.blind (X : Cx) (vs : List Value) (G : List Shp) (M : Mem) : FrameBlind (am_P X vs G M) := fun a U g mk q => ⟨q.1, q.2.1, q.2.2.1, am_K.same (s := U) (U := U.calling g mk a) rfl q.2.2.2⟩
theorem AC.ofW {X : Cx} {l : Launch} {mt : Mt} {rk mc ms : Nat} {vs : List Value} {G : List Shp} {M : Mem} {Q : Option Value → List Shp → Mem → Prop} (hok : am_ok mt) (hy : plainName mt.1.cls = true) (hn : (am_sl vs).length ≤ mt.2.2.1)
    (h : AW X l mt (am_R rk mc ms) mc ms Q 0 0 0 (am_ent mt.2.2.1 vs) [] G M) : AC X l mt rk mc ms vs G M Q := by
  refine Met.ofW (cc := mt.2.1) (maxL := mt.2.2.1) (ret := mt.2.2.2.1) hy rfl ?_
  intro p e s m args below meth c s₁ B hml hv
  obtain ⟨rfl, hP, hz, hK⟩ := hv
  have hts : ∀ w ∈ lw_g, w.before _ s = true := fun w hw => atoms_spec (ws := .code mt.1 mt.2.1 mt.2.2.1 mt.2.2.2.1 :: lw_g) B.pre w (List.mem_cons_of_mem _ hw)
  rw [lg_entry_eq]
  exact h hok p e s m _ below meth c s.heap [] _ ⟨B.exec, B.bytes, hml, B.returns, B.notSynchronized, (name_of_methodNamed B.named B.method).1, findClass_of_methodNamed B.named, hts, hK, by omega⟩ ⟨hP, hz, va_S.rf⟩ (am_L.entry X vs mt.2.2.1 hn)
theorem tbl_good : lw_g.all goodWord = true := by decide +kernel
/-- what a callee's tables say -/
def am_cal (mk : Mt) (n : Nat) : Prop := Cond.code mk.1 mk.2.1 mk.2.2.1 mk.2.2.2.1 ∈ lw_g ∧ Cond.initialized mk.1.cls ∈ lw_g ∧ (mk.1.cls ≠ "java/lang/invoke/MethodHandle" ∧ mk.1.cls ≠ "java/lang/invoke/VarHandle" ∧ (parseMethodDescriptor mk.1.desc).map (fun d => d.parameters.length) = some n) ∧ mk.2.2.1 ≤ 30
def am_cV (mk : Mt) : Prop := Cond.instanceMethod mk.1 ∈ lw_g ∧ Cond.selects mk.1.cls mk.1 mk.1 ∈ lw_g
def am_cS (mk : Mt) : Prop := Cond.static mk.1 ∈ lw_g
theorem am_good {mk : Mt} {n : Nat} (h : am_cal mk n) : GoodIn lw_g (.code mk.1 mk.2.1 mk.2.2.1 mk.2.2.2.1 :: lw_g) := by
  have hg : ∀ w ∈ lw_g, w ∈ lw_g ∧ ((w.onTables && w.keeps) = true ∨ ∃ ty, w = .arrayClass ty) := fun w hw => ⟨hw, good_of_word (List.all_eq_true.mp tbl_good w hw)⟩
  intro w hw
  rcases List.mem_cons.mp hw with rfl | hw
  · exact hg _ h.1
  · exact hg w hw
/-- n arguments off the stack -/
def am_sp : Nat → List Value → List Value → Option (List Value × List Value)
  | 0, S, A => some (A, S)
  | n + 1, v :: S, A => am_sp n S (v :: A)
  | _ + 1, [], _ => none
theorem am_sp_eq : ∀ {n : Nat} {S A A' S' : List Value}, am_sp n S A = some (A', S') → ∃ B : List Value, S = B.reverse ++ S' ∧ A' = B ++ A ∧ B.length = n
  | 0, S, A, A', S', h => by
    simp only [am_sp, Option.some.injEq, Prod.mk.injEq] at h
    obtain ⟨rfl, rfl⟩ := h
    exact ⟨[], rfl, rfl, rfl⟩
  | n + 1, [], A, A', S', h => by simp [am_sp] at h
  | n + 1, v :: S, A, A', S', h => by
    obtain ⟨B, h1, h2, h3⟩ := am_sp_eq (n := n) (S := S) (A := v :: A) h
    exact ⟨B ++ [v], by rw [h1]; simp, by rw [h2]; simp, by simp [h3]⟩
theorem am_sum (b : Nat) (S : List Value) : ((S.map (am_v b)).map fun v => v.category).sum = (S.map fun v => v.category).sum := by
  rw [List.map_map]
  congr 1
  apply List.map_congr_left
  intro v _
  exact am_v_cat b v
section Cl
variable {X : Cx} {l : Launch} {mt : Mt} {R : Room} {mc ms : Nat} {Q : Option Value → List Shp → Mem → Prop} {kc ks pc : Nat} {L S : List Value} {G : List Shp} {M : Mem}
/-- behind a call -/
theorem am_after {p : Program} {e : Env} {s : State} {m : MethodId} {args : Array Value} {below : List Frame} {meth : Method} {c : Code} {H : Heap} {locs : List Loc} {Z : State → Prop} {ls : Array Slot} {st0 rest : List Value} {a : Array Value} {mc' ms' : Nat} {Qk : Option Value → List Shp → Mem → Prop}
    (hr : va_Run p l e R s m args below meth c H locs kc ks mc' ms' (F0 m pc ls st0) (rest.map (am_v X.1)) (am_Q X mc' Qk a) (am_A X)) (hH : am_H X G M kc s H locs) (hz : H.size = X.1 + G.length)
    (kk : ∀ (v : Option Value) (G2 : List Shp) (M2 : Mem) (H1 : Heap) (locs1 : List Loc), Qk v G2 M2 → am_H X G2 M2 (kc + mc') s H1 locs1 → W p l e R s m args below meth c H1 locs1 (kc + mc') (ks + ms') Z (F0 m (pc + 3) ls ((v.toList ++ rest).map (am_v X.1)))) : W p l e R s m args below meth c H locs kc ks Z (F0 m pc ls st0) := by
  intro T hT X0
  obtain ⟨v, st₀, t, T', L1, h0, X', hL, e1, e2, ⟨v', G2, M2, hv, hq, hP, hs, hF⟩, st⟩ := hr T hT X0
  have hv : v = v'.map (am_v X.1) := by cases hv; rfl
  subst hv
  have hS := hH.2.2
  have hsz := hH.2.1
  obtain ⟨t2, a1, b1⟩ := kk v' G2 M2 T'.heap (locs ++ L1) hq ⟨by rw [e1]; exact hP, by rw [h0] at hs; omega, by
      unfold va_F at hF
      rw [h0] at hF
      refine ⟨Nat.le_trans hS.1 (by rw [e1]; exact hF.1), fun q h1 h2 => ?_, fun q hq => ?_⟩
      · rw [e1, hF.2 q (Nat.lt_of_lt_of_le h1 hS.1) h2]
        exact hS.2.1 q h1 h2
      · rcases List.mem_append.mp hq with h | h
        · exact hS.2.2 q h
        · exact hL q h⟩ T' rfl X'
  refine ⟨t2, st t2 ?_, b1⟩
  have : ((v'.toList ++ rest).map (am_v X.1)) = (v'.map (am_v X.1)).toList ++ rest.map (am_v X.1) := by cases v' <;> simp
  rw [this] at a1
  exact a1
theorem AW.sz {p : Program} {e : Env} {s : State} {m : MethodId} {args : Array Value} {below : List Frame} {meth : Method} {c : Code} {H : Heap} {locs : List Loc} {Z : State → Prop} {g : JFrame} (hH : am_H X G M kc s H locs) (hb : X.1 ≤ s.heap.size) (h : H.size = X.1 + G.length → W p l e R s m args below meth c H locs kc ks Z g) : W p l e R s m args below meth c H locs kc ks Z g := fun T hT X0 => h (by
  have h1 := X0.heapSize
  rw [hT] at h1
  have h2 := hH.ge hb
  have h3 := hH.2.1
  omega) T hT X0
theorem AW.callV {mk : Mt} {n r rk p1 len ci tgt idx a cc mc' ms' cR sR : Nat} {v : Int32} {w : Int64} {T' : List It} {C : Prop} {L' S1 S' As : List Value} {M' : Mem} {cs : List Nat} {Qk : Option Value → List Shp → Mem → Prop} {vc : vw_C}
    (h : am_r G (am_t mt.2.2.2.2 pc) True L S M = some (C, (p1, .invokevirtual idx, len, ci, tgt, v, w) :: T', L', S1, M')) (hC : C) (hs : am_sp (n + 1) S1 [] = some (.ref a :: As, S'))
    (hl : Cond.methodLink mt.1.cls idx mk.1 ∈ lw_g) (hk : am_cal mk n) (hv : am_cV mk) (ha : am_sh G a = some (.inr (cc, cs))) (hcc : vwCl[cc]? = some vc) (hcn : mk.1.cls = vc.1) (hR : R = am_R r cR sR) (hrk : rk < r) (hf : kc + mc' ≤ cR ∧ ks + ms' ≤ sR) (hcat : (S'.map fun v => v.category).sum ≤ 8)
    (hcal : AC X l mk rk mc' ms' (.ref a :: As) G M' Qk) (k : ∀ (v : Option Value) (G2 : List Shp) (M2 : Mem), Qk v G2 M2 → AW X l mt R mc ms Q (kc + mc') (ks + ms') (p1 + 3) L' (v.toList ++ S') G2 M2) : AW X l mt R mc ms Q kc ks pc L S G M := by
  refine AW.run h hC (fun hq => AW.ok fun hok => ?_)
  have hd := am_dec_at hok.1 hq
  have hw := List.all_eq_true.mp hok.2 _ hq
  have hl3 : len = 3 := by simpa [am_wd] using hw
  subst hl3
  obtain ⟨B, hb1, hb2, hb3⟩ := am_sp_eq hs
  rw [List.append_nil] at hb2
  subst hb2
  intro _ p e s m args below meth c H locs ls hCx hH hL
  refine AW.sz hH hCx.2.2.2.2.2.2.2.2.2 (fun hz => ?_)
  have hts := hCx.2.2.2.2.2.2.2.1
  have hK := hCx.2.2.2.2.2.2.2.2.1
  have he := am_w_at (X := X) (M := M') (by rw [← am_sh_eq]; exact ha)
  have hst : S1.map (am_v X.1) = (As.map (am_v X.1)).reverse ++ .ref (X.1 + a) :: S'.map (am_v X.1) := by
    rw [hb1]; simp [am_v]
  subst hR
  have run := va_runV (l := l) (R := am_R r cR sR) (H := H) (locs := locs) (cells := kc) (slots := ks) (below := below) (meth := meth) (e := e) (C := mk.1.cls) (b := X.1 + a) (As := As.map (am_v X.1)) (rest := S'.map (am_v X.1)) (g := F0 m p1 ls (S1.map (am_v X.1))) (n := n) (Ts := lw_g)
    (⟨hCx.1, hCx.2.1, hCx.2.2.1, hCx.2.2.2.2.2.2.1, hts⟩ : CallFix p m c mt.2.1 mt.2.2.1 s args lw_g mt.1.cls) hcal
    ⟨callB_of (bytes := mk.2.1) (maxL := mk.2.2.1) (ret := mk.2.2.2.1) n hts (am_good hk) rfl rfl rfl (hts _ hk.2.1) (hts _ hl) hk.2.2.1 ⟨hrk, by have := hk.2.2.2; simp only [am_R]; omega⟩, hts _ hv.1, hts _ hv.2⟩
    ⟨am_P.blind X _ G M', by rw [hcn]; exact va_recv hK.1 hH.1 hcc he, fun U hU hW => ⟨by simp [am_v], by rw [hU]; exact hH.1, by rw [hU]; exact hz, hK.warm hW⟩⟩
    rfl (by simpa using hb3) hL.2.1 hst (lv_room (by rw [am_sum]; exact hcat)) hd hf
  exact am_after run hH hz (fun v G2 M2 H1 locs1 hq hH1 => k v G2 M2 hq hok p e s m args below meth c H1 locs1 ls hCx hH1 hL)
theorem AW.callS {mk : Mt} {n r rk p1 len ci tgt idx mc' ms' cR sR : Nat} {v : Int32} {w : Int64} {T' : List It} {C : Prop} {L' S1 S' As : List Value} {M' : Mem} {Qk : Option Value → List Shp → Mem → Prop}
    (h : am_r G (am_t mt.2.2.2.2 pc) True L S M = some (C, (p1, .invokestatic idx, len, ci, tgt, v, w) :: T', L', S1, M')) (hC : C) (hs : am_sp n S1 [] = some (As, S'))
    (hl : Cond.methodLink mt.1.cls idx mk.1 ∈ lw_g ∨ (mt.1.cls, idx, mk.1) ∈ nl_tbl) (hk : am_cal mk n) (hv : am_cS mk) (hR : R = am_R r cR sR) (hrk : rk < r) (hf : kc + mc' ≤ cR ∧ ks + ms' ≤ sR) (hcat : (S'.map fun v => v.category).sum ≤ 8)
    (hcal : AC X l mk rk mc' ms' As G M' Qk) (k : ∀ (v : Option Value) (G2 : List Shp) (M2 : Mem), Qk v G2 M2 → AW X l mt R mc ms Q (kc + mc') (ks + ms') (p1 + 3) L' (v.toList ++ S') G2 M2) : AW X l mt R mc ms Q kc ks pc L S G M := by
  refine AW.run h hC (fun hq => AW.ok fun hok => ?_)
  have hd := am_dec_at hok.1 hq
  have hw := List.all_eq_true.mp hok.2 _ hq
  have hl3 : len = 3 := by simpa [am_wd] using hw
  subst hl3
  obtain ⟨B, hb1, hb2, hb3⟩ := am_sp_eq hs
  rw [List.append_nil] at hb2
  subst hb2
  intro _ p e s m args below meth c H locs ls hCx hH hL
  refine AW.sz hH hCx.2.2.2.2.2.2.2.2.2 (fun hz => ?_)
  have hts := hCx.2.2.2.2.2.2.2.1
  have hK := hCx.2.2.2.2.2.2.2.2.1
  have hst : S1.map (am_v X.1) = (As.map (am_v X.1)).reverse ++ S'.map (am_v X.1) := by
    rw [hb1]; simp
  subst hR
  have hp : PreS s H (am_P X As G M') (As.map (am_v X.1)) := ⟨am_P.blind X _ G M', fun U hU hW => ⟨rfl, by rw [hU]; exact hH.1, by rw [hU]; exact hz, hK.warm hW⟩⟩
  have run : va_Run p l e (am_R r cR sR) s m args below meth c H locs kc ks mc' ms' (F0 m p1 ls (S1.map (am_v X.1))) (S'.map (am_v X.1)) (am_Q X mc' Qk (As.map (am_v X.1)).toArray) (am_A X) := by
    rcases hl with hl | hl
    · exact va_runS (n := n) (Ts := lw_g) (⟨hCx.1, hCx.2.1, hCx.2.2.1, hCx.2.2.2.2.2.2.1, hts⟩ : CallFix p m c mt.2.1 mt.2.2.1 s args lw_g mt.1.cls) hcal
        ⟨callB_of (bytes := mk.2.1) (maxL := mk.2.2.1) (ret := mk.2.2.2.1) n hts (am_good hk) rfl rfl rfl (hts _ hk.2.1) (hts _ hl) hk.2.2.1 ⟨hrk, by have := hk.2.2.2; simp only [am_R]; omega⟩, hts _ hv⟩ hp
        rfl (by simpa using hb3) hL.2.1 hst (lv_room (by rw [am_sum]; exact hcat)) hd hf
    · exact va_runSN (n := n) (Ts := lw_g) (⟨hCx.1, hCx.2.1, hCx.2.2.1, hCx.2.2.2.2.2.2.1, hts⟩ : CallFix p m c mt.2.1 mt.2.2.1 s args lw_g mt.1.cls) hcal
        ⟨va_cnB (bytes := mk.2.1) (maxL := mk.2.2.1) (ret := mk.2.2.2.1) n hts (am_good hk) rfl rfl rfl (hK.2 _ hl) (hts _ hk.2.1) hk.2.2.1 ⟨hrk, by have := hk.2.2.2; simp only [am_R]; omega⟩, hts _ hv, trivial⟩ hp
        rfl (by simpa using hb3) hL.2.1 hst (lv_room (by rw [am_sum]; exact hcat)) hd hf
  exact am_after run hH hz (fun v G2 M2 H1 locs1 hq hH1 => k v G2 M2 hq hok p e s m args below meth c H1 locs1 ls hCx hH1 hL)
theorem AW.callI {mk : Mt} {n r rk p1 len ci tgt idx a mc' ms' cR sR : Nat} {v : Int32} {w : Int64} {T' : List It} {C : Prop} {L' S1 S' As : List Value} {M' : Mem} {Qk : Option Value → List Shp → Mem → Prop}
    (h : am_r G (am_t mt.2.2.2.2 pc) True L S M = some (C, (p1, .invokespecial idx, len, ci, tgt, v, w) :: T', L', S1, M')) (hC : C) (hs : am_sp (n + 1) S1 [] = some (.ref a :: As, S'))
    (hl : Cond.methodLink mt.1.cls idx mk.1 ∈ lw_g ∨ (mt.1.cls, idx, mk.1) ∈ nl_tbl) (hk : am_cal mk n) (hv : Cond.instanceMethod mk.1 ∈ lw_g) (hin : mk.1.name = "<init>") (hrt : mk.2.2.2.1 = none) (hR : R = am_R r cR sR) (hrk : rk < r) (hf : kc + mc' ≤ cR ∧ ks + ms' ≤ sR) (hcat : (S'.map fun v => v.category).sum ≤ 8)
    (hcal : AC X l mk rk mc' ms' (.ref a :: As) G M' Qk) (k : ∀ (v : Option Value) (G2 : List Shp) (M2 : Mem), Qk v G2 M2 → AW X l mt R mc ms Q (kc + mc') (ks + ms') (p1 + 3) L' (v.toList ++ S') G2 M2) : AW X l mt R mc ms Q kc ks pc L S G M := by
  refine AW.run h hC (fun hq => AW.ok fun hok => ?_)
  have hd := am_dec_at hok.1 hq
  have hw := List.all_eq_true.mp hok.2 _ hq
  have hl3 : len = 3 := by simpa [am_wd] using hw
  subst hl3
  obtain ⟨B, hb1, hb2, hb3⟩ := am_sp_eq hs
  rw [List.append_nil] at hb2
  subst hb2
  intro _ p e s m args below meth c H locs ls hCx hH hL
  refine AW.sz hH hCx.2.2.2.2.2.2.2.2.2 (fun hz => ?_)
  have hts := hCx.2.2.2.2.2.2.2.1
  have hK := hCx.2.2.2.2.2.2.2.2.1
  have hst : S1.map (am_v X.1) = (As.map (am_v X.1)).reverse ++ .ref (X.1 + a) :: S'.map (am_v X.1) := by
    rw [hb1]; simp [am_v]
  subst hR
  have hp : PreS s H (am_P X (.ref a :: As) G M') (.ref (X.1 + a) :: As.map (am_v X.1)) := ⟨am_P.blind X _ G M', fun U hU hW => ⟨by simp [am_v], by rw [hU]; exact hH.1, by rw [hU]; exact hz, hK.warm hW⟩⟩
  have run : va_Run p l e (am_R r cR sR) s m args below meth c H locs kc ks mc' ms' (F0 m p1 ls (S1.map (am_v X.1))) (S'.map (am_v X.1)) (am_Q X mc' Qk (Value.ref (X.1 + a) :: As.map (am_v X.1)).toArray) (am_A X) := by
    unfold AC at hcal
    have hG := am_good hk
    have hk' := hk
    rw [hrt] at hcal hG
    rcases hl with hl | hl
    · exact va_runI (n := n) (Ts := lw_g) (⟨hCx.1, hCx.2.1, hCx.2.2.1, hCx.2.2.2.2.2.2.1, hts⟩ : CallFix p m c mt.2.1 mt.2.2.1 s args lw_g mt.1.cls) hcal
        ⟨callB_of (bytes := mk.2.1) (maxL := mk.2.2.1) (ret := none) n hts hG rfl rfl rfl (hts _ hk.2.1) (hts _ hl) hk.2.2.1 ⟨hrk, by have := hk.2.2.2; simp only [am_R]; omega⟩, hin, hts _ hv⟩ hp
        rfl (by simpa using hb3) hL.2.1 hst (lv_room (by rw [am_sum]; exact hcat)) hd hf
    · exact va_runIN (n := n) (Ts := lw_g) (⟨hCx.1, hCx.2.1, hCx.2.2.1, hCx.2.2.2.2.2.2.1, hts⟩ : CallFix p m c mt.2.1 mt.2.2.1 s args lw_g mt.1.cls) hcal
        ⟨va_cnB (bytes := mk.2.1) (maxL := mk.2.2.1) (ret := none) n hts hG rfl rfl rfl (hK.2 _ hl) (hts _ hk.2.1) hk.2.2.1 ⟨hrk, by have := hk.2.2.2; simp only [am_R]; omega⟩, hin, hts _ hv⟩ hp
        rfl (by simpa using hb3) hL.2.1 hst (lv_room (by rw [am_sum]; exact hcat)) hd hf
  exact am_after run hH hz (fun v G2 M2 H1 locs1 hq hH1 => k v G2 M2 hq hok p e s m args below meth c H1 locs1 ls hCx hH1 hL)
end Cl
end
section
/-! methods that make no cell: PW, PC -/
def PW (X : Cx) (l : Launch) (mt : Mt) (rk : Nat) (Q : Option Value → Mem → Prop) (pc : Nat) (L S : List Value) (G : List Shp) (M : Mem) : Prop := AW X l mt (am_R rk 0 0) 0 0 (fun v G' M' => G' = G ∧ Q v M') 0 0 pc L S G M
def PC (X : Cx) (l : Launch) (mt : Mt) (rk : Nat) (vs : List Value) (G : List Shp) (M : Mem) (Q : Option Value → Mem → Prop) : Prop := AC X l mt rk 0 0 vs G M (fun v G' M' => G' = G ∧ Q v M')
/-- the memory stays, the answer is r -/
def PF (X : Cx) (l : Launch) (mt : Mt) (rk : Nat) (vs : List Value) (G : List Shp) (M : Mem) (r : Value) : Prop := PC X l mt rk vs G M (fun v M' => v = some r ∧ M' = M)
def am_siV (own : String) (idx : Nat) (mk : Mt) (n : Nat) : Prop := Cond.methodLink own idx mk.1 ∈ lw_g ∧ am_cal mk n ∧ am_cV mk
def am_siS (own : String) (idx : Nat) (mk : Mt) (n : Nat) : Prop := (Cond.methodLink own idx mk.1 ∈ lw_g ∨ (own, idx, mk.1) ∈ nl_tbl) ∧ am_cal mk n ∧ am_cS mk
def am_siI (own : String) (idx : Nat) (mk : Mt) (n : Nat) : Prop := (Cond.methodLink own idx mk.1 ∈ lw_g ∨ (own, idx, mk.1) ∈ nl_tbl) ∧ am_cal mk n ∧ Cond.instanceMethod mk.1 ∈ lw_g
def am_rc (G : List Shp) (a : Nat) : Option String := match am_sh G a with
  | some (.inr (cc, _)) => match vwCl[cc]? with
    | some r => some r.1
    | none => none
  | _ => none
theorem am_rc_of {G : List Shp} {a : Nat} {C : String} (h : am_rc G a = some C) : ∃ cc cs vc, am_sh G a = some (.inr (cc, cs)) ∧ vwCl[cc]? = some vc ∧ C = vc.1 := by
  unfold am_rc at h
  split at h
  · rename_i cc cs h1
    split at h
    · rename_i r h2
      exact ⟨cc, cs, r, h1, h2, (Option.some.inj h).symm⟩
    · cases h
  · cases h
theorem lw_mem {w : Cond} {i : Nat} (h : lw_tbl[i]? = some w) (hg : goodWord w = true) : w ∈ lw_g := List.mem_filter.mpr ⟨List.mem_of_getElem? h, hg⟩
section Pw
variable {X : Cx} {l : Launch} {mt : Mt} {rk : Nat} {Q : Option Value → Mem → Prop} {pc : Nat} {L S : List Value} {G : List Shp} {M : Mem}
theorem PC.ofW {vs : List Value} (hok : am_ok mt) (h : PW X l mt rk Q 0 (am_ent mt.2.2.1 vs) [] G M) (hy : plainName mt.1.cls = true := by decide +kernel) (hn : (am_sl vs).length ≤ mt.2.2.1 := by exact Nat.le_of_ble_eq_true rfl) : PC X l mt rk vs G M Q := AC.ofW hok hy hn h
theorem PC.weaken {vs : List Value} {Q' : Option Value → Mem → Prop} (h : PC X l mt rk vs G M Q') (hq : ∀ v M', Q' v M' → Q v M') : PC X l mt rk vs G M Q := by
  intro p e
  intros
  rename_i a1 a2 a3 s m args below hf hpre hP hT
  obtain ⟨t, o, h1, h2, h3, ⟨v, G2, M2, k1, ⟨k2, k3⟩, k4⟩, h5⟩ := h p e a1 a2 a3 s m args below hf hpre hP hT
  exact ⟨t, o, h1, h2, h3, ⟨v, G2, M2, k1, ⟨k2, hq _ _ k3⟩, k4⟩, h5⟩
theorem PW.ieq {p1 len ci tgt : Nat} {off : Int} {v : Int32} {w : Int64} {T' : List It} {C : Prop} {L' S' : List Value} {M' : Mem} {x y : Int32} (h : am_r G (am_t mt.2.2.2.2 pc) True L S M = some (C, (p1, .if_icmp .eq off, len, ci, tgt, v, w) :: T', L', .int y :: .int x :: S', M')) (hC : C) (k1 : x = y → PW X l mt rk Q tgt L' S' G M') (k2 : ¬ x = y → PW X l mt rk Q (p1 + 3) L' S' G M') : PW X l mt rk Q pc L S G M := AW.ieq h hC k1 k2
theorem PW.ine {p1 len ci tgt : Nat} {off : Int} {v : Int32} {w : Int64} {T' : List It} {C : Prop} {L' S' : List Value} {M' : Mem} {x y : Int32} (h : am_r G (am_t mt.2.2.2.2 pc) True L S M = some (C, (p1, .if_icmp .ne off, len, ci, tgt, v, w) :: T', L', .int y :: .int x :: S', M')) (hC : C) (k1 : ¬ x = y → PW X l mt rk Q tgt L' S' G M') (k2 : x = y → PW X l mt rk Q (p1 + 3) L' S' G M') : PW X l mt rk Q pc L S G M := AW.ine h hC k1 k2
theorem PW.ilt {p1 len ci tgt : Nat} {off : Int} {v : Int32} {w : Int64} {T' : List It} {C : Prop} {L' S' : List Value} {M' : Mem} {x y : Int32} (h : am_r G (am_t mt.2.2.2.2 pc) True L S M = some (C, (p1, .if_icmp .lt off, len, ci, tgt, v, w) :: T', L', .int y :: .int x :: S', M')) (hC : C) (k1 : x < y → PW X l mt rk Q tgt L' S' G M') (k2 : ¬ x < y → PW X l mt rk Q (p1 + 3) L' S' G M') : PW X l mt rk Q pc L S G M := AW.ilt h hC k1 k2
theorem PW.ige {p1 len ci tgt : Nat} {off : Int} {v : Int32} {w : Int64} {T' : List It} {C : Prop} {L' S' : List Value} {M' : Mem} {x y : Int32} (h : am_r G (am_t mt.2.2.2.2 pc) True L S M = some (C, (p1, .if_icmp .ge off, len, ci, tgt, v, w) :: T', L', .int y :: .int x :: S', M')) (hC : C) (k1 : y ≤ x → PW X l mt rk Q tgt L' S' G M') (k2 : ¬ y ≤ x → PW X l mt rk Q (p1 + 3) L' S' G M') : PW X l mt rk Q pc L S G M := AW.ige h hC k1 k2
theorem PW.igt {p1 len ci tgt : Nat} {off : Int} {v : Int32} {w : Int64} {T' : List It} {C : Prop} {L' S' : List Value} {M' : Mem} {x y : Int32} (h : am_r G (am_t mt.2.2.2.2 pc) True L S M = some (C, (p1, .if_icmp .gt off, len, ci, tgt, v, w) :: T', L', .int y :: .int x :: S', M')) (hC : C) (k1 : y < x → PW X l mt rk Q tgt L' S' G M') (k2 : ¬ y < x → PW X l mt rk Q (p1 + 3) L' S' G M') : PW X l mt rk Q pc L S G M := AW.igt h hC k1 k2
theorem PW.ile {p1 len ci tgt : Nat} {off : Int} {v : Int32} {w : Int64} {T' : List It} {C : Prop} {L' S' : List Value} {M' : Mem} {x y : Int32} (h : am_r G (am_t mt.2.2.2.2 pc) True L S M = some (C, (p1, .if_icmp .le off, len, ci, tgt, v, w) :: T', L', .int y :: .int x :: S', M')) (hC : C) (k1 : x ≤ y → PW X l mt rk Q tgt L' S' G M') (k2 : ¬ x ≤ y → PW X l mt rk Q (p1 + 3) L' S' G M') : PW X l mt rk Q pc L S G M := AW.ile h hC k1 k2
theorem PW.zeq {p1 len ci tgt : Nat} {off : Int} {v : Int32} {w : Int64} {T' : List It} {C : Prop} {L' S' : List Value} {M' : Mem} {x : Int32} (h : am_r G (am_t mt.2.2.2.2 pc) True L S M = some (C, (p1, .ifCond .eq off, len, ci, tgt, v, w) :: T', L', .int x :: S', M')) (hC : C) (k1 : x = 0 → PW X l mt rk Q tgt L' S' G M') (k2 : ¬ x = 0 → PW X l mt rk Q (p1 + 3) L' S' G M') : PW X l mt rk Q pc L S G M := AW.zeq h hC k1 k2
theorem PW.zne {p1 len ci tgt : Nat} {off : Int} {v : Int32} {w : Int64} {T' : List It} {C : Prop} {L' S' : List Value} {M' : Mem} {x : Int32} (h : am_r G (am_t mt.2.2.2.2 pc) True L S M = some (C, (p1, .ifCond .ne off, len, ci, tgt, v, w) :: T', L', .int x :: S', M')) (hC : C) (k1 : ¬ x = 0 → PW X l mt rk Q tgt L' S' G M') (k2 : x = 0 → PW X l mt rk Q (p1 + 3) L' S' G M') : PW X l mt rk Q pc L S G M := AW.zne h hC k1 k2
theorem PW.zlt {p1 len ci tgt : Nat} {off : Int} {v : Int32} {w : Int64} {T' : List It} {C : Prop} {L' S' : List Value} {M' : Mem} {x : Int32} (h : am_r G (am_t mt.2.2.2.2 pc) True L S M = some (C, (p1, .ifCond .lt off, len, ci, tgt, v, w) :: T', L', .int x :: S', M')) (hC : C) (k1 : x < 0 → PW X l mt rk Q tgt L' S' G M') (k2 : ¬ x < 0 → PW X l mt rk Q (p1 + 3) L' S' G M') : PW X l mt rk Q pc L S G M := AW.zlt h hC k1 k2
theorem PW.zge {p1 len ci tgt : Nat} {off : Int} {v : Int32} {w : Int64} {T' : List It} {C : Prop} {L' S' : List Value} {M' : Mem} {x : Int32} (h : am_r G (am_t mt.2.2.2.2 pc) True L S M = some (C, (p1, .ifCond .ge off, len, ci, tgt, v, w) :: T', L', .int x :: S', M')) (hC : C) (k1 : 0 ≤ x → PW X l mt rk Q tgt L' S' G M') (k2 : ¬ 0 ≤ x → PW X l mt rk Q (p1 + 3) L' S' G M') : PW X l mt rk Q pc L S G M := AW.zge h hC k1 k2
theorem PW.zgt {p1 len ci tgt : Nat} {off : Int} {v : Int32} {w : Int64} {T' : List It} {C : Prop} {L' S' : List Value} {M' : Mem} {x : Int32} (h : am_r G (am_t mt.2.2.2.2 pc) True L S M = some (C, (p1, .ifCond .gt off, len, ci, tgt, v, w) :: T', L', .int x :: S', M')) (hC : C) (k1 : 0 < x → PW X l mt rk Q tgt L' S' G M') (k2 : ¬ 0 < x → PW X l mt rk Q (p1 + 3) L' S' G M') : PW X l mt rk Q pc L S G M := AW.zgt h hC k1 k2
theorem PW.zle {p1 len ci tgt : Nat} {off : Int} {v : Int32} {w : Int64} {T' : List It} {C : Prop} {L' S' : List Value} {M' : Mem} {x : Int32} (h : am_r G (am_t mt.2.2.2.2 pc) True L S M = some (C, (p1, .ifCond .le off, len, ci, tgt, v, w) :: T', L', .int x :: S', M')) (hC : C) (k1 : x ≤ 0 → PW X l mt rk Q tgt L' S' G M') (k2 : ¬ x ≤ 0 → PW X l mt rk Q (p1 + 3) L' S' G M') : PW X l mt rk Q pc L S G M := AW.zle h hC k1 k2
theorem PW.goto {p1 len ci tgt : Nat} {off : Int} {v : Int32} {w : Int64} {T' : List It} {C : Prop} {L' S' : List Value} {M' : Mem} (h : am_r G (am_t mt.2.2.2.2 pc) True L S M = some (C, (p1, .goto off, len, ci, tgt, v, w) :: T', L', S', M')) (hC : C) (k : PW X l mt rk Q tgt L' S' G M') : PW X l mt rk Q pc L S G M := AW.goto h hC k
/-- an int's end -/
theorem PW.iret {p1 len ci tgt : Nat} {v : Int32} {w : Int64} {T' : List It} {C : Prop} {L' : List Value} {M' : Mem} {z : Int32} (hr : mt.2.2.2.1 = some .int) (h : am_r G (am_t mt.2.2.2.2 pc) True L S M = some (C, (p1, .ireturn, len, ci, tgt, v, w) :: T', L', [.int z], M')) (hC : C) (hQ : Q (some (.int z)) M') : PW X l mt rk Q pc L S G M := AW.iret hr rfl h hC ⟨rfl, hQ⟩
/-- a boolean's end -/
theorem PW.zret {p1 len ci tgt : Nat} {v : Int32} {w : Int64} {T' : List It} {C : Prop} {L' : List Value} {M' : Mem} {z : Int32} (hr : mt.2.2.2.1 = some .boolean) (h : am_r G (am_t mt.2.2.2.2 pc) True L S M = some (C, (p1, .ireturn, len, ci, tgt, v, w) :: T', L', [.int z], M')) (hC : C) (hz : narrow .boolean (.int z) = .int z) (hQ : Q (some (.int z)) M') : PW X l mt rk Q pc L S G M := AW.iret hr hz h hC ⟨rfl, hQ⟩
theorem PW.lret {p1 len ci tgt : Nat} {v : Int32} {w : Int64} {T' : List It} {C : Prop} {L' : List Value} {M' : Mem} {z : Int64} (hr : mt.2.2.2.1 = some .long) (h : am_r G (am_t mt.2.2.2.2 pc) True L S M = some (C, (p1, .lreturn, len, ci, tgt, v, w) :: T', L', [.long z], M')) (hC : C) (hQ : Q (some (.long z)) M') : PW X l mt rk Q pc L S G M := AW.lret hr h hC ⟨rfl, hQ⟩
theorem PW.vret {p1 len ci tgt : Nat} {v : Int32} {w : Int64} {T' : List It} {C : Prop} {L' : List Value} {M' : Mem} (hr : mt.2.2.2.1 = none) (h : am_r G (am_t mt.2.2.2.2 pc) True L S M = some (C, (p1, .return_, len, ci, tgt, v, w) :: T', L', [], M')) (hC : C) (hQ : Q none M') : PW X l mt rk Q pc L S G M := AW.vret hr h hC ⟨rfl, hQ⟩
theorem PW.aret {p1 len ci tgt : Nat} {v : Int32} {w : Int64} {T' : List It} {C : Prop} {L' : List Value} {M' : Mem} {z : Nat} {cn : String} (hr : mt.2.2.2.1 = some (.object cn)) (h : am_r G (am_t mt.2.2.2.2 pc) True L S M = some (C, (p1, .areturn, len, ci, tgt, v, w) :: T', L', [.ref z], M')) (hC : C) (hQ : Q (some (.ref z)) M') : PW X l mt rk Q pc L S G M := AW.aret hr h hC ⟨rfl, hQ⟩
theorem PW.callV {mk : Mt} {n rk' p1 len ci tgt idx a : Nat} {v : Int32} {w : Int64} {T' : List It} {C : Prop} {L' S1 S' As : List Value} {M' : Mem} {Qk : Option Value → Mem → Prop}
    (h : am_r G (am_t mt.2.2.2.2 pc) True L S M = some (C, (p1, .invokevirtual idx, len, ci, tgt, v, w) :: T', L', S1, M')) (hC : C) (hsi : am_siV mt.1.cls idx mk n) (hs : am_sp (n + 1) S1 [] = some (.ref a :: As, S')) (ha : am_rc G a = some mk.1.cls) (hrk : rk' < rk) (hcat : Nat.ble (S'.map fun v => v.category).sum 8 = true)
    (hcal : PC X l mk rk' (.ref a :: As) G M' Qk) (k : ∀ (v : Option Value) (M2 : Mem), Qk v M2 → PW X l mt rk Q (p1 + 3) L' (v.toList ++ S') G M2) : PW X l mt rk Q pc L S G M := by
  obtain ⟨cc, cs, vc, h1, h2, h3⟩ := am_rc_of ha
  exact AW.callV h hC hs hsi.1 hsi.2.1 hsi.2.2 h1 h2 h3 rfl hrk ⟨Nat.le_refl _, Nat.le_refl _⟩ (Nat.le_of_ble_eq_true hcat) hcal (fun v G2 M2 hq => by obtain ⟨rfl, hq⟩ := hq; exact k v M2 hq)
theorem PW.callS {mk : Mt} {n rk' p1 len ci tgt idx : Nat} {v : Int32} {w : Int64} {T' : List It} {C : Prop} {L' S1 S' As : List Value} {M' : Mem} {Qk : Option Value → Mem → Prop}
    (h : am_r G (am_t mt.2.2.2.2 pc) True L S M = some (C, (p1, .invokestatic idx, len, ci, tgt, v, w) :: T', L', S1, M')) (hC : C) (hsi : am_siS mt.1.cls idx mk n) (hs : am_sp n S1 [] = some (As, S')) (hrk : rk' < rk) (hcat : Nat.ble (S'.map fun v => v.category).sum 8 = true)
    (hcal : PC X l mk rk' As G M' Qk) (k : ∀ (v : Option Value) (M2 : Mem), Qk v M2 → PW X l mt rk Q (p1 + 3) L' (v.toList ++ S') G M2) : PW X l mt rk Q pc L S G M :=
  AW.callS h hC hs hsi.1 hsi.2.1 hsi.2.2 rfl hrk ⟨Nat.le_refl _, Nat.le_refl _⟩ (Nat.le_of_ble_eq_true hcat) hcal (fun v G2 M2 hq => by obtain ⟨rfl, hq⟩ := hq; exact k v M2 hq)
/-- a call of a function: the memory stays -/
theorem PW.funV {mk : Mt} {n rk' p1 len ci tgt idx a : Nat} {v : Int32} {w : Int64} {T' : List It} {C : Prop} {L' S1 S' As : List Value} {M' : Mem} {r : Value}
    (h : am_r G (am_t mt.2.2.2.2 pc) True L S M = some (C, (p1, .invokevirtual idx, len, ci, tgt, v, w) :: T', L', S1, M')) (hC : C) (hsi : am_siV mt.1.cls idx mk n) (hs : am_sp (n + 1) S1 [] = some (.ref a :: As, S')) (ha : am_rc G a = some mk.1.cls) (hrk : rk' < rk) (hcat : Nat.ble (S'.map fun v => v.category).sum 8 = true)
    (hcal : PF X l mk rk' (.ref a :: As) G M' r) (k : PW X l mt rk Q (p1 + 3) L' (r :: S') G M') : PW X l mt rk Q pc L S G M :=
  PW.callV h hC hsi hs ha hrk hcat hcal (fun v M2 hq => by obtain ⟨rfl, rfl⟩ := hq; exact k)
theorem PW.funS {mk : Mt} {n rk' p1 len ci tgt idx : Nat} {v : Int32} {w : Int64} {T' : List It} {C : Prop} {L' S1 S' As : List Value} {M' : Mem} {r : Value}
    (h : am_r G (am_t mt.2.2.2.2 pc) True L S M = some (C, (p1, .invokestatic idx, len, ci, tgt, v, w) :: T', L', S1, M')) (hC : C) (hsi : am_siS mt.1.cls idx mk n) (hs : am_sp n S1 [] = some (As, S')) (hrk : rk' < rk) (hcat : Nat.ble (S'.map fun v => v.category).sum 8 = true)
    (hcal : PF X l mk rk' As G M' r) (k : PW X l mt rk Q (p1 + 3) L' (r :: S') G M') : PW X l mt rk Q pc L S G M :=
  PW.callS h hC hsi hs hrk hcat hcal (fun v M2 hq => by obtain ⟨rfl, rfl⟩ := hq; exact k)
theorem PF.ofW {vs : List Value} {r : Value} (hok : am_ok mt) (h : PW X l mt rk (fun v M' => v = some r ∧ M' = M) 0 (am_ent mt.2.2.1 vs) [] G M) (hy : plainName mt.1.cls = true := by decide +kernel) (hn : (am_sl vs).length ≤ mt.2.2.1 := by exact Nat.le_of_ble_eq_true rfl) : PF X l mt rk vs G M r := AC.ofW hok hy hn h
end Pw
end
section
-- made by wip/whole/gen_ok.py: the tables of the methods are right
theorem okX0_init : am_ok mX0_init := ⟨by decide +kernel, by decide +kernel⟩
theorem okX0_allHeads : am_ok mX0_allHeads := ⟨by decide +kernel, by decide +kernel⟩
theorem okX0_shareOut : am_ok mX0_shareOut := ⟨by decide +kernel, by decide +kernel⟩
theorem okX0_shareByRests : am_ok mX0_shareByRests := ⟨by decide +kernel, by decide +kernel⟩
theorem okX0_shareByDivisors : am_ok mX0_shareByDivisors := ⟨by decide +kernel, by decide +kernel⟩
theorem okX0_divisorOf : am_ok mX0_divisorOf := ⟨by decide +kernel, by decide +kernel⟩
theorem okX1_init : am_ok mX1_init := ⟨by decide +kernel, by decide +kernel⟩
theorem okX1_lay : am_ok mX1_lay := ⟨by decide +kernel, by decide +kernel⟩
theorem okX1_size : am_ok mX1_size := ⟨by decide +kernel, by decide +kernel⟩
theorem okX1_knows : am_ok mX1_knows := ⟨by decide +kernel, by decide +kernel⟩
theorem okX1_columnOf : am_ok mX1_columnOf := ⟨by decide +kernel, by decide +kernel⟩
theorem okX1_rowOf : am_ok mX1_rowOf := ⟨by decide +kernel, by decide +kernel⟩
theorem okX1_steps : am_ok mX1_steps := ⟨by decide +kernel, by decide +kernel⟩
theorem okX1_boxed : am_ok mX1_boxed := ⟨by decide +kernel, by decide +kernel⟩
theorem okX1_rimOf : am_ok mX1_rimOf := ⟨by decide +kernel, by decide +kernel⟩
theorem okX1_partsOf : am_ok mX1_partsOf := ⟨by decide +kernel, by decide +kernel⟩
theorem okX1_pieceFrom : am_ok mX1_pieceFrom := ⟨by decide +kernel, by decide +kernel⟩
theorem okX2_init : am_ok mX2_init := ⟨by decide +kernel, by decide +kernel⟩
theorem okX2_allows : am_ok mX2_allows := ⟨by decide +kernel, by decide +kernel⟩
theorem okX2_looseCells : am_ok mX2_looseCells := ⟨by decide +kernel, by decide +kernel⟩
theorem okX2_cellsToHand : am_ok mX2_cellsToHand := ⟨by decide +kernel, by decide +kernel⟩
theorem okX2_findChain : am_ok mX2_findChain := ⟨by decide +kernel, by decide +kernel⟩
theorem okX2_seeWhoHands : am_ok mX2_seeWhoHands := ⟨by decide +kernel, by decide +kernel⟩
theorem okX2_measureLengths : am_ok mX2_measureLengths := ⟨by decide +kernel, by decide +kernel⟩
theorem okX2_nextOf : am_ok mX2_nextOf := ⟨by decide +kernel, by decide +kernel⟩
theorem okX2_passAlong : am_ok mX2_passAlong := ⟨by decide +kernel, by decide +kernel⟩
theorem okX3_init : am_ok mX3_init := ⟨by decide +kernel, by decide +kernel⟩
theorem okX3_begin : am_ok mX3_begin := ⟨by decide +kernel, by decide +kernel⟩
theorem okX3_setCost : am_ok mX3_setCost := ⟨by decide +kernel, by decide +kernel⟩
theorem okX3_solve : am_ok mX3_solve := ⟨by decide +kernel, by decide +kernel⟩
theorem okX3_rowIn : am_ok mX3_rowIn := ⟨by decide +kernel, by decide +kernel⟩
theorem okX3_sum : am_ok mX3_sum := ⟨by decide +kernel, by decide +kernel⟩
theorem okX3_placeFor : am_ok mX3_placeFor := ⟨by decide +kernel, by decide +kernel⟩
theorem okX3_tightenFrom : am_ok mX3_tightenFrom := ⟨by decide +kernel, by decide +kernel⟩
theorem okX3_nearestColumn : am_ok mX3_nearestColumn := ⟨by decide +kernel, by decide +kernel⟩
theorem okX3_movePrices : am_ok mX3_movePrices := ⟨by decide +kernel, by decide +kernel⟩
theorem okX3_isReached : am_ok mX3_isReached := ⟨by decide +kernel, by decide +kernel⟩
theorem okX3_makeRoom : am_ok mX3_makeRoom := ⟨by decide +kernel, by decide +kernel⟩
theorem okX4_init : am_ok mX4_init := ⟨by decide +kernel, by decide +kernel⟩
theorem okX4_votesOf : am_ok mX4_votesOf := ⟨by decide +kernel, by decide +kernel⟩
theorem okX4_setVotes : am_ok mX4_setVotes := ⟨by decide +kernel, by decide +kernel⟩
theorem okX4_winnerOf : am_ok mX4_winnerOf := ⟨by decide +kernel, by decide +kernel⟩
theorem okX4_votesForAll : am_ok mX4_votesForAll := ⟨by decide +kernel, by decide +kernel⟩
theorem okX4_cellsWon : am_ok mX4_cellsWon := ⟨by decide +kernel, by decide +kernel⟩
theorem okX4_fewestToTurn : am_ok mX4_fewestToTurn := ⟨by decide +kernel, by decide +kernel⟩
theorem okX4_setPrices : am_ok mX4_setPrices := ⟨by decide +kernel, by decide +kernel⟩
theorem okX4_cheapest : am_ok mX4_cheapest := ⟨by decide +kernel, by decide +kernel⟩
theorem okX5_init : am_ok mX5_init := ⟨by decide +kernel, by decide +kernel⟩
theorem okX5_clear : am_ok mX5_clear := ⟨by decide +kernel, by decide +kernel⟩
theorem okX5_copy : am_ok mX5_copy := ⟨by decide +kernel, by decide +kernel⟩
theorem okX5_put : am_ok mX5_put := ⟨by decide +kernel, by decide +kernel⟩
theorem okX5_ownerOf : am_ok mX5_ownerOf := ⟨by decide +kernel, by decide +kernel⟩
theorem okX5_cellsOf : am_ok mX5_cellsOf := ⟨by decide +kernel, by decide +kernel⟩
theorem okX5_sizeOf : am_ok mX5_sizeOf := ⟨by decide +kernel, by decide +kernel⟩
theorem okX5_landCells : am_ok mX5_landCells := ⟨by decide +kernel, by decide +kernel⟩
theorem okX5_landsWithCells : am_ok mX5_landsWithCells := ⟨by decide +kernel, by decide +kernel⟩
theorem okX5_areNeighbours : am_ok mX5_areNeighbours := ⟨by decide +kernel, by decide +kernel⟩
theorem okX5_neighbourPairs : am_ok mX5_neighbourPairs := ⟨by decide +kernel, by decide +kernel⟩
theorem okX6_init : am_ok mX6_init := ⟨by decide +kernel, by decide +kernel⟩
theorem okX6_findBest : am_ok mX6_findBest := ⟨by decide +kernel, by decide +kernel⟩
end
section
-- made by wip/whole/gen_ok.py: the tables of the methods are right
theorem okX6_digitOf : am_ok mX6_digitOf := ⟨by decide +kernel, by decide +kernel⟩
theorem okX6_setCosts : am_ok mX6_setCosts := ⟨by decide +kernel, by decide +kernel⟩
theorem okX7_init : am_ok mX7_init := ⟨by decide +kernel, by decide +kernel⟩
theorem okX7_field : am_ok mX7_field := ⟨by decide +kernel, by decide +kernel⟩
theorem okX7_give : am_ok mX7_give := ⟨by decide +kernel, by decide +kernel⟩
theorem okX7_box : am_ok mX7_box := ⟨by decide +kernel, by decide +kernel⟩
theorem okX7_at : am_ok mX7_at := ⟨by decide +kernel, by decide +kernel⟩
theorem okX7_trace : am_ok mX7_trace := ⟨by decide +kernel, by decide +kernel⟩
theorem okX7_cells : am_ok mX7_cells := ⟨by decide +kernel, by decide +kernel⟩
theorem okX7_heads : am_ok mX7_heads := ⟨by decide +kernel, by decide +kernel⟩
theorem okX7_way : am_ok mX7_way := ⟨by decide +kernel, by decide +kernel⟩
theorem okX7_due : am_ok mX7_due := ⟨by decide +kernel, by decide +kernel⟩
theorem okX7_parts : am_ok mX7_parts := ⟨by decide +kernel, by decide +kernel⟩
theorem okX7_beside : am_ok mX7_beside := ⟨by decide +kernel, by decide +kernel⟩
theorem okX7_faults : am_ok mX7_faults := ⟨by decide +kernel, by decide +kernel⟩
theorem okX7_would : am_ok mX7_would := ⟨by decide +kernel, by decide +kernel⟩
theorem okX7_mend : am_ok mX7_mend := ⟨by decide +kernel, by decide +kernel⟩
theorem okX7_mayHand : am_ok mX7_mayHand := ⟨by decide +kernel, by decide +kernel⟩
theorem okX7_hand : am_ok mX7_hand := ⟨by decide +kernel, by decide +kernel⟩
theorem okX7_chain : am_ok mX7_chain := ⟨by decide +kernel, by decide +kernel⟩
theorem okX7_link : am_ok mX7_link := ⟨by decide +kernel, by decide +kernel⟩
theorem okX7_pass : am_ok mX7_pass := ⟨by decide +kernel, by decide +kernel⟩
theorem okX7_settle : am_ok mX7_settle := ⟨by decide +kernel, by decide +kernel⟩
theorem okX7_changed : am_ok mX7_changed := ⟨by decide +kernel, by decide +kernel⟩
theorem okX7_carried : am_ok mX7_carried := ⟨by decide +kernel, by decide +kernel⟩
theorem okX7_off : am_ok mX7_off := ⟨by decide +kernel, by decide +kernel⟩
theorem okX7_tile : am_ok mX7_tile := ⟨by decide +kernel, by decide +kernel⟩
theorem okX7_kept : am_ok mX7_kept := ⟨by decide +kernel, by decide +kernel⟩
theorem okX7_votes : am_ok mX7_votes := ⟨by decide +kernel, by decide +kernel⟩
theorem okX7_won : am_ok mX7_won := ⟨by decide +kernel, by decide +kernel⟩
theorem okX7_has : am_ok mX7_has := ⟨by decide +kernel, by decide +kernel⟩
theorem okX7_ahead : am_ok mX7_ahead := ⟨by decide +kernel, by decide +kernel⟩
theorem okX7_turn : am_ok mX7_turn := ⟨by decide +kernel, by decide +kernel⟩
theorem okX7_count : am_ok mX7_count := ⟨by decide +kernel, by decide +kernel⟩
theorem okX7_isEdge : am_ok mX7_isEdge := ⟨by decide +kernel, by decide +kernel⟩
theorem okX7_isLand : am_ok mX7_isLand := ⟨by decide +kernel, by decide +kernel⟩
theorem okX7_isOwner : am_ok mX7_isOwner := ⟨by decide +kernel, by decide +kernel⟩
theorem okX7_isSide : am_ok mX7_isSide := ⟨by decide +kernel, by decide +kernel⟩
theorem okX7_isPeople : am_ok mX7_isPeople := ⟨by decide +kernel, by decide +kernel⟩
theorem okX7_lowestCell : am_ok mX7_lowestCell := ⟨by decide +kernel, by decide +kernel⟩
theorem okX7_leaderOf : am_ok mX7_leaderOf := ⟨by decide +kernel, by decide +kernel⟩
theorem okX7_sheetOf : am_ok mX7_sheetOf := ⟨by decide +kernel, by decide +kernel⟩
theorem okX7_shareOut : am_ok mX7_shareOut := ⟨by decide +kernel, by decide +kernel⟩
theorem okX7_unlikeCells : am_ok mX7_unlikeCells := ⟨by decide +kernel, by decide +kernel⟩
theorem okX7_isChange : am_ok mX7_isChange := ⟨by decide +kernel, by decide +kernel⟩
theorem okX7_faultsAgainst : am_ok mX7_faultsAgainst := ⟨by decide +kernel, by decide +kernel⟩
theorem okX7_faultsBehind : am_ok mX7_faultsBehind := ⟨by decide +kernel, by decide +kernel⟩
theorem okX7_leastSteps : am_ok mX7_leastSteps := ⟨by decide +kernel, by decide +kernel⟩
theorem okX7_tally : am_ok mX7_tally := ⟨by decide +kernel, by decide +kernel⟩
theorem okX7_leaderBy : am_ok mX7_leaderBy := ⟨by decide +kernel, by decide +kernel⟩
theorem okX8_init : am_ok mX8_init := ⟨by decide +kernel, by decide +kernel⟩
theorem okX8_in : am_ok mX8_in := ⟨by decide +kernel, by decide +kernel⟩
theorem okX8_size : am_ok mX8_size := ⟨by decide +kernel, by decide +kernel⟩
theorem okX8_noCell : am_ok mX8_noCell := ⟨by decide +kernel, by decide +kernel⟩
theorem okX8_noLand : am_ok mX8_noLand := ⟨by decide +kernel, by decide +kernel⟩
theorem okX8_field : am_ok mX8_field := ⟨by decide +kernel, by decide +kernel⟩
theorem okX8_cellOf : am_ok mX8_cellOf := ⟨by decide +kernel, by decide +kernel⟩
theorem okX8_put : am_ok mX8_put := ⟨by decide +kernel, by decide +kernel⟩
theorem okX8_give : am_ok mX8_give := ⟨by decide +kernel, by decide +kernel⟩
theorem okX8_box : am_ok mX8_box := ⟨by decide +kernel, by decide +kernel⟩
end
section
-- made by wip/whole/gen_ok.py: the tables of the methods are right
theorem okX8_at : am_ok mX8_at := ⟨by decide +kernel, by decide +kernel⟩
theorem okX8_trace : am_ok mX8_trace := ⟨by decide +kernel, by decide +kernel⟩
theorem okX8_manyOf : am_ok mX8_manyOf := ⟨by decide +kernel, by decide +kernel⟩
theorem okX8_cells : am_ok mX8_cells := ⟨by decide +kernel, by decide +kernel⟩
theorem okX8_heads : am_ok mX8_heads := ⟨by decide +kernel, by decide +kernel⟩
theorem okX8_way : am_ok mX8_way := ⟨by decide +kernel, by decide +kernel⟩
theorem okX8_share : am_ok mX8_share := ⟨by decide +kernel, by decide +kernel⟩
theorem okX8_due : am_ok mX8_due := ⟨by decide +kernel, by decide +kernel⟩
theorem okX8_isBeside : am_ok mX8_isBeside := ⟨by decide +kernel, by decide +kernel⟩
theorem okX8_partsOf : am_ok mX8_partsOf := ⟨by decide +kernel, by decide +kernel⟩
theorem okX8_parts : am_ok mX8_parts := ⟨by decide +kernel, by decide +kernel⟩
theorem okX8_touches : am_ok mX8_touches := ⟨by decide +kernel, by decide +kernel⟩
theorem okX8_areBeside : am_ok mX8_areBeside := ⟨by decide +kernel, by decide +kernel⟩
theorem okX8_beside : am_ok mX8_beside := ⟨by decide +kernel, by decide +kernel⟩
theorem okX8_allFaults : am_ok mX8_allFaults := ⟨by decide +kernel, by decide +kernel⟩
theorem okX8_faults : am_ok mX8_faults := ⟨by decide +kernel, by decide +kernel⟩
theorem okX8_isChange : am_ok mX8_isChange := ⟨by decide +kernel, by decide +kernel⟩
theorem okX8_faultsBy : am_ok mX8_faultsBy := ⟨by decide +kernel, by decide +kernel⟩
theorem okX8_would : am_ok mX8_would := ⟨by decide +kernel, by decide +kernel⟩
theorem okX8_mend : am_ok mX8_mend := ⟨by decide +kernel, by decide +kernel⟩
theorem okX8_may : am_ok mX8_may := ⟨by decide +kernel, by decide +kernel⟩
theorem okX8_mayHand : am_ok mX8_mayHand := ⟨by decide +kernel, by decide +kernel⟩
theorem okX8_hand : am_ok mX8_hand := ⟨by decide +kernel, by decide +kernel⟩
theorem okX8_leastTo : am_ok mX8_leastTo := ⟨by decide +kernel, by decide +kernel⟩
theorem okX8_linked : am_ok mX8_linked := ⟨by decide +kernel, by decide +kernel⟩
theorem okX8_chain : am_ok mX8_chain := ⟨by decide +kernel, by decide +kernel⟩
theorem okX8_link : am_ok mX8_link := ⟨by decide +kernel, by decide +kernel⟩
theorem okX8_passOn : am_ok mX8_passOn := ⟨by decide +kernel, by decide +kernel⟩
theorem okX8_pass : am_ok mX8_pass := ⟨by decide +kernel, by decide +kernel⟩
theorem okX8_settle : am_ok mX8_settle := ⟨by decide +kernel, by decide +kernel⟩
theorem okX8_changed : am_ok mX8_changed := ⟨by decide +kernel, by decide +kernel⟩
theorem okX8_steps : am_ok mX8_steps := ⟨by decide +kernel, by decide +kernel⟩
theorem okX8_assign : am_ok mX8_assign := ⟨by decide +kernel, by decide +kernel⟩
theorem okX8_carried : am_ok mX8_carried := ⟨by decide +kernel, by decide +kernel⟩
theorem okX8_offOf : am_ok mX8_offOf := ⟨by decide +kernel, by decide +kernel⟩
theorem okX8_isThere : am_ok mX8_isThere := ⟨by decide +kernel, by decide +kernel⟩
theorem okX8_leastOff : am_ok mX8_leastOff := ⟨by decide +kernel, by decide +kernel⟩
theorem okX8_layTiles : am_ok mX8_layTiles := ⟨by decide +kernel, by decide +kernel⟩
theorem okX8_off : am_ok mX8_off := ⟨by decide +kernel, by decide +kernel⟩
theorem okX8_tile : am_ok mX8_tile := ⟨by decide +kernel, by decide +kernel⟩
theorem okX8_kept : am_ok mX8_kept := ⟨by decide +kernel, by decide +kernel⟩
theorem okX8_noSide : am_ok mX8_noSide := ⟨by decide +kernel, by decide +kernel⟩
theorem okX8_votes : am_ok mX8_votes := ⟨by decide +kernel, by decide +kernel⟩
theorem okX8_most : am_ok mX8_most := ⟨by decide +kernel, by decide +kernel⟩
theorem okX8_winner : am_ok mX8_winner := ⟨by decide +kernel, by decide +kernel⟩
theorem okX8_won : am_ok mX8_won := ⟨by decide +kernel, by decide +kernel⟩
theorem okX8_sum : am_ok mX8_sum := ⟨by decide +kernel, by decide +kernel⟩
theorem okX8_has : am_ok mX8_has := ⟨by decide +kernel, by decide +kernel⟩
theorem okX8_leader : am_ok mX8_leader := ⟨by decide +kernel, by decide +kernel⟩
theorem okX8_ahead : am_ok mX8_ahead := ⟨by decide +kernel, by decide +kernel⟩
theorem okX8_turn : am_ok mX8_turn := ⟨by decide +kernel, by decide +kernel⟩
theorem okX8_count : am_ok mX8_count := ⟨by decide +kernel, by decide +kernel⟩
theorem okJ13_bitCount_95d88 : am_ok mJ13_bitCount_95d88 := ⟨by decide +kernel, by decide +kernel⟩
theorem okJ9_abs_0f7a4 : am_ok mJ9_abs_0f7a4 := ⟨by decide +kernel, by decide +kernel⟩
theorem okJ9_max_7cf53 : am_ok mJ9_max_7cf53 := ⟨by decide +kernel, by decide +kernel⟩
theorem okJ9_min_7cf53 : am_ok mJ9_min_7cf53 := ⟨by decide +kernel, by decide +kernel⟩
theorem okJ7_fill_d0a16 : am_ok mJ7_fill_d0a16 := ⟨by decide +kernel, by decide +kernel⟩
theorem okJ7_fill_53178 : am_ok mJ7_fill_53178 := ⟨by decide +kernel, by decide +kernel⟩
end
section
-- made by wip/whole/gen_ok.py: the words of callees and of call sites
theorem caX0_init : am_cal mX0_init 0 := ⟨lw_mem (i := 120) (by decide +kernel) (by decide +kernel), lw_mem (i := 55) (by decide +kernel) (by decide +kernel), (by decide +kernel), Nat.le_of_ble_eq_true rfl⟩
theorem caX0_allHeads : am_cal mX0_allHeads 0 := ⟨lw_mem (i := 408) (by decide +kernel) (by decide +kernel), lw_mem (i := 55) (by decide +kernel) (by decide +kernel), (by decide +kernel), Nat.le_of_ble_eq_true rfl⟩
theorem cvX0_allHeads : am_cV mX0_allHeads := ⟨lw_mem (i := 406) (by decide +kernel) (by decide +kernel), lw_mem (i := 407) (by decide +kernel) (by decide +kernel)⟩
theorem caX0_shareOut : am_cal mX0_shareOut 1 := ⟨lw_mem (i := 397) (by decide +kernel) (by decide +kernel), lw_mem (i := 55) (by decide +kernel) (by decide +kernel), (by decide +kernel), Nat.le_of_ble_eq_true rfl⟩
theorem cvX0_shareOut : am_cV mX0_shareOut := ⟨lw_mem (i := 395) (by decide +kernel) (by decide +kernel), lw_mem (i := 396) (by decide +kernel) (by decide +kernel)⟩
theorem caX0_shareByRests : am_cal mX0_shareByRests 1 := ⟨lw_mem (i := 404) (by decide +kernel) (by decide +kernel), lw_mem (i := 55) (by decide +kernel) (by decide +kernel), (by decide +kernel), Nat.le_of_ble_eq_true rfl⟩
theorem cvX0_shareByRests : am_cV mX0_shareByRests := ⟨lw_mem (i := 403) (by decide +kernel) (by decide +kernel), lw_mem (i := 3) (by decide +kernel) (by decide +kernel)⟩
theorem caX0_shareByDivisors : am_cal mX0_shareByDivisors 1 := ⟨lw_mem (i := 412) (by decide +kernel) (by decide +kernel), lw_mem (i := 55) (by decide +kernel) (by decide +kernel), (by decide +kernel), Nat.le_of_ble_eq_true rfl⟩
theorem cvX0_shareByDivisors : am_cV mX0_shareByDivisors := ⟨lw_mem (i := 411) (by decide +kernel) (by decide +kernel), lw_mem (i := 4) (by decide +kernel) (by decide +kernel)⟩
theorem caX0_divisorOf : am_cal mX0_divisorOf 1 := ⟨lw_mem (i := 416) (by decide +kernel) (by decide +kernel), lw_mem (i := 55) (by decide +kernel) (by decide +kernel), (by decide +kernel), Nat.le_of_ble_eq_true rfl⟩
theorem cvX0_divisorOf : am_cV mX0_divisorOf := ⟨lw_mem (i := 415) (by decide +kernel) (by decide +kernel), lw_mem (i := 5) (by decide +kernel) (by decide +kernel)⟩
theorem caX1_init : am_cal mX1_init 2 := ⟨lw_mem (i := 77) (by decide +kernel) (by decide +kernel), lw_mem (i := 53) (by decide +kernel) (by decide +kernel), (by decide +kernel), Nat.le_of_ble_eq_true rfl⟩
theorem caX1_lay : am_cal mX1_lay 2 := ⟨lw_mem (i := 82) (by decide +kernel) (by decide +kernel), lw_mem (i := 53) (by decide +kernel) (by decide +kernel), (by decide +kernel), Nat.le_of_ble_eq_true rfl⟩
theorem cvX1_lay : am_cV mX1_lay := ⟨lw_mem (i := 80) (by decide +kernel) (by decide +kernel), lw_mem (i := 81) (by decide +kernel) (by decide +kernel)⟩
theorem caX1_size : am_cal mX1_size 0 := ⟨lw_mem (i := 282) (by decide +kernel) (by decide +kernel), lw_mem (i := 53) (by decide +kernel) (by decide +kernel), (by decide +kernel), Nat.le_of_ble_eq_true rfl⟩
theorem cvX1_size : am_cV mX1_size := ⟨lw_mem (i := 280) (by decide +kernel) (by decide +kernel), lw_mem (i := 281) (by decide +kernel) (by decide +kernel)⟩
theorem caX1_knows : am_cal mX1_knows 1 := ⟨lw_mem (i := 290) (by decide +kernel) (by decide +kernel), lw_mem (i := 53) (by decide +kernel) (by decide +kernel), (by decide +kernel), Nat.le_of_ble_eq_true rfl⟩
theorem cvX1_knows : am_cV mX1_knows := ⟨lw_mem (i := 288) (by decide +kernel) (by decide +kernel), lw_mem (i := 289) (by decide +kernel) (by decide +kernel)⟩
theorem caX1_columnOf : am_cal mX1_columnOf 1 := ⟨lw_mem (i := 318) (by decide +kernel) (by decide +kernel), lw_mem (i := 53) (by decide +kernel) (by decide +kernel), (by decide +kernel), Nat.le_of_ble_eq_true rfl⟩
theorem cvX1_columnOf : am_cV mX1_columnOf := ⟨lw_mem (i := 316) (by decide +kernel) (by decide +kernel), lw_mem (i := 317) (by decide +kernel) (by decide +kernel)⟩
theorem caX1_rowOf : am_cal mX1_rowOf 1 := ⟨lw_mem (i := 322) (by decide +kernel) (by decide +kernel), lw_mem (i := 53) (by decide +kernel) (by decide +kernel), (by decide +kernel), Nat.le_of_ble_eq_true rfl⟩
theorem cvX1_rowOf : am_cV mX1_rowOf := ⟨lw_mem (i := 320) (by decide +kernel) (by decide +kernel), lw_mem (i := 321) (by decide +kernel) (by decide +kernel)⟩
theorem caX1_steps : am_cal mX1_steps 2 := ⟨lw_mem (i := 568) (by decide +kernel) (by decide +kernel), lw_mem (i := 53) (by decide +kernel) (by decide +kernel), (by decide +kernel), Nat.le_of_ble_eq_true rfl⟩
theorem cvX1_steps : am_cV mX1_steps := ⟨lw_mem (i := 566) (by decide +kernel) (by decide +kernel), lw_mem (i := 567) (by decide +kernel) (by decide +kernel)⟩
theorem caX1_boxed : am_cal mX1_boxed 2 := ⟨lw_mem (i := 326) (by decide +kernel) (by decide +kernel), lw_mem (i := 53) (by decide +kernel) (by decide +kernel), (by decide +kernel), Nat.le_of_ble_eq_true rfl⟩
theorem cvX1_boxed : am_cV mX1_boxed := ⟨lw_mem (i := 324) (by decide +kernel) (by decide +kernel), lw_mem (i := 325) (by decide +kernel) (by decide +kernel)⟩
theorem caX1_rimOf : am_cal mX1_rimOf 1 := ⟨lw_mem (i := 432) (by decide +kernel) (by decide +kernel), lw_mem (i := 53) (by decide +kernel) (by decide +kernel), (by decide +kernel), Nat.le_of_ble_eq_true rfl⟩
theorem cvX1_rimOf : am_cV mX1_rimOf := ⟨lw_mem (i := 430) (by decide +kernel) (by decide +kernel), lw_mem (i := 431) (by decide +kernel) (by decide +kernel)⟩
theorem caX1_partsOf : am_cal mX1_partsOf 1 := ⟨lw_mem (i := 424) (by decide +kernel) (by decide +kernel), lw_mem (i := 53) (by decide +kernel) (by decide +kernel), (by decide +kernel), Nat.le_of_ble_eq_true rfl⟩
theorem cvX1_partsOf : am_cV mX1_partsOf := ⟨lw_mem (i := 422) (by decide +kernel) (by decide +kernel), lw_mem (i := 423) (by decide +kernel) (by decide +kernel)⟩
theorem caX1_pieceFrom : am_cal mX1_pieceFrom 2 := ⟨lw_mem (i := 428) (by decide +kernel) (by decide +kernel), lw_mem (i := 53) (by decide +kernel) (by decide +kernel), (by decide +kernel), Nat.le_of_ble_eq_true rfl⟩
theorem cvX1_pieceFrom : am_cV mX1_pieceFrom := ⟨lw_mem (i := 427) (by decide +kernel) (by decide +kernel), lw_mem (i := 6) (by decide +kernel) (by decide +kernel)⟩
theorem caX2_init : am_cal mX2_init 3 := ⟨lw_mem (i := 144) (by decide +kernel) (by decide +kernel), lw_mem (i := 56) (by decide +kernel) (by decide +kernel), (by decide +kernel), Nat.le_of_ble_eq_true rfl⟩
theorem caX2_allows : am_cal mX2_allows 2 := ⟨lw_mem (i := 485) (by decide +kernel) (by decide +kernel), lw_mem (i := 56) (by decide +kernel) (by decide +kernel), (by decide +kernel), Nat.le_of_ble_eq_true rfl⟩
theorem cvX2_allows : am_cV mX2_allows := ⟨lw_mem (i := 483) (by decide +kernel) (by decide +kernel), lw_mem (i := 484) (by decide +kernel) (by decide +kernel)⟩
theorem caX2_looseCells : am_cal mX2_looseCells 2 := ⟨lw_mem (i := 492) (by decide +kernel) (by decide +kernel), lw_mem (i := 56) (by decide +kernel) (by decide +kernel), (by decide +kernel), Nat.le_of_ble_eq_true rfl⟩
theorem cvX2_looseCells : am_cV mX2_looseCells := ⟨lw_mem (i := 491) (by decide +kernel) (by decide +kernel), lw_mem (i := 10) (by decide +kernel) (by decide +kernel)⟩
theorem caX2_cellsToHand : am_cal mX2_cellsToHand 2 := ⟨lw_mem (i := 539) (by decide +kernel) (by decide +kernel), lw_mem (i := 56) (by decide +kernel) (by decide +kernel), (by decide +kernel), Nat.le_of_ble_eq_true rfl⟩
theorem cvX2_cellsToHand : am_cV mX2_cellsToHand := ⟨lw_mem (i := 538) (by decide +kernel) (by decide +kernel), lw_mem (i := 14) (by decide +kernel) (by decide +kernel)⟩
theorem caX2_findChain : am_cal mX2_findChain 0 := ⟨lw_mem (i := 507) (by decide +kernel) (by decide +kernel), lw_mem (i := 56) (by decide +kernel) (by decide +kernel), (by decide +kernel), Nat.le_of_ble_eq_true rfl⟩
theorem cvX2_findChain : am_cV mX2_findChain := ⟨lw_mem (i := 505) (by decide +kernel) (by decide +kernel), lw_mem (i := 506) (by decide +kernel) (by decide +kernel)⟩
theorem caX2_seeWhoHands : am_cal mX2_seeWhoHands 0 := ⟨lw_mem (i := 511) (by decide +kernel) (by decide +kernel), lw_mem (i := 56) (by decide +kernel) (by decide +kernel), (by decide +kernel), Nat.le_of_ble_eq_true rfl⟩
theorem cvX2_seeWhoHands : am_cV mX2_seeWhoHands := ⟨lw_mem (i := 510) (by decide +kernel) (by decide +kernel), lw_mem (i := 11) (by decide +kernel) (by decide +kernel)⟩
theorem caX2_measureLengths : am_cal mX2_measureLengths 0 := ⟨lw_mem (i := 515) (by decide +kernel) (by decide +kernel), lw_mem (i := 56) (by decide +kernel) (by decide +kernel), (by decide +kernel), Nat.le_of_ble_eq_true rfl⟩
theorem cvX2_measureLengths : am_cV mX2_measureLengths := ⟨lw_mem (i := 514) (by decide +kernel) (by decide +kernel), lw_mem (i := 12) (by decide +kernel) (by decide +kernel)⟩
theorem caX2_nextOf : am_cal mX2_nextOf 1 := ⟨lw_mem (i := 523) (by decide +kernel) (by decide +kernel), lw_mem (i := 56) (by decide +kernel) (by decide +kernel), (by decide +kernel), Nat.le_of_ble_eq_true rfl⟩
theorem cvX2_nextOf : am_cV mX2_nextOf := ⟨lw_mem (i := 522) (by decide +kernel) (by decide +kernel), lw_mem (i := 13) (by decide +kernel) (by decide +kernel)⟩
theorem caX2_passAlong : am_cal mX2_passAlong 1 := ⟨lw_mem (i := 535) (by decide +kernel) (by decide +kernel), lw_mem (i := 56) (by decide +kernel) (by decide +kernel), (by decide +kernel), Nat.le_of_ble_eq_true rfl⟩
theorem cvX2_passAlong : am_cV mX2_passAlong := ⟨lw_mem (i := 533) (by decide +kernel) (by decide +kernel), lw_mem (i := 534) (by decide +kernel) (by decide +kernel)⟩
theorem caX3_init : am_cal mX3_init 0 := ⟨lw_mem (i := 171) (by decide +kernel) (by decide +kernel), lw_mem (i := 57) (by decide +kernel) (by decide +kernel), (by decide +kernel), Nat.le_of_ble_eq_true rfl⟩
theorem caX3_begin : am_cal mX3_begin 2 := ⟨lw_mem (i := 563) (by decide +kernel) (by decide +kernel), lw_mem (i := 57) (by decide +kernel) (by decide +kernel), (by decide +kernel), Nat.le_of_ble_eq_true rfl⟩
theorem cvX3_begin : am_cV mX3_begin := ⟨lw_mem (i := 561) (by decide +kernel) (by decide +kernel), lw_mem (i := 562) (by decide +kernel) (by decide +kernel)⟩
theorem caX3_setCost : am_cal mX3_setCost 3 := ⟨lw_mem (i := 573) (by decide +kernel) (by decide +kernel), lw_mem (i := 57) (by decide +kernel) (by decide +kernel), (by decide +kernel), Nat.le_of_ble_eq_true rfl⟩
theorem cvX3_setCost : am_cV mX3_setCost := ⟨lw_mem (i := 571) (by decide +kernel) (by decide +kernel), lw_mem (i := 572) (by decide +kernel) (by decide +kernel)⟩
theorem caX3_solve : am_cal mX3_solve 0 := ⟨lw_mem (i := 577) (by decide +kernel) (by decide +kernel), lw_mem (i := 57) (by decide +kernel) (by decide +kernel), (by decide +kernel), Nat.le_of_ble_eq_true rfl⟩
theorem cvX3_solve : am_cV mX3_solve := ⟨lw_mem (i := 575) (by decide +kernel) (by decide +kernel), lw_mem (i := 576) (by decide +kernel) (by decide +kernel)⟩
theorem caX3_rowIn : am_cal mX3_rowIn 1 := ⟨lw_mem (i := 643) (by decide +kernel) (by decide +kernel), lw_mem (i := 57) (by decide +kernel) (by decide +kernel), (by decide +kernel), Nat.le_of_ble_eq_true rfl⟩
theorem cvX3_rowIn : am_cV mX3_rowIn := ⟨lw_mem (i := 641) (by decide +kernel) (by decide +kernel), lw_mem (i := 642) (by decide +kernel) (by decide +kernel)⟩
theorem caX3_sum : am_cal mX3_sum 0 := ⟨lw_mem (i := 608) (by decide +kernel) (by decide +kernel), lw_mem (i := 57) (by decide +kernel) (by decide +kernel), (by decide +kernel), Nat.le_of_ble_eq_true rfl⟩
theorem cvX3_sum : am_cV mX3_sum := ⟨lw_mem (i := 606) (by decide +kernel) (by decide +kernel), lw_mem (i := 607) (by decide +kernel) (by decide +kernel)⟩
theorem caX3_placeFor : am_cal mX3_placeFor 1 := ⟨lw_mem (i := 583) (by decide +kernel) (by decide +kernel), lw_mem (i := 57) (by decide +kernel) (by decide +kernel), (by decide +kernel), Nat.le_of_ble_eq_true rfl⟩
theorem cvX3_placeFor : am_cV mX3_placeFor := ⟨lw_mem (i := 582) (by decide +kernel) (by decide +kernel), lw_mem (i := 16) (by decide +kernel) (by decide +kernel)⟩
theorem caX3_tightenFrom : am_cal mX3_tightenFrom 1 := ⟨lw_mem (i := 588) (by decide +kernel) (by decide +kernel), lw_mem (i := 57) (by decide +kernel) (by decide +kernel), (by decide +kernel), Nat.le_of_ble_eq_true rfl⟩
theorem cvX3_tightenFrom : am_cV mX3_tightenFrom := ⟨lw_mem (i := 587) (by decide +kernel) (by decide +kernel), lw_mem (i := 17) (by decide +kernel) (by decide +kernel)⟩
theorem caX3_nearestColumn : am_cal mX3_nearestColumn 0 := ⟨lw_mem (i := 596) (by decide +kernel) (by decide +kernel), lw_mem (i := 57) (by decide +kernel) (by decide +kernel), (by decide +kernel), Nat.le_of_ble_eq_true rfl⟩
theorem cvX3_nearestColumn : am_cV mX3_nearestColumn := ⟨lw_mem (i := 595) (by decide +kernel) (by decide +kernel), lw_mem (i := 19) (by decide +kernel) (by decide +kernel)⟩
theorem caX3_movePrices : am_cal mX3_movePrices 1 := ⟨lw_mem (i := 600) (by decide +kernel) (by decide +kernel), lw_mem (i := 57) (by decide +kernel) (by decide +kernel), (by decide +kernel), Nat.le_of_ble_eq_true rfl⟩
theorem cvX3_movePrices : am_cV mX3_movePrices := ⟨lw_mem (i := 599) (by decide +kernel) (by decide +kernel), lw_mem (i := 20) (by decide +kernel) (by decide +kernel)⟩
theorem caX3_isReached : am_cal mX3_isReached 1 := ⟨lw_mem (i := 592) (by decide +kernel) (by decide +kernel), lw_mem (i := 57) (by decide +kernel) (by decide +kernel), (by decide +kernel), Nat.le_of_ble_eq_true rfl⟩
theorem cvX3_isReached : am_cV mX3_isReached := ⟨lw_mem (i := 591) (by decide +kernel) (by decide +kernel), lw_mem (i := 18) (by decide +kernel) (by decide +kernel)⟩
theorem caX3_makeRoom : am_cal mX3_makeRoom 1 := ⟨lw_mem (i := 604) (by decide +kernel) (by decide +kernel), lw_mem (i := 57) (by decide +kernel) (by decide +kernel), (by decide +kernel), Nat.le_of_ble_eq_true rfl⟩
theorem cvX3_makeRoom : am_cV mX3_makeRoom := ⟨lw_mem (i := 603) (by decide +kernel) (by decide +kernel), lw_mem (i := 21) (by decide +kernel) (by decide +kernel)⟩
theorem caX4_init : am_cal mX4_init 0 := ⟨lw_mem (i := 227) (by decide +kernel) (by decide +kernel), lw_mem (i := 59) (by decide +kernel) (by decide +kernel), (by decide +kernel), Nat.le_of_ble_eq_true rfl⟩
theorem caX4_votesOf : am_cal mX4_votesOf 2 := ⟨lw_mem (i := 664) (by decide +kernel) (by decide +kernel), lw_mem (i := 59) (by decide +kernel) (by decide +kernel), (by decide +kernel), Nat.le_of_ble_eq_true rfl⟩
theorem cvX4_votesOf : am_cV mX4_votesOf := ⟨lw_mem (i := 662) (by decide +kernel) (by decide +kernel), lw_mem (i := 663) (by decide +kernel) (by decide +kernel)⟩
theorem caX4_setVotes : am_cal mX4_setVotes 3 := ⟨lw_mem (i := 670) (by decide +kernel) (by decide +kernel), lw_mem (i := 59) (by decide +kernel) (by decide +kernel), (by decide +kernel), Nat.le_of_ble_eq_true rfl⟩
theorem cvX4_setVotes : am_cV mX4_setVotes := ⟨lw_mem (i := 668) (by decide +kernel) (by decide +kernel), lw_mem (i := 669) (by decide +kernel) (by decide +kernel)⟩
theorem caX4_winnerOf : am_cal mX4_winnerOf 1 := ⟨lw_mem (i := 678) (by decide +kernel) (by decide +kernel), lw_mem (i := 59) (by decide +kernel) (by decide +kernel), (by decide +kernel), Nat.le_of_ble_eq_true rfl⟩
theorem cvX4_winnerOf : am_cV mX4_winnerOf := ⟨lw_mem (i := 676) (by decide +kernel) (by decide +kernel), lw_mem (i := 677) (by decide +kernel) (by decide +kernel)⟩
theorem caX4_votesForAll : am_cal mX4_votesForAll 1 := ⟨lw_mem (i := 694) (by decide +kernel) (by decide +kernel), lw_mem (i := 59) (by decide +kernel) (by decide +kernel), (by decide +kernel), Nat.le_of_ble_eq_true rfl⟩
theorem cvX4_votesForAll : am_cV mX4_votesForAll := ⟨lw_mem (i := 692) (by decide +kernel) (by decide +kernel), lw_mem (i := 693) (by decide +kernel) (by decide +kernel)⟩
theorem caX4_cellsWon : am_cal mX4_cellsWon 2 := ⟨lw_mem (i := 698) (by decide +kernel) (by decide +kernel), lw_mem (i := 59) (by decide +kernel) (by decide +kernel), (by decide +kernel), Nat.le_of_ble_eq_true rfl⟩
theorem cvX4_cellsWon : am_cV mX4_cellsWon := ⟨lw_mem (i := 696) (by decide +kernel) (by decide +kernel), lw_mem (i := 697) (by decide +kernel) (by decide +kernel)⟩
theorem caX4_fewestToTurn : am_cal mX4_fewestToTurn 3 := ⟨lw_mem (i := 717) (by decide +kernel) (by decide +kernel), lw_mem (i := 59) (by decide +kernel) (by decide +kernel), (by decide +kernel), Nat.le_of_ble_eq_true rfl⟩
theorem cvX4_fewestToTurn : am_cV mX4_fewestToTurn := ⟨lw_mem (i := 715) (by decide +kernel) (by decide +kernel), lw_mem (i := 716) (by decide +kernel) (by decide +kernel)⟩
theorem caX4_setPrices : am_cal mX4_setPrices 3 := ⟨lw_mem (i := 723) (by decide +kernel) (by decide +kernel), lw_mem (i := 59) (by decide +kernel) (by decide +kernel), (by decide +kernel), Nat.le_of_ble_eq_true rfl⟩
theorem cvX4_setPrices : am_cV mX4_setPrices := ⟨lw_mem (i := 722) (by decide +kernel) (by decide +kernel), lw_mem (i := 25) (by decide +kernel) (by decide +kernel)⟩
theorem caX4_cheapest : am_cal mX4_cheapest 5 := ⟨lw_mem (i := 727) (by decide +kernel) (by decide +kernel), lw_mem (i := 59) (by decide +kernel) (by decide +kernel), (by decide +kernel), Nat.le_of_ble_eq_true rfl⟩
theorem csX4_cheapest : am_cS mX4_cheapest := lw_mem (i := 726) (by decide +kernel) (by decide +kernel)
theorem caX5_init : am_cal mX5_init 1 := ⟨lw_mem (i := 106) (by decide +kernel) (by decide +kernel), lw_mem (i := 54) (by decide +kernel) (by decide +kernel), (by decide +kernel), Nat.le_of_ble_eq_true rfl⟩
theorem caX5_clear : am_cal mX5_clear 0 := ⟨lw_mem (i := 275) (by decide +kernel) (by decide +kernel), lw_mem (i := 54) (by decide +kernel) (by decide +kernel), (by decide +kernel), Nat.le_of_ble_eq_true rfl⟩
theorem cvX5_clear : am_cV mX5_clear := ⟨lw_mem (i := 273) (by decide +kernel) (by decide +kernel), lw_mem (i := 274) (by decide +kernel) (by decide +kernel)⟩
theorem caX5_copy : am_cal mX5_copy 1 := ⟨lw_mem (i := 360) (by decide +kernel) (by decide +kernel), lw_mem (i := 54) (by decide +kernel) (by decide +kernel), (by decide +kernel), Nat.le_of_ble_eq_true rfl⟩
theorem cvX5_copy : am_cV mX5_copy := ⟨lw_mem (i := 358) (by decide +kernel) (by decide +kernel), lw_mem (i := 359) (by decide +kernel) (by decide +kernel)⟩
theorem caX5_put : am_cal mX5_put 2 := ⟨lw_mem (i := 309) (by decide +kernel) (by decide +kernel), lw_mem (i := 54) (by decide +kernel) (by decide +kernel), (by decide +kernel), Nat.le_of_ble_eq_true rfl⟩
theorem cvX5_put : am_cV mX5_put := ⟨lw_mem (i := 307) (by decide +kernel) (by decide +kernel), lw_mem (i := 308) (by decide +kernel) (by decide +kernel)⟩
theorem caX5_ownerOf : am_cal mX5_ownerOf 1 := ⟨lw_mem (i := 305) (by decide +kernel) (by decide +kernel), lw_mem (i := 54) (by decide +kernel) (by decide +kernel), (by decide +kernel), Nat.le_of_ble_eq_true rfl⟩
theorem cvX5_ownerOf : am_cV mX5_ownerOf := ⟨lw_mem (i := 303) (by decide +kernel) (by decide +kernel), lw_mem (i := 304) (by decide +kernel) (by decide +kernel)⟩
theorem caX5_cellsOf : am_cal mX5_cellsOf 1 := ⟨lw_mem (i := 332) (by decide +kernel) (by decide +kernel), lw_mem (i := 54) (by decide +kernel) (by decide +kernel), (by decide +kernel), Nat.le_of_ble_eq_true rfl⟩
theorem cvX5_cellsOf : am_cV mX5_cellsOf := ⟨lw_mem (i := 330) (by decide +kernel) (by decide +kernel), lw_mem (i := 331) (by decide +kernel) (by decide +kernel)⟩
theorem caX5_sizeOf : am_cal mX5_sizeOf 1 := ⟨lw_mem (i := 371) (by decide +kernel) (by decide +kernel), lw_mem (i := 54) (by decide +kernel) (by decide +kernel), (by decide +kernel), Nat.le_of_ble_eq_true rfl⟩
theorem cvX5_sizeOf : am_cV mX5_sizeOf := ⟨lw_mem (i := 369) (by decide +kernel) (by decide +kernel), lw_mem (i := 370) (by decide +kernel) (by decide +kernel)⟩
theorem caX5_landCells : am_cal mX5_landCells 0 := ⟨lw_mem (i := 337) (by decide +kernel) (by decide +kernel), lw_mem (i := 54) (by decide +kernel) (by decide +kernel), (by decide +kernel), Nat.le_of_ble_eq_true rfl⟩
theorem cvX5_landCells : am_cV mX5_landCells := ⟨lw_mem (i := 335) (by decide +kernel) (by decide +kernel), lw_mem (i := 336) (by decide +kernel) (by decide +kernel)⟩
theorem caX5_landsWithCells : am_cal mX5_landsWithCells 0 := ⟨lw_mem (i := 620) (by decide +kernel) (by decide +kernel), lw_mem (i := 54) (by decide +kernel) (by decide +kernel), (by decide +kernel), Nat.le_of_ble_eq_true rfl⟩
theorem cvX5_landsWithCells : am_cV mX5_landsWithCells := ⟨lw_mem (i := 618) (by decide +kernel) (by decide +kernel), lw_mem (i := 619) (by decide +kernel) (by decide +kernel)⟩
theorem caX5_areNeighbours : am_cal mX5_areNeighbours 2 := ⟨lw_mem (i := 441) (by decide +kernel) (by decide +kernel), lw_mem (i := 54) (by decide +kernel) (by decide +kernel), (by decide +kernel), Nat.le_of_ble_eq_true rfl⟩
theorem cvX5_areNeighbours : am_cV mX5_areNeighbours := ⟨lw_mem (i := 439) (by decide +kernel) (by decide +kernel), lw_mem (i := 440) (by decide +kernel) (by decide +kernel)⟩
theorem caX5_neighbourPairs : am_cal mX5_neighbourPairs 0 := ⟨lw_mem (i := 450) (by decide +kernel) (by decide +kernel), lw_mem (i := 54) (by decide +kernel) (by decide +kernel), (by decide +kernel), Nat.le_of_ble_eq_true rfl⟩
theorem cvX5_neighbourPairs : am_cV mX5_neighbourPairs := ⟨lw_mem (i := 448) (by decide +kernel) (by decide +kernel), lw_mem (i := 449) (by decide +kernel) (by decide +kernel)⟩
theorem caX6_init : am_cal mX6_init 2 := ⟨lw_mem (i := 205) (by decide +kernel) (by decide +kernel), lw_mem (i := 58) (by decide +kernel) (by decide +kernel), (by decide +kernel), Nat.le_of_ble_eq_true rfl⟩
theorem caX6_findBest : am_cal mX6_findBest 1 := ⟨lw_mem (i := 616) (by decide +kernel) (by decide +kernel), lw_mem (i := 58) (by decide +kernel) (by decide +kernel), (by decide +kernel), Nat.le_of_ble_eq_true rfl⟩
theorem cvX6_findBest : am_cV mX6_findBest := ⟨lw_mem (i := 614) (by decide +kernel) (by decide +kernel), lw_mem (i := 615) (by decide +kernel) (by decide +kernel)⟩
theorem caX6_digitOf : am_cal mX6_digitOf 1 := ⟨lw_mem (i := 627) (by decide +kernel) (by decide +kernel), lw_mem (i := 58) (by decide +kernel) (by decide +kernel), (by decide +kernel), Nat.le_of_ble_eq_true rfl⟩
theorem csX6_digitOf : am_cS mX6_digitOf := lw_mem (i := 626) (by decide +kernel) (by decide +kernel)
theorem caX6_setCosts : am_cal mX6_setCosts 3 := ⟨lw_mem (i := 632) (by decide +kernel) (by decide +kernel), lw_mem (i := 58) (by decide +kernel) (by decide +kernel), (by decide +kernel), Nat.le_of_ble_eq_true rfl⟩
theorem cvX6_setCosts : am_cV mX6_setCosts := ⟨lw_mem (i := 631) (by decide +kernel) (by decide +kernel), lw_mem (i := 22) (by decide +kernel) (by decide +kernel)⟩
theorem caX7_init : am_cal mX7_init 0 := ⟨lw_mem (i := 69) (by decide +kernel) (by decide +kernel), lw_mem (i := 52) (by decide +kernel) (by decide +kernel), (by decide +kernel), Nat.le_of_ble_eq_true rfl⟩
theorem caX7_field : am_cal mX7_field 2 := ⟨lw_mem (i := 267) (by decide +kernel) (by decide +kernel), lw_mem (i := 52) (by decide +kernel) (by decide +kernel), (by decide +kernel), Nat.le_of_ble_eq_true rfl⟩
theorem cvX7_field : am_cV mX7_field := ⟨lw_mem (i := 265) (by decide +kernel) (by decide +kernel), lw_mem (i := 266) (by decide +kernel) (by decide +kernel)⟩
theorem caX7_give : am_cal mX7_give 3 := ⟨lw_mem (i := 286) (by decide +kernel) (by decide +kernel), lw_mem (i := 52) (by decide +kernel) (by decide +kernel), (by decide +kernel), Nat.le_of_ble_eq_true rfl⟩
theorem cvX7_give : am_cV mX7_give := ⟨lw_mem (i := 284) (by decide +kernel) (by decide +kernel), lw_mem (i := 285) (by decide +kernel) (by decide +kernel)⟩
theorem caX7_box : am_cal mX7_box 4 := ⟨lw_mem (i := 314) (by decide +kernel) (by decide +kernel), lw_mem (i := 52) (by decide +kernel) (by decide +kernel), (by decide +kernel), Nat.le_of_ble_eq_true rfl⟩
theorem cvX7_box : am_cV mX7_box := ⟨lw_mem (i := 312) (by decide +kernel) (by decide +kernel), lw_mem (i := 313) (by decide +kernel) (by decide +kernel)⟩
theorem caX7_at : am_cal mX7_at 2 := ⟨lw_mem (i := 348) (by decide +kernel) (by decide +kernel), lw_mem (i := 52) (by decide +kernel) (by decide +kernel), (by decide +kernel), Nat.le_of_ble_eq_true rfl⟩
theorem cvX7_at : am_cV mX7_at := ⟨lw_mem (i := 346) (by decide +kernel) (by decide +kernel), lw_mem (i := 347) (by decide +kernel) (by decide +kernel)⟩
theorem caX7_trace : am_cal mX7_trace 0 := ⟨lw_mem (i := 352) (by decide +kernel) (by decide +kernel), lw_mem (i := 52) (by decide +kernel) (by decide +kernel), (by decide +kernel), Nat.le_of_ble_eq_true rfl⟩
theorem cvX7_trace : am_cV mX7_trace := ⟨lw_mem (i := 350) (by decide +kernel) (by decide +kernel), lw_mem (i := 351) (by decide +kernel) (by decide +kernel)⟩
theorem caX7_cells : am_cal mX7_cells 2 := ⟨lw_mem (i := 367) (by decide +kernel) (by decide +kernel), lw_mem (i := 52) (by decide +kernel) (by decide +kernel), (by decide +kernel), Nat.le_of_ble_eq_true rfl⟩
theorem cvX7_cells : am_cV mX7_cells := ⟨lw_mem (i := 365) (by decide +kernel) (by decide +kernel), lw_mem (i := 366) (by decide +kernel) (by decide +kernel)⟩
theorem caX7_heads : am_cal mX7_heads 2 := ⟨lw_mem (i := 377) (by decide +kernel) (by decide +kernel), lw_mem (i := 52) (by decide +kernel) (by decide +kernel), (by decide +kernel), Nat.le_of_ble_eq_true rfl⟩
theorem cvX7_heads : am_cV mX7_heads := ⟨lw_mem (i := 375) (by decide +kernel) (by decide +kernel), lw_mem (i := 376) (by decide +kernel) (by decide +kernel)⟩
theorem caX7_way : am_cal mX7_way 1 := ⟨lw_mem (i := 384) (by decide +kernel) (by decide +kernel), lw_mem (i := 52) (by decide +kernel) (by decide +kernel), (by decide +kernel), Nat.le_of_ble_eq_true rfl⟩
theorem cvX7_way : am_cV mX7_way := ⟨lw_mem (i := 382) (by decide +kernel) (by decide +kernel), lw_mem (i := 383) (by decide +kernel) (by decide +kernel)⟩
theorem caX7_due : am_cal mX7_due 1 := ⟨lw_mem (i := 388) (by decide +kernel) (by decide +kernel), lw_mem (i := 52) (by decide +kernel) (by decide +kernel), (by decide +kernel), Nat.le_of_ble_eq_true rfl⟩
theorem cvX7_due : am_cV mX7_due := ⟨lw_mem (i := 386) (by decide +kernel) (by decide +kernel), lw_mem (i := 387) (by decide +kernel) (by decide +kernel)⟩
theorem caX7_parts : am_cal mX7_parts 1 := ⟨lw_mem (i := 420) (by decide +kernel) (by decide +kernel), lw_mem (i := 52) (by decide +kernel) (by decide +kernel), (by decide +kernel), Nat.le_of_ble_eq_true rfl⟩
theorem cvX7_parts : am_cV mX7_parts := ⟨lw_mem (i := 418) (by decide +kernel) (by decide +kernel), lw_mem (i := 419) (by decide +kernel) (by decide +kernel)⟩
theorem caX7_beside : am_cal mX7_beside 3 := ⟨lw_mem (i := 437) (by decide +kernel) (by decide +kernel), lw_mem (i := 52) (by decide +kernel) (by decide +kernel), (by decide +kernel), Nat.le_of_ble_eq_true rfl⟩
theorem cvX7_beside : am_cV mX7_beside := ⟨lw_mem (i := 435) (by decide +kernel) (by decide +kernel), lw_mem (i := 436) (by decide +kernel) (by decide +kernel)⟩
theorem caX7_faults : am_cal mX7_faults 0 := ⟨lw_mem (i := 446) (by decide +kernel) (by decide +kernel), lw_mem (i := 52) (by decide +kernel) (by decide +kernel), (by decide +kernel), Nat.le_of_ble_eq_true rfl⟩
theorem cvX7_faults : am_cV mX7_faults := ⟨lw_mem (i := 444) (by decide +kernel) (by decide +kernel), lw_mem (i := 445) (by decide +kernel) (by decide +kernel)⟩
theorem caX7_would : am_cal mX7_would 2 := ⟨lw_mem (i := 464) (by decide +kernel) (by decide +kernel), lw_mem (i := 52) (by decide +kernel) (by decide +kernel), (by decide +kernel), Nat.le_of_ble_eq_true rfl⟩
theorem cvX7_would : am_cV mX7_would := ⟨lw_mem (i := 462) (by decide +kernel) (by decide +kernel), lw_mem (i := 463) (by decide +kernel) (by decide +kernel)⟩
theorem caX7_mend : am_cal mX7_mend 0 := ⟨lw_mem (i := 477) (by decide +kernel) (by decide +kernel), lw_mem (i := 52) (by decide +kernel) (by decide +kernel), (by decide +kernel), Nat.le_of_ble_eq_true rfl⟩
theorem cvX7_mend : am_cV mX7_mend := ⟨lw_mem (i := 475) (by decide +kernel) (by decide +kernel), lw_mem (i := 476) (by decide +kernel) (by decide +kernel)⟩
theorem caX7_mayHand : am_cal mX7_mayHand 2 := ⟨lw_mem (i := 481) (by decide +kernel) (by decide +kernel), lw_mem (i := 52) (by decide +kernel) (by decide +kernel), (by decide +kernel), Nat.le_of_ble_eq_true rfl⟩
theorem cvX7_mayHand : am_cV mX7_mayHand := ⟨lw_mem (i := 479) (by decide +kernel) (by decide +kernel), lw_mem (i := 480) (by decide +kernel) (by decide +kernel)⟩
theorem caX7_hand : am_cal mX7_hand 2 := ⟨lw_mem (i := 499) (by decide +kernel) (by decide +kernel), lw_mem (i := 52) (by decide +kernel) (by decide +kernel), (by decide +kernel), Nat.le_of_ble_eq_true rfl⟩
theorem cvX7_hand : am_cV mX7_hand := ⟨lw_mem (i := 497) (by decide +kernel) (by decide +kernel), lw_mem (i := 498) (by decide +kernel) (by decide +kernel)⟩
theorem caX7_chain : am_cal mX7_chain 0 := ⟨lw_mem (i := 503) (by decide +kernel) (by decide +kernel), lw_mem (i := 52) (by decide +kernel) (by decide +kernel), (by decide +kernel), Nat.le_of_ble_eq_true rfl⟩
theorem cvX7_chain : am_cV mX7_chain := ⟨lw_mem (i := 501) (by decide +kernel) (by decide +kernel), lw_mem (i := 502) (by decide +kernel) (by decide +kernel)⟩
theorem caX7_link : am_cal mX7_link 1 := ⟨lw_mem (i := 527) (by decide +kernel) (by decide +kernel), lw_mem (i := 52) (by decide +kernel) (by decide +kernel), (by decide +kernel), Nat.le_of_ble_eq_true rfl⟩
theorem cvX7_link : am_cV mX7_link := ⟨lw_mem (i := 525) (by decide +kernel) (by decide +kernel), lw_mem (i := 526) (by decide +kernel) (by decide +kernel)⟩
theorem caX7_pass : am_cal mX7_pass 0 := ⟨lw_mem (i := 531) (by decide +kernel) (by decide +kernel), lw_mem (i := 52) (by decide +kernel) (by decide +kernel), (by decide +kernel), Nat.le_of_ble_eq_true rfl⟩
theorem cvX7_pass : am_cV mX7_pass := ⟨lw_mem (i := 529) (by decide +kernel) (by decide +kernel), lw_mem (i := 530) (by decide +kernel) (by decide +kernel)⟩
theorem caX7_settle : am_cal mX7_settle 0 := ⟨lw_mem (i := 547) (by decide +kernel) (by decide +kernel), lw_mem (i := 52) (by decide +kernel) (by decide +kernel), (by decide +kernel), Nat.le_of_ble_eq_true rfl⟩
theorem cvX7_settle : am_cV mX7_settle := ⟨lw_mem (i := 545) (by decide +kernel) (by decide +kernel), lw_mem (i := 546) (by decide +kernel) (by decide +kernel)⟩
theorem caX7_changed : am_cal mX7_changed 0 := ⟨lw_mem (i := 551) (by decide +kernel) (by decide +kernel), lw_mem (i := 52) (by decide +kernel) (by decide +kernel), (by decide +kernel), Nat.le_of_ble_eq_true rfl⟩
theorem cvX7_changed : am_cV mX7_changed := ⟨lw_mem (i := 549) (by decide +kernel) (by decide +kernel), lw_mem (i := 550) (by decide +kernel) (by decide +kernel)⟩
theorem caX7_carried : am_cal mX7_carried 1 := ⟨lw_mem (i := 555) (by decide +kernel) (by decide +kernel), lw_mem (i := 52) (by decide +kernel) (by decide +kernel), (by decide +kernel), Nat.le_of_ble_eq_true rfl⟩
theorem cvX7_carried : am_cV mX7_carried := ⟨lw_mem (i := 553) (by decide +kernel) (by decide +kernel), lw_mem (i := 554) (by decide +kernel) (by decide +kernel)⟩
theorem caX7_off : am_cal mX7_off 0 := ⟨lw_mem (i := 612) (by decide +kernel) (by decide +kernel), lw_mem (i := 52) (by decide +kernel) (by decide +kernel), (by decide +kernel), Nat.le_of_ble_eq_true rfl⟩
theorem cvX7_off : am_cV mX7_off := ⟨lw_mem (i := 610) (by decide +kernel) (by decide +kernel), lw_mem (i := 611) (by decide +kernel) (by decide +kernel)⟩
theorem caX7_tile : am_cal mX7_tile 1 := ⟨lw_mem (i := 649) (by decide +kernel) (by decide +kernel), lw_mem (i := 52) (by decide +kernel) (by decide +kernel), (by decide +kernel), Nat.le_of_ble_eq_true rfl⟩
theorem cvX7_tile : am_cV mX7_tile := ⟨lw_mem (i := 647) (by decide +kernel) (by decide +kernel), lw_mem (i := 648) (by decide +kernel) (by decide +kernel)⟩
theorem caX7_kept : am_cal mX7_kept 0 := ⟨lw_mem (i := 653) (by decide +kernel) (by decide +kernel), lw_mem (i := 52) (by decide +kernel) (by decide +kernel), (by decide +kernel), Nat.le_of_ble_eq_true rfl⟩
theorem cvX7_kept : am_cV mX7_kept := ⟨lw_mem (i := 651) (by decide +kernel) (by decide +kernel), lw_mem (i := 652) (by decide +kernel) (by decide +kernel)⟩
theorem caX7_votes : am_cal mX7_votes 3 := ⟨lw_mem (i := 657) (by decide +kernel) (by decide +kernel), lw_mem (i := 52) (by decide +kernel) (by decide +kernel), (by decide +kernel), Nat.le_of_ble_eq_true rfl⟩
theorem cvX7_votes : am_cV mX7_votes := ⟨lw_mem (i := 655) (by decide +kernel) (by decide +kernel), lw_mem (i := 656) (by decide +kernel) (by decide +kernel)⟩
theorem caX7_won : am_cal mX7_won 1 := ⟨lw_mem (i := 674) (by decide +kernel) (by decide +kernel), lw_mem (i := 52) (by decide +kernel) (by decide +kernel), (by decide +kernel), Nat.le_of_ble_eq_true rfl⟩
theorem cvX7_won : am_cV mX7_won := ⟨lw_mem (i := 672) (by decide +kernel) (by decide +kernel), lw_mem (i := 673) (by decide +kernel) (by decide +kernel)⟩
theorem caX7_has : am_cal mX7_has 2 := ⟨lw_mem (i := 686) (by decide +kernel) (by decide +kernel), lw_mem (i := 52) (by decide +kernel) (by decide +kernel), (by decide +kernel), Nat.le_of_ble_eq_true rfl⟩
theorem cvX7_has : am_cV mX7_has := ⟨lw_mem (i := 684) (by decide +kernel) (by decide +kernel), lw_mem (i := 685) (by decide +kernel) (by decide +kernel)⟩
theorem caX7_ahead : am_cal mX7_ahead 1 := ⟨lw_mem (i := 704) (by decide +kernel) (by decide +kernel), lw_mem (i := 52) (by decide +kernel) (by decide +kernel), (by decide +kernel), Nat.le_of_ble_eq_true rfl⟩
theorem cvX7_ahead : am_cV mX7_ahead := ⟨lw_mem (i := 702) (by decide +kernel) (by decide +kernel), lw_mem (i := 703) (by decide +kernel) (by decide +kernel)⟩
theorem caX7_turn : am_cal mX7_turn 1 := ⟨lw_mem (i := 713) (by decide +kernel) (by decide +kernel), lw_mem (i := 52) (by decide +kernel) (by decide +kernel), (by decide +kernel), Nat.le_of_ble_eq_true rfl⟩
theorem cvX7_turn : am_cV mX7_turn := ⟨lw_mem (i := 711) (by decide +kernel) (by decide +kernel), lw_mem (i := 712) (by decide +kernel) (by decide +kernel)⟩
theorem caX7_count : am_cal mX7_count 1 := ⟨lw_mem (i := 731) (by decide +kernel) (by decide +kernel), lw_mem (i := 52) (by decide +kernel) (by decide +kernel), (by decide +kernel), Nat.le_of_ble_eq_true rfl⟩
theorem cvX7_count : am_cV mX7_count := ⟨lw_mem (i := 729) (by decide +kernel) (by decide +kernel), lw_mem (i := 730) (by decide +kernel) (by decide +kernel)⟩
theorem caX7_isEdge : am_cal mX7_isEdge 1 := ⟨lw_mem (i := 270) (by decide +kernel) (by decide +kernel), lw_mem (i := 52) (by decide +kernel) (by decide +kernel), (by decide +kernel), Nat.le_of_ble_eq_true rfl⟩
theorem csX7_isEdge : am_cS mX7_isEdge := lw_mem (i := 269) (by decide +kernel) (by decide +kernel)
theorem caX7_isLand : am_cal mX7_isLand 1 := ⟨lw_mem (i := 297) (by decide +kernel) (by decide +kernel), lw_mem (i := 52) (by decide +kernel) (by decide +kernel), (by decide +kernel), Nat.le_of_ble_eq_true rfl⟩
theorem csX7_isLand : am_cS mX7_isLand := lw_mem (i := 296) (by decide +kernel) (by decide +kernel)
theorem caX7_isOwner : am_cal mX7_isOwner 1 := ⟨lw_mem (i := 294) (by decide +kernel) (by decide +kernel), lw_mem (i := 52) (by decide +kernel) (by decide +kernel), (by decide +kernel), Nat.le_of_ble_eq_true rfl⟩
theorem csX7_isOwner : am_cS mX7_isOwner := lw_mem (i := 293) (by decide +kernel) (by decide +kernel)
theorem caX7_isSide : am_cal mX7_isSide 1 := ⟨lw_mem (i := 660) (by decide +kernel) (by decide +kernel), lw_mem (i := 52) (by decide +kernel) (by decide +kernel), (by decide +kernel), Nat.le_of_ble_eq_true rfl⟩
theorem csX7_isSide : am_cS mX7_isSide := lw_mem (i := 659) (by decide +kernel) (by decide +kernel)
theorem caX7_isPeople : am_cal mX7_isPeople 1 := ⟨lw_mem (i := 380) (by decide +kernel) (by decide +kernel), lw_mem (i := 52) (by decide +kernel) (by decide +kernel), (by decide +kernel), Nat.le_of_ble_eq_true rfl⟩
theorem csX7_isPeople : am_cS mX7_isPeople := lw_mem (i := 379) (by decide +kernel) (by decide +kernel)
theorem caX7_lowestCell : am_cal mX7_lowestCell 1 := ⟨lw_mem (i := 542) (by decide +kernel) (by decide +kernel), lw_mem (i := 52) (by decide +kernel) (by decide +kernel), (by decide +kernel), Nat.le_of_ble_eq_true rfl⟩
theorem csX7_lowestCell : am_cS mX7_lowestCell := lw_mem (i := 541) (by decide +kernel) (by decide +kernel)
theorem caX7_leaderOf : am_cal mX7_leaderOf 3 := ⟨lw_mem (i := 682) (by decide +kernel) (by decide +kernel), lw_mem (i := 52) (by decide +kernel) (by decide +kernel), (by decide +kernel), Nat.le_of_ble_eq_true rfl⟩
theorem csX7_leaderOf : am_cS mX7_leaderOf := lw_mem (i := 681) (by decide +kernel) (by decide +kernel)
theorem caX7_sheetOf : am_cal mX7_sheetOf 1 := ⟨lw_mem (i := 301) (by decide +kernel) (by decide +kernel), lw_mem (i := 52) (by decide +kernel) (by decide +kernel), (by decide +kernel), Nat.le_of_ble_eq_true rfl⟩
theorem cvX7_sheetOf : am_cV mX7_sheetOf := ⟨lw_mem (i := 300) (by decide +kernel) (by decide +kernel), lw_mem (i := 0) (by decide +kernel) (by decide +kernel)⟩
theorem caX7_shareOut : am_cal mX7_shareOut 0 := ⟨lw_mem (i := 392) (by decide +kernel) (by decide +kernel), lw_mem (i := 52) (by decide +kernel) (by decide +kernel), (by decide +kernel), Nat.le_of_ble_eq_true rfl⟩
theorem cvX7_shareOut : am_cV mX7_shareOut := ⟨lw_mem (i := 391) (by decide +kernel) (by decide +kernel), lw_mem (i := 2) (by decide +kernel) (by decide +kernel)⟩
theorem caX7_unlikeCells : am_cal mX7_unlikeCells 0 := ⟨lw_mem (i := 356) (by decide +kernel) (by decide +kernel), lw_mem (i := 52) (by decide +kernel) (by decide +kernel), (by decide +kernel), Nat.le_of_ble_eq_true rfl⟩
theorem cvX7_unlikeCells : am_cV mX7_unlikeCells := ⟨lw_mem (i := 355) (by decide +kernel) (by decide +kernel), lw_mem (i := 1) (by decide +kernel) (by decide +kernel)⟩
theorem caX7_isChange : am_cal mX7_isChange 2 := ⟨lw_mem (i := 468) (by decide +kernel) (by decide +kernel), lw_mem (i := 52) (by decide +kernel) (by decide +kernel), (by decide +kernel), Nat.le_of_ble_eq_true rfl⟩
theorem cvX7_isChange : am_cV mX7_isChange := ⟨lw_mem (i := 467) (by decide +kernel) (by decide +kernel), lw_mem (i := 8) (by decide +kernel) (by decide +kernel)⟩
theorem caX7_faultsAgainst : am_cal mX7_faultsAgainst 1 := ⟨lw_mem (i := 454) (by decide +kernel) (by decide +kernel), lw_mem (i := 52) (by decide +kernel) (by decide +kernel), (by decide +kernel), Nat.le_of_ble_eq_true rfl⟩
theorem cvX7_faultsAgainst : am_cV mX7_faultsAgainst := ⟨lw_mem (i := 453) (by decide +kernel) (by decide +kernel), lw_mem (i := 7) (by decide +kernel) (by decide +kernel)⟩
theorem caX7_faultsBehind : am_cal mX7_faultsBehind 3 := ⟨lw_mem (i := 473) (by decide +kernel) (by decide +kernel), lw_mem (i := 52) (by decide +kernel) (by decide +kernel), (by decide +kernel), Nat.le_of_ble_eq_true rfl⟩
theorem cvX7_faultsBehind : am_cV mX7_faultsBehind := ⟨lw_mem (i := 472) (by decide +kernel) (by decide +kernel), lw_mem (i := 9) (by decide +kernel) (by decide +kernel)⟩
theorem caX7_leastSteps : am_cal mX7_leastSteps 2 := ⟨lw_mem (i := 559) (by decide +kernel) (by decide +kernel), lw_mem (i := 52) (by decide +kernel) (by decide +kernel), (by decide +kernel), Nat.le_of_ble_eq_true rfl⟩
theorem cvX7_leastSteps : am_cV mX7_leastSteps := ⟨lw_mem (i := 558) (by decide +kernel) (by decide +kernel), lw_mem (i := 15) (by decide +kernel) (by decide +kernel)⟩
theorem caX7_tally : am_cal mX7_tally 2 := ⟨lw_mem (i := 690) (by decide +kernel) (by decide +kernel), lw_mem (i := 52) (by decide +kernel) (by decide +kernel), (by decide +kernel), Nat.le_of_ble_eq_true rfl⟩
theorem cvX7_tally : am_cV mX7_tally := ⟨lw_mem (i := 689) (by decide +kernel) (by decide +kernel), lw_mem (i := 23) (by decide +kernel) (by decide +kernel)⟩
theorem caX7_leaderBy : am_cal mX7_leaderBy 1 := ⟨lw_mem (i := 708) (by decide +kernel) (by decide +kernel), lw_mem (i := 52) (by decide +kernel) (by decide +kernel), (by decide +kernel), Nat.le_of_ble_eq_true rfl⟩
theorem cvX7_leaderBy : am_cV mX7_leaderBy := ⟨lw_mem (i := 707) (by decide +kernel) (by decide +kernel), lw_mem (i := 24) (by decide +kernel) (by decide +kernel)⟩
theorem caX8_init : am_cal mX8_init 0 := ⟨lw_mem (i := 738) (by decide +kernel) (by decide +kernel), lw_mem (i := 60) (by decide +kernel) (by decide +kernel), (by decide +kernel), Nat.le_of_ble_eq_true rfl⟩
theorem caX8_in : am_cal mX8_in 3 := ⟨lw_mem (i := 824) (by decide +kernel) (by decide +kernel), lw_mem (i := 60) (by decide +kernel) (by decide +kernel), (by decide +kernel), Nat.le_of_ble_eq_true rfl⟩
theorem csX8_in : am_cS mX8_in := lw_mem (i := 823) (by decide +kernel) (by decide +kernel)
theorem caX8_size : am_cal mX8_size 1 := ⟨lw_mem (i := 896) (by decide +kernel) (by decide +kernel), lw_mem (i := 60) (by decide +kernel) (by decide +kernel), (by decide +kernel), Nat.le_of_ble_eq_true rfl⟩
theorem csX8_size : am_cS mX8_size := lw_mem (i := 895) (by decide +kernel) (by decide +kernel)
theorem caX8_noCell : am_cal mX8_noCell 1 := ⟨lw_mem (i := 832) (by decide +kernel) (by decide +kernel), lw_mem (i := 60) (by decide +kernel) (by decide +kernel), (by decide +kernel), Nat.le_of_ble_eq_true rfl⟩
theorem cvX8_noCell : am_cV mX8_noCell := ⟨lw_mem (i := 831) (by decide +kernel) (by decide +kernel), lw_mem (i := 26) (by decide +kernel) (by decide +kernel)⟩
theorem caX8_noLand : am_cal mX8_noLand 1 := ⟨lw_mem (i := 859) (by decide +kernel) (by decide +kernel), lw_mem (i := 60) (by decide +kernel) (by decide +kernel), (by decide +kernel), Nat.le_of_ble_eq_true rfl⟩
theorem csX8_noLand : am_cS mX8_noLand := lw_mem (i := 858) (by decide +kernel) (by decide +kernel)
theorem caX8_field : am_cal mX8_field 2 := ⟨lw_mem (i := 819) (by decide +kernel) (by decide +kernel), lw_mem (i := 60) (by decide +kernel) (by decide +kernel), (by decide +kernel), Nat.le_of_ble_eq_true rfl⟩
theorem cvX8_field : am_cV mX8_field := ⟨lw_mem (i := 817) (by decide +kernel) (by decide +kernel), lw_mem (i := 818) (by decide +kernel) (by decide +kernel)⟩
theorem caX8_cellOf : am_cal mX8_cellOf 2 := ⟨lw_mem (i := 836) (by decide +kernel) (by decide +kernel), lw_mem (i := 60) (by decide +kernel) (by decide +kernel), (by decide +kernel), Nat.le_of_ble_eq_true rfl⟩
theorem cvX8_cellOf : am_cV mX8_cellOf := ⟨lw_mem (i := 835) (by decide +kernel) (by decide +kernel), lw_mem (i := 27) (by decide +kernel) (by decide +kernel)⟩
theorem caX8_put : am_cal mX8_put 3 := ⟨lw_mem (i := 840) (by decide +kernel) (by decide +kernel), lw_mem (i := 60) (by decide +kernel) (by decide +kernel), (by decide +kernel), Nat.le_of_ble_eq_true rfl⟩
theorem cvX8_put : am_cV mX8_put := ⟨lw_mem (i := 839) (by decide +kernel) (by decide +kernel), lw_mem (i := 28) (by decide +kernel) (by decide +kernel)⟩
theorem caX8_give : am_cal mX8_give 3 := ⟨lw_mem (i := 828) (by decide +kernel) (by decide +kernel), lw_mem (i := 60) (by decide +kernel) (by decide +kernel), (by decide +kernel), Nat.le_of_ble_eq_true rfl⟩
theorem cvX8_give : am_cV mX8_give := ⟨lw_mem (i := 826) (by decide +kernel) (by decide +kernel), lw_mem (i := 827) (by decide +kernel) (by decide +kernel)⟩
theorem caX8_box : am_cal mX8_box 4 := ⟨lw_mem (i := 844) (by decide +kernel) (by decide +kernel), lw_mem (i := 60) (by decide +kernel) (by decide +kernel), (by decide +kernel), Nat.le_of_ble_eq_true rfl⟩
theorem cvX8_box : am_cV mX8_box := ⟨lw_mem (i := 842) (by decide +kernel) (by decide +kernel), lw_mem (i := 843) (by decide +kernel) (by decide +kernel)⟩
theorem caX8_at : am_cal mX8_at 2 := ⟨lw_mem (i := 848) (by decide +kernel) (by decide +kernel), lw_mem (i := 60) (by decide +kernel) (by decide +kernel), (by decide +kernel), Nat.le_of_ble_eq_true rfl⟩
theorem cvX8_at : am_cV mX8_at := ⟨lw_mem (i := 846) (by decide +kernel) (by decide +kernel), lw_mem (i := 847) (by decide +kernel) (by decide +kernel)⟩
theorem caX8_trace : am_cal mX8_trace 0 := ⟨lw_mem (i := 852) (by decide +kernel) (by decide +kernel), lw_mem (i := 60) (by decide +kernel) (by decide +kernel), (by decide +kernel), Nat.le_of_ble_eq_true rfl⟩
theorem cvX8_trace : am_cV mX8_trace := ⟨lw_mem (i := 850) (by decide +kernel) (by decide +kernel), lw_mem (i := 851) (by decide +kernel) (by decide +kernel)⟩
theorem caX8_manyOf : am_cal mX8_manyOf 2 := ⟨lw_mem (i := 864) (by decide +kernel) (by decide +kernel), lw_mem (i := 60) (by decide +kernel) (by decide +kernel), (by decide +kernel), Nat.le_of_ble_eq_true rfl⟩
theorem cvX8_manyOf : am_cV mX8_manyOf := ⟨lw_mem (i := 863) (by decide +kernel) (by decide +kernel), lw_mem (i := 29) (by decide +kernel) (by decide +kernel)⟩
theorem caX8_cells : am_cal mX8_cells 2 := ⟨lw_mem (i := 856) (by decide +kernel) (by decide +kernel), lw_mem (i := 60) (by decide +kernel) (by decide +kernel), (by decide +kernel), Nat.le_of_ble_eq_true rfl⟩
theorem cvX8_cells : am_cV mX8_cells := ⟨lw_mem (i := 854) (by decide +kernel) (by decide +kernel), lw_mem (i := 855) (by decide +kernel) (by decide +kernel)⟩
theorem caX8_heads : am_cal mX8_heads 2 := ⟨lw_mem (i := 868) (by decide +kernel) (by decide +kernel), lw_mem (i := 60) (by decide +kernel) (by decide +kernel), (by decide +kernel), Nat.le_of_ble_eq_true rfl⟩
theorem cvX8_heads : am_cV mX8_heads := ⟨lw_mem (i := 866) (by decide +kernel) (by decide +kernel), lw_mem (i := 867) (by decide +kernel) (by decide +kernel)⟩
theorem caX8_way : am_cal mX8_way 1 := ⟨lw_mem (i := 873) (by decide +kernel) (by decide +kernel), lw_mem (i := 60) (by decide +kernel) (by decide +kernel), (by decide +kernel), Nat.le_of_ble_eq_true rfl⟩
theorem cvX8_way : am_cV mX8_way := ⟨lw_mem (i := 871) (by decide +kernel) (by decide +kernel), lw_mem (i := 872) (by decide +kernel) (by decide +kernel)⟩
theorem caX8_share : am_cal mX8_share 0 := ⟨lw_mem (i := 881) (by decide +kernel) (by decide +kernel), lw_mem (i := 60) (by decide +kernel) (by decide +kernel), (by decide +kernel), Nat.le_of_ble_eq_true rfl⟩
theorem cvX8_share : am_cV mX8_share := ⟨lw_mem (i := 880) (by decide +kernel) (by decide +kernel), lw_mem (i := 30) (by decide +kernel) (by decide +kernel)⟩
theorem caX8_due : am_cal mX8_due 1 := ⟨lw_mem (i := 877) (by decide +kernel) (by decide +kernel), lw_mem (i := 60) (by decide +kernel) (by decide +kernel), (by decide +kernel), Nat.le_of_ble_eq_true rfl⟩
theorem cvX8_due : am_cV mX8_due := ⟨lw_mem (i := 875) (by decide +kernel) (by decide +kernel), lw_mem (i := 876) (by decide +kernel) (by decide +kernel)⟩
theorem caX8_isBeside : am_cal mX8_isBeside 2 := ⟨lw_mem (i := 893) (by decide +kernel) (by decide +kernel), lw_mem (i := 60) (by decide +kernel) (by decide +kernel), (by decide +kernel), Nat.le_of_ble_eq_true rfl⟩
theorem cvX8_isBeside : am_cV mX8_isBeside := ⟨lw_mem (i := 892) (by decide +kernel) (by decide +kernel), lw_mem (i := 32) (by decide +kernel) (by decide +kernel)⟩
theorem caX8_partsOf : am_cal mX8_partsOf 1 := ⟨lw_mem (i := 889) (by decide +kernel) (by decide +kernel), lw_mem (i := 60) (by decide +kernel) (by decide +kernel), (by decide +kernel), Nat.le_of_ble_eq_true rfl⟩
theorem cvX8_partsOf : am_cV mX8_partsOf := ⟨lw_mem (i := 888) (by decide +kernel) (by decide +kernel), lw_mem (i := 31) (by decide +kernel) (by decide +kernel)⟩
theorem caX8_parts : am_cal mX8_parts 1 := ⟨lw_mem (i := 885) (by decide +kernel) (by decide +kernel), lw_mem (i := 60) (by decide +kernel) (by decide +kernel), (by decide +kernel), Nat.le_of_ble_eq_true rfl⟩
theorem cvX8_parts : am_cV mX8_parts := ⟨lw_mem (i := 883) (by decide +kernel) (by decide +kernel), lw_mem (i := 884) (by decide +kernel) (by decide +kernel)⟩
theorem caX8_touches : am_cal mX8_touches 3 := ⟨lw_mem (i := 908) (by decide +kernel) (by decide +kernel), lw_mem (i := 60) (by decide +kernel) (by decide +kernel), (by decide +kernel), Nat.le_of_ble_eq_true rfl⟩
theorem cvX8_touches : am_cV mX8_touches := ⟨lw_mem (i := 907) (by decide +kernel) (by decide +kernel), lw_mem (i := 34) (by decide +kernel) (by decide +kernel)⟩
theorem caX8_areBeside : am_cal mX8_areBeside 3 := ⟨lw_mem (i := 904) (by decide +kernel) (by decide +kernel), lw_mem (i := 60) (by decide +kernel) (by decide +kernel), (by decide +kernel), Nat.le_of_ble_eq_true rfl⟩
theorem cvX8_areBeside : am_cV mX8_areBeside := ⟨lw_mem (i := 903) (by decide +kernel) (by decide +kernel), lw_mem (i := 33) (by decide +kernel) (by decide +kernel)⟩
theorem caX8_beside : am_cal mX8_beside 3 := ⟨lw_mem (i := 900) (by decide +kernel) (by decide +kernel), lw_mem (i := 60) (by decide +kernel) (by decide +kernel), (by decide +kernel), Nat.le_of_ble_eq_true rfl⟩
theorem cvX8_beside : am_cV mX8_beside := ⟨lw_mem (i := 898) (by decide +kernel) (by decide +kernel), lw_mem (i := 899) (by decide +kernel) (by decide +kernel)⟩
theorem caX8_allFaults : am_cal mX8_allFaults 0 := ⟨lw_mem (i := 916) (by decide +kernel) (by decide +kernel), lw_mem (i := 60) (by decide +kernel) (by decide +kernel), (by decide +kernel), Nat.le_of_ble_eq_true rfl⟩
theorem cvX8_allFaults : am_cV mX8_allFaults := ⟨lw_mem (i := 915) (by decide +kernel) (by decide +kernel), lw_mem (i := 35) (by decide +kernel) (by decide +kernel)⟩
theorem caX8_faults : am_cal mX8_faults 0 := ⟨lw_mem (i := 912) (by decide +kernel) (by decide +kernel), lw_mem (i := 60) (by decide +kernel) (by decide +kernel), (by decide +kernel), Nat.le_of_ble_eq_true rfl⟩
theorem cvX8_faults : am_cV mX8_faults := ⟨lw_mem (i := 910) (by decide +kernel) (by decide +kernel), lw_mem (i := 911) (by decide +kernel) (by decide +kernel)⟩
theorem caX8_isChange : am_cal mX8_isChange 2 := ⟨lw_mem (i := 924) (by decide +kernel) (by decide +kernel), lw_mem (i := 60) (by decide +kernel) (by decide +kernel), (by decide +kernel), Nat.le_of_ble_eq_true rfl⟩
theorem cvX8_isChange : am_cV mX8_isChange := ⟨lw_mem (i := 923) (by decide +kernel) (by decide +kernel), lw_mem (i := 36) (by decide +kernel) (by decide +kernel)⟩
theorem caX8_faultsBy : am_cal mX8_faultsBy 2 := ⟨lw_mem (i := 928) (by decide +kernel) (by decide +kernel), lw_mem (i := 60) (by decide +kernel) (by decide +kernel), (by decide +kernel), Nat.le_of_ble_eq_true rfl⟩
theorem cvX8_faultsBy : am_cV mX8_faultsBy := ⟨lw_mem (i := 927) (by decide +kernel) (by decide +kernel), lw_mem (i := 37) (by decide +kernel) (by decide +kernel)⟩
theorem caX8_would : am_cal mX8_would 2 := ⟨lw_mem (i := 920) (by decide +kernel) (by decide +kernel), lw_mem (i := 60) (by decide +kernel) (by decide +kernel), (by decide +kernel), Nat.le_of_ble_eq_true rfl⟩
theorem cvX8_would : am_cV mX8_would := ⟨lw_mem (i := 918) (by decide +kernel) (by decide +kernel), lw_mem (i := 919) (by decide +kernel) (by decide +kernel)⟩
theorem caX8_mend : am_cal mX8_mend 0 := ⟨lw_mem (i := 932) (by decide +kernel) (by decide +kernel), lw_mem (i := 60) (by decide +kernel) (by decide +kernel), (by decide +kernel), Nat.le_of_ble_eq_true rfl⟩
theorem cvX8_mend : am_cV mX8_mend := ⟨lw_mem (i := 930) (by decide +kernel) (by decide +kernel), lw_mem (i := 931) (by decide +kernel) (by decide +kernel)⟩
theorem caX8_may : am_cal mX8_may 2 := ⟨lw_mem (i := 941) (by decide +kernel) (by decide +kernel), lw_mem (i := 60) (by decide +kernel) (by decide +kernel), (by decide +kernel), Nat.le_of_ble_eq_true rfl⟩
theorem cvX8_may : am_cV mX8_may := ⟨lw_mem (i := 940) (by decide +kernel) (by decide +kernel), lw_mem (i := 38) (by decide +kernel) (by decide +kernel)⟩
theorem caX8_mayHand : am_cal mX8_mayHand 2 := ⟨lw_mem (i := 937) (by decide +kernel) (by decide +kernel), lw_mem (i := 60) (by decide +kernel) (by decide +kernel), (by decide +kernel), Nat.le_of_ble_eq_true rfl⟩
theorem cvX8_mayHand : am_cV mX8_mayHand := ⟨lw_mem (i := 935) (by decide +kernel) (by decide +kernel), lw_mem (i := 936) (by decide +kernel) (by decide +kernel)⟩
theorem caX8_hand : am_cal mX8_hand 2 := ⟨lw_mem (i := 945) (by decide +kernel) (by decide +kernel), lw_mem (i := 60) (by decide +kernel) (by decide +kernel), (by decide +kernel), Nat.le_of_ble_eq_true rfl⟩
theorem cvX8_hand : am_cV mX8_hand := ⟨lw_mem (i := 943) (by decide +kernel) (by decide +kernel), lw_mem (i := 944) (by decide +kernel) (by decide +kernel)⟩
theorem caX8_leastTo : am_cal mX8_leastTo 2 := ⟨lw_mem (i := 957) (by decide +kernel) (by decide +kernel), lw_mem (i := 60) (by decide +kernel) (by decide +kernel), (by decide +kernel), Nat.le_of_ble_eq_true rfl⟩
theorem cvX8_leastTo : am_cV mX8_leastTo := ⟨lw_mem (i := 956) (by decide +kernel) (by decide +kernel), lw_mem (i := 40) (by decide +kernel) (by decide +kernel)⟩
theorem caX8_linked : am_cal mX8_linked 0 := ⟨lw_mem (i := 953) (by decide +kernel) (by decide +kernel), lw_mem (i := 60) (by decide +kernel) (by decide +kernel), (by decide +kernel), Nat.le_of_ble_eq_true rfl⟩
theorem cvX8_linked : am_cV mX8_linked := ⟨lw_mem (i := 952) (by decide +kernel) (by decide +kernel), lw_mem (i := 39) (by decide +kernel) (by decide +kernel)⟩
theorem caX8_chain : am_cal mX8_chain 0 := ⟨lw_mem (i := 949) (by decide +kernel) (by decide +kernel), lw_mem (i := 60) (by decide +kernel) (by decide +kernel), (by decide +kernel), Nat.le_of_ble_eq_true rfl⟩
theorem cvX8_chain : am_cV mX8_chain := ⟨lw_mem (i := 947) (by decide +kernel) (by decide +kernel), lw_mem (i := 948) (by decide +kernel) (by decide +kernel)⟩
theorem caX8_link : am_cal mX8_link 1 := ⟨lw_mem (i := 961) (by decide +kernel) (by decide +kernel), lw_mem (i := 60) (by decide +kernel) (by decide +kernel), (by decide +kernel), Nat.le_of_ble_eq_true rfl⟩
theorem cvX8_link : am_cV mX8_link := ⟨lw_mem (i := 959) (by decide +kernel) (by decide +kernel), lw_mem (i := 960) (by decide +kernel) (by decide +kernel)⟩
theorem caX8_passOn : am_cal mX8_passOn 0 := ⟨lw_mem (i := 969) (by decide +kernel) (by decide +kernel), lw_mem (i := 60) (by decide +kernel) (by decide +kernel), (by decide +kernel), Nat.le_of_ble_eq_true rfl⟩
theorem cvX8_passOn : am_cV mX8_passOn := ⟨lw_mem (i := 968) (by decide +kernel) (by decide +kernel), lw_mem (i := 41) (by decide +kernel) (by decide +kernel)⟩
theorem caX8_pass : am_cal mX8_pass 0 := ⟨lw_mem (i := 965) (by decide +kernel) (by decide +kernel), lw_mem (i := 60) (by decide +kernel) (by decide +kernel), (by decide +kernel), Nat.le_of_ble_eq_true rfl⟩
theorem cvX8_pass : am_cV mX8_pass := ⟨lw_mem (i := 963) (by decide +kernel) (by decide +kernel), lw_mem (i := 964) (by decide +kernel) (by decide +kernel)⟩
theorem caX8_settle : am_cal mX8_settle 0 := ⟨lw_mem (i := 973) (by decide +kernel) (by decide +kernel), lw_mem (i := 60) (by decide +kernel) (by decide +kernel), (by decide +kernel), Nat.le_of_ble_eq_true rfl⟩
theorem cvX8_settle : am_cV mX8_settle := ⟨lw_mem (i := 971) (by decide +kernel) (by decide +kernel), lw_mem (i := 972) (by decide +kernel) (by decide +kernel)⟩
theorem caX8_changed : am_cal mX8_changed 0 := ⟨lw_mem (i := 977) (by decide +kernel) (by decide +kernel), lw_mem (i := 60) (by decide +kernel) (by decide +kernel), (by decide +kernel), Nat.le_of_ble_eq_true rfl⟩
theorem cvX8_changed : am_cV mX8_changed := ⟨lw_mem (i := 975) (by decide +kernel) (by decide +kernel), lw_mem (i := 976) (by decide +kernel) (by decide +kernel)⟩
theorem caX8_steps : am_cal mX8_steps 2 := ⟨lw_mem (i := 989) (by decide +kernel) (by decide +kernel), lw_mem (i := 60) (by decide +kernel) (by decide +kernel), (by decide +kernel), Nat.le_of_ble_eq_true rfl⟩
theorem cvX8_steps : am_cV mX8_steps := ⟨lw_mem (i := 988) (by decide +kernel) (by decide +kernel), lw_mem (i := 43) (by decide +kernel) (by decide +kernel)⟩
theorem caX8_assign : am_cal mX8_assign 1 := ⟨lw_mem (i := 985) (by decide +kernel) (by decide +kernel), lw_mem (i := 60) (by decide +kernel) (by decide +kernel), (by decide +kernel), Nat.le_of_ble_eq_true rfl⟩
theorem cvX8_assign : am_cV mX8_assign := ⟨lw_mem (i := 984) (by decide +kernel) (by decide +kernel), lw_mem (i := 42) (by decide +kernel) (by decide +kernel)⟩
theorem caX8_carried : am_cal mX8_carried 1 := ⟨lw_mem (i := 981) (by decide +kernel) (by decide +kernel), lw_mem (i := 60) (by decide +kernel) (by decide +kernel), (by decide +kernel), Nat.le_of_ble_eq_true rfl⟩
theorem cvX8_carried : am_cV mX8_carried := ⟨lw_mem (i := 979) (by decide +kernel) (by decide +kernel), lw_mem (i := 980) (by decide +kernel) (by decide +kernel)⟩
theorem caX8_offOf : am_cal mX8_offOf 2 := ⟨lw_mem (i := 1005) (by decide +kernel) (by decide +kernel), lw_mem (i := 60) (by decide +kernel) (by decide +kernel), (by decide +kernel), Nat.le_of_ble_eq_true rfl⟩
theorem cvX8_offOf : am_cV mX8_offOf := ⟨lw_mem (i := 1004) (by decide +kernel) (by decide +kernel), lw_mem (i := 46) (by decide +kernel) (by decide +kernel)⟩
theorem caX8_isThere : am_cal mX8_isThere 1 := ⟨lw_mem (i := 1001) (by decide +kernel) (by decide +kernel), lw_mem (i := 60) (by decide +kernel) (by decide +kernel), (by decide +kernel), Nat.le_of_ble_eq_true rfl⟩
theorem cvX8_isThere : am_cV mX8_isThere := ⟨lw_mem (i := 1000) (by decide +kernel) (by decide +kernel), lw_mem (i := 45) (by decide +kernel) (by decide +kernel)⟩
theorem caX8_leastOff : am_cal mX8_leastOff 1 := ⟨lw_mem (i := 997) (by decide +kernel) (by decide +kernel), lw_mem (i := 60) (by decide +kernel) (by decide +kernel), (by decide +kernel), Nat.le_of_ble_eq_true rfl⟩
theorem cvX8_leastOff : am_cV mX8_leastOff := ⟨lw_mem (i := 996) (by decide +kernel) (by decide +kernel), lw_mem (i := 44) (by decide +kernel) (by decide +kernel)⟩
theorem caX8_layTiles : am_cal mX8_layTiles 0 := ⟨lw_mem (i := 1013) (by decide +kernel) (by decide +kernel), lw_mem (i := 60) (by decide +kernel) (by decide +kernel), (by decide +kernel), Nat.le_of_ble_eq_true rfl⟩
theorem cvX8_layTiles : am_cV mX8_layTiles := ⟨lw_mem (i := 1012) (by decide +kernel) (by decide +kernel), lw_mem (i := 47) (by decide +kernel) (by decide +kernel)⟩
theorem caX8_off : am_cal mX8_off 0 := ⟨lw_mem (i := 993) (by decide +kernel) (by decide +kernel), lw_mem (i := 60) (by decide +kernel) (by decide +kernel), (by decide +kernel), Nat.le_of_ble_eq_true rfl⟩
theorem cvX8_off : am_cV mX8_off := ⟨lw_mem (i := 991) (by decide +kernel) (by decide +kernel), lw_mem (i := 992) (by decide +kernel) (by decide +kernel)⟩
theorem caX8_tile : am_cal mX8_tile 1 := ⟨lw_mem (i := 1009) (by decide +kernel) (by decide +kernel), lw_mem (i := 60) (by decide +kernel) (by decide +kernel), (by decide +kernel), Nat.le_of_ble_eq_true rfl⟩
theorem cvX8_tile : am_cV mX8_tile := ⟨lw_mem (i := 1007) (by decide +kernel) (by decide +kernel), lw_mem (i := 1008) (by decide +kernel) (by decide +kernel)⟩
theorem caX8_kept : am_cal mX8_kept 0 := ⟨lw_mem (i := 1017) (by decide +kernel) (by decide +kernel), lw_mem (i := 60) (by decide +kernel) (by decide +kernel), (by decide +kernel), Nat.le_of_ble_eq_true rfl⟩
theorem cvX8_kept : am_cV mX8_kept := ⟨lw_mem (i := 1015) (by decide +kernel) (by decide +kernel), lw_mem (i := 1016) (by decide +kernel) (by decide +kernel)⟩
theorem caX8_noSide : am_cal mX8_noSide 1 := ⟨lw_mem (i := 1024) (by decide +kernel) (by decide +kernel), lw_mem (i := 60) (by decide +kernel) (by decide +kernel), (by decide +kernel), Nat.le_of_ble_eq_true rfl⟩
theorem csX8_noSide : am_cS mX8_noSide := lw_mem (i := 1023) (by decide +kernel) (by decide +kernel)
theorem caX8_votes : am_cal mX8_votes 3 := ⟨lw_mem (i := 1021) (by decide +kernel) (by decide +kernel), lw_mem (i := 60) (by decide +kernel) (by decide +kernel), (by decide +kernel), Nat.le_of_ble_eq_true rfl⟩
theorem cvX8_votes : am_cV mX8_votes := ⟨lw_mem (i := 1019) (by decide +kernel) (by decide +kernel), lw_mem (i := 1020) (by decide +kernel) (by decide +kernel)⟩
theorem caX8_most : am_cal mX8_most 3 := ⟨lw_mem (i := 1035) (by decide +kernel) (by decide +kernel), lw_mem (i := 60) (by decide +kernel) (by decide +kernel), (by decide +kernel), Nat.le_of_ble_eq_true rfl⟩
theorem csX8_most : am_cS mX8_most := lw_mem (i := 1034) (by decide +kernel) (by decide +kernel)
theorem caX8_winner : am_cal mX8_winner 1 := ⟨lw_mem (i := 1032) (by decide +kernel) (by decide +kernel), lw_mem (i := 60) (by decide +kernel) (by decide +kernel), (by decide +kernel), Nat.le_of_ble_eq_true rfl⟩
theorem cvX8_winner : am_cV mX8_winner := ⟨lw_mem (i := 1031) (by decide +kernel) (by decide +kernel), lw_mem (i := 48) (by decide +kernel) (by decide +kernel)⟩
theorem caX8_won : am_cal mX8_won 1 := ⟨lw_mem (i := 1028) (by decide +kernel) (by decide +kernel), lw_mem (i := 60) (by decide +kernel) (by decide +kernel), (by decide +kernel), Nat.le_of_ble_eq_true rfl⟩
theorem cvX8_won : am_cV mX8_won := ⟨lw_mem (i := 1026) (by decide +kernel) (by decide +kernel), lw_mem (i := 1027) (by decide +kernel) (by decide +kernel)⟩
theorem caX8_sum : am_cal mX8_sum 2 := ⟨lw_mem (i := 1043) (by decide +kernel) (by decide +kernel), lw_mem (i := 60) (by decide +kernel) (by decide +kernel), (by decide +kernel), Nat.le_of_ble_eq_true rfl⟩
theorem cvX8_sum : am_cV mX8_sum := ⟨lw_mem (i := 1042) (by decide +kernel) (by decide +kernel), lw_mem (i := 49) (by decide +kernel) (by decide +kernel)⟩
theorem caX8_has : am_cal mX8_has 2 := ⟨lw_mem (i := 1039) (by decide +kernel) (by decide +kernel), lw_mem (i := 60) (by decide +kernel) (by decide +kernel), (by decide +kernel), Nat.le_of_ble_eq_true rfl⟩
theorem cvX8_has : am_cV mX8_has := ⟨lw_mem (i := 1037) (by decide +kernel) (by decide +kernel), lw_mem (i := 1038) (by decide +kernel) (by decide +kernel)⟩
theorem caX8_leader : am_cal mX8_leader 1 := ⟨lw_mem (i := 1051) (by decide +kernel) (by decide +kernel), lw_mem (i := 60) (by decide +kernel) (by decide +kernel), (by decide +kernel), Nat.le_of_ble_eq_true rfl⟩
theorem cvX8_leader : am_cV mX8_leader := ⟨lw_mem (i := 1050) (by decide +kernel) (by decide +kernel), lw_mem (i := 50) (by decide +kernel) (by decide +kernel)⟩
theorem caX8_ahead : am_cal mX8_ahead 1 := ⟨lw_mem (i := 1047) (by decide +kernel) (by decide +kernel), lw_mem (i := 60) (by decide +kernel) (by decide +kernel), (by decide +kernel), Nat.le_of_ble_eq_true rfl⟩
theorem cvX8_ahead : am_cV mX8_ahead := ⟨lw_mem (i := 1045) (by decide +kernel) (by decide +kernel), lw_mem (i := 1046) (by decide +kernel) (by decide +kernel)⟩
theorem caX8_turn : am_cal mX8_turn 1 := ⟨lw_mem (i := 1055) (by decide +kernel) (by decide +kernel), lw_mem (i := 60) (by decide +kernel) (by decide +kernel), (by decide +kernel), Nat.le_of_ble_eq_true rfl⟩
theorem cvX8_turn : am_cV mX8_turn := ⟨lw_mem (i := 1053) (by decide +kernel) (by decide +kernel), lw_mem (i := 1054) (by decide +kernel) (by decide +kernel)⟩
theorem caX8_count : am_cal mX8_count 1 := ⟨lw_mem (i := 1059) (by decide +kernel) (by decide +kernel), lw_mem (i := 60) (by decide +kernel) (by decide +kernel), (by decide +kernel), Nat.le_of_ble_eq_true rfl⟩
theorem cvX8_count : am_cV mX8_count := ⟨lw_mem (i := 1057) (by decide +kernel) (by decide +kernel), lw_mem (i := 1058) (by decide +kernel) (by decide +kernel)⟩
theorem caJ13_bitCount_95d88 : am_cal mJ13_bitCount_95d88 1 := ⟨lw_mem (i := 341) (by decide +kernel) (by decide +kernel), lw_mem (i := 62) (by decide +kernel) (by decide +kernel), (by decide +kernel), Nat.le_of_ble_eq_true rfl⟩
theorem csJ13_bitCount_95d88 : am_cS mJ13_bitCount_95d88 := lw_mem (i := 340) (by decide +kernel) (by decide +kernel)
theorem caJ9_abs_0f7a4 : am_cal mJ9_abs_0f7a4 1 := ⟨lw_mem (i := 457) (by decide +kernel) (by decide +kernel), lw_mem (i := 64) (by decide +kernel) (by decide +kernel), (by decide +kernel), Nat.le_of_ble_eq_true rfl⟩
theorem csJ9_abs_0f7a4 : am_cS mJ9_abs_0f7a4 := lw_mem (i := 456) (by decide +kernel) (by decide +kernel)
theorem caJ9_max_7cf53 : am_cal mJ9_max_7cf53 2 := ⟨lw_mem (i := 460) (by decide +kernel) (by decide +kernel), lw_mem (i := 64) (by decide +kernel) (by decide +kernel), (by decide +kernel), Nat.le_of_ble_eq_true rfl⟩
theorem csJ9_max_7cf53 : am_cS mJ9_max_7cf53 := lw_mem (i := 459) (by decide +kernel) (by decide +kernel)
theorem caJ9_min_7cf53 : am_cal mJ9_min_7cf53 2 := ⟨lw_mem (i := 519) (by decide +kernel) (by decide +kernel), lw_mem (i := 64) (by decide +kernel) (by decide +kernel), (by decide +kernel), Nat.le_of_ble_eq_true rfl⟩
theorem csJ9_min_7cf53 : am_cS mJ9_min_7cf53 := lw_mem (i := 518) (by decide +kernel) (by decide +kernel)
theorem caJ7_fill_d0a16 : am_cal mJ7_fill_d0a16 2 := ⟨lw_mem (i := 278) (by decide +kernel) (by decide +kernel), lw_mem (i := 61) (by decide +kernel) (by decide +kernel), (by decide +kernel), Nat.le_of_ble_eq_true rfl⟩
theorem csJ7_fill_d0a16 : am_cS mJ7_fill_d0a16 := lw_mem (i := 277) (by decide +kernel) (by decide +kernel)
theorem caJ7_fill_53178 : am_cal mJ7_fill_53178 2 := ⟨lw_mem (i := 400) (by decide +kernel) (by decide +kernel), lw_mem (i := 61) (by decide +kernel) (by decide +kernel), (by decide +kernel), Nat.le_of_ble_eq_true rfl⟩
theorem csJ7_fill_53178 : am_cS mJ7_fill_53178 := lw_mem (i := 399) (by decide +kernel) (by decide +kernel)
theorem sL_9 : am_siI RL 9 mX7_init 0 := ⟨Or.inl (lw_mem (i := 67) (by decide +kernel) (by decide +kernel)), caX7_init, lw_mem (i := 68) (by decide +kernel) (by decide +kernel)⟩
theorem sX7_11 : am_siI RX7 11 mX1_init 2 := ⟨Or.inl (lw_mem (i := 75) (by decide +kernel) (by decide +kernel)), caX1_init, lw_mem (i := 76) (by decide +kernel) (by decide +kernel)⟩
theorem sX1_9 : am_siV RX1 9 mX1_lay 2 := ⟨lw_mem (i := 79) (by decide +kernel) (by decide +kernel), caX1_lay, cvX1_lay⟩
theorem sX7_20 : am_siI RX7 20 mX5_init 1 := ⟨Or.inl (lw_mem (i := 104) (by decide +kernel) (by decide +kernel)), caX5_init, lw_mem (i := 105) (by decide +kernel) (by decide +kernel)⟩
theorem sX7_32 : am_siI RX7 32 mX0_init 0 := ⟨Or.inr (by decide +kernel), caX0_init, lw_mem (i := 119) (by decide +kernel) (by decide +kernel)⟩
theorem sX7_39 : am_siI RX7 39 mX2_init 3 := ⟨Or.inl (lw_mem (i := 142) (by decide +kernel) (by decide +kernel)), caX2_init, lw_mem (i := 143) (by decide +kernel) (by decide +kernel)⟩
theorem sX7_48 : am_siI RX7 48 mX3_init 0 := ⟨Or.inr (by decide +kernel), caX3_init, lw_mem (i := 170) (by decide +kernel) (by decide +kernel)⟩
theorem sX7_55 : am_siI RX7 55 mX6_init 2 := ⟨Or.inl (lw_mem (i := 203) (by decide +kernel) (by decide +kernel)), caX6_init, lw_mem (i := 204) (by decide +kernel) (by decide +kernel)⟩
theorem sX6_25 : am_siI RX6 25 mX5_init 1 := ⟨Or.inl (lw_mem (i := 208) (by decide +kernel) (by decide +kernel)), caX5_init, lw_mem (i := 105) (by decide +kernel) (by decide +kernel)⟩
theorem sX7_64 : am_siI RX7 64 mX4_init 0 := ⟨Or.inr (by decide +kernel), caX4_init, lw_mem (i := 226) (by decide +kernel) (by decide +kernel)⟩
theorem sL_13 : am_siV RL 13 mX7_field 2 := ⟨lw_mem (i := 264) (by decide +kernel) (by decide +kernel), caX7_field, cvX7_field⟩
theorem sX7_69 : am_siS RX7 69 mX7_isEdge 1 := ⟨Or.inl (lw_mem (i := 268) (by decide +kernel) (by decide +kernel)), caX7_isEdge, csX7_isEdge⟩
theorem sX7_73 : am_siV RX7 73 mX1_lay 2 := ⟨lw_mem (i := 271) (by decide +kernel) (by decide +kernel), caX1_lay, cvX1_lay⟩
theorem sX7_76 : am_siV RX7 76 mX5_clear 0 := ⟨lw_mem (i := 272) (by decide +kernel) (by decide +kernel), caX5_clear, cvX5_clear⟩
theorem sX5_19 : am_siS RX5 19 mJ7_fill_d0a16 2 := ⟨Or.inl (lw_mem (i := 276) (by decide +kernel) (by decide +kernel)), caJ7_fill_d0a16, csJ7_fill_d0a16⟩
theorem sX7_79 : am_siV RX7 79 mX1_size 0 := ⟨lw_mem (i := 279) (by decide +kernel) (by decide +kernel), caX1_size, cvX1_size⟩
theorem sL_18 : am_siV RL 18 mX7_give 3 := ⟨lw_mem (i := 283) (by decide +kernel) (by decide +kernel), caX7_give, cvX7_give⟩
theorem sX7_83 : am_siV RX7 83 mX1_knows 1 := ⟨lw_mem (i := 287) (by decide +kernel) (by decide +kernel), caX1_knows, cvX1_knows⟩
theorem sX1_32 : am_siV RX1 32 mX1_size 0 := ⟨lw_mem (i := 291) (by decide +kernel) (by decide +kernel), caX1_size, cvX1_size⟩
theorem sX7_86 : am_siS RX7 86 mX7_isOwner 1 := ⟨Or.inl (lw_mem (i := 292) (by decide +kernel) (by decide +kernel)), caX7_isOwner, csX7_isOwner⟩
theorem sX7_131 : am_siS RX7 131 mX7_isLand 1 := ⟨Or.inl (lw_mem (i := 295) (by decide +kernel) (by decide +kernel)), caX7_isLand, csX7_isLand⟩
theorem sX7_89 : am_siV RX7 89 mX7_sheetOf 1 := ⟨lw_mem (i := 298) (by decide +kernel) (by decide +kernel), caX7_sheetOf, cvX7_sheetOf⟩
theorem sX7_93 : am_siV RX7 93 mX5_ownerOf 1 := ⟨lw_mem (i := 302) (by decide +kernel) (by decide +kernel), caX5_ownerOf, cvX5_ownerOf⟩
theorem sX7_97 : am_siV RX7 97 mX5_put 2 := ⟨lw_mem (i := 306) (by decide +kernel) (by decide +kernel), caX5_put, cvX5_put⟩
theorem sL_23 : am_siV RL 23 mX7_box 4 := ⟨lw_mem (i := 311) (by decide +kernel) (by decide +kernel), caX7_box, cvX7_box⟩
theorem sX7_101 : am_siV RX7 101 mX1_columnOf 1 := ⟨lw_mem (i := 315) (by decide +kernel) (by decide +kernel), caX1_columnOf, cvX1_columnOf⟩
theorem sX7_104 : am_siV RX7 104 mX1_rowOf 1 := ⟨lw_mem (i := 319) (by decide +kernel) (by decide +kernel), caX1_rowOf, cvX1_rowOf⟩
theorem sX7_107 : am_siV RX7 107 mX1_boxed 2 := ⟨lw_mem (i := 323) (by decide +kernel) (by decide +kernel), caX1_boxed, cvX1_boxed⟩
theorem sX1_45 : am_siV RX1 45 mX1_rowOf 1 := ⟨lw_mem (i := 327) (by decide +kernel) (by decide +kernel), caX1_rowOf, cvX1_rowOf⟩
theorem sX1_36 : am_siV RX1 36 mX1_columnOf 1 := ⟨lw_mem (i := 328) (by decide +kernel) (by decide +kernel), caX1_columnOf, cvX1_columnOf⟩
theorem sX7_111 : am_siV RX7 111 mX5_cellsOf 1 := ⟨lw_mem (i := 329) (by decide +kernel) (by decide +kernel), caX5_cellsOf, cvX5_cellsOf⟩
theorem sX5_33 : am_siS RX5 33 mX7_isLand 1 := ⟨Or.inr (by decide +kernel), caX7_isLand, csX7_isLand⟩
theorem sX5_43 : am_siV RX5 43 mX5_landCells 0 := ⟨lw_mem (i := 334) (by decide +kernel) (by decide +kernel), caX5_landCells, cvX5_landCells⟩
theorem sX7_117 : am_siS RX7 117 mJ13_bitCount_95d88 1 := ⟨Or.inl (lw_mem (i := 339) (by decide +kernel) (by decide +kernel)), caJ13_bitCount_95d88, csJ13_bitCount_95d88⟩
theorem sL_28 : am_siV RL 28 mX7_at 2 := ⟨lw_mem (i := 345) (by decide +kernel) (by decide +kernel), caX7_at, cvX7_at⟩
theorem sL_33 : am_siV RL 33 mX7_trace 0 := ⟨lw_mem (i := 349) (by decide +kernel) (by decide +kernel), caX7_trace, cvX7_trace⟩
theorem sX7_123 : am_siV RX7 123 mX7_unlikeCells 0 := ⟨lw_mem (i := 353) (by decide +kernel) (by decide +kernel), caX7_unlikeCells, cvX7_unlikeCells⟩
theorem sX7_127 : am_siV RX7 127 mX5_copy 1 := ⟨lw_mem (i := 357) (by decide +kernel) (by decide +kernel), caX5_copy, cvX5_copy⟩
theorem sL_38 : am_siV RL 38 mX7_cells 2 := ⟨lw_mem (i := 364) (by decide +kernel) (by decide +kernel), caX7_cells, cvX7_cells⟩
theorem sX7_134 : am_siV RX7 134 mX5_sizeOf 1 := ⟨lw_mem (i := 368) (by decide +kernel) (by decide +kernel), caX5_sizeOf, cvX5_sizeOf⟩
theorem sX5_47 : am_siV RX5 47 mX5_cellsOf 1 := ⟨lw_mem (i := 372) (by decide +kernel) (by decide +kernel), caX5_cellsOf, cvX5_cellsOf⟩
theorem sX5_51 : am_siS RX5 51 mJ13_bitCount_95d88 1 := ⟨Or.inl (lw_mem (i := 373) (by decide +kernel) (by decide +kernel)), caJ13_bitCount_95d88, csJ13_bitCount_95d88⟩
theorem sL_42 : am_siV RL 42 mX7_heads 2 := ⟨lw_mem (i := 374) (by decide +kernel) (by decide +kernel), caX7_heads, cvX7_heads⟩
theorem sX7_137 : am_siS RX7 137 mX7_isPeople 1 := ⟨Or.inl (lw_mem (i := 378) (by decide +kernel) (by decide +kernel)), caX7_isPeople, csX7_isPeople⟩
theorem sL_46 : am_siV RL 46 mX7_way 1 := ⟨lw_mem (i := 381) (by decide +kernel) (by decide +kernel), caX7_way, cvX7_way⟩
theorem sL_51 : am_siV RL 51 mX7_due 1 := ⟨lw_mem (i := 385) (by decide +kernel) (by decide +kernel), caX7_due, cvX7_due⟩
theorem sX7_148 : am_siV RX7 148 mX7_shareOut 0 := ⟨lw_mem (i := 389) (by decide +kernel) (by decide +kernel), caX7_shareOut, cvX7_shareOut⟩
theorem sX7_186 : am_siV RX7 186 mX5_landCells 0 := ⟨lw_mem (i := 393) (by decide +kernel) (by decide +kernel), caX5_landCells, cvX5_landCells⟩
theorem sX7_233 : am_siV RX7 233 mX0_shareOut 1 := ⟨lw_mem (i := 394) (by decide +kernel) (by decide +kernel), caX0_shareOut, cvX0_shareOut⟩
theorem sX0_21 : am_siS RX0 21 mJ7_fill_53178 2 := ⟨Or.inl (lw_mem (i := 398) (by decide +kernel) (by decide +kernel)), caJ7_fill_53178, csJ7_fill_53178⟩
theorem sX0_31 : am_siV RX0 31 mX0_shareByRests 1 := ⟨lw_mem (i := 401) (by decide +kernel) (by decide +kernel), caX0_shareByRests, cvX0_shareByRests⟩
theorem sX0_38 : am_siV RX0 38 mX0_allHeads 0 := ⟨lw_mem (i := 405) (by decide +kernel) (by decide +kernel), caX0_allHeads, cvX0_allHeads⟩
theorem sX0_35 : am_siV RX0 35 mX0_shareByDivisors 1 := ⟨lw_mem (i := 409) (by decide +kernel) (by decide +kernel), caX0_shareByDivisors, cvX0_shareByDivisors⟩
theorem sX0_42 : am_siV RX0 42 mX0_divisorOf 1 := ⟨lw_mem (i := 413) (by decide +kernel) (by decide +kernel), caX0_divisorOf, cvX0_divisorOf⟩
theorem sL_55 : am_siV RL 55 mX7_parts 1 := ⟨lw_mem (i := 417) (by decide +kernel) (by decide +kernel), caX7_parts, cvX7_parts⟩
theorem sX7_154 : am_siV RX7 154 mX1_partsOf 1 := ⟨lw_mem (i := 421) (by decide +kernel) (by decide +kernel), caX1_partsOf, cvX1_partsOf⟩
theorem sX1_50 : am_siV RX1 50 mX1_pieceFrom 2 := ⟨lw_mem (i := 425) (by decide +kernel) (by decide +kernel), caX1_pieceFrom, cvX1_pieceFrom⟩
theorem sX1_54 : am_siV RX1 54 mX1_rimOf 1 := ⟨lw_mem (i := 429) (by decide +kernel) (by decide +kernel), caX1_rimOf, cvX1_rimOf⟩
theorem sL_59 : am_siV RL 59 mX7_beside 3 := ⟨lw_mem (i := 434) (by decide +kernel) (by decide +kernel), caX7_beside, cvX7_beside⟩
theorem sX7_157 : am_siV RX7 157 mX5_areNeighbours 2 := ⟨lw_mem (i := 438) (by decide +kernel) (by decide +kernel), caX5_areNeighbours, cvX5_areNeighbours⟩
theorem sX5_57 : am_siV RX5 57 mX1_rimOf 1 := ⟨lw_mem (i := 442) (by decide +kernel) (by decide +kernel), caX1_rimOf, cvX1_rimOf⟩
theorem sL_63 : am_siV RL 63 mX7_faults 0 := ⟨lw_mem (i := 443) (by decide +kernel) (by decide +kernel), caX7_faults, cvX7_faults⟩
theorem sX7_161 : am_siV RX7 161 mX5_neighbourPairs 0 := ⟨lw_mem (i := 447) (by decide +kernel) (by decide +kernel), caX5_neighbourPairs, cvX5_neighbourPairs⟩
theorem sX7_164 : am_siV RX7 164 mX7_faultsAgainst 1 := ⟨lw_mem (i := 451) (by decide +kernel) (by decide +kernel), caX7_faultsAgainst, cvX7_faultsAgainst⟩
theorem sX7_244 : am_siS RX7 244 mJ9_abs_0f7a4 1 := ⟨Or.inl (lw_mem (i := 455) (by decide +kernel) (by decide +kernel)), caJ9_abs_0f7a4, csJ9_abs_0f7a4⟩
theorem sX7_249 : am_siS RX7 249 mJ9_max_7cf53 2 := ⟨Or.inl (lw_mem (i := 458) (by decide +kernel) (by decide +kernel)), caJ9_max_7cf53, csJ9_max_7cf53⟩
theorem sL_67 : am_siV RL 67 mX7_would 2 := ⟨lw_mem (i := 461) (by decide +kernel) (by decide +kernel), caX7_would, cvX7_would⟩
theorem sX7_167 : am_siV RX7 167 mX7_isChange 2 := ⟨lw_mem (i := 465) (by decide +kernel) (by decide +kernel), caX7_isChange, cvX7_isChange⟩
theorem sX7_240 : am_siV RX7 240 mX1_rimOf 1 := ⟨lw_mem (i := 469) (by decide +kernel) (by decide +kernel), caX1_rimOf, cvX1_rimOf⟩
theorem sX7_170 : am_siV RX7 170 mX7_faultsBehind 3 := ⟨lw_mem (i := 470) (by decide +kernel) (by decide +kernel), caX7_faultsBehind, cvX7_faultsBehind⟩
theorem sL_71 : am_siV RL 71 mX7_mend 0 := ⟨lw_mem (i := 474) (by decide +kernel) (by decide +kernel), caX7_mend, cvX7_mend⟩
theorem sL_75 : am_siV RL 75 mX7_mayHand 2 := ⟨lw_mem (i := 478) (by decide +kernel) (by decide +kernel), caX7_mayHand, cvX7_mayHand⟩
theorem sX7_174 : am_siV RX7 174 mX2_allows 2 := ⟨lw_mem (i := 482) (by decide +kernel) (by decide +kernel), caX2_allows, cvX2_allows⟩
theorem sX2_34 : am_siV RX2 34 mX5_ownerOf 1 := ⟨lw_mem (i := 486) (by decide +kernel) (by decide +kernel), caX5_ownerOf, cvX5_ownerOf⟩
theorem sX2_40 : am_siV RX2 40 mX1_rimOf 1 := ⟨lw_mem (i := 487) (by decide +kernel) (by decide +kernel), caX1_rimOf, cvX1_rimOf⟩
theorem sX2_46 : am_siV RX2 46 mX5_cellsOf 1 := ⟨lw_mem (i := 488) (by decide +kernel) (by decide +kernel), caX5_cellsOf, cvX5_cellsOf⟩
theorem sX2_50 : am_siV RX2 50 mX2_looseCells 2 := ⟨lw_mem (i := 489) (by decide +kernel) (by decide +kernel), caX2_looseCells, cvX2_looseCells⟩
theorem sX2_54 : am_siS RX2 54 mJ13_bitCount_95d88 1 := ⟨Or.inl (lw_mem (i := 493) (by decide +kernel) (by decide +kernel)), caJ13_bitCount_95d88, csJ13_bitCount_95d88⟩
theorem sX2_60 : am_siV RX2 60 mX1_partsOf 1 := ⟨lw_mem (i := 494) (by decide +kernel) (by decide +kernel), caX1_partsOf, cvX1_partsOf⟩
theorem sL_79 : am_siV RL 79 mX7_hand 2 := ⟨lw_mem (i := 496) (by decide +kernel) (by decide +kernel), caX7_hand, cvX7_hand⟩
theorem sL_83 : am_siV RL 83 mX7_chain 0 := ⟨lw_mem (i := 500) (by decide +kernel) (by decide +kernel), caX7_chain, cvX7_chain⟩
theorem sX7_177 : am_siV RX7 177 mX2_findChain 0 := ⟨lw_mem (i := 504) (by decide +kernel) (by decide +kernel), caX2_findChain, cvX2_findChain⟩
theorem sX2_65 : am_siV RX2 65 mX2_seeWhoHands 0 := ⟨lw_mem (i := 508) (by decide +kernel) (by decide +kernel), caX2_seeWhoHands, cvX2_seeWhoHands⟩
theorem sX2_68 : am_siV RX2 68 mX2_measureLengths 0 := ⟨lw_mem (i := 512) (by decide +kernel) (by decide +kernel), caX2_measureLengths, cvX2_measureLengths⟩
theorem sX2_71 : am_siV RX2 71 mX5_sizeOf 1 := ⟨lw_mem (i := 516) (by decide +kernel) (by decide +kernel), caX5_sizeOf, cvX5_sizeOf⟩
theorem sX2_86 : am_siS RX2 86 mJ9_min_7cf53 2 := ⟨Or.inl (lw_mem (i := 517) (by decide +kernel) (by decide +kernel)), caJ9_min_7cf53, csJ9_min_7cf53⟩
theorem sX2_79 : am_siV RX2 79 mX2_nextOf 1 := ⟨lw_mem (i := 520) (by decide +kernel) (by decide +kernel), caX2_nextOf, cvX2_nextOf⟩
theorem sL_87 : am_siV RL 87 mX7_link 1 := ⟨lw_mem (i := 524) (by decide +kernel) (by decide +kernel), caX7_link, cvX7_link⟩
theorem sL_91 : am_siV RL 91 mX7_pass 0 := ⟨lw_mem (i := 528) (by decide +kernel) (by decide +kernel), caX7_pass, cvX7_pass⟩
theorem sX7_183 : am_siV RX7 183 mX2_passAlong 1 := ⟨lw_mem (i := 532) (by decide +kernel) (by decide +kernel), caX2_passAlong, cvX2_passAlong⟩
theorem sX2_92 : am_siV RX2 92 mX2_cellsToHand 2 := ⟨lw_mem (i := 536) (by decide +kernel) (by decide +kernel), caX2_cellsToHand, cvX2_cellsToHand⟩
theorem sX2_96 : am_siS RX2 96 mX7_lowestCell 1 := ⟨Or.inr (by decide +kernel), caX7_lowestCell, csX7_lowestCell⟩
theorem sX2_99 : am_siV RX2 99 mX5_put 2 := ⟨lw_mem (i := 543) (by decide +kernel) (by decide +kernel), caX5_put, cvX5_put⟩
theorem sL_95 : am_siV RL 95 mX7_settle 0 := ⟨lw_mem (i := 544) (by decide +kernel) (by decide +kernel), caX7_settle, cvX7_settle⟩
theorem sL_99 : am_siV RL 99 mX7_changed 0 := ⟨lw_mem (i := 548) (by decide +kernel) (by decide +kernel), caX7_changed, cvX7_changed⟩
theorem sL_103 : am_siV RL 103 mX7_carried 1 := ⟨lw_mem (i := 552) (by decide +kernel) (by decide +kernel), caX7_carried, cvX7_carried⟩
theorem sX7_189 : am_siV RX7 189 mX7_leastSteps 2 := ⟨lw_mem (i := 556) (by decide +kernel) (by decide +kernel), caX7_leastSteps, cvX7_leastSteps⟩
theorem sX7_252 : am_siV RX7 252 mX3_begin 2 := ⟨lw_mem (i := 560) (by decide +kernel) (by decide +kernel), caX3_begin, cvX3_begin⟩
theorem sX7_200 : am_siS RX7 200 mX7_lowestCell 1 := ⟨Or.inl (lw_mem (i := 564) (by decide +kernel) (by decide +kernel)), caX7_lowestCell, csX7_lowestCell⟩
theorem sX7_255 : am_siV RX7 255 mX1_steps 2 := ⟨lw_mem (i := 565) (by decide +kernel) (by decide +kernel), caX1_steps, cvX1_steps⟩
theorem sX1_40 : am_siS RX1 40 mJ9_abs_0f7a4 1 := ⟨Or.inl (lw_mem (i := 569) (by decide +kernel) (by decide +kernel)), caJ9_abs_0f7a4, csJ9_abs_0f7a4⟩
theorem sX7_258 : am_siV RX7 258 mX3_setCost 3 := ⟨lw_mem (i := 570) (by decide +kernel) (by decide +kernel), caX3_setCost, cvX3_setCost⟩
theorem sX7_262 : am_siV RX7 262 mX3_solve 0 := ⟨lw_mem (i := 574) (by decide +kernel) (by decide +kernel), caX3_solve, cvX3_solve⟩
theorem sX3_38 : am_siS RX3 38 mJ7_fill_d0a16 2 := ⟨Or.inl (lw_mem (i := 578) (by decide +kernel) (by decide +kernel)), caJ7_fill_d0a16, csJ7_fill_d0a16⟩
theorem sX3_44 : am_siS RX3 44 mJ7_fill_53178 2 := ⟨Or.inl (lw_mem (i := 579) (by decide +kernel) (by decide +kernel)), caJ7_fill_53178, csJ7_fill_53178⟩
theorem sX3_47 : am_siV RX3 47 mX3_placeFor 1 := ⟨lw_mem (i := 580) (by decide +kernel) (by decide +kernel), caX3_placeFor, cvX3_placeFor⟩
theorem sX3_61 : am_siV RX3 61 mX3_tightenFrom 1 := ⟨lw_mem (i := 585) (by decide +kernel) (by decide +kernel), caX3_tightenFrom, cvX3_tightenFrom⟩
theorem sX3_72 : am_siV RX3 72 mX3_isReached 1 := ⟨lw_mem (i := 589) (by decide +kernel) (by decide +kernel), caX3_isReached, cvX3_isReached⟩
theorem sX3_64 : am_siV RX3 64 mX3_nearestColumn 0 := ⟨lw_mem (i := 593) (by decide +kernel) (by decide +kernel), caX3_nearestColumn, cvX3_nearestColumn⟩
theorem sX3_68 : am_siV RX3 68 mX3_movePrices 1 := ⟨lw_mem (i := 597) (by decide +kernel) (by decide +kernel), caX3_movePrices, cvX3_movePrices⟩
theorem sX3_51 : am_siV RX3 51 mX3_makeRoom 1 := ⟨lw_mem (i := 601) (by decide +kernel) (by decide +kernel), caX3_makeRoom, cvX3_makeRoom⟩
theorem sX7_265 : am_siV RX7 265 mX3_sum 0 := ⟨lw_mem (i := 605) (by decide +kernel) (by decide +kernel), caX3_sum, cvX3_sum⟩
theorem sL_107 : am_siV RL 107 mX7_off 0 := ⟨lw_mem (i := 609) (by decide +kernel) (by decide +kernel), caX7_off, cvX7_off⟩
theorem sX7_193 : am_siV RX7 193 mX6_findBest 1 := ⟨lw_mem (i := 613) (by decide +kernel) (by decide +kernel), caX6_findBest, cvX6_findBest⟩
theorem sX6_32 : am_siV RX6 32 mX5_landsWithCells 0 := ⟨lw_mem (i := 617) (by decide +kernel) (by decide +kernel), caX5_landsWithCells, cvX5_landsWithCells⟩
theorem sX6_36 : am_siV RX6 36 mX1_size 0 := ⟨lw_mem (i := 621) (by decide +kernel) (by decide +kernel), caX1_size, cvX1_size⟩
theorem sX6_41 : am_siV RX6 41 mX3_begin 2 := ⟨lw_mem (i := 622) (by decide +kernel) (by decide +kernel), caX3_begin, cvX3_begin⟩
theorem sX6_47 : am_siV RX6 47 mX5_sizeOf 1 := ⟨lw_mem (i := 623) (by decide +kernel) (by decide +kernel), caX5_sizeOf, cvX5_sizeOf⟩
theorem sX6_51 : am_siV RX6 51 mX5_cellsOf 1 := ⟨lw_mem (i := 624) (by decide +kernel) (by decide +kernel), caX5_cellsOf, cvX5_cellsOf⟩
theorem sX6_55 : am_siS RX6 55 mX6_digitOf 1 := ⟨Or.inl (lw_mem (i := 625) (by decide +kernel) (by decide +kernel)), caX6_digitOf, csX6_digitOf⟩
theorem sX6_58 : am_siV RX6 58 mX6_setCosts 3 := ⟨lw_mem (i := 629) (by decide +kernel) (by decide +kernel), caX6_setCosts, cvX6_setCosts⟩
theorem sX6_83 : am_siS RX6 83 mJ13_bitCount_95d88 1 := ⟨Or.inl (lw_mem (i := 633) (by decide +kernel) (by decide +kernel)), caJ13_bitCount_95d88, csJ13_bitCount_95d88⟩
theorem sX6_89 : am_siV RX6 89 mX1_columnOf 1 := ⟨lw_mem (i := 634) (by decide +kernel) (by decide +kernel), caX1_columnOf, cvX1_columnOf⟩
theorem sX6_92 : am_siV RX6 92 mX1_rowOf 1 := ⟨lw_mem (i := 635) (by decide +kernel) (by decide +kernel), caX1_rowOf, cvX1_rowOf⟩
theorem sX6_95 : am_siV RX6 95 mX3_setCost 3 := ⟨lw_mem (i := 637) (by decide +kernel) (by decide +kernel), caX3_setCost, cvX3_setCost⟩
theorem sX6_62 : am_siV RX6 62 mX3_solve 0 := ⟨lw_mem (i := 638) (by decide +kernel) (by decide +kernel), caX3_solve, cvX3_solve⟩
theorem sX6_65 : am_siV RX6 65 mX5_clear 0 := ⟨lw_mem (i := 639) (by decide +kernel) (by decide +kernel), caX5_clear, cvX5_clear⟩
theorem sX6_68 : am_siV RX6 68 mX3_rowIn 1 := ⟨lw_mem (i := 640) (by decide +kernel) (by decide +kernel), caX3_rowIn, cvX3_rowIn⟩
theorem sX6_71 : am_siV RX6 71 mX5_put 2 := ⟨lw_mem (i := 644) (by decide +kernel) (by decide +kernel), caX5_put, cvX5_put⟩
theorem sX6_75 : am_siV RX6 75 mX3_sum 0 := ⟨lw_mem (i := 645) (by decide +kernel) (by decide +kernel), caX3_sum, cvX3_sum⟩
theorem sL_111 : am_siV RL 111 mX7_tile 1 := ⟨lw_mem (i := 646) (by decide +kernel) (by decide +kernel), caX7_tile, cvX7_tile⟩
theorem sL_115 : am_siV RL 115 mX7_kept 0 := ⟨lw_mem (i := 650) (by decide +kernel) (by decide +kernel), caX7_kept, cvX7_kept⟩
theorem sL_119 : am_siV RL 119 mX7_votes 3 := ⟨lw_mem (i := 654) (by decide +kernel) (by decide +kernel), caX7_votes, cvX7_votes⟩
theorem sX7_203 : am_siS RX7 203 mX7_isSide 1 := ⟨Or.inl (lw_mem (i := 658) (by decide +kernel) (by decide +kernel)), caX7_isSide, csX7_isSide⟩
theorem sX7_206 : am_siV RX7 206 mX4_votesOf 2 := ⟨lw_mem (i := 661) (by decide +kernel) (by decide +kernel), caX4_votesOf, cvX4_votesOf⟩
theorem sX4_21 : am_siS RX4 21 mX7_isLand 1 := ⟨Or.inr (by decide +kernel), caX7_isLand, csX7_isLand⟩
theorem sX4_25 : am_siS RX4 25 mX7_isSide 1 := ⟨Or.inr (by decide +kernel), caX7_isSide, csX7_isSide⟩
theorem sX7_210 : am_siV RX7 210 mX4_setVotes 3 := ⟨lw_mem (i := 667) (by decide +kernel) (by decide +kernel), caX4_setVotes, cvX4_setVotes⟩
theorem sL_124 : am_siV RL 124 mX7_won 1 := ⟨lw_mem (i := 671) (by decide +kernel) (by decide +kernel), caX7_won, cvX7_won⟩
theorem sX7_214 : am_siV RX7 214 mX4_winnerOf 1 := ⟨lw_mem (i := 675) (by decide +kernel) (by decide +kernel), caX4_winnerOf, cvX4_winnerOf⟩
theorem sX4_28 : am_siV RX4 28 mX4_votesOf 2 := ⟨lw_mem (i := 679) (by decide +kernel) (by decide +kernel), caX4_votesOf, cvX4_votesOf⟩
theorem sX4_32 : am_siS RX4 32 mX7_leaderOf 3 := ⟨Or.inr (by decide +kernel), caX7_leaderOf, csX7_leaderOf⟩
theorem sL_128 : am_siV RL 128 mX7_has 2 := ⟨lw_mem (i := 683) (by decide +kernel) (by decide +kernel), caX7_has, cvX7_has⟩
theorem sX7_217 : am_siV RX7 217 mX7_tally 2 := ⟨lw_mem (i := 687) (by decide +kernel) (by decide +kernel), caX7_tally, cvX7_tally⟩
theorem sX7_268 : am_siV RX7 268 mX4_votesForAll 1 := ⟨lw_mem (i := 691) (by decide +kernel) (by decide +kernel), caX4_votesForAll, cvX4_votesForAll⟩
theorem sX7_271 : am_siV RX7 271 mX4_cellsWon 2 := ⟨lw_mem (i := 695) (by decide +kernel) (by decide +kernel), caX4_cellsWon, cvX4_cellsWon⟩
theorem sX4_36 : am_siV RX4 36 mX4_winnerOf 1 := ⟨lw_mem (i := 699) (by decide +kernel) (by decide +kernel), caX4_winnerOf, cvX4_winnerOf⟩
theorem sX4_40 : am_siV RX4 40 mX5_sizeOf 1 := ⟨lw_mem (i := 700) (by decide +kernel) (by decide +kernel), caX5_sizeOf, cvX5_sizeOf⟩
theorem sL_132 : am_siV RL 132 mX7_ahead 1 := ⟨lw_mem (i := 701) (by decide +kernel) (by decide +kernel), caX7_ahead, cvX7_ahead⟩
theorem sX7_220 : am_siV RX7 220 mX7_leaderBy 1 := ⟨lw_mem (i := 705) (by decide +kernel) (by decide +kernel), caX7_leaderBy, cvX7_leaderBy⟩
theorem sX7_275 : am_siS RX7 275 mX7_leaderOf 3 := ⟨Or.inl (lw_mem (i := 709) (by decide +kernel) (by decide +kernel)), caX7_leaderOf, csX7_leaderOf⟩
theorem sL_136 : am_siV RL 136 mX7_turn 1 := ⟨lw_mem (i := 710) (by decide +kernel) (by decide +kernel), caX7_turn, cvX7_turn⟩
theorem sX7_223 : am_siV RX7 223 mX4_fewestToTurn 3 := ⟨lw_mem (i := 714) (by decide +kernel) (by decide +kernel), caX4_fewestToTurn, cvX4_fewestToTurn⟩
theorem sX4_46 : am_siS RX4 46 mJ7_fill_53178 2 := ⟨Or.inl (lw_mem (i := 719) (by decide +kernel) (by decide +kernel)), caJ7_fill_53178, csJ7_fill_53178⟩
theorem sX4_52 : am_siV RX4 52 mX4_setPrices 3 := ⟨lw_mem (i := 720) (by decide +kernel) (by decide +kernel), caX4_setPrices, cvX4_setPrices⟩
theorem sX4_60 : am_siS RX4 60 mJ9_min_7cf53 2 := ⟨Or.inl (lw_mem (i := 724) (by decide +kernel) (by decide +kernel)), caJ9_min_7cf53, csJ9_min_7cf53⟩
theorem sX4_56 : am_siS RX4 56 mX4_cheapest 5 := ⟨Or.inl (lw_mem (i := 725) (by decide +kernel) (by decide +kernel)), caX4_cheapest, csX4_cheapest⟩
theorem sL_140 : am_siV RL 140 mX7_count 1 := ⟨lw_mem (i := 728) (by decide +kernel) (by decide +kernel), caX7_count, cvX7_count⟩
theorem sX7_227 : am_siV RX7 227 mX0_allHeads 0 := ⟨lw_mem (i := 732) (by decide +kernel) (by decide +kernel), caX0_allHeads, cvX0_allHeads⟩
theorem sX7_230 : am_siV RX7 230 mX5_landsWithCells 0 := ⟨lw_mem (i := 733) (by decide +kernel) (by decide +kernel), caX5_landsWithCells, cvX5_landsWithCells⟩
theorem sL_12 : am_siI RL 12 mX8_init 0 := ⟨Or.inl (lw_mem (i := 736) (by decide +kernel) (by decide +kernel)), caX8_init, lw_mem (i := 737) (by decide +kernel) (by decide +kernel)⟩
theorem sL_17 : am_siV RL 17 mX8_field 2 := ⟨lw_mem (i := 816) (by decide +kernel) (by decide +kernel), caX8_field, cvX8_field⟩
theorem sX8_81 : am_siS RX8 81 mX8_in 3 := ⟨Or.inl (lw_mem (i := 822) (by decide +kernel) (by decide +kernel)), caX8_in, csX8_in⟩
theorem sL_22 : am_siV RL 22 mX8_give 3 := ⟨lw_mem (i := 825) (by decide +kernel) (by decide +kernel), caX8_give, cvX8_give⟩
theorem sX8_91 : am_siV RX8 91 mX8_noCell 1 := ⟨lw_mem (i := 829) (by decide +kernel) (by decide +kernel), caX8_noCell, cvX8_noCell⟩
theorem sX8_95 : am_siV RX8 95 mX8_cellOf 2 := ⟨lw_mem (i := 833) (by decide +kernel) (by decide +kernel), caX8_cellOf, cvX8_cellOf⟩
theorem sX8_99 : am_siV RX8 99 mX8_put 3 := ⟨lw_mem (i := 837) (by decide +kernel) (by decide +kernel), caX8_put, cvX8_put⟩
theorem sL_27 : am_siV RL 27 mX8_box 4 := ⟨lw_mem (i := 841) (by decide +kernel) (by decide +kernel), caX8_box, cvX8_box⟩
theorem sL_32 : am_siV RL 32 mX8_at 2 := ⟨lw_mem (i := 845) (by decide +kernel) (by decide +kernel), caX8_at, cvX8_at⟩
theorem sL_37 : am_siV RL 37 mX8_trace 0 := ⟨lw_mem (i := 849) (by decide +kernel) (by decide +kernel), caX8_trace, cvX8_trace⟩
theorem sL_41 : am_siV RL 41 mX8_cells 2 := ⟨lw_mem (i := 853) (by decide +kernel) (by decide +kernel), caX8_cells, cvX8_cells⟩
theorem sX8_103 : am_siS RX8 103 mX8_noLand 1 := ⟨Or.inl (lw_mem (i := 857) (by decide +kernel) (by decide +kernel)), caX8_noLand, csX8_noLand⟩
theorem sX8_106 : am_siV RX8 106 mX8_manyOf 2 := ⟨lw_mem (i := 861) (by decide +kernel) (by decide +kernel), caX8_manyOf, cvX8_manyOf⟩
theorem sL_45 : am_siV RL 45 mX8_heads 2 := ⟨lw_mem (i := 865) (by decide +kernel) (by decide +kernel), caX8_heads, cvX8_heads⟩
theorem sL_50 : am_siV RL 50 mX8_way 1 := ⟨lw_mem (i := 870) (by decide +kernel) (by decide +kernel), caX8_way, cvX8_way⟩
theorem sL_54 : am_siV RL 54 mX8_due 1 := ⟨lw_mem (i := 874) (by decide +kernel) (by decide +kernel), caX8_due, cvX8_due⟩
theorem sX8_114 : am_siV RX8 114 mX8_share 0 := ⟨lw_mem (i := 878) (by decide +kernel) (by decide +kernel), caX8_share, cvX8_share⟩
theorem sL_58 : am_siV RL 58 mX8_parts 1 := ⟨lw_mem (i := 882) (by decide +kernel) (by decide +kernel), caX8_parts, cvX8_parts⟩
theorem sX8_125 : am_siV RX8 125 mX8_partsOf 1 := ⟨lw_mem (i := 886) (by decide +kernel) (by decide +kernel), caX8_partsOf, cvX8_partsOf⟩
theorem sX8_121 : am_siV RX8 121 mX8_isBeside 2 := ⟨lw_mem (i := 890) (by decide +kernel) (by decide +kernel), caX8_isBeside, cvX8_isBeside⟩
theorem sX8_117 : am_siS RX8 117 mX8_size 1 := ⟨Or.inl (lw_mem (i := 894) (by decide +kernel) (by decide +kernel)), caX8_size, csX8_size⟩
theorem sL_62 : am_siV RL 62 mX8_beside 3 := ⟨lw_mem (i := 897) (by decide +kernel) (by decide +kernel), caX8_beside, cvX8_beside⟩
theorem sX8_132 : am_siV RX8 132 mX8_areBeside 3 := ⟨lw_mem (i := 901) (by decide +kernel) (by decide +kernel), caX8_areBeside, cvX8_areBeside⟩
theorem sX8_128 : am_siV RX8 128 mX8_touches 3 := ⟨lw_mem (i := 905) (by decide +kernel) (by decide +kernel), caX8_touches, cvX8_touches⟩
theorem sL_66 : am_siV RL 66 mX8_faults 0 := ⟨lw_mem (i := 909) (by decide +kernel) (by decide +kernel), caX8_faults, cvX8_faults⟩
theorem sX8_135 : am_siV RX8 135 mX8_allFaults 0 := ⟨lw_mem (i := 913) (by decide +kernel) (by decide +kernel), caX8_allFaults, cvX8_allFaults⟩
theorem sL_70 : am_siV RL 70 mX8_would 2 := ⟨lw_mem (i := 917) (by decide +kernel) (by decide +kernel), caX8_would, cvX8_would⟩
theorem sX8_139 : am_siV RX8 139 mX8_isChange 2 := ⟨lw_mem (i := 921) (by decide +kernel) (by decide +kernel), caX8_isChange, cvX8_isChange⟩
theorem sX8_142 : am_siV RX8 142 mX8_faultsBy 2 := ⟨lw_mem (i := 925) (by decide +kernel) (by decide +kernel), caX8_faultsBy, cvX8_faultsBy⟩
theorem sL_74 : am_siV RL 74 mX8_mend 0 := ⟨lw_mem (i := 929) (by decide +kernel) (by decide +kernel), caX8_mend, cvX8_mend⟩
theorem sL_78 : am_siV RL 78 mX8_mayHand 2 := ⟨lw_mem (i := 934) (by decide +kernel) (by decide +kernel), caX8_mayHand, cvX8_mayHand⟩
theorem sX8_147 : am_siV RX8 147 mX8_may 2 := ⟨lw_mem (i := 938) (by decide +kernel) (by decide +kernel), caX8_may, cvX8_may⟩
theorem sL_82 : am_siV RL 82 mX8_hand 2 := ⟨lw_mem (i := 942) (by decide +kernel) (by decide +kernel), caX8_hand, cvX8_hand⟩
theorem sL_86 : am_siV RL 86 mX8_chain 0 := ⟨lw_mem (i := 946) (by decide +kernel) (by decide +kernel), caX8_chain, cvX8_chain⟩
theorem sX8_156 : am_siV RX8 156 mX8_linked 0 := ⟨lw_mem (i := 950) (by decide +kernel) (by decide +kernel), caX8_linked, cvX8_linked⟩
theorem sX8_150 : am_siV RX8 150 mX8_leastTo 2 := ⟨lw_mem (i := 954) (by decide +kernel) (by decide +kernel), caX8_leastTo, cvX8_leastTo⟩
theorem sL_90 : am_siV RL 90 mX8_link 1 := ⟨lw_mem (i := 958) (by decide +kernel) (by decide +kernel), caX8_link, cvX8_link⟩
theorem sL_94 : am_siV RL 94 mX8_pass 0 := ⟨lw_mem (i := 962) (by decide +kernel) (by decide +kernel), caX8_pass, cvX8_pass⟩
theorem sX8_160 : am_siV RX8 160 mX8_passOn 0 := ⟨lw_mem (i := 966) (by decide +kernel) (by decide +kernel), caX8_passOn, cvX8_passOn⟩
theorem sL_98 : am_siV RL 98 mX8_settle 0 := ⟨lw_mem (i := 970) (by decide +kernel) (by decide +kernel), caX8_settle, cvX8_settle⟩
theorem sL_102 : am_siV RL 102 mX8_changed 0 := ⟨lw_mem (i := 974) (by decide +kernel) (by decide +kernel), caX8_changed, cvX8_changed⟩
theorem sL_106 : am_siV RL 106 mX8_carried 1 := ⟨lw_mem (i := 978) (by decide +kernel) (by decide +kernel), caX8_carried, cvX8_carried⟩
theorem sX8_166 : am_siV RX8 166 mX8_assign 1 := ⟨lw_mem (i := 982) (by decide +kernel) (by decide +kernel), caX8_assign, cvX8_assign⟩
theorem sX8_163 : am_siV RX8 163 mX8_steps 2 := ⟨lw_mem (i := 986) (by decide +kernel) (by decide +kernel), caX8_steps, cvX8_steps⟩
theorem sL_110 : am_siV RL 110 mX8_off 0 := ⟨lw_mem (i := 990) (by decide +kernel) (by decide +kernel), caX8_off, cvX8_off⟩
theorem sX8_175 : am_siV RX8 175 mX8_leastOff 1 := ⟨lw_mem (i := 994) (by decide +kernel) (by decide +kernel), caX8_leastOff, cvX8_leastOff⟩
theorem sX8_169 : am_siV RX8 169 mX8_isThere 1 := ⟨lw_mem (i := 998) (by decide +kernel) (by decide +kernel), caX8_isThere, cvX8_isThere⟩
theorem sX8_172 : am_siV RX8 172 mX8_offOf 2 := ⟨lw_mem (i := 1002) (by decide +kernel) (by decide +kernel), caX8_offOf, cvX8_offOf⟩
theorem sL_114 : am_siV RL 114 mX8_tile 1 := ⟨lw_mem (i := 1006) (by decide +kernel) (by decide +kernel), caX8_tile, cvX8_tile⟩
theorem sX8_178 : am_siV RX8 178 mX8_layTiles 0 := ⟨lw_mem (i := 1010) (by decide +kernel) (by decide +kernel), caX8_layTiles, cvX8_layTiles⟩
theorem sL_118 : am_siV RL 118 mX8_kept 0 := ⟨lw_mem (i := 1014) (by decide +kernel) (by decide +kernel), caX8_kept, cvX8_kept⟩
theorem sL_123 : am_siV RL 123 mX8_votes 3 := ⟨lw_mem (i := 1018) (by decide +kernel) (by decide +kernel), caX8_votes, cvX8_votes⟩
theorem sX8_181 : am_siS RX8 181 mX8_noSide 1 := ⟨Or.inl (lw_mem (i := 1022) (by decide +kernel) (by decide +kernel)), caX8_noSide, csX8_noSide⟩
theorem sL_127 : am_siV RL 127 mX8_won 1 := ⟨lw_mem (i := 1025) (by decide +kernel) (by decide +kernel), caX8_won, cvX8_won⟩
theorem sX8_188 : am_siV RX8 188 mX8_winner 1 := ⟨lw_mem (i := 1029) (by decide +kernel) (by decide +kernel), caX8_winner, cvX8_winner⟩
theorem sX8_184 : am_siS RX8 184 mX8_most 3 := ⟨Or.inl (lw_mem (i := 1033) (by decide +kernel) (by decide +kernel)), caX8_most, csX8_most⟩
theorem sL_131 : am_siV RL 131 mX8_has 2 := ⟨lw_mem (i := 1036) (by decide +kernel) (by decide +kernel), caX8_has, cvX8_has⟩
theorem sX8_191 : am_siV RX8 191 mX8_sum 2 := ⟨lw_mem (i := 1040) (by decide +kernel) (by decide +kernel), caX8_sum, cvX8_sum⟩
theorem sL_135 : am_siV RL 135 mX8_ahead 1 := ⟨lw_mem (i := 1044) (by decide +kernel) (by decide +kernel), caX8_ahead, cvX8_ahead⟩
theorem sX8_194 : am_siV RX8 194 mX8_leader 1 := ⟨lw_mem (i := 1048) (by decide +kernel) (by decide +kernel), caX8_leader, cvX8_leader⟩
theorem sL_139 : am_siV RL 139 mX8_turn 1 := ⟨lw_mem (i := 1052) (by decide +kernel) (by decide +kernel), caX8_turn, cvX8_turn⟩
theorem sL_143 : am_siV RL 143 mX8_count 1 := ⟨lw_mem (i := 1056) (by decide +kernel) (by decide +kernel), caX8_count, cvX8_count⟩
end
section
/-! up to a place -/
def am_q (G : List Shp) (stop : Nat) : List It → Prop → List Value → List Value → Mem → Option (Prop × List Value × List Value × Mem)
  | [], _, _, _, _ => none
  | q :: T, C, L, S, M => match Nat.beq q.1 stop with
    | true => am_fc L (fun L => am_fc S (fun S => some (C, L, S, M)))
    | false => match am_x G q L S M with
      | some (none, L', S', M') => am_q G stop T C L' S' M'
      | some (some c, L', S', M') => am_q G stop T (C ∧ c) L' S' M'
      | none => none
theorem am_q_C {G : List Shp} {stop : Nat} : ∀ {T : List It} {C C' : Prop} {L S L' S' : List Value} {M M' : Mem}, am_q G stop T C L S M = some (C', L', S', M') → C' → C
  | [], _, _, _, _, _, _, _, _, h, _ => by cases h
  | q :: T, C, C', L, S, L', S', M, M', h, hC => by
    unfold am_q at h
    split at h
    · rw [am_fc_eq, am_fc_eq] at h
      cases h
      exact hC
    · split at h
      · exact am_q_C h hC
      · exact (am_q_C h hC).1
      · cases h
section To
variable {X : Cx} {l : Launch} {mt : Mt} {R : Room} {mc ms : Nat} {Q : Option Value → List Shp → Mem → Prop} {kc ks pc : Nat} {L S : List Value} {G : List Shp} {M : Mem}
theorem am_q_sound {stop : Nat} {C' : Prop} {L' S' : List Value} {M' : Mem} : ∀ (T : List It) (pc : Nat) (C : Prop) (L S : List Value) (M : Mem), (∀ q ∈ T, q ∈ mt.2.2.2.2) → am_hd T pc = true → am_dec mt.2.1 T = true → am_q G stop T C L S M = some (C', L', S', M') → C' → AW X l mt R mc ms Q kc ks stop L' S' G M' → AW X l mt R mc ms Q kc ks pc L S G M
  | [], _, _, _, _, _, _, _, _, h, _, _ => by cases h
  | x :: T, pc, C, L, S, M, hm, hh, hdc, h, hC, k => by
    have hpc : x.1 = pc := by simpa [am_hd] using hh
    subst hpc
    have hx := hm x List.mem_cons_self
    simp only [am_dec, Bool.and_eq_true] at hdc
    unfold am_q at h
    split at h
    · rename_i hb
      rw [Nat.beq_eq] at hb
      rw [am_fc_eq, am_fc_eq] at h
      cases h
      rw [hb]
      exact k
    · split at h
      · rename_i L1 S1 M1 h1
        exact am_x_sound hx h1 (fun P hP => by cases hP) (am_q_sound T _ _ _ _ _ (fun q hq => hm q (List.mem_cons_of_mem _ hq)) hdc.2.1 hdc.2.2 h hC k)
      · rename_i c L1 S1 M1 h1
        have hc := (am_q_C h hC).2
        exact am_x_sound hx h1 (fun P hP => by cases hP; exact hc) (am_q_sound T _ _ _ _ _ (fun q hq => hm q (List.mem_cons_of_mem _ hq)) hdc.2.1 hdc.2.2 h hC k)
      · cases h
theorem AW.to (stop : Nat) {C : Prop} {L' S' : List Value} {M' : Mem} (h : am_q G stop (am_t mt.2.2.2.2 pc) True L S M = some (C, L', S', M')) (hC : C) (k : AW X l mt R mc ms Q kc ks stop L' S' G M') : AW X l mt R mc ms Q kc ks pc L S G M :=
  AW.ok (fun hok => am_q_sound _ _ _ _ _ _ (fun q hq => am_t_mem hq) (am_t_hd _ _) (am_t_dec hok.1) h hC k)
theorem PW.to {rk : Nat} {Q : Option Value → Mem → Prop} (stop : Nat) {C : Prop} {L' S' : List Value} {M' : Mem} (h : am_q G stop (am_t mt.2.2.2.2 pc) True L S M = some (C, L', S', M')) (hC : C) (k : PW X l mt rk Q stop L' S' G M') : PW X l mt rk Q pc L S G M := AW.to stop h hC k
end To
end
section
/-! the cells of the class and of the reference, in the order in which they are made -/
def G0 : List Shp := [
  .inr (7, [4, 5, 7, 9, 13, 17, 24, 28]),
  .inr (1, [0, 0, 1, 1, 1]),
  .inr (5, [4, 6]), .inl (1, 6),
  .inr (5, [4, 8]), .inl (1, 6),
  .inr (0, [10, 11, 12, 0]), .inl (0, 6), .inl (0, 6), .inl (0, 6),
  .inr (2, [4, 7, 9, 14, 15, 16]), .inl (2, 36), .inl (0, 6), .inl (0, 6),
  .inr (3, [18, 19, 20, 21, 22, 23, 1, 0, 0]), .inl (1, 324), .inl (1, 37), .inl (1, 37), .inl (1, 37), .inl (0, 37), .inl (0, 37),
  .inr (6, [4, 17, 25, 26]), .inl (0, 6),
  .inr (5, [4, 27]), .inl (1, 6),
  .inr (4, [29, 30, 31]), .inl (0, 18), .inl (0, 24), .inl (0, 6),
  .inr (8, [0, 0, 0, 33, 34, 35, 0, 36, 37, 38, 39, 40, 0, 41, 42, 43, 44, 45, 46, 47, 48, 49, 50, 51, 52]),
  .inl (0, 36), .inl (0, 36), .inl (0, 6), .inl (0, 6), .inl (2, 36), .inl (0, 36), .inl (2, 36), .inl (0, 6),
  .inl (0, 37), .inl (0, 37), .inl (0, 37), .inl (0, 37), .inl (0, 37), .inl (0, 37), .inl (0, 37), .inl (2, 37), .inl (0, 6), .inl (0, 64), .inl (0, 18), .inl (0, 24)]
section T1
variable {X : Cx} {l : Launch} {M : Mem}
theorem f_size {x0 : Shp} {G : List Shp} : PF X l mX1_size 0 [.ref 1] (x0 :: .inr (1, [0, 0, 1, 1, 1]) :: G) M (.int (M.1 1 0 * M.1 1 1)) := by
  refine PF.ofW okX1_size ?_
  refine PW.iret rfl rfl trivial ⟨rfl, rfl⟩
theorem f_columnOf (c : Int32) : PF X l mX1_columnOf 0 [.ref 1, .int c] G0 M (.int (if M.1 1 0 < 1 then 0 else c - c / M.1 1 0 * M.1 1 0)) := by
  refine PF.ofW okX1_columnOf ?_
  refine PW.ige rfl trivial (fun h => ?_) (fun h => ?_)
  · refine PW.iret rfl rfl ⟨trivial, ?_⟩ ⟨?_, rfl⟩
    · intro h0; rw [h0] at h; exact absurd h (by decide)
    · rw [if_neg (Int32.not_lt.mpr h)]
  · refine PW.goto rfl trivial ?_
    refine PW.iret rfl rfl trivial ⟨?_, rfl⟩
    rw [if_pos (Int32.not_le.mp h)]
theorem f_knows (c : Int32) : PF X l mX1_knows 1 [.ref 1, .int c] G0 M (.int (if 0 ≤ c ∧ c < M.1 1 0 * M.1 1 1 then 1 else 0)) := by
  refine PF.ofW okX1_knows ?_
  refine PW.zlt rfl trivial (fun h => ?_) (fun h => ?_)
  · refine PW.zret rfl rfl trivial rfl ⟨?_, rfl⟩
    rw [if_neg (fun q => absurd h (Int32.not_lt.mpr q.1))]
  · refine PW.funV rfl trivial sX1_32 rfl rfl (by decide) rfl f_size ?_
    refine PW.ige rfl trivial (fun h2 => ?_) (fun h2 => ?_)
    · refine PW.zret rfl rfl trivial rfl ⟨?_, rfl⟩
      rw [if_neg (fun q => absurd q.2 (Int32.not_lt.mpr h2))]
    · refine PW.goto rfl trivial ?_
      refine PW.zret rfl rfl trivial rfl ⟨?_, rfl⟩
      rw [if_pos ⟨Int32.not_lt.mp h, Int32.not_le.mp h2⟩]
end T1
end
section
/-! plain facts to paste, each family by itself; over the kit's nI, lN and upd -/
/-! ===== drawers: more things than places ===== -/
theorem fb_holes : ∀ (m n : Nat) (f : Nat → Nat), (∀ i, i < n → f i < m) → (∀ i j, i < j → j < n → f i ≠ f j) → n ≤ m := by
  intro m
  induction m with
  | zero =>
    intro n f h1 _
    rcases Nat.eq_zero_or_pos n with h | h
    · omega
    · exact absurd (h1 0 h) (Nat.not_lt_zero _)
  | succ m ih =>
    intro n f h1 h2
    by_cases hx : ∃ i, i < n ∧ f i = m
    · obtain ⟨a, ha, hfa⟩ := hx
      have hg := ih (n - 1) (fun i => if i < a then f i else f (i + 1)) (by
        intro i hi
        by_cases q : i < a
        · simp only [if_pos q]
          have b1 := h1 i (by omega)
          have b2 := h2 i a q ha
          omega
        · simp only [if_neg q]
          have b1 := h1 (i + 1) (by omega)
          have b2 := h2 a (i + 1) (by omega) (by omega)
          omega) (by
        intro i j hij hj
        by_cases q : i < a
        · by_cases r : j < a
          · simp only [if_pos q, if_pos r]
            exact h2 i j hij (by omega)
          · simp only [if_pos q, if_neg r]
            exact h2 i (j + 1) (by omega) (by omega)
        · have r : ¬ j < a := by omega
          simp only [if_neg q, if_neg r]
          exact h2 (i + 1) (j + 1) (by omega) (by omega))
      omega
    · have hg := ih n f (fun i hi => by
        have b1 := h1 i hi
        have b2 : f i ≠ m := fun e => hx ⟨i, hi, e⟩
        omega) h2
      omega
/-- two of them in one place -/
theorem fb_twice {m n : Nat} {f : Nat → Nat} (h : ∀ i, i < n → f i < m) (hm : m < n) : ∃ i j, i < j ∧ j < n ∧ f i = f j := by
  refine Classical.byContradiction fun hx => ?_
  have := fb_holes m n f h (fun i j hij hj e => hx ⟨i, j, hij, hj, e⟩)
  omega
/-- as many as places, none twice: each place is taken -/
theorem fb_onto {n : Nat} {f : Nat → Nat} (h : ∀ i, i < n → f i < n) (h2 : ∀ i j, i < j → j < n → f i ≠ f j) {y : Nat} (hy : y < n) : ∃ i, i < n ∧ f i = y := by
  refine Classical.byContradiction fun hx => ?_
  have hne : ∀ i, i < n → f i ≠ y := fun i hi e => hx ⟨i, hi, e⟩
  have := fb_holes (n - 1) n (fun i => if f i < y then f i else f i - 1) (by
    intro i hi
    have b1 := h i hi
    have b2 := hne i hi
    by_cases q : f i < y
    · simp only [if_pos q]; omega
    · simp only [if_neg q]; omega) (by
    intro i j hij hj
    have b1 := hne i (by omega)
    have b2 := hne j hj
    have b3 := h2 i j hij hj
    by_cases q : f i < y
    · by_cases r : f j < y
      · simp only [if_pos q, if_pos r]; exact b3
      · simp only [if_pos q, if_neg r]; omega
    · by_cases r : f j < y
      · simp only [if_neg q, if_pos r]; omega
      · simp only [if_neg q, if_neg r]; omega)
  omega
/-! ===== how many places have a property ===== -/
def fb_ct (p : Nat → Bool) : Nat → Nat
  | 0 => 0
  | n + 1 => fb_ct p n + (if p n then 1 else 0)
theorem fb_ct_succ (p : Nat → Bool) (n : Nat) : fb_ct p (n + 1) = fb_ct p n + (if p n then 1 else 0) := rfl
theorem fb_ct_le (p : Nat → Bool) : ∀ n, fb_ct p n ≤ n
  | 0 => Nat.le_refl _
  | n + 1 => by
    have h := fb_ct_le p n
    rw [fb_ct_succ]
    split <;> omega
theorem fb_ct_step (p : Nat → Bool) (m : Nat) : ∀ n, fb_ct p m ≤ fb_ct p (m + n)
  | 0 => Nat.le_refl _
  | n + 1 => by
    have h := fb_ct_step p m n
    show fb_ct p m ≤ fb_ct p (m + n + 1)
    rw [fb_ct_succ]
    omega
theorem fb_ct_mono (p : Nat → Bool) {m n : Nat} (h : m ≤ n) : fb_ct p m ≤ fb_ct p n := by
  have := fb_ct_step p m (n - m)
  rwa [Nat.add_sub_cancel' h] at this
theorem fb_ct_cong {p q : Nat → Bool} : ∀ {n : Nat}, (∀ k, k < n → p k = q k) → fb_ct p n = fb_ct q n
  | 0, _ => rfl
  | n + 1, h => by
    rw [fb_ct_succ, fb_ct_succ, fb_ct_cong (fun k hk => h k (by omega)), h n (by omega)]
/-- one place changed -/
theorem fb_ct_out (p : Nat → Bool) (b : Bool) {i n : Nat} (h : n ≤ i) : fb_ct (fun k => if k = i then b else p k) n = fb_ct p n :=
  fb_ct_cong fun k hk => if_neg (by omega)
theorem fb_ct_upd (p : Nat → Bool) (b : Bool) {i : Nat} : ∀ {n : Nat}, i < n → fb_ct (fun k => if k = i then b else p k) n + (if p i then 1 else 0) = fb_ct p n + (if b then 1 else 0)
  | 0, h => absurd h (Nat.not_lt_zero i)
  | n + 1, h => by
    rw [fb_ct_succ, fb_ct_succ]
    rcases Nat.lt_or_ge i n with q | q
    · have := fb_ct_upd p b q
      have e : (if n = i then b else p n) = p n := if_neg (by omega)
      rw [e]
      omega
    · have e : i = n := by omega
      subst e
      rw [fb_ct_out p b (Nat.le_refl _)]
      simp only [if_true]
      omega
theorem fb_ct_sub {p q : Nat → Bool} : ∀ {n : Nat}, (∀ k, k < n → p k = true → q k = true) → fb_ct p n ≤ fb_ct q n
  | 0, _ => Nat.le_refl _
  | n + 1, h => by
    have h1 := fb_ct_sub (n := n) (p := p) (q := q) (fun k hk => h k (by omega))
    have h2 := h n (by omega)
    rw [fb_ct_succ, fb_ct_succ]
    cases hp : p n <;> cases hq : q n <;> simp_all <;> omega
theorem fb_ct_or {p q : Nat → Bool} : ∀ {n : Nat}, (∀ k, k < n → ¬ (p k = true ∧ q k = true)) → fb_ct (fun k => p k || q k) n = fb_ct p n + fb_ct q n
  | 0, _ => rfl
  | n + 1, h => by
    have h1 := fb_ct_or (n := n) (p := p) (q := q) (fun k hk => h k (by omega))
    have h2 := h n (by omega)
    rw [fb_ct_succ, fb_ct_succ, fb_ct_succ, h1]
    cases hp : p n <;> cases hq : q n <;> simp_all <;> omega
theorem fb_ct_not (p : Nat → Bool) : ∀ n, fb_ct p n + fb_ct (fun k => !p k) n = n
  | 0 => rfl
  | n + 1 => by
    have h := fb_ct_not p n
    rw [fb_ct_succ, fb_ct_succ]
    cases p n <;> simp <;> omega
theorem fb_ct_split (p : Nat → Bool) (m : Nat) : ∀ n, fb_ct p (m + n) = fb_ct p m + fb_ct (fun k => p (m + k)) n
  | 0 => rfl
  | n + 1 => by
    have h := fb_ct_split p m n
    show fb_ct p (m + n + 1) = _
    rw [fb_ct_succ, fb_ct_succ, h, Nat.add_assoc]
theorem fb_ct_zero {p : Nat → Bool} : ∀ {n : Nat}, fb_ct p n = 0 ↔ ∀ k, k < n → p k = false
  | 0 => ⟨fun _ k hk => absurd hk (Nat.not_lt_zero k), fun _ => rfl⟩
  | n + 1 => by
    have h := fb_ct_zero (p := p) (n := n)
    rw [fb_ct_succ]
    constructor
    · intro e k hk
      have e1 : fb_ct p n = 0 := by omega
      rcases Nat.lt_or_ge k n with q | q
      · exact h.mp e1 k q
      · have ek : k = n := by omega
        subst ek
        cases hp : p k
        · rfl
        · simp [hp] at e
    · intro a
      rw [h.mpr (fun k hk => a k (by omega)), a n (by omega)]
      rfl
theorem fb_ct_pos {p : Nat → Bool} {n : Nat} : 0 < fb_ct p n ↔ ∃ k, k < n ∧ p k = true := by
  constructor
  · intro h
    refine Classical.byContradiction fun hx => ?_
    have := fb_ct_zero.mpr (fun k hk => by
      cases hp : p k
      · rfl
      · exact absurd ⟨k, hk, hp⟩ hx : ∀ k, k < n → p k = false)
    omega
  · rintro ⟨k, hk, hp⟩
    rcases Nat.eq_zero_or_pos (fb_ct p n) with e | e
    · have := fb_ct_zero.mp e k hk
      rw [this] at hp
      cases hp
    · exact e
theorem fb_ct_all {p : Nat → Bool} {n : Nat} : fb_ct p n = n ↔ ∀ k, k < n → p k = true := by
  have h := fb_ct_not p n
  constructor
  · intro e k hk
    have z : fb_ct (fun k => !p k) n = 0 := by omega
    have := fb_ct_zero.mp z k hk
    cases hp : p k
    · simp [hp] at this
    · rfl
  · intro a
    have z : fb_ct (fun k => !p k) n = 0 := fb_ct_zero.mpr (fun k hk => by simp [a k hk])
    omega
/-- the k-th place with the property -/
theorem fb_ct_kth {p : Nat → Bool} {k : Nat} : ∀ {n : Nat}, k < fb_ct p n → ∃ i, i < n ∧ p i = true ∧ fb_ct p i = k
  | 0, h => absurd h (Nat.not_lt_zero k)
  | n + 1, h => by
    rcases Nat.lt_or_ge k (fb_ct p n) with q | q
    · obtain ⟨i, h1, h2⟩ := fb_ct_kth q
      exact ⟨i, by omega, h2⟩
    · rw [fb_ct_succ] at h
      cases hp : p n
      · simp [hp] at h; omega
      · simp [hp] at h
        exact ⟨n, by omega, hp, by omega⟩
theorem fb_ct_kth_one {p : Nat → Bool} {i j : Nat} (hi : p i = true) (hj : p j = true) (e : fb_ct p i = fb_ct p j) : i = j := by
  have key : ∀ a b : Nat, a < b → p a = true → fb_ct p a < fb_ct p b := by
    intro a b hab ha
    have h := fb_ct_mono p (show a + 1 ≤ b from hab)
    rw [fb_ct_succ, ha] at h
    simp at h
    omega
  rcases Nat.lt_trichotomy i j with q | q | q
  · have := key i j q hi; omega
  · exact q
  · have := key j i q hj; omega
/-! ===== sums over a range: one place changed, parts, bounds ===== -/
def fb_sm (f : Nat → Nat) : Nat → Nat
  | 0 => 0
  | n + 1 => fb_sm f n + f n
theorem fb_sm_succ (f : Nat → Nat) (n : Nat) : fb_sm f (n + 1) = fb_sm f n + f n := rfl
theorem fb_sm_cong {f g : Nat → Nat} : ∀ {n : Nat}, (∀ k, k < n → f k = g k) → fb_sm f n = fb_sm g n
  | 0, _ => rfl
  | n + 1, h => by rw [fb_sm_succ, fb_sm_succ, fb_sm_cong (fun k hk => h k (by omega)), h n (by omega)]
theorem fb_sm_out (f : Nat → Nat) (v : Nat) {i n : Nat} (h : n ≤ i) : fb_sm (fun k => if k = i then v else f k) n = fb_sm f n :=
  fb_sm_cong fun k hk => if_neg (by omega)
theorem fb_sm_upd (f : Nat → Nat) (v : Nat) {i : Nat} : ∀ {n : Nat}, i < n → fb_sm (fun k => if k = i then v else f k) n + f i = fb_sm f n + v
  | 0, h => absurd h (Nat.not_lt_zero i)
  | n + 1, h => by
    rw [fb_sm_succ, fb_sm_succ]
    rcases Nat.lt_or_ge i n with q | q
    · have := fb_sm_upd f v q
      have e : (if n = i then v else f n) = f n := if_neg (by omega)
      rw [e]
      omega
    · have e : i = n := by omega
      subst e
      rw [fb_sm_out f v (Nat.le_refl _)]
      simp only [if_true]
      omega
theorem fb_sm_add (f g : Nat → Nat) : ∀ n, fb_sm (fun k => f k + g k) n = fb_sm f n + fb_sm g n
  | 0 => rfl
  | n + 1 => by
    have h := fb_sm_add f g n
    rw [fb_sm_succ, fb_sm_succ, fb_sm_succ, h]
    omega
theorem fb_sm_le {f g : Nat → Nat} : ∀ {n : Nat}, (∀ k, k < n → f k ≤ g k) → fb_sm f n ≤ fb_sm g n
  | 0, _ => Nat.le_refl _
  | n + 1, h => by
    have h1 := fb_sm_le (n := n) (f := f) (g := g) (fun k hk => h k (by omega))
    have h2 := h n (by omega)
    rw [fb_sm_succ, fb_sm_succ]
    omega
theorem fb_sm_const (c : Nat) : ∀ n, fb_sm (fun _ => c) n = n * c
  | 0 => by rw [Nat.zero_mul]; rfl
  | n + 1 => by rw [fb_sm_succ, fb_sm_const c n, Nat.succ_mul]
theorem fb_sm_bound {f : Nat → Nat} {c n : Nat} (h : ∀ k, k < n → f k ≤ c) : fb_sm f n ≤ n * c := by
  rw [← fb_sm_const c n]
  exact fb_sm_le h
theorem fb_sm_mono (f : Nat → Nat) (m : Nat) : ∀ n, fb_sm f m ≤ fb_sm f (m + n)
  | 0 => Nat.le_refl _
  | n + 1 => by
    have h := fb_sm_mono f m n
    show fb_sm f m ≤ fb_sm f (m + n + 1)
    rw [fb_sm_succ]
    omega
theorem fb_sm_part (f : Nat → Nat) {i n : Nat} (h : i < n) : fb_sm f i + f i ≤ fb_sm f n := by
  have := fb_sm_mono f (i + 1) (n - (i + 1))
  rw [fb_sm_succ, show i + 1 + (n - (i + 1)) = n by omega] at this
  exact this
theorem fb_sm_split (f : Nat → Nat) (m : Nat) : ∀ n, fb_sm f (m + n) = fb_sm f m + fb_sm (fun k => f (m + k)) n
  | 0 => rfl
  | n + 1 => by
    have h := fb_sm_split f m n
    show fb_sm f (m + n + 1) = _
    rw [fb_sm_succ, fb_sm_succ, h, Nat.add_assoc]
theorem fb_sm_zero {f : Nat → Nat} {n : Nat} (h : fb_sm f n = 0) : ∀ k, k < n → f k = 0 := fun k hk => by
  have := fb_sm_part f hk
  omega
/-- the same over whole numbers -/
def fb_si (f : Nat → Int) : Nat → Int
  | 0 => 0
  | n + 1 => fb_si f n + f n
theorem fb_si_succ (f : Nat → Int) (n : Nat) : fb_si f (n + 1) = fb_si f n + f n := rfl
theorem fb_si_cong {f g : Nat → Int} : ∀ {n : Nat}, (∀ k, k < n → f k = g k) → fb_si f n = fb_si g n
  | 0, _ => rfl
  | n + 1, h => by rw [fb_si_succ, fb_si_succ, fb_si_cong (fun k hk => h k (by omega)), h n (by omega)]
theorem fb_si_out (f : Nat → Int) (v : Int) {i n : Nat} (h : n ≤ i) : fb_si (fun k => if k = i then v else f k) n = fb_si f n :=
  fb_si_cong fun k hk => if_neg (by omega)
theorem fb_si_upd (f : Nat → Int) (v : Int) {i : Nat} : ∀ {n : Nat}, i < n → fb_si (fun k => if k = i then v else f k) n = fb_si f n - f i + v
  | 0, h => absurd h (Nat.not_lt_zero i)
  | n + 1, h => by
    rw [fb_si_succ, fb_si_succ]
    rcases Nat.lt_or_ge i n with q | q
    · have := fb_si_upd f v q
      have e : (if n = i then v else f n) = f n := if_neg (by omega)
      rw [e]
      omega
    · have e : i = n := by omega
      subst e
      rw [fb_si_out f v (Nat.le_refl _)]
      simp only [if_true]
      omega
theorem fb_si_add (f g : Nat → Int) : ∀ n, fb_si (fun k => f k + g k) n = fb_si f n + fb_si g n
  | 0 => rfl
  | n + 1 => by
    have h := fb_si_add f g n
    rw [fb_si_succ, fb_si_succ, fb_si_succ, h]
    omega
theorem fb_si_sub (f g : Nat → Int) : ∀ n, fb_si (fun k => f k - g k) n = fb_si f n - fb_si g n
  | 0 => rfl
  | n + 1 => by
    have h := fb_si_sub f g n
    rw [fb_si_succ, fb_si_succ, fb_si_succ, h]
    omega
theorem fb_si_mul (c : Int) (f : Nat → Int) : ∀ n, fb_si (fun k => c * f k) n = c * fb_si f n
  | 0 => (Int.mul_zero c).symm
  | n + 1 => by
    have h := fb_si_mul c f n
    rw [fb_si_succ, fb_si_succ, h, Int.mul_add]
theorem fb_si_split (f : Nat → Int) (m : Nat) : ∀ n, fb_si f (m + n) = fb_si f m + fb_si (fun k => f (m + k)) n
  | 0 => (Int.add_zero _).symm
  | n + 1 => by
    have h := fb_si_split f m n
    show fb_si f (m + n + 1) = _
    rw [fb_si_succ, fb_si_succ, h, Int.add_assoc]
theorem fb_si_nat (f : Nat → Nat) : ∀ n, fb_si (fun k => (f k : Int)) n = (fb_sm f n : Int)
  | 0 => rfl
  | n + 1 => by
    have h := fb_si_nat f n
    rw [fb_si_succ, fb_sm_succ, h]
    omega
theorem fb_si_bound {f : Nat → Int} {c : Int} (hc : 0 ≤ c) : ∀ {n : Nat}, (∀ k, k < n → -c ≤ f k ∧ f k ≤ c) → -(n * c) ≤ fb_si f n ∧ fb_si f n ≤ n * c
  | 0, _ => by simp [fb_si]
  | n + 1, h => by
    have h1 := fb_si_bound (n := n) (f := f) hc (fun k hk => h k (by omega))
    have h2 := h n (by omega)
    have e : ((n + 1 : Nat) : Int) * c = n * c + c := by rw [Int.natCast_add, Int.add_mul]; simp
    rw [fb_si_succ, e]
    omega
/-! ===== bits of a long that isn't negative ===== -/
theorem fb_andL (a b : Nat) : lN a &&& lN b = lN (a &&& b) := by
  apply Int64.toBitVec_inj.1
  show BitVec.ofNat 64 a &&& BitVec.ofNat 64 b = BitVec.ofNat 64 (a &&& b)
  apply BitVec.eq_of_getLsbD_eq
  intro i hi
  simp [hi]
theorem fb_orL (a b : Nat) : lN a ||| lN b = lN (a ||| b) := by
  apply Int64.toBitVec_inj.1
  show BitVec.ofNat 64 a ||| BitVec.ofNat 64 b = BitVec.ofNat 64 (a ||| b)
  apply BitVec.eq_of_getLsbD_eq
  intro i hi
  simp [hi]
theorem fb_xorL (a b : Nat) : lN a ^^^ lN b = lN (a ^^^ b) := by
  apply Int64.toBitVec_inj.1
  show BitVec.ofNat 64 a ^^^ BitVec.ofNat 64 b = BitVec.ofNat 64 (a ^^^ b)
  apply BitVec.eq_of_getLsbD_eq
  intro i hi
  simp [hi]
theorem fb_xorI (a b : Nat) : nI a ^^^ nI b = nI (a ^^^ b) := by
  apply Int32.toBitVec_inj.1
  show BitVec.ofNat 32 a ^^^ BitVec.ofNat 32 b = BitVec.ofNat 32 (a ^^^ b)
  apply BitVec.eq_of_getLsbD_eq
  intro i hi
  simp [hi]
theorem fb_maskL (n k : Nat) : lN n &&& lN (2 ^ k - 1) = lN (n % 2 ^ k) := by rw [fb_andL, Nat.and_two_pow_sub_one_eq_mod]
theorem fb_or_sumL {a k : Nat} (b : Nat) (h : a < 2 ^ k) : lN (2 ^ k * b) ||| lN a = lN (2 ^ k * b + a) := by rw [fb_orL, Nat.two_pow_add_eq_or_of_lt h]
theorem fb_lN_inj {a b : Nat} (ha : a < 2 ^ 63) (hb : b < 2 ^ 63) : lN a = lN b ↔ a = b := by
  constructor
  · intro h
    have h1 : (BitVec.ofNat 64 a).toNat = (BitVec.ofNat 64 b).toNat := congrArg (fun x : Int64 => x.toBitVec.toNat) h
    rw [BitVec.toNat_ofNat, BitVec.toNat_ofNat, Nat.mod_eq_of_lt (by omega), Nat.mod_eq_of_lt (by omega)] at h1
    exact h1
  · rintro rfl; rfl
theorem fb_bit_nat (n j : Nat) : n &&& 2 ^ j = 0 ↔ n.testBit j = false := by
  constructor
  · intro h
    have h1 : (n &&& 2 ^ j).testBit j = false := by rw [h]; simp
    rw [Nat.testBit_and] at h1
    simpa using h1
  · intro h
    apply Nat.eq_of_testBit_eq
    intro i
    rw [Nat.testBit_and]
    by_cases hi : j = i
    · subst hi; simp [h]
    · first | (simp [Nat.testBit_two_pow, hi]; done) | (simp [Nat.testBit_two_pow_of_ne hi]; done)
/-- one bit of a long -/
theorem fb_bitL {n j : Nat} (hj : j < 63) : lN n &&& lN (2 ^ j) = 0 ↔ n.testBit j = false := by
  have h2 : (2 : Nat) ^ j < 2 ^ 63 := Nat.pow_lt_pow_right (by decide) hj
  have hle : n &&& 2 ^ j ≤ 2 ^ j := Nat.and_le_right
  rw [fb_andL, ← fb_bit_nat, show (0 : Int64) = lN 0 from rfl]
  exact fb_lN_inj (by omega) (by decide)
/-- a bit set, a bit taken off -/
theorem fb_bit_set (n j i : Nat) : (n ||| 2 ^ j).testBit i = (n.testBit i || decide (i = j)) := by
  rw [Nat.testBit_or]
  by_cases h : j = i
  · subst h; simp
  · have h2 : ¬ i = j := fun e => h e.symm
    first | (simp [Nat.testBit_two_pow, h, h2]; done) | (simp [Nat.testBit_two_pow_of_ne h, h2]; done)
theorem fb_bit_flip (n j i : Nat) : (n ^^^ 2 ^ j).testBit i = (n.testBit i ^^ decide (i = j)) := by
  rw [Nat.testBit_xor]
  by_cases h : j = i
  · subst h; simp
  · have h2 : ¬ i = j := fun e => h e.symm
    first | (simp [Nat.testBit_two_pow, h, h2]; done) | (simp [Nat.testBit_two_pow_of_ne h, h2]; done)
/-! ===== a stretch of an array written over by a function ===== -/
def fb_put {α : Type} (f g : Nat → α) (a n : Nat) : Nat → α := fun k => if a ≤ k ∧ k < a + n then g (k - a) else f k
theorem fb_put_0 {α : Type} (f g : Nat → α) (a : Nat) : fb_put f g a 0 = f := funext fun k => if_neg (by omega)
theorem fb_put_in {α : Type} {f g : Nat → α} {a n k : Nat} (h1 : a ≤ k) (h2 : k < a + n) : fb_put f g a n k = g (k - a) := if_pos ⟨h1, h2⟩
theorem fb_put_out {α : Type} {f g : Nat → α} {a n k : Nat} (h : k < a ∨ a + n ≤ k) : fb_put f g a n k = f k := if_neg (by omega)
theorem fb_put_succ (f g : Nat → Int32) (a n : Nat) : upd (fb_put f g a n) (a + n) (g n) = fb_put f g a (n + 1) := by
  funext k
  by_cases h : k = a + n
  · subst h
    simp [upd, fb_put]
  · by_cases h1 : a ≤ k ∧ k < a + n
    · have h2 : a ≤ k ∧ k < a + (n + 1) := by omega
      simp only [upd, fb_put, if_neg h, if_pos h1, if_pos h2]
    · have h2 : ¬ (a ≤ k ∧ k < a + (n + 1)) := by omega
      simp only [upd, fb_put, if_neg h, if_neg h1, if_neg h2]
/-- .. from the far end down -/
theorem fb_put_down (f g : Nat → Int32) {a n m : Nat} (h : m < n) : upd (fb_put f (fun k => g (k + (m + 1))) (a + (m + 1)) (n - (m + 1))) (a + m) (g m) = fb_put f (fun k => g (k + m)) (a + m) (n - m) := by
  funext k
  by_cases h0 : k = a + m
  · subst h0
    simp only [upd, if_true]
    rw [fb_put_in (by omega) (by omega)]
    exact congrArg g (by omega)
  · simp only [upd, if_neg h0]
    by_cases h1 : a + (m + 1) ≤ k ∧ k < a + (m + 1) + (n - (m + 1))
    · rw [fb_put_in h1.1 h1.2, fb_put_in (by omega) (by omega)]
      exact congrArg g (by omega)
    · rw [fb_put_out (by omega), fb_put_out (by omega)]
theorem fb_put_cong {α : Type} {f f2 g g2 : Nat → α} {a n : Nat} (hf : ∀ k, (k < a ∨ a + n ≤ k) → f k = f2 k) (hg : ∀ k, k < n → g k = g2 k) : fb_put f g a n = fb_put f2 g2 a n := by
  funext k
  by_cases h : a ≤ k ∧ k < a + n
  · rw [fb_put_in h.1 h.2, fb_put_in h.1 h.2, hg _ (by omega)]
  · rw [fb_put_out (by omega), fb_put_out (by omega), hf _ (by omega)]
/-! ===== the least, the first, the best so far; that there is one alone ===== -/
theorem fb_first {p : Nat → Prop} [DecidablePred p] : ∀ {n : Nat}, (∃ i, i < n ∧ p i) → ∃ i, i < n ∧ p i ∧ ∀ j, j < i → ¬ p j
  | 0, h => by obtain ⟨i, hi, -⟩ := h; exact absurd hi (Nat.not_lt_zero i)
  | n + 1, h => by
    by_cases q : ∃ i, i < n ∧ p i
    · obtain ⟨i, h1, h2⟩ := fb_first q
      exact ⟨i, by omega, h2⟩
    · obtain ⟨i, h1, h2⟩ := h
      have e : i = n := by
        rcases Nat.lt_or_ge i n with r | r
        · exact absurd ⟨i, r, h2⟩ q
        · omega
      subst e
      exact ⟨i, by omega, h2, fun j hj hp => q ⟨j, hj, hp⟩⟩
theorem fb_first_one {p : Nat → Prop} {i j : Nat} (hi : p i) (hi2 : ∀ k, k < i → ¬ p k) (hj : p j) (hj2 : ∀ k, k < j → ¬ p k) : i = j := by
  rcases Nat.lt_trichotomy i j with q | q | q
  · exact absurd hi (hj2 i q)
  · exact q
  · exact absurd hj (hi2 j q)
theorem fb_last {p : Nat → Prop} [DecidablePred p] : ∀ {n : Nat}, (∃ i, i < n ∧ p i) → ∃ i, i < n ∧ p i ∧ ∀ j, i < j → j < n → ¬ p j
  | 0, h => by obtain ⟨i, hi, -⟩ := h; exact absurd hi (Nat.not_lt_zero i)
  | n + 1, h => by
    by_cases q : p n
    · exact ⟨n, by omega, q, fun j h1 h2 => by omega⟩
    · obtain ⟨i, h1, h2⟩ := h
      have hi : i < n := by
        rcases Nat.lt_or_ge i n with r | r
        · exact r
        · have e : i = n := by omega
          subst e
          exact absurd h2 q
      obtain ⟨i2, a1, a2, a3⟩ := fb_last (n := n) ⟨i, hi, h2⟩
      refine ⟨i2, by omega, a2, fun j b1 b2 => ?_⟩
      rcases Nat.lt_or_ge j n with r | r
      · exact a3 j b1 r
      · have e : j = n := by omega
        subst e
        exact q
/-- the first greatest -/
theorem fb_best (f : Nat → Int) : ∀ {n : Nat}, 0 < n → ∃ i, i < n ∧ (∀ j, j < n → f j ≤ f i) ∧ ∀ j, j < i → f j < f i
  | 0, h => absurd h (Nat.lt_irrefl 0)
  | 1, _ => ⟨0, by omega, fun j hj => by have e : j = 0 := by omega
                                         subst e; exact Int.le_refl _, fun j hj => absurd hj (Nat.not_lt_zero j)⟩
  | n + 2, _ => by
    obtain ⟨i, h1, h2, h3⟩ := fb_best f (n := n + 1) (by omega)
    by_cases q : f i < f (n + 1)
    · refine ⟨n + 1, by omega, fun j hj => ?_, fun j hj => ?_⟩
      · rcases Nat.lt_or_ge j (n + 1) with r | r
        · have := h2 j r; omega
        · have e : j = n + 1 := by omega
          subst e; exact Int.le_refl _
      · have := h2 j hj; omega
    · refine ⟨i, by omega, fun j hj => ?_, h3⟩
      rcases Nat.lt_or_ge j (n + 1) with r | r
      · exact h2 j r
      · have e : j = n + 1 := by omega
        subst e; omega
theorem fb_best_one {f : Nat → Int} {n i j : Nat} (hi : i < n) (hi2 : ∀ k, k < n → f k ≤ f i) (hi3 : ∀ k, k < i → f k < f i) (hj : j < n) (hj2 : ∀ k, k < n → f k ≤ f j) (hj3 : ∀ k, k < j → f k < f j) : i = j := by
  rcases Nat.lt_trichotomy i j with q | q | q
  · have a := hj3 i q
    have b := hi2 j hj
    omega
  · exact q
  · have a := hi3 j q
    have b := hj2 i hi
    omega
/-- the first least -/
theorem fb_low (f : Nat → Int) {n : Nat} (h : 0 < n) : ∃ i, i < n ∧ (∀ j, j < n → f i ≤ f j) ∧ ∀ j, j < i → f i < f j := by
  obtain ⟨i, h1, h2, h3⟩ := fb_best (fun k => -f k) h
  exact ⟨i, h1, fun j hj => by have := h2 j hj; omega, fun j hj => by have := h3 j hj; omega⟩
/-! ===== signed ints as whole numbers, within bounds ===== -/
theorem fb_rng (x : Int32) : -2147483648 ≤ x.toInt ∧ x.toInt < 2147483648 := by
  have h1 := Int32.le_toInt x
  have h2 := Int32.toInt_lt x
  omega
theorem fb_bmod {z : Int} (h1 : -2147483648 ≤ z) (h2 : z < 2147483648) : z.bmod (2 ^ 32) = z := by
  rw [Int.bmod_eq_of_le (by omega) (by omega)]
theorem fb_addI {x y : Int32} (h1 : -2147483648 ≤ x.toInt + y.toInt) (h2 : x.toInt + y.toInt < 2147483648) : (x + y).toInt = x.toInt + y.toInt := by
  rw [Int32.toInt_add, fb_bmod h1 h2]
theorem fb_subI {x y : Int32} (h1 : -2147483648 ≤ x.toInt - y.toInt) (h2 : x.toInt - y.toInt < 2147483648) : (x - y).toInt = x.toInt - y.toInt := by
  rw [Int32.toInt_sub, fb_bmod h1 h2]
theorem fb_mulI {x y : Int32} (h1 : -2147483648 ≤ x.toInt * y.toInt) (h2 : x.toInt * y.toInt < 2147483648) : (x * y).toInt = x.toInt * y.toInt := by
  rw [Int32.toInt_mul, fb_bmod h1 h2]
theorem fb_negI {x : Int32} (h : x.toInt ≠ -2147483648) : (-x).toInt = -x.toInt := by
  have := fb_rng x
  rw [Int32.toInt_neg, fb_bmod (by omega) (by omega)]
theorem fb_ofI {z : Int} (h1 : -2147483648 ≤ z) (h2 : z < 2147483648) : (Int32.ofInt z).toInt = z := by
  rw [Int32.toInt_ofInt, fb_bmod h1 h2]
theorem fb_asI (x : Int32) : Int32.ofInt x.toInt = x := Int32.ofInt_toInt x
theorem fb_rngL (x : Int64) : -9223372036854775808 ≤ x.toInt ∧ x.toInt < 9223372036854775808 := by
  have h1 := Int64.le_toInt x
  have h2 := Int64.toInt_lt x
  omega
theorem fb_bmodL {z : Int} (h1 : -9223372036854775808 ≤ z) (h2 : z < 9223372036854775808) : z.bmod (2 ^ 64) = z := by
  rw [Int.bmod_eq_of_le (by omega) (by omega)]
theorem fb_addL {x y : Int64} (h1 : -9223372036854775808 ≤ x.toInt + y.toInt) (h2 : x.toInt + y.toInt < 9223372036854775808) : (x + y).toInt = x.toInt + y.toInt := by
  rw [Int64.toInt_add, fb_bmodL h1 h2]
theorem fb_subL {x y : Int64} (h1 : -9223372036854775808 ≤ x.toInt - y.toInt) (h2 : x.toInt - y.toInt < 9223372036854775808) : (x - y).toInt = x.toInt - y.toInt := by
  rw [Int64.toInt_sub, fb_bmodL h1 h2]
theorem fb_mulL {x y : Int64} (h1 : -9223372036854775808 ≤ x.toInt * y.toInt) (h2 : x.toInt * y.toInt < 9223372036854775808) : (x * y).toInt = x.toInt * y.toInt := by
  rw [Int64.toInt_mul, fb_bmodL h1 h2]
/-! ===== cuts of what is narrow already ===== -/
theorem fb_byte {x : Int32} (h1 : -128 ≤ x.toInt) (h2 : x.toInt < 128) : x.toInt8.toInt32 = x := by
  apply Int32.toInt_inj.1
  rw [Int8.toInt_toInt32, Int32.toInt_toInt8, Int.bmod_eq_of_le (by omega) (by omega)]
theorem fb_short {x : Int32} (h1 : -32768 ≤ x.toInt) (h2 : x.toInt < 32768) : x.toInt16.toInt32 = x := by
  apply Int32.toInt_inj.1
  rw [Int16.toInt_toInt32, Int32.toInt_toInt16, Int.bmod_eq_of_le (by omega) (by omega)]
theorem fb_byte_rng (x : Int32) : -128 ≤ x.toInt8.toInt32.toInt ∧ x.toInt8.toInt32.toInt < 128 := by
  rw [Int8.toInt_toInt32]
  have h1 := Int8.le_toInt x.toInt8
  have h2 := Int8.toInt_lt x.toInt8
  omega
theorem fb_short_rng (x : Int32) : -32768 ≤ x.toInt16.toInt32.toInt ∧ x.toInt16.toInt32.toInt < 32768 := by
  rw [Int16.toInt_toInt32]
  have h1 := Int16.le_toInt x.toInt16
  have h2 := Int16.toInt_lt x.toInt16
  omega
theorem fb_byte_twice (x : Int32) : x.toInt8.toInt32.toInt8.toInt32 = x.toInt8.toInt32 := fb_byte (fb_byte_rng x).1 (fb_byte_rng x).2
theorem fb_short_twice (x : Int32) : x.toInt16.toInt32.toInt16.toInt32 = x.toInt16.toInt32 := fb_short (fb_short_rng x).1 (fb_short_rng x).2
theorem fb_char {n : Nat} (h : n < 65536) : (nI n).toUInt32.toUInt16.toUInt32.toInt32 = nI n := by
  apply Int32.toBitVec_inj.1
  apply BitVec.eq_of_toNat_eq
  have e1 : (nI n).toBitVec.toNat = n := by
    show (BitVec.ofNat 32 n).toNat = n
    rw [BitVec.toNat_ofNat, Nat.mod_eq_of_lt (by omega)]
  have e2 : ((nI n).toUInt32.toUInt16.toUInt32).toNat = n := by
    rw [UInt16.toNat_toUInt32, UInt32.toNat_toUInt16]
    show (nI n).toBitVec.toNat % 2 ^ 16 = n
    rw [e1, Nat.mod_eq_of_lt (by omega)]
  rw [e1]
  exact e2
/-! plain facts on numbers and arrays, to paste: each family by itself; over the kit's rows on nI and upd -/
/-! ===== order of ints, in all its forms, and through longs ===== -/
theorem fa_lt (a b : Int32) : a < b ↔ a.toInt < b.toInt := Int32.lt_iff_toInt_lt
theorem fa_le (a b : Int32) : a ≤ b ↔ a.toInt ≤ b.toInt := Int32.le_iff_toInt_le
theorem fa_eq (a b : Int32) : a = b ↔ a.toInt = b.toInt := Int32.toInt_inj.symm
theorem fa_lt64 (a b : Int64) : a < b ↔ a.toInt < b.toInt := Int64.lt_iff_toInt_lt
theorem fa_le64 (a b : Int64) : a ≤ b ↔ a.toInt ≤ b.toInt := Int64.le_iff_toInt_le
theorem fa_eq64 (a b : Int64) : a = b ↔ a.toInt = b.toInt := Int64.toInt_inj.symm
/-- a comparison of two ints taken as longs -/
theorem fa_wide_lt (a b : Int32) : a.toInt64 < b.toInt64 ↔ a < b := by rw [fa_lt64, fa_lt, Int32.toInt_toInt64, Int32.toInt_toInt64]
theorem fa_wide_le (a b : Int32) : a.toInt64 ≤ b.toInt64 ↔ a ≤ b := by rw [fa_le64, fa_le, Int32.toInt_toInt64, Int32.toInt_toInt64]
theorem fa_wide_eq (a b : Int32) : a.toInt64 = b.toInt64 ↔ a = b := by rw [fa_eq64, fa_eq, Int32.toInt_toInt64, Int32.toInt_toInt64]
/-- one strict comparison gives all the others -/
theorem fa_of_lt {a b : Int32} (h : a < b) : a ≤ b ∧ ¬ b ≤ a ∧ ¬ b < a ∧ a ≠ b ∧ b ≠ a := by
  rw [fa_lt] at h
  refine ⟨?_, ?_, ?_, ?_, ?_⟩
  · rw [fa_le]; omega
  · rw [fa_le]; omega
  · rw [fa_lt]; omega
  · intro e; rw [fa_eq] at e; omega
  · intro e; rw [fa_eq] at e; omega
theorem fa_of_nlt {a b : Int32} (h : ¬ a < b) : b ≤ a := by
  rw [fa_lt] at h
  rw [fa_le]
  omega
theorem fa_of_nle {a b : Int32} (h : ¬ a ≤ b) : b < a := by
  rw [fa_le] at h
  rw [fa_lt]
  omega
theorem fa_le_ne {a b : Int32} (h : a ≤ b) (h2 : a ≠ b) : a < b := by
  rw [fa_le] at h
  rw [fa_lt]
  have h3 : a.toInt ≠ b.toInt := fun e => h2 ((fa_eq a b).mpr e)
  omega
theorem fa_three (a b : Int32) : a < b ∨ a = b ∨ b < a := by
  rw [fa_lt, fa_lt, fa_eq]
  omega
theorem fa_trans {a b c : Int32} (h : a < b) (h2 : b ≤ c) : a < c := by
  rw [fa_lt] at *
  rw [fa_le] at h2
  omega
/-! ===== small literals as numbers ===== -/
theorem fa_lit (n : Nat) : (OfNat.ofNat n : Int32) = nI n := rfl
theorem fa_litL (n : Nat) : (OfNat.ofNat n : Int64) = lN n := rfl
/-! ===== bits of a number: 'or', masks, one bit ===== -/
theorem fa_and (a b : Nat) : nI a &&& nI b = nI (a &&& b) := by
  apply Int32.toBitVec_inj.1
  show BitVec.ofNat 32 a &&& BitVec.ofNat 32 b = BitVec.ofNat 32 (a &&& b)
  apply BitVec.eq_of_getLsbD_eq
  intro i hi
  simp [hi]
theorem fa_or (a b : Nat) : nI a ||| nI b = nI (a ||| b) := by
  apply Int32.toBitVec_inj.1
  show BitVec.ofNat 32 a ||| BitVec.ofNat 32 b = BitVec.ofNat 32 (a ||| b)
  apply BitVec.eq_of_getLsbD_eq
  intro i hi
  simp [hi]
/-- a remainder by a power of two, as a mask -/
theorem fa_mask (n k : Nat) : nI n &&& nI (2 ^ k - 1) = nI (n % 2 ^ k) := by rw [fa_and, Nat.and_two_pow_sub_one_eq_mod]
/-- 'or' of a high part and a low one that don't meet is their sum -/
theorem fa_or_sum {a k : Nat} (b : Nat) (h : a < 2 ^ k) : nI (2 ^ k * b) ||| nI a = nI (2 ^ k * b + a) := by rw [fa_or, Nat.two_pow_add_eq_or_of_lt h]
/-- one bit, by 'and' with a power of two -/
theorem fa_bit {n j : Nat} (hj : j < 31) : nI n &&& nI (2 ^ j) = 0 ↔ n.testBit j = false := by
  have h2 : (2 : Nat) ^ j < 2 ^ 31 := Nat.pow_lt_pow_right (by decide) hj
  have hle : n &&& 2 ^ j ≤ 2 ^ j := Nat.and_le_right
  have e : n &&& 2 ^ j = 0 ↔ n.testBit j = false := by
    constructor
    · intro h
      have h1 : (n &&& 2 ^ j).testBit j = false := by rw [h]; simp
      rw [Nat.testBit_and] at h1
      first | simpa using h1 | simpa [Nat.testBit_two_pow_self] using h1 | simpa [Nat.testBit_two_pow] using h1
    · intro h
      apply Nat.eq_of_testBit_eq
      intro i
      rw [Nat.testBit_and]
      by_cases hi : j = i
      · subst hi; simp [h]
      · first | (simp [Nat.testBit_two_pow, hi]; done) | (simp [Nat.testBit_two_pow_of_ne hi]; done)
  rw [fa_and]
  constructor
  · intro h
    apply e.mp
    rcases Nat.eq_zero_or_pos (n &&& 2 ^ j) with z | z
    · exact z
    · exact absurd h (nI_ne0 z (Nat.lt_of_le_of_lt hle h2))
  · intro h
    rw [e.mpr h]; exact nI_0
/-- a remainder by a power of two of a number that isn't negative, as Java divides -/
theorem fa_rem {a k : Nat} (ha : a < 2 ^ 31) (hk : k < 31) : nI a - nI a / nI (2 ^ k) * nI (2 ^ k) = nI (a % 2 ^ k) := pk_rem ha (Nat.two_pow_pos k) (Nat.pow_lt_pow_right (by decide) hk)
/-! ===== cuts to a byte, a short ===== -/
theorem fa_byte_xor (x y : Int32) : (x ^^^ y).toInt8 = x.toInt8 ^^^ y.toInt8 := by
  apply Int8.toBitVec_inj.1
  apply BitVec.eq_of_getLsbD_eq
  intro i hi
  first | (simp [hi]; done) | (simp [hi, BitVec.getLsbD_setWidth, BitVec.getLsbD_signExtend]; done)
theorem fa_short_xor (x y : Int32) : (x ^^^ y).toInt16 = x.toInt16 ^^^ y.toInt16 := by
  apply Int16.toBitVec_inj.1
  apply BitVec.eq_of_getLsbD_eq
  intro i hi
  first | (simp [hi]; done) | (simp [hi, BitVec.getLsbD_setWidth, BitVec.getLsbD_signExtend]; done)
/-- the cut to a byte sees the low byte alone -/
theorem fa_byte_low (x : Int32) : (x &&& 255).toInt8 = x.toInt8 := by
  apply Int8.toBitVec_inj.1
  apply BitVec.eq_of_getLsbD_eq
  intro i hi
  have h2 : (255 : Int32).toBitVec.getLsbD i = true := by
    have : ∀ j : Fin 8, (255 : Int32).toBitVec.getLsbD j.val = true := by decide +kernel
    exact this ⟨i, hi⟩
  have h4 : (x &&& 255).toBitVec.getLsbD i = x.toBitVec.getLsbD i := by
    show (x.toBitVec &&& (255 : Int32).toBitVec).getLsbD i = _
    rw [BitVec.getLsbD_and, h2, Bool.and_true]
  have h3 : i < 32 := by omega
  first
    | (show (((x &&& 255).toBitVec).signExtend 8).getLsbD i = (x.toBitVec.signExtend 8).getLsbD i; rw [BitVec.getLsbD_signExtend, BitVec.getLsbD_signExtend, if_pos h3, if_pos h3, h4])
    | (show (((x &&& 255).toBitVec).setWidth 8).getLsbD i = (x.toBitVec.setWidth 8).getLsbD i; rw [BitVec.getLsbD_setWidth, BitVec.getLsbD_setWidth, h4])
    | (simp [hi, h3, h4]; done)
theorem fa_short_low (x : Int32) : (x &&& 65535).toInt16 = x.toInt16 := by
  apply Int16.toBitVec_inj.1
  apply BitVec.eq_of_getLsbD_eq
  intro i hi
  have h2 : (65535 : Int32).toBitVec.getLsbD i = true := by
    have : ∀ j : Fin 16, (65535 : Int32).toBitVec.getLsbD j.val = true := by decide +kernel
    exact this ⟨i, hi⟩
  have h4 : (x &&& 65535).toBitVec.getLsbD i = x.toBitVec.getLsbD i := by
    show (x.toBitVec &&& (65535 : Int32).toBitVec).getLsbD i = _
    rw [BitVec.getLsbD_and, h2, Bool.and_true]
  have h3 : i < 32 := by omega
  first
    | (show (((x &&& 65535).toBitVec).signExtend 16).getLsbD i = (x.toBitVec.signExtend 16).getLsbD i; rw [BitVec.getLsbD_signExtend, BitVec.getLsbD_signExtend, if_pos h3, if_pos h3, h4])
    | (show (((x &&& 65535).toBitVec).setWidth 16).getLsbD i = (x.toBitVec.setWidth 16).getLsbD i; rw [BitVec.getLsbD_setWidth, BitVec.getLsbD_setWidth, h4])
    | (simp [hi, h3, h4]; done)
/-- a small number is its own byte, its own short -/
theorem fa_byte_small {n : Nat} (h : n < 128) : (nI n).toInt8.toInt32 = nI n := by
  have : ∀ j : Fin 128, (nI j.val).toInt8.toInt32 = nI j.val := by decide +kernel
  exact this ⟨n, h⟩
/-! ===== absolute difference ===== -/
theorem fa_absdiff {a b : Nat} (ha : a < 2 ^ 31) (hb : b < 2 ^ 31) : (if nI a < nI b then nI b - nI a else nI a - nI b) = nI (if a < b then b - a else a - b) := by
  by_cases h : a < b
  · rw [if_pos (nI_lt h hb), if_pos h]
    exact pk_sub (Nat.le_of_lt h)
  · rw [if_neg (nI_nlt (Nat.le_of_not_lt h) ha), if_neg h]
    exact pk_sub (Nat.le_of_not_lt h)
/-! ===== an array behind i stores, a conditional store, a row copied ===== -/
/-- f where k < i, what stood there else -/
def fa_fill {α : Type} (f g : Nat → α) (i : Nat) : Nat → α := fun k => if k < i then f k else g k
theorem fa_fill_0 {α : Type} (f g : Nat → α) : fa_fill f g 0 = g := funext fun k => if_neg (Nat.not_lt_zero k)
theorem fa_fill_in {α : Type} {f g : Nat → α} {i k : Nat} (h : k < i) : fa_fill f g i k = f k := if_pos h
theorem fa_fill_out {α : Type} {f g : Nat → α} {i k : Nat} (h : i ≤ k) : fa_fill f g i k = g k := if_neg (Nat.not_lt.mpr h)
theorem fa_fill_succ (f g : Nat → Int32) (i : Nat) : upd (fa_fill f g i) i (f i) = fa_fill f g (i + 1) := by
  funext k
  by_cases e : k = i
  · subst e
    rw [pk_us]
    exact (if_pos (Nat.lt_succ_self k)).symm
  · rw [pk_un e]
    by_cases h : k < i
    · rw [fa_fill_in h, fa_fill_in (Nat.lt_succ_of_lt h)]
    · rw [fa_fill_out (Nat.le_of_not_lt h), fa_fill_out (by omega)]
/-- a store that changes nothing -/
theorem fa_upd_same {f : Nat → Int32} {i : Nat} {x : Int32} (h : f i = x) : upd f i x = f := by
  funext k
  by_cases e : k = i
  · subst e
    rw [pk_us, h]
  · rw [pk_un e]
/-- a store under a condition, told as one -/
theorem fa_upd_if (c : Prop) [Decidable c] (f : Nat → Int32) (i : Nat) (x : Int32) : (if c then upd f i x else f) = upd f i (if c then x else f i) := by
  by_cases h : c
  · rw [if_pos h, if_pos h]
  · rw [if_neg h, if_neg h, fa_upd_same rfl]
/-- two stores at one place, at two -/
theorem fa_upd_twice (f : Nat → Int32) (i : Nat) (x y : Int32) : upd (upd f i x) i y = upd f i y := by
  funext k
  by_cases e : k = i
  · subst e
    rw [pk_us, pk_us]
  · rw [pk_un e, pk_un e, pk_un e]
theorem fa_upd_swap (f : Nat → Int32) {i j : Nat} (h : i ≠ j) (x y : Int32) : upd (upd f i x) j y = upd (upd f j y) i x := by
  funext k
  by_cases e : k = i
  · subst e
    rw [pk_un h, pk_us, pk_us]
  · by_cases e2 : k = j
    · subst e2
      rw [pk_us, pk_un e, pk_us]
    · rw [pk_un e2, pk_un e, pk_un e, pk_un e2]
/-! ===== the first index with a property; a count ===== -/
/-- the first k < n with p k, n if there is none -/
def fa_first (p : Nat → Bool) : Nat → Nat
  | 0 => 0
  | n + 1 => if fa_first p n < n then fa_first p n else if p n then n else n + 1
theorem fa_first_le (p : Nat → Bool) : ∀ n, fa_first p n ≤ n
  | 0 => Nat.le_refl 0
  | n + 1 => by
    have ih := fa_first_le p n
    unfold fa_first
    split
    · omega
    · split
      · omega
      · omega
theorem fa_first_no (p : Nat → Bool) : ∀ n k, k < fa_first p n → p k = false
  | 0, k, h => absurd h (Nat.not_lt_zero k)
  | n + 1, k, h => by
    have ih := fa_first_no p n
    have hl := fa_first_le p n
    unfold fa_first at h
    split at h
    · exact ih k h
    · rename_i h1
      split at h
      · exact ih k (by omega)
      · rename_i h2
        by_cases e : k = n
        · subst e
          exact Bool.eq_false_iff.mpr h2
        · exact ih k (by omega)
theorem fa_first_yes (p : Nat → Bool) : ∀ n, fa_first p n < n → p (fa_first p n) = true
  | 0, h => absurd h (Nat.not_lt_zero _)
  | n + 1, h => by
    have ih := fa_first_yes p n
    have hl := fa_first_le p n
    unfold fa_first at h ⊢
    split at h
    · rename_i h1
      rw [if_pos h1]
      exact ih h1
    · rename_i h1
      rw [if_neg h1]
      split at h
      · rename_i h2
        rw [if_pos h2]
        exact h2
      · omega
/-- how many k < n have p k -/
def fa_cnt (p : Nat → Bool) : Nat → Nat
  | 0 => 0
  | n + 1 => fa_cnt p n + if p n then 1 else 0
theorem fa_cnt_le (p : Nat → Bool) : ∀ n, fa_cnt p n ≤ n
  | 0 => Nat.le_refl 0
  | n + 1 => by
    have ih := fa_cnt_le p n
    unfold fa_cnt
    split
    · omega
    · omega
theorem fa_cnt_yes {p : Nat → Bool} {n : Nat} (h : p n = true) : fa_cnt p (n + 1) = fa_cnt p n + 1 := by rw [fa_cnt, if_pos h]
theorem fa_cnt_no {p : Nat → Bool} {n : Nat} (h : p n = false) : fa_cnt p (n + 1) = fa_cnt p n := by rw [fa_cnt, if_neg (by rw [h]; decide)]; rfl
theorem fa_cnt_cong {p q : Nat → Bool} : ∀ {n : Nat}, (∀ k, k < n → p k = q k) → fa_cnt p n = fa_cnt q n
  | 0, _ => rfl
  | n + 1, h => by rw [fa_cnt, fa_cnt, fa_cnt_cong (fun k hk => h k (Nat.lt_succ_of_lt hk)), h n (Nat.lt_succ_self n)]
/-! ===== an answer carried into a post; a branch on a boolean answer ===== -/
theorem fa_post {α : Type} {P : α → Prop} {x y : α} (h : x = y) (hp : P y) : P x := h ▸ hp
theorem fa_post2 {α β : Type} {P : α → β → Prop} {x y : α} {u v : β} (h : x = y) (h2 : u = v) (hp : P y v) : P x u := h ▸ h2 ▸ hp
theorem fa_bool {r : Int32} {b : Bool} (h : r = if b then 1 else 0) : (r = 0 ↔ b = false) ∧ (¬ r = 0 ↔ b = true) := by
  subst h
  cases b
  · exact ⟨⟨fun _ => rfl, fun _ => rfl⟩, ⟨fun h => absurd rfl h, fun h => absurd h (by decide)⟩⟩
  · exact ⟨⟨fun h => absurd h (by decide), fun h => absurd h (by decide)⟩, ⟨fun _ => rfl, fun _ => by decide⟩⟩
/-- a boolean's narrowing changes nothing -/
theorem fa_bool_and {r : Int32} (h : r = 0 ∨ r = 1) : r &&& 1 = r := by
  rcases h with rfl | rfl
  · decide
  · decide
theorem fa_bool_prop {c : Prop} [Decidable c] {r : Int32} (h : r = if c then 1 else 0) : (r = 0 ↔ ¬ c) ∧ (¬ r = 0 ↔ c) := by
  subst h
  by_cases hc : c
  · rw [if_pos hc]
    exact ⟨⟨fun h => absurd h (by decide), fun h => absurd hc h⟩, ⟨fun _ => hc, fun _ => by decide⟩⟩
  · rw [if_neg hc]
    exact ⟨⟨fun _ => hc, fun _ => rfl⟩, ⟨fun h => absurd rfl h, fun h => absurd h hc⟩⟩
end
section
/-! numbers: what the methods of both sides compute with -/
def bo (b : Bool) : Int32 := if b then 1 else 0
theorem bo_t : bo true = 1 := rfl
theorem bo_f : bo false = 0 := rfl
theorem bo_ne {b : Bool} : (¬ bo b = 0) ↔ b = true := by cases b <;> decide
theorem bo_eq {b : Bool} : bo b = 0 ↔ b = false := by cases b <;> decide
theorem bo_z (b : Bool) : narrow .boolean (.int (bo b)) = .int (bo b) := by cases b <;> rfl
def ad (a b : Nat) : Nat := (a - b) + (b - a)
theorem ad_comm (a b : Nat) : ad a b = ad b a := by unfold ad; omega
theorem nI_abs {a b : Nat} (ha : a < 2 ^ 30) (hb : b < 2 ^ 30) : (if 0 ≤ nI a - nI b then nI a - nI b else -(nI a - nI b)) = nI (ad a b) := by
  have h1 := pk_sub_toInt ha hb
  by_cases h : b ≤ a
  · have : 0 ≤ nI a - nI b := by rw [Int32.le_iff_toInt_le, h1]; simp; omega
    rw [if_pos this, pk_sub h]
    congr 1; unfold ad; omega
  · have : ¬ 0 ≤ nI a - nI b := by rw [Int32.le_iff_toInt_le, h1]; simp; omega
    rw [if_neg this, Int32.neg_sub, pk_sub (by omega)]
    congr 1; unfold ad; omega
theorem i32_of (x : Int32) (n : Nat) (hn : n < 2 ^ 31) (h : 0 ≤ x.toInt ∧ x.toInt < n) : ∃ k, k < n ∧ x = nI k := by
  refine ⟨x.toInt.toNat, by omega, ?_⟩
  apply Int32.toInt_inj.mp
  rw [nI_toInt (by omega)]
  omega
theorem i64_le (x y : Int32) : x.toInt64 ≤ y.toInt64 ↔ x.toInt ≤ y.toInt := by
  rw [Int64.le_iff_toInt_le, Int32.toInt_toInt64, Int32.toInt_toInt64]
theorem i64_lt (x y : Int32) : x.toInt64 < y.toInt64 ↔ x.toInt < y.toInt := by
  rw [Int64.lt_iff_toInt_lt, Int32.toInt_toInt64, Int32.toInt_toInt64]
theorem nI_t {n : Nat} (h : n < 2 ^ 31) : (nI n).toInt = n := nI_toInt h
/-- some p of the first n -/
def bex (p : Nat → Bool) : Nat → Bool
  | 0 => false
  | n + 1 => bex p n || p n
theorem bex_iff {p : Nat → Bool} : ∀ {n : Nat}, bex p n = true ↔ ∃ k, k < n ∧ p k = true
  | 0 => by simp [bex]
  | n + 1 => by
    simp only [bex, Bool.or_eq_true, bex_iff (n := n)]
    constructor
    · rintro (⟨k, h1, h2⟩ | h)
      · exact ⟨k, by omega, h2⟩
      · exact ⟨n, by omega, h⟩
    · rintro ⟨k, h1, h2⟩
      by_cases e : k = n
      · subst e; exact Or.inr h2
      · exact Or.inl ⟨k, by omega, h2⟩
theorem bex_cong {p q : Nat → Bool} : ∀ {n : Nat}, (∀ k, k < n → p k = q k) → bex p n = bex q n
  | 0, _ => rfl
  | n + 1, h => by rw [bex, bex, bex_cong (fun k hk => h k (by omega)), h n (by omega)]
def adj (w c e : Nat) : Bool := decide (ad (c % w) (e % w) + ad (c / w) (e / w) = 1)
/-- a field, a map and a drawing -/
def Wf (w h : Nat) (mp dr : Nat → Nat) : Prop := 2 ≤ w ∧ w ≤ 6 ∧ 2 ≤ h ∧ h ≤ 6 ∧ (∀ c, mp c ≤ 6) ∧ (∀ c, dr c ≤ 6) ∧ (∀ c, w * h ≤ c → mp c = 6) ∧ ∀ c, w * h ≤ c → dr c = 6
theorem wh_le {w h : Nat} (h1 : w ≤ 6) (h2 : h ≤ 6) : w * h ≤ 36 := Nat.mul_le_mul h1 h2
theorem Wf.n {w h : Nat} {mp dr : Nat → Nat} (H : Wf w h mp dr) : w * h ≤ 36 := wh_le H.2.1 H.2.2.2.1
/-- the reference's cells hold it -/
def WM (w h : Nat) (mp dr : Nat → Nat) (M : Mem) : Prop := M.1 29 1 = nI w ∧ M.1 29 2 = nI h ∧ (∀ c, c < 36 → M.1 30 c = nI (mp c)) ∧ ∀ c, c < 36 → M.1 31 c = nI (dr c)
def sl (on : Int32) (mp dr : Nat → Nat) : Nat → Nat := if on = 0 then mp else dr
theorem WM.wh {w h : Nat} {mp dr : Nat → Nat} {M : Mem} (H : WM w h mp dr M) : M.1 29 1 * M.1 29 2 = nI (w * h) := by rw [H.1, H.2.1, pk_mul]
def tch (w n : Nat) (f : Nat → Nat) (c l : Nat) : Bool := bex (fun e => decide (f e = l) && adj w c e) n
def nbr (w n : Nat) (f : Nat → Nat) (a b : Nat) : Bool := bex (fun c => decide (f c = a) && tch w n f c b) n
def many (f : Nat → Nat) (l n : Nat) : Nat := fb_ct (fun c => decide (f c = l)) n
theorem many_le (f : Nat → Nat) (l n : Nat) : many f l n ≤ n := fb_ct_le _ _
theorem in_i (x a b : Int32) : decide (a.toInt64 ≤ x.toInt64 ∧ x.toInt64 ≤ b.toInt64) = decide (a.toInt ≤ x.toInt ∧ x.toInt ≤ b.toInt) := decide_eq_decide.mpr (by rw [i64_le, i64_le])
theorem nI_m1 {n : Nat} (h : 0 < n) : nI n - 1 = nI (n - 1) := by rw [show (1 : Int32) = nI 1 from rfl, pk_sub h]
theorem sl_le {on : Int32} {w h : Nat} {mp dr : Nat → Nat} (H : Wf w h mp dr) (c : Nat) : sl on mp dr c ≤ 6 := by
  unfold sl
  split
  · exact H.2.2.2.2.1 c
  · exact H.2.2.2.2.2.1 c
theorem many_s (f : Nat → Nat) (l c : Nat) (h1 : f c < 2 ^ 31) (h2 : l < 2 ^ 31) : nI (many f l (c + 1)) = nI (many f l c) + (if nI (f c) = nI l then 1 else 0) := by
  unfold many
  rw [fb_ct_succ]
  by_cases e : f c = l
  · rw [if_pos (by simpa using e), if_pos (by rw [e]), nI_1]
  · rw [if_neg (by simpa using e), if_neg (by rw [nI_eq h1 h2]; exact e), Nat.add_zero]
    exact (Int32.add_zero _).symm
theorem bo_or (a b : Bool) : bo (a || b) = if a = true then 1 else bo b := by cases a <;> rfl
theorem PW.lc {X : Cx} {l : Launch} {mt : Mt} {rk pc : Nat} {Q : Option Value → Mem → Prop} {L L' S : List Value} {G : List Shp} {M : Mem} (h : L = L') (k : PW X l mt rk Q pc L' S G M) : PW X l mt rk Q pc L S G M := by rw [h]; exact k
theorem PW.lcs {X : Cx} {l : Launch} {mt : Mt} {rk pc : Nat} {Q : Option Value → Mem → Prop} {L L' S S' : List Value} {G : List Shp} {M : Mem} (h : L = L') (h2 : S = S') (k : PW X l mt rk Q pc L' S' G M) : PW X l mt rk Q pc L S G M := by rw [h, h2]; exact k
end
section
-- made by wip/whole/mk_m1.py
section M1
variable {X : Cx} {l : Launch} {M : Mem}
theorem m_in (a b c : Int64) : PF X l mX8_in 0 [.long a, .long b, .long c] G0 M (.int (bo (decide (b ≤ a ∧ a ≤ c)))) := by
  refine PF.ofW okX8_in ?_
  refine PW.zlt rfl trivial (fun h3 => ?_) (fun h3 => ?_)
  · skip
    have h3 := (lg_cmp_lt _ _).mp h3
    have h4 : ¬ b ≤ a := Int64.not_le.mpr h3
    refine PW.zret rfl rfl trivial (rfl) ?_
    exact ⟨by simp [bo, *], rfl⟩
  · skip
    have h4 : b ≤ a := Int64.not_lt.mp (fun q => h3 ((lg_cmp_lt _ _).mpr q))
    refine PW.zgt rfl trivial (fun h10 => ?_) (fun h10 => ?_)
    · skip
      have h5 := (lg_cmp_gt _ _).mp h10
      have h5 : ¬ a ≤ c := Int64.not_le.mpr h5
      refine PW.zret rfl rfl trivial (rfl) ?_
      exact ⟨by simp [bo, *], rfl⟩
    · skip
      have h5 : a ≤ c := Int64.not_lt.mp (fun q => h10 ((lg_cmp_gt _ _).mpr q))
      refine PW.goto rfl trivial ?_
      refine PW.zret rfl rfl trivial (rfl) ?_
      exact ⟨by simp [bo, *], rfl⟩
theorem m_size (x : Int32) : PF X l mX8_size 0 [.int x] G0 M (.int (if 0 ≤ x then x else -x)) := by
  refine PF.ofW okX8_size ?_
  refine PW.zge rfl trivial (fun h1 => ?_) (fun h1 => ?_)
  · skip
    refine PW.iret rfl rfl trivial ?_
    exact ⟨by simp [*], rfl⟩
  · skip
    refine PW.goto rfl trivial ?_
    refine PW.iret rfl rfl trivial ?_
    exact ⟨by simp [*], rfl⟩
theorem m_noCell (c : Int32) {w h : Nat} {mp dr : Nat → Nat} (Hf : Wf w h mp dr) (H : WM w h mp dr M) : PF X l mX8_noCell 1 [.ref 29, .int c] G0 M (.int (bo (!decide (0 ≤ c.toInt ∧ c.toInt < ((w * h : Nat) : Int))))) := by
  refine PF.ofW okX8_noCell ?_
  refine PW.funS rfl trivial sX8_81 rfl (by decide) rfl (m_in _ _ _) ?_
  refine PW.zne rfl trivial (fun h18 => ?_) (fun h18 => ?_)
  · skip
    refine PW.zret rfl rfl trivial (rfl) ?_
    have e : decide ((0 : Int64) ≤ c.toInt64 ∧ c.toInt64 ≤ (M.1 29 1 * M.1 29 2 - 1).toInt64) = decide (0 ≤ c.toInt ∧ c.toInt < ((w * h : Nat) : Int)) := by
      have hn := Hf.n
      have hp : 4 ≤ w * h := Nat.mul_le_mul Hf.1 Hf.2.2.1
      rw [H.wh, nI_m1 (by omega)]
      refine (in_i c 0 (nI (w * h - 1))).trans (decide_eq_decide.mpr ?_)
      rw [nI_t (by omega), Int32.toInt_zero]
      omega
    rw [e] at h18
    cases hd : decide (0 ≤ c.toInt ∧ c.toInt < ((w * h : Nat) : Int)) <;> rw [hd] at h18
    all_goals first | exact ⟨rfl, rfl⟩ | exact absurd h18 (by decide) | exact absurd rfl h18
  · skip
    refine PW.goto rfl trivial ?_
    refine PW.zret rfl rfl trivial (rfl) ?_
    have e : decide ((0 : Int64) ≤ c.toInt64 ∧ c.toInt64 ≤ (M.1 29 1 * M.1 29 2 - 1).toInt64) = decide (0 ≤ c.toInt ∧ c.toInt < ((w * h : Nat) : Int)) := by
      have hn := Hf.n
      have hp : 4 ≤ w * h := Nat.mul_le_mul Hf.1 Hf.2.2.1
      rw [H.wh, nI_m1 (by omega)]
      refine (in_i c 0 (nI (w * h - 1))).trans (decide_eq_decide.mpr ?_)
      rw [nI_t (by omega), Int32.toInt_zero]
      omega
    rw [e] at h18
    cases hd : decide (0 ≤ c.toInt ∧ c.toInt < ((w * h : Nat) : Int)) <;> rw [hd] at h18
    all_goals first | exact ⟨rfl, rfl⟩ | exact absurd h18 (by decide) | exact absurd rfl h18
theorem m_noLand (c : Int32) : PF X l mX8_noLand 1 [.int c] G0 M (.int (bo (!decide (0 ≤ c.toInt ∧ c.toInt ≤ 5)))) := by
  refine PF.ofW okX8_noLand ?_
  refine PW.funS rfl trivial sX8_81 rfl (by decide) rfl (m_in _ _ _) ?_
  refine PW.zne rfl trivial (fun h9 => ?_) (fun h9 => ?_)
  · skip
    refine PW.zret rfl rfl trivial (rfl) ?_
    have e : decide ((0 : Int64) ≤ c.toInt64 ∧ c.toInt64 ≤ (5 : Int64)) = decide (0 ≤ c.toInt ∧ c.toInt ≤ 5) := in_i c 0 5
    rw [e] at h9
    cases hd : decide (0 ≤ c.toInt ∧ c.toInt ≤ 5) <;> rw [hd] at h9
    all_goals first | exact ⟨rfl, rfl⟩ | exact absurd h9 (by decide) | exact absurd rfl h9
  · skip
    refine PW.goto rfl trivial ?_
    refine PW.zret rfl rfl trivial (rfl) ?_
    have e : decide ((0 : Int64) ≤ c.toInt64 ∧ c.toInt64 ≤ (5 : Int64)) = decide (0 ≤ c.toInt ∧ c.toInt ≤ 5) := in_i c 0 5
    rw [e] at h9
    cases hd : decide (0 ≤ c.toInt ∧ c.toInt ≤ 5) <;> rw [hd] at h9
    all_goals first | exact ⟨rfl, rfl⟩ | exact absurd h9 (by decide) | exact absurd rfl h9
theorem m_noSide (c : Int32) : PF X l mX8_noSide 1 [.int c] G0 M (.int (bo (!decide (0 ≤ c.toInt ∧ c.toInt ≤ 2)))) := by
  refine PF.ofW okX8_noSide ?_
  refine PW.funS rfl trivial sX8_81 rfl (by decide) rfl (m_in _ _ _) ?_
  refine PW.zne rfl trivial (fun h9 => ?_) (fun h9 => ?_)
  · skip
    refine PW.zret rfl rfl trivial (rfl) ?_
    have e : decide ((0 : Int64) ≤ c.toInt64 ∧ c.toInt64 ≤ (2 : Int64)) = decide (0 ≤ c.toInt ∧ c.toInt ≤ 2) := in_i c 0 2
    rw [e] at h9
    cases hd : decide (0 ≤ c.toInt ∧ c.toInt ≤ 2) <;> rw [hd] at h9
    all_goals first | exact ⟨rfl, rfl⟩ | exact absurd h9 (by decide) | exact absurd rfl h9
  · skip
    refine PW.goto rfl trivial ?_
    refine PW.zret rfl rfl trivial (rfl) ?_
    have e : decide ((0 : Int64) ≤ c.toInt64 ∧ c.toInt64 ≤ (2 : Int64)) = decide (0 ≤ c.toInt ∧ c.toInt ≤ 2) := in_i c 0 2
    rw [e] at h9
    cases hd : decide (0 ≤ c.toInt ∧ c.toInt ≤ 2) <;> rw [hd] at h9
    all_goals first | exact ⟨rfl, rfl⟩ | exact absurd h9 (by decide) | exact absurd rfl h9
theorem m_cellOf (on : Int32) (c : Nat) (hc : c < 36) {w h : Nat} {mp dr : Nat → Nat} (H : WM w h mp dr M) : PF X l mX8_cellOf 0 [.ref 29, .int on, .int (nI c)] G0 M (.int (nI (sl on mp dr c))) := by
  refine PF.ofW okX8_cellOf ?_
  refine PW.zeq rfl trivial (fun h1 => ?_) (fun h1 => ?_)
  · skip
    refine PW.iret rfl rfl ⟨trivial, vp_in_nI hc (by decide)⟩ ?_
    exact ⟨by simp only [sl, h1]; rw [nI_clamp (by omega)]; first | rw [H.2.2.1 c hc]; rfl | rw [H.2.2.2 c hc]; rfl, rfl⟩
  · skip
    refine PW.goto rfl ⟨trivial, vp_in_nI hc (by decide)⟩ ?_
    refine PW.iret rfl rfl trivial ?_
    exact ⟨by simp only [sl, h1]; rw [nI_clamp (by omega)]; first | rw [H.2.2.1 c hc]; rfl | rw [H.2.2.2 c hc]; rfl, rfl⟩
theorem m_manyOf (on : Int32) (lv : Nat) (hlv : lv < 2 ^ 31) {w h : Nat} {mp dr : Nat → Nat} (Hf : Wf w h mp dr) (H : WM w h mp dr M) : PF X l mX8_manyOf 1 [.ref 29, .int on, .int (nI lv)] G0 M (.int (nI (many (sl on mp dr) lv (w * h)))) := by
  refine PF.ofW okX8_manyOf ?_
  have loop5 : ∀ k : Nat, ∀ (c : Nat), c ≤ w * h → w * h - c < k → PW X l mX8_manyOf 1 (fun v M' => v = some (.int (nI (many (sl on mp dr) lv (w * h)))) ∧ M' = M) 5 [.ref 29, .int on, .int (nI lv), .int (nI (many (sl on mp dr) lv c)), .int (nI c)] [] G0 M := by
    intro k
    induction k with
    | zero => intro c hc hk; exact absurd hk (Nat.not_lt_zero _)
    | succ k ih =>
      intro c hc hk
      have hn := Hf.n
      refine PW.ige rfl trivial (fun h16 => ?_) (fun h16 => ?_)
      · skip
        rw [H.wh, nI_leI (by omega) (by omega)] at h16
        have e : c = w * h := by omega
        subst e
        refine PW.iret rfl rfl trivial ?_
        exact ⟨rfl, rfl⟩
      · skip
        rw [H.wh, nI_leI (by omega) (by omega)] at h16
        refine PW.funV rfl trivial sX8_95 rfl rfl (by decide) rfl (m_cellOf on c (by omega) H) ?_
        refine PW.ine rfl trivial (fun h28 => ?_) (fun h28 => ?_)
        · skip
          refine PW.goto rfl trivial ?_
          have e := many_s (sl on mp dr) lv c (by have := sl_le (on := on) Hf c; omega) hlv
          first | rw [if_pos h28] at e | rw [if_neg h28] at e
          rw [← e, nI_1]
          exact ih (c + 1) (by omega) (by omega)
        · skip
          refine PW.goto rfl trivial ?_
          refine PW.goto rfl trivial ?_
          have e := many_s (sl on mp dr) lv c (by have := sl_le (on := on) Hf c; omega) hlv
          first | rw [if_pos h28] at e | rw [if_neg h28] at e
          rw [← e, nI_1]
          exact ih (c + 1) (by omega) (by omega)
  refine PW.to 5 rfl trivial ?_
  exact loop5 (w * h + 1) 0 (Nat.zero_le _) (by omega)
theorem m_isThere (lv : Nat) (hlv : lv < 2 ^ 31) {w h : Nat} {mp dr : Nat → Nat} (Hf : Wf w h mp dr) (H : WM w h mp dr M) : PF X l mX8_isThere 2 [.ref 29, .int (nI lv)] G0 M (.int (bo (decide (0 < many mp lv (w * h))))) := by
  refine PF.ofW okX8_isThere ?_
  refine PW.funV rfl trivial sX8_106 rfl rfl (by decide) rfl (m_manyOf 0 lv hlv Hf H) ?_
  refine PW.zle rfl trivial (fun h6 => ?_) (fun h6 => ?_)
  · skip
    refine PW.zret rfl rfl trivial (rfl) ?_
    have hm := many_le mp lv (w * h)
    have hn := Hf.n
    rw [show sl 0 mp dr = mp from rfl, show (0 : Int32) = nI 0 from rfl, nI_leI (by omega) (by omega)] at h6
    refine ⟨?_, rfl⟩
    first | (have h7 : 0 < many mp lv (w * h) := by omega); simp [bo, h7] | (have h7 : many mp lv (w * h) = 0 := by omega); simp [bo, h7]
  · skip
    refine PW.goto rfl trivial ?_
    refine PW.zret rfl rfl trivial (rfl) ?_
    have hm := many_le mp lv (w * h)
    have hn := Hf.n
    rw [show sl 0 mp dr = mp from rfl, show (0 : Int32) = nI 0 from rfl, nI_leI (by omega) (by omega)] at h6
    refine ⟨?_, rfl⟩
    first | (have h7 : 0 < many mp lv (w * h) := by omega); simp [bo, h7] | (have h7 : many mp lv (w * h) = 0 := by omega); simp [bo, h7]
theorem st_num {w a b : Nat} (h1 : 2 ≤ w) (h2 : w ≤ 6) (ha : a < 36) (hb : b < 36) : (if 0 ≤ (nI a - nI a / nI w * nI w) - (nI b - nI b / nI w * nI w) then (nI a - nI a / nI w * nI w) - (nI b - nI b / nI w * nI w) else -((nI a - nI a / nI w * nI w) - (nI b - nI b / nI w * nI w))) + (if 0 ≤ nI a / nI w - nI b / nI w then nI a / nI w - nI b / nI w else -(nI a / nI w - nI b / nI w)) = nI (ad (a % w) (b % w) + ad (a / w) (b / w)) := by
  have q1 := Nat.mod_lt a (show 0 < w by omega)
  have q2 := Nat.mod_lt b (show 0 < w by omega)
  have q3 := Nat.div_le_self a w
  have q4 := Nat.div_le_self b w
  rw [pk_rem (by omega) (by omega) (by omega), pk_rem (by omega) (by omega) (by omega), pk_div (by omega) (by omega) (by omega), pk_div (by omega) (by omega) (by omega), nI_abs (by omega) (by omega), nI_abs (by omega) (by omega), nI_add]
theorem ad_lt {a b n : Nat} (ha : a < n) (hb : b < n) : ad a b < n := by unfold ad; omega
theorem m_steps (a b : Nat) (ha : a < 36) (hb : b < 36) {w h : Nat} {mp dr : Nat → Nat} (Hf : Wf w h mp dr) (H : WM w h mp dr M) : PF X l mX8_steps 1 [.ref 29, .int (nI a), .int (nI b)] G0 M (.int (nI (ad (a % w) (b % w) + ad (a / w) (b / w)))) := by
  refine PF.ofW okX8_steps ?_
  refine PW.funS rfl ⟨⟨trivial, (by rw [H.1]; exact nI_ne0 (by have := Hf.1; omega) (by have := Hf.2.1; omega))⟩, (by rw [H.1]; exact nI_ne0 (by have := Hf.1; omega) (by have := Hf.2.1; omega))⟩ sX8_117 rfl (by decide) rfl (m_size _) ?_
  refine PW.funS rfl ⟨⟨trivial, (by rw [H.1]; exact nI_ne0 (by have := Hf.1; omega) (by have := Hf.2.1; omega))⟩, (by rw [H.1]; exact nI_ne0 (by have := Hf.1; omega) (by have := Hf.2.1; omega))⟩ sX8_117 rfl (by decide) rfl (m_size _) ?_
  refine PW.iret rfl rfl trivial ?_
  refine ⟨?_, rfl⟩
  simp only [H.1]
  rw [st_num Hf.1 Hf.2.1 ha hb]
theorem m_isBeside (a b : Nat) (ha : a < 36) (hb : b < 36) {w h : Nat} {mp dr : Nat → Nat} (Hf : Wf w h mp dr) (H : WM w h mp dr M) : PF X l mX8_isBeside 1 [.ref 29, .int (nI a), .int (nI b)] G0 M (.int (bo (adj w a b))) := by
  refine PF.ofW okX8_isBeside ?_
  refine PW.funS rfl ⟨⟨trivial, (by rw [H.1]; exact nI_ne0 (by have := Hf.1; omega) (by have := Hf.2.1; omega))⟩, (by rw [H.1]; exact nI_ne0 (by have := Hf.1; omega) (by have := Hf.2.1; omega))⟩ sX8_117 rfl (by decide) rfl (m_size _) ?_
  refine PW.funS rfl ⟨⟨trivial, (by rw [H.1]; exact nI_ne0 (by have := Hf.1; omega) (by have := Hf.2.1; omega))⟩, (by rw [H.1]; exact nI_ne0 (by have := Hf.1; omega) (by have := Hf.2.1; omega))⟩ sX8_117 rfl (by decide) rfl (m_size _) ?_
  refine PW.ine rfl trivial (fun h34 => ?_) (fun h34 => ?_)
  · skip
    refine PW.zret rfl rfl trivial (rfl) ?_
    simp only [H.1] at h34
    rw [st_num Hf.1 Hf.2.1 ha hb, show (1 : Int32) = nI 1 from rfl, nI_eq (by have := ad_lt (Nat.mod_lt a (show 0 < w by have := Hf.1; omega)) (Nat.mod_lt b (show 0 < w by have := Hf.1; omega)); have := Hf.2.1; have := ad_lt (n := 36) (Nat.lt_of_le_of_lt (Nat.div_le_self a w) ha) (Nat.lt_of_le_of_lt (Nat.div_le_self b w) hb); omega) (by omega)] at h34
    exact ⟨by unfold adj bo; first | rw [if_pos (by simpa using h34)] | rw [if_neg (by simpa using h34)], rfl⟩
  · skip
    refine PW.goto rfl trivial ?_
    refine PW.zret rfl rfl trivial (rfl) ?_
    simp only [H.1] at h34
    rw [st_num Hf.1 Hf.2.1 ha hb, show (1 : Int32) = nI 1 from rfl, nI_eq (by have := ad_lt (Nat.mod_lt a (show 0 < w by have := Hf.1; omega)) (Nat.mod_lt b (show 0 < w by have := Hf.1; omega)); have := Hf.2.1; have := ad_lt (n := 36) (Nat.lt_of_le_of_lt (Nat.div_le_self a w) ha) (Nat.lt_of_le_of_lt (Nat.div_le_self b w) hb); omega) (by omega)] at h34
    exact ⟨by unfold adj bo; first | rw [if_pos (by simpa using h34)] | rw [if_neg (by simpa using h34)], rfl⟩
theorem m_touches (on : Int32) (d lv : Nat) (hd : d < 36) (hlv : lv < 2 ^ 31) {w h : Nat} {mp dr : Nat → Nat} (Hf : Wf w h mp dr) (H : WM w h mp dr M) : PF X l mX8_touches 2 [.ref 29, .int on, .int (nI d), .int (nI lv)] G0 M (.int (bo (tch w (w * h) (sl on mp dr) d lv))) := by
  refine PF.ofW okX8_touches ?_
  have loop6 : ∀ k : Nat, ∀ (c : Nat), c ≤ w * h → w * h - c < k → PW X l mX8_touches 2 (fun v M' => v = some (.int (bo (tch w (w * h) (sl on mp dr) d lv))) ∧ M' = M) 6 [.ref 29, .int on, .int (nI d), .int (nI lv), .int (bo (bex (fun e => decide (sl on mp dr e = lv) && adj w d e) c)), .int (nI c)] [] G0 M := by
    intro k
    induction k with
    | zero => intro c hc hk; exact absurd hk (Nat.not_lt_zero _)
    | succ k ih =>
      intro c hc hk
      have hn := Hf.n
      refine PW.ige rfl trivial (fun h17 => ?_) (fun h17 => ?_)
      · skip
        rw [H.wh, nI_leI (by omega) (by omega)] at h17
        have e : c = w * h := by omega
        subst e
        refine PW.zret rfl rfl trivial (bo_z _) ?_
        exact ⟨rfl, rfl⟩
      · skip
        rw [H.wh, nI_leI (by omega) (by omega)] at h17
        refine PW.zne rfl trivial (fun h22 => ?_) (fun h22 => ?_)
        · skip
          rw [bo_ne] at h22
          refine PW.goto rfl trivial ?_
          refine PW.goto rfl trivial ?_
          refine PW.lc ?_ (ih (c + 1) (by omega) (by omega))
          first | simp [bex, nI_succ, bo, h22, h33, h43] | simp [bex, nI_succ, bo, h22, h33] | simp [bex, nI_succ, bo, h22]
        · skip
          rw [bo_eq] at h22
          refine PW.funV rfl trivial sX8_95 rfl rfl (by decide) rfl (m_cellOf on c (by omega) H) ?_
          refine PW.ine rfl trivial (fun h33 => ?_) (fun h33 => ?_)
          · skip
            rw [nI_eq (by have := sl_le (on := on) Hf c; omega) (by omega)] at h33
            refine PW.goto rfl trivial ?_
            refine PW.lc ?_ (ih (c + 1) (by omega) (by omega))
            first | simp [bex, nI_succ, bo, h22, h33, h43] | simp [bex, nI_succ, bo, h22, h33] | simp [bex, nI_succ, bo, h22]
          · skip
            rw [nI_eq (by have := sl_le (on := on) Hf c; omega) (by omega)] at h33
            refine PW.funV rfl trivial sX8_121 rfl rfl (by decide) rfl (m_isBeside d c hd (by omega) Hf H) ?_
            refine PW.zeq rfl trivial (fun h43 => ?_) (fun h43 => ?_)
            · skip
              rw [bo_eq] at h43
              refine PW.goto rfl trivial ?_
              refine PW.lc ?_ (ih (c + 1) (by omega) (by omega))
              first | simp [bex, nI_succ, bo, h22, h33, h43] | simp [bex, nI_succ, bo, h22, h33] | simp [bex, nI_succ, bo, h22]
            · skip
              rw [bo_ne] at h43
              refine PW.goto rfl trivial ?_
              refine PW.goto rfl trivial ?_
              refine PW.lc ?_ (ih (c + 1) (by omega) (by omega))
              first | simp [bex, nI_succ, bo, h22, h33, h43] | simp [bex, nI_succ, bo, h22, h33] | simp [bex, nI_succ, bo, h22]
  refine PW.to 6 rfl trivial ?_
  exact loop6 (w * h + 1) 0 (Nat.zero_le _) (by omega)
theorem m_areBeside (on : Int32) (a b : Nat) (ha : a < 2 ^ 31) (hb : b < 2 ^ 31) {w h : Nat} {mp dr : Nat → Nat} (Hf : Wf w h mp dr) (H : WM w h mp dr M) : PF X l mX8_areBeside 3 [.ref 29, .int on, .int (nI a), .int (nI b)] G0 M (.int (bo (nbr w (w * h) (sl on mp dr) a b))) := by
  refine PF.ofW okX8_areBeside ?_
  have loop6 : ∀ k : Nat, ∀ (c : Nat), c ≤ w * h → w * h - c < k → PW X l mX8_areBeside 3 (fun v M' => v = some (.int (bo (nbr w (w * h) (sl on mp dr) a b))) ∧ M' = M) 6 [.ref 29, .int on, .int (nI a), .int (nI b), .int (bo (bex (fun c => decide (sl on mp dr c = a) && tch w (w * h) (sl on mp dr) c b) c)), .int (nI c)] [] G0 M := by
    intro k
    induction k with
    | zero => intro c hc hk; exact absurd hk (Nat.not_lt_zero _)
    | succ k ih =>
      intro c hc hk
      have hn := Hf.n
      refine PW.ige rfl trivial (fun h17 => ?_) (fun h17 => ?_)
      · skip
        rw [H.wh, nI_leI (by omega) (by omega)] at h17
        have e : c = w * h := by omega
        subst e
        refine PW.zret rfl rfl trivial (bo_z _) ?_
        exact ⟨rfl, rfl⟩
      · skip
        rw [H.wh, nI_leI (by omega) (by omega)] at h17
        refine PW.zne rfl trivial (fun h22 => ?_) (fun h22 => ?_)
        · skip
          rw [bo_ne] at h22
          refine PW.goto rfl trivial ?_
          refine PW.goto rfl trivial ?_
          refine PW.lc ?_ (ih (c + 1) (by omega) (by omega))
          first | simp [bex, nI_succ, bo, h22, h33, h44] | simp [bex, nI_succ, bo, h22, h33] | simp [bex, nI_succ, bo, h22]
        · skip
          rw [bo_eq] at h22
          refine PW.funV rfl trivial sX8_95 rfl rfl (by decide) rfl (m_cellOf on c (by omega) H) ?_
          refine PW.ine rfl trivial (fun h33 => ?_) (fun h33 => ?_)
          · skip
            rw [nI_eq (by have := sl_le (on := on) Hf c; omega) (by omega)] at h33
            refine PW.goto rfl trivial ?_
            refine PW.lc ?_ (ih (c + 1) (by omega) (by omega))
            first | simp [bex, nI_succ, bo, h22, h33, h44] | simp [bex, nI_succ, bo, h22, h33] | simp [bex, nI_succ, bo, h22]
          · skip
            rw [nI_eq (by have := sl_le (on := on) Hf c; omega) (by omega)] at h33
            refine PW.funV rfl trivial sX8_128 rfl rfl (by decide) rfl (m_touches on c b (by omega) hb Hf H) ?_
            refine PW.zeq rfl trivial (fun h44 => ?_) (fun h44 => ?_)
            · skip
              rw [bo_eq] at h44
              refine PW.goto rfl trivial ?_
              refine PW.lc ?_ (ih (c + 1) (by omega) (by omega))
              first | simp [bex, nI_succ, bo, h22, h33, h44] | simp [bex, nI_succ, bo, h22, h33] | simp [bex, nI_succ, bo, h22]
            · skip
              rw [bo_ne] at h44
              refine PW.goto rfl trivial ?_
              refine PW.goto rfl trivial ?_
              refine PW.lc ?_ (ih (c + 1) (by omega) (by omega))
              first | simp [bex, nI_succ, bo, h22, h33, h44] | simp [bex, nI_succ, bo, h22, h33] | simp [bex, nI_succ, bo, h22]
  refine PW.to 6 rfl trivial ?_
  exact loop6 (w * h + 1) 0 (Nat.zero_le _) (by omega)
end M1
end
section
/-! what both sides compute: the dues -/
section Nl
def am_ns (L : List Value) : List Nat → List Value
  | [] => L
  | k :: ks => am_ns (am_s L k .null) ks
theorem am_L.nl {X : Cx} {n : Nat} {ls : Array Slot} : ∀ (ks : List Nat) {L : List Value}, am_L X n L ls → am_L X n (am_ns L ks) ls
  | [], _, h => h
  | k :: ks, L, h => by
    refine am_L.nl ks ⟨by rw [am_s_len]; exact h.1, h.2.1, h.2.2.1, fun j hj => ?_⟩
    rw [am_s_get] at hj ⊢
    by_cases e : j = k ∧ k < L.length
    · rw [if_pos e] at hj; exact absurd rfl hj
    · rw [if_neg e] at hj ⊢; exact h.2.2.2 j hj
/-- locals that are not needed any more are forgotten -/
theorem PW.nl {X : Cx} {l : Launch} {mt : Mt} {rk pc : Nat} {Q : Option Value → Mem → Prop} {L S : List Value} {G : List Shp} {M : Mem} (ks : List Nat) (k : PW X l mt rk Q pc (am_ns L ks) S G M) : PW X l mt rk Q pc L S G M :=
  fun hok p e s m args below meth c H locs ls hC hH hL => k hok p e s m args below meth c H locs ls hC hH (hL.nl ks)
end Nl
/-- only ints of the cells of A may have changed -/
def FI (A : List Nat) (M M2 : Mem) : Prop := (∀ a, a ∉ A → M2.1 a = M.1 a) ∧ M2.2 = M.2
theorem FI.rf {A : List Nat} {M : Mem} : FI A M M := ⟨fun _ _ => rfl, rfl⟩
theorem FI.tr {A : List Nat} {M M2 M3 : Mem} (h1 : FI A M M2) (h2 : FI A M2 M3) : FI A M M3 := ⟨fun a h => (h2.1 a h).trans (h1.1 a h), h2.2.trans h1.2⟩
theorem FI.mono {A B : List Nat} {M M2 : Mem} (h1 : FI A M M2) (h : ∀ a, a ∈ A → a ∈ B) : FI B M M2 := ⟨fun a ha => h1.1 a (fun q => ha (h a q)), h1.2⟩
theorem FI.put {A : List Nat} {M M2 : Mem} {a : Nat} {f : Nat → Int32} (h : FI A M M2) (ha : a ∈ A) : FI A M (va_up M2.1 a f, M2.2) := ⟨fun b hb => by
  have : b ≠ a := fun e => hb (e ▸ ha)
  simp [va_up, this, h.1 b hb], h.2⟩
theorem FI.at {A : List Nat} {M M2 : Mem} (h : FI A M M2) (a : Nat) (ha : a ∉ A := by decide) : M2.1 a = M.1 a := h.1 a ha
theorem WM.fi {w h : Nat} {mp dr : Nat → Nat} {A : List Nat} {M M2 : Mem} (H : WM w h mp dr M) (h1 : FI A M M2) (h2 : 29 ∉ A ∧ 30 ∉ A ∧ 31 ∉ A := by decide) : WM w h mp dr M2 := ⟨by rw [h1.1 29 h2.1]; exact H.1, by rw [h1.1 29 h2.1]; exact H.2.1, fun c hc => by rw [h1.1 30 h2.2.1]; exact H.2.2.1 c hc, fun c hc => by rw [h1.1 31 h2.2.2]; exact H.2.2.2 c hc⟩
theorem up_same {f : Nat → Nat → Int32} {a j : Nat} {x : Int32} : va_up f a (upd (f a) j x) a j = x := by simp [va_up, upd]
theorem up_ne {f : Nat → Nat → Int32} {a j i : Nat} {x : Int32} (h : i ≠ j) : va_up f a (upd (f a) j x) a i = f a i := by simp [va_up, upd, h]
/-- heads and the way -/
def HM (hd : Nat → Nat) (wy : Nat) (M : Mem) : Prop := M.1 29 6 = nI wy ∧ ∀ k, k < 6 → M.1 32 k = nI (hd k)
def Hf (hd : Nat → Nat) (wy : Nat) : Prop := wy ≤ 2 ∧ ∀ k, hd k ≤ 999
theorem HM.fi {hd : Nat → Nat} {wy : Nat} {A : List Nat} {M M2 : Mem} (H : HM hd wy M) (h1 : FI A M M2) (h2 : 29 ∉ A ∧ 32 ∉ A := by decide) : HM hd wy M2 := ⟨by rw [h1.1 29 h2.1]; exact H.1, fun k hk => by rw [h1.1 32 h2.2]; exact H.2 k hk⟩
/-- the first of the n first that is ok and that none of them goes ahead of -/
def pg (gt : Nat → Nat → Bool) (ok : Nat → Bool) : Nat → Option Nat
  | 0 => none
  | n + 1 => match pg gt ok n with
    | none => if ok n then some n else none
    | some b => if ok n && gt n b then some n else some b
theorem pg_lt {gt : Nat → Nat → Bool} {ok : Nat → Bool} : ∀ {n b : Nat}, pg gt ok n = some b → b < n ∧ ok b = true
  | 0, _, h => by cases h
  | n + 1, b, h => by
    simp only [pg] at h
    cases e : pg gt ok n with
    | none =>
      rw [e] at h
      dsimp only at h
      split at h
      · cases h; exact ⟨by omega, by assumption⟩
      · cases h
    | some c =>
      rw [e] at h
      dsimp only at h
      have h1 := pg_lt e
      split at h
      · rename_i h2
        cases h
        simp only [Bool.and_eq_true] at h2
        exact ⟨by omega, h2.1⟩
      · cases h; exact ⟨by omega, h1.2⟩
theorem pg_none {gt : Nat → Nat → Bool} {ok : Nat → Bool} : ∀ {n : Nat}, pg gt ok n = none → ∀ k, k < n → ok k = false
  | 0, _, k, hk => absurd hk (Nat.not_lt_zero k)
  | n + 1, h, k, hk => by
    simp only [pg] at h
    cases e : pg gt ok n with
    | none =>
      rw [e] at h
      dsimp only at h
      split at h
      · cases h
      · rename_i h2
        rcases Nat.lt_or_ge k n with q | q
        · exact pg_none e k q
        · rw [show k = n by omega]; simpa using h2
    | some c =>
      rw [e] at h
      dsimp only at h
      split at h <;> cases h
def ob (o : Option Nat) : Int32 := match o with
  | none => -9
  | some b => nI b
/-- by rests: who has got one more, as a set of bits -/
def shm (r : Nat → Nat) : Nat → Nat
  | 0 => 0
  | k + 1 => match pg (fun a b => decide (r b < r a)) (fun l => !(shm r k).testBit l) 6 with
    | none => shm r k
    | some b => shm r k ||| 2 ^ b
/-- by divisors -/
def shd (hd : Nat → Nat) (wy : Nat) : Nat → Nat → Nat
  | 0 => fun _ => 0
  | k + 1 => match pg (fun a b => decide (hd b * (wy * shd hd wy k a + 1) < hd a * (wy * shd hd wy k b + 1))) (fun _ => true) 6 with
    | none => shd hd wy k
    | some b => fun l => if l = b then shd hd wy k l + 1 else shd hd wy k l
def left0 (hd : Nat → Nat) (n : Nat) : Nat := n - fb_sm (fun l => hd l * n / fb_sm hd 6) 6
def due (hd : Nat → Nat) (wy n : Nat) (l : Nat) : Nat :=
  if fb_sm hd 6 = 0 then 0 else if wy = 0 then hd l * n / fb_sm hd 6 + (if (shm (fun l => hd l * n % fb_sm hd 6) (left0 hd n)).testBit l then 1 else 0) else shd hd wy n l
theorem tb_get : ∀ m, m < 64 → ∀ l, l < 6 → (nI m >>> (nI l &&& 31)) &&& 1 = bo (m.testBit l) := by decide +kernel
theorem tb_set : ∀ m, m < 64 → ∀ b, b < 6 → nI m ||| ((1 : Int32) <<< (nI b &&& 31)) = nI (m ||| 2 ^ b) ∧ m ||| 2 ^ b < 64 := by decide +kernel
theorem or_lt64 {m b : Nat} (h : m < 64) (hb : b < 6) : m ||| 2 ^ b < 64 := (tb_set m h b hb).2
theorem shm_lt (r : Nat → Nat) : ∀ k, shm r k < 64
  | 0 => show 0 < 64 by decide
  | k + 1 => by
    have ih := shm_lt r k
    simp only [shm]
    split
    · exact ih
    · rename_i b e
      exact or_lt64 ih (pg_lt e).1
/-- how many have got one more -/
theorem shm_ct (r : Nat → Nat) : ∀ k, fb_ct (fun l => (shm r k).testBit l) 6 ≤ k
  | 0 => show fb_ct (fun l => (0 : Nat).testBit l) 6 ≤ 0 by decide
  | k + 1 => by
    have ih := shm_ct r k
    simp only [shm]
    split
    · omega
    · rename_i b e
      have hb := pg_lt e
      have h1 : fb_ct (fun l => (shm r k ||| 2 ^ b).testBit l) 6 = fb_ct (fun l => if l = b then true else (shm r k).testBit l) 6 := fb_ct_cong (fun l _ => by rw [fb_bit_set]; by_cases q : l = b <;> simp [q])
      have h2 : fb_ct (fun l => if l = b then true else (shm r k).testBit l) 6 + (if (shm r k).testBit b = true then 1 else 0) = fb_ct (fun l => (shm r k).testBit l) 6 + (if true = true then 1 else 0) := fb_ct_upd (fun l => (shm r k).testBit l) true hb.1
      rw [h1]
      have h3 : (shm r k).testBit b = false := by simpa using hb.2
      rw [h3] at h2
      simp only [if_true, Bool.false_eq_true, if_false] at h2
      omega
theorem shm_some (r : Nat → Nat) {k : Nat} (hk : k < 6) : ∃ b, pg (fun a b => decide (r b < r a)) (fun l => !(shm r k).testBit l) 6 = some b := by
  cases e : pg (fun a b => decide (r b < r a)) (fun l => !(shm r k).testBit l) 6 with
  | some b => exact ⟨b, rfl⟩
  | none =>
    exfalso
    have h := pg_none e
    have h2 : fb_ct (fun l => (shm r k).testBit l) 6 = 6 := fb_ct_all.mpr (fun k hk => by simpa using h k hk)
    have := shm_ct r k
    omega
theorem pg_all {gt : Nat → Nat → Bool} : ∃ b, pg gt (fun _ => true) 6 = some b := by
  cases e : pg gt (fun _ => true) 6 with
  | some b => exact ⟨b, rfl⟩
  | none => exact absurd (pg_none e 0 (by omega)) (by simp)
theorem shd_ct (hd : Nat → Nat) (wy : Nat) : ∀ k, fb_sm (shd hd wy k) 6 = k
  | 0 => by rfl
  | k + 1 => by
    have ih := shd_ct hd wy k
    simp only [shd]
    obtain ⟨b, e⟩ := pg_all (gt := fun a b => decide (hd b * (wy * shd hd wy k a + 1) < hd a * (wy * shd hd wy k b + 1)))
    rw [e]
    dsimp only
    have hb := (pg_lt e).1
    have h1 : fb_sm (fun l => if l = b then shd hd wy k l + 1 else shd hd wy k l) 6 = fb_sm (fun l => if l = b then shd hd wy k b + 1 else shd hd wy k l) 6 := fb_sm_cong (fun l _ => by by_cases q : l = b <;> simp [q])
    have h2 := fb_sm_upd (shd hd wy k) (shd hd wy k b + 1) hb
    rw [h1]
    omega
theorem shd_le (hd : Nat → Nat) (wy k l : Nat) (hl : l < 6) : shd hd wy k l ≤ k := by
  have h1 := shd_ct hd wy k
  have h2 := fb_sm_part (shd hd wy k) hl
  omega
theorem left0_lt {hd : Nat → Nat} {n : Nat} (h : fb_sm hd 6 ≠ 0) : left0 hd n < 6 ∧ fb_sm (fun l => hd l * n / fb_sm hd 6) 6 ≤ n := by
  have key : ∀ a b c d e f A : Nat, 0 < A → A = a + b + c + d + e + f → n ≤ (a * n / A + b * n / A + c * n / A + d * n / A + e * n / A + f * n / A) + 5 ∧ a * n / A + b * n / A + c * n / A + d * n / A + e * n / A + f * n / A ≤ n := by
    intro a b c d e f A hA hs
    have h1 := Nat.div_add_mod (a * n) A
    have h2 := Nat.div_add_mod (b * n) A
    have h3 := Nat.div_add_mod (c * n) A
    have h4 := Nat.div_add_mod (d * n) A
    have h5 := Nat.div_add_mod (e * n) A
    have h6 := Nat.div_add_mod (f * n) A
    have g1 := Nat.mod_lt (a * n) hA
    have g2 := Nat.mod_lt (b * n) hA
    have g3 := Nat.mod_lt (c * n) hA
    have g4 := Nat.mod_lt (d * n) hA
    have g5 := Nat.mod_lt (e * n) hA
    have g6 := Nat.mod_lt (f * n) hA
    generalize a * n / A = x1 at *
    generalize b * n / A = x2 at *
    generalize c * n / A = x3 at *
    generalize d * n / A = x4 at *
    generalize e * n / A = x5 at *
    generalize f * n / A = x6 at *
    have tot : A * n = a * n + b * n + c * n + d * n + e * n + f * n := by rw [hs]; simp [Nat.add_mul]
    have q : A * (x1 + x2 + x3 + x4 + x5 + x6) ≤ A * n ∧ A * n < A * (x1 + x2 + x3 + x4 + x5 + x6 + 6) := by
      simp only [Nat.mul_add]
      omega
    constructor
    · have := Nat.lt_of_mul_lt_mul_left q.2
      omega
    · exact Nat.le_of_mul_le_mul_left q.1 hA
  have h2 := key (hd 0) (hd 1) (hd 2) (hd 3) (hd 4) (hd 5) (fb_sm hd 6) (by omega) (by simp [fb_sm])
  unfold left0
  simp only [fb_sm] at h2 ⊢
  omega
theorem pg_s (gt : Nat → Nat → Bool) (ok : Nat → Bool) (n : Nat) : pg gt ok (n + 1) = if (match pg gt ok n with
    | none => ok n
    | some b => ok n && gt n b) = true then some n else pg gt ok n := by
  simp only [pg]
  cases pg gt ok n <;> simp
theorem ob_none {o : Option Nat} (h : ∀ b, o = some b → b < 6) : ob o = -9 ↔ o = none := by
  cases o with
  | none => simp [ob]
  | some b =>
    have hb := h b rfl
    simp only [ob, reduceCtorEq, iff_false]
    intro e
    have e2 := congrArg Int32.toInt e
    rw [nI_t (by omega)] at e2
    simp at e2
/-- dues behind i picks -/
def dst (hd : Nat → Nat) (wy n i l : Nat) : Nat := if wy = 0 then hd l * n / fb_sm hd 6 + (if (shm (fun l => hd l * n % fb_sm hd 6) i).testBit l then 1 else 0) else shd hd wy i l
def dgt (hd : Nat → Nat) (wy n i a b : Nat) : Bool := if wy = 0 then decide (hd b * n % fb_sm hd 6 < hd a * n % fb_sm hd 6) else decide (hd b * (wy * shd hd wy i a + 1) < hd a * (wy * shd hd wy i b + 1))
def dok (hd : Nat → Nat) (wy n i l : Nat) : Bool := if wy = 0 then !(shm (fun l => hd l * n % fb_sm hd 6) i).testBit l else true
def dlf (hd : Nat → Nat) (wy n : Nat) : Nat := if wy = 0 then left0 hd n else n
theorem d_some {hd : Nat → Nat} {wy n i : Nat} (hA : fb_sm hd 6 ≠ 0) (h : i < dlf hd wy n) : ∃ b, b < 6 ∧ pg (dgt hd wy n i) (dok hd wy n i) 6 = some b := by
  by_cases hw : wy = 0
  · subst hw
    have h6 := (left0_lt (n := n) hA).1
    obtain ⟨b, e⟩ := shm_some (fun l => hd l * n % fb_sm hd 6) (k := i) (by simp [dlf] at h; omega)
    exact ⟨b, (pg_lt e).1, e⟩
  · obtain ⟨b, e⟩ := pg_all (gt := fun a b => decide (hd b * (wy * shd hd wy i a + 1) < hd a * (wy * shd hd wy i b + 1)))
    refine ⟨b, (pg_lt e).1, ?_⟩
    have e1 : dgt hd wy n i = (fun a b => decide (hd b * (wy * shd hd wy i a + 1) < hd a * (wy * shd hd wy i b + 1))) := by funext a b; simp [dgt, hw]
    have e2 : dok hd wy n i = (fun _ => true) := by funext a; simp [dok, hw]
    rw [e1, e2]; exact e
theorem d_step {hd : Nat → Nat} {wy n i b : Nat} (e : pg (dgt hd wy n i) (dok hd wy n i) 6 = some b) (l : Nat) : dst hd wy n (i + 1) l = if l = b then dst hd wy n i l + 1 else dst hd wy n i l := by
  by_cases hw : wy = 0
  · subst hw
    have hb := (pg_lt e).2
    have e' : pg (fun a b => decide (hd b * n % fb_sm hd 6 < hd a * n % fb_sm hd 6)) (fun l => !(shm (fun l => hd l * n % fb_sm hd 6) i).testBit l) 6 = some b := e
    have hb' : (shm (fun l => hd l * n % fb_sm hd 6) i).testBit b = false := by simpa [dok] using hb
    simp only [dst, if_true, shm, e', fb_bit_set]
    by_cases q : l = b
    · subst q; simp [hb']
    · simp [q]
  · have e1 : dgt hd wy n i = (fun a b => decide (hd b * (wy * shd hd wy i a + 1) < hd a * (wy * shd hd wy i b + 1))) := by funext a b; simp [dgt, hw]
    have e2 : dok hd wy n i = (fun _ => true) := by funext a; simp [dok, hw]
    rw [e1, e2] at e
    simp only [dst, if_neg hw, shd, e]
theorem d_mask {hd : Nat → Nat} {wy n i b : Nat} (e : pg (dgt hd wy n i) (dok hd wy n i) 6 = some b) (hw : wy = 0) : shm (fun l => hd l * n % fb_sm hd 6) (i + 1) = shm (fun l => hd l * n % fb_sm hd 6) i ||| 2 ^ b := by
  subst hw
  have e' : pg (fun a b => decide (hd b * n % fb_sm hd 6 < hd a * n % fb_sm hd 6)) (fun l => !(shm (fun l => hd l * n % fb_sm hd 6) i).testBit l) 6 = some b := e
  simp only [shm, e']
theorem d_end {hd : Nat → Nat} {wy n l : Nat} (hA : fb_sm hd 6 ≠ 0) : dst hd wy n (dlf hd wy n) l = due hd wy n l := by
  unfold dst due dlf
  rw [if_neg hA]
  by_cases hw : wy = 0 <;> simp [hw]
theorem sm_le {hd : Nat → Nat} (h : ∀ k, hd k ≤ 999) : ∀ n, fb_sm hd n ≤ 999 * n
  | 0 => by simp [fb_sm]
  | n + 1 => by have := sm_le h n; have := h n; simp only [fb_sm]; omega
theorem i6 {i : Nat} (h : i ≤ 36) : (6 : Int32) ≤ nI i ↔ 6 ≤ i := by rw [show (6 : Int32) = nI 6 from rfl, nI_leI (by omega) (by omega)]
theorem mul_lt {a b n : Nat} (h1 : a ≤ 999) (h2 : n ≤ 36) : a * n ≤ 35964 := Nat.mul_le_mul h1 h2
theorem pg_no {gt : Nat → Nat → Bool} {ok : Nat → Bool} {n : Nat} (h : ok n = false) : pg gt ok (n + 1) = pg gt ok n := by
  rw [pg_s]; cases pg gt ok n <;> simp [h]
theorem pg_new {gt : Nat → Nat → Bool} {ok : Nat → Bool} {n : Nat} (h : pg gt ok n = none) (h2 : ok n = true) : pg gt ok (n + 1) = some n := by
  rw [pg_s, h]; simp [h2]
theorem pg_gt {gt : Nat → Nat → Bool} {ok : Nat → Bool} {n b : Nat} (h : pg gt ok n = some b) (h2 : ok n = true) (h3 : gt n b = true) : pg gt ok (n + 1) = some n := by
  rw [pg_s, h]; simp [h2, h3]
theorem pg_le {gt : Nat → Nat → Bool} {ok : Nat → Bool} {n b : Nat} (h : pg gt ok n = some b) (h3 : gt n b = false) : pg gt ok (n + 1) = pg gt ok n := by
  rw [pg_s, h]; simp [h3]
theorem up_s {f : Nat → Nat → Int32} {g : Nat → Nat → Int64} {a j : Nat} {x : Int32} : ((va_up f a (upd (f a) j x), g) : Mem).1 a j = x := up_same
theorem up_n {f : Nat → Nat → Int32} {g : Nat → Nat → Int64} {a j i : Nat} {x : Int32} (h : i ≠ j) : ((va_up f a (upd (f a) j x), g) : Mem).1 a i = f a i := up_ne h
end
section
-- made by wip/whole/mk_m2.py
section M2
variable {X : Cx} {l : Launch} {M : Mem}
theorem m_share {w h : Nat} {mp dr : Nat → Nat} (Hw : Wf w h mp dr) (H : WM w h mp dr M) {hd : Nat → Nat} {wy : Nat} (Hd : Hf hd wy) (HH : HM hd wy M) : PC X l mX8_share 2 [.ref 29] G0 M (fun v M' => v = none ∧ FI [33] M M' ∧ ∀ j, j < 6 → M'.1 33 j = nI (due hd wy (w * h - many mp 6 (w * h)) j)) := by
  refine PC.ofW okX8_share ?_
  have hn := Hw.n
  have hml := many_le mp 6 (w * h)
  obtain ⟨n, en⟩ : ∃ n, n = w * h - many mp 6 (w * h) := ⟨_, rfl⟩
  obtain ⟨A, eA⟩ : ∃ A, A = fb_sm hd 6 := ⟨_, rfl⟩
  have hA5 : A ≤ 5994 := by rw [eA]; exact sm_le Hd.2 6
  have hn36 : n ≤ 36 := by omega
  have hwy := Hd.1
  rw [← en]
  have loop114 : ∀ k : Nat, ∀ (i m : Nat) (M2 : Mem), A ≠ 0 → i ≤ dlf hd wy n → m < 64 → (wy = 0 → m = shm (fun l => hd l * n % fb_sm hd 6) i) → FI [33] M M2 → (∀ j, j < 6 → M2.1 33 j = nI (dst hd wy n i j)) → dlf hd wy n - i < k → PW X l mX8_share 2 (fun v M' => v = none ∧ FI [33] M M' ∧ ∀ j, j < 6 → M'.1 33 j = nI (due hd wy n j)) 114 [.ref 29, .int (nI A), .int (nI n), .int (nI (dlf hd wy n)), .int (nI m), .int (nI i), .null, .null, .null, .null, .null] [] G0 M2 := by
    intro k
    induction k with
    | zero => intro i m M2 hA0 hi hm hmw hF hz hk; exact absurd hk (Nat.not_lt_zero _)
    | succ k ih =>
      intro i m M2 hA0 hi hm hmw hF hz hk
      have hl36 : dlf hd wy n ≤ 36 := by unfold dlf left0; split <;> omega
      have loop127 : ∀ k127 : Nat, ∀ (j : Nat), i < dlf hd wy n → j ≤ 6 → 6 - j < k127 → PW X l mX8_share 2 (fun v M' => v = none ∧ FI [33] M M' ∧ ∀ j, j < 6 → M'.1 33 j = nI (due hd wy n j)) 127 [.ref 29, .int (nI A), .int (nI n), .int (nI (dlf hd wy n)), .int (nI m), .int (nI i), .int (ob (pg (dgt hd wy n i) (dok hd wy n i) j)), .int (nI j), .null, .null, .null] [] G0 M2 := by
        intro k127
        induction k127 with
        | zero => intro j hil hj hk2; exact absurd hk2 (Nat.not_lt_zero _)
        | succ k127 ih127 =>
          intro j hil hj hk2
          obtain ⟨b, hb6, hbp⟩ := d_some (hd := hd) (wy := wy) (n := n) (i := i) (by rw [← eA]; exact hA0) hil
          have hpl : ∀ b, pg (dgt hd wy n i) (dok hd wy n i) j = some b → b < 6 := fun b q => by have := (pg_lt q).1; omega
          have join310 : j < 6 → ∀ (t : Bool), pg (dgt hd wy n i) (dok hd wy n i) (j + 1) = (if t = true then some j else pg (dgt hd wy n i) (dok hd wy n i) j) → PW X l mX8_share 2 (fun v M' => v = none ∧ FI [33] M M' ∧ ∀ j, j < 6 → M'.1 33 j = nI (due hd wy n j)) 310 [.ref 29, .int (nI A), .int (nI n), .int (nI (dlf hd wy n)), .int (nI m), .int (nI i), .int (ob (pg (dgt hd wy n i) (dok hd wy n i) j)), .int (nI j), .int (bo t), .null, .null] [] G0 M2 := by
            intro hj6 t ht
            refine PW.zeq rfl trivial (fun h312 => ?_) (fun h312 => ?_)
            · skip
              rw [bo_eq] at h312
              subst h312
              rw [if_neg (by decide)] at ht
              refine PW.goto rfl trivial ?_
              rw [nI_1]
              refine PW.nl [8] ?_
              refine PW.lc ?_ (ih127 (j + 1) hil (by omega) (by omega))
              rw [ht]; rfl
            · skip
              rw [bo_ne] at h312
              subst h312
              rw [if_pos rfl] at ht
              refine PW.goto rfl trivial ?_
              refine PW.goto rfl trivial ?_
              rw [nI_1]
              refine PW.nl [8] ?_
              refine PW.lc ?_ (ih127 (j + 1) hil (by omega) (by omega))
              rw [ht]; rfl
          have join271 : j < 6 → ∀ (its : Nat), wy ≠ 0 → its ≤ 73 → (∀ b, pg (dgt hd wy n i) (dok hd wy n i) j = some b → its = wy * dst hd wy n i b + 1) → PW X l mX8_share 2 (fun v M' => v = none ∧ FI [33] M M' ∧ ∀ j, j < 6 → M'.1 33 j = nI (due hd wy n j)) 271 [.ref 29, .int (nI A), .int (nI n), .int (nI (dlf hd wy n)), .int (nI m), .int (nI i), .int (ob (pg (dgt hd wy n i) (dok hd wy n i) j)), .int (nI j), .int 0, .int (nI (wy * dst hd wy n i j + 1)), .null] [.int (nI its)] G0 M2 := by
            intro hj6 its hw hi3 hits
            have ed : ∀ a, dst hd wy n i a = shd hd wy i a := fun a => by simp [dst, hw]
            have hd36 : ∀ a, a < 6 → shd hd wy i a ≤ 36 := fun a ha => by have := shd_le hd wy i a ha; omega
            have hd72 : ∀ a, a < 6 → wy * shd hd wy i a ≤ 72 := fun a ha => Nat.mul_le_mul hwy (hd36 a ha)
            have hj6 : j < 6 := hj6
            refine PW.ieq rfl trivial (fun h277 => ?_) (fun h277 => ?_)
            · skip
              rw [ob_none hpl] at h277
              refine PW.goto rfl trivial ?_
              refine PW.to 310 rfl trivial ?_
              refine PW.nl [9, 10] ?_
              first
              | exact join310 hj6 true (by rw [if_pos rfl]; exact pg_new h277 (by simp [dok, hw]))
              | exact PW.lc (by rw [hp]; rfl) (join310 hj6 true (by rw [if_pos rfl]; exact pg_gt hp (by simp [dok, hw]) (by rw [hi2, ed] at h300; simp only [dgt, if_neg hw, decide_eq_true_eq]; omega)))
              | exact PW.lc (by rw [hp]; rfl) (join310 hj6 false (by rw [if_neg (by decide)]; exact pg_le hp (by rw [hi2, ed] at h300; simp only [dgt, if_neg hw, decide_eq_false_iff_not]; omega)))
            · skip
              rw [ob_none hpl] at h277
              obtain ⟨b2, hp⟩ := Option.ne_none_iff_exists'.mp h277
              have hb2 := hpl b2 hp
              have eb2 : ob (some b2) = nI b2 := rfl
              rw [hp, eb2]
              have hi2 := hits b2 hp
              refine PW.ile rfl ⟨⟨trivial, vp_in_nI (by omega) (by decide)⟩, vp_in_nI (by omega) (by decide)⟩ (fun h300 => ?_) (fun h300 => ?_)
              · skip
                have q1 := Hd.2 j
                have q2 := Hd.2 b2
                have q3 := hd72 j hj6
                have q4 := hd72 b2 hb2
                have q5 : hd j * its ≤ 999 * 73 := Nat.mul_le_mul q1 hi3
                have q6 : hd b2 * (wy * shd hd wy i j + 1) ≤ 999 * 73 := Nat.mul_le_mul q2 (by omega)
                rw [nI_clamp (by omega), nI_clamp (by omega), hF.at 32, HH.2 j hj6, HH.2 b2 hb2, pk_mul, pk_mul, ed, nI_leI (by omega) (by omega)] at h300
                refine PW.to 310 rfl trivial ?_
                refine PW.nl [9, 10] ?_
                first
                | exact join310 hj6 true (by rw [if_pos rfl]; exact pg_new h277 (by simp [dok, hw]))
                | exact PW.lc (by rw [hp]; rfl) (join310 hj6 true (by rw [if_pos rfl]; exact pg_gt hp (by simp [dok, hw]) (by rw [hi2, ed] at h300; simp only [dgt, if_neg hw, decide_eq_true_eq]; omega)))
                | exact PW.lc (by rw [hp]; rfl) (join310 hj6 false (by rw [if_neg (by decide)]; exact pg_le hp (by rw [hi2, ed] at h300; simp only [dgt, if_neg hw, decide_eq_false_iff_not]; omega)))
              · skip
                have q1 := Hd.2 j
                have q2 := Hd.2 b2
                have q3 := hd72 j hj6
                have q4 := hd72 b2 hb2
                have q5 : hd j * its ≤ 999 * 73 := Nat.mul_le_mul q1 hi3
                have q6 : hd b2 * (wy * shd hd wy i j + 1) ≤ 999 * 73 := Nat.mul_le_mul q2 (by omega)
                rw [nI_clamp (by omega), nI_clamp (by omega), hF.at 32, HH.2 j hj6, HH.2 b2 hb2, pk_mul, pk_mul, ed, nI_leI (by omega) (by omega)] at h300
                refine PW.goto rfl trivial ?_
                refine PW.to 310 rfl trivial ?_
                refine PW.nl [9, 10] ?_
                first
                | exact join310 hj6 true (by rw [if_pos rfl]; exact pg_new h277 (by simp [dok, hw]))
                | exact PW.lc (by rw [hp]; rfl) (join310 hj6 true (by rw [if_pos rfl]; exact pg_gt hp (by simp [dok, hw]) (by rw [hi2, ed] at h300; simp only [dgt, if_neg hw, decide_eq_true_eq]; omega)))
                | exact PW.lc (by rw [hp]; rfl) (join310 hj6 false (by rw [if_neg (by decide)]; exact pg_le hp (by rw [hi2, ed] at h300; simp only [dgt, if_neg hw, decide_eq_false_iff_not]; omega)))
          have join227 : j < 6 → wy ≠ 0 → PW X l mX8_share 2 (fun v M' => v = none ∧ FI [33] M M' ∧ ∀ j, j < 6 → M'.1 33 j = nI (due hd wy n j)) 227 [.ref 29, .int (nI A), .int (nI n), .int (nI (dlf hd wy n)), .int (nI m), .int (nI i), .int (ob (pg (dgt hd wy n i) (dok hd wy n i) j)), .int (nI j), .int 0, .null, .null] [.int (nI (wy * dst hd wy n i j + 1))] G0 M2 := by
            intro hj6 hw
            have ed : ∀ a, dst hd wy n i a = shd hd wy i a := fun a => by simp [dst, hw]
            have hd36 : ∀ a, a < 6 → shd hd wy i a ≤ 36 := fun a ha => by have := shd_le hd wy i a ha; omega
            have hd72 : ∀ a, a < 6 → wy * shd hd wy i a ≤ 72 := fun a ha => Nat.mul_le_mul hwy (hd36 a ha)
            have hj6 : j < 6 := hj6
            refine PW.ine rfl trivial (fun h233 => ?_) (fun h233 => ?_)
            · skip
              rw [ob_none hpl] at h233
              obtain ⟨b2, hp⟩ := Option.ne_none_iff_exists'.mp h233
              have hb2 := hpl b2 hp
              have eb2 : ob (some b2) = nI b2 := rfl
              rw [hp, eb2]
              refine PW.ine rfl trivial (fun h245 => ?_) (fun h245 => ?_)
              · skip
                have h2 : wy = 2 := by
                  rw [hF.at 29, HH.1, show (1 : Int32) = nI 1 from rfl, nI_eq (by omega) (by omega)] at h245
                  omega
                refine PW.to 271 rfl ⟨trivial, vp_in_nI (by omega) (by decide)⟩ ?_
                have hq := hd72 b2 hb2
                rw [nI_clamp (by omega), hz b2 hb2, ed b2]
                refine PW.lcs (by rw [hp]; rfl) ?_ (join271 hj6 (wy * shd hd wy i b2 + 1) hw (by omega) (fun b q => by rw [hp] at q; cases q; rw [ed]))
                first | (rw [nI_1, h2, Nat.one_mul]) | (rw [show (2 : Int32) = nI 2 from rfl, pk_mul, nI_1, h2])
              · skip
                have h2 : wy = 1 := by
                  rw [hF.at 29, HH.1, show (1 : Int32) = nI 1 from rfl, nI_eq (by omega) (by omega)] at h245
                  omega
                refine PW.goto rfl ⟨trivial, vp_in_nI (by omega) (by decide)⟩ ?_
                have hq := hd72 b2 hb2
                rw [nI_clamp (by omega), hz b2 hb2, ed b2]
                refine PW.lcs (by rw [hp]; rfl) ?_ (join271 hj6 (wy * shd hd wy i b2 + 1) hw (by omega) (fun b q => by rw [hp] at q; cases q; rw [ed]))
                first | (rw [nI_1, h2, Nat.one_mul]) | (rw [show (2 : Int32) = nI 2 from rfl, pk_mul, nI_1, h2])
            · skip
              rw [ob_none hpl] at h233
              refine PW.goto rfl trivial ?_
              exact join271 hj6 1 hw (by decide) (fun b q => by rw [h233] at q; cases q)
          refine PW.ige rfl trivial (fun h131 => ?_) (fun h131 => ?_)
          · skip
            rw [i6 (by omega)] at h131
            have e : j = 6 := by omega
            subst e
            rw [hbp]
            have eb : ob (some b) = nI b := rfl
            rw [eb]
            refine PW.goto rfl ⟨⟨trivial, vp_in_nI (by omega) (by decide)⟩, vp_in_nI (by omega) (by decide)⟩ ?_
            rw [nI_clamp (by omega), (tb_set m hm b hb6).1, nI_1]
            refine PW.nl [6, 7] ?_
            refine ih (i + 1) _ _ hA0 (by omega) (or_lt64 hm hb6) (fun q => by rw [d_mask hbp q, hmw q]) (hF.put (by decide)) (fun l hl => ?_) (by omega)
            rw [d_step hbp]
            by_cases q : l = b
            · subst q; rw [if_pos rfl, up_s, hz _ hl, nI_1]
            · rw [if_neg q]; exact (up_n q).trans (hz l hl)
          · skip
            rw [i6 (by omega)] at h131
            have hj6 : j < 6 := by omega
            refine PW.zne rfl trivial (fun h141 => ?_) (fun h141 => ?_)
            · skip
              have hw : wy ≠ 0 := fun e => h141 (by rw [hF.at 29, HH.1, e]; rfl)
              have ed : ∀ a, dst hd wy n i a = shd hd wy i a := fun a => by simp [dst, hw]
              refine PW.ine rfl trivial (fun h201 => ?_) (fun h201 => ?_)
              · skip
                have h2 : wy = 2 := by
                  rw [hF.at 29, HH.1, show (1 : Int32) = nI 1 from rfl, nI_eq (by omega) (by omega)] at h201
                  omega
                refine PW.to 227 rfl ⟨trivial, vp_in_nI (by omega) (by decide)⟩ ?_
                rw [nI_clamp (by omega), hz j (by omega)]
                exact PW.lcs rfl (by rw [show (2 : Int32) = nI 2 from rfl, pk_mul, nI_1, h2]) (join227 hj6 hw)
              · skip
                have h2 : wy = 1 := by
                  rw [hF.at 29, HH.1, show (1 : Int32) = nI 1 from rfl, nI_eq (by omega) (by omega)] at h201
                  omega
                refine PW.goto rfl ⟨trivial, vp_in_nI (by omega) (by decide)⟩ ?_
                rw [nI_clamp (by omega), hz j (by omega)]
                exact PW.lcs rfl (by rw [nI_1, h2, Nat.one_mul]) (join227 hj6 hw)
            · skip
              have hw : wy = 0 := by
                rw [hF.at 29, HH.1, show (0 : Int32) = nI 0 from rfl, nI_eq (by omega) (by omega)] at h141
                exact h141
              have hm2 := hmw hw
              refine PW.zne rfl trivial (fun h151 => ?_) (fun h151 => ?_)
              · skip
                rw [tb_get m hm j (by omega), bo_ne] at h151
                refine PW.goto rfl trivial ?_
                first
                | exact join310 hj6 false (by rw [if_neg (by decide)]; exact pg_no (by simp [dok, hw, ← hm2, h151]))
                | exact join310 hj6 true (by rw [if_pos rfl]; exact pg_new h158 (by simp [dok, hw, ← hm2, h151]))
                | exact PW.lc (by rw [hp]; rfl) (join310 hj6 true (by rw [if_pos rfl]; exact pg_gt hp (by simp [dok, hw, ← hm2, h151]) (by simp only [dgt, if_pos hw, ← eA, decide_eq_true_eq]; omega)))
                | exact PW.lc (by rw [hp]; rfl) (join310 hj6 false (by rw [if_neg (by decide)]; exact pg_le hp (by simp only [dgt, if_pos hw, ← eA, decide_eq_false_iff_not]; omega)))
              · skip
                rw [tb_get m hm j (by omega), bo_eq] at h151
                refine PW.ieq rfl trivial (fun h158 => ?_) (fun h158 => ?_)
                · skip
                  rw [ob_none hpl] at h158
                  refine PW.goto rfl trivial ?_
                  refine PW.goto rfl trivial ?_
                  first
                  | exact join310 hj6 false (by rw [if_neg (by decide)]; exact pg_no (by simp [dok, hw, ← hm2, h151]))
                  | exact join310 hj6 true (by rw [if_pos rfl]; exact pg_new h158 (by simp [dok, hw, ← hm2, h151]))
                  | exact PW.lc (by rw [hp]; rfl) (join310 hj6 true (by rw [if_pos rfl]; exact pg_gt hp (by simp [dok, hw, ← hm2, h151]) (by simp only [dgt, if_pos hw, ← eA, decide_eq_true_eq]; omega)))
                  | exact PW.lc (by rw [hp]; rfl) (join310 hj6 false (by rw [if_neg (by decide)]; exact pg_le hp (by simp only [dgt, if_pos hw, ← eA, decide_eq_false_iff_not]; omega)))
                · skip
                  rw [ob_none hpl] at h158
                  obtain ⟨b2, hp⟩ := Option.ne_none_iff_exists'.mp h158
                  have hb2 := hpl b2 hp
                  have eb2 : ob (some b2) = nI b2 := rfl
                  rw [hp, eb2]
                  refine PW.ile rfl ⟨⟨⟨⟨trivial, vp_in_nI (by omega) (by decide)⟩, nI_ne0 (by omega) (by omega)⟩, vp_in_nI (by omega) (by decide)⟩, nI_ne0 (by omega) (by omega)⟩ (fun h183 => ?_) (fun h183 => ?_)
                  · skip
                    have q1 := mul_lt (b := 0) (Hd.2 j) hn36
                    have q2 := mul_lt (b := 0) (Hd.2 b2) hn36
                    have q3 := Nat.mod_le (hd j * n) A
                    have q4 := Nat.mod_le (hd b2 * n) A
                    rw [nI_clamp (by omega), nI_clamp (by omega), hF.at 32, HH.2 j (by omega), HH.2 b2 hb2, pk_mul, pk_mul, pk_rem (by omega) (by omega) (by omega), pk_rem (by omega) (by omega) (by omega), nI_leI (by omega) (by omega)] at h183
                    refine PW.goto rfl trivial ?_
                    first
                    | exact join310 hj6 false (by rw [if_neg (by decide)]; exact pg_no (by simp [dok, hw, ← hm2, h151]))
                    | exact join310 hj6 true (by rw [if_pos rfl]; exact pg_new h158 (by simp [dok, hw, ← hm2, h151]))
                    | exact PW.lc (by rw [hp]; rfl) (join310 hj6 true (by rw [if_pos rfl]; exact pg_gt hp (by simp [dok, hw, ← hm2, h151]) (by simp only [dgt, if_pos hw, ← eA, decide_eq_true_eq]; omega)))
                    | exact PW.lc (by rw [hp]; rfl) (join310 hj6 false (by rw [if_neg (by decide)]; exact pg_le hp (by simp only [dgt, if_pos hw, ← eA, decide_eq_false_iff_not]; omega)))
                  · skip
                    have q1 := mul_lt (b := 0) (Hd.2 j) hn36
                    have q2 := mul_lt (b := 0) (Hd.2 b2) hn36
                    have q3 := Nat.mod_le (hd j * n) A
                    have q4 := Nat.mod_le (hd b2 * n) A
                    rw [nI_clamp (by omega), nI_clamp (by omega), hF.at 32, HH.2 j (by omega), HH.2 b2 hb2, pk_mul, pk_mul, pk_rem (by omega) (by omega) (by omega), pk_rem (by omega) (by omega) (by omega), nI_leI (by omega) (by omega)] at h183
                    refine PW.goto rfl trivial ?_
                    refine PW.goto rfl trivial ?_
                    first
                    | exact join310 hj6 false (by rw [if_neg (by decide)]; exact pg_no (by simp [dok, hw, ← hm2, h151]))
                    | exact join310 hj6 true (by rw [if_pos rfl]; exact pg_new h158 (by simp [dok, hw, ← hm2, h151]))
                    | exact PW.lc (by rw [hp]; rfl) (join310 hj6 true (by rw [if_pos rfl]; exact pg_gt hp (by simp [dok, hw, ← hm2, h151]) (by simp only [dgt, if_pos hw, ← eA, decide_eq_true_eq]; omega)))
                    | exact PW.lc (by rw [hp]; rfl) (join310 hj6 false (by rw [if_neg (by decide)]; exact pg_le hp (by simp only [dgt, if_pos hw, ← eA, decide_eq_false_iff_not]; omega)))
      refine PW.ige rfl trivial (fun h117 => ?_) (fun h117 => ?_)
      · skip
        rw [nI_leI (by omega) (by omega)] at h117
        have e : i = dlf hd wy n := by omega
        subst e
        refine PW.vret rfl rfl trivial ?_
        exact ⟨rfl, hF, fun j hj => by rw [hz j hj, d_end (by rw [← eA]; exact hA0)]⟩
      · skip
        rw [nI_leI (by omega) (by omega)] at h117
        refine PW.to 127 rfl trivial ?_
        exact loop127 7 0 (by omega) (by omega) (by omega)
  have join108 : ∀ (M2 : Mem) (s : Nat), A ≠ 0 → s = dlf hd wy n → FI [33] M M2 → (∀ j, j < 6 → M2.1 33 j = nI (dst hd wy n 0 j)) → PW X l mX8_share 2 (fun v M' => v = none ∧ FI [33] M M' ∧ ∀ j, j < 6 → M'.1 33 j = nI (due hd wy n j)) 108 [.ref 29, .int (nI A), .int (nI n), .int (nI s), .null, .null, .null, .null, .null, .null, .null] [] G0 M2 := by
    intro M2 s hA0 hs hF hz
    refine PW.to 114 rfl trivial ?_
    subst hs
    exact loop114 (dlf hd wy n + 1) 0 0 M2 hA0 (Nat.zero_le _) (by decide) (fun _ => rfl) hF hz (by omega)
  have loop67 : ∀ k : Nat, ∀ (i s : Nat) (M2 : Mem), wy = 0 → A ≠ 0 → i ≤ 6 → s + fb_sm (fun l => hd l * n / A) i = n → FI [33] M M2 → (∀ j, j < i → M2.1 33 j = nI (hd j * n / A)) → 6 - i < k → PW X l mX8_share 2 (fun v M' => v = none ∧ FI [33] M M' ∧ ∀ j, j < 6 → M'.1 33 j = nI (due hd wy n j)) 67 [.ref 29, .int (nI A), .int (nI n), .int (nI s), .int (nI i), .null, .null, .null, .null, .null, .null] [] G0 M2 := by
    intro k
    induction k with
    | zero => intro i s M2 hw0 hA0 hi hs hF hz hk; exact absurd hk (Nat.not_lt_zero _)
    | succ k ih =>
      intro i s M2 hw0 hA0 hi hs hF hz hk
      refine PW.ige rfl trivial (fun h71 => ?_) (fun h71 => ?_)
      · skip
        rw [i6 (by omega)] at h71
        have e : i = 6 := by omega
        subst e
        refine PW.nl [4] ?_
        refine join108 M2 s hA0 (by simp only [dlf, hw0, if_true, left0]; rw [← eA]; omega) hF (fun j hj => ?_)
        rw [hz j hj]
        congr 1
        simp only [dst, hw0, if_true, shm, ← eA]
        simp
      · skip
        rw [i6 (by omega)] at h71
        refine PW.goto rfl ⟨⟨⟨⟨trivial, vp_in_nI (by omega) (by decide)⟩, nI_ne0 (by omega) (by omega)⟩, vp_in_nI (by omega) (by decide)⟩, vp_in_nI (by omega) (by decide)⟩ ?_
        have h1 := mul_lt (b := 0) (Hd.2 i) hn36
        have h2 : hd i * n / A ≤ s := by
          have h3 := (left0_lt (n := n) (hd := hd) (by rw [← eA]; exact hA0)).2
          rw [← eA] at h3
          have h4 := fb_sm_part (fun l => hd l * n / A) (show i < 6 by omega)
          omega
        rw [nI_clamp (by omega), hF.at 32, HH.2 i (by omega), pk_mul, pk_div (by omega) (by omega) (by omega), up_s, pk_sub h2, nI_1]
        refine ih (i + 1) _ _ hw0 hA0 (by omega) (by simp only [fb_sm]; omega) (hF.put (by decide)) (fun j hj => ?_) (by omega)
        by_cases q : j = i
        · subst q; exact up_s
        · exact (up_n q).trans (hz j (by omega))
  have join32 : ∀ (M2 : Mem), FI [33] M M2 → (∀ j, j < 6 → M2.1 33 j = 0) → PW X l mX8_share 2 (fun v M' => v = none ∧ FI [33] M M' ∧ ∀ j, j < 6 → M'.1 33 j = nI (due hd wy n j)) 32 [.ref 29, .int (nI A), .int (nI 6), .null, .null, .null, .null, .null, .null, .null, .null] [] G0 M2 := by
    intro M2 hF hz
    refine PW.zne rfl trivial (fun h33 => ?_) (fun h33 => ?_)
    · skip
      have hA0 : A ≠ 0 := fun e => h33 (by rw [e]; rfl)
      refine PW.funV rfl trivial sX8_106 rfl rfl (by decide) rfl (m_manyOf 0 6 (by decide) Hw (H.fi hF)) ?_
      rw [(H.fi hF).wh, show sl 0 mp dr = mp from rfl]
      refine PW.zne rfl trivial (fun h61 => ?_) (fun h61 => ?_)
      · skip
        rw [pk_sub (by omega), ← en]
        have hw : wy ≠ 0 := fun e => h61 (by rw [hF.at 29, HH.1, e]; rfl)
        exact join108 M2 n hA0 (by simp [dlf, hw]) hF (fun j hj => by rw [hz j hj]; simp only [dst, if_neg hw, shd]; rfl)
      · skip
        rw [pk_sub (by omega), ← en]
        have hw : wy = 0 := by
          rw [hF.at 29, HH.1, show (0 : Int32) = nI 0 from rfl, nI_eq (by omega) (by omega)] at h61
          exact h61
        refine PW.to 67 rfl trivial ?_
        exact loop67 7 0 n M2 hw hA0 (by omega) (by simp [fb_sm]) hF (fun j hj => absurd hj (Nat.not_lt_zero j)) (by omega)
    · skip
      have hA0 : A = 0 := by
        rw [show (0 : Int32) = nI 0 from rfl, nI_eq (by omega) (by omega)] at h33
        exact h33
      refine PW.vret rfl rfl trivial ?_
      exact ⟨rfl, hF, fun j hj => by rw [hz j hj]; unfold due; rw [if_pos (by rw [← eA]; exact hA0)]; rfl⟩
  have loop4 : ∀ k : Nat, ∀ (i : Nat) (M2 : Mem), i ≤ 6 → FI [33] M M2 → (∀ j, j < i → M2.1 33 j = 0) → 6 - i < k → PW X l mX8_share 2 (fun v M' => v = none ∧ FI [33] M M' ∧ ∀ j, j < 6 → M'.1 33 j = nI (due hd wy n j)) 4 [.ref 29, .int (nI (fb_sm hd i)), .int (nI i), .null, .null, .null, .null, .null, .null, .null, .null] [] G0 M2 := by
    intro k
    induction k with
    | zero => intro i M2 hi hF hz hk; exact absurd hk (Nat.not_lt_zero _)
    | succ k ih =>
      intro i M2 hi hF hz hk
      have hs := sm_le Hd.2 i
      refine PW.ige rfl trivial (fun h7 => ?_) (fun h7 => ?_)
      · skip
        rw [i6 (by omega)] at h7
        have e : i = 6 := by omega
        subst e
        rw [← eA]
        exact join32 M2 hF hz
      · skip
        rw [i6 (by omega)] at h7
        refine PW.goto rfl ⟨⟨trivial, vp_in_nI (by omega) (by decide)⟩, vp_in_nI (by omega) (by decide)⟩ ?_
        rw [nI_clamp (by omega), hF.at 32, HH.2 i (by omega), nI_add, nI_1]
        refine ih (i + 1) _ (by omega) (hF.put (by decide)) (fun j hj => ?_) (by omega)
        by_cases q : j = i
        · subst q; exact up_s
        · exact (up_n q).trans (hz j (by omega))
  refine PW.to 4 rfl trivial ?_
  exact loop4 7 0 M (by omega) FI.rf (fun j hj => absurd hj (Nat.not_lt_zero j)) (by omega)
end M2
end
section
/-! parts: cells that hang together -/
def Cn (P : Nat → Bool) (w a b : Nat) : Prop := ∀ S : Nat → Prop, S a → (∀ x y, S x → P y = true → adj w x y = true → S y) → S b
theorem Cn.rf {P : Nat → Bool} {w a : Nat} : Cn P w a a := fun _ h _ => h
theorem Cn.st {P : Nat → Bool} {w a b c : Nat} (h : Cn P w a b) (hc : P c = true) (ha : adj w b c = true) : Cn P w a c := fun S h0 hs => hs b c (h S h0 hs) hc ha
theorem Cn.tr {P : Nat → Bool} {w a b c : Nat} (h : Cn P w a b) (h2 : Cn P w b c) : Cn P w a c := fun S h0 hs => h2 S (h S h0 hs) hs
theorem Cn.p {P : Nat → Bool} {w a b : Nat} (h : Cn P w a b) (ha : P a = true) : P b = true := h (fun x => P x = true) ha (fun _ _ _ h _ => h)
noncomputable def ctp (p : Nat → Prop) : Nat → Nat
  | 0 => 0
  | n + 1 => ctp p n + @ite Nat (p n) (Classical.propDecidable _) 1 0
theorem ctp_t {p : Nat → Prop} {n : Nat} (h : p n) : ctp p (n + 1) = ctp p n + 1 := by simp [ctp, h]
theorem ctp_f {p : Nat → Prop} {n : Nat} (h : ¬ p n) : ctp p (n + 1) = ctp p n := by simp [ctp, h]
theorem ctp_le (p : Nat → Prop) : ∀ n, ctp p n ≤ n
  | 0 => Nat.le_refl _
  | n + 1 => by
    have ih := ctp_le p n
    rcases Classical.em (p n) with h | h
    · rw [ctp_t h]; omega
    · rw [ctp_f h]; omega
theorem ctp_stay {p : Nat → Prop} {m : Nat} : ∀ {n : Nat}, m ≤ n → (∀ k, m ≤ k → k < n → ¬ p k) → ctp p n = ctp p m
  | 0, h, _ => by rw [show m = 0 by omega]
  | n + 1, h, hk => by
    rcases Nat.lt_or_ge n m with q | q
    · rw [show m = n + 1 by omega]
    · rw [ctp_f (hk n q (by omega)), ctp_stay q (fun k h1 h2 => hk k h1 (by omega))]
theorem ctp_cong {p q : Nat → Prop} : ∀ {n : Nat}, (∀ k, k < n → (p k ↔ q k)) → ctp p n = ctp q n
  | 0, _ => rfl
  | n + 1, h => by
    have ih := ctp_cong (p := p) (q := q) (n := n) (fun k hk => h k (by omega))
    rcases Classical.em (p n) with z | z
    · rw [ctp_t z, ctp_t ((h n (by omega)).mp z), ih]
    · rw [ctp_f z, ctp_f (fun y => z ((h n (by omega)).mpr y)), ih]
/-- a cell that is its part's first -/
def Rep (P : Nat → Bool) (w c : Nat) : Prop := P c = true ∧ ∀ d, d < c → P d = true → ¬ Cn P w d c
noncomputable def prt (P : Nat → Bool) (w n : Nat) : Nat := ctp (Rep P w) n
theorem prt_le (P : Nat → Bool) (w n : Nat) : prt P w n ≤ n := ctp_le _ _
/-- seen behind the cells ahead of t -/
def Sn (P : Nat → Bool) (w t x : Nat) : Prop := ∃ d, d < t ∧ P d = true ∧ Cn P w d x
theorem Sn.st {P : Nat → Bool} {w t x y : Nat} (h : Sn P w t x) (hy : P y = true) (ha : adj w x y = true) : Sn P w t y := by
  obtain ⟨d, h1, h2, h3⟩ := h
  exact ⟨d, h1, h2, h3.st hy ha⟩
theorem Sn.succ {P : Nat → Bool} {w t x : Nat} : Sn P w (t + 1) x ↔ Sn P w t x ∨ (P t = true ∧ Cn P w t x) := by
  constructor
  · rintro ⟨d, h1, h2, h3⟩
    by_cases e : d = t
    · subst e; exact Or.inr ⟨h2, h3⟩
    · exact Or.inl ⟨d, by omega, h2, h3⟩
  · rintro (⟨d, h1, h2, h3⟩ | ⟨h2, h3⟩)
    · exact ⟨d, by omega, h2, h3⟩
    · exact ⟨t, by omega, h2, h3⟩
theorem rep_iff {P : Nat → Bool} {w c : Nat} : Rep P w c ↔ P c = true ∧ ¬ Sn P w c c := by
  constructor
  · rintro ⟨h1, h2⟩
    exact ⟨h1, fun ⟨d, h3, h4, h5⟩ => h2 d h3 h4 h5⟩
  · rintro ⟨h1, h2⟩
    exact ⟨h1, fun d h3 h4 h5 => h2 ⟨d, h3, h4, h5⟩⟩
/-- a search from c: old what was seen before, q the queue -/
def Bfs (P : Nat → Bool) (w n c : Nat) (old sn : Nat → Bool) (q : Nat → Nat) (m i e : Nat) : Prop :=
  (∀ x, sn x = true ↔ old x = true ∨ ∃ k, k < m ∧ q k = x) ∧ (∀ k, k < m → q k < n ∧ P (q k) = true ∧ Cn P w c (q k)) ∧ (∀ j k, j < k → k < m → q j ≠ q k) ∧ (∀ k, k < i → ∀ y, P y = true → adj w (q k) y = true → sn y = true) ∧ (∀ y, y < e → P y = true → adj w (q i) y = true → sn y = true)
theorem Bfs.m_le {P : Nat → Bool} {w n c : Nat} {old sn : Nat → Bool} {q : Nat → Nat} {m i e : Nat} (h : Bfs P w n c old sn q m i e) : m ≤ n := fb_holes n m q (fun k hk => (h.2.1 k hk).1) h.2.2.1
theorem Bfs.skip {P : Nat → Bool} {w n c : Nat} {old sn : Nat → Bool} {q : Nat → Nat} {m i e : Nat} (h : Bfs P w n c old sn q m i e) (hs : P e = true → adj w (q i) e = true → sn e = true) : Bfs P w n c old sn q m i (e + 1) := by
  refine ⟨h.1, h.2.1, h.2.2.1, h.2.2.2.1, fun y hy h1 h2 => ?_⟩
  by_cases z : y = e
  · subst z; exact hs h1 h2
  · exact h.2.2.2.2 y (by omega) h1 h2
theorem Bfs.add {P : Nat → Bool} {w n c : Nat} {old sn : Nat → Bool} {q : Nat → Nat} {m i e : Nat} (h : Bfs P w n c old sn q m i e) (hi : i < m) (he : e < n) (hp : P e = true) (ha : adj w (q i) e = true) (hs : sn e = false) :
    Bfs P w n c old (fun x => if x = e then true else sn x) (fun k => if k = m then e else q k) (m + 1) i (e + 1) ∧ m < n := by
  have hq : ∀ k, k < m → q k ≠ e := fun k hk z => by
    have := (h.1 e).mpr (Or.inr ⟨k, hk, z⟩)
    rw [hs] at this; cases this
  have H : Bfs P w n c old (fun x => if x = e then true else sn x) (fun k => if k = m then e else q k) (m + 1) i (e + 1) := by
    refine ⟨fun x => ?_, fun k hk => ?_, fun j k hj hk => ?_, fun k hk y h1 h2 => ?_, fun y hy h1 h2 => ?_⟩
    · dsimp only
      by_cases z : x = e
      · subst z
        simp only [if_true, true_iff]
        exact Or.inr ⟨m, by omega, by simp⟩
      · rw [if_neg z, h.1 x]
        constructor
        · rintro (h1 | ⟨k, h1, h2⟩)
          · exact Or.inl h1
          · exact Or.inr ⟨k, by omega, by rw [if_neg (by omega)]; exact h2⟩
        · rintro (h1 | ⟨k, h1, h2⟩)
          · exact Or.inl h1
          · by_cases y : k = m
            · rw [if_pos y] at h2; exact absurd h2.symm z
            · rw [if_neg y] at h2; exact Or.inr ⟨k, by omega, h2⟩
    · dsimp only
      by_cases z : k = m
      · rw [if_pos z]; exact ⟨he, hp, ((h.2.1 i hi).2.2).st hp ha⟩
      · rw [if_neg z]; exact h.2.1 k (by omega)
    · dsimp only
      rw [if_neg (by omega)]
      by_cases z : k = m
      · rw [if_pos z]; exact hq j (by omega)
      · rw [if_neg z]; exact h.2.2.1 j k hj (by omega)
    · dsimp only at h2 ⊢
      rw [if_neg (by omega)] at h2
      by_cases z : y = e
      · rw [if_pos z]
      · rw [if_neg z]; exact h.2.2.2.1 k hk y h1 h2
    · dsimp only at h2 ⊢
      rw [if_neg (by omega)] at h2
      by_cases z : y = e
      · rw [if_pos z]
      · rw [if_neg z]; exact h.2.2.2.2 y (by omega) h1 h2
  exact ⟨H, H.m_le⟩
theorem Bfs.next {P : Nat → Bool} {w n c : Nat} {old sn : Nat → Bool} {q : Nat → Nat} {m i : Nat} (hP : ∀ y, P y = true → y < n) (h : Bfs P w n c old sn q m i n) : Bfs P w n c old sn q m (i + 1) 0 := by
  refine ⟨h.1, h.2.1, h.2.2.1, fun k hk y h1 h2 => ?_, fun y hy => absurd hy (Nat.not_lt_zero y)⟩
  by_cases z : k = i
  · subst z; exact h.2.2.2.2 y (hP y h1) h1 h2
  · exact h.2.2.2.1 k (by omega) y h1 h2
theorem Bfs.start {P : Nat → Bool} {w n c : Nat} {old : Nat → Bool} {q : Nat → Nat} (hc : c < n) (hp : P c = true) (hq : q 0 = c) : Bfs P w n c old (fun x => if x = c then true else old x) q 1 0 0 := by
  refine ⟨fun x => ?_, fun k hk => ?_, fun j k h1 h2 => by omega, fun k hk => absurd hk (Nat.not_lt_zero k), fun y hy => absurd hy (Nat.not_lt_zero y)⟩
  · dsimp only
    by_cases z : x = c
    · subst z
      simp only [if_true, true_iff]
      exact Or.inr ⟨0, by omega, hq⟩
    · rw [if_neg z]
      constructor
      · exact Or.inl
      · rintro (h | ⟨k, h1, h2⟩)
        · exact h
        · rw [show k = 0 by omega, hq] at h2; exact absurd h2.symm z
  · rw [show k = 0 by omega, hq]
    exact ⟨hc, hp, Cn.rf⟩
theorem Bfs.done {P : Nat → Bool} {w n c : Nat} {old sn : Nat → Bool} {q : Nat → Nat} {m e : Nat} (h : Bfs P w n c old sn q m m e) (hp : P c = true) (ho : ∀ x, old x = true ↔ Sn P w c x) (hc : sn c = true) (x : Nat) : sn x = true ↔ Sn P w (c + 1) x := by
  rw [Sn.succ]
  constructor
  · intro hx
    rcases (h.1 x).mp hx with h1 | ⟨k, h1, h2⟩
    · exact Or.inl ((ho x).mp h1)
    · exact Or.inr ⟨hp, h2 ▸ (h.2.1 k h1).2.2⟩
  · rintro (h1 | ⟨-, h1⟩)
    · exact (h.1 x).mpr (Or.inl ((ho x).mpr h1))
    · refine h1 (fun x => sn x = true) hc (fun a b h2 h3 h4 => ?_)
      rcases (h.1 a).mp h2 with h5 | ⟨k, h5, h6⟩
      · exact (h.1 b).mpr (Or.inl ((ho b).mpr (((ho a).mp h5).st h3 h4)))
      · exact h.2.2.2.1 k h5 b h3 (h6 ▸ h4)
end
section
-- made by wip/whole/mk_m3.py
section M3
variable {X : Cx} {l : Launch} {M : Mem}
set_option maxHeartbeats 1000000 in
theorem m_partsOf (lv : Nat) (hlv : lv < 6) {w h : Nat} {mp dr : Nat → Nat} (Hw : Wf w h mp dr) (H : WM w h mp dr M) : PC X l mX8_partsOf 2 [.ref 29, .int (nI lv)] G0 M (fun v M' => v = some (.int (nI (prt (fun c => decide (dr c = lv)) w (w * h)))) ∧ FI [34, 35] M M') := by
  refine PC.ofW okX8_partsOf ?_
  have hn := Hw.n
  obtain ⟨n, en⟩ : ∃ n, n = w * h := ⟨_, rfl⟩
  obtain ⟨P, eP⟩ : ∃ P : Nat → Bool, P = fun c => decide (dr c = lv) := ⟨_, rfl⟩
  have hPd : ∀ c, P c = true ↔ dr c = lv := fun c => by rw [eP]; simp
  have hPn : ∀ c, P c = true → c < n := fun c hc => Nat.lt_of_not_le (fun q => by have := Hw.2.2.2.2.2.2.2 c (en ▸ q); have := (hPd c).mp hc; omega)
  rw [← en, ← eP]
  have hn36 : n ≤ 36 := by omega
  have loop25 : ∀ k : Nat, ∀ (c : Nat) (sn : Nat → Bool) (M2 : Mem), c ≤ n → FI [34, 35] M M2 → (∀ x, x < 36 → M2.1 34 x = bo (sn x)) → (∀ x, sn x = true ↔ Sn P w c x) → n - c < k → PW X l mX8_partsOf 2 (fun v M' => v = some (.int (nI (prt P w n))) ∧ FI [34, 35] M M') 25 [.ref 29, .int (nI lv), .int (nI (ctp (Rep P w) c)), .int (nI c), .null, .null, .null] [] G0 M2 := by
    intro k
    induction k with
    | zero => intro c sn M2 hc hF hs hS hk; exact absurd hk (Nat.not_lt_zero _)
    | succ k ih =>
      intro c sn M2 hc hF hs hS hk
      have hcl := ctp_le (Rep P w) c
      have loop80 : ∀ k80 : Nat, ∀ (m i : Nat) (sn2 : Nat → Bool) (q : Nat → Nat) (M3 : Mem), c < n → P c = true → i ≤ m → FI [34, 35] M M3 → (∀ x, x < 36 → M3.1 34 x = bo (sn2 x)) → (∀ j, j < m → M3.1 35 j = nI (q j)) → Bfs P w n c sn sn2 q m i 0 → sn2 c = true → n - i < k80 → PW X l mX8_partsOf 2 (fun v M' => v = some (.int (nI (prt P w n))) ∧ FI [34, 35] M M') 80 [.ref 29, .int (nI lv), .int (nI (ctp (Rep P w) (c + 1))), .int (nI c), .int (nI m), .int (nI i), .null] [] G0 M3 := by
        intro k80
        induction k80 with
        | zero => intro m i sn2 q M3 hcn hpt him hF3 hs3 hq3 hB hc3 hk3; exact absurd hk3 (Nat.not_lt_zero _)
        | succ k80 ih80 =>
          intro m i sn2 q M3 hcn hpt him hF3 hs3 hq3 hB hc3 hk3
          have hmn := hB.m_le
          have loop90 : ∀ k90 : Nat, ∀ (e m2 : Nat) (sn3 : Nat → Bool) (q2 : Nat → Nat) (M4 : Mem), i < m2 → e ≤ n → FI [34, 35] M M4 → (∀ x, x < 36 → M4.1 34 x = bo (sn3 x)) → (∀ j, j < m2 → M4.1 35 j = nI (q2 j)) → Bfs P w n c sn sn3 q2 m2 i e → sn3 c = true → n - e < k90 → PW X l mX8_partsOf 2 (fun v M' => v = some (.int (nI (prt P w n))) ∧ FI [34, 35] M M') 90 [.ref 29, .int (nI lv), .int (nI (ctp (Rep P w) (c + 1))), .int (nI c), .int (nI m2), .int (nI i), .int (nI e)] [] G0 M4 := by
            intro k90
            induction k90 with
            | zero => intro e m2 sn3 q2 M4 him2 hen hF4 hs4 hq4 hB4 hc4 hk4; exact absurd hk4 (Nat.not_lt_zero _)
            | succ k90 ih90 =>
              intro e m2 sn3 q2 M4 him2 hen hF4 hs4 hq4 hB4 hc4 hk4
              have hmn2 := hB4.m_le
              refine PW.ige rfl trivial (fun h101 => ?_) (fun h101 => ?_)
              · skip
                rw [(H.fi hF4).wh, ← en, nI_leI (by omega) (by omega)] at h101
                have e9 : e = n := by omega
                subst e9
                refine PW.goto rfl trivial ?_
                rw [nI_1]
                refine PW.nl [6] ?_
                exact ih80 m2 (i + 1) sn3 q2 M4 hcn hpt (by omega) hF4 hs4 hq4 (hB4.next hPn) hc4 (by omega)
              · skip
                rw [(H.fi hF4).wh, ← en, nI_leI (by omega) (by omega)] at h101
                refine PW.ine rfl ⟨trivial, vp_in_nI (by omega) (by decide)⟩ (fun h112 => ?_) (fun h112 => ?_)
                · skip
                  have hd6 := Hw.2.2.2.2.2.1 e
                  rw [nI_clamp (by omega), (H.fi hF4).2.2.2 e (by omega), nI_eq (by omega) (by omega)] at h112
                  have hsk : P e = true → adj w (q2 i) e = true → sn3 e = true := fun q _ => absurd ((hPd e).mp q) h112
                  refine PW.goto rfl trivial ?_
                  rw [nI_1]
                  exact ih90 (e + 1) m2 sn3 q2 M4 him2 (by omega) hF4 hs4 hq4 (hB4.skip hsk) hc4 (by omega)
                · skip
                  have hd6 := Hw.2.2.2.2.2.1 e
                  rw [nI_clamp (by omega), (H.fi hF4).2.2.2 e (by omega), nI_eq (by omega) (by omega)] at h112
                  have hpe : P e = true := (hPd e).mpr h112
                  refine PW.zne rfl ⟨trivial, vp_in_nI (by omega) (by decide)⟩ (fun h122 => ?_) (fun h122 => ?_)
                  · skip
                    rw [nI_clamp (by omega), hs4 e (by omega), bo_ne] at h122
                    have hsk : P e = true → adj w (q2 i) e = true → sn3 e = true := fun _ _ => h122
                    refine PW.goto rfl trivial ?_
                    rw [nI_1]
                    exact ih90 (e + 1) m2 sn3 q2 M4 him2 (by omega) hF4 hs4 hq4 (hB4.skip hsk) hc4 (by omega)
                  · skip
                    rw [nI_clamp (by omega), hs4 e (by omega), bo_eq] at h122
                    have hqi := hq4 i him2
                    have hqn := (hB4.2.1 i him2).1
                    refine PW.funV rfl ⟨trivial, vp_in_nI (by omega) (by decide)⟩ sX8_121 rfl rfl (by decide) rfl (show PF X l mX8_isBeside 1 [.ref 29, .int (M4.1 35 (nI i).toNatClampNeg), .int (nI e)] G0 M4 (.int (bo (adj w (q2 i) e))) from by rw [nI_clamp (by omega), hqi]; exact m_isBeside (q2 i) e (by omega) (by omega) Hw (H.fi hF4)) ?_
                    refine PW.zeq rfl trivial (fun h138 => ?_) (fun h138 => ?_)
                    · skip
                      rw [bo_eq] at h138
                      have hsk : P e = true → adj w (q2 i) e = true → sn3 e = true := fun _ q => by rw [h138] at q; cases q
                      refine PW.goto rfl trivial ?_
                      rw [nI_1]
                      exact ih90 (e + 1) m2 sn3 q2 M4 him2 (by omega) hF4 hs4 hq4 (hB4.skip hsk) hc4 (by omega)
                    · skip
                      rw [bo_ne] at h138
                      obtain ⟨hB5, hm5⟩ := hB4.add him2 (by omega) hpe h138 h122
                      refine PW.goto rfl ⟨⟨trivial, vp_in_nI (by omega) (by decide)⟩, vp_in_nI (by omega) (by decide)⟩ ?_
                      rw [nI_clamp (by omega), nI_clamp (by omega), nI_1, nI_1]
                      refine ih90 (e + 1) (m2 + 1) _ _ _ (by omega) (by omega) ((hF4.put (by decide)).put (by decide)) (fun x hx => ?_) (fun j hj => ?_) hB5 ?_ (by omega)
                      · by_cases q : x = e
                        · subst q; simp [va_up, upd, bo]; rfl
                        · simp [va_up, upd, q]; exact hs4 x hx
                      · by_cases q : j = m2
                        · subst q; simp [va_up, upd]
                        · simp [va_up, upd, q]; exact hq4 j (by omega)
                      · by_cases q : c = e
                        · simp [q]
                        · simp [q]; exact hc4
          refine PW.ige rfl trivial (fun h84 => ?_) (fun h84 => ?_)
          · skip
            rw [nI_leI (by omega) (by omega)] at h84
            have e : i = m := by omega
            subst e
            refine PW.goto rfl trivial ?_
            rw [nI_1]
            refine PW.nl [4, 5] ?_
            exact ih (c + 1) sn2 M3 (by omega) hF3 hs3 (hB.done hpt hS hc3) (by omega)
          · skip
            rw [nI_leI (by omega) (by omega)] at h84
            refine PW.to 90 rfl trivial ?_
            exact loop90 (n + 1) 0 m sn2 q M3 (by omega) (Nat.zero_le _) hF3 hs3 hq3 hB hc3 (by omega)
      refine PW.ige rfl trivial (fun h35 => ?_) (fun h35 => ?_)
      · skip
        rw [(H.fi hF).wh, ← en, nI_leI (by omega) (by omega)] at h35
        have e : c = n := by omega
        subst e
        refine PW.iret rfl rfl trivial ?_
        exact ⟨rfl, hF⟩
      · skip
        rw [(H.fi hF).wh, ← en, nI_leI (by omega) (by omega)] at h35
        refine PW.ine rfl ⟨trivial, vp_in_nI (by omega) (by decide)⟩ (fun h45 => ?_) (fun h45 => ?_)
        · skip
          have hd6 := Hw.2.2.2.2.2.1 c
          rw [nI_clamp (by omega), (H.fi hF).2.2.2 c (by omega), nI_eq (by omega) (by omega)] at h45
          have hpf : ¬ P c = true := fun q => h45 ((hPd c).mp q)
          refine PW.goto rfl trivial ?_
          rw [nI_1]
          first
          | (refine PW.lc ?_ (ih (c + 1) sn M2 (by omega) hF hs (fun x => ?_) (by omega))
             · rw [ctp_f (fun q => hpf q.1)]
             · rw [hS, Sn.succ]; exact ⟨Or.inl, fun q => q.elim id (fun z => absurd z.1 hpf)⟩)
          | (have hsc := (hS c).mp h54
             refine PW.lc ?_ (ih (c + 1) sn M2 (by omega) hF hs (fun x => ?_) (by omega))
             · rw [ctp_f (fun q => (rep_iff.mp q).2 hsc)]
             · rw [hS, Sn.succ]; exact ⟨Or.inl, fun q => q.elim id (fun z => by obtain ⟨d, d1, d2, d3⟩ := hsc; exact ⟨d, d1, d2, d3.tr z.2⟩)⟩)
        · skip
          have hd6 := Hw.2.2.2.2.2.1 c
          rw [nI_clamp (by omega), (H.fi hF).2.2.2 c (by omega), nI_eq (by omega) (by omega)] at h45
          have hpt : P c = true := (hPd c).mpr h45
          refine PW.zne rfl ⟨trivial, vp_in_nI (by omega) (by decide)⟩ (fun h54 => ?_) (fun h54 => ?_)
          · skip
            rw [nI_clamp (by omega), hs c (by omega), bo_ne] at h54
            refine PW.goto rfl trivial ?_
            rw [nI_1]
            first
            | (refine PW.lc ?_ (ih (c + 1) sn M2 (by omega) hF hs (fun x => ?_) (by omega))
               · rw [ctp_f (fun q => hpf q.1)]
               · rw [hS, Sn.succ]; exact ⟨Or.inl, fun q => q.elim id (fun z => absurd z.1 hpf)⟩)
            | (have hsc := (hS c).mp h54
               refine PW.lc ?_ (ih (c + 1) sn M2 (by omega) hF hs (fun x => ?_) (by omega))
               · rw [ctp_f (fun q => (rep_iff.mp q).2 hsc)]
               · rw [hS, Sn.succ]; exact ⟨Or.inl, fun q => q.elim id (fun z => by obtain ⟨d, d1, d2, d3⟩ := hsc; exact ⟨d, d1, d2, d3.tr z.2⟩)⟩)
          · skip
            rw [nI_clamp (by omega), hs c (by omega), bo_eq] at h54
            refine PW.to 80 rfl ⟨⟨trivial, vp_in_nI (by omega) (by decide)⟩, vp_in_nI (n := 0) (by decide) (by decide)⟩ ?_
            have hrep : Rep P w c := rep_iff.mpr ⟨hpt, fun q => by rw [(hS c).mpr q] at h54; cases h54⟩
            rw [nI_clamp (by omega), nI_1, ← ctp_t hrep]
            refine loop80 (n + 1) 1 0 (fun x => if x = c then true else sn x) (fun _ => c) _ (by omega) hpt (by omega) ((hF.put (by decide)).put (by decide)) (fun x hx => ?_) (fun j hj => ?_) (Bfs.start (by omega) hpt rfl) (if_pos rfl) (by omega)
            · by_cases q : x = c
              · subst q; simp [va_up, upd, bo]; rfl
              · simp [va_up, upd, q]; exact hs x hx
            · rw [show j = 0 by omega]; simp [va_up, upd]
  have loop2 : ∀ k : Nat, ∀ (i : Nat) (M2 : Mem), i ≤ 36 → FI [34, 35] M M2 → (∀ j, j < i → M2.1 34 j = 0) → 36 - i < k → PW X l mX8_partsOf 2 (fun v M' => v = some (.int (nI (prt P w n))) ∧ FI [34, 35] M M') 2 [.ref 29, .int (nI lv), .int (nI i), .null, .null, .null, .null] [] G0 M2 := by
    intro k
    induction k with
    | zero => intro i M2 hi hF hz hk; exact absurd hk (Nat.not_lt_zero _)
    | succ k ih =>
      intro i M2 hi hF hz hk
      refine PW.ige rfl trivial (fun h5 => ?_) (fun h5 => ?_)
      · skip
        rw [show (36 : Int32) = nI 36 from rfl, nI_leI (by omega) (by omega)] at h5
        have e : i = 36 := by omega
        subst e
        refine PW.to 25 rfl trivial ?_
        exact loop25 (n + 1) 0 (fun _ => false) M2 (Nat.zero_le _) hF (fun x hx => by rw [hz x hx]; rfl) (fun x => by simp [Sn]) (by omega)
      · skip
        rw [show (36 : Int32) = nI 36 from rfl, nI_leI (by omega) (by omega)] at h5
        refine PW.goto rfl ⟨trivial, vp_in_nI (by omega) (by decide)⟩ ?_
        rw [nI_clamp (by omega), nI_1]
        refine ih (i + 1) _ (by omega) (hF.put (by decide)) (fun j hj => ?_) (by omega)
        by_cases q : j = i
        · subst q; exact up_s
        · exact (up_n q).trans (hz j (by omega))
  refine PW.to 2 rfl trivial ?_
  exact loop2 37 0 M (by omega) FI.rf (fun j hj => absurd hj (Nat.not_lt_zero j)) (by omega)
end M3
end
section
/-! faults, changes, what may be handed -/
def pt (a b : Bool) : Nat := if a && !b then 2 else if b && !a then 1 else 0
noncomputable def fl1 (w n : Nat) (dr : Nat → Nat) (du : Nat → Nat) (l : Nat) : Nat := ad (many dr l n) (du l) + (if 1 < prt (fun c => decide (dr c = l)) w n then 3 * (prt (fun c => decide (dr c = l)) w n - 1) else 0)
def fl2 (w n : Nat) (mp dr : Nat → Nat) (l k : Nat) : Nat := fb_sm (fun m => pt (nbr w n mp l m) (nbr w n dr l m)) k
noncomputable def flt (w n : Nat) (mp dr : Nat → Nat) (du : Nat → Nat) (k : Nat) : Nat := fb_sm (fun l => fl1 w n dr du l + fl2 w n mp dr l l) k
def chg (w n : Nat) (dr : Nat → Nat) (c l : Nat) : Bool := if dr c = l then false else if l = 6 then true else tch w n dr c l || (decide (dr c = 6) && decide (many dr l n = 0))
def set1 (dr : Nat → Nat) (c l : Nat) : Nat → Nat := fun x => if x = c then l else dr x
noncomputable def mayh (w n : Nat) (dr : Nat → Nat) (c l : Nat) : Bool := !decide (dr c = 6) && (!decide (dr c = l) && (tch w n dr c l && (decide (2 ≤ many dr (dr c) n) && decide (prt (fun x => decide (set1 dr c l x = dr c)) w n ≤ prt (fun x => decide (dr x = dr c)) w n))))
/-- the first of n -/
def fnd (p : Nat → Bool) : Nat → Option Nat
  | 0 => none
  | n + 1 => match fnd p n with
    | some c => some c
    | none => if p n then some n else none
theorem fnd_some {p : Nat → Bool} {c : Nat} : ∀ {n : Nat}, fnd p n = some c ↔ c < n ∧ p c = true ∧ ∀ d, d < c → p d = false
  | 0 => by simp [fnd]
  | n + 1 => by
    have ih := fnd_some (p := p) (c := c) (n := n)
    simp only [fnd]
    cases e : fnd p n with
    | some d =>
      dsimp only
      have hd := (fnd_some (p := p) (c := d) (n := n)).mp e
      constructor
      · intro h
        cases h
        exact ⟨by omega, hd.2⟩
      · rintro ⟨h1, h2, h3⟩
        have : c = d := by
          rcases Nat.lt_trichotomy c d with q | q | q
          · have := hd.2.2 c q; rw [h2] at this; cases this
          · exact q
          · have := h3 d q; rw [hd.2.1] at this; cases this
        rw [this]
    | none =>
      dsimp only
      rw [e] at ih
      constructor
      · intro h
        split at h
        · rename_i hp
          cases h
          refine ⟨by omega, hp, fun d hd => ?_⟩
          cases hpd : p d with
          | false => rfl
          | true =>
            exfalso
            obtain ⟨i, h1, h2, h3⟩ := fb_first (p := fun x => p x = true) (n := c) ⟨d, hd, hpd⟩
            have := (fnd_some (p := p) (c := i) (n := c)).mpr ⟨h1, h2, fun x hx => by simpa using h3 x hx⟩
            rw [e] at this; cases this
        · cases h
      · rintro ⟨h1, h2, h3⟩
        by_cases q : c = n
        · subst q; rw [if_pos h2]
        · exact absurd (ih.mpr ⟨by omega, h2, h3⟩) (by simp)
theorem fnd_none {p : Nat → Bool} {n : Nat} : fnd p n = none ↔ ∀ d, d < n → p d = false := by
  constructor
  · intro h d hd
    cases hpd : p d with
    | false => rfl
    | true =>
      exfalso
      obtain ⟨i, h1, h2, h3⟩ := fb_first (p := fun x => p x = true) ⟨d, hd, hpd⟩
      have := (fnd_some (p := p) (c := i) (n := n)).mpr ⟨h1, h2, fun x hx => by simpa using h3 x hx⟩
      rw [h] at this; cases this
  · intro h
    cases e : fnd p n with
    | none => rfl
    | some c =>
      have := fnd_some.mp e
      rw [h c this.1] at this
      exact absurd this.2.1 (by simp)
theorem fnd_cong {p q : Nat → Bool} : ∀ {n : Nat}, (∀ k, k < n → p k = q k) → fnd p n = fnd q n
  | 0, _ => rfl
  | n + 1, h => by simp only [fnd]; rw [fnd_cong (fun k hk => h k (by omega)), h n (by omega)]
/-- the first (cell, owner) whose change leaves fewest faults -/
noncomputable def mst (w n : Nat) (mp dr : Nat → Nat) (du : Nat → Nat) : Nat → Nat × Option Nat
  | 0 => (flt w n mp dr du 6, none)
  | i + 1 => if chg w n dr (i / 7) (i % 7) = true ∧ flt w n mp (set1 dr (i / 7) (i % 7)) du 6 < (mst w n mp dr du i).1 then (flt w n mp (set1 dr (i / 7) (i % 7)) du 6, some i) else mst w n mp dr du i
theorem set1_eq (dr : Nat → Nat) (c l x : Nat) : set1 dr c l x = if x = c then l else dr x := rfl
theorem wf_set1 {w h : Nat} {mp dr : Nat → Nat} (H : Wf w h mp dr) {c l : Nat} (hc : c < w * h) (hl : l ≤ 6) : Wf w h mp (set1 dr c l) := by
  refine ⟨H.1, H.2.1, H.2.2.1, H.2.2.2.1, H.2.2.2.2.1, fun x => ?_, H.2.2.2.2.2.2.1, fun x hx => ?_⟩
  · rw [set1_eq]
    split
    · exact hl
    · exact H.2.2.2.2.2.1 x
  · rw [set1_eq, if_neg (by omega)]
    exact H.2.2.2.2.2.2.2 x hx
theorem wm_set1 {w h : Nat} {mp dr : Nat → Nat} {M : Mem} (H : WM w h mp dr M) {c l : Nat} (hc : c < 36) : WM w h mp (set1 dr c l) (va_up M.1 31 (upd (M.1 31) c (nI l)), M.2) := by
  refine ⟨by simp [va_up]; exact H.1, by simp [va_up]; exact H.2.1, fun x hx => by simp [va_up]; exact H.2.2.1 x hx, fun x hx => ?_⟩
  rw [set1_eq]
  by_cases q : x = c
  · subst q; rw [if_pos rfl]; exact up_s
  · rw [if_neg q]; exact (up_n q).trans (H.2.2.2 x hx)
theorem hm_set1 {hd : Nat → Nat} {wy : Nat} {M : Mem} (H : HM hd wy M) {a : Nat} {f : Nat → Int32} (h1 : a ≠ 29 ∧ a ≠ 32 := by decide) : HM hd wy (va_up M.1 a f, M.2) := ⟨by simp [va_up, Ne.symm h1.1]; exact H.1, fun k hk => by simp [va_up, Ne.symm h1.2]; exact H.2 k hk⟩
theorem fi_put {A : List Nat} {M M2 : Mem} {c : Nat} {x y : Int32} (hx : M.1 31 c = x) (h : FI A (va_up M.1 31 (upd (M.1 31) c y), M.2) M2) (h31 : 31 ∉ A) : FI A M (va_up M2.1 31 (upd (M2.1 31) c x), M2.2) := by
  refine ⟨fun a ha => ?_, h.2⟩
  by_cases q : a = 31
  · subst q
    funext j
    have h3 : M2.1 31 = upd (M.1 31) c y := by rw [h.1 31 h31]; simp [va_up]
    by_cases z : j = c
    · subst z; rw [up_s, hx]
    · rw [up_n z, h3]; simp [upd, z]
  · have h3 := h.1 a ha
    simp [va_up, q] at h3 ⊢
    exact h3
end
section
-- made by wip/whole/mk_m4.py
section M4
variable {X : Cx} {l : Launch} {M : Mem}
theorem due_lt {hd : Nat → Nat} {wy n l : Nat} (Hd : Hf hd wy) (hn : n ≤ 36) (hl : l < 6) : due hd wy n l < 2 ^ 30 := by
  unfold due
  split
  · decide
  · split
    · have h1 := mul_lt (b := 0) (Hd.2 l) hn
      have h2 := Nat.div_le_self (hd l * n) (fb_sm hd 6)
      split <;> omega
    · have := shd_le hd wy n l hl
      omega
theorem m_allFaults {w h : Nat} {mp dr : Nat → Nat} (Hw : Wf w h mp dr) (H : WM w h mp dr M) {hd : Nat → Nat} {wy : Nat} (Hd : Hf hd wy) (HH : HM hd wy M) : PC X l mX8_allFaults 4 [.ref 29] G0 M (fun v M' => v = some (.int (nI (flt w (w * h) mp dr (due hd wy (w * h - many mp 6 (w * h))) 6))) ∧ FI [33, 34, 35] M M') := by
  refine PC.ofW okX8_allFaults ?_
  have hn := Hw.n
  obtain ⟨n, en⟩ : ∃ n, n = w * h := ⟨_, rfl⟩
  obtain ⟨du, edu⟩ : ∃ du, du = due hd wy (w * h - many mp 6 (w * h)) := ⟨_, rfl⟩
  rw [← edu, ← en]
  have loop8 : ∀ k : Nat, ∀ (i : Nat) (M2 : Mem), i ≤ 6 → FI [33, 34, 35] M M2 → (∀ j, j < 6 → M2.1 33 j = nI (du j)) → (∀ j, j < 6 → du j < 2 ^ 30) → 6 - i < k → PW X l mX8_allFaults 4 (fun v M' => v = some (.int (nI (flt w n mp dr du 6))) ∧ FI [33, 34, 35] M M') 8 [.ref 29, .int (nI (flt w n mp dr du i)), .int (nI i), .null, .null, .null, .null] [] G0 M2 := by
    intro k
    induction k with
    | zero => intro i M2 hi hF hz hdu hk; exact absurd hk (Nat.not_lt_zero _)
    | succ k ih =>
      intro i M2 hi hF hz hdu hk
      have loop57 : ∀ k57 : Nat, ∀ (m : Nat) (M3 : Mem), FI [33, 34, 35] M M3 → (∀ j, j < 6 → M3.1 33 j = nI (du j)) → i < 6 → m ≤ i → i - m < k57 → PW X l mX8_allFaults 4 (fun v M' => v = some (.int (nI (flt w n mp dr du 6))) ∧ FI [33, 34, 35] M M') 57 [.ref 29, .int (nI (flt w n mp dr du i + (fl1 w n dr du i + fl2 w n mp dr i m))), .int (nI i), .null, .int (nI m), .null, .null] [] G0 M3 := by
        intro k57
        induction k57 with
        | zero => intro m M3 hF3 hz3 hi6 hm hk3; exact absurd hk3 (Nat.not_lt_zero _)
        | succ k57 ih57 =>
          intro m M3 hF3 hz3 hi6 hm hk3
          refine PW.ige rfl trivial (fun h60 => ?_) (fun h60 => ?_)
          · skip
            rw [nI_leI (by omega) (by omega)] at h60
            have e : m = i := by omega
            subst e
            refine PW.goto rfl trivial ?_
            rw [nI_1]
            refine PW.nl [4] ?_
            exact ih (m + 1) M3 (by omega) hF3 hz3 hdu (by omega)
          · skip
            rw [nI_leI (by omega) (by omega)] at h60
            refine PW.funV rfl trivial sX8_132 rfl rfl (by decide) rfl (m_areBeside 0 i m (by omega) (by omega) Hw (H.fi hF3)) ?_
            rw [show sl 0 mp dr = mp from rfl, ← en]
            refine PW.funV rfl trivial sX8_132 rfl rfl (by decide) rfl (m_areBeside 1 i m (by omega) (by omega) Hw (H.fi hF3)) ?_
            rw [show sl 1 mp dr = dr from rfl, ← en]
            refine PW.zeq rfl trivial (fun h86 => ?_) (fun h86 => ?_)
            · skip
              rw [bo_eq] at h86
              refine PW.zeq rfl trivial (fun h100 => ?_) (fun h100 => ?_)
              · skip
                rw [bo_eq] at h100
                refine PW.goto rfl trivial ?_
                rw [nI_1]
                refine PW.nl [5, 6] ?_
                refine PW.lc ?_ (ih57 (m + 1) M3 hF3 hz3 hi6 (by omega) (by omega))
                have e2 : fl2 w n mp dr i (m + 1) = fl2 w n mp dr i m + pt (nbr w n mp i m) (nbr w n dr i m) := rfl
                first
                | (rw [e2, show pt (nbr w n mp i m) (nbr w n dr i m) = 2 from by simp_all [pt], show (2 : Int32) = nI 2 from rfl, nI_add]; rfl)
                | (rw [e2, show pt (nbr w n mp i m) (nbr w n dr i m) = 1 from by simp_all [pt], nI_1]; rfl)
                | (rw [e2, show pt (nbr w n mp i m) (nbr w n dr i m) = 0 from by simp_all [pt], Int32.add_zero]; rfl)
              · skip
                rw [bo_ne] at h100
                refine PW.zne rfl trivial (fun h105 => ?_) (fun h105 => ?_)
                · skip
                  rw [bo_ne] at h105
                  refine PW.goto rfl trivial ?_
                  rw [nI_1]
                  refine PW.nl [5, 6] ?_
                  refine PW.lc ?_ (ih57 (m + 1) M3 hF3 hz3 hi6 (by omega) (by omega))
                  have e2 : fl2 w n mp dr i (m + 1) = fl2 w n mp dr i m + pt (nbr w n mp i m) (nbr w n dr i m) := rfl
                  first
                  | (rw [e2, show pt (nbr w n mp i m) (nbr w n dr i m) = 2 from by simp_all [pt], show (2 : Int32) = nI 2 from rfl, nI_add]; rfl)
                  | (rw [e2, show pt (nbr w n mp i m) (nbr w n dr i m) = 1 from by simp_all [pt], nI_1]; rfl)
                  | (rw [e2, show pt (nbr w n mp i m) (nbr w n dr i m) = 0 from by simp_all [pt], Int32.add_zero]; rfl)
                · skip
                  rw [bo_eq] at h105
                  refine PW.goto rfl trivial ?_
                  refine PW.goto rfl trivial ?_
                  rw [nI_1]
                  refine PW.nl [5, 6] ?_
                  refine PW.lc ?_ (ih57 (m + 1) M3 hF3 hz3 hi6 (by omega) (by omega))
                  have e2 : fl2 w n mp dr i (m + 1) = fl2 w n mp dr i m + pt (nbr w n mp i m) (nbr w n dr i m) := rfl
                  first
                  | (rw [e2, show pt (nbr w n mp i m) (nbr w n dr i m) = 2 from by simp_all [pt], show (2 : Int32) = nI 2 from rfl, nI_add]; rfl)
                  | (rw [e2, show pt (nbr w n mp i m) (nbr w n dr i m) = 1 from by simp_all [pt], nI_1]; rfl)
                  | (rw [e2, show pt (nbr w n mp i m) (nbr w n dr i m) = 0 from by simp_all [pt], Int32.add_zero]; rfl)
            · skip
              rw [bo_ne] at h86
              refine PW.zne rfl trivial (fun h91 => ?_) (fun h91 => ?_)
              · skip
                rw [bo_ne] at h91
                refine PW.zeq rfl trivial (fun h100 => ?_) (fun h100 => ?_)
                · skip
                  rw [bo_eq] at h100
                  refine PW.goto rfl trivial ?_
                  rw [nI_1]
                  refine PW.nl [5, 6] ?_
                  refine PW.lc ?_ (ih57 (m + 1) M3 hF3 hz3 hi6 (by omega) (by omega))
                  have e2 : fl2 w n mp dr i (m + 1) = fl2 w n mp dr i m + pt (nbr w n mp i m) (nbr w n dr i m) := rfl
                  first
                  | (rw [e2, show pt (nbr w n mp i m) (nbr w n dr i m) = 2 from by simp_all [pt], show (2 : Int32) = nI 2 from rfl, nI_add]; rfl)
                  | (rw [e2, show pt (nbr w n mp i m) (nbr w n dr i m) = 1 from by simp_all [pt], nI_1]; rfl)
                  | (rw [e2, show pt (nbr w n mp i m) (nbr w n dr i m) = 0 from by simp_all [pt], Int32.add_zero]; rfl)
                · skip
                  rw [bo_ne] at h100
                  refine PW.zne rfl trivial (fun h105 => ?_) (fun h105 => ?_)
                  · skip
                    rw [bo_ne] at h105
                    refine PW.goto rfl trivial ?_
                    rw [nI_1]
                    refine PW.nl [5, 6] ?_
                    refine PW.lc ?_ (ih57 (m + 1) M3 hF3 hz3 hi6 (by omega) (by omega))
                    have e2 : fl2 w n mp dr i (m + 1) = fl2 w n mp dr i m + pt (nbr w n mp i m) (nbr w n dr i m) := rfl
                    first
                    | (rw [e2, show pt (nbr w n mp i m) (nbr w n dr i m) = 2 from by simp_all [pt], show (2 : Int32) = nI 2 from rfl, nI_add]; rfl)
                    | (rw [e2, show pt (nbr w n mp i m) (nbr w n dr i m) = 1 from by simp_all [pt], nI_1]; rfl)
                    | (rw [e2, show pt (nbr w n mp i m) (nbr w n dr i m) = 0 from by simp_all [pt], Int32.add_zero]; rfl)
                  · skip
                    rw [bo_eq] at h105
                    refine PW.goto rfl trivial ?_
                    refine PW.goto rfl trivial ?_
                    rw [nI_1]
                    refine PW.nl [5, 6] ?_
                    refine PW.lc ?_ (ih57 (m + 1) M3 hF3 hz3 hi6 (by omega) (by omega))
                    have e2 : fl2 w n mp dr i (m + 1) = fl2 w n mp dr i m + pt (nbr w n mp i m) (nbr w n dr i m) := rfl
                    first
                    | (rw [e2, show pt (nbr w n mp i m) (nbr w n dr i m) = 2 from by simp_all [pt], show (2 : Int32) = nI 2 from rfl, nI_add]; rfl)
                    | (rw [e2, show pt (nbr w n mp i m) (nbr w n dr i m) = 1 from by simp_all [pt], nI_1]; rfl)
                    | (rw [e2, show pt (nbr w n mp i m) (nbr w n dr i m) = 0 from by simp_all [pt], Int32.add_zero]; rfl)
              · skip
                rw [bo_eq] at h91
                refine PW.goto rfl trivial ?_
                refine PW.goto rfl trivial ?_
                rw [nI_1]
                refine PW.nl [5, 6] ?_
                refine PW.lc ?_ (ih57 (m + 1) M3 hF3 hz3 hi6 (by omega) (by omega))
                have e2 : fl2 w n mp dr i (m + 1) = fl2 w n mp dr i m + pt (nbr w n mp i m) (nbr w n dr i m) := rfl
                first
                | (rw [e2, show pt (nbr w n mp i m) (nbr w n dr i m) = 2 from by simp_all [pt], show (2 : Int32) = nI 2 from rfl, nI_add]; rfl)
                | (rw [e2, show pt (nbr w n mp i m) (nbr w n dr i m) = 1 from by simp_all [pt], nI_1]; rfl)
                | (rw [e2, show pt (nbr w n mp i m) (nbr w n dr i m) = 0 from by simp_all [pt], Int32.add_zero]; rfl)
      refine PW.ige rfl trivial (fun h11 => ?_) (fun h11 => ?_)
      · skip
        rw [i6 (by omega)] at h11
        have e : i = 6 := by omega
        subst e
        refine PW.iret rfl rfl trivial ?_
        exact ⟨rfl, hF⟩
      · skip
        rw [i6 (by omega)] at h11
        refine PW.callV rfl trivial sX8_125 rfl rfl (by decide) rfl (m_partsOf i (by omega) Hw (H.fi hF)) (fun v16 M16 hq16 => ?_)
        obtain ⟨rfl, hF1⟩ := hq16
        have hF2 := hF.tr (hF1.mono (by decide))
        rw [← en]
        have hz2 : ∀ j, j < 6 → M16.1 33 j = nI (du j) := fun j hj => by rw [hF1.at 33]; exact hz j hj
        have hp := prt_le (fun c => decide (dr c = i)) w n
        refine PW.funV rfl trivial sX8_106 rfl rfl (by decide) rfl (m_manyOf 1 i (by omega) Hw (H.fi hF2)) ?_
        rw [show sl 1 mp dr = dr from rfl, ← en]
        have hm := many_le dr i n
        refine PW.funS rfl ⟨trivial, vp_in_nI (by omega) (by decide)⟩ sX8_117 rfl (by decide) rfl (m_size _) ?_
        rw [nI_clamp (by omega), hz2 i (by omega), nI_abs (by omega) (hdu i (by omega))]
        refine PW.ile rfl trivial (fun h39 => ?_) (fun h39 => ?_)
        · skip
          rw [show (1 : Int32) = nI 1 from rfl, nI_leI (by omega) (by omega)] at h39
          refine PW.to 57 rfl trivial ?_
          refine PW.nl [3] ?_
          refine PW.lc ?_ (loop57 7 0 M16 hF2 hz2 (by omega) (Nat.zero_le _) (by omega))
          first
          | (rw [show (3 : Int32) = nI 3 from rfl, nI_m1 (by omega), pk_mul, nI_add, nI_add]
             simp only [fl1, fl2, fb_sm, Nat.add_zero, if_pos (show 1 < prt (fun c => decide (dr c = i)) w n by omega)]; rfl)
          | (rw [Int32.add_zero, nI_add]
             simp only [fl1, fl2, fb_sm, Nat.add_zero, if_neg (show ¬ 1 < prt (fun c => decide (dr c = i)) w n by omega)]; rfl)
        · skip
          rw [show (1 : Int32) = nI 1 from rfl, nI_leI (by omega) (by omega)] at h39
          refine PW.goto rfl trivial ?_
          refine PW.to 57 rfl trivial ?_
          refine PW.nl [3] ?_
          refine PW.lc ?_ (loop57 7 0 M16 hF2 hz2 (by omega) (Nat.zero_le _) (by omega))
          first
          | (rw [show (3 : Int32) = nI 3 from rfl, nI_m1 (by omega), pk_mul, nI_add, nI_add]
             simp only [fl1, fl2, fb_sm, Nat.add_zero, if_pos (show 1 < prt (fun c => decide (dr c = i)) w n by omega)]; rfl)
          | (rw [Int32.add_zero, nI_add]
             simp only [fl1, fl2, fb_sm, Nat.add_zero, if_neg (show ¬ 1 < prt (fun c => decide (dr c = i)) w n by omega)]; rfl)
  refine PW.callV rfl trivial sX8_114 rfl rfl (by decide) rfl (m_share Hw H Hd HH) (fun v1 M1 hq1 => ?_)
  obtain ⟨rfl, hF0, hz0⟩ := hq1
  rw [← edu] at hz0
  refine PW.to 8 rfl trivial ?_
  exact loop8 7 0 M1 (by omega) (hF0.mono (by decide)) hz0 (fun j hj => by rw [edu]; exact due_lt Hd (by omega) hj) (by omega)
theorem m_isChange {w h : Nat} {mp dr : Nat → Nat} (Hw : Wf w h mp dr) (H : WM w h mp dr M) (c lv : Nat) (hc : c < w * h) (hl : lv ≤ 6) : PF X l mX8_isChange 3 [.ref 29, .int (nI c), .int (nI lv)] G0 M (.int (bo (chg w (w * h) dr c lv))) := by
  refine PF.ofW okX8_isChange ?_
  have hn := Hw.n
  have hd6 := Hw.2.2.2.2.2.1 c
  have ec : M.1 31 (nI c).toNatClampNeg = nI (dr c) := by rw [nI_clamp (by omega)]; exact H.2.2.2 c (by omega)
  refine PW.ine rfl ⟨trivial, vp_in_nI (by omega) (by decide)⟩ (fun h9 => ?_) (fun h9 => ?_)
  · skip
    rw [ec, nI_eq (by omega) (by omega)] at h9
    refine PW.ine rfl trivial (fun h17 => ?_) (fun h17 => ?_)
    · skip
      rw [show (6 : Int32) = nI 6 from rfl, nI_eq (by omega) (by omega)] at h17
      refine PW.funV rfl trivial sX8_128 rfl rfl (by decide) rfl (m_touches 1 c lv (by omega) (by omega) Hw H) ?_
      rw [show sl 1 mp dr = dr from rfl]
      refine PW.zne rfl trivial (fun h29 => ?_) (fun h29 => ?_)
      · skip
        rw [bo_ne] at h29
        refine PW.goto rfl trivial ?_
        refine PW.zret rfl rfl trivial (rfl) ?_
        refine ⟨?_, rfl⟩
        simp_all [chg, bo]
      · skip
        rw [bo_eq] at h29
        refine PW.ine rfl trivial (fun h35 => ?_) (fun h35 => ?_)
        · skip
          rw [ec, show (6 : Int32) = nI 6 from rfl, nI_eq (by omega) (by omega)] at h35
          refine PW.zret rfl rfl trivial (rfl) ?_
          refine ⟨?_, rfl⟩
          simp_all [chg, bo]
        · skip
          rw [ec, show (6 : Int32) = nI 6 from rfl, nI_eq (by omega) (by omega)] at h35
          refine PW.funV rfl trivial sX8_106 rfl rfl (by decide) rfl (m_manyOf 1 lv (by omega) Hw H) ?_
          rw [show sl 1 mp dr = dr from rfl]
          have hm := many_le dr lv (w * h)
          refine PW.zne rfl trivial (fun h44 => ?_) (fun h44 => ?_)
          · skip
            rw [show (0 : Int32) = nI 0 from rfl, nI_eq (by omega) (by omega)] at h44
            refine PW.zret rfl rfl trivial (rfl) ?_
            refine ⟨?_, rfl⟩
            simp_all [chg, bo]
          · skip
            rw [show (0 : Int32) = nI 0 from rfl, nI_eq (by omega) (by omega)] at h44
            refine PW.goto rfl trivial ?_
            refine PW.zret rfl rfl trivial (rfl) ?_
            refine ⟨?_, rfl⟩
            simp_all [chg, bo]
    · skip
      rw [show (6 : Int32) = nI 6 from rfl, nI_eq (by omega) (by omega)] at h17
      refine PW.zret rfl rfl trivial (rfl) ?_
      refine ⟨?_, rfl⟩
      simp_all [chg, bo]
  · skip
    rw [ec, nI_eq (by omega) (by omega)] at h9
    refine PW.zret rfl rfl trivial (rfl) ?_
    refine ⟨?_, rfl⟩
    simp_all [chg, bo]
theorem m_faultsBy {w h : Nat} {mp dr : Nat → Nat} (Hw : Wf w h mp dr) (H : WM w h mp dr M) {hd : Nat → Nat} {wy : Nat} (Hd : Hf hd wy) (HH : HM hd wy M) (c lv : Nat) (hc : c < w * h) (hl : lv ≤ 6) : PC X l mX8_faultsBy 5 [.ref 29, .int (nI c), .int (nI lv)] G0 M (fun v M' => v = some (.int (nI (flt w (w * h) mp (set1 dr c lv) (due hd wy (w * h - many mp 6 (w * h))) 6))) ∧ FI [33, 34, 35] M M') := by
  refine PC.ofW okX8_faultsBy ?_
  have hn := Hw.n
  have ec : M.1 31 c = nI (dr c) := H.2.2.2 c (by omega)
  refine PW.callV rfl ⟨⟨trivial, vp_in_nI (by omega) (by decide)⟩, vp_in_nI (by omega) (by decide)⟩ sX8_135 rfl rfl (by decide) rfl (show PC X l mX8_allFaults 4 [.ref 29] G0 (va_up M.1 31 (upd (M.1 31) (nI c).toNatClampNeg (nI lv)), M.2) (fun v M2 => v = some (.int (nI (flt w (w * h) mp (set1 dr c lv) (due hd wy (w * h - many mp 6 (w * h))) 6))) ∧ FI [33, 34, 35] (va_up M.1 31 (upd (M.1 31) c (nI lv)), M.2) M2) from by rw [nI_clamp (by omega)]; exact m_allFaults (wf_set1 Hw hc hl) (wm_set1 H (by omega)) Hd (hm_set1 HH)) (fun v15 M15 hq15 => ?_)
  obtain ⟨rfl, hF0⟩ := hq15
  rw [nI_clamp (by omega)]
  refine PW.iret rfl rfl ⟨trivial, vp_in_nI (by omega) (by decide)⟩ ?_
  exact ⟨rfl, by rw [nI_clamp (by omega), ec]; exact fi_put ec hF0 (by decide)⟩
end M4
end
section
/-! the shortest chains: who reaches one that has less, in how many links -/
def dk (h : Nat → Nat → Bool) (T : Nat → Bool) : Nat → Nat → Bool
  | 0, a => T a
  | k + 1, a => dk h T k a || bex (fun b => h a b && dk h T k b) 6
theorem dk_up {h : Nat → Nat → Bool} {T : Nat → Bool} {k a : Nat} (q : dk h T k a = true) : dk h T (k + 1) a = true := by simp [dk, q]
theorem dk_st {h : Nat → Nat → Bool} {T : Nat → Bool} {k a b : Nat} (hb : b < 6) (e : h a b = true) (q : dk h T k b = true) : dk h T (k + 1) a = true := by
  simp only [dk, Bool.or_eq_true]
  exact Or.inr (bex_iff.mpr ⟨b, hb, by simp [e, q]⟩)
theorem dk_same {h : Nat → Nat → Bool} {T : Nat → Bool} {k : Nat} (e : ∀ a, a < 6 → dk h T (k + 1) a = dk h T k a) : ∀ m a, a < 6 → dk h T (k + m) a = dk h T k a
  | 0, a, _ => rfl
  | m + 1, a, ha => by
    have ih := dk_same e m
    have e2 : dk h T (k + m + 1) a = dk h T (k + 1) a := by
      simp only [dk]
      rw [ih a ha]
      congr 1
      exact bex_cong (fun b hb => by rw [ih b hb])
    rw [show k + (m + 1) = k + m + 1 from rfl, e2]
    exact e a ha
theorem ct_eq {p q : Nat → Bool} : ∀ {n : Nat}, (∀ k, k < n → p k = true → q k = true) → fb_ct q n ≤ fb_ct p n → ∀ k, k < n → q k = p k
  | 0, _, _, k, hk => absurd hk (Nat.not_lt_zero k)
  | n + 1, h, hc, k, hk => by
    have h1 := fb_ct_sub (p := p) (q := q) (n := n) (fun k hk => h k (by omega))
    rw [fb_ct_succ, fb_ct_succ] at hc
    have hn := h n (by omega)
    have e : q n = p n := by
      cases hp : p n with
      | true => exact hn hp
      | false =>
        cases hq : q n with
        | false => rfl
        | true => rw [hp, hq] at hc; simp at hc; omega
    rcases Nat.lt_or_ge k n with z | z
    · exact ct_eq (fun k hk => h k (by omega)) (by rw [e] at hc; omega) k z
    · rw [show k = n by omega]; exact e
theorem dk_six (h : Nat → Nat → Bool) (T : Nat → Bool) : ∀ a, a < 6 → dk h T 6 a = dk h T 5 a := by
  have key : ∀ k, (∃ j, j ≤ k ∧ ∀ a, a < 6 → dk h T (j + 1) a = dk h T j a) ∨ k + 1 ≤ fb_ct (dk h T k) 6 ∨ ∀ a, a < 6 → dk h T 0 a = false := by
    intro k
    induction k with
    | zero =>
      rcases Nat.eq_zero_or_pos (fb_ct (dk h T 0) 6) with z | z
      · exact Or.inr (Or.inr (fb_ct_zero.mp z))
      · exact Or.inr (Or.inl z)
    | succ k ih =>
      rcases ih with ⟨j, h1, h2⟩ | h1 | h1
      · exact Or.inl ⟨j, by omega, h2⟩
      · rcases Nat.lt_or_ge (fb_ct (dk h T k) 6) (fb_ct (dk h T (k + 1)) 6) with z | z
        · exact Or.inr (Or.inl (by omega))
        · exact Or.inl ⟨k, by omega, ct_eq (fun a _ q => dk_up q) z⟩
      · exact Or.inr (Or.inr h1)
  intro a ha
  rcases key 6 with ⟨j, h1, h2⟩ | h1 | h1
  · rcases Nat.lt_or_ge j 6 with z | z
    · have e1 := dk_same h2 (5 - j) a ha
      have e2 := dk_same h2 (6 - j) a ha
      rw [show j + (5 - j) = 5 by omega] at e1
      rw [show j + (6 - j) = 6 by omega] at e2
      rw [e1, e2]
    · have : j = 6 := by omega
      subst this
      rcases key 5 with ⟨j, h1, h3⟩ | h1 | h1
      · have e1 := dk_same h3 (5 - j) a ha
        have e2 := dk_same h3 (6 - j) a ha
        rw [show j + (5 - j) = 5 by omega] at e1
        rw [show j + (6 - j) = 6 by omega] at e2
        rw [e1, e2]
      · have hl := fb_ct_le (dk h T 5) 6
        exact ct_eq (p := dk h T 5) (q := dk h T 6) (fun a _ q => dk_up q) (by have := fb_ct_le (dk h T 6) 6; omega) a ha
      · have h0 : ∀ a, a < 6 → dk h T 1 a = dk h T 0 a := fun a ha => by
          simp only [dk]
          have : bex (fun b => h a b && T b) 6 = bex (fun _ => false) 6 := bex_cong (fun b hb => by have := h1 b hb; simp only [dk] at this; simp [this])
          rw [this]; simp [bex]
        have e1 := dk_same h0 5 a ha
        have e2 := dk_same h0 6 a ha
        rw [show 0 + 5 = 5 from rfl] at e1
        rw [show 0 + 6 = 6 from rfl] at e2
        rw [e1, e2]
  · have := fb_ct_le (dk h T 6) 6
    omega
  · have h0 : ∀ a, a < 6 → dk h T 1 a = dk h T 0 a := fun a ha => by
      simp only [dk]
      have : bex (fun b => h a b && T b) 6 = bex (fun _ => false) 6 := bex_cong (fun b hb => by have := h1 b hb; simp only [dk] at this; simp [this])
      rw [this]; simp [bex]
    have e1 := dk_same h0 5 a ha
    have e2 := dk_same h0 6 a ha
    rw [show 0 + 5 = 5 from rfl] at e1
    rw [show 0 + 6 = 6 from rfl] at e2
    rw [e1, e2]
/-- how many lands the shortest way takes; F where there is none -/
def dn (h : Nat → Nat → Bool) (T : Nat → Bool) (F a : Nat) : Nat := match fnd (fun k => dk h T k a) 6 with
  | some k => k + 1
  | none => F
theorem dn_T {h : Nat → Nat → Bool} {T : Nat → Bool} {F a : Nat} (q : T a = true) : dn h T F a = 1 := by
  have : fnd (fun k => dk h T k a) 6 = some 0 := fnd_some.mpr ⟨by decide, q, fun d hd => absurd hd (Nat.not_lt_zero d)⟩
  simp [dn, this]
theorem dn_fin {h : Nat → Nat → Bool} {T : Nat → Bool} {F a k : Nat} (hk : k < 6) (q : dk h T k a = true) : dn h T F a ≤ k + 1 := by
  unfold dn
  cases e : fnd (fun k => dk h T k a) 6 with
  | none => rw [fnd_none.mp e k hk] at q; cases q
  | some j =>
    have := (fnd_some.mp e).2.2
    dsimp only
    rcases Nat.lt_or_ge k j with z | z
    · rw [this k z] at q; cases q
    · omega
theorem dn_le {h : Nat → Nat → Bool} {T : Nat → Bool} {F a : Nat} (hF : 7 ≤ F) : dn h T F a ≤ F := by
  unfold dn
  cases e : fnd (fun k => dk h T k a) 6 with
  | none => exact Nat.le_refl _
  | some j => have := (fnd_some.mp e).1; dsimp only; omega
theorem dn_pos {h : Nat → Nat → Bool} {T : Nat → Bool} {F a : Nat} (hF : 7 ≤ F) : 1 ≤ dn h T F a := by
  unfold dn
  cases fnd (fun k => dk h T k a) 6 with
  | none => dsimp only; omega
  | some j => dsimp only; omega
/-- an edge makes at most one link more -/
theorem dn_tri {h : Nat → Nat → Bool} {T : Nat → Bool} {F a b : Nat} (hF : 7 ≤ F) (ha : a < 6) (hb : b < 6) (e : h a b = true) : dn h T F a ≤ dn h T F b + 1 := by
  cases eb : fnd (fun k => dk h T k b) 6 with
  | none =>
    have : dn h T F b = F := by simp [dn, eb]
    have := dn_le (h := h) (T := T) (a := a) hF
    omega
  | some j =>
    have e1 : dn h T F b = j + 1 := by simp [dn, eb]
    have hj := fnd_some.mp eb
    have h2 := dk_st hb e hj.2.1
    rcases Nat.lt_or_ge (j + 1) 6 with z | z
    · have := dn_fin (F := F) z h2
      omega
    · have : j = 5 := by omega
      subst this
      have h3 : dk h T 5 a = true := by rw [← dk_six h T a ha]; exact h2
      have := dn_fin (F := F) (by decide) h3
      omega
/-- one that is not at its end has an edge to one that is a link nearer -/
theorem dn_edge {h : Nat → Nat → Bool} {T : Nat → Bool} {F a : Nat} (hF : 7 ≤ F) (ha : a < 6) (h1 : 2 ≤ dn h T F a) (h2 : dn h T F a ≤ 6) : ∃ b, b < 6 ∧ h a b = true ∧ dn h T F b + 1 = dn h T F a := by
  cases e : fnd (fun k => dk h T k a) 6 with
  | none => have : dn h T F a = F := by simp [dn, e]
            omega
  | some j =>
    have e1 : dn h T F a = j + 1 := by simp [dn, e]
    obtain ⟨q1, q2, q3⟩ := fnd_some.mp e
    cases j with
    | zero => omega
    | succ j =>
      have q4 := q3 j (by omega)
      simp only [dk, q4, Bool.false_or] at q2
      obtain ⟨b, hb, hq⟩ := bex_iff.mp q2
      simp only [Bool.and_eq_true] at hq
      refine ⟨b, hb, hq.1, ?_⟩
      have h3 := dn_fin (F := F) (h := h) (T := T) (show j < 6 by omega) hq.2
      have h4 := dn_tri (T := T) hF ha hb hq.1
      omega
/-- the estimates of a relaxation: r rounds are done, of the next the rows ahead of a, of row a the columns ahead of b -/
def Rx (h : Nat → Nat → Bool) (T : Nat → Bool) (F : Nat) (est : Nat → Nat) (r a b : Nat) : Prop :=
  (∀ j, j < 6 → dn h T F j ≤ est j ∧ est j ≤ F) ∧ (∀ j, j < 6 → dn h T F j ≤ r + 1 → dn h T F j ≤ 6 → est j ≤ dn h T F j) ∧ (∀ j, j < 6 → j < a → dn h T F j ≤ r + 2 → dn h T F j ≤ 6 → est j ≤ dn h T F j) ∧ ∀ j, j < 6 → j < b → h a j = true → dn h T F j ≤ r + 1 → dn h T F j ≤ 5 → est a ≤ dn h T F j + 1
theorem Rx.col {h : Nat → Nat → Bool} {T : Nat → Bool} {F : Nat} {est : Nat → Nat} {r a b : Nat} (hF : 7 ≤ F) (ha : a < 6) (hb : b < 6) (H : Rx h T F est r a b) : Rx h T F (fun j => if j = a ∧ h a b = true ∧ est b + 1 < est a then est b + 1 else est j) r a (b + 1) := by
  have hle : ∀ j, (if j = a ∧ h a b = true ∧ est b + 1 < est a then est b + 1 else est j) ≤ est j := by
    intro j
    split
    · rename_i q; rw [q.1]; omega
    · exact Nat.le_refl _
  refine ⟨fun j hj => ⟨?_, Nat.le_trans (hle j) (H.1 j hj).2⟩, fun j hj h1 h2 => Nat.le_trans (hle j) (H.2.1 j hj h1 h2), fun j hj h0 h1 h2 => Nat.le_trans (hle j) (H.2.2.1 j hj h0 h1 h2), fun j hj h0 h1 h2 h3 => ?_⟩
  · dsimp only
    split
    · rename_i q
      have := dn_tri (T := T) hF ha hb q.2.1
      have := (H.1 b hb).1
      rw [q.1]; omega
    · exact (H.1 j hj).1
  · by_cases e : j = b
    · subst e
      have h4 := H.2.1 j hj h2 (by omega)
      dsimp only
      by_cases q : est j + 1 < est a
      · rw [if_pos ⟨rfl, h1, q⟩]; omega
      · rw [if_neg (fun z => q z.2.2)]; omega
    · exact Nat.le_trans (hle a) (H.2.2.2 j hj (by omega) h1 h2 h3)
theorem Rx.row {h : Nat → Nat → Bool} {T : Nat → Bool} {F : Nat} {est : Nat → Nat} {r a : Nat} (hF : 7 ≤ F) (ha : a < 6) (H : Rx h T F est r a 6) : Rx h T F est r (a + 1) 0 := by
  refine ⟨H.1, H.2.1, fun j hj h0 h1 h2 => ?_, fun j _ h0 => absurd h0 (Nat.not_lt_zero j)⟩
  by_cases e : j = a
  · subst e
    by_cases q : dn h T F j ≤ r + 1
    · exact H.2.1 j hj q h2
    · obtain ⟨b, hb, h3, h4⟩ := dn_edge (T := T) hF hj (by omega) h2
      have := H.2.2.2 b hb hb h3 (by omega) (by omega)
      omega
  · exact H.2.2.1 j hj (by omega) h1 h2
theorem Rx.round {h : Nat → Nat → Bool} {T : Nat → Bool} {F : Nat} {est : Nat → Nat} {r : Nat} (H : Rx h T F est r 6 0) : Rx h T F est (r + 1) 0 0 :=
  ⟨H.1, fun j hj h1 h2 => H.2.2.1 j hj hj h1 h2, fun j _ h0 => absurd h0 (Nat.not_lt_zero j), fun j _ h0 => absurd h0 (Nat.not_lt_zero j)⟩
theorem Rx.start {h : Nat → Nat → Bool} {T : Nat → Bool} {F : Nat} (hF : 7 ≤ F) : Rx h T F (fun j => if T j = true then 1 else F) 0 0 0 := by
  refine ⟨fun j hj => ?_, fun j hj h1 h2 => ?_, fun j _ h0 => absurd h0 (Nat.not_lt_zero j), fun j _ h0 => absurd h0 (Nat.not_lt_zero j)⟩
  · dsimp only
    split
    · rename_i q; rw [dn_T q]; omega
    · exact ⟨dn_le hF, Nat.le_refl _⟩
  · dsimp only
    split
    · rename_i q; rw [dn_T q]; exact Nat.le_refl _
    · rename_i q
      exfalso
      have h3 := dn_pos (h := h) (T := T) (a := j) hF
      unfold dn at h1 h2 h3
      cases e : fnd (fun k => dk h T k j) 6 with
      | none => rw [e] at h2; dsimp only at h2; omega
      | some k =>
        rw [e] at h1
        dsimp only at h1
        have hk := fnd_some.mp e
        have : k = 0 := by omega
        subst this
        exact q hk.2.1
theorem Rx.done {h : Nat → Nat → Bool} {T : Nat → Bool} {F : Nat} {est : Nat → Nat} {r : Nat} (hr : 5 ≤ r) (H : Rx h T F est r 0 0) (j : Nat) (hj : j < 6) : est j = dn h T F j := by
  have h1 := H.1 j hj
  cases e : fnd (fun k => dk h T k j) 6 with
  | none =>
    have : dn h T F j = F := by simp [dn, e]
    omega
  | some k =>
    have e1 : dn h T F j = k + 1 := by simp [dn, e]
    have hk := (fnd_some.mp e).1
    have := H.2.1 j hj (by omega) (by omega)
    omega
end
section
-- made by wip/whole/mk_m5.py
section M5
variable {X : Cx} {l : Launch} {M : Mem}
theorem m_may {w h : Nat} {mp dr : Nat → Nat} (Hw : Wf w h mp dr) (H : WM w h mp dr M) (c lv : Nat) (hc : c < w * h) (hl : lv < 6) : PC X l mX8_may 3 [.ref 29, .int (nI c), .int (nI lv)] G0 M (fun v M' => v = some (.int (bo (mayh w (w * h) dr c lv))) ∧ FI [34, 35] M M') := by
  refine PC.ofW okX8_may ?_
  have hn := Hw.n
  have hd6 := Hw.2.2.2.2.2.1 c
  have ec : M.1 31 (nI c).toNatClampNeg = nI (dr c) := by rw [nI_clamp (by omega)]; exact H.2.2.2 c (by omega)
  refine PW.ieq rfl ⟨trivial, vp_in_nI (by omega) (by decide)⟩ (fun h10 => ?_) (fun h10 => ?_)
  · skip
    rw [ec, show (6 : Int32) = nI 6 from rfl, nI_eq (by omega) (by omega)] at h10
    refine PW.zret rfl rfl trivial (rfl) ?_
    refine ⟨?_, FI.rf⟩
    simp_all [mayh, bo]
    try (intro h9; omega)
  · skip
    rw [ec, show (6 : Int32) = nI 6 from rfl, nI_eq (by omega) (by omega)] at h10
    rw [ec]
    refine PW.ieq rfl trivial (fun h15 => ?_) (fun h15 => ?_)
    · skip
      rw [nI_eq (by omega) (by omega)] at h15
      refine PW.zret rfl rfl trivial (rfl) ?_
      refine ⟨?_, FI.rf⟩
      simp_all [mayh, bo]
      try (intro h9; omega)
    · skip
      rw [nI_eq (by omega) (by omega)] at h15
      refine PW.funV rfl trivial sX8_128 rfl rfl (by decide) rfl (m_touches 1 c lv (by omega) (by omega) Hw H) ?_
      rw [show sl 1 mp dr = dr from rfl]
      refine PW.zeq rfl trivial (fun h25 => ?_) (fun h25 => ?_)
      · skip
        rw [bo_eq] at h25
        refine PW.zret rfl rfl trivial (rfl) ?_
        refine ⟨?_, FI.rf⟩
        simp_all [mayh, bo]
        try (intro h9; omega)
      · skip
        rw [bo_ne] at h25
        refine PW.funV rfl trivial sX8_106 rfl rfl (by decide) rfl (m_manyOf 1 (dr c) (by omega) Hw H) ?_
        rw [show sl 1 mp dr = dr from rfl]
        have hm := many_le dr (dr c) (w * h)
        refine PW.ige rfl trivial (fun h35 => ?_) (fun h35 => ?_)
        · skip
          rw [show (2 : Int32) = nI 2 from rfl, nI_leI (by omega) (by omega)] at h35
          refine PW.callV rfl trivial sX8_125 rfl rfl (by decide) rfl (m_partsOf (dr c) (by omega) Hw H) (fun v42 M42 hq42 => ?_)
          obtain ⟨rfl, hF1⟩ := hq42
          have ec2 : M42.1 31 c = nI (dr c) := by rw [hF1.at 31]; exact H.2.2.2 c (by omega)
          refine PW.callV rfl ⟨trivial, vp_in_nI (by omega) (by decide)⟩ sX8_125 rfl rfl (by decide) rfl (show PC X l mX8_partsOf 2 [.ref 29, .int (nI (dr c))] G0 (va_up M42.1 31 (upd (M42.1 31) (nI c).toNatClampNeg (nI lv)), M42.2) (fun v M2 => v = some (.int (nI (prt (fun x => decide (set1 dr c lv x = dr c)) w (w * h)))) ∧ FI [34, 35] (va_up M42.1 31 (upd (M42.1 31) c (nI lv)), M42.2) M2) from by rw [nI_clamp (by omega)]; exact m_partsOf (dr c) (by omega) (wf_set1 Hw hc (by omega)) (wm_set1 (H.fi hF1) (by omega))) (fun v56 M56 hq56 => ?_)
          obtain ⟨rfl, hF2⟩ := hq56
          have hp1 := prt_le (fun x => decide (set1 dr c lv x = dr c)) w (w * h)
          have hp2 := prt_le (fun x => decide (dr x = dr c)) w (w * h)
          refine PW.igt rfl ⟨trivial, vp_in_nI (by omega) (by decide)⟩ (fun h72 => ?_) (fun h72 => ?_)
          · skip
            rw [nI_ltI (by omega) (by omega)] at h72
            refine PW.zret rfl rfl trivial (rfl) ?_
            refine ⟨?_, by rw [nI_clamp (by omega)]; exact hF1.tr (fi_put ec2 hF2 (by decide))⟩
            have hd1 : ¬ dr c = 6 := h10
            first | (have h9 : ¬ prt (fun x => decide (set1 dr c lv x = dr c)) w (w * h) ≤ prt (fun x => decide (dr x = dr c)) w (w * h) := by omega); simp [mayh, bo, h10, h15, h25, h35, h9] | (have h9 : prt (fun x => decide (set1 dr c lv x = dr c)) w (w * h) ≤ prt (fun x => decide (dr x = dr c)) w (w * h) := by omega); simp [mayh, bo, h10, h15, h25, h35, h9]
          · skip
            rw [nI_ltI (by omega) (by omega)] at h72
            refine PW.goto rfl trivial ?_
            refine PW.zret rfl rfl trivial (rfl) ?_
            refine ⟨?_, by rw [nI_clamp (by omega)]; exact hF1.tr (fi_put ec2 hF2 (by decide))⟩
            have hd1 : ¬ dr c = 6 := h10
            first | (have h9 : ¬ prt (fun x => decide (set1 dr c lv x = dr c)) w (w * h) ≤ prt (fun x => decide (dr x = dr c)) w (w * h) := by omega); simp [mayh, bo, h10, h15, h25, h35, h9] | (have h9 : prt (fun x => decide (set1 dr c lv x = dr c)) w (w * h) ≤ prt (fun x => decide (dr x = dr c)) w (w * h) := by omega); simp [mayh, bo, h10, h15, h25, h35, h9]
        · skip
          rw [show (2 : Int32) = nI 2 from rfl, nI_leI (by omega) (by omega)] at h35
          refine PW.zret rfl rfl trivial (rfl) ?_
          refine ⟨?_, FI.rf⟩
          simp_all [mayh, bo]
          try (intro h9; omega)
theorem m_leastTo {w h : Nat} {mp dr : Nat → Nat} (Hw : Wf w h mp dr) (H : WM w h mp dr M) (a b : Nat) (ha : a < 6) (hb : b < 6) : PC X l mX8_leastTo 4 [.ref 29, .int (nI a), .int (nI b)] G0 M (fun v M' => v = some (.int (ob (fnd (fun c => decide (dr c = a) && mayh w (w * h) dr c b) (w * h)))) ∧ FI [34, 35] M M') := by
  refine PC.ofW okX8_leastTo ?_
  have hn := Hw.n
  have loop2 : ∀ k : Nat, ∀ (c : Nat) (M2 : Mem), c ≤ w * h → FI [34, 35] M M2 → (∀ d, d < c → (decide (dr d = a) && mayh w (w * h) dr d b) = false) → w * h - c < k → PW X l mX8_leastTo 4 (fun v M' => v = some (.int (ob (fnd (fun c => decide (dr c = a) && mayh w (w * h) dr c b) (w * h)))) ∧ FI [34, 35] M M') 2 [.ref 29, .int (nI a), .int (nI b), .int (nI c)] [] G0 M2 := by
    intro k
    induction k with
    | zero => intro c M2 hc hF hz hk; exact absurd hk (Nat.not_lt_zero _)
    | succ k ih =>
      intro c M2 hc hF hz hk
      have hd6 := Hw.2.2.2.2.2.1 c
      refine PW.ige rfl trivial (fun h12 => ?_) (fun h12 => ?_)
      · skip
        rw [(H.fi hF).wh, nI_leI (by omega) (by omega)] at h12
        have e : c = w * h := by omega
        subst e
        refine PW.iret rfl rfl trivial ?_
        exact ⟨by rw [fnd_none.mpr hz]; rfl, hF⟩
      · skip
        rw [(H.fi hF).wh, nI_leI (by omega) (by omega)] at h12
        refine PW.ine rfl ⟨trivial, vp_in_nI (by omega) (by decide)⟩ (fun h22 => ?_) (fun h22 => ?_)
        · skip
          rw [nI_clamp (by omega), (H.fi hF).2.2.2 c (by omega), nI_eq (by omega) (by omega)] at h22
          have hF9 := hF
          refine PW.goto rfl trivial ?_
          rw [nI_1]
          refine ih (c + 1) _ (by omega) hF9 (fun d hd => ?_) (by omega)
          by_cases q : d = c
          · subst q; simp_all
          · exact hz d (by omega)
        · skip
          rw [nI_clamp (by omega), (H.fi hF).2.2.2 c (by omega), nI_eq (by omega) (by omega)] at h22
          refine PW.callV rfl trivial sX8_147 rfl rfl (by decide) rfl (m_may Hw (H.fi hF) c b (by omega) hb) (fun v28 M28 hq28 => ?_)
          obtain ⟨rfl, hF1⟩ := hq28
          have hF9 := hF.tr hF1
          refine PW.zeq rfl trivial (fun h31 => ?_) (fun h31 => ?_)
          · skip
            rw [bo_eq] at h31
            refine PW.goto rfl trivial ?_
            rw [nI_1]
            refine ih (c + 1) _ (by omega) hF9 (fun d hd => ?_) (by omega)
            by_cases q : d = c
            · subst q; simp_all
            · exact hz d (by omega)
          · skip
            rw [bo_ne] at h31
            refine PW.iret rfl rfl trivial ?_
            exact ⟨by rw [fnd_some.mpr ⟨by omega, by simp [h22, h31], hz⟩]; rfl, hF9⟩
  refine PW.to 2 rfl trivial ?_
  exact loop2 (w * h + 1) 0 M (Nat.zero_le _) FI.rf (fun d hd => absurd hd (Nat.not_lt_zero d)) (by omega)
end M5
end
section
/-! the chain -/
noncomputable def hnd (w n : Nat) (dr : Nat → Nat) (a b : Nat) : Bool := !decide (a = b) && (fnd (fun c => decide (dr c = a) && mayh w n dr c b) n).isSome
def hasless (n : Nat) (dr du : Nat → Nat) (a : Nat) : Bool := decide (many dr a n < du a)
def hasmore (n : Nat) (dr du : Nat → Nat) (a : Nat) : Bool := decide (du a < many dr a n)
theorem dn_F (h : Nat → Nat → Bool) (T : Nat → Bool) (F a : Nat) : dn h T F a = if dn h T 7 a ≤ 6 then dn h T 7 a else F := by
  unfold dn
  cases e : fnd (fun k => dk h T k a) 6 with
  | none => simp
  | some k => have := (fnd_some.mp e).1; dsimp only; rw [if_pos (by omega)]
def cst (h : Nat → Nat → Bool) (T mr : Nat → Bool) : Option Nat := pg (fun a b => decide (dn h T 7 a < dn h T 7 b)) (fun a => mr a && decide (dn h T 7 a ≤ 6)) 6
def cnx (h : Nat → Nat → Bool) (T : Nat → Bool) (a : Nat) : Option Nat := fnd (fun b => h a b && decide (dn h T 7 b + 1 = dn h T 7 a)) 6
def chn (h : Nat → Nat → Bool) (T : Nat → Bool) (s : Nat) : Nat → Nat
  | 0 => s
  | i + 1 => (cnx h T (chn h T s i)).getD 0
theorem cnx_some {h : Nat → Nat → Bool} {T : Nat → Bool} {a : Nat} (ha : a < 6) (h1 : 2 ≤ dn h T 7 a) (h2 : dn h T 7 a ≤ 6) : ∃ b, cnx h T a = some b ∧ b < 6 ∧ dn h T 7 b + 1 = dn h T 7 a ∧ h a b = true := by
  cases e : cnx h T a with
  | none =>
    obtain ⟨b, hb, h3, h4⟩ := dn_edge (T := T) (F := 7) (Nat.le_refl _) ha h1 h2
    have := fnd_none.mp e b hb
    simp [h3, h4] at this
  | some b =>
    have := fnd_some.mp e
    simp only [Bool.and_eq_true, decide_eq_true_eq] at this
    exact ⟨b, rfl, this.1, this.2.1.2, this.2.1.1⟩
theorem chn_ok {h : Nat → Nat → Bool} {T : Nat → Bool} {s : Nat} (hs : s < 6) (h2 : dn h T 7 s ≤ 6) : ∀ i, i < dn h T 7 s → chn h T s i < 6 ∧ dn h T 7 (chn h T s i) + i = dn h T 7 s
  | 0, _ => ⟨hs, rfl⟩
  | i + 1, hi => by
    obtain ⟨h3, h4⟩ := chn_ok hs h2 i (by omega)
    obtain ⟨b, e, hb, h5, -⟩ := cnx_some (h := h) (T := T) h3 (by omega) (by omega)
    simp only [chn, e, Option.getD_some]
    exact ⟨hb, by omega⟩
/-- the least of the ok ones from lo on whose key is least -/
def IsM (D : Nat → Nat) (ok : Nat → Bool) (lo : Nat) (o : Option Nat) : Prop := match o with
  | none => ∀ j, lo ≤ j → j < 6 → ok j = false
  | some b => lo ≤ b ∧ b < 6 ∧ ok b = true ∧ ∀ j, lo ≤ j → j < 6 → ok j = true → D b ≤ D j ∧ (j < b → D b < D j)
theorem IsM.one {D : Nat → Nat} {ok : Nat → Bool} {lo : Nat} {o o2 : Option Nat} (h1 : IsM D ok lo o) (h2 : IsM D ok lo o2) : o = o2 := by
  cases o with
  | none =>
    cases o2 with
    | none => rfl
    | some b => have := h2.2.2.1; rw [h1 b h2.1 h2.2.1] at this; cases this
  | some a =>
    cases o2 with
    | none => have := h1.2.2.1; rw [h2 a h1.1 h1.2.1] at this; cases this
    | some b =>
      have q1 := h1.2.2.2 b h2.1 h2.2.1 h2.2.2.1
      have q2 := h2.2.2.2 a h1.1 h1.2.1 h1.2.2.1
      rcases Nat.lt_trichotomy a b with z | z | z
      · have := q2.2 z; omega
      · rw [z]
      · have := q1.2 z; omega
theorem IsM.step {D : Nat → Nat} {ok : Nat → Bool} {lo : Nat} {o : Option Nat} (h : IsM D ok (lo + 1) o) (hl : lo < 6) : IsM D ok lo (if ok lo = true ∧ (∀ b, o = some b → D lo ≤ D b) then some lo else o) := by
  split
  · rename_i q
    refine ⟨Nat.le_refl _, hl, q.1, fun j h1 h2 h3 => ?_⟩
    rcases Nat.eq_or_lt_of_le h1 with z | z
    · subst z; exact ⟨Nat.le_refl _, fun y => absurd y (Nat.lt_irrefl _)⟩
    · cases o with
      | none => rw [h j (by omega) h2] at h3; cases h3
      | some b =>
        have h4 := h.2.2.2 j (by omega) h2 h3
        have h5 := q.2 b rfl
        exact ⟨by omega, fun y => by omega⟩
  · rename_i q
    cases o with
    | none =>
      intro j h1 h2
      rcases Nat.eq_or_lt_of_le h1 with z | z
      · subst z
        cases hk : ok lo with
        | false => rfl
        | true => exact absurd ⟨hk, fun b e => by cases e⟩ q
      · exact h j (by omega) h2
    | some b =>
      obtain ⟨h1, h2, h3, h4⟩ := h
      refine ⟨by omega, h2, h3, fun j j1 j2 j3 => ?_⟩
      rcases Nat.eq_or_lt_of_le j1 with z | z
      · subst z
        have : ¬ D lo ≤ D b := fun y => q ⟨j3, fun b2 e => by cases e; exact y⟩
        exact ⟨by omega, fun _ => by omega⟩
      · exact h4 j (by omega) j2 j3
theorem pg_ism {D : Nat → Nat} {ok : Nat → Bool} : ∀ n, match pg (fun a b => decide (D a < D b)) ok n with
    | none => ∀ j, j < n → ok j = false
    | some b => b < n ∧ ok b = true ∧ ∀ j, j < n → ok j = true → D b ≤ D j ∧ (j < b → D b < D j)
  | 0 => fun j hj => absurd hj (Nat.not_lt_zero j)
  | n + 1 => by
    have ih := pg_ism (D := D) (ok := ok) n
    cases e : pg (fun a b => decide (D a < D b)) ok n with
    | none =>
      rw [e] at ih
      dsimp only at ih
      cases hk : ok n with
      | true =>
        rw [pg_new e hk]
        refine ⟨by omega, hk, fun j hj h3 => ?_⟩
        rcases Nat.lt_or_ge j n with z | z
        · rw [ih j z] at h3; cases h3
        · rw [show j = n by omega]; exact ⟨Nat.le_refl _, fun y => absurd y (Nat.lt_irrefl _)⟩
      | false =>
        rw [pg_no hk, e]
        intro j hj
        rcases Nat.lt_or_ge j n with z | z
        · exact ih j z
        · rw [show j = n by omega]; exact hk
    | some b =>
      rw [e] at ih
      dsimp only at ih
      by_cases q : ok n = true ∧ D n < D b
      · rw [pg_gt e q.1 (by simpa using q.2)]
        refine ⟨by omega, q.1, fun j hj h3 => ?_⟩
        rcases Nat.lt_or_ge j n with z | z
        · have := (ih.2.2 j z h3).1; exact ⟨by omega, fun _ => by omega⟩
        · rw [show j = n by omega]; exact ⟨Nat.le_refl _, fun y => absurd y (Nat.lt_irrefl _)⟩
      · have e2 : pg (fun a b => decide (D a < D b)) ok (n + 1) = some b := by
          cases hk : ok n with
          | false => rw [pg_no hk, e]
          | true => rw [pg_le e (by simpa using fun y => q ⟨hk, y⟩), e]
        rw [e2]
        refine ⟨by omega, ih.2.1, fun j hj h3 => ?_⟩
        rcases Nat.lt_or_ge j n with z | z
        · exact ih.2.2 j z h3
        · have : j = n := by omega
          subst this
          have : ¬ D j < D b := fun y => q ⟨h3, y⟩
          exact ⟨by omega, fun y => by omega⟩
theorem cst_ism (h : Nat → Nat → Bool) (T mr : Nat → Bool) : IsM (dn h T 7) (fun a => mr a && decide (dn h T 7 a ≤ 6)) 0 (cst h T mr) := by
  have := pg_ism (D := dn h T 7) (ok := fun a => mr a && decide (dn h T 7 a ≤ 6)) 6
  unfold cst
  cases e : pg (fun a b => decide (dn h T 7 a < dn h T 7 b)) (fun a => mr a && decide (dn h T 7 a ≤ 6)) 6 with
  | none => rw [e] at this; exact fun j _ hj => this j hj
  | some b => rw [e] at this; exact ⟨Nat.zero_le _, this.1, this.2.1, fun j _ hj => this.2.2 j hj⟩
/-- the first of those from lo on -/
def IsF (p : Nat → Bool) (lo : Nat) (o : Option Nat) : Prop := match o with
  | none => ∀ j, lo ≤ j → j < 6 → p j = false
  | some b => lo ≤ b ∧ b < 6 ∧ p b = true ∧ ∀ j, lo ≤ j → j < b → p j = false
theorem IsF.step {p : Nat → Bool} {lo : Nat} {o : Option Nat} (h : IsF p (lo + 1) o) (hl : lo < 6) : IsF p lo (if p lo = true then some lo else o) := by
  split
  · rename_i q
    exact ⟨Nat.le_refl _, hl, q, fun j h1 h2 => by omega⟩
  · rename_i q
    cases o with
    | none =>
      intro j h1 h2
      rcases Nat.eq_or_lt_of_le h1 with z | z
      · subst z; simpa using q
      · exact h j (by omega) h2
    | some b =>
      refine ⟨by have := h.1; omega, h.2.1, h.2.2.1, fun j h1 h2 => ?_⟩
      rcases Nat.eq_or_lt_of_le h1 with z | z
      · subst z; simpa using q
      · exact h.2.2.2 j (by omega) h2
theorem IsF.fnd {p : Nat → Bool} {o : Option Nat} (h : IsF p 0 o) : fnd p 6 = o := by
  cases o with
  | none => exact fnd_none.mpr (fun j hj => h j (Nat.zero_le _) hj)
  | some b => exact fnd_some.mpr ⟨h.2.1, h.2.2.1, fun j hj => h.2.2.2 j (Nat.zero_le _) hj⟩
/-- the reference's frame: cells of A, and the fields thrown and links -/
def FJ (A : List Nat) (M M2 : Mem) : Prop := (∀ a, a ∉ A → a ≠ 29 → M2.1 a = M.1 a) ∧ (∀ j, j ≠ 0 → j ≠ 12 → M2.1 29 j = M.1 29 j) ∧ M2.2 = M.2
theorem FJ.rf {A : List Nat} {M : Mem} : FJ A M M := ⟨fun _ _ _ => rfl, fun _ _ _ => rfl, rfl⟩
theorem FJ.tr {A : List Nat} {M M2 M3 : Mem} (h1 : FJ A M M2) (h2 : FJ A M2 M3) : FJ A M M3 := ⟨fun a h q => (h2.1 a h q).trans (h1.1 a h q), fun j a b => (h2.2.1 j a b).trans (h1.2.1 j a b), h2.2.2.trans h1.2.2⟩
theorem FJ.mono {A B : List Nat} {M M2 : Mem} (h1 : FJ A M M2) (h : ∀ a, a ∈ A → a ∈ B) : FJ B M M2 := ⟨fun a ha => h1.1 a (fun q => ha (h a q)), h1.2⟩
theorem FI.fj {A B : List Nat} {M M2 : Mem} (h : FI A M M2) (h1 : ∀ a, a ∈ A → a ∈ B) (h2 : 29 ∉ A := by decide) : FJ B M M2 := ⟨fun a ha _ => h.1 a (fun q => ha (h1 a q)), fun j _ _ => by rw [h.1 29 h2], h.2⟩
theorem FJ.put {A : List Nat} {M M2 : Mem} {a : Nat} {f : Nat → Int32} (h : FJ A M M2) (ha : a ∈ A) (h2 : a ≠ 29 := by decide) : FJ A M (va_up M2.1 a f, M2.2) := ⟨fun b hb q => by
  have : b ≠ a := fun e => hb (e ▸ ha)
  simp [va_up, this, h.1 b hb q], fun j q1 q2 => by simp [va_up, Ne.symm h2]; exact h.2.1 j q1 q2, h.2.2⟩
theorem FJ.th {A : List Nat} {M M2 : Mem} {j : Nat} {x : Int32} (h : FJ A M M2) (hj : j = 0 ∨ j = 12) : FJ A M (va_up M2.1 29 (upd (M2.1 29) j x), M2.2) := ⟨fun b hb q => by simp [va_up, q]; exact h.1 b hb q, fun i q1 q2 => (up_n (by rcases hj with e | e <;> rw [e] <;> assumption)).trans (h.2.1 i q1 q2), h.2.2⟩
theorem FJ.at {A : List Nat} {M M2 : Mem} (h : FJ A M M2) (a : Nat) (ha : a ∉ A := by decide) (h2 : a ≠ 29 := by decide) : M2.1 a = M.1 a := h.1 a ha h2
theorem WM.fj {w h : Nat} {mp dr : Nat → Nat} {A : List Nat} {M M2 : Mem} (H : WM w h mp dr M) (h1 : FJ A M M2) (h2 : 30 ∉ A ∧ 31 ∉ A := by decide) : WM w h mp dr M2 := ⟨by rw [h1.2.1 1 (by decide) (by decide)]; exact H.1, by rw [h1.2.1 2 (by decide) (by decide)]; exact H.2.1, fun c hc => by rw [h1.1 30 h2.1 (by decide)]; exact H.2.2.1 c hc, fun c hc => by rw [h1.1 31 h2.2 (by decide)]; exact H.2.2.2 c hc⟩
theorem HM.fj {hd : Nat → Nat} {wy : Nat} {A : List Nat} {M M2 : Mem} (H : HM hd wy M) (h1 : FJ A M M2) (h2 : 32 ∉ A := by decide) : HM hd wy M2 := ⟨by rw [h1.2.1 6 (by decide) (by decide)]; exact H.1, fun k hk => by rw [h1.1 32 h2 (by decide)]; exact H.2 k hk⟩
end
section
-- made by wip/whole/mk_m6.py
section M6
variable {X : Cx} {l : Launch} {M : Mem}
theorem ob_nn {p : Nat → Bool} {n : Nat} (hn : n ≤ 36 := by omega) : ob (fnd p n) = -9 ↔ fnd p n = none := by
  cases e : fnd p n with
  | none => simp [ob]
  | some b =>
    have hb := (fnd_some.mp e).1
    simp only [ob, reduceCtorEq, iff_false]
    intro e
    have e2 := congrArg Int32.toInt e
    rw [nI_t (by omega)] at e2
    simp at e2
theorem up36 {hh : Nat → Nat → Bool} {M : Mem} {a b : Nat} {y : Int32} (hx3 : ∀ x, x < 6 * a + b → M.1 36 x = bo (hh (x / 6) (x % 6))) (e : bo (hh a b) = vp_nar .boolean y) (hb : b < 6) (x : Nat) (hx : x < 6 * a + (b + 1)) : ((va_up M.1 36 (upd (M.1 36) (6 * a + b) (vp_nar .boolean y)), M.2) : Mem).1 36 x = bo (hh (x / 6) (x % 6)) := by
  by_cases q : x = 6 * a + b
  · subst q
    rw [up_s, show (6 * a + b) / 6 = a by omega, show (6 * a + b) % 6 = b by omega, e]
  · exact (up_n q).trans (hx3 x (by omega))
set_option maxHeartbeats 2000000 in
theorem m_linked {w h : Nat} {mp dr : Nat → Nat} (Hw : Wf w h mp dr) (H : WM w h mp dr M) {hd : Nat → Nat} {wy : Nat} (Hd : Hf hd wy) (HH : HM hd wy M) : PC X l mX8_linked 5 [.ref 29] G0 M (fun v M' => v = some (.int (bo (cst (hnd w (w * h) dr) (hasless (w * h) dr (due hd wy (w * h - many mp 6 (w * h)))) (hasmore (w * h) dr (due hd wy (w * h - many mp 6 (w * h))))).isSome)) ∧ FJ [33, 34, 35, 36, 37, 43] M M' ∧ (∀ j, j < 6 → M'.1 33 j = nI ((due hd wy (w * h - many mp 6 (w * h))) j)) ∧ (∀ s, cst (hnd w (w * h) dr) (hasless (w * h) dr (due hd wy (w * h - many mp 6 (w * h)))) (hasmore (w * h) dr (due hd wy (w * h - many mp 6 (w * h)))) = some s → M'.1 29 12 = nI (dn (hnd w (w * h) dr) (hasless (w * h) dr (due hd wy (w * h - many mp 6 (w * h)))) 7 s) ∧ ∀ i, i < dn (hnd w (w * h) dr) (hasless (w * h) dr (due hd wy (w * h - many mp 6 (w * h)))) 7 s → M'.1 37 i = nI (chn (hnd w (w * h) dr) (hasless (w * h) dr (due hd wy (w * h - many mp 6 (w * h)))) s i))) := by
  refine PC.ofW okX8_linked ?_
  have hn := Hw.n
  obtain ⟨n, en⟩ : ∃ n, n = w * h := ⟨_, rfl⟩
  obtain ⟨du, edu⟩ : ∃ du, du = due hd wy (w * h - many mp 6 (w * h)) := ⟨_, rfl⟩
  have hdu : ∀ j, j < 6 → du j < 2 ^ 30 := fun j hj => by rw [edu]; exact due_lt Hd (by omega) hj
  rw [← edu]
  obtain ⟨hh, ehh⟩ : ∃ hh, hh = hnd w (w * h) dr := ⟨_, rfl⟩
  obtain ⟨T, eT⟩ : ∃ T, T = hasless (w * h) dr du := ⟨_, rfl⟩
  obtain ⟨mr, emr⟩ : ∃ mr, mr = hasmore (w * h) dr du := ⟨_, rfl⟩
  rw [← ehh, ← eT, ← emr]
  have hml : ∀ j, many dr j (w * h) ≤ 36 := fun j => by have := many_le dr j (w * h); omega
  have loop304 : ∀ k : Nat, ∀ (s i : Nat) (M3 : Mem), cst hh T mr = some s → i < dn hh T 7 s → FJ [33, 34, 35, 36, 37, 43] M M3 → (∀ j, j < 6 → M3.1 33 j = nI (du j)) → (∀ x, x < 36 → M3.1 36 x = bo (hh (x / 6) (x % 6))) → (∀ j, j < 6 → M3.1 43 j = nI (dn hh T 1000000000 j)) → M3.1 29 12 = nI (i + 1) → (∀ j, j ≤ i → M3.1 37 j = nI (chn hh T s j)) → dn hh T 7 s - i < k → PW X l mX8_linked 5 (fun v M' => v = some (.int (bo (cst hh T mr).isSome)) ∧ FJ [33, 34, 35, 36, 37, 43] M M' ∧ (∀ j, j < 6 → M'.1 33 j = nI (du j)) ∧ (∀ s, cst hh T mr = some s → M'.1 29 12 = nI (dn hh T 7 s) ∧ ∀ i, i < dn hh T 7 s → M'.1 37 i = nI (chn hh T s i))) 304 [.ref 29, .int (nI (chn hh T s i)), .null, .null] [] G0 M3 := by
    intro k
    induction k with
    | zero => intro s i M3 hs hi hF hz hx hl hli hch hk; exact absurd hk (Nat.not_lt_zero _)
    | succ k ih =>
      intro s i M3 hs hi hF hz hx hl hli hch hk
      have hcs := cst_ism hh T mr
      rw [hs] at hcs
      have hs6 := hcs.2.1
      have hsd : dn hh T 7 s ≤ 6 := by have := hcs.2.2.1; simp at this; exact this.2
      obtain ⟨ha6, had⟩ := chn_ok hs6 hsd i hi
      have eA := dn_F hh T 1000000000 (chn hh T s i)
      rw [if_pos (by omega)] at eA
      have loop319 : ∀ k319 : Nat, ∀ (b : Nat) (o : Option Nat), b ≤ 6 → 2 ≤ dn hh T 7 (chn hh T s i) → IsF (fun x => hh (chn hh T s i) x && decide (dn hh T 7 x + 1 = dn hh T 7 (chn hh T s i))) b o → b < k319 → PW X l mX8_linked 5 (fun v M' => v = some (.int (bo (cst hh T mr).isSome)) ∧ FJ [33, 34, 35, 36, 37, 43] M M' ∧ (∀ j, j < 6 → M'.1 33 j = nI (du j)) ∧ (∀ s, cst hh T mr = some s → M'.1 29 12 = nI (dn hh T 7 s) ∧ ∀ i, i < dn hh T 7 s → M'.1 37 i = nI (chn hh T s i))) 319 [.ref 29, .int (nI (chn hh T s i)), .int (ob o), .int (nI b - 1)] [] G0 M3 := by
        intro k319
        induction k319 with
        | zero => intro b o hb h2d ho hk3; exact absurd hk3 (Nat.not_lt_zero _)
        | succ k319 ih319 =>
          intro b o hb h2d ho hk3
          refine PW.zlt rfl trivial (fun h320 => ?_) (fun h320 => ?_)
          · skip
            have e0 : b = 0 := by
              rcases Nat.eq_zero_or_pos b with z | z
              · exact z
              · rw [nI_m1 z] at h320; exact absurd h320 (nI_pos (by omega))
            subst e0
            obtain ⟨nb, e1, nb6, -, -⟩ := cnx_some (h := hh) (T := T) ha6 h2d (by omega)
            have e2 : o = some nb := by rw [← e1]; exact (ho.fnd).symm
            subst e2
            have eb2 : ob (some nb) = nI nb := rfl
            rw [eb2]
            have ec : chn hh T s (i + 1) = nb := by simp only [chn, e1, Option.getD_some]
            refine PW.goto rfl ⟨trivial, (by rw [hli]; exact vp_in_nI (by omega) (by decide))⟩ ?_
            rw [hli, nI_clamp (by omega), ← ec]
            refine PW.nl [2, 3] ?_
            refine ih s (i + 1) _ hs (by omega) ((hF.put (by decide)).th (Or.inr rfl)) (fun j hj => hz j hj) (fun x h1 => hx x h1) (fun j hj => hl j hj) ?_ (fun j hj => ?_) (by omega)
            · rw [up_s]
              show M3.1 29 12 + 1 = _
              rw [hli, nI_1]
            · show (va_up M3.1 37 _) 37 j = _
              by_cases q : j = i + 1
              · subst q; exact up_same
              · exact (up_ne q).trans (hch j (by omega))
          · skip
            have hb0 : 0 < b := by
              rcases Nat.eq_zero_or_pos b with z | z
              · subst z; exact absurd (by decide) h320
              · exact z
            obtain ⟨b, rfl⟩ : ∃ j, b = j + 1 := ⟨b - 1, by omega⟩
            rw [nI_m1 (by omega), Nat.add_sub_cancel]
            have hst := ho.step (by omega)
            have eB := dn_F hh T 1000000000 b
            have hB9 := dn_le (h := hh) (T := T) (F := 1000000000) (a := b) (by decide)
            refine PW.zeq rfl ⟨trivial, (by rw [show (6 : Int32) = nI 6 from rfl, pk_mul, nI_add]; exact vp_in_nI (by omega) (by decide))⟩ (fun h334 => ?_) (fun h334 => ?_)
            · skip
              rw [show (6 : Int32) = nI 6 from rfl, pk_mul, nI_add, nI_clamp (by omega), hx _ (by omega), show (6 * chn hh T s i + b) / 6 = chn hh T s i by omega, show (6 * chn hh T s i + b) % 6 = b by omega, bo_eq] at h334
              have hst2 : IsF (fun x => hh (chn hh T s i) x && decide (dn hh T 7 x + 1 = dn hh T 7 (chn hh T s i))) b o := by rw [if_neg (by rw [h334]; simp)] at hst; exact hst
              refine PW.goto rfl trivial ?_
              rw [← Int32.sub_eq_add_neg]
              exact ih319 b _ (by omega) h2d hst2 (by omega)
            · skip
              rw [show (6 : Int32) = nI 6 from rfl, pk_mul, nI_add, nI_clamp (by omega), hx _ (by omega), show (6 * chn hh T s i + b) / 6 = chn hh T s i by omega, show (6 * chn hh T s i + b) % 6 = b by omega, bo_ne] at h334
              refine PW.ine rfl ⟨⟨trivial, vp_in_nI (by omega) (by decide)⟩, vp_in_nI (by omega) (by decide)⟩ (fun h351 => ?_) (fun h351 => ?_)
              · skip
                rw [nI_clamp (by omega), nI_clamp (by omega), hl b (by omega), hl _ ha6, eA, nI_m1 (by omega), nI_eq (by omega) (by omega)] at h351
                have hne : ¬ dn hh T 7 b + 1 = dn hh T 7 (chn hh T s i) := fun q => by rw [if_pos (by omega)] at eB; omega
                have hst2 : IsF (fun x => hh (chn hh T s i) x && decide (dn hh T 7 x + 1 = dn hh T 7 (chn hh T s i))) b o := by rw [if_neg (by simp [h334, hne])] at hst; exact hst
                refine PW.goto rfl trivial ?_
                rw [← Int32.sub_eq_add_neg]
                exact ih319 b _ (by omega) h2d hst2 (by omega)
              · skip
                rw [nI_clamp (by omega), nI_clamp (by omega), hl b (by omega), hl _ ha6, eA, nI_m1 (by omega), nI_eq (by omega) (by omega)] at h351
                have heq : dn hh T 7 b + 1 = dn hh T 7 (chn hh T s i) := by
                  by_cases q : dn hh T 7 b ≤ 6
                  · rw [if_pos q] at eB; omega
                  · rw [if_neg q] at eB; omega
                have hst2 : IsF (fun x => hh (chn hh T s i) x && decide (dn hh T 7 x + 1 = dn hh T 7 (chn hh T s i))) b (some b) := by rw [if_pos (by simp [h334, heq])] at hst; exact hst
                refine PW.goto rfl trivial ?_
                refine PW.goto rfl trivial ?_
                rw [← Int32.sub_eq_add_neg]
                exact ih319 b _ (by omega) h2d hst2 (by omega)
      refine PW.ile rfl ⟨trivial, vp_in_nI (by omega) (by decide)⟩ (fun h311 => ?_) (fun h311 => ?_)
      · skip
        rw [nI_clamp (by omega), hl _ ha6, eA, show (1 : Int32) = nI 1 from rfl, nI_leI (by omega) (by omega)] at h311
        refine PW.zret rfl rfl trivial (rfl) ?_
        refine ⟨by rw [hs]; rfl, hF, hz, fun s2 q => ?_⟩
        have e2 : s = s2 := by rw [hs] at q; cases q; rfl
        subst e2
        exact ⟨by rw [hli]; congr 1; omega, fun j hj => hch j (by omega)⟩
      · skip
        rw [nI_clamp (by omega), hl _ ha6, eA, show (1 : Int32) = nI 1 from rfl, nI_leI (by omega) (by omega)] at h311
        refine PW.to 319 rfl trivial ?_
        refine PW.lc ?_ (loop319 7 6 none (by omega) (by omega) (fun j h1 h2 => absurd h2 (by omega)) (by omega))
        rw [show nI 6 - 1 = 5 by decide]; rfl
  have loop206 : ∀ k : Nat, ∀ (i : Nat) (o : Option Nat) (M2 : Mem), i ≤ 6 → FJ [33, 34, 35, 36, 37, 43] M M2 → (∀ j, j < 6 → M2.1 33 j = nI (du j)) → (∀ x, x < 36 → M2.1 36 x = bo (hh (x / 6) (x % 6))) → (∀ j, j < 6 → M2.1 43 j = nI (dn hh T 1000000000 j)) → IsM (dn hh T 7) (fun a => mr a && decide (dn hh T 7 a ≤ 6)) i o → i < k → PW X l mX8_linked 5 (fun v M' => v = some (.int (bo (cst hh T mr).isSome)) ∧ FJ [33, 34, 35, 36, 37, 43] M M' ∧ (∀ j, j < 6 → M'.1 33 j = nI (du j)) ∧ (∀ s, cst hh T mr = some s → M'.1 29 12 = nI (dn hh T 7 s) ∧ ∀ i, i < dn hh T 7 s → M'.1 37 i = nI (chn hh T s i))) 206 [.ref 29, .int (ob o), .int (nI i - 1), .null] [] G0 M2 := by
    intro k
    induction k with
    | zero => intro i o M2 hi hF hz hx hl ho hk; exact absurd hk (Nat.not_lt_zero _)
    | succ k ih =>
      intro i o M2 hi hF hz hx hl ho hk
      have hob : ∀ b, o = some b → b < 6 := fun b q => by subst q; exact ho.2.1
      have join241 : ∀ (i2 : Nat) (t : Bool), i = i2 + 1 → (mr i2 && decide (dn hh T 7 i2 ≤ 6)) = t → PW X l mX8_linked 5 (fun v M' => v = some (.int (bo (cst hh T mr).isSome)) ∧ FJ [33, 34, 35, 36, 37, 43] M M' ∧ (∀ j, j < 6 → M'.1 33 j = nI (du j)) ∧ (∀ s, cst hh T mr = some s → M'.1 29 12 = nI (dn hh T 7 s) ∧ ∀ i, i < dn hh T 7 s → M'.1 37 i = nI (chn hh T s i))) 241 [.ref 29, .int (ob o), .int (nI i2), .null] [.int (bo t)] G0 M2 := by
        intro i2 t ei ht
        subst ei
        have hst := ho.step (by omega)
        rw [ht] at hst
        have eD := dn_F hh T 1000000000 i2
        refine PW.zeq rfl trivial (fun h243 => ?_) (fun h243 => ?_)
        · skip
          rw [bo_eq] at h243
          subst h243
          have hst2 : IsM (dn hh T 7) (fun a => mr a && decide (dn hh T 7 a ≤ 6)) i2 o := by rw [if_neg (fun z => absurd z.1 (by decide))] at hst; exact hst
          refine PW.goto rfl trivial ?_
          rw [← Int32.sub_eq_add_neg]
          refine PW.nl [3] ?_
          exact ih i2 _ M2 (by omega) hF hz hx hl hst2 (by omega)
        · skip
          rw [bo_ne] at h243
          subst h243
          simp only [Bool.and_eq_true, decide_eq_true_eq] at ht
          rw [if_pos ht.2] at eD
          refine PW.ieq rfl trivial (fun h249 => ?_) (fun h249 => ?_)
          · skip
            rw [ob_none hob] at h249
            have hst2 : IsM (dn hh T 7) (fun a => mr a && decide (dn hh T 7 a ≤ 6)) i2 (some i2) := by rw [if_pos ⟨rfl, fun b q => by rw [h249] at q; cases q⟩] at hst; exact hst
            refine PW.goto rfl trivial ?_
            refine PW.goto rfl trivial ?_
            rw [← Int32.sub_eq_add_neg]
            refine PW.nl [3] ?_
            exact ih i2 _ M2 (by omega) hF hz hx hl hst2 (by omega)
          · skip
            rw [ob_none hob] at h249
            obtain ⟨b, hp⟩ := Option.ne_none_iff_exists'.mp h249
            have hb6 := hob b hp
            subst hp
            have eb2 : ob (some b) = nI b := rfl
            rw [eb2]
            have hbd : dn hh T 7 b ≤ 6 := by have := ho.2.2.1; simp at this; exact this.2
            have eB := dn_F hh T 1000000000 b
            rw [if_pos hbd] at eB
            refine PW.igt rfl ⟨⟨trivial, vp_in_nI (by omega) (by decide)⟩, vp_in_nI (by omega) (by decide)⟩ (fun h264 => ?_) (fun h264 => ?_)
            · skip
              rw [nI_clamp (by omega), nI_clamp (by omega), hl i2 (by omega), hl b hb6, eD, eB, nI_ltI (by omega) (by omega)] at h264
              have hst2 : IsM (dn hh T 7) (fun a => mr a && decide (dn hh T 7 a ≤ 6)) i2 (some b) := by rw [if_neg (fun z => by have := z.2 b rfl; omega)] at hst; exact hst
              refine PW.goto rfl trivial ?_
              rw [← Int32.sub_eq_add_neg]
              refine PW.nl [3] ?_
              exact ih i2 _ M2 (by omega) hF hz hx hl hst2 (by omega)
            · skip
              rw [nI_clamp (by omega), nI_clamp (by omega), hl i2 (by omega), hl b hb6, eD, eB, nI_ltI (by omega) (by omega)] at h264
              have hst2 : IsM (dn hh T 7) (fun a => mr a && decide (dn hh T 7 a ≤ 6)) i2 (some i2) := by rw [if_pos ⟨rfl, fun b2 q => by cases q; omega⟩] at hst; exact hst
              refine PW.goto rfl trivial ?_
              refine PW.goto rfl trivial ?_
              rw [← Int32.sub_eq_add_neg]
              refine PW.nl [3] ?_
              exact ih i2 _ M2 (by omega) hF hz hx hl hst2 (by omega)
      refine PW.zlt rfl trivial (fun h207 => ?_) (fun h207 => ?_)
      · skip
        have e0 : i = 0 := by
          rcases Nat.eq_zero_or_pos i with z | z
          · exact z
          · rw [nI_m1 z] at h207; exact absurd h207 (nI_pos (by omega))
        subst e0
        have eo : o = cst hh T mr := ho.one (cst_ism hh T mr)
        subst eo
        refine PW.ine rfl trivial (fun h287 => ?_) (fun h287 => ?_)
        · skip
          rw [ob_none hob] at h287
          obtain ⟨s, hp⟩ := Option.ne_none_iff_exists'.mp h287
          have eb2 : ob (some s) = nI s := rfl
          have hs6 := hob s hp
          refine PW.lc (L' := [.ref 29, .int (nI s), .int (nI 0 - 1), .null]) (by rw [hp]; rfl) ?_
          refine PW.to 304 rfl ⟨trivial, vp_in_nI (n := 0) (by decide) (by decide)⟩ ?_
          refine PW.nl [2, 3] ?_
          have hd1 := dn_pos (h := hh) (T := T) (F := 7) (a := s) (by decide)
          refine loop304 (dn hh T 7 s + 1) s 0 _ hp hd1 ?_ ?_ ?_ ?_ ?_ (fun j hj => ?_) (by omega)
          · exact ((hF.th (Or.inr rfl)).put (by decide)).th (Or.inr rfl)
          · exact fun j hj => hz j hj
          · exact fun x h1 => hx x h1
          · exact fun j hj => hl j hj
          · exact up_s
          · rw [show j = 0 by omega]
            have e0 : Int32.toNatClampNeg 0 = 0 := by decide
            simp [va_up, upd, chn, e0]
        · skip
          rw [ob_none hob] at h287
          refine PW.zret rfl rfl trivial (rfl) ?_
          exact ⟨by rw [h287]; rfl, hF.th (Or.inr rfl), fun j hj => hz j hj, fun s q => by rw [h287] at q; cases q⟩
      · skip
        have hi0 : 0 < i := by
          rcases Nat.eq_zero_or_pos i with z | z
          · subst z; exact absurd (by decide) h207
          · exact z
        obtain ⟨i, rfl⟩ : ∃ j, i = j + 1 := ⟨i - 1, by omega⟩
        rw [nI_m1 (by omega), Nat.add_sub_cancel]
        have hdi := hdu i (by omega)
        have hm := hml i
        have hst := ho.step (by omega)
        have eD := dn_F hh T 1000000000 i
        refine PW.funV rfl trivial sX8_106 rfl rfl (by decide) rfl (m_manyOf 1 i (by omega) Hw (H.fj hF)) ?_
        rw [show sl 1 mp dr = dr from rfl]
        refine PW.ile rfl ⟨trivial, vp_in_nI (by omega) (by decide)⟩ (fun h222 => ?_) (fun h222 => ?_)
        · skip
          rw [nI_clamp (by omega), hz i (by omega), nI_leI (by omega) (by omega)] at h222
          have hok : (mr i && decide (dn hh T 7 i ≤ 6)) = false := by rw [emr]; simp [hasmore]; omega
          refine PW.to 241 rfl trivial ?_
          exact join241 i false rfl hok
        · skip
          rw [nI_clamp (by omega), hz i (by omega), nI_leI (by omega) (by omega)] at h222
          have hmr : mr i = true := by rw [emr]; simp [hasmore]; omega
          refine PW.ige rfl ⟨trivial, vp_in_nI (by omega) (by decide)⟩ (fun h233 => ?_) (fun h233 => ?_)
          · skip
            rw [nI_clamp (by omega), hl i (by omega), show (1000000000 : Int32) = nI 1000000000 from rfl, nI_leI (by omega) (by rw [eD]; split <;> omega)] at h233
            have hok : (mr i && decide (dn hh T 7 i ≤ 6)) = false := by
              have : ¬ dn hh T 7 i ≤ 6 := fun q => by rw [if_pos q] at eD; omega
              simp [this]
            refine PW.to 241 rfl trivial ?_
            exact join241 i false rfl hok
          · skip
            rw [nI_clamp (by omega), hl i (by omega), show (1000000000 : Int32) = nI 1000000000 from rfl, nI_leI (by omega) (by rw [eD]; split <;> omega)] at h233
            have hd6 : dn hh T 7 i ≤ 6 := by
              by_cases q : dn hh T 7 i ≤ 6
              · exact q
              · rw [if_neg q] at eD; omega
            rw [if_pos hd6] at eD
            have hok : (mr i && decide (dn hh T 7 i ≤ 6)) = true := by simp [hmr, hd6]
            refine PW.goto rfl trivial ?_
            exact join241 i true rfl hok
  have loop107 : ∀ k : Nat, ∀ (r : Nat) (est : Nat → Nat) (M2 : Mem), r ≤ 6 → FJ [33, 34, 35, 36, 37, 43] M M2 → (∀ j, j < 6 → M2.1 33 j = nI (du j)) → (∀ x, x < 36 → M2.1 36 x = bo (hh (x / 6) (x % 6))) → (∀ j, j < 6 → M2.1 43 j = nI (est j)) → Rx hh T 1000000000 est r 0 0 → 6 - r < k → PW X l mX8_linked 5 (fun v M' => v = some (.int (bo (cst hh T mr).isSome)) ∧ FJ [33, 34, 35, 36, 37, 43] M M' ∧ (∀ j, j < 6 → M'.1 33 j = nI (du j)) ∧ (∀ s, cst hh T mr = some s → M'.1 29 12 = nI (dn hh T 7 s) ∧ ∀ i, i < dn hh T 7 s → M'.1 37 i = nI (chn hh T s i))) 107 [.ref 29, .int (nI r), .null, .null] [] G0 M2 := by
    intro k
    induction k with
    | zero => intro r est M2 hr hF hz hx hl hR hk; exact absurd hk (Nat.not_lt_zero _)
    | succ k ih =>
      intro r est M2 hr hF hz hx hl hR hk
      have loop115 : ∀ k115 : Nat, ∀ (a : Nat) (est : Nat → Nat) (M2 : Mem), r < 6 → a ≤ 6 → FJ [33, 34, 35, 36, 37, 43] M M2 → (∀ j, j < 6 → M2.1 33 j = nI (du j)) → (∀ x, x < 36 → M2.1 36 x = bo (hh (x / 6) (x % 6))) → (∀ j, j < 6 → M2.1 43 j = nI (est j)) → Rx hh T 1000000000 est r a 0 → 6 - a < k115 → PW X l mX8_linked 5 (fun v M' => v = some (.int (bo (cst hh T mr).isSome)) ∧ FJ [33, 34, 35, 36, 37, 43] M M' ∧ (∀ j, j < 6 → M'.1 33 j = nI (du j)) ∧ (∀ s, cst hh T mr = some s → M'.1 29 12 = nI (dn hh T 7 s) ∧ ∀ i, i < dn hh T 7 s → M'.1 37 i = nI (chn hh T s i))) 115 [.ref 29, .int (nI r), .int (nI a), .null] [] G0 M2 := by
        intro k115
        induction k115 with
        | zero => intro a est M2 hr6 ha hF hz hx hl hR hk2; exact absurd hk2 (Nat.not_lt_zero _)
        | succ k115 ih115 =>
          intro a est M2 hr6 ha hF hz hx hl hR hk2
          have loop123 : ∀ k123 : Nat, ∀ (b : Nat) (est : Nat → Nat) (M2 : Mem), a < 6 → b ≤ 6 → FJ [33, 34, 35, 36, 37, 43] M M2 → (∀ j, j < 6 → M2.1 33 j = nI (du j)) → (∀ x, x < 36 → M2.1 36 x = bo (hh (x / 6) (x % 6))) → (∀ j, j < 6 → M2.1 43 j = nI (est j)) → Rx hh T 1000000000 est r a b → 6 - b < k123 → PW X l mX8_linked 5 (fun v M' => v = some (.int (bo (cst hh T mr).isSome)) ∧ FJ [33, 34, 35, 36, 37, 43] M M' ∧ (∀ j, j < 6 → M'.1 33 j = nI (du j)) ∧ (∀ s, cst hh T mr = some s → M'.1 29 12 = nI (dn hh T 7 s) ∧ ∀ i, i < dn hh T 7 s → M'.1 37 i = nI (chn hh T s i))) 123 [.ref 29, .int (nI r), .int (nI a), .int (nI b)] [] G0 M2 := by
            intro k123
            induction k123 with
            | zero => intro b est M2 ha6 hb hF hz hx hl hR hk3; exact absurd hk3 (Nat.not_lt_zero _)
            | succ k123 ih123 =>
              intro b est M2 ha6 hb hF hz hx hl hR hk3
              refine PW.ige rfl trivial (fun h126 => ?_) (fun h126 => ?_)
              · skip
                rw [i6 (by omega)] at h126
                have e9 : b = 6 := by omega
                subst e9
                refine PW.goto rfl trivial ?_
                rw [nI_1]
                refine PW.nl [3] ?_
                exact ih115 (a + 1) est M2 hr6 (by omega) hF hz hx hl (hR.row (by decide) ha6) (by omega)
              · skip
                rw [i6 (by omega)] at h126
                have ea := (hR.1 a ha6).2
                have eb := (hR.1 b (by omega)).2
                refine PW.zeq rfl ⟨trivial, (by rw [show (6 : Int32) = nI 6 from rfl, pk_mul, nI_add]; exact vp_in_nI (by omega) (by decide))⟩ (fun h145 => ?_) (fun h145 => ?_)
                · skip
                  rw [show (6 : Int32) = nI 6 from rfl, pk_mul, nI_add, nI_clamp (by omega), hx _ (by omega), show (6 * a + b) / 6 = a by omega, show (6 * a + b) % 6 = b by omega, bo_eq] at h145
                  refine PW.goto rfl ⟨⟨trivial, vp_in_nI (by omega) (by decide)⟩, vp_in_nI (by omega) (by decide)⟩ ?_
                  rw [nI_clamp (by omega), hl a ha6]
                  rw [nI_1]
                  refine ih123 (b + 1) (fun j => if j = a ∧ hh a b = true ∧ est b + 1 < est a then est b + 1 else est j) _ ha6 (by omega) (hF.put (by decide)) (fun j hj => hz j hj) (fun x h1 => hx x h1) (fun j hj => ?_) (hR.col (by decide) ha6 (by omega)) (by omega)
                  dsimp only
                  by_cases q : j = a
                  · subst q; rw [up_same]
                    first | (rw [if_neg (fun z => by rw [h145] at z; exact absurd z.2.1 (by decide))]) | (rw [if_neg (fun z => by omega)])
                  · rw [if_neg (fun z => q z.1)]; exact (up_ne q).trans (hl j hj)
                · skip
                  rw [show (6 : Int32) = nI 6 from rfl, pk_mul, nI_add, nI_clamp (by omega), hx _ (by omega), show (6 * a + b) / 6 = a by omega, show (6 * a + b) % 6 = b by omega, bo_ne] at h145
                  refine PW.ige rfl ⟨⟨trivial, vp_in_nI (by omega) (by decide)⟩, vp_in_nI (by omega) (by decide)⟩ (fun h162 => ?_) (fun h162 => ?_)
                  · skip
                    rw [nI_clamp (by omega), nI_clamp (by omega), hl a ha6, hl b (by omega), nI_1, nI_leI (by omega) (by omega)] at h162
                    refine PW.goto rfl ⟨⟨trivial, vp_in_nI (by omega) (by decide)⟩, vp_in_nI (by omega) (by decide)⟩ ?_
                    rw [nI_clamp (by omega), hl a ha6]
                    rw [nI_1]
                    refine ih123 (b + 1) (fun j => if j = a ∧ hh a b = true ∧ est b + 1 < est a then est b + 1 else est j) _ ha6 (by omega) (hF.put (by decide)) (fun j hj => hz j hj) (fun x h1 => hx x h1) (fun j hj => ?_) (hR.col (by decide) ha6 (by omega)) (by omega)
                    dsimp only
                    by_cases q : j = a
                    · subst q; rw [up_same]
                      first | (rw [if_neg (fun z => by rw [h145] at z; exact absurd z.2.1 (by decide))]) | (rw [if_neg (fun z => by omega)])
                    · rw [if_neg (fun z => q z.1)]; exact (up_ne q).trans (hl j hj)
                  · skip
                    rw [nI_clamp (by omega), nI_clamp (by omega), hl a ha6, hl b (by omega), nI_1, nI_leI (by omega) (by omega)] at h162
                    refine PW.goto rfl ⟨trivial, vp_in_nI (by omega) (by decide)⟩ ?_
                    refine PW.goto rfl ⟨trivial, vp_in_nI (by omega) (by decide)⟩ ?_
                    rw [nI_clamp (by omega), nI_clamp (by omega), hl b (by omega), nI_1]
                    rw [nI_1]
                    refine ih123 (b + 1) (fun j => if j = a ∧ hh a b = true ∧ est b + 1 < est a then est b + 1 else est j) _ ha6 (by omega) (hF.put (by decide)) (fun j hj => hz j hj) (fun x h1 => hx x h1) (fun j hj => ?_) (hR.col (by decide) ha6 (by omega)) (by omega)
                    dsimp only
                    by_cases q : j = a
                    · subst q; rw [up_same]
                      rw [if_pos ⟨rfl, h145, by omega⟩]
                    · rw [if_neg (fun z => q z.1)]; exact (up_ne q).trans (hl j hj)
          refine PW.ige rfl trivial (fun h118 => ?_) (fun h118 => ?_)
          · skip
            rw [i6 (by omega)] at h118
            have e9 : a = 6 := by omega
            subst e9
            refine PW.goto rfl trivial ?_
            rw [nI_1]
            refine PW.nl [2] ?_
            exact ih (r + 1) est M2 (by omega) hF hz hx hl hR.round (by omega)
          · skip
            rw [i6 (by omega)] at h118
            refine PW.to 123 rfl trivial ?_
            exact loop123 7 0 est M2 (by omega) (by omega) hF hz hx hl hR (by omega)
      refine PW.ige rfl trivial (fun h110 => ?_) (fun h110 => ?_)
      · skip
        rw [i6 (by omega)] at h110
        have e9 : r = 6 := by omega
        subst e9
        refine PW.to 206 rfl trivial ?_
        refine PW.nl [3] ?_
        refine PW.lc ?_ (loop206 7 6 none M2 (by omega) hF hz hx (fun j hj => by rw [hl j hj, hR.done (by omega) j hj]) (fun j h1 h2 => absurd h2 (by omega)) (by omega))
        rw [show nI 6 - 1 = 5 by decide]; rfl
      · skip
        rw [i6 (by omega)] at h110
        refine PW.to 115 rfl trivial ?_
        exact loop115 7 0 est M2 (by omega) (by omega) hF hz hx hl hR (by omega)
  have loop66 : ∀ k : Nat, ∀ (i : Nat) (M2 : Mem), i ≤ 6 → FJ [33, 34, 35, 36, 37, 43] M M2 → (∀ j, j < 6 → M2.1 33 j = nI (du j)) → (∀ x, x < 36 → M2.1 36 x = bo (hh (x / 6) (x % 6))) → (∀ j, j < i → M2.1 43 j = nI (if T j = true then 1 else 1000000000)) → 6 - i < k → PW X l mX8_linked 5 (fun v M' => v = some (.int (bo (cst hh T mr).isSome)) ∧ FJ [33, 34, 35, 36, 37, 43] M M' ∧ (∀ j, j < 6 → M'.1 33 j = nI (du j)) ∧ (∀ s, cst hh T mr = some s → M'.1 29 12 = nI (dn hh T 7 s) ∧ ∀ i, i < dn hh T 7 s → M'.1 37 i = nI (chn hh T s i))) 66 [.ref 29, .int (nI i), .null, .null] [] G0 M2 := by
    intro k
    induction k with
    | zero => intro i M2 hi hF hz hx hl hk; exact absurd hk (Nat.not_lt_zero _)
    | succ k ih =>
      intro i M2 hi hF hz hx hl hk
      refine PW.ige rfl trivial (fun h69 => ?_) (fun h69 => ?_)
      · skip
        rw [i6 (by omega)] at h69
        have e9 : i = 6 := by omega
        subst e9
        refine PW.to 107 rfl trivial ?_
        exact loop107 7 0 (fun j => if T j = true then 1 else 1000000000) M2 (by omega) hF hz hx hl (Rx.start (by decide)) (by omega)
      · skip
        rw [i6 (by omega)] at h69
        refine PW.funV rfl trivial sX8_106 rfl rfl (by decide) rfl (m_manyOf 1 i (by omega) Hw (H.fj hF)) ?_
        rw [show sl 1 mp dr = dr from rfl]
        have hm := hml i
        have hdi := hdu i (by omega)
        refine PW.ige rfl ⟨trivial, vp_in_nI (by omega) (by decide)⟩ (fun h89 => ?_) (fun h89 => ?_)
        · skip
          rw [nI_clamp (by omega), hz i (by omega), nI_leI (by omega) (by omega)] at h89
          have eT2 : ¬ T i = true := by rw [eT]; simp [hasless]; omega
          refine PW.goto rfl ⟨trivial, vp_in_nI (by omega) (by decide)⟩ ?_
          rw [nI_clamp (by omega), nI_1]
          refine ih (i + 1) _ (by omega) (hF.put (by decide)) (fun j hj => hz j hj) (fun x h1 => hx x h1) (fun j hj => ?_) (by omega)
          by_cases q : j = i
          · subst q; rw [up_s]; first | (rw [if_pos eT2]; rfl) | (rw [if_neg eT2]; rfl)
          · exact (up_n q).trans (hl j (by omega))
        · skip
          rw [nI_clamp (by omega), hz i (by omega), nI_leI (by omega) (by omega)] at h89
          have eT2 : T i = true := by rw [eT]; simp [hasless]; omega
          refine PW.goto rfl trivial ?_
          refine PW.goto rfl ⟨trivial, vp_in_nI (by omega) (by decide)⟩ ?_
          rw [nI_clamp (by omega), nI_1]
          refine ih (i + 1) _ (by omega) (hF.put (by decide)) (fun j hj => hz j hj) (fun x h1 => hx x h1) (fun j hj => ?_) (by omega)
          by_cases q : j = i
          · subst q; rw [up_s]; first | (rw [if_pos eT2]; rfl) | (rw [if_neg eT2]; rfl)
          · exact (up_n q).trans (hl j (by omega))
  have loop6 : ∀ k : Nat, ∀ (a : Nat) (M2 : Mem), a ≤ 6 → FJ [33, 34, 35, 36, 37, 43] M M2 → (∀ j, j < 6 → M2.1 33 j = nI (du j)) → (∀ x, x < 6 * a → M2.1 36 x = bo (hh (x / 6) (x % 6))) → 6 - a < k → PW X l mX8_linked 5 (fun v M' => v = some (.int (bo (cst hh T mr).isSome)) ∧ FJ [33, 34, 35, 36, 37, 43] M M' ∧ (∀ j, j < 6 → M'.1 33 j = nI (du j)) ∧ (∀ s, cst hh T mr = some s → M'.1 29 12 = nI (dn hh T 7 s) ∧ ∀ i, i < dn hh T 7 s → M'.1 37 i = nI (chn hh T s i))) 6 [.ref 29, .int (nI a), .null, .null] [] G0 M2 := by
    intro k
    induction k with
    | zero => intro a M2 ha hF hz hx hk; exact absurd hk (Nat.not_lt_zero _)
    | succ k ih =>
      intro a M2 ha hF hz hx hk
      have loop14 : ∀ k14 : Nat, ∀ (b : Nat) (M3 : Mem), a < 6 → b ≤ 6 → FJ [33, 34, 35, 36, 37, 43] M M3 → (∀ j, j < 6 → M3.1 33 j = nI (du j)) → (∀ x, x < 6 * a + b → M3.1 36 x = bo (hh (x / 6) (x % 6))) → 6 - b < k14 → PW X l mX8_linked 5 (fun v M' => v = some (.int (bo (cst hh T mr).isSome)) ∧ FJ [33, 34, 35, 36, 37, 43] M M' ∧ (∀ j, j < 6 → M'.1 33 j = nI (du j)) ∧ (∀ s, cst hh T mr = some s → M'.1 29 12 = nI (dn hh T 7 s) ∧ ∀ i, i < dn hh T 7 s → M'.1 37 i = nI (chn hh T s i))) 14 [.ref 29, .int (nI a), .int (nI b), .null] [] G0 M3 := by
        intro k14
        induction k14 with
        | zero => intro b M3 ha6 hb hF3 hz3 hx3 hk3; exact absurd hk3 (Nat.not_lt_zero _)
        | succ k14 ih14 =>
          intro b M3 ha6 hb hF3 hz3 hx3 hk3
          refine PW.ige rfl trivial (fun h17 => ?_) (fun h17 => ?_)
          · skip
            rw [i6 (by omega)] at h17
            have e9 : b = 6 := by omega
            subst e9
            refine PW.goto rfl trivial ?_
            rw [nI_1]
            refine PW.nl [2] ?_
            exact ih (a + 1) M3 (by omega) hF3 hz3 (fun x hx => hx3 x (by omega)) (by omega)
          · skip
            rw [i6 (by omega)] at h17
            refine PW.ieq rfl trivial (fun h32 => ?_) (fun h32 => ?_)
            · skip
              rw [nI_eq (by omega) (by omega)] at h32
              have ebf : bo (hh a b) = 0 := by rw [ehh]; simp [hnd, h32, bo]
              have hF5 := hF3
              have hz5 := hz3
              have hx5 := hx3
              refine PW.goto rfl ⟨trivial, (by rw [show (6 : Int32) = nI 6 from rfl, pk_mul, nI_add]; exact vp_in_nI (by omega) (by decide))⟩ ?_
              rw [show (6 : Int32) = nI 6 from rfl, pk_mul, nI_add, nI_clamp (by omega), nI_1]
              exact ih14 (b + 1) _ ha6 (by omega) (hF5.put (by decide)) (fun j hj => hz5 j hj) (fun x hx => up36 (y := 0) hx5 ebf (by omega) x hx) (by omega)
            · skip
              rw [nI_eq (by omega) (by omega)] at h32
              refine PW.callV rfl trivial sX8_150 rfl rfl (by decide) rfl (m_leastTo Hw (H.fj hF3) a b (by omega) (by omega)) (fun v38 M38 hq38 => ?_)
              obtain ⟨rfl, hF4⟩ := hq38
              have hF5 := hF3.tr (hF4.fj (by decide))
              have hz5 : ∀ j, j < 6 → M38.1 33 j = nI (du j) := fun j hj => by rw [hF4.at 33]; exact hz3 j hj
              have hx5 : ∀ x, x < 6 * a + b → M38.1 36 x = bo (hh (x / 6) (x % 6)) := fun x hx => by rw [hF4.at 36]; exact hx3 x hx
              refine PW.ieq rfl trivial (fun h43 => ?_) (fun h43 => ?_)
              · skip
                rw [ob_nn] at h43
                have ebf : bo (hh a b) = 0 := by rw [ehh]; simp [hnd, h43, bo]
                refine PW.goto rfl ⟨trivial, (by rw [show (6 : Int32) = nI 6 from rfl, pk_mul, nI_add]; exact vp_in_nI (by omega) (by decide))⟩ ?_
                rw [show (6 : Int32) = nI 6 from rfl, pk_mul, nI_add, nI_clamp (by omega), nI_1]
                exact ih14 (b + 1) _ ha6 (by omega) (hF5.put (by decide)) (fun j hj => hz5 j hj) (fun x hx => up36 (y := 0) hx5 ebf (by omega) x hx) (by omega)
              · skip
                rw [ob_nn] at h43
                have ebt : bo (hh a b) = 1 := by
                  obtain ⟨c, hc⟩ := Option.ne_none_iff_exists'.mp h43
                  rw [ehh]; simp [hnd, h32, hc, bo]
                refine PW.goto rfl trivial ?_
                refine PW.goto rfl ⟨trivial, (by rw [show (6 : Int32) = nI 6 from rfl, pk_mul, nI_add]; exact vp_in_nI (by omega) (by decide))⟩ ?_
                rw [show (6 : Int32) = nI 6 from rfl, pk_mul, nI_add, nI_clamp (by omega), nI_1]
                exact ih14 (b + 1) _ ha6 (by omega) (hF5.put (by decide)) (fun j hj => hz5 j hj) (fun x hx => up36 (y := 1) hx5 ebt (by omega) x hx) (by omega)
      refine PW.ige rfl trivial (fun h9 => ?_) (fun h9 => ?_)
      · skip
        rw [i6 (by omega)] at h9
        have e9 : a = 6 := by omega
        subst e9
        refine PW.to 66 rfl trivial ?_
        refine PW.nl [2, 3] ?_
        exact loop66 7 0 M2 (by omega) hF hz hx (fun j hj => absurd hj (Nat.not_lt_zero j)) (by omega)
      · skip
        rw [i6 (by omega)] at h9
        refine PW.to 14 rfl trivial ?_
        exact loop14 7 0 M2 (by omega) (by omega) hF hz hx (by omega)
  refine PW.callV rfl trivial sX8_114 rfl rfl (by decide) rfl (m_share Hw H Hd HH) (fun v1 M1 hq1 => ?_)
  obtain ⟨rfl, hF0, hz0⟩ := hq1
  rw [← edu] at hz0
  refine PW.to 6 rfl trivial ?_
  exact loop6 7 0 M1 (by omega) (hF0.fj (by decide)) hz0 (fun x hx => absurd hx (by omega)) (by omega)
end M6
end
section
/-! the reference's whole state; what a call with any ints asks first -/
def okc (n : Nat) (c : Int32) : Bool := decide (0 ≤ c.toInt ∧ c.toInt < ((n : Nat) : Int))
def okl (m : Int) (x : Int32) : Bool := decide (0 ≤ x.toInt ∧ x.toInt ≤ m)
def okr (a b : Int) (x : Int32) : Bool := decide (a ≤ x.toInt ∧ x.toInt ≤ b)
def tn (x : Int32) : Nat := x.toInt.toNat
theorem okc_t {n : Nat} {c : Int32} (h : okc n c = true) : tn c < n ∧ c = nI (tn c) := by
  simp only [okc, decide_eq_true_eq] at h
  have h1 := fb_rng c
  refine ⟨by unfold tn; omega, Int32.toInt_inj.mp ?_⟩
  rw [nI_toInt (by unfold tn; omega)]
  unfold tn; omega
theorem okl_t {m : Nat} {c : Int32} (h : okl m c = true) : tn c ≤ m ∧ c = nI (tn c) := by
  simp only [okl, decide_eq_true_eq] at h
  have h1 := fb_rng c
  refine ⟨by unfold tn; omega, Int32.toInt_inj.mp ?_⟩
  rw [nI_toInt (by unfold tn; omega)]
  unfold tn; omega
theorem okr_t {a b : Nat} {c : Int32} (h : okr a b c = true) : a ≤ tn c ∧ tn c ≤ b ∧ c = nI (tn c) := by
  simp only [okr, decide_eq_true_eq] at h
  have h1 := fb_rng c
  refine ⟨by unfold tn; omega, by unfold tn; omega, Int32.toInt_inj.mp ?_⟩
  rw [nI_toInt (by unfold tn; omega)]
  unfold tn; omega
theorem bn_eq {b : Bool} : bo (!b) = 0 ↔ b = true := by cases b <;> decide
theorem bn_ne {b : Bool} : (¬ bo (!b) = 0) ↔ b = false := by cases b <;> decide
theorem in_l (x : Int32) (m : Int32) : decide ((0 : Int64) ≤ x.toInt64 ∧ x.toInt64 ≤ m.toInt64) = okl m.toInt x := in_i x 0 m
theorem in_r (x a b : Int32) : decide (a.toInt64 ≤ x.toInt64 ∧ x.toInt64 ≤ b.toInt64) = okr a.toInt b.toInt x := in_i x a b
def SM (w h : Nat) (mp dr hd : Nat → Nat) (wy : Nat) (vt : Nat → Nat) (M : Mem) : Prop := WM w h mp dr M ∧ HM hd wy M ∧ ∀ k, k < 18 → M.1 48 k = nI (vt k)
def Sf (w h : Nat) (mp dr hd : Nat → Nat) (wy : Nat) (vt : Nat → Nat) : Prop := Wf w h mp dr ∧ Hf hd wy ∧ ∀ k, vt k ≤ 999
/-- the class's cells stay -/
def FM (M M' : Mem) : Prop := (∀ a, a < 29 → M'.1 a = M.1 a) ∧ M'.2 = M.2
theorem FM.tr {M M2 M3 : Mem} (h1 : FM M M2) (h2 : FM M2 M3) : FM M M3 := ⟨fun a h => (h2.1 a h).trans (h1.1 a h), h2.2.trans h1.2⟩
theorem FJ.fm {A : List Nat} {M M2 : Mem} (h : FJ A M M2) (hA : ∀ a, a ∈ A → 29 ≤ a := by decide) : FM M M2 := ⟨fun a ha => h.1 a (fun q => by have := hA a q; omega) (by omega), h.2.2⟩
theorem SM.fj {w h : Nat} {mp dr hd : Nat → Nat} {wy : Nat} {vt : Nat → Nat} {A : List Nat} {M M2 : Mem} (S : SM w h mp dr hd wy vt M) (J : FJ A M M2) (hA : 30 ∉ A ∧ 31 ∉ A ∧ 32 ∉ A ∧ 48 ∉ A := by decide) (hB : ∀ a, a ∈ A → 29 ≤ a := by decide) : SM w h mp dr hd wy vt M2 ∧ FM M M2 :=
  ⟨⟨S.1.fj J ⟨hA.1, hA.2.1⟩, S.2.1.fj J hA.2.2.1, fun k hk => by rw [J.1 48 hA.2.2.2 (by decide)]; exact S.2.2 k hk⟩, J.fm hB⟩
theorem th0 (M : Mem) {A : List Nat} : FJ A M (va_up M.1 29 (upd (M.1 29) 0 0), M.2) := FJ.rf.th (Or.inl rfl)
/-- the leader of three -/
def mos (a b c : Nat) : Int32 := if b < a ∧ c < a then 0 else if a < b ∧ c < b then 1 else if a < c ∧ b < c then 2 else -9
def wnr (vt : Nat → Nat) (l : Nat) : Int32 := mos (vt (3 * l)) (vt (3 * l + 1)) (vt (3 * l + 2))
/-- a side's tally: by 2 votes, else cells of f of the lands that it wins -/
def tly (n : Nat) (f : Nat → Nat) (vt : Nat → Nat) (s by2 : Nat) (k : Nat) : Nat := fb_sm (fun l => if by2 = 2 then vt (3 * l + s) else if wnr vt l = nI s then many f l n else 0) k
def ldr (n : Nat) (mp dr : Nat → Nat) (vt : Nat → Nat) (b : Nat) : Int32 := mos (tly n (if b = 1 then dr else mp) vt 0 b 6) (tly n (if b = 1 then dr else mp) vt 1 b 6) (tly n (if b = 1 then dr else mp) vt 2 b 6)
/-- cells along a chain; how many went, and the drawing behind it -/
noncomputable def pas (w n : Nat) (ch : Nat → Nat) : Nat → (Nat → Nat) → Nat × (Nat → Nat)
  | 0, dr => (0, dr)
  | m + 1, dr => match fnd (fun c => decide (dr c = ch m) && mayh w n dr c (ch (m + 1))) n with
    | none => (0, dr)
    | some c => ((pas w n ch m (set1 dr c (ch (m + 1)))).1 + 1, (pas w n ch m (set1 dr c (ch (m + 1)))).2)
theorem tn_nI {k : Nat} (h : k < 2 ^ 31) : tn (nI k) = k := by unfold tn; rw [nI_toInt h]; rfl
theorem okc_x {n : Nat} {c : Int32} (h : okc n c = true) : ∃ k, k < n ∧ c = nI k := ⟨tn c, okc_t h⟩
theorem okl_x {m : Nat} {c : Int32} (h : okl m c = true) : ∃ k, k ≤ m ∧ c = nI k := ⟨tn c, okl_t h⟩
theorem okr_x {a b : Nat} {c : Int32} (h : okr a b c = true) : ∃ k, a ≤ k ∧ k ≤ b ∧ c = nI k := ⟨tn c, okr_t h⟩
theorem if_f {α : Type} {b : Bool} {x y : α} (h : b = false) : (if b = true then x else y) = y := by rw [h]; rfl
theorem if_t {α : Type} {b : Bool} {x y : α} (h : b = true) : (if b = true then x else y) = x := by rw [h]; rfl
end
section
-- made by wip/whole/mk_m7.py
section M7
variable {X : Cx} {l : Launch} {M : Mem}
theorem m_most (a b c : Nat) (ha : a < 2 ^ 31) (hb : b < 2 ^ 31) (hc : c < 2 ^ 31) : PF X l mX8_most 0 [.int (nI a), .int (nI b), .int (nI c)] G0 M (.int (mos a b c)) := by
  refine PF.ofW okX8_most ?_
  refine PW.ile rfl trivial (fun h2 => ?_) (fun h2 => ?_)
  · skip
    rw [nI_leI (by omega) (by omega)] at h2
    refine PW.ile rfl trivial (fun h16 => ?_) (fun h16 => ?_)
    · skip
      rw [nI_leI (by omega) (by omega)] at h16
      refine PW.ile rfl trivial (fun h30 => ?_) (fun h30 => ?_)
      · skip
        rw [nI_leI (by omega) (by omega)] at h30
        refine PW.iret rfl rfl trivial ?_
        refine ⟨?_, rfl⟩
        unfold mos
        split
        · first | rfl | omega
        · split
          · first | rfl | omega
          · split
            · first | rfl | omega
            · first | rfl | omega
      · skip
        rw [nI_leI (by omega) (by omega)] at h30
        refine PW.ile rfl trivial (fun h35 => ?_) (fun h35 => ?_)
        · skip
          rw [nI_leI (by omega) (by omega)] at h35
          refine PW.iret rfl rfl trivial ?_
          refine ⟨?_, rfl⟩
          unfold mos
          split
          · first | rfl | omega
          · split
            · first | rfl | omega
            · split
              · first | rfl | omega
              · first | rfl | omega
        · skip
          rw [nI_leI (by omega) (by omega)] at h35
          refine PW.goto rfl trivial ?_
          refine PW.iret rfl rfl trivial ?_
          refine ⟨?_, rfl⟩
          unfold mos
          split
          · first | rfl | omega
          · split
            · first | rfl | omega
            · split
              · first | rfl | omega
              · first | rfl | omega
    · skip
      rw [nI_leI (by omega) (by omega)] at h16
      refine PW.ile rfl trivial (fun h21 => ?_) (fun h21 => ?_)
      · skip
        rw [nI_leI (by omega) (by omega)] at h21
        refine PW.ile rfl trivial (fun h30 => ?_) (fun h30 => ?_)
        · skip
          rw [nI_leI (by omega) (by omega)] at h30
          refine PW.iret rfl rfl trivial ?_
          refine ⟨?_, rfl⟩
          unfold mos
          split
          · first | rfl | omega
          · split
            · first | rfl | omega
            · split
              · first | rfl | omega
              · first | rfl | omega
        · skip
          rw [nI_leI (by omega) (by omega)] at h30
          refine PW.ile rfl trivial (fun h35 => ?_) (fun h35 => ?_)
          · skip
            rw [nI_leI (by omega) (by omega)] at h35
            refine PW.iret rfl rfl trivial ?_
            refine ⟨?_, rfl⟩
            unfold mos
            split
            · first | rfl | omega
            · split
              · first | rfl | omega
              · split
                · first | rfl | omega
                · first | rfl | omega
          · skip
            rw [nI_leI (by omega) (by omega)] at h35
            refine PW.goto rfl trivial ?_
            refine PW.iret rfl rfl trivial ?_
            refine ⟨?_, rfl⟩
            unfold mos
            split
            · first | rfl | omega
            · split
              · first | rfl | omega
              · split
                · first | rfl | omega
                · first | rfl | omega
      · skip
        rw [nI_leI (by omega) (by omega)] at h21
        refine PW.goto rfl trivial ?_
        refine PW.iret rfl rfl trivial ?_
        refine ⟨?_, rfl⟩
        unfold mos
        split
        · first | rfl | omega
        · split
          · first | rfl | omega
          · split
            · first | rfl | omega
            · first | rfl | omega
  · skip
    rw [nI_leI (by omega) (by omega)] at h2
    refine PW.ile rfl trivial (fun h7 => ?_) (fun h7 => ?_)
    · skip
      rw [nI_leI (by omega) (by omega)] at h7
      refine PW.ile rfl trivial (fun h16 => ?_) (fun h16 => ?_)
      · skip
        rw [nI_leI (by omega) (by omega)] at h16
        refine PW.ile rfl trivial (fun h30 => ?_) (fun h30 => ?_)
        · skip
          rw [nI_leI (by omega) (by omega)] at h30
          refine PW.iret rfl rfl trivial ?_
          refine ⟨?_, rfl⟩
          unfold mos
          split
          · first | rfl | omega
          · split
            · first | rfl | omega
            · split
              · first | rfl | omega
              · first | rfl | omega
        · skip
          rw [nI_leI (by omega) (by omega)] at h30
          refine PW.ile rfl trivial (fun h35 => ?_) (fun h35 => ?_)
          · skip
            rw [nI_leI (by omega) (by omega)] at h35
            refine PW.iret rfl rfl trivial ?_
            refine ⟨?_, rfl⟩
            unfold mos
            split
            · first | rfl | omega
            · split
              · first | rfl | omega
              · split
                · first | rfl | omega
                · first | rfl | omega
          · skip
            rw [nI_leI (by omega) (by omega)] at h35
            refine PW.goto rfl trivial ?_
            refine PW.iret rfl rfl trivial ?_
            refine ⟨?_, rfl⟩
            unfold mos
            split
            · first | rfl | omega
            · split
              · first | rfl | omega
              · split
                · first | rfl | omega
                · first | rfl | omega
      · skip
        rw [nI_leI (by omega) (by omega)] at h16
        refine PW.ile rfl trivial (fun h21 => ?_) (fun h21 => ?_)
        · skip
          rw [nI_leI (by omega) (by omega)] at h21
          refine PW.ile rfl trivial (fun h30 => ?_) (fun h30 => ?_)
          · skip
            rw [nI_leI (by omega) (by omega)] at h30
            refine PW.iret rfl rfl trivial ?_
            refine ⟨?_, rfl⟩
            unfold mos
            split
            · first | rfl | omega
            · split
              · first | rfl | omega
              · split
                · first | rfl | omega
                · first | rfl | omega
          · skip
            rw [nI_leI (by omega) (by omega)] at h30
            refine PW.ile rfl trivial (fun h35 => ?_) (fun h35 => ?_)
            · skip
              rw [nI_leI (by omega) (by omega)] at h35
              refine PW.iret rfl rfl trivial ?_
              refine ⟨?_, rfl⟩
              unfold mos
              split
              · first | rfl | omega
              · split
                · first | rfl | omega
                · split
                  · first | rfl | omega
                  · first | rfl | omega
            · skip
              rw [nI_leI (by omega) (by omega)] at h35
              refine PW.goto rfl trivial ?_
              refine PW.iret rfl rfl trivial ?_
              refine ⟨?_, rfl⟩
              unfold mos
              split
              · first | rfl | omega
              · split
                · first | rfl | omega
                · split
                  · first | rfl | omega
                  · first | rfl | omega
        · skip
          rw [nI_leI (by omega) (by omega)] at h21
          refine PW.goto rfl trivial ?_
          refine PW.iret rfl rfl trivial ?_
          refine ⟨?_, rfl⟩
          unfold mos
          split
          · first | rfl | omega
          · split
            · first | rfl | omega
            · split
              · first | rfl | omega
              · first | rfl | omega
    · skip
      rw [nI_leI (by omega) (by omega)] at h7
      refine PW.goto rfl trivial ?_
      refine PW.iret rfl rfl trivial ?_
      refine ⟨?_, rfl⟩
      unfold mos
      split
      · first | rfl | omega
      · split
        · first | rfl | omega
        · split
          · first | rfl | omega
          · first | rfl | omega
theorem m_winner {w h : Nat} {mp dr hd : Nat → Nat} {wy : Nat} {vt : Nat → Nat} (F : Sf w h mp dr hd wy vt) (S : SM w h mp dr hd wy vt M) (lv : Nat) (hl : lv < 6) : PF X l mX8_winner 1 [.ref 29, .int (nI lv)] G0 M (.int (wnr vt lv)) := by
  refine PF.ofW okX8_winner ?_
  have e1 : (3 : Int32) * nI lv = nI (3 * lv) := by rw [show (3 : Int32) = nI 3 from rfl, pk_mul]
  have e2 : (3 : Int32) * nI lv + 1 = nI (3 * lv + 1) := by rw [e1, nI_1]
  have e3 : (3 : Int32) * nI lv + 2 = nI (3 * lv + 2) := by rw [e1, show (2 : Int32) = nI 2 from rfl, nI_add]
  have v1 := F.2.2 (3 * lv)
  have v2 := F.2.2 (3 * lv + 1)
  have v3 := F.2.2 (3 * lv + 2)
  refine PW.funS rfl ⟨⟨⟨trivial, (by rw [e1]; exact vp_in_nI (by omega) (by decide))⟩, (by rw [e2]; exact vp_in_nI (by omega) (by decide))⟩, (by rw [e3]; exact vp_in_nI (by omega) (by decide))⟩ sX8_184 rfl (by decide) rfl (show PF X l mX8_most 0 [.int (M.1 48 ((3 : Int32) * nI lv).toNatClampNeg), .int (M.1 48 ((3 : Int32) * nI lv + 1).toNatClampNeg), .int (M.1 48 ((3 : Int32) * nI lv + 2).toNatClampNeg)] G0 M (.int (wnr vt lv)) from by rw [e2, e3, e1, nI_clamp (by omega), nI_clamp (by omega), nI_clamp (by omega), S.2.2 _ (by omega), S.2.2 _ (by omega), S.2.2 _ (by omega)]; exact m_most _ _ _ (by omega) (by omega) (by omega)) ?_
  refine PW.iret rfl rfl trivial ?_
  exact ⟨rfl, rfl⟩
theorem m_sum {w h : Nat} {mp dr hd : Nat → Nat} {wy : Nat} {vt : Nat → Nat} (F : Sf w h mp dr hd wy vt) (S : SM w h mp dr hd wy vt M) (s b : Nat) (hs : s < 3) (hb : b < 3) : PF X l mX8_sum 2 [.ref 29, .int (nI s), .int (nI b)] G0 M (.int (nI (tly (w * h) (if b = 1 then dr else mp) vt s b 6))) := by
  refine PF.ofW okX8_sum ?_
  have loop5 : ∀ k : Nat, ∀ (i : Nat), i ≤ 6 → 6 - i < k → PW X l mX8_sum 2 (fun v M' => v = some (.int (nI (tly (w * h) (if b = 1 then dr else mp) vt s b 6))) ∧ M' = M) 5 [.ref 29, .int (nI s), .int (nI b), .int (nI (tly (w * h) (if b = 1 then dr else mp) vt s b i)), .int (nI i)] [] G0 M := by
    intro k
    induction k with
    | zero => intro i hi hk; exact absurd hk (Nat.not_lt_zero _)
    | succ k ih =>
      intro i hi hk
      refine PW.ige rfl trivial (fun h9 => ?_) (fun h9 => ?_)
      · skip
        rw [i6 (by omega)] at h9
        have e9 : i = 6 := by omega
        subst e9
        refine PW.iret rfl rfl trivial ?_
        exact ⟨rfl, rfl⟩
      · skip
        rw [i6 (by omega)] at h9
        have hn := F.1.n
        refine PW.ine rfl trivial (fun h15 => ?_) (fun h15 => ?_)
        · skip
          rw [show (2 : Int32) = nI 2 from rfl, nI_eq (by omega) (by omega)] at h15
          refine PW.funV rfl trivial sX8_188 rfl rfl (by decide) rfl (m_winner F S i (by omega)) ?_
          refine PW.ine rfl trivial (fun h39 => ?_) (fun h39 => ?_)
          · skip
            have htl : tly (w * h) (if b = 1 then dr else mp) vt s b (i + 1) = tly (w * h) (if b = 1 then dr else mp) vt s b i + 0 := by simp only [tly, fb_sm, if_neg h15, if_neg h39]
            refine PW.goto rfl trivial ?_
            rw [nI_1]
            refine PW.lc ?_ (ih (i + 1) (by omega) (by omega))
            simp only [htl, Nat.add_zero, Int32.add_zero]
          · skip
            have htl : tly (w * h) (if b = 1 then dr else mp) vt s b (i + 1) = tly (w * h) (if b = 1 then dr else mp) vt s b i + many (if b = 1 then dr else mp) i (w * h) := by simp only [tly, fb_sm, if_neg h15, if_pos h39]
            refine PW.ine rfl trivial (fun h45 => ?_) (fun h45 => ?_)
            · skip
              rw [show (1 : Int32) = nI 1 from rfl, nI_eq (by omega) (by omega)] at h45
              have hmf : (if b = 1 then dr else mp) = mp := if_neg h45
              refine PW.funV rfl trivial sX8_106 rfl rfl (by decide) rfl (m_manyOf _ i (by omega) F.1 S.1) ?_
              refine PW.goto rfl trivial ?_
              refine PW.goto rfl trivial ?_
              rw [nI_1]
              refine PW.lc ?_ (ih (i + 1) (by omega) (by omega))
              first | (rw [e1, nI_clamp (by omega), S.2.2 _ (by omega), nI_add, htl]) | (rw [nI_add, htl, hmf]; rfl)
            · skip
              rw [show (1 : Int32) = nI 1 from rfl, nI_eq (by omega) (by omega)] at h45
              have hmf : (if b = 1 then dr else mp) = dr := if_pos h45
              refine PW.goto rfl trivial ?_
              refine PW.funV rfl trivial sX8_106 rfl rfl (by decide) rfl (m_manyOf _ i (by omega) F.1 S.1) ?_
              refine PW.goto rfl trivial ?_
              refine PW.goto rfl trivial ?_
              rw [nI_1]
              refine PW.lc ?_ (ih (i + 1) (by omega) (by omega))
              first | (rw [e1, nI_clamp (by omega), S.2.2 _ (by omega), nI_add, htl]) | (rw [nI_add, htl, hmf]; rfl)
        · skip
          rw [show (2 : Int32) = nI 2 from rfl, nI_eq (by omega) (by omega)] at h15
          have e1 : (3 : Int32) * nI i + nI s = nI (3 * i + s) := by rw [show (3 : Int32) = nI 3 from rfl, pk_mul, nI_add]
          have htl : tly (w * h) (if b = 1 then dr else mp) vt s b (i + 1) = tly (w * h) (if b = 1 then dr else mp) vt s b i + vt (3 * i + s) := by simp only [tly, fb_sm, if_pos h15]
          refine PW.goto rfl ⟨trivial, (by rw [e1]; exact vp_in_nI (by omega) (by decide))⟩ ?_
          refine PW.goto rfl trivial ?_
          rw [nI_1]
          refine PW.lc ?_ (ih (i + 1) (by omega) (by omega))
          first | (rw [e1, nI_clamp (by omega), S.2.2 _ (by omega), nI_add, htl]) | (rw [nI_add, htl, hmf]; rfl)
  refine PW.to 5 rfl trivial ?_
  exact loop5 7 0 (by omega) (by omega)
theorem tly_lt {n : Nat} {f vt : Nat → Nat} {s b : Nat} (hn : n ≤ 36) (hv : ∀ k, vt k ≤ 999) : ∀ k, tly n f vt s b k ≤ 999 * k
  | 0 => Nat.le_refl _
  | k + 1 => by
    have ih := tly_lt (f := f) (s := s) (b := b) hn hv k
    have h1 := hv (3 * k + s)
    have h2 := many_le f k n
    have h3 : (if b = 2 then vt (3 * k + s) else if wnr vt k = nI s then many f k n else 0) ≤ 999 := by
      split
      · exact h1
      · split <;> omega
    simp only [tly, fb_sm] at ih ⊢
    omega
theorem m_leader {w h : Nat} {mp dr hd : Nat → Nat} {wy : Nat} {vt : Nat → Nat} (F : Sf w h mp dr hd wy vt) (S : SM w h mp dr hd wy vt M) (b : Nat) (hb : b < 3) : PF X l mX8_leader 3 [.ref 29, .int (nI b)] G0 M (.int (ldr (w * h) mp dr vt b)) := by
  refine PF.ofW okX8_leader ?_
  have hn := F.1.n
  have t0 := tly_lt (f := if b = 1 then dr else mp) (s := 0) (b := b) hn F.2.2 6
  have t1 := tly_lt (f := if b = 1 then dr else mp) (s := 1) (b := b) hn F.2.2 6
  have t2 := tly_lt (f := if b = 1 then dr else mp) (s := 2) (b := b) hn F.2.2 6
  refine PW.funV rfl trivial sX8_191 rfl rfl (by decide) rfl (m_sum F S 0 b (by omega) hb) ?_
  refine PW.funV rfl trivial sX8_191 rfl rfl (by decide) rfl (m_sum F S 1 b (by omega) hb) ?_
  refine PW.funV rfl trivial sX8_191 rfl rfl (by decide) rfl (m_sum F S 2 b (by omega) hb) ?_
  refine PW.funS rfl trivial sX8_184 rfl (by decide) rfl (m_most _ _ _ (by omega) (by omega) (by omega)) ?_
  refine PW.iret rfl rfl trivial ?_
  exact ⟨rfl, rfl⟩
theorem p_at {w h : Nat} {mp dr hd : Nat → Nat} {wy : Nat} {vt : Nat → Nat} (F : Sf w h mp dr hd wy vt) (S : SM w h mp dr hd wy vt M) (on c : Int32) : PC X l mX8_at 2 [.ref 29, .int on, .int c] G0 M (fun v M' => v = some (.int (if okc (w * h) c = true then nI (sl on mp dr (tn c)) else -1)) ∧ (SM w h mp dr hd wy vt M' ∧ FM M M')) := by
  refine PC.ofW okX8_at ?_
  have hn := F.1.n
  have S0 := (S.fj (th0 M (A := []))).1
  refine PW.funV rfl trivial sX8_91 rfl rfl (by decide) rfl (m_noCell _ F.1 S0.1) ?_
  refine PW.zeq rfl trivial (fun h10 => ?_) (fun h10 => ?_)
  · skip
    rw [bn_eq] at h10
    change okc (w * h) c = true at h10
    obtain ⟨k, hk, rfl⟩ := okc_x h10
    refine PW.funV rfl trivial sX8_95 rfl rfl (by decide) rfl (m_cellOf on k (by omega) S0.1) ?_
    refine PW.iret rfl rfl trivial ?_
    first | exact ⟨by rw [if_f h10], S.fj (th0 M (A := []))⟩ | exact ⟨by rw [if_t h10, tn_nI (by omega)], S.fj (th0 M (A := []))⟩
  · skip
    rw [bn_ne] at h10
    change okc (w * h) c = false at h10
    refine PW.goto rfl trivial ?_
    refine PW.iret rfl rfl trivial ?_
    first | exact ⟨by rw [if_f h10], S.fj (th0 M (A := []))⟩ | exact ⟨by rw [if_t h10, tn_nI (by omega)], S.fj (th0 M (A := []))⟩
theorem p_cells {w h : Nat} {mp dr hd : Nat → Nat} {wy : Nat} {vt : Nat → Nat} (F : Sf w h mp dr hd wy vt) (S : SM w h mp dr hd wy vt M) (on lv : Int32) : PC X l mX8_cells 2 [.ref 29, .int on, .int lv] G0 M (fun v M' => v = some (.int (if okl 5 lv = true then nI (many (sl on mp dr) (tn lv) (w * h)) else -1)) ∧ (SM w h mp dr hd wy vt M' ∧ FM M M')) := by
  refine PC.ofW okX8_cells ?_
  have hn := F.1.n
  have S0 := (S.fj (th0 M (A := []))).1
  refine PW.funS rfl trivial sX8_103 rfl (by decide) rfl (m_noLand _) ?_
  refine PW.zeq rfl trivial (fun h9 => ?_) (fun h9 => ?_)
  · skip
    rw [bn_eq] at h9
    change okl 5 lv = true at h9
    obtain ⟨j, hj, rfl⟩ := okl_x (m := 5) h9
    refine PW.funV rfl trivial sX8_106 rfl rfl (by decide) rfl (m_manyOf on j (by omega) F.1 S0.1) ?_
    refine PW.iret rfl rfl trivial ?_
    first | exact ⟨by rw [if_f h9], S.fj (th0 M (A := []))⟩ | exact ⟨by rw [if_t h9, tn_nI (by omega)], S.fj (th0 M (A := []))⟩
  · skip
    rw [bn_ne] at h9
    change okl 5 lv = false at h9
    refine PW.goto rfl trivial ?_
    refine PW.iret rfl rfl trivial ?_
    first | exact ⟨by rw [if_f h9], S.fj (th0 M (A := []))⟩ | exact ⟨by rw [if_t h9, tn_nI (by omega)], S.fj (th0 M (A := []))⟩
theorem p_due {w h : Nat} {mp dr hd : Nat → Nat} {wy : Nat} {vt : Nat → Nat} (F : Sf w h mp dr hd wy vt) (S : SM w h mp dr hd wy vt M) (lv : Int32) : PC X l mX8_due 3 [.ref 29, .int lv] G0 M (fun v M' => v = some (.int (if okl 5 lv = true then nI ((due hd wy (w * h - many mp 6 (w * h))) (tn lv)) else -1)) ∧ (SM w h mp dr hd wy vt M' ∧ FM M M')) := by
  refine PC.ofW okX8_due ?_
  have hn := F.1.n
  have S0 := (S.fj (th0 M (A := []))).1
  refine PW.funS rfl trivial sX8_103 rfl (by decide) rfl (m_noLand _) ?_
  refine PW.zeq rfl trivial (fun h9 => ?_) (fun h9 => ?_)
  · skip
    rw [bn_eq] at h9
    change okl 5 lv = true at h9
    obtain ⟨j, hj, rfl⟩ := okl_x (m := 5) h9
    refine PW.callV rfl trivial sX8_114 rfl rfl (by decide) rfl (m_share F.1 S0.1 F.2.1 S0.2.1) (fun v15 M15 hq15 => ?_)
    obtain ⟨rfl, hF1, hz⟩ := hq15
    refine PW.iret rfl rfl ⟨trivial, vp_in_nI (by omega) (by decide)⟩ ?_
    exact ⟨by rw [if_t h9, tn_nI (by omega), nI_clamp (by omega), hz j (by omega)], S.fj ((th0 M (A := [33])).tr (hF1.fj (by decide)))⟩
  · skip
    rw [bn_ne] at h9
    change okl 5 lv = false at h9
    refine PW.iret rfl rfl trivial ?_
    exact ⟨by rw [if_f h9], S.fj (th0 M (A := []))⟩
theorem p_parts {w h : Nat} {mp dr hd : Nat → Nat} {wy : Nat} {vt : Nat → Nat} (F : Sf w h mp dr hd wy vt) (S : SM w h mp dr hd wy vt M) (lv : Int32) : PC X l mX8_parts 3 [.ref 29, .int lv] G0 M (fun v M' => v = some (.int (if okl 5 lv = true then nI (prt (fun c => decide (dr c = tn lv)) w (w * h)) else -1)) ∧ (SM w h mp dr hd wy vt M' ∧ FM M M')) := by
  refine PC.ofW okX8_parts ?_
  have hn := F.1.n
  have S0 := (S.fj (th0 M (A := []))).1
  refine PW.funS rfl trivial sX8_103 rfl (by decide) rfl (m_noLand _) ?_
  refine PW.zeq rfl trivial (fun h9 => ?_) (fun h9 => ?_)
  · skip
    rw [bn_eq] at h9
    change okl 5 lv = true at h9
    obtain ⟨j, hj, rfl⟩ := okl_x (m := 5) h9
    refine PW.callV rfl trivial sX8_125 rfl rfl (by decide) rfl (m_partsOf j (by omega) F.1 S0.1) (fun v18 M18 hq18 => ?_)
    obtain ⟨rfl, hF1⟩ := hq18
    refine PW.iret rfl rfl trivial ?_
    first | exact ⟨by rw [if_f h9], S.fj (th0 M (A := []))⟩ | exact ⟨by rw [if_t h9, tn_nI (by omega)], S.fj ((th0 M (A := [34, 35])).tr (hF1.fj (by decide)))⟩
  · skip
    rw [bn_ne] at h9
    change okl 5 lv = false at h9
    refine PW.goto rfl trivial ?_
    refine PW.iret rfl rfl trivial ?_
    first | exact ⟨by rw [if_f h9], S.fj (th0 M (A := []))⟩ | exact ⟨by rw [if_t h9, tn_nI (by omega)], S.fj ((th0 M (A := [34, 35])).tr (hF1.fj (by decide)))⟩
theorem p_beside {w h : Nat} {mp dr hd : Nat → Nat} {wy : Nat} {vt : Nat → Nat} (F : Sf w h mp dr hd wy vt) (S : SM w h mp dr hd wy vt M) (on a b : Int32) : PC X l mX8_beside 4 [.ref 29, .int on, .int a, .int b] G0 M (fun v M' => v = some (.int (if (okl 5 a && okl 5 b) = true then (if a = b then -3 else bo (nbr w (w * h) (sl on mp dr) (tn a) (tn b))) else -1)) ∧ (SM w h mp dr hd wy vt M' ∧ FM M M')) := by
  refine PC.ofW okX8_beside ?_
  have hn := F.1.n
  have S0 := (S.fj (th0 M (A := []))).1
  refine PW.funS rfl trivial sX8_103 rfl (by decide) rfl (m_noLand _) ?_
  refine PW.zne rfl trivial (fun h9 => ?_) (fun h9 => ?_)
  · skip
    rw [bn_ne] at h9
    change okl 5 a = false at h9
    refine PW.iret rfl rfl trivial ?_
    first | exact ⟨by rw [if_f (by rw [show okl 5 a = false from h9]; rfl)], S.fj (th0 M (A := []))⟩ | exact ⟨by rw [if_f (by rw [show okl 5 b = false from h16]; exact Bool.and_false _)], S.fj (th0 M (A := []))⟩
  · skip
    rw [bn_eq] at h9
    change okl 5 a = true at h9
    obtain ⟨j, hj, rfl⟩ := okl_x (m := 5) h9
    refine PW.funS rfl trivial sX8_103 rfl (by decide) rfl (m_noLand _) ?_
    refine PW.zeq rfl trivial (fun h16 => ?_) (fun h16 => ?_)
    · skip
      rw [bn_eq] at h16
      change okl 5 b = true at h16
      obtain ⟨i, hi, rfl⟩ := okl_x (m := 5) h16
      refine PW.ine rfl trivial (fun h23 => ?_) (fun h23 => ?_)
      · skip
        refine PW.funV rfl trivial sX8_132 rfl rfl (by decide) rfl (m_areBeside on j i (by omega) (by omega) F.1 S0.1) ?_
        refine PW.zeq rfl trivial (fun h38 => ?_) (fun h38 => ?_)
        · skip
          rw [bo_eq] at h38
          refine PW.iret rfl rfl trivial ?_
          first | exact ⟨by rw [if_t (by rw [show okl 5 (nI j) = true from h9, show okl 5 (nI i) = true from h16]; rfl), if_neg h23, tn_nI (by omega), tn_nI (by omega), h38]; rfl, S.fj (th0 M (A := []))⟩ | exact ⟨by rw [if_t (by rw [show okl 5 (nI j) = true from h9, show okl 5 (nI i) = true from h16]; rfl), if_pos h23], S.fj (th0 M (A := []))⟩
        · skip
          rw [bo_ne] at h38
          refine PW.goto rfl trivial ?_
          refine PW.iret rfl rfl trivial ?_
          first | exact ⟨by rw [if_t (by rw [show okl 5 (nI j) = true from h9, show okl 5 (nI i) = true from h16]; rfl), if_neg h23, tn_nI (by omega), tn_nI (by omega), h38]; rfl, S.fj (th0 M (A := []))⟩ | exact ⟨by rw [if_t (by rw [show okl 5 (nI j) = true from h9, show okl 5 (nI i) = true from h16]; rfl), if_pos h23], S.fj (th0 M (A := []))⟩
      · skip
        refine PW.goto rfl trivial ?_
        refine PW.iret rfl rfl trivial ?_
        first | exact ⟨by rw [if_t (by rw [show okl 5 (nI j) = true from h9, show okl 5 (nI i) = true from h16]; rfl), if_neg h23, tn_nI (by omega), tn_nI (by omega), h38]; rfl, S.fj (th0 M (A := []))⟩ | exact ⟨by rw [if_t (by rw [show okl 5 (nI j) = true from h9, show okl 5 (nI i) = true from h16]; rfl), if_pos h23], S.fj (th0 M (A := []))⟩
    · skip
      rw [bn_ne] at h16
      change okl 5 b = false at h16
      refine PW.iret rfl rfl trivial ?_
      first | exact ⟨by rw [if_f (by rw [show okl 5 a = false from h9]; rfl)], S.fj (th0 M (A := []))⟩ | exact ⟨by rw [if_f (by rw [show okl 5 b = false from h16]; exact Bool.and_false _)], S.fj (th0 M (A := []))⟩
theorem p_faults {w h : Nat} {mp dr hd : Nat → Nat} {wy : Nat} {vt : Nat → Nat} (F : Sf w h mp dr hd wy vt) (S : SM w h mp dr hd wy vt M)  : PC X l mX8_faults 5 [.ref 29] G0 M (fun v M' => v = some (.int (nI (flt w (w * h) mp dr (due hd wy (w * h - many mp 6 (w * h))) 6))) ∧ (SM w h mp dr hd wy vt M' ∧ FM M M')) := by
  refine PC.ofW okX8_faults ?_
  have hn := F.1.n
  have S0 := (S.fj (th0 M (A := []))).1
  refine PW.callV rfl trivial sX8_135 rfl rfl (by decide) rfl (m_allFaults F.1 S0.1 F.2.1 S0.2.1) (fun v6 M6 hq6 => ?_)
  obtain ⟨rfl, hF1⟩ := hq6
  refine PW.iret rfl rfl trivial ?_
  exact ⟨rfl, S.fj ((th0 M (A := [33, 34, 35])).tr (hF1.fj (by decide)))⟩
theorem p_would {w h : Nat} {mp dr hd : Nat → Nat} {wy : Nat} {vt : Nat → Nat} (F : Sf w h mp dr hd wy vt) (S : SM w h mp dr hd wy vt M) (c lv : Int32) : PC X l mX8_would 6 [.ref 29, .int c, .int lv] G0 M (fun v M' => v = some (.int (if (okc (w * h) c && okl 6 lv) = true then (if chg w (w * h) dr (tn c) (tn lv) = true then nI (flt w (w * h) mp (set1 dr (tn c) (tn lv)) (due hd wy (w * h - many mp 6 (w * h))) 6) else -3) else -1)) ∧ (SM w h mp dr hd wy vt M' ∧ FM M M')) := by
  refine PC.ofW okX8_would ?_
  have hn := F.1.n
  have S0 := (S.fj (th0 M (A := []))).1
  refine PW.funV rfl trivial sX8_91 rfl rfl (by decide) rfl (m_noCell _ F.1 S0.1) ?_
  refine PW.zne rfl trivial (fun h10 => ?_) (fun h10 => ?_)
  · skip
    rw [bn_ne] at h10
    change okc (w * h) c = false at h10
    refine PW.iret rfl rfl trivial ?_
    first | exact ⟨by rw [if_f (by rw [show okc (w * h) c = false from h10]; rfl)], S.fj (th0 M (A := []))⟩ | exact ⟨by rw [if_f (by rw [h22]; exact Bool.and_false _)], S.fj (th0 M (A := []))⟩
  · skip
    rw [bn_eq] at h10
    change okc (w * h) c = true at h10
    obtain ⟨k, hk, rfl⟩ := okc_x h10
    refine PW.funS rfl trivial sX8_81 rfl (by decide) rfl (m_in _ _ _) ?_
    refine PW.zne rfl trivial (fun h22 => ?_) (fun h22 => ?_)
    · skip
      rw [show decide ((0 : Int64) ≤ lv.toInt64 ∧ lv.toInt64 ≤ (6 : Int64)) = okl 6 lv from in_l lv 6, bo_ne] at h22
      obtain ⟨j, hj, rfl⟩ := okl_x (m := 6) h22
      refine PW.funV rfl trivial sX8_139 rfl rfl (by decide) rfl (m_isChange F.1 S0.1 k j hk hj) ?_
      refine PW.zeq rfl trivial (fun h33 => ?_) (fun h33 => ?_)
      · skip
        rw [bo_eq] at h33
        refine PW.iret rfl rfl trivial ?_
        first | exact ⟨by rw [if_t (by rw [show okc (w * h) (nI k) = true from h10, h22]; rfl), tn_nI (by omega), tn_nI (by omega), if_f h33], S.fj (th0 M (A := []))⟩ | exact ⟨by rw [if_t (by rw [show okc (w * h) (nI k) = true from h10, h22]; rfl), tn_nI (by omega), tn_nI (by omega), if_t h33], S.fj ((th0 M (A := [33, 34, 35])).tr (hF1.fj (by decide)))⟩
      · skip
        rw [bo_ne] at h33
        refine PW.callV rfl trivial sX8_142 rfl rfl (by decide) rfl (m_faultsBy F.1 S0.1 F.2.1 S0.2.1 k j hk hj) (fun v39 M39 hq39 => ?_)
        obtain ⟨rfl, hF1⟩ := hq39
        refine PW.goto rfl trivial ?_
        refine PW.iret rfl rfl trivial ?_
        first | exact ⟨by rw [if_t (by rw [show okc (w * h) (nI k) = true from h10, h22]; rfl), tn_nI (by omega), tn_nI (by omega), if_f h33], S.fj (th0 M (A := []))⟩ | exact ⟨by rw [if_t (by rw [show okc (w * h) (nI k) = true from h10, h22]; rfl), tn_nI (by omega), tn_nI (by omega), if_t h33], S.fj ((th0 M (A := [33, 34, 35])).tr (hF1.fj (by decide)))⟩
    · skip
      rw [show decide ((0 : Int64) ≤ lv.toInt64 ∧ lv.toInt64 ≤ (6 : Int64)) = okl 6 lv from in_l lv 6, bo_eq] at h22
      refine PW.iret rfl rfl trivial ?_
      first | exact ⟨by rw [if_f (by rw [show okc (w * h) c = false from h10]; rfl)], S.fj (th0 M (A := []))⟩ | exact ⟨by rw [if_f (by rw [h22]; exact Bool.and_false _)], S.fj (th0 M (A := []))⟩
theorem p_mayHand {w h : Nat} {mp dr hd : Nat → Nat} {wy : Nat} {vt : Nat → Nat} (F : Sf w h mp dr hd wy vt) (S : SM w h mp dr hd wy vt M) (c lv : Int32) : PC X l mX8_mayHand 4 [.ref 29, .int c, .int lv] G0 M (fun v M' => v = some (.int (if (okc (w * h) c && okl 5 lv) = true then bo (mayh w (w * h) dr (tn c) (tn lv)) else -1)) ∧ (SM w h mp dr hd wy vt M' ∧ FM M M')) := by
  refine PC.ofW okX8_mayHand ?_
  have hn := F.1.n
  have S0 := (S.fj (th0 M (A := []))).1
  refine PW.funV rfl trivial sX8_91 rfl rfl (by decide) rfl (m_noCell _ F.1 S0.1) ?_
  refine PW.zne rfl trivial (fun h10 => ?_) (fun h10 => ?_)
  · skip
    rw [bn_ne] at h10
    change okc (w * h) c = false at h10
    refine PW.goto rfl trivial ?_
    refine PW.iret rfl rfl trivial ?_
    first | exact ⟨by rw [if_t (by rw [show okc (w * h) (nI k) = true from h10, show okl 5 (nI j) = true from h17]; rfl), tn_nI (by omega), tn_nI (by omega), h30]; rfl, S.fj ((th0 M (A := [34, 35])).tr (hF1.fj (by decide)))⟩ | exact ⟨by rw [if_f (by rw [show okl 5 lv = false from h17]; exact Bool.and_false _)], S.fj (th0 M (A := []))⟩ | exact ⟨by rw [if_f (by rw [show okc (w * h) c = false from h10]; rfl)], S.fj (th0 M (A := []))⟩
  · skip
    rw [bn_eq] at h10
    change okc (w * h) c = true at h10
    obtain ⟨k, hk, rfl⟩ := okc_x h10
    refine PW.funS rfl trivial sX8_103 rfl (by decide) rfl (m_noLand _) ?_
    refine PW.zeq rfl trivial (fun h17 => ?_) (fun h17 => ?_)
    · skip
      rw [bn_eq] at h17
      change okl 5 lv = true at h17
      obtain ⟨j, hj, rfl⟩ := okl_x (m := 5) h17
      refine PW.callV rfl trivial sX8_147 rfl rfl (by decide) rfl (m_may F.1 S0.1 k j hk (by omega)) (fun v27 M27 hq27 => ?_)
      obtain ⟨rfl, hF1⟩ := hq27
      refine PW.zeq rfl trivial (fun h30 => ?_) (fun h30 => ?_)
      · skip
        rw [bo_eq] at h30
        refine PW.iret rfl rfl trivial ?_
        first | exact ⟨by rw [if_t (by rw [show okc (w * h) (nI k) = true from h10, show okl 5 (nI j) = true from h17]; rfl), tn_nI (by omega), tn_nI (by omega), h30]; rfl, S.fj ((th0 M (A := [34, 35])).tr (hF1.fj (by decide)))⟩ | exact ⟨by rw [if_f (by rw [show okl 5 lv = false from h17]; exact Bool.and_false _)], S.fj (th0 M (A := []))⟩ | exact ⟨by rw [if_f (by rw [show okc (w * h) c = false from h10]; rfl)], S.fj (th0 M (A := []))⟩
      · skip
        rw [bo_ne] at h30
        refine PW.goto rfl trivial ?_
        refine PW.iret rfl rfl trivial ?_
        first | exact ⟨by rw [if_t (by rw [show okc (w * h) (nI k) = true from h10, show okl 5 (nI j) = true from h17]; rfl), tn_nI (by omega), tn_nI (by omega), h30]; rfl, S.fj ((th0 M (A := [34, 35])).tr (hF1.fj (by decide)))⟩ | exact ⟨by rw [if_f (by rw [show okl 5 lv = false from h17]; exact Bool.and_false _)], S.fj (th0 M (A := []))⟩ | exact ⟨by rw [if_f (by rw [show okc (w * h) c = false from h10]; rfl)], S.fj (th0 M (A := []))⟩
    · skip
      rw [bn_ne] at h17
      change okl 5 lv = false at h17
      refine PW.goto rfl trivial ?_
      refine PW.iret rfl rfl trivial ?_
      first | exact ⟨by rw [if_t (by rw [show okc (w * h) (nI k) = true from h10, show okl 5 (nI j) = true from h17]; rfl), tn_nI (by omega), tn_nI (by omega), h30]; rfl, S.fj ((th0 M (A := [34, 35])).tr (hF1.fj (by decide)))⟩ | exact ⟨by rw [if_f (by rw [show okl 5 lv = false from h17]; exact Bool.and_false _)], S.fj (th0 M (A := []))⟩ | exact ⟨by rw [if_f (by rw [show okc (w * h) c = false from h10]; rfl)], S.fj (th0 M (A := []))⟩
theorem p_won {w h : Nat} {mp dr hd : Nat → Nat} {wy : Nat} {vt : Nat → Nat} (F : Sf w h mp dr hd wy vt) (S : SM w h mp dr hd wy vt M) (lv : Int32) : PC X l mX8_won 2 [.ref 29, .int lv] G0 M (fun v M' => v = some (.int (if okl 5 lv = true then wnr vt (tn lv) else -1)) ∧ (SM w h mp dr hd wy vt M' ∧ FM M M')) := by
  refine PC.ofW okX8_won ?_
  have hn := F.1.n
  have S0 := (S.fj (th0 M (A := []))).1
  refine PW.funS rfl trivial sX8_103 rfl (by decide) rfl (m_noLand _) ?_
  refine PW.zeq rfl trivial (fun h9 => ?_) (fun h9 => ?_)
  · skip
    rw [bn_eq] at h9
    change okl 5 lv = true at h9
    obtain ⟨j, hj, rfl⟩ := okl_x (m := 5) h9
    refine PW.funV rfl trivial sX8_188 rfl rfl (by decide) rfl (m_winner F S0 j (by omega)) ?_
    refine PW.iret rfl rfl trivial ?_
    first | exact ⟨by rw [if_f h9], S.fj (th0 M (A := []))⟩ | exact ⟨by rw [if_t h9, tn_nI (by omega)], S.fj (th0 M (A := []))⟩
  · skip
    rw [bn_ne] at h9
    change okl 5 lv = false at h9
    refine PW.goto rfl trivial ?_
    refine PW.iret rfl rfl trivial ?_
    first | exact ⟨by rw [if_f h9], S.fj (th0 M (A := []))⟩ | exact ⟨by rw [if_t h9, tn_nI (by omega)], S.fj (th0 M (A := []))⟩
theorem p_has {w h : Nat} {mp dr hd : Nat → Nat} {wy : Nat} {vt : Nat → Nat} (F : Sf w h mp dr hd wy vt) (S : SM w h mp dr hd wy vt M) (sd b : Int32) : PC X l mX8_has 3 [.ref 29, .int sd, .int b] G0 M (fun v M' => v = some (.int (if okl 2 sd = true then (if okl 2 b = true then nI (tly (w * h) (if tn b = 1 then dr else mp) vt (tn sd) (tn b) 6) else -2) else -1)) ∧ (SM w h mp dr hd wy vt M' ∧ FM M M')) := by
  refine PC.ofW okX8_has ?_
  have hn := F.1.n
  have S0 := (S.fj (th0 M (A := []))).1
  refine PW.funS rfl trivial sX8_181 rfl (by decide) rfl (m_noSide _) ?_
  refine PW.zeq rfl trivial (fun h9 => ?_) (fun h9 => ?_)
  · skip
    rw [bn_eq] at h9
    change okl 2 sd = true at h9
    obtain ⟨j, hj, rfl⟩ := okl_x (m := 2) h9
    refine PW.funS rfl trivial sX8_81 rfl (by decide) rfl (m_in _ _ _) ?_
    refine PW.zeq rfl trivial (fun h23 => ?_) (fun h23 => ?_)
    · skip
      rw [show decide ((0 : Int64) ≤ b.toInt64 ∧ b.toInt64 ≤ (2 : Int64)) = okl 2 b from in_l b 2, bo_eq] at h23
      refine PW.iret rfl rfl trivial ?_
      first | exact ⟨by rw [if_t (show okl 2 (nI j) = true from h9), if_f h23], S.fj (th0 M (A := []))⟩ | exact ⟨by rw [if_t (show okl 2 (nI j) = true from h9), if_t h23, tn_nI (by omega), tn_nI (by omega)], S.fj (th0 M (A := []))⟩
    · skip
      rw [show decide ((0 : Int64) ≤ b.toInt64 ∧ b.toInt64 ≤ (2 : Int64)) = okl 2 b from in_l b 2, bo_ne] at h23
      obtain ⟨i, hi, rfl⟩ := okl_x (m := 2) h23
      refine PW.funV rfl trivial sX8_191 rfl rfl (by decide) rfl (m_sum F S0 j i (by omega) (by omega)) ?_
      refine PW.goto rfl trivial ?_
      refine PW.iret rfl rfl trivial ?_
      first | exact ⟨by rw [if_t (show okl 2 (nI j) = true from h9), if_f h23], S.fj (th0 M (A := []))⟩ | exact ⟨by rw [if_t (show okl 2 (nI j) = true from h9), if_t h23, tn_nI (by omega), tn_nI (by omega)], S.fj (th0 M (A := []))⟩
  · skip
    rw [bn_ne] at h9
    change okl 2 sd = false at h9
    refine PW.iret rfl rfl trivial ?_
    exact ⟨by rw [if_f h9], S.fj (th0 M (A := []))⟩
theorem p_ahead {w h : Nat} {mp dr hd : Nat → Nat} {wy : Nat} {vt : Nat → Nat} (F : Sf w h mp dr hd wy vt) (S : SM w h mp dr hd wy vt M) (b : Int32) : PC X l mX8_ahead 4 [.ref 29, .int b] G0 M (fun v M' => v = some (.int (if okl 2 b = true then ldr (w * h) mp dr vt (tn b) else -2)) ∧ (SM w h mp dr hd wy vt M' ∧ FM M M')) := by
  refine PC.ofW okX8_ahead ?_
  have hn := F.1.n
  have S0 := (S.fj (th0 M (A := []))).1
  refine PW.funS rfl trivial sX8_81 rfl (by decide) rfl (m_in _ _ _) ?_
  refine PW.zeq rfl trivial (fun h14 => ?_) (fun h14 => ?_)
  · skip
    rw [show decide ((0 : Int64) ≤ b.toInt64 ∧ b.toInt64 ≤ (2 : Int64)) = okl 2 b from in_l b 2, bo_eq] at h14
    refine PW.iret rfl rfl trivial ?_
    first | exact ⟨by rw [if_f h14], S.fj (th0 M (A := []))⟩ | exact ⟨by rw [if_t h14, tn_nI (by omega)], S.fj (th0 M (A := []))⟩
  · skip
    rw [show decide ((0 : Int64) ≤ b.toInt64 ∧ b.toInt64 ≤ (2 : Int64)) = okl 2 b from in_l b 2, bo_ne] at h14
    obtain ⟨i, hi, rfl⟩ := okl_x (m := 2) h14
    refine PW.funV rfl trivial sX8_194 rfl rfl (by decide) rfl (m_leader F S0 i (by omega)) ?_
    refine PW.goto rfl trivial ?_
    refine PW.iret rfl rfl trivial ?_
    first | exact ⟨by rw [if_f h14], S.fj (th0 M (A := []))⟩ | exact ⟨by rw [if_t h14, tn_nI (by omega)], S.fj (th0 M (A := []))⟩
end M7
end
section
/-! a switch; the reference's stores -/
section Tb
variable {X : Cx} {l : Launch} {mt : Mt} {R : Room} {mc ms : Nat} {Q : Option Value → List Shp → Mem → Prop} {kc ks pc : Nat} {L S : List Value} {G : List Shp} {M : Mem}
theorem AW.tabIn {p1 len ci k9 : Nat} {dflt lo hi : Int} {offs : Array Int} {v : Int32} {w : Int64} {T' : List It} {C : Prop} {L' S' : List Value} {M' : Mem} {x : Int32} (h : am_r G (am_t mt.2.2.2.2 pc) True L S M = some (C, (p1, .tableswitch dflt lo hi offs, len, ci, k9, v, w) :: T', L', .int x :: S', M')) (hC : C) (tgt : Nat) {off : Int} (h1 : ¬ x.toInt < lo) (h2 : ¬ hi < x.toInt) (ho : offs[(x.toInt - lo).toNat]? = some off) (ht : (p1 : Int) + off = (tgt : Int)) (k : AW X l mt R mc ms Q kc ks tgt L' S' G M') : AW X l mt R mc ms Q kc ks pc L S G M := by
  refine AW.run h hC (fun hq => AW.ok fun hok => ?_)
  have hd := am_dec_at hok.1 hq
  exact AW.plain (fun p e s m args below meth c H locs ls Z hC hP hL kk => lv_tableIn hC.1 hC.2.1 hd h1 h2 ho ht kk) k
theorem AW.tabOut {p1 len ci k9 : Nat} {dflt lo hi : Int} {offs : Array Int} {v : Int32} {w : Int64} {T' : List It} {C : Prop} {L' S' : List Value} {M' : Mem} {x : Int32} (h : am_r G (am_t mt.2.2.2.2 pc) True L S M = some (C, (p1, .tableswitch dflt lo hi offs, len, ci, k9, v, w) :: T', L', .int x :: S', M')) (hC : C) (tgt : Nat) (h1 : x.toInt < lo ∨ hi < x.toInt) (ht : (p1 : Int) + dflt = (tgt : Int)) (k : AW X l mt R mc ms Q kc ks tgt L' S' G M') : AW X l mt R mc ms Q kc ks pc L S G M := by
  refine AW.run h hC (fun hq => AW.ok fun hok => ?_)
  have hd := am_dec_at hok.1 hq
  exact AW.plain (fun p e s m args below meth c H locs ls Z hC hP hL kk => lv_tableOut hC.1 hC.2.1 hd h1 ht kk) k
variable {rk : Nat} {Q2 : Option Value → Mem → Prop}
theorem PW.tabIn {p1 len ci k9 : Nat} {dflt lo hi : Int} {offs : Array Int} {v : Int32} {w : Int64} {T' : List It} {C : Prop} {L' S' : List Value} {M' : Mem} {x : Int32} (h : am_r G (am_t mt.2.2.2.2 pc) True L S M = some (C, (p1, .tableswitch dflt lo hi offs, len, ci, k9, v, w) :: T', L', .int x :: S', M')) (hC : C) (tgt : Nat) {off : Int} (h1 : ¬ x.toInt < lo) (h2 : ¬ hi < x.toInt) (ho : offs[(x.toInt - lo).toNat]? = some off) (ht : (p1 : Int) + off = (tgt : Int)) (k : PW X l mt rk Q2 tgt L' S' G M') : PW X l mt rk Q2 pc L S G M := AW.tabIn h hC tgt h1 h2 ho ht k
theorem PW.tabOut {p1 len ci k9 : Nat} {dflt lo hi : Int} {offs : Array Int} {v : Int32} {w : Int64} {T' : List It} {C : Prop} {L' S' : List Value} {M' : Mem} {x : Int32} (h : am_r G (am_t mt.2.2.2.2 pc) True L S M = some (C, (p1, .tableswitch dflt lo hi offs, len, ci, k9, v, w) :: T', L', .int x :: S', M')) (hC : C) (tgt : Nat) (h1 : x.toInt < lo ∨ hi < x.toInt) (ht : (p1 : Int) + dflt = (tgt : Int)) (k : PW X l mt rk Q2 tgt L' S' G M') : PW X l mt rk Q2 pc L S G M := AW.tabOut h hC tgt h1 ht k
end Tb
section Sx6
variable {w h : Nat} {mp dr hd : Nat → Nat} {wy : Nat} {vt : Nat → Nat} {M : Mem}
theorem FM.put {M M2 : Mem} {a : Nat} {f : Nat → Int32} (H : FM M M2) (ha : 29 ≤ a) : FM M (va_up M2.1 a f, M2.2) := ⟨fun b hb => by
  have : b ≠ a := by omega
  simp [va_up, this]; exact H.1 b hb, H.2⟩
theorem sm_hd (S : SM w h mp dr hd wy vt M) (k n : Nat) : SM w h mp dr (set1 hd k n) wy vt (va_up M.1 32 (upd (M.1 32) k (nI n)), M.2) := by
  refine ⟨⟨S.1.1, S.1.2.1, S.1.2.2.1, S.1.2.2.2⟩, ⟨S.2.1.1, fun x hx => ?_⟩, fun x hx => S.2.2 x hx⟩
  rw [set1_eq]
  by_cases q : x = k
  · rw [if_pos q, q]; exact up_s
  · rw [if_neg q]; exact (up_n q).trans (S.2.1.2 x hx)
theorem sm_vt (S : SM w h mp dr hd wy vt M) (k n : Nat) : SM w h mp dr hd wy (set1 vt k n) (va_up M.1 48 (upd (M.1 48) k (nI n)), M.2) := by
  refine ⟨⟨S.1.1, S.1.2.1, S.1.2.2.1, S.1.2.2.2⟩, ⟨S.2.1.1, fun x hx => S.2.1.2 x hx⟩, fun x hx => ?_⟩
  rw [set1_eq]
  by_cases q : x = k
  · rw [if_pos q, q]; exact up_s
  · rw [if_neg q]; exact (up_n q).trans (S.2.2 x hx)
theorem sm_mp (S : SM w h mp dr hd wy vt M) (k n : Nat) : SM w h (set1 mp k n) dr hd wy vt (va_up M.1 30 (upd (M.1 30) k (nI n)), M.2) := by
  refine ⟨⟨S.1.1, S.1.2.1, fun x hx => ?_, S.1.2.2.2⟩, ⟨S.2.1.1, fun x hx => S.2.1.2 x hx⟩, fun x hx => S.2.2 x hx⟩
  rw [set1_eq]
  by_cases q : x = k
  · rw [if_pos q, q]; exact up_s
  · rw [if_neg q]; exact (up_n q).trans (S.1.2.2.1 x hx)
theorem sm_dr (S : SM w h mp dr hd wy vt M) (k n : Nat) : SM w h mp (set1 dr k n) hd wy vt (va_up M.1 31 (upd (M.1 31) k (nI n)), M.2) := by
  refine ⟨⟨S.1.1, S.1.2.1, S.1.2.2.1, fun x hx => ?_⟩, ⟨S.2.1.1, fun x hx => S.2.1.2 x hx⟩, fun x hx => S.2.2 x hx⟩
  rw [set1_eq]
  by_cases q : x = k
  · rw [if_pos q, q]; exact up_s
  · rw [if_neg q]; exact (up_n q).trans (S.1.2.2.2 x hx)
theorem sm_wy (S : SM w h mp dr hd wy vt M) (v : Nat) : SM w h mp dr hd v vt (va_up M.1 29 (upd (M.1 29) 6 (nI v)), M.2) :=
  ⟨⟨(up_n (by decide)).trans S.1.1, (up_n (by decide)).trans S.1.2.1, S.1.2.2.1, S.1.2.2.2⟩, ⟨up_s, fun x hx => S.2.1.2 x hx⟩, fun x hx => S.2.2 x hx⟩
end Sx6
/-- passes, at most k -/
noncomputable def stl (w n : Nat) (du : Nat → Nat) : Nat → (Nat → Nat) → Nat × (Nat → Nat)
  | 0, dr => (0, dr)
  | k + 1, dr => match cst (hnd w n dr) (hasless n dr du) (hasmore n dr du) with
    | none => (0, dr)
    | some s => ((stl w n du k (pas w n (chn (hnd w n dr) (hasless n dr du) s) (dn (hnd w n dr) (hasless n dr du) 7 s - 1) dr).2).1 + 1, (stl w n du k (pas w n (chn (hnd w n dr) (hasless n dr du) s) (dn (hnd w n dr) (hasless n dr du) 7 s - 1) dr).2).2)
def inbox (w c e k : Nat) : Bool := decide (c % w ≤ k % w ∧ k % w ≤ e % w) && decide (c / w ≤ k / w ∧ k / w ≤ e / w)
/-- a box given to l, as far as the cell t -/
def boxd (w c e l : Nat) (f : Nat → Nat) (t : Nat) : Nat → Nat := fun k => if (decide (k < t) && inbox w c e k) = true then l else f k
end
section
-- made by wip/whole/mk_m8.py
section M8
variable {X : Cx} {l : Launch} {M : Mem}
theorem p_heads {w h : Nat} {mp dr hd : Nat → Nat} {wy : Nat} {vt : Nat → Nat} (F : Sf w h mp dr hd wy vt) (S : SM w h mp dr hd wy vt M) (lv n : Int32) : PC X l mX8_heads 2 [.ref 29, .int lv, .int n] G0 M (fun v M' => v = some (.int (if okl 5 lv = true then (if okl 999 n = true then nI (hd (tn lv)) else -2) else -1)) ∧ (SM w h mp dr (if (okl 5 lv && okl 999 n) = true then set1 hd (tn lv) (tn n) else hd) wy vt M' ∧ FM M M')) := by
  refine PC.ofW okX8_heads ?_
  have hn := F.1.n
  have S0 := (S.fj (th0 M (A := []))).1
  refine PW.funS rfl trivial sX8_103 rfl (by decide) rfl (m_noLand _) ?_
  refine PW.zeq rfl trivial (fun h9 => ?_) (fun h9 => ?_)
  · skip
    rw [bn_eq] at h9
    change okl 5 lv = true at h9
    obtain ⟨j, hj, rfl⟩ := okl_x (m := 5) h9
    refine PW.funS rfl trivial sX8_81 rfl (by decide) rfl (m_in _ _ _) ?_
    refine PW.zne rfl trivial (fun h23 => ?_) (fun h23 => ?_)
    · skip
      rw [show decide ((0 : Int64) ≤ n.toInt64 ∧ n.toInt64 ≤ (999 : Int64)) = okl 999 n from in_l n 999, bo_ne] at h23
      obtain ⟨i, hi, rfl⟩ := okl_x (m := 999) h23
      refine PW.iret rfl rfl ⟨⟨trivial, vp_in_nI (by omega) (by decide)⟩, vp_in_nI (by omega) (by decide)⟩ ?_
      refine ⟨by rw [if_t h9, if_t h23, tn_nI (by omega), nI_clamp (by omega)]; exact congrArg (fun z => some (Value.int z)) (S0.2.1.2 j (by omega)), ?_⟩
      rw [if_t (by rw [h9, h23]; rfl), tn_nI (by omega), tn_nI (by omega), nI_clamp (by omega)]
      exact ⟨sm_hd S0 j i, (th0 M (A := [])).fm.put (by decide)⟩
    · skip
      rw [show decide ((0 : Int64) ≤ n.toInt64 ∧ n.toInt64 ≤ (999 : Int64)) = okl 999 n from in_l n 999, bo_eq] at h23
      refine PW.iret rfl rfl trivial ?_
      exact ⟨by rw [if_t h9, if_f h23], by rw [if_f (by rw [h23]; exact Bool.and_false _)]; exact S.fj (th0 M (A := []))⟩
  · skip
    rw [bn_ne] at h9
    change okl 5 lv = false at h9
    refine PW.iret rfl rfl trivial ?_
    exact ⟨by rw [if_f h9], by rw [if_f (by rw [h9]; rfl)]; exact S.fj (th0 M (A := []))⟩
theorem p_way {w h : Nat} {mp dr hd : Nat → Nat} {wy : Nat} {vt : Nat → Nat} (F : Sf w h mp dr hd wy vt) (S : SM w h mp dr hd wy vt M) (x : Int32) : PC X l mX8_way 2 [.ref 29, .int x] G0 M (fun v M' => v = some (.int (if okl 2 x = true then nI wy else -2)) ∧ (SM w h mp dr hd (if okl 2 x = true then tn x else wy) vt M' ∧ FM M M')) := by
  refine PC.ofW okX8_way ?_
  have hn := F.1.n
  have S0 := (S.fj (th0 M (A := []))).1
  refine PW.funS rfl trivial sX8_81 rfl (by decide) rfl (m_in _ _ _) ?_
  refine PW.zne rfl trivial (fun h14 => ?_) (fun h14 => ?_)
  · skip
    rw [show decide ((0 : Int64) ≤ x.toInt64 ∧ x.toInt64 ≤ (2 : Int64)) = okl 2 x from in_l x 2, bo_ne] at h14
    obtain ⟨i, hi, rfl⟩ := okl_x (m := 2) h14
    refine PW.iret rfl rfl trivial ?_
    refine ⟨by rw [if_t h14]; exact congrArg (fun z => some (Value.int z)) S0.2.1.1, ?_⟩
    rw [if_t h14, tn_nI (by omega)]
    exact ⟨sm_wy S0 i, (th0 M (A := [])).fm.put (by decide)⟩
  · skip
    rw [show decide ((0 : Int64) ≤ x.toInt64 ∧ x.toInt64 ≤ (2 : Int64)) = okl 2 x from in_l x 2, bo_eq] at h14
    refine PW.iret rfl rfl trivial ?_
    exact ⟨by rw [if_f h14], by rw [if_f h14]; exact S.fj (th0 M (A := []))⟩
theorem p_votes {w h : Nat} {mp dr hd : Nat → Nat} {wy : Nat} {vt : Nat → Nat} (F : Sf w h mp dr hd wy vt) (S : SM w h mp dr hd wy vt M) (lv sd n : Int32) : PC X l mX8_votes 2 [.ref 29, .int lv, .int sd, .int n] G0 M (fun v M' => v = some (.int (if (okl 5 lv && okl 2 sd) = true then (if okl 999 n = true then nI (vt (3 * tn lv + tn sd)) else -2) else -1)) ∧ (SM w h mp dr hd wy (if (okl 5 lv && okl 2 sd && okl 999 n) = true then set1 vt (3 * tn lv + tn sd) (tn n) else vt) M' ∧ FM M M')) := by
  refine PC.ofW okX8_votes ?_
  have hn := F.1.n
  have S0 := (S.fj (th0 M (A := []))).1
  refine PW.funS rfl trivial sX8_103 rfl (by decide) rfl (m_noLand _) ?_
  refine PW.zne rfl trivial (fun h9 => ?_) (fun h9 => ?_)
  · skip
    rw [bn_ne] at h9
    change okl 5 lv = false at h9
    refine PW.iret rfl rfl trivial ?_
    first | exact ⟨by rw [if_f (by rw [h9]; rfl)], by rw [if_f (by rw [h9]; rfl)]; exact S.fj (th0 M (A := []))⟩ | exact ⟨by rw [if_f (by rw [h16]; exact Bool.and_false _)], by rw [if_f (by rw [h16, Bool.and_false]; rfl)]; exact S.fj (th0 M (A := []))⟩
  · skip
    rw [bn_eq] at h9
    change okl 5 lv = true at h9
    obtain ⟨j, hj, rfl⟩ := okl_x (m := 5) h9
    refine PW.funS rfl trivial sX8_181 rfl (by decide) rfl (m_noSide _) ?_
    refine PW.zeq rfl trivial (fun h16 => ?_) (fun h16 => ?_)
    · skip
      rw [bn_eq] at h16
      change okl 2 sd = true at h16
      obtain ⟨i, hi, rfl⟩ := okl_x (m := 2) h16
      refine PW.funS rfl trivial sX8_81 rfl (by decide) rfl (m_in _ _ _) ?_
      refine PW.zne rfl trivial (fun h30 => ?_) (fun h30 => ?_)
      · skip
        rw [show decide ((0 : Int64) ≤ n.toInt64 ∧ n.toInt64 ≤ (999 : Int64)) = okl 999 n from in_l n 999, bo_ne] at h30
        obtain ⟨g, hg, rfl⟩ := okl_x (m := 999) h30
        refine PW.iret rfl rfl ⟨⟨trivial, (by rw [show (3 : Int32) = nI 3 from rfl, pk_mul, nI_add]; exact vp_in_nI (by omega) (by decide))⟩, (by rw [show (3 : Int32) = nI 3 from rfl, pk_mul, nI_add]; exact vp_in_nI (by omega) (by decide))⟩ ?_
        have e1 : (3 : Int32) * nI j + nI i = nI (3 * j + i) := by rw [show (3 : Int32) = nI 3 from rfl, pk_mul, nI_add]
        rw [e1, nI_clamp (by omega)]
        refine ⟨by rw [if_t (by rw [h9, h16]; rfl), if_t h30, tn_nI (by omega), tn_nI (by omega)]; exact congrArg (fun z => some (Value.int z)) (S0.2.2 (3 * j + i) (by omega)), ?_⟩
        rw [if_t (by rw [h9, h16, h30]; rfl), tn_nI (by omega), tn_nI (by omega), tn_nI (by omega)]
        exact ⟨sm_vt S0 (3 * j + i) g, (th0 M (A := [])).fm.put (by decide)⟩
      · skip
        rw [show decide ((0 : Int64) ≤ n.toInt64 ∧ n.toInt64 ≤ (999 : Int64)) = okl 999 n from in_l n 999, bo_eq] at h30
        refine PW.iret rfl rfl trivial ?_
        exact ⟨by rw [if_t (by rw [h9, h16]; rfl), if_f h30], by rw [if_f (by rw [h30]; exact Bool.and_false _)]; exact S.fj (th0 M (A := []))⟩
    · skip
      rw [bn_ne] at h16
      change okl 2 sd = false at h16
      refine PW.iret rfl rfl trivial ?_
      first | exact ⟨by rw [if_f (by rw [h9]; rfl)], by rw [if_f (by rw [h9]; rfl)]; exact S.fj (th0 M (A := []))⟩ | exact ⟨by rw [if_f (by rw [h16]; exact Bool.and_false _)], by rw [if_f (by rw [h16, Bool.and_false]; rfl)]; exact S.fj (th0 M (A := []))⟩
theorem m_put (on : Int32) (c lv : Nat) (hc : c < 36) : PC X l mX8_put 0 [.ref 29, .int on, .int (nI c), .int (nI lv)] G0 M (fun v M' => v = none ∧ M' = (if on = 0 then (va_up M.1 30 (upd (M.1 30) c (nI lv)), M.2) else (va_up M.1 31 (upd (M.1 31) c (nI lv)), M.2))) := by
  refine PC.ofW okX8_put ?_
  refine PW.zeq rfl trivial (fun h1 => ?_) (fun h1 => ?_)
  · skip
    refine PW.vret rfl rfl ⟨trivial, vp_in_nI hc (by decide)⟩ ?_
    exact ⟨rfl, by rw [nI_clamp (by omega)]; first | rw [if_pos h1] | rw [if_neg h1]⟩
  · skip
    refine PW.goto rfl ⟨trivial, vp_in_nI hc (by decide)⟩ ?_
    refine PW.vret rfl rfl trivial ?_
    exact ⟨rfl, by rw [nI_clamp (by omega)]; first | rw [if_pos h1] | rw [if_neg h1]⟩
theorem p_give {w h : Nat} {mp dr hd : Nat → Nat} {wy : Nat} {vt : Nat → Nat} (F : Sf w h mp dr hd wy vt) (S : SM w h mp dr hd wy vt M) (on c lv : Int32) : PC X l mX8_give 2 [.ref 29, .int on, .int c, .int lv] G0 M (fun v M' => v = some (.int (if (okc (w * h) c && okl 6 lv) = true then nI (sl on mp dr (tn c)) else -1)) ∧ (SM w h (if (okc (w * h) c && okl 6 lv) = true ∧ on = 0 then set1 mp (tn c) (tn lv) else mp) (if (okc (w * h) c && okl 6 lv) = true ∧ ¬ on = 0 then set1 dr (tn c) (tn lv) else dr) hd wy vt M' ∧ FM M M')) := by
  refine PC.ofW okX8_give ?_
  have hn := F.1.n
  have S0 := (S.fj (th0 M (A := []))).1
  refine PW.funV rfl trivial sX8_91 rfl rfl (by decide) rfl (m_noCell _ F.1 S0.1) ?_
  refine PW.zne rfl trivial (fun h10 => ?_) (fun h10 => ?_)
  · skip
    rw [bn_ne] at h10
    change okc (w * h) c = false at h10
    refine PW.iret rfl rfl trivial ?_
    first | exact ⟨by rw [if_f (by rw [h10]; rfl)], by rw [if_neg (fun z => by rw [h10] at z; exact absurd z.1 (by simp)), if_neg (fun z => by rw [h10] at z; exact absurd z.1 (by simp))]; exact S.fj (th0 M (A := []))⟩ | exact ⟨by rw [if_f (by rw [h22]; exact Bool.and_false _)], by rw [if_neg (fun z => by rw [h22] at z; exact absurd z.1 (by simp)), if_neg (fun z => by rw [h22] at z; exact absurd z.1 (by simp))]; exact S.fj (th0 M (A := []))⟩
  · skip
    rw [bn_eq] at h10
    change okc (w * h) c = true at h10
    obtain ⟨k, hk, rfl⟩ := okc_x h10
    refine PW.funS rfl trivial sX8_81 rfl (by decide) rfl (m_in _ _ _) ?_
    refine PW.zne rfl trivial (fun h22 => ?_) (fun h22 => ?_)
    · skip
      rw [show decide ((0 : Int64) ≤ lv.toInt64 ∧ lv.toInt64 ≤ (6 : Int64)) = okl 6 lv from in_l lv 6, bo_ne] at h22
      obtain ⟨j, hj, rfl⟩ := okl_x (m := 6) h22
      refine PW.funV rfl trivial sX8_95 rfl rfl (by decide) rfl (m_cellOf on k (by omega) S0.1) ?_
      refine PW.callV rfl trivial sX8_99 rfl rfl (by decide) rfl (m_put on k j (by omega)) (fun v39 M39 hq39 => ?_)
      obtain ⟨rfl, rfl⟩ := hq39
      refine PW.iret rfl rfl trivial ?_
      refine ⟨by rw [if_t (by rw [h10, h22]; rfl), tn_nI (by omega)], ?_⟩
      have hb : (okc (w * h) (nI k) && okl 6 (nI j)) = true := by rw [h10, h22]; rfl
      rw [tn_nI (show k < 2 ^ 31 by omega), tn_nI (show j < 2 ^ 31 by omega)]
      by_cases q : on = 0
      · rw [if_pos ⟨hb, q⟩, if_neg (fun z => z.2 q), if_pos q]; exact ⟨sm_mp S0 k j, (th0 M (A := [])).fm.put (by decide)⟩
      · rw [if_neg (fun z => q z.2), if_pos ⟨hb, q⟩, if_neg q]; exact ⟨sm_dr S0 k j, (th0 M (A := [])).fm.put (by decide)⟩
    · skip
      rw [show decide ((0 : Int64) ≤ lv.toInt64 ∧ lv.toInt64 ≤ (6 : Int64)) = okl 6 lv from in_l lv 6, bo_eq] at h22
      refine PW.iret rfl rfl trivial ?_
      first | exact ⟨by rw [if_f (by rw [h10]; rfl)], by rw [if_neg (fun z => by rw [h10] at z; exact absurd z.1 (by simp)), if_neg (fun z => by rw [h10] at z; exact absurd z.1 (by simp))]; exact S.fj (th0 M (A := []))⟩ | exact ⟨by rw [if_f (by rw [h22]; exact Bool.and_false _)], by rw [if_neg (fun z => by rw [h22] at z; exact absurd z.1 (by simp)), if_neg (fun z => by rw [h22] at z; exact absurd z.1 (by simp))]; exact S.fj (th0 M (A := []))⟩
theorem p_hand {w h : Nat} {mp dr hd : Nat → Nat} {wy : Nat} {vt : Nat → Nat} (F : Sf w h mp dr hd wy vt) (S : SM w h mp dr hd wy vt M) (c lv : Int32) : PC X l mX8_hand 4 [.ref 29, .int c, .int lv] G0 M (fun v M' => v = some (.int (if (okc (w * h) c && okl 5 lv) = true then (if mayh w (w * h) dr (tn c) (tn lv) = true then nI (dr (tn c)) else -3) else -1)) ∧ (SM w h mp (if (okc (w * h) c && okl 5 lv && mayh w (w * h) dr (tn c) (tn lv)) = true then set1 dr (tn c) (tn lv) else dr) hd wy vt M' ∧ FM M M')) := by
  refine PC.ofW okX8_hand ?_
  have hn := F.1.n
  have S0 := (S.fj (th0 M (A := []))).1
  refine PW.funV rfl trivial sX8_91 rfl rfl (by decide) rfl (m_noCell _ F.1 S0.1) ?_
  refine PW.zne rfl trivial (fun h10 => ?_) (fun h10 => ?_)
  · skip
    rw [bn_ne] at h10
    change okc (w * h) c = false at h10
    refine PW.iret rfl rfl trivial ?_
    first | exact ⟨by rw [if_f (by rw [h17]; exact Bool.and_false _)], by rw [if_f (by rw [h17, Bool.and_false]; rfl)]; exact S.fj (th0 M (A := []))⟩ | exact ⟨by rw [if_f (by rw [h10]; rfl)], by rw [if_f (by rw [h10]; rfl)]; exact S.fj (th0 M (A := []))⟩
  · skip
    rw [bn_eq] at h10
    change okc (w * h) c = true at h10
    obtain ⟨k, hk, rfl⟩ := okc_x h10
    refine PW.funS rfl trivial sX8_103 rfl (by decide) rfl (m_noLand _) ?_
    refine PW.zeq rfl trivial (fun h17 => ?_) (fun h17 => ?_)
    · skip
      rw [bn_eq] at h17
      change okl 5 lv = true at h17
      obtain ⟨j, hj, rfl⟩ := okl_x (m := 5) h17
      refine PW.callV rfl trivial sX8_147 rfl rfl (by decide) rfl (m_may F.1 S0.1 k j hk (by omega)) (fun v25 M25 hq25 => ?_)
      obtain ⟨rfl, hF1⟩ := hq25
      obtain ⟨S1, FM1⟩ := S.fj ((th0 M (A := [34, 35])).tr (hF1.fj (by decide)))
      refine PW.zne rfl trivial (fun h28 => ?_) (fun h28 => ?_)
      · skip
        rw [bo_ne] at h28
        refine PW.iret rfl rfl ⟨⟨trivial, vp_in_nI (by omega) (by decide)⟩, vp_in_nI (by omega) (by decide)⟩ ?_
        rw [nI_clamp (by omega)]
        refine ⟨by rw [if_t (by rw [h10, h17]; rfl), tn_nI (show k < 2 ^ 31 by omega), tn_nI (show j < 2 ^ 31 by omega), if_t h28, S1.1.2.2.2 k (by omega)], ?_⟩
        rw [tn_nI (show k < 2 ^ 31 by omega), tn_nI (show j < 2 ^ 31 by omega), if_t (by rw [h10, h17, h28]; rfl)]
        exact ⟨sm_dr S1 k j, FM1.put (by decide)⟩
      · skip
        rw [bo_eq] at h28
        refine PW.iret rfl rfl trivial ?_
        exact ⟨by rw [if_t (by rw [h10, h17]; rfl), tn_nI (by omega), tn_nI (by omega), if_f h28], by rw [tn_nI (show k < 2 ^ 31 by omega), tn_nI (show j < 2 ^ 31 by omega), if_f (by rw [h28]; exact Bool.and_false _)]; exact ⟨S1, FM1⟩⟩
    · skip
      rw [bn_ne] at h17
      change okl 5 lv = false at h17
      refine PW.iret rfl rfl trivial ?_
      first | exact ⟨by rw [if_f (by rw [h17]; exact Bool.and_false _)], by rw [if_f (by rw [h17, Bool.and_false]; rfl)]; exact S.fj (th0 M (A := []))⟩ | exact ⟨by rw [if_f (by rw [h10]; rfl)], by rw [if_f (by rw [h10]; rfl)]; exact S.fj (th0 M (A := []))⟩
end M8
end
section
-- made by wip/whole/mk_m9.py
section M9
variable {X : Cx} {l : Launch} {M : Mem}
theorem PW.post {X : Cx} {l : Launch} {mt : Mt} {rk pc : Nat} {Q Q' : Option Value → Mem → Prop} {L S : List Value} {G : List Shp} {M : Mem} (h : ∀ v M2, Q' v M2 → Q v M2) (k : PW X l mt rk Q' pc L S G M) : PW X l mt rk Q pc L S G M := by
  intro hok p e s m args below meth c H locs ls hC hH hL T hT X0
  obtain ⟨t, h1, o, h2, h3, ⟨v, G2, M2, k1, ⟨k2, k3⟩, k4⟩, h5⟩ := k hok p e s m args below meth c H locs ls hC hH hL T hT X0
  exact ⟨t, h1, o, h2, h3, ⟨v, G2, M2, k1, ⟨k2, h v M2 k3⟩, k4⟩, h5⟩
theorem p_field {w h : Nat} {mp dr hd : Nat → Nat} {wy : Nat} {vt : Nat → Nat} (F : Sf w h mp dr hd wy vt) (S : SM w h mp dr hd wy vt M) (a b : Int32) : PC X l mX8_field 2 [.ref 29, .int a, .int b] G0 M (fun v M' => v = some (.int (if (okr 2 6 a && okr 2 6 b) = true then nI (tn a * tn b) else -2)) ∧ (SM (if (okr 2 6 a && okr 2 6 b) = true then tn a else w) (if (okr 2 6 a && okr 2 6 b) = true then tn b else h) (if (okr 2 6 a && okr 2 6 b) = true then (fun _ => 6) else mp) (if (okr 2 6 a && okr 2 6 b) = true then (fun _ => 6) else dr) hd wy vt M' ∧ FM M M')) := by
  refine PC.ofW okX8_field ?_
  have hn := F.1.n
  have S0 := (S.fj (th0 M (A := []))).1
  have loop48 : ∀ k : Nat, ∀ (i x y : Nat) (M2 : Mem), i ≤ 36 → okr 2 6 (nI x) = true → okr 2 6 (nI y) = true → 2 ≤ x → x ≤ 6 → 2 ≤ y → y ≤ 6 → ((M2.1 29 1 = nI x ∧ M2.1 29 2 = nI y) ∧ HM hd wy M2 ∧ ∀ k, k < 18 → M2.1 48 k = nI (vt k)) → FM M M2 → (∀ j, j < i → M2.1 30 j = nI 6 ∧ M2.1 31 j = nI 6) → 36 - i < k → PW X l mX8_field 2 (fun v M' => v = some (.int (nI (x * y))) ∧ (SM x y (fun _ => 6) (fun _ => 6) hd wy vt M' ∧ FM M M')) 48 [.ref 29, .int (nI x), .int (nI y), .int (nI i)] [] G0 M2 := by
    intro k
    induction k with
    | zero => intro i x y M2 hi ha hb hx1 hx2 hy1 hy2 hS hF hz hk; exact absurd hk (Nat.not_lt_zero _)
    | succ k ih =>
      intro i x y M2 hi ha hb hx1 hx2 hy1 hy2 hS hF hz hk
      refine PW.ige rfl trivial (fun h51 => ?_) (fun h51 => ?_)
      · skip
        rw [show (36 : Int32) = nI 36 from rfl, nI_leI (by omega) (by omega)] at h51
        have e : i = 36 := by omega
        subst e
        refine PW.iret rfl rfl trivial ?_
        exact ⟨by rw [pk_mul], ⟨⟨hS.1.1, hS.1.2, fun c hc => (hz c hc).1, fun c hc => (hz c hc).2⟩, hS.2.1, hS.2.2⟩, hF⟩
      · skip
        rw [show (36 : Int32) = nI 36 from rfl, nI_leI (by omega) (by omega)] at h51
        refine PW.goto rfl ⟨⟨trivial, vp_in_nI (by omega) (by decide)⟩, vp_in_nI (by omega) (by decide)⟩ ?_
        rw [nI_clamp (by omega), nI_1]
        refine ih (i + 1) x y _ (by omega) ha hb hx1 hx2 hy1 hy2 ?_ ?_ (fun j hj => ?_) (by omega)
        · exact ⟨hS.1, ⟨hS.2.1.1, fun k hk => hS.2.1.2 k hk⟩, fun k hk => hS.2.2 k hk⟩
        · exact (hF.put (by decide)).put (by decide)
        · by_cases q : j = i
          · subst q; exact ⟨by simp [va_up, upd]; rfl, by simp [va_up, upd]; rfl⟩
          · exact ⟨by simp [va_up, upd, q]; exact (hz j (by omega)).1, by simp [va_up, upd, q]; exact (hz j (by omega)).2⟩
  refine PW.funS rfl trivial sX8_81 rfl (by decide) rfl (m_in _ _ _) ?_
  refine PW.zeq rfl trivial (fun h16 => ?_) (fun h16 => ?_)
  · skip
    rw [show decide ((2 : Int64) ≤ a.toInt64 ∧ a.toInt64 ≤ (6 : Int64)) = okr 2 6 a from in_r a 2 6, bo_eq] at h16
    refine PW.iret rfl rfl trivial ?_
    first | exact ⟨by rw [if_f (by rw [h16]; rfl)], by rw [if_f (by rw [h16]; rfl), if_f (by rw [h16]; rfl), if_f (by rw [h16]; rfl), if_f (by rw [h16]; rfl)]; exact S.fj (th0 M (A := []))⟩ | exact ⟨by rw [if_f (by rw [h30]; exact Bool.and_false _)], by rw [if_f (by rw [h30]; exact Bool.and_false _), if_f (by rw [h30]; exact Bool.and_false _), if_f (by rw [h30]; exact Bool.and_false _), if_f (by rw [h30]; exact Bool.and_false _)]; exact S.fj (th0 M (A := []))⟩
  · skip
    rw [show decide ((2 : Int64) ≤ a.toInt64 ∧ a.toInt64 ≤ (6 : Int64)) = okr 2 6 a from in_r a 2 6, bo_ne] at h16
    obtain ⟨x, hx1, hx2, rfl⟩ := okr_x (a := 2) (b := 6) h16
    refine PW.funS rfl trivial sX8_81 rfl (by decide) rfl (m_in _ _ _) ?_
    refine PW.zne rfl trivial (fun h30 => ?_) (fun h30 => ?_)
    · skip
      rw [show decide ((2 : Int64) ≤ b.toInt64 ∧ b.toInt64 ≤ (6 : Int64)) = okr 2 6 b from in_r b 2 6, bo_ne] at h30
      obtain ⟨y, hy1, hy2, rfl⟩ := okr_x (a := 2) (b := 6) h30
      refine PW.to 48 rfl trivial ?_
      have hb : (okr 2 6 (nI x) && okr 2 6 (nI y)) = true := by rw [h16, h30]; rfl
      refine PW.post (Q' := (fun v M' => v = some (.int (nI (x * y))) ∧ (SM x y (fun _ => 6) (fun _ => 6) hd wy vt M' ∧ FM M M'))) (fun v M2 q => ?_) ?_
      · rw [if_t hb, if_t hb, if_t hb, if_t hb, if_t hb, tn_nI (by omega), tn_nI (by omega)]; exact q
      refine loop48 37 0 x y _ (by omega) h16 h30 hx1 hx2 hy1 hy2 ?_ ?_ (fun j hj => absurd hj (Nat.not_lt_zero j)) (by omega)
      · exact ⟨⟨(up_n (by decide)).trans up_s, up_s⟩, ⟨(up_n (by decide)).trans ((up_n (by decide)).trans S0.2.1.1), fun k hk => S0.2.1.2 k hk⟩, fun k hk => S0.2.2 k hk⟩
      · exact ((th0 M (A := [])).fm.put (by decide)).put (by decide)
    · skip
      rw [show decide ((2 : Int64) ≤ b.toInt64 ∧ b.toInt64 ≤ (6 : Int64)) = okr 2 6 b from in_r b 2 6, bo_eq] at h30
      refine PW.iret rfl rfl trivial ?_
      first | exact ⟨by rw [if_f (by rw [h16]; rfl)], by rw [if_f (by rw [h16]; rfl), if_f (by rw [h16]; rfl), if_f (by rw [h16]; rfl), if_f (by rw [h16]; rfl)]; exact S.fj (th0 M (A := []))⟩ | exact ⟨by rw [if_f (by rw [h30]; exact Bool.and_false _)], by rw [if_f (by rw [h30]; exact Bool.and_false _), if_f (by rw [h30]; exact Bool.and_false _), if_f (by rw [h30]; exact Bool.and_false _), if_f (by rw [h30]; exact Bool.and_false _)]; exact S.fj (th0 M (A := []))⟩
theorem p_changed {w h : Nat} {mp dr hd : Nat → Nat} {wy : Nat} {vt : Nat → Nat} (F : Sf w h mp dr hd wy vt) (S : SM w h mp dr hd wy vt M)  : PC X l mX8_changed 1 [.ref 29] G0 M (fun v M' => v = some (.int (nI (fb_ct (fun c => !decide (mp c = 6) && !decide (mp c = dr c)) (w * h)))) ∧ (SM w h mp dr hd wy vt M' ∧ FM M M')) := by
  refine PC.ofW okX8_changed ?_
  have hn := F.1.n
  have S0 := (S.fj (th0 M (A := []))).1
  have loop9 : ∀ k : Nat, ∀ (c : Nat), c ≤ w * h → w * h - c < k → PW X l mX8_changed 1 (fun v M' => v = some (.int (nI (fb_ct (fun c => !decide (mp c = 6) && !decide (mp c = dr c)) (w * h)))) ∧ (SM w h mp dr hd wy vt M' ∧ FM M M')) 9 [.ref 29, .int (nI (fb_ct (fun c => !decide (mp c = 6) && !decide (mp c = dr c)) c)), .int (nI c)] [] G0 (va_up M.1 29 (upd (M.1 29) 0 0), M.2) := by
    intro k
    induction k with
    | zero => intro c hc hk; exact absurd hk (Nat.not_lt_zero _)
    | succ k ih =>
      intro c hc hk
      have hm6 := F.1.2.2.2.2.1 c
      have hd6 := F.1.2.2.2.2.2.1 c
      refine PW.ige rfl trivial (fun h19 => ?_) (fun h19 => ?_)
      · skip
        rw [S0.1.wh, nI_leI (by omega) (by omega)] at h19
        have e : c = w * h := by omega
        subst e
        refine PW.iret rfl rfl trivial ?_
        exact ⟨rfl, S.fj (th0 M (A := []))⟩
      · skip
        rw [S0.1.wh, nI_leI (by omega) (by omega)] at h19
        have ec := S0.1.2.2.1 c (by omega)
        have ed := S0.1.2.2.2 c (by omega)
        refine PW.ieq rfl ⟨trivial, vp_in_nI (by omega) (by decide)⟩ (fun h31 => ?_) (fun h31 => ?_)
        · skip
          rw [nI_clamp (by omega), ec, show (6 : Int32) = nI 6 from rfl, nI_eq (by omega) (by omega)] at h31
          have hp : (!decide (mp c = 6) && !decide (mp c = dr c)) = false := by simp [h31]
          refine PW.goto rfl trivial ?_
          rw [nI_1, Int32.add_zero]
          refine PW.lc ?_ (ih (c + 1) (by omega) (by omega))
          rw [fb_ct_succ, hp]; rfl
        · skip
          rw [nI_clamp (by omega), ec, show (6 : Int32) = nI 6 from rfl, nI_eq (by omega) (by omega)] at h31
          refine PW.ieq rfl ⟨⟨trivial, vp_in_nI (by omega) (by decide)⟩, vp_in_nI (by omega) (by decide)⟩ (fun h46 => ?_) (fun h46 => ?_)
          · skip
            rw [nI_clamp (by omega), ec, ed, nI_eq (by omega) (by omega)] at h46
            have hp : (!decide (mp c = 6) && !decide (mp c = dr c)) = false := by simp [h46]
            refine PW.goto rfl trivial ?_
            rw [nI_1, Int32.add_zero]
            refine PW.lc ?_ (ih (c + 1) (by omega) (by omega))
            rw [fb_ct_succ, hp]; rfl
          · skip
            rw [nI_clamp (by omega), ec, ed, nI_eq (by omega) (by omega)] at h46
            have hp : (!decide (mp c = 6) && !decide (mp c = dr c)) = true := by simp [h31, h46]
            refine PW.goto rfl trivial ?_
            refine PW.goto rfl trivial ?_
            rw [nI_1, nI_1]
            refine PW.lc ?_ (ih (c + 1) (by omega) (by omega))
            rw [fb_ct_succ, hp]; rfl
  refine PW.to 9 rfl trivial ?_
  exact loop9 (w * h + 1) 0 (Nat.zero_le _) (by omega)
theorem trd {w h : Nat} {mp dr : Nat → Nat} (F : Wf w h mp dr) : (fun x => if x < w * h then mp x else dr x) = mp := by
  funext x
  by_cases q : x < w * h
  · rw [if_pos q]
  · rw [if_neg q, F.2.2.2.2.2.2.1 x (by omega), F.2.2.2.2.2.2.2 x (by omega)]
theorem trc {w h : Nat} {mp dr hd : Nat → Nat} {wy : Nat} {vt : Nat → Nat} {M : Mem} {c : Nat} (S : SM w h mp (fun x => if x < c then mp x else dr x) hd wy vt M) : SM w h mp (fun x => if x < c + 1 then mp x else dr x) hd wy vt (va_up M.1 31 (upd (M.1 31) c (nI (mp c))), M.2) := by
  have := sm_dr S c (mp c)
  rw [show set1 (fun x => if x < c then mp x else dr x) c (mp c) = (fun x => if x < c + 1 then mp x else dr x) from funext fun x => by
    rw [set1_eq]
    by_cases q : x = c
    · subst q; simp
    · rw [if_neg q]
      by_cases z : x < c
      · rw [if_pos z, if_pos (by omega)]
      · rw [if_neg z, if_neg (by omega)]] at this
  exact this
theorem p_trace {w h : Nat} {mp dr hd : Nat → Nat} {wy : Nat} {vt : Nat → Nat} (F : Sf w h mp dr hd wy vt) (S : SM w h mp dr hd wy vt M)  : PC X l mX8_trace 1 [.ref 29] G0 M (fun v M' => v = some (.int (nI (fb_ct (fun c => !decide (mp c = dr c)) (w * h)))) ∧ (SM w h mp mp hd wy vt M' ∧ FM M M')) := by
  refine PC.ofW okX8_trace ?_
  have hn := F.1.n
  have S0 := (S.fj (th0 M (A := []))).1
  have loop9 : ∀ k : Nat, ∀ (c : Nat) (M2 : Mem), c ≤ w * h → SM w h mp (fun x => if x < c then mp x else dr x) hd wy vt M2 → FM M M2 → w * h - c < k → PW X l mX8_trace 1 (fun v M' => v = some (.int (nI (fb_ct (fun c => !decide (mp c = dr c)) (w * h)))) ∧ (SM w h mp mp hd wy vt M' ∧ FM M M')) 9 [.ref 29, .int (nI (fb_ct (fun c => !decide (mp c = dr c)) c)), .int (nI c)] [] G0 M2 := by
    intro k
    induction k with
    | zero => intro c M2 hc S2 hF hk; exact absurd hk (Nat.not_lt_zero _)
    | succ k ih =>
      intro c M2 hc S2 hF hk
      have hm6 := F.1.2.2.2.2.1 c
      have hd6 := F.1.2.2.2.2.2.1 c
      refine PW.ige rfl trivial (fun h19 => ?_) (fun h19 => ?_)
      · skip
        rw [S2.1.wh, nI_leI (by omega) (by omega)] at h19
        have e : c = w * h := by omega
        subst e
        refine PW.iret rfl rfl trivial ?_
        refine ⟨rfl, ?_, hF⟩
        rw [trd F.1] at S2
        exact S2
      · skip
        rw [S2.1.wh, nI_leI (by omega) (by omega)] at h19
        have ec := S2.1.2.2.1 c (by omega)
        have ed := S2.1.2.2.2 c (by omega)
        dsimp only at ed
        rw [if_neg (by omega)] at ed
        refine PW.ine rfl ⟨⟨trivial, vp_in_nI (by omega) (by decide)⟩, vp_in_nI (by omega) (by decide)⟩ (fun h35 => ?_) (fun h35 => ?_)
        · skip
          rw [nI_clamp (by omega), ec, ed, nI_eq (by omega) (by omega)] at h35
          have hp : (!decide (mp c = dr c)) = true := by simp [h35]
          refine PW.goto rfl ⟨⟨trivial, vp_in_nI (by omega) (by decide)⟩, vp_in_nI (by omega) (by decide)⟩ ?_
          rw [nI_clamp (by omega), ec, nI_1, nI_1]
          refine PW.lc ?_ (ih (c + 1) _ (by omega) (trc S2) (hF.put (by decide)) (by omega))
          rw [fb_ct_succ, hp]; rfl
        · skip
          rw [nI_clamp (by omega), ec, ed, nI_eq (by omega) (by omega)] at h35
          have hp : (!decide (mp c = dr c)) = false := by simp [h35]
          refine PW.goto rfl trivial ?_
          refine PW.goto rfl ⟨⟨trivial, vp_in_nI (by omega) (by decide)⟩, vp_in_nI (by omega) (by decide)⟩ ?_
          rw [nI_clamp (by omega), ec, nI_1, Int32.add_zero]
          refine PW.lc ?_ (ih (c + 1) _ (by omega) (trc S2) (hF.put (by decide)) (by omega))
          rw [fb_ct_succ, hp]; rfl
  refine PW.to 9 rfl trivial ?_
  exact loop9 (w * h + 1) 0 (va_up M.1 29 (upd (M.1 29) 0 0), M.2) (Nat.zero_le _) S0 (th0 M (A := [])).fm (by omega)
end M9
end
section
/-! bounds of dues and faults; what mend and settle do -/
theorem due_le {hd : Nat → Nat} {wy n l : Nat} (hl : l < 6) : due hd wy n l ≤ n + 1 := by
  unfold due
  split
  · omega
  · rename_i hA
    split
    · have h1 : hd l * n / fb_sm hd 6 ≤ n := by
        have h2 := fb_sm_part hd hl
        have h3 : hd l * n ≤ fb_sm hd 6 * n := Nat.mul_le_mul_right n (by omega)
        exact Nat.div_le_of_le_mul h3
      split <;> omega
    · have := shd_le hd wy n l hl
      omega
theorem pt_le (a b : Bool) : pt a b ≤ 2 := by cases a <;> cases b <;> decide
theorem fl2_le (w n : Nat) (mp dr : Nat → Nat) (l : Nat) : ∀ k, fl2 w n mp dr l k ≤ 2 * k
  | 0 => Nat.le_refl _
  | k + 1 => by
    have ih := fl2_le w n mp dr l k
    have := pt_le (nbr w n mp l k) (nbr w n dr l k)
    simp only [fl2, fb_sm] at ih ⊢
    omega
theorem flt_le {w n : Nat} {mp dr du : Nat → Nat} (hn : n ≤ 36) (hd : ∀ l, l < 6 → du l ≤ 37) : ∀ k, k ≤ 6 → flt w n mp dr du k ≤ 200 * k
  | 0, _ => Nat.le_refl _
  | k + 1, hk => by
    have ih := flt_le (w := w) (mp := mp) (dr := dr) hn hd k (by omega)
    have h1 := hd k (by omega)
    have h2 := many_le dr k n
    have h3 := prt_le (fun c => decide (dr c = k)) w n
    have h4 := fl2_le w n mp dr k k
    have h5 : fl1 w n dr du k ≤ 37 + 105 := by
      unfold fl1 ad
      split <;> omega
    simp only [flt, fb_sm] at ih ⊢
    omega
def ofd (o : Option Nat) : Int32 := match o with
  | none => -9
  | some i => nI (10 * (i / 7) + i % 7)
theorem ofd_none {o : Option Nat} (h : ∀ i, o = some i → i < 252) : ofd o = -9 ↔ o = none := by
  cases o with
  | none => simp [ofd]
  | some b =>
    have hb := h b rfl
    simp only [ofd, reduceCtorEq, iff_false]
    intro e
    have e2 := congrArg Int32.toInt e
    rw [nI_t (by omega)] at e2
    simp at e2
    omega
theorem mst_lt {w n : Nat} {mp dr du : Nat → Nat} : ∀ {i j : Nat}, (mst w n mp dr du i).2 = some j → j < i
  | 0, j, h => by simp [mst] at h
  | i + 1, j, h => by
    simp only [mst] at h
    split at h
    · cases h; omega
    · have := mst_lt h; omega
theorem mst_le {w n : Nat} {mp dr du : Nat → Nat} (hn : n ≤ 36) (hd : ∀ l, l < 6 → du l ≤ 37) : ∀ i, (mst w n mp dr du i).1 ≤ 1200
  | 0 => flt_le hn hd 6 (Nat.le_refl _)
  | i + 1 => by
    simp only [mst]
    split
    · exact flt_le hn hd 6 (Nat.le_refl _)
    · exact mst_le hn hd i
noncomputable def mnd (w n : Nat) (mp dr du : Nat → Nat) : Nat → Nat := match (mst w n mp dr du (7 * n)).2 with
  | none => dr
  | some i => set1 dr (i / 7) (i % 7)
theorem pas_wf {w h : Nat} {mp : Nat → Nat} {ch : Nat → Nat} (hc : ∀ i, ch i ≤ 6) : ∀ (m : Nat) {dr : Nat → Nat}, Wf w h mp dr → Wf w h mp (pas w (w * h) ch m dr).2
  | 0, _, H => H
  | m + 1, dr, H => by
    simp only [pas]
    split
    · exact H
    · rename_i c e
      exact pas_wf hc m (wf_set1 H (fnd_some.mp e).1 (hc _))
theorem nI_m2 {n : Nat} (h : 1 ≤ n) : nI n - 2 = nI (n - 1) - 1 := by
  rw [← nI_m1 h, Int32.sub_sub]; rfl
end
section
-- made by wip/whole/mk_m10.py
section M10
variable {X : Cx} {l : Launch} {M : Mem}
theorem p_count {w h : Nat} {mp dr hd : Nat → Nat} {wy : Nat} {vt : Nat → Nat} (F : Sf w h mp dr hd wy vt) (S : SM w h mp dr hd wy vt M) (x : Int32) : PC X l mX8_count 3 [.ref 29, .int x] G0 M (fun v M' => v = some (.int (if x.toInt = 0 then nI (w * h) else if x.toInt = 1 then nI (w * h - many mp 6 (w * h)) else if x.toInt = 2 then nI (w * h - many dr 6 (w * h)) else if x.toInt = 3 then nI (fb_sm hd 6) else if x.toInt = 4 then nI (fb_ct (fun l => decide (0 < many mp l (w * h))) 6) else -2)) ∧ (SM w h mp dr hd wy vt M' ∧ FM M M')) := by
  refine PC.ofW okX8_count ?_
  have hn := F.1.n
  have S0 := (S.fj (th0 M (A := []))).1
  have loop12 : ∀ k : Nat, ∀ (i : Nat), i ≤ 6 → 6 - i < k → PW X l mX8_count 3 (fun v M' => v = some (.int (if x.toInt = 0 then nI (w * h) else if x.toInt = 1 then nI (w * h - many mp 6 (w * h)) else if x.toInt = 2 then nI (w * h - many dr 6 (w * h)) else if x.toInt = 3 then nI (fb_sm hd 6) else if x.toInt = 4 then nI (fb_ct (fun l => decide (0 < many mp l (w * h))) 6) else -2)) ∧ (SM w h mp dr hd wy vt M' ∧ FM M M')) 12 [.ref 29, .int x, .int (nI (fb_sm hd i)), .int (nI (fb_ct (fun l => decide (0 < many mp l (w * h))) i)), .int (nI i)] [] G0 (va_up M.1 29 (upd (M.1 29) 0 0), M.2) := by
    intro k
    induction k with
    | zero => intro i hi hk; exact absurd hk (Nat.not_lt_zero _)
    | succ k ih =>
      intro i hi hk
      refine PW.ige rfl trivial (fun h16 => ?_) (fun h16 => ?_)
      · skip
        rw [i6 (by omega)] at h16
        have e9 : i = 6 := by omega
        subst e9
        -- tableswitch at 53
        by_cases q0 : x.toInt = 0
        · refine PW.tabIn rfl trivial 88 (off := 35) (by rw [q0]; decide) (by rw [q0]; decide) (by rw [q0]; rfl) (by decide) ?_
          refine PW.iret rfl rfl trivial ?_
          exact ⟨by rw [if_pos q0, S0.1.wh], S.fj (th0 M (A := []))⟩
        by_cases q1 : x.toInt = 1
        · refine PW.tabIn rfl trivial 98 (off := 45) (by rw [q1]; decide) (by rw [q1]; decide) (by rw [q1]; rfl) (by decide) ?_
          refine PW.funV rfl trivial sX8_106 rfl rfl (by decide) rfl (m_manyOf 0 6 (by decide) F.1 S0.1) ?_
          rw [S0.1.wh, show sl 0 mp dr = mp from rfl]
          refine PW.iret rfl rfl trivial ?_
          exact ⟨by rw [if_neg q0, if_pos q1, pk_sub (many_le _ _ _)], S.fj (th0 M (A := []))⟩
        by_cases q2 : x.toInt = 2
        · refine PW.tabIn rfl trivial 116 (off := 63) (by rw [q2]; decide) (by rw [q2]; decide) (by rw [q2]; rfl) (by decide) ?_
          refine PW.funV rfl trivial sX8_106 rfl rfl (by decide) rfl (m_manyOf 1 6 (by decide) F.1 S0.1) ?_
          rw [S0.1.wh, show sl 1 mp dr = dr from rfl]
          refine PW.iret rfl rfl trivial ?_
          exact ⟨by rw [if_neg q0, if_neg q1, if_pos q2, pk_sub (many_le _ _ _)], S.fj (th0 M (A := []))⟩
        by_cases q3 : x.toInt = 3
        · refine PW.tabIn rfl trivial 134 (off := 81) (by rw [q3]; decide) (by rw [q3]; decide) (by rw [q3]; rfl) (by decide) ?_
          refine PW.iret rfl rfl trivial ?_
          exact ⟨by rw [if_neg q0, if_neg q1, if_neg q2, if_pos q3], S.fj (th0 M (A := []))⟩
        by_cases q4 : x.toInt = 4
        · refine PW.tabIn rfl trivial 136 (off := 83) (by rw [q4]; decide) (by rw [q4]; decide) (by rw [q4]; rfl) (by decide) ?_
          refine PW.iret rfl rfl trivial ?_
          exact ⟨by rw [if_neg q0, if_neg q1, if_neg q2, if_neg q3, if_pos q4], S.fj (th0 M (A := []))⟩
        refine PW.tabOut rfl trivial 138 (by omega) (by decide) ?_
        refine PW.iret rfl rfl trivial ?_
        exact ⟨by rw [if_neg q0, if_neg q1, if_neg q2, if_neg q3, if_neg q4], S.fj (th0 M (A := []))⟩
      · skip
        rw [i6 (by omega)] at h16
        have eh := S0.2.1.2 i (by omega)
        refine PW.funV rfl ⟨trivial, vp_in_nI (by omega) (by decide)⟩ sX8_169 rfl rfl (by decide) rfl (m_isThere i (by omega) F.1 S0.1) ?_
        refine PW.zeq rfl trivial (fun h36 => ?_) (fun h36 => ?_)
        · skip
          rw [bo_eq] at h36
          refine PW.goto rfl trivial ?_
          rw [nI_clamp (by omega), eh, nI_add, nI_1, Int32.add_zero]
          refine PW.lc ?_ (ih (i + 1) (by omega) (by omega))
          rw [fb_ct_succ, h36]; rfl
        · skip
          rw [bo_ne] at h36
          refine PW.goto rfl trivial ?_
          refine PW.goto rfl trivial ?_
          rw [nI_clamp (by omega), eh, nI_add, nI_1, nI_1]
          refine PW.lc ?_ (ih (i + 1) (by omega) (by omega))
          rw [fb_ct_succ, h36]; rfl
  refine PW.to 12 rfl trivial ?_
  exact loop12 7 0 (by omega) (by omega)
theorem boxd0 (w c e l : Nat) (f : Nat → Nat) : boxd w c e l f 0 = f := by funext k; simp [boxd]
theorem boxd_in {w c e l t : Nat} {f : Nat → Nat} (h : inbox w c e t = true) : set1 (boxd w c e l f t) t l = boxd w c e l f (t + 1) := by
  funext x
  rw [set1_eq]
  by_cases q : x = t
  · subst q; simp [boxd, h]
  · rw [if_neg q]
    simp only [boxd]
    congr 2
    rw [show decide (x < t + 1) = decide (x < t) from decide_eq_decide.mpr (by omega)]
theorem boxd_no {w c e l t : Nat} {f : Nat → Nat} (h : inbox w c e t = false) : boxd w c e l f t = boxd w c e l f (t + 1) := by
  funext x
  simp only [boxd]
  by_cases q : x = t
  · subst q; simp [h]
  · rw [show decide (x < t + 1) = decide (x < t) from decide_eq_decide.mpr (by omega)]
theorem boxsl {on : Int32} {w k g j t : Nat} {mp dr : Nat → Nat} : sl on (if on = 0 then boxd w k g j mp t else mp) (if on = 0 then dr else boxd w k g j dr t) t = sl on mp dr t := by
  unfold sl
  by_cases q : on = 0
  · simp [q, boxd]
  · simp [q, boxd]
theorem boxno {on : Int32} {w h k g j t : Nat} {mp dr hd : Nat → Nat} {wy : Nat} {vt : Nat → Nat} {M : Mem} (S : SM w h (if on = 0 then boxd w k g j mp t else mp) (if on = 0 then dr else boxd w k g j dr t) hd wy vt M) (hin : inbox w k g t = false) : SM w h (if on = 0 then boxd w k g j mp (t + 1) else mp) (if on = 0 then dr else boxd w k g j dr (t + 1)) hd wy vt M := by
  rw [← boxd_no hin, ← boxd_no hin]; exact S
theorem boxyes {on : Int32} {w h k g j t : Nat} {mp dr hd : Nat → Nat} {wy : Nat} {vt : Nat → Nat} {M : Mem} (S : SM w h (if on = 0 then boxd w k g j mp t else mp) (if on = 0 then dr else boxd w k g j dr t) hd wy vt M) (hin : inbox w k g t = true) : SM w h (if on = 0 then boxd w k g j mp (t + 1) else mp) (if on = 0 then dr else boxd w k g j dr (t + 1)) hd wy vt (if on = 0 then (va_up M.1 30 (upd (M.1 30) t (nI j)), M.2) else (va_up M.1 31 (upd (M.1 31) t (nI j)), M.2)) := by
  by_cases q : on = 0
  · rw [if_pos q, if_pos q] at S
    rw [if_pos q, if_pos q, if_pos q, ← boxd_in hin]
    exact sm_mp S t j
  · rw [if_neg q, if_neg q] at S
    rw [if_neg q, if_neg q, if_neg q, ← boxd_in hin]
    exact sm_dr S t j
theorem boxfm {on : Int32} {M M2 : Mem} {t j : Nat} (h : FM M M2) : FM M (if on = 0 then (va_up M2.1 30 (upd (M2.1 30) t (nI j)), M2.2) else (va_up M2.1 31 (upd (M2.1 31) t (nI j)), M2.2)) := by
  split
  · exact h.put (by decide)
  · exact h.put (by decide)
theorem inb {a b c : Nat} (ha : a < 2 ^ 31 := by omega) (hb : b < 2 ^ 31 := by omega) (hc : c < 2 ^ 31 := by omega) : decide ((nI b).toInt64 ≤ (nI a).toInt64 ∧ (nI a).toInt64 ≤ (nI c).toInt64) = decide (b ≤ a ∧ a ≤ c) := by
  rw [in_i, nI_t ha, nI_t hb, nI_t hc]
  exact decide_eq_decide.mpr (by omega)
theorem p_box {w h : Nat} {mp dr hd : Nat → Nat} {wy : Nat} {vt : Nat → Nat} (F : Sf w h mp dr hd wy vt) (S : SM w h mp dr hd wy vt M) (on c e lv : Int32) : PC X l mX8_box 2 [.ref 29, .int on, .int c, .int e, .int lv] G0 M (fun v M' => v = some (.int (if (okc (w * h) c && okc (w * h) e && okl 6 lv) = true then (if (tn e % w < tn c % w ∨ tn e / w < tn c / w) then -2 else nI (fb_ct (fun x => inbox w (tn c) (tn e) x && !decide (sl on mp dr x = tn lv)) (w * h))) else -1)) ∧ (SM w h (if (okc (w * h) c && okc (w * h) e && okl 6 lv) = true ∧ ¬ (tn e % w < tn c % w ∨ tn e / w < tn c / w) ∧ on = 0 then boxd w (tn c) (tn e) (tn lv) mp (w * h) else mp) (if (okc (w * h) c && okc (w * h) e && okl 6 lv) = true ∧ ¬ (tn e % w < tn c % w ∨ tn e / w < tn c / w) ∧ ¬ on = 0 then boxd w (tn c) (tn e) (tn lv) dr (w * h) else dr) hd wy vt M' ∧ FM M M')) := by
  refine PC.ofW okX8_box ?_
  have hn := F.1.n
  have S0 := (S.fj (th0 M (A := []))).1
  have loop75 : ∀ k75 : Nat, ∀ (t k g j : Nat) (M2 : Mem), k < w * h → g < w * h → j ≤ 6 → t ≤ w * h → SM w h (if on = 0 then boxd w k g j mp t else mp) (if on = 0 then dr else boxd w k g j dr t) hd wy vt M2 → FM M M2 → w * h - t < k75 → PW X l mX8_box 2 (fun v M' => v = some (.int (nI (fb_ct (fun x => inbox w k g x && !decide (sl on mp dr x = j)) (w * h)))) ∧ (SM w h (if on = 0 then boxd w k g j mp (w * h) else mp) (if on = 0 then dr else boxd w k g j dr (w * h)) hd wy vt M' ∧ FM M M')) 75 [.ref 29, .int on, .int (nI k), .int (nI g), .int (nI j), .int (nI (fb_ct (fun x => inbox w k g x && !decide (sl on mp dr x = j)) t)), .int (nI t)] [] G0 M2 := by
    intro k75
    induction k75 with
    | zero => intro t k g j M2 hk hg hj ht S2 hF hkk; exact absurd hkk (Nat.not_lt_zero _)
    | succ k75 ih75 =>
      intro t k g j M2 hk hg hj ht S2 hF hkk
      have hw1 := F.1.1
      have hw2 := F.1.2.1
      have hk2 := Nat.mod_lt k (show 0 < w by omega)
      have hg2 := Nat.mod_lt g (show 0 < w by omega)
      have ht2 := Nat.mod_lt t (show 0 < w by omega)
      have hk3 := Nat.div_le_self k w
      have hg3 := Nat.div_le_self g w
      have ht3 := Nat.div_le_self t w
      have hs6 := sl_le (on := on) F.1 t
      refine PW.ige rfl trivial (fun h86 => ?_) (fun h86 => ?_)
      · skip
        rw [S2.1.wh, nI_leI (by omega) (by omega)] at h86
        have e9 : t = w * h := by omega
        subst e9
        refine PW.iret rfl rfl trivial ?_
        exact ⟨rfl, S2, hF⟩
      · skip
        rw [S2.1.wh, nI_leI (by omega) (by omega)] at h86
        refine PW.funS rfl ⟨⟨⟨trivial, (by rw [S2.1.1]; exact nI_ne0 (by have := F.1.1; omega) (by have := F.1.2.1; omega))⟩, (by rw [S2.1.1]; exact nI_ne0 (by have := F.1.1; omega) (by have := F.1.2.1; omega))⟩, (by rw [S2.1.1]; exact nI_ne0 (by have := F.1.1; omega) (by have := F.1.2.1; omega))⟩ sX8_81 rfl (by decide) rfl (m_in _ _ _) ?_
        refine PW.zeq rfl trivial (fun h114 => ?_) (fun h114 => ?_)
        · skip
          rw [S2.1.1, pk_rem (by omega) (by omega) (by omega), pk_rem (by omega) (by omega) (by omega), pk_rem (by omega) (by omega) (by omega), inb, bo_eq] at h114
          have hin : inbox w k g t = false := by simp [inbox, h114]
          refine PW.goto rfl trivial ?_
          first
          | (rw [nI_1]
             refine PW.lc ?_ (ih75 (t + 1) k g j _ hk hg hj (by omega) (boxno S2 hin) hF (by omega))
             rw [fb_ct_succ, hin]; rfl)
          | (rw [nI_1]
             refine PW.lc ?_ (ih75 (t + 1) k g j _ hk hg hj (by omega) (boxyes S2 hin) (boxfm hF) (by omega))
             rw [fb_ct_succ, hp]
             first | (rw [Int32.add_zero]; rfl) | (rw [nI_1]; rfl))
        · skip
          rw [S2.1.1, pk_rem (by omega) (by omega) (by omega), pk_rem (by omega) (by omega) (by omega), pk_rem (by omega) (by omega) (by omega), inb, bo_ne] at h114
          refine PW.funS rfl ⟨⟨⟨trivial, (by rw [S2.1.1]; exact nI_ne0 (by have := F.1.1; omega) (by have := F.1.2.1; omega))⟩, (by rw [S2.1.1]; exact nI_ne0 (by have := F.1.1; omega) (by have := F.1.2.1; omega))⟩, (by rw [S2.1.1]; exact nI_ne0 (by have := F.1.1; omega) (by have := F.1.2.1; omega))⟩ sX8_81 rfl (by decide) rfl (m_in _ _ _) ?_
          refine PW.zeq rfl trivial (fun h142 => ?_) (fun h142 => ?_)
          · skip
            rw [S2.1.1, pk_div (by omega) (by omega) (by omega), pk_div (by omega) (by omega) (by omega), pk_div (by omega) (by omega) (by omega), inb, bo_eq] at h142
            have hin : inbox w k g t = false := by simp [inbox, h142]
            refine PW.goto rfl trivial ?_
            first
            | (rw [nI_1]
               refine PW.lc ?_ (ih75 (t + 1) k g j _ hk hg hj (by omega) (boxno S2 hin) hF (by omega))
               rw [fb_ct_succ, hin]; rfl)
            | (rw [nI_1]
               refine PW.lc ?_ (ih75 (t + 1) k g j _ hk hg hj (by omega) (boxyes S2 hin) (boxfm hF) (by omega))
               rw [fb_ct_succ, hp]
               first | (rw [Int32.add_zero]; rfl) | (rw [nI_1]; rfl))
          · skip
            rw [S2.1.1, pk_div (by omega) (by omega) (by omega), pk_div (by omega) (by omega) (by omega), pk_div (by omega) (by omega) (by omega), inb, bo_ne] at h142
            have hin : inbox w k g t = true := by simp [inbox, h114, h142]
            refine PW.funV rfl trivial sX8_95 rfl rfl (by decide) rfl (m_cellOf on t (by omega) S2.1) ?_
            rw [show sl on (if on = 0 then boxd w k g j mp t else mp) (if on = 0 then dr else boxd w k g j dr t) t = sl on mp dr t from boxsl]
            refine PW.ine rfl trivial (fun h156 => ?_) (fun h156 => ?_)
            · skip
              rw [nI_eq (by omega) (by omega)] at h156
              have hp : (inbox w k g t && !decide (sl on mp dr t = j)) = true := by simp [hin, h156]
              refine PW.callV rfl trivial sX8_99 rfl rfl (by decide) rfl (m_put on t j (by omega)) (fun v173 M173 hq173 => ?_)
              obtain ⟨rfl, rfl⟩ := hq173
              refine PW.goto rfl trivial ?_
              first
              | (rw [nI_1]
                 refine PW.lc ?_ (ih75 (t + 1) k g j _ hk hg hj (by omega) (boxno S2 hin) hF (by omega))
                 rw [fb_ct_succ, hin]; rfl)
              | (rw [nI_1]
                 refine PW.lc ?_ (ih75 (t + 1) k g j _ hk hg hj (by omega) (boxyes S2 hin) (boxfm hF) (by omega))
                 rw [fb_ct_succ, hp]
                 first | (rw [Int32.add_zero]; rfl) | (rw [nI_1]; rfl))
            · skip
              rw [nI_eq (by omega) (by omega)] at h156
              have hp : (inbox w k g t && !decide (sl on mp dr t = j)) = false := by simp [h156]
              refine PW.goto rfl trivial ?_
              refine PW.callV rfl trivial sX8_99 rfl rfl (by decide) rfl (m_put on t j (by omega)) (fun v173 M173 hq173 => ?_)
              obtain ⟨rfl, rfl⟩ := hq173
              refine PW.goto rfl trivial ?_
              first
              | (rw [nI_1]
                 refine PW.lc ?_ (ih75 (t + 1) k g j _ hk hg hj (by omega) (boxno S2 hin) hF (by omega))
                 rw [fb_ct_succ, hin]; rfl)
              | (rw [nI_1]
                 refine PW.lc ?_ (ih75 (t + 1) k g j _ hk hg hj (by omega) (boxyes S2 hin) (boxfm hF) (by omega))
                 rw [fb_ct_succ, hp]
                 first | (rw [Int32.add_zero]; rfl) | (rw [nI_1]; rfl))
  refine PW.funV rfl trivial sX8_91 rfl rfl (by decide) rfl (m_noCell _ F.1 S0.1) ?_
  refine PW.zne rfl trivial (fun h10 => ?_) (fun h10 => ?_)
  · skip
    rw [bn_ne] at h10
    change okc (w * h) c = false at h10
    refine PW.iret rfl rfl trivial ?_
    first | exact ⟨by rw [if_f (by rw [h10]; rfl)], by rw [if_neg (fun z => by rw [h10] at z; exact absurd z.1 (by simp)), if_neg (fun z => by rw [h10] at z; exact absurd z.1 (by simp))]; exact S.fj (th0 M (A := []))⟩ | exact ⟨by rw [if_f (by rw [h18, Bool.and_false]; rfl)], by rw [if_neg (fun z => by rw [h18, Bool.and_false] at z; exact absurd z.1 (by simp)), if_neg (fun z => by rw [h18, Bool.and_false] at z; exact absurd z.1 (by simp))]; exact S.fj (th0 M (A := []))⟩ | exact ⟨by rw [if_f (by rw [h31]; exact Bool.and_false _)], by rw [if_neg (fun z => by rw [h31] at z; exact absurd z.1 (by simp)), if_neg (fun z => by rw [h31] at z; exact absurd z.1 (by simp))]; exact S.fj (th0 M (A := []))⟩
  · skip
    rw [bn_eq] at h10
    change okc (w * h) c = true at h10
    obtain ⟨k, hk, rfl⟩ := okc_x h10
    refine PW.funV rfl trivial sX8_91 rfl rfl (by decide) rfl (m_noCell _ F.1 S0.1) ?_
    refine PW.zne rfl trivial (fun h18 => ?_) (fun h18 => ?_)
    · skip
      rw [bn_ne] at h18
      change okc (w * h) e = false at h18
      refine PW.iret rfl rfl trivial ?_
      first | exact ⟨by rw [if_f (by rw [h10]; rfl)], by rw [if_neg (fun z => by rw [h10] at z; exact absurd z.1 (by simp)), if_neg (fun z => by rw [h10] at z; exact absurd z.1 (by simp))]; exact S.fj (th0 M (A := []))⟩ | exact ⟨by rw [if_f (by rw [h18, Bool.and_false]; rfl)], by rw [if_neg (fun z => by rw [h18, Bool.and_false] at z; exact absurd z.1 (by simp)), if_neg (fun z => by rw [h18, Bool.and_false] at z; exact absurd z.1 (by simp))]; exact S.fj (th0 M (A := []))⟩ | exact ⟨by rw [if_f (by rw [h31]; exact Bool.and_false _)], by rw [if_neg (fun z => by rw [h31] at z; exact absurd z.1 (by simp)), if_neg (fun z => by rw [h31] at z; exact absurd z.1 (by simp))]; exact S.fj (th0 M (A := []))⟩
    · skip
      rw [bn_eq] at h18
      change okc (w * h) e = true at h18
      obtain ⟨g, hg, rfl⟩ := okc_x h18
      refine PW.funS rfl trivial sX8_81 rfl (by decide) rfl (m_in _ _ _) ?_
      refine PW.zne rfl trivial (fun h31 => ?_) (fun h31 => ?_)
      · skip
        rw [show decide ((0 : Int64) ≤ lv.toInt64 ∧ lv.toInt64 ≤ (6 : Int64)) = okl 6 lv from in_l lv 6, bo_ne] at h31
        obtain ⟨j, hj, rfl⟩ := okl_x (m := 6) h31
        have hw1 := F.1.1
        have hw2 := F.1.2.1
        have hb : (okc (w * h) (nI k) && okc (w * h) (nI g) && okl 6 (nI j)) = true := by rw [h10, h18, h31]; rfl
        have hk2 := Nat.mod_lt k (show 0 < w by omega)
        have hg2 := Nat.mod_lt g (show 0 < w by omega)
        have hk3 := Nat.div_le_self k w
        have hg3 := Nat.div_le_self g w
        refine PW.ilt rfl ⟨⟨trivial, (by rw [S0.1.1]; exact nI_ne0 (by have := F.1.1; omega) (by have := F.1.2.1; omega))⟩, (by rw [S0.1.1]; exact nI_ne0 (by have := F.1.1; omega) (by have := F.1.2.1; omega))⟩ (fun h48 => ?_) (fun h48 => ?_)
        · skip
          rw [S0.1.1, pk_rem (by omega) (by omega) (by omega), pk_rem (by omega) (by omega) (by omega), nI_ltI (by omega) (by omega)] at h48
          have hbad : g % w < k % w ∨ g / w < k / w := Or.inl h48
          refine PW.iret rfl rfl trivial ?_
          exact ⟨by rw [if_t hb, tn_nI (show g < 2 ^ 31 by omega), tn_nI (show k < 2 ^ 31 by omega), if_pos hbad], by rw [tn_nI (show g < 2 ^ 31 by omega), tn_nI (show k < 2 ^ 31 by omega), if_neg (fun z => z.2.1 hbad), if_neg (fun z => z.2.1 hbad)]; exact S.fj (th0 M (A := []))⟩
        · skip
          rw [S0.1.1, pk_rem (by omega) (by omega) (by omega), pk_rem (by omega) (by omega) (by omega), nI_ltI (by omega) (by omega)] at h48
          refine PW.ige rfl ⟨⟨trivial, (by rw [S0.1.1]; exact nI_ne0 (by have := F.1.1; omega) (by have := F.1.2.1; omega))⟩, (by rw [S0.1.1]; exact nI_ne0 (by have := F.1.1; omega) (by have := F.1.2.1; omega))⟩ (fun h63 => ?_) (fun h63 => ?_)
          · skip
            rw [S0.1.1, pk_div (by omega) (by omega) (by omega), pk_div (by omega) (by omega) (by omega), nI_leI (by omega) (by omega)] at h63
            have hgood : ¬ (g % w < k % w ∨ g / w < k / w) := fun q => by omega
            refine PW.to 75 rfl trivial ?_
            refine PW.post (Q' := (fun v M' => v = some (.int (nI (fb_ct (fun x => inbox w k g x && !decide (sl on mp dr x = j)) (w * h)))) ∧ (SM w h (if on = 0 then boxd w k g j mp (w * h) else mp) (if on = 0 then dr else boxd w k g j dr (w * h)) hd wy vt M' ∧ FM M M'))) (fun v M2 q => ?_) ?_
            · rw [if_t hb, tn_nI (show g < 2 ^ 31 by omega), tn_nI (show k < 2 ^ 31 by omega), tn_nI (show j < 2 ^ 31 by omega), if_neg hgood]
              by_cases z : on = 0
              · rw [if_pos z, if_pos z] at q
                rw [if_pos ⟨hb, hgood, z⟩, if_neg (fun y => y.2.2 z)]; exact q
              · rw [if_neg z, if_neg z] at q
                rw [if_neg (fun y => z y.2.2), if_pos ⟨hb, hgood, z⟩]; exact q
            · refine loop75 (w * h + 1) 0 k g j (va_up M.1 29 (upd (M.1 29) 0 0), M.2) hk hg hj (Nat.zero_le _) ?_ (th0 M (A := [])).fm (by omega)
              rw [boxd0, boxd0, ite_self, ite_self]; exact S0
          · skip
            rw [S0.1.1, pk_div (by omega) (by omega) (by omega), pk_div (by omega) (by omega) (by omega), nI_leI (by omega) (by omega)] at h63
            have hbad : g % w < k % w ∨ g / w < k / w := Or.inr (by omega)
            refine PW.iret rfl rfl trivial ?_
            exact ⟨by rw [if_t hb, tn_nI (show g < 2 ^ 31 by omega), tn_nI (show k < 2 ^ 31 by omega), if_pos hbad], by rw [tn_nI (show g < 2 ^ 31 by omega), tn_nI (show k < 2 ^ 31 by omega), if_neg (fun z => z.2.1 hbad), if_neg (fun z => z.2.1 hbad)]; exact S.fj (th0 M (A := []))⟩
      · skip
        rw [show decide ((0 : Int64) ≤ lv.toInt64 ∧ lv.toInt64 ≤ (6 : Int64)) = okl 6 lv from in_l lv 6, bo_eq] at h31
        refine PW.iret rfl rfl trivial ?_
        first | exact ⟨by rw [if_f (by rw [h10]; rfl)], by rw [if_neg (fun z => by rw [h10] at z; exact absurd z.1 (by simp)), if_neg (fun z => by rw [h10] at z; exact absurd z.1 (by simp))]; exact S.fj (th0 M (A := []))⟩ | exact ⟨by rw [if_f (by rw [h18, Bool.and_false]; rfl)], by rw [if_neg (fun z => by rw [h18, Bool.and_false] at z; exact absurd z.1 (by simp)), if_neg (fun z => by rw [h18, Bool.and_false] at z; exact absurd z.1 (by simp))]; exact S.fj (th0 M (A := []))⟩ | exact ⟨by rw [if_f (by rw [h31]; exact Bool.and_false _)], by rw [if_neg (fun z => by rw [h31] at z; exact absurd z.1 (by simp)), if_neg (fun z => by rw [h31] at z; exact absurd z.1 (by simp))]; exact S.fj (th0 M (A := []))⟩
end M10
end
section
-- made by wip/whole/mk_m11.py
section M11
variable {X : Cx} {l : Launch} {M : Mem}
theorem p_mend {w h : Nat} {mp dr hd : Nat → Nat} {wy : Nat} {vt : Nat → Nat} (F : Sf w h mp dr hd wy vt) (S : SM w h mp dr hd wy vt M)  : PC X l mX8_mend 6 [.ref 29] G0 M (fun v M' => v = some (.int (ofd (mst w (w * h) mp dr (due hd wy (w * h - many mp 6 (w * h))) (7 * (w * h))).2)) ∧ (SM w h mp (mnd w (w * h) mp dr (due hd wy (w * h - many mp 6 (w * h)))) hd wy vt M' ∧ FM M M')) := by
  refine PC.ofW okX8_mend ?_
  have hn := F.1.n
  have S0 := (S.fj (th0 M (A := []))).1
  obtain ⟨du, edu⟩ : ∃ du, du = due hd wy (w * h - many mp 6 (w * h)) := ⟨_, rfl⟩
  have hdu : ∀ j, j < 6 → du j ≤ 37 := fun j hj => by rw [edu]; have := due_le (hd := hd) (wy := wy) (n := w * h - many mp 6 (w * h)) hj; omega
  rw [← edu]
  have loop15 : ∀ k : Nat, ∀ (c : Nat) (M2 : Mem), c ≤ w * h → FJ [33, 34, 35] M M2 → w * h - c < k → PW X l mX8_mend 6 (fun v M' => v = some (.int (ofd (mst w (w * h) mp dr du (7 * (w * h))).2)) ∧ (SM w h mp (mnd w (w * h) mp dr du) hd wy vt M' ∧ FM M M')) 15 [.ref 29, .int (nI (mst w (w * h) mp dr du (7 * c)).1), .int (ofd (mst w (w * h) mp dr du (7 * c)).2), .int (nI c), .null, .null] [] G0 M2 := by
    intro k
    induction k with
    | zero => intro c M2 hc J hk; exact absurd hk (Nat.not_lt_zero _)
    | succ k ih =>
      intro c M2 hc J hk
      obtain ⟨S2, FM2⟩ := S.fj J
      have loop31 : ∀ k31 : Nat, ∀ (lv : Nat) (M3 : Mem), c < w * h → lv ≤ 7 → FJ [33, 34, 35] M M3 → 7 - lv < k31 → PW X l mX8_mend 6 (fun v M' => v = some (.int (ofd (mst w (w * h) mp dr du (7 * (w * h))).2)) ∧ (SM w h mp (mnd w (w * h) mp dr du) hd wy vt M' ∧ FM M M')) 31 [.ref 29, .int (nI (mst w (w * h) mp dr du (7 * c + lv)).1), .int (ofd (mst w (w * h) mp dr du (7 * c + lv)).2), .int (nI c), .int (nI lv), .null] [] G0 M3 := by
        intro k31
        induction k31 with
        | zero => intro lv M3 hcn hl J3 hk3; exact absurd hk3 (Nat.not_lt_zero _)
        | succ k31 ih31 =>
          intro lv M3 hcn hl J3 hk3
          obtain ⟨S3, FM3⟩ := S.fj J3
          have hm := mst_le (w := w) (mp := mp) (dr := dr) hn hdu (7 * c + lv)
          have hf := flt_le (w := w) (mp := mp) (dr := set1 dr c lv) hn hdu 6 (Nat.le_refl _)
          have d7 : (7 * c + lv) / 7 = c ∨ lv = 7 := by omega
          have m7 : (7 * c + lv) % 7 = lv ∨ lv = 7 := by omega
          have join60 : ∀ (nv : Nat) (M4 : Mem), c < w * h → lv ≤ 6 → FJ [33, 34, 35] M M4 → nv < 2 ^ 31 → mst w (w * h) mp dr du (7 * c + lv + 1) = (if nv < (mst w (w * h) mp dr du (7 * c + lv)).1 then (nv, some (7 * c + lv)) else mst w (w * h) mp dr du (7 * c + lv)) → PW X l mX8_mend 6 (fun v M' => v = some (.int (ofd (mst w (w * h) mp dr du (7 * (w * h))).2)) ∧ (SM w h mp (mnd w (w * h) mp dr du) hd wy vt M' ∧ FM M M')) 60 [.ref 29, .int (nI (mst w (w * h) mp dr du (7 * c + lv)).1), .int (ofd (mst w (w * h) mp dr du (7 * c + lv)).2), .int (nI c), .int (nI lv), .null] [.int (nI nv)] G0 M4 := by
            intro nv M4 hcn hl6 J4 hnv hst
            have e7 : (7 * c + lv) / 7 = c := by omega
            have e8 : (7 * c + lv) % 7 = lv := by omega
            refine PW.ige rfl trivial (fun h65 => ?_) (fun h65 => ?_)
            · skip
              rw [nI_leI (by omega) (by omega)] at h65
              rw [if_neg (by omega)] at hst
              refine PW.goto rfl trivial ?_
              rw [nI_1]
              refine PW.nl [5] ?_
              refine PW.lc ?_ (ih31 (lv + 1) _ hcn (by omega) J4 (by omega))
              rw [← Nat.add_assoc, hst]; rfl
            · skip
              rw [nI_leI (by omega) (by omega)] at h65
              rw [if_pos (by omega)] at hst
              refine PW.goto rfl trivial ?_
              rw [show (10 : Int32) = nI 10 from rfl, pk_mul, nI_add, nI_1]
              refine PW.nl [5] ?_
              refine PW.lc ?_ (ih31 (lv + 1) _ hcn (by omega) J4 (by omega))
              rw [← Nat.add_assoc, hst]
              simp only [ofd, e7, e8]; rfl
          refine PW.igt rfl trivial (fun h35 => ?_) (fun h35 => ?_)
          · skip
            rw [show (6 : Int32) = nI 6 from rfl, nI_ltI (by omega) (by omega)] at h35
            have e9 : lv = 7 := by omega
            subst e9
            refine PW.goto rfl trivial ?_
            rw [nI_1]
            refine PW.nl [4] ?_
            refine PW.lc ?_ (ih (c + 1) M3 (by omega) J3 (by omega))
            rw [show 7 * (c + 1) = 7 * c + 7 by omega]; rfl
          · skip
            rw [show (6 : Int32) = nI 6 from rfl, nI_ltI (by omega) (by omega)] at h35
            have hl6 : lv ≤ 6 := by omega
            have e7 : (7 * c + lv) / 7 = c := by omega
            have e8 : (7 * c + lv) % 7 = lv := by omega
            refine PW.funV rfl trivial sX8_139 rfl rfl (by decide) rfl (m_isChange F.1 S3.1 c lv hcn hl6) ?_
            refine PW.zeq rfl trivial (fun h45 => ?_) (fun h45 => ?_)
            · skip
              rw [bo_eq] at h45
              refine PW.to 60 rfl trivial ?_
              exact join60 1000000000 M3 hcn hl6 J3 (by decide) (by simp only [mst, e7, e8, h45]; simp; intro q; omega)
            · skip
              rw [bo_ne] at h45
              refine PW.callV rfl trivial sX8_142 rfl rfl (by decide) rfl (m_faultsBy F.1 S3.1 F.2.1 S3.2.1 c lv hcn hl6) (fun v52 M52 hq52 => ?_)
              obtain ⟨rfl, hF4⟩ := hq52
              have J4 := J3.tr (hF4.fj (by decide))
              rw [← edu]
              refine PW.goto rfl trivial ?_
              exact join60 _ _ hcn hl6 J4 (by omega) (by simp only [mst, e7, e8, h45]; simp)
      refine PW.ige rfl trivial (fun h25 => ?_) (fun h25 => ?_)
      · skip
        rw [S2.1.wh, nI_leI (by omega) (by omega)] at h25
        have e9 : c = w * h := by omega
        subst e9
        have hof : ∀ i, (mst w (w * h) mp dr du (7 * (w * h))).2 = some i → i < 252 := fun i q => by have := mst_lt q; omega
        refine PW.ieq rfl trivial (fun h94 => ?_) (fun h94 => ?_)
        · skip
          rw [ofd_none hof] at h94
          refine PW.iret rfl rfl trivial ?_
          first
          | (rw [eq2, eq1, nI_clamp (by omega)]
             refine ⟨rfl, ?_⟩
             rw [show mnd w (w * h) mp dr du = set1 dr (i / 7) (i % 7) from by simp only [mnd, hi]]
             exact ⟨sm_dr S2 (i / 7) (i % 7), FM2.put (by decide)⟩)
          | (refine ⟨rfl, ?_⟩
             rw [show mnd w (w * h) mp dr du = dr from by simp only [mnd, h94]]
             exact ⟨S2, FM2⟩)
        · skip
          rw [ofd_none hof] at h94
          obtain ⟨i, hi⟩ := Option.ne_none_iff_exists'.mp h94
          have hi2 := mst_lt hi
          have eo : ofd (mst w (w * h) mp dr du (7 * (w * h))).2 = nI (10 * (i / 7) + i % 7) := by rw [hi]; rfl
          have eq1 : ofd (mst w (w * h) mp dr du (7 * (w * h))).2 / 10 = nI (i / 7) := by rw [eo, show (10 : Int32) = nI 10 from rfl, pk_div (by omega) (by omega) (by omega)]; congr 1; omega
          have eq2 : ofd (mst w (w * h) mp dr du (7 * (w * h))).2 - ofd (mst w (w * h) mp dr du (7 * (w * h))).2 / 10 * 10 = nI (i % 7) := by rw [eo, show (10 : Int32) = nI 10 from rfl, pk_rem (by omega) (by omega) (by omega)]; congr 1; omega
          refine PW.iret rfl rfl ⟨⟨⟨trivial, (by decide)⟩, (by decide)⟩, (by rw [eq1]; exact vp_in_nI (by omega) (by decide))⟩ ?_
          first
          | (rw [eq2, eq1, nI_clamp (by omega)]
             refine ⟨rfl, ?_⟩
             rw [show mnd w (w * h) mp dr du = set1 dr (i / 7) (i % 7) from by simp only [mnd, hi]]
             exact ⟨sm_dr S2 (i / 7) (i % 7), FM2.put (by decide)⟩)
          | (refine ⟨rfl, ?_⟩
             rw [show mnd w (w * h) mp dr du = dr from by simp only [mnd, h94]]
             exact ⟨S2, FM2⟩)
      · skip
        rw [S2.1.wh, nI_leI (by omega) (by omega)] at h25
        refine PW.to 31 rfl trivial ?_
        exact loop31 8 0 M2 (by omega) (by omega) J (by omega)
  refine PW.callV rfl trivial sX8_135 rfl rfl (by decide) rfl (m_allFaults F.1 S0.1 F.2.1 S0.2.1) (fun v6 M6 hq6 => ?_)
  obtain ⟨rfl, hF1⟩ := hq6
  have J1 := (th0 M (A := [33, 34, 35])).tr (hF1.fj (by decide))
  rw [← edu]
  refine PW.to 15 rfl trivial ?_
  exact loop15 (w * h + 1) 0 M6 (Nat.zero_le _) J1 (by omega)
theorem m_passOn {w h : Nat} {mp dr hd : Nat → Nat} {wy : Nat} {vt : Nat → Nat} (F : Sf w h mp dr hd wy vt) (S : SM w h mp dr hd wy vt M) (m0 : Nat) (ch : Nat → Nat) (hm0 : m0 < 6) (hch : ∀ i, i ≤ m0 → ch i < 6) (hli : M.1 29 12 = nI (m0 + 1)) (hc : ∀ i, i ≤ m0 → M.1 37 i = nI (ch i)) : PC X l mX8_passOn 5 [.ref 29] G0 M (fun v M' => v = some (.int (nI (pas w (w * h) ch m0 dr).1)) ∧ (SM w h mp (pas w (w * h) ch m0 dr).2 hd wy vt M' ∧ FM M M')) := by
  refine PC.ofW okX8_passOn ?_
  have hn := F.1.n
  have loop11 : ∀ k : Nat, ∀ (m cnt : Nat) (g : Bool) (d2 : Nat → Nat) (M2 : Mem), m ≤ m0 → Wf w h mp d2 → SM w h mp d2 hd wy vt M2 → FJ [31, 34, 35] M M2 → (g = true → cnt + (pas w (w * h) ch m d2).1 = (pas w (w * h) ch m0 dr).1 ∧ (pas w (w * h) ch m d2).2 = (pas w (w * h) ch m0 dr).2) → (g = false → cnt = (pas w (w * h) ch m0 dr).1 ∧ d2 = (pas w (w * h) ch m0 dr).2) → m < k → PW X l mX8_passOn 5 (fun v M' => v = some (.int (nI (pas w (w * h) ch m0 dr).1)) ∧ (SM w h mp (pas w (w * h) ch m0 dr).2 hd wy vt M' ∧ FM M M')) 11 [.ref 29, .int (nI cnt), .int (bo g), .int (nI m - 1), .null] [] G0 M2 := by
    intro k
    induction k with
    | zero => intro m cnt g d2 M2 hm Hw2 S2 J ht hf hk; exact absurd hk (Nat.not_lt_zero _)
    | succ k ih =>
      intro m cnt g d2 M2 hm Hw2 S2 J ht hf hk
      refine PW.zlt rfl trivial (fun h12 => ?_) (fun h12 => ?_)
      · skip
        have e0 : m = 0 := by
          rcases Nat.eq_zero_or_pos m with z | z
          · exact z
          · rw [nI_m1 z] at h12; exact absurd h12 (nI_pos (by omega))
        subst e0
        have hend : cnt = (pas w (w * h) ch m0 dr).1 ∧ d2 = (pas w (w * h) ch m0 dr).2 := by
          cases g with
          | true => exact ht rfl
          | false => exact hf rfl
        refine PW.iret rfl rfl trivial ?_
        obtain ⟨e1, e2⟩ := hend
        rw [e1]
        exact ⟨rfl, by rw [← e2]; exact S2, J.fm⟩
      · skip
        have hm0 : 0 < m := by
          rcases Nat.eq_zero_or_pos m with z | z
          · subst z; exact absurd (by decide) h12
          · exact z
        obtain ⟨m, rfl⟩ : ∃ j, m = j + 1 := ⟨m - 1, by omega⟩
        rw [nI_m1 (by omega), Nat.add_sub_cancel]
        refine PW.zeq rfl trivial (fun h16 => ?_) (fun h16 => ?_)
        · skip
          rw [bo_eq] at h16
          have hend := hf h16
          refine PW.iret rfl rfl trivial ?_
          obtain ⟨e1, e2⟩ := hend
          rw [e1]
          exact ⟨rfl, by rw [← e2]; exact S2, J.fm⟩
        · skip
          rw [bo_ne] at h16
          subst h16
          obtain ⟨ht1, ht2⟩ := ht rfl
          have ec1 : M2.1 37 m = nI (ch m) := by rw [J.at 37]; exact hc m (by omega)
          have ec2 : M2.1 37 (m + 1) = nI (ch (m + 1)) := by rw [J.at 37]; exact hc (m + 1) (by omega)
          refine PW.callV rfl ⟨⟨trivial, vp_in_nI (by omega) (by decide)⟩, (by rw [nI_1]; exact vp_in_nI (by omega) (by decide))⟩ sX8_150 rfl rfl (by decide) rfl (show PC X l mX8_leastTo 4 [.ref 29, .int (M2.1 37 (nI m).toNatClampNeg), .int (M2.1 37 (nI m + 1).toNatClampNeg)] G0 M2 (fun v M3 => v = some (.int (ob (fnd (fun x => decide (d2 x = ch m) && mayh w (w * h) d2 x (ch (m + 1))) (w * h)))) ∧ FI [34, 35] M2 M3) from by rw [nI_1, nI_clamp (by omega), nI_clamp (by omega), ec1, ec2]; exact m_leastTo Hw2 S2.1 (ch m) (ch (m + 1)) (hch m (by omega)) (hch (m + 1) (by omega))) (fun v34 M34 hq34 => ?_)
          obtain ⟨rfl, hF3⟩ := hq34
          obtain ⟨S3, FM3⟩ := S2.fj (hF3.fj (B := [34, 35]) (by decide))
          have J3 := J.tr (hF3.fj (B := [31, 34, 35]) (by decide))
          refine PW.ieq rfl trivial (fun h43 => ?_) (fun h43 => ?_)
          · skip
            rw [ob_nn] at h43
            have e5 : pas w (w * h) ch (m + 1) d2 = (0, d2) := by simp only [pas, h43]
            rw [e5] at ht1 ht2
            refine PW.zeq rfl trivial (fun h53 => ?_) (fun h53 => ?_)
            · skip
              refine PW.goto rfl trivial ?_
              rw [← Int32.sub_eq_add_neg]
              refine PW.nl [4] ?_
              exact ih m cnt false d2 M34 (by omega) Hw2 S3 J3 (fun q => by cases q) (fun _ => ⟨by simpa using ht1, ht2⟩) (by omega)
            · exact absurd rfl h53
          · skip
            rw [ob_nn] at h43
            obtain ⟨b, hb⟩ := Option.ne_none_iff_exists'.mp h43
            have hb2 := (fnd_some.mp hb).1
            have eb : ob (fnd (fun x => decide (d2 x = ch m) && mayh w (w * h) d2 x (ch (m + 1))) (w * h)) = nI b := by rw [hb]; rfl
            have e5 : pas w (w * h) ch (m + 1) d2 = ((pas w (w * h) ch m (set1 d2 b (ch (m + 1)))).1 + 1, (pas w (w * h) ch m (set1 d2 b (ch (m + 1)))).2) := by simp only [pas, hb]
            rw [e5] at ht1 ht2
            rw [eb]
            have ec3 : M34.1 37 (m + 1) = nI (ch (m + 1)) := by rw [hF3.at 37]; exact ec2
            refine PW.goto rfl trivial ?_
            refine PW.zeq rfl trivial (fun h53 => ?_) (fun h53 => ?_)
            · exact absurd h53 (by decide)
            · skip
              refine PW.goto rfl ⟨⟨trivial, (by rw [nI_1]; exact vp_in_nI (by omega) (by decide))⟩, vp_in_nI (by omega) (by decide)⟩ ?_
              rw [nI_1, nI_1, nI_clamp (by omega), nI_clamp (by omega), ec3, ← Int32.sub_eq_add_neg]
              refine PW.nl [4] ?_
              exact ih m (cnt + 1) true (set1 d2 b (ch (m + 1))) _ (by omega) (wf_set1 Hw2 hb2 (by have := hch (m + 1) (by omega); omega)) (sm_dr S3 b (ch (m + 1))) (J3.put (by decide)) (fun _ => ⟨by dsimp only at ht1; omega, ht2⟩) (fun q => by cases q) (by omega)
  refine PW.to 11 rfl trivial ?_
  rw [hli]
  refine PW.lc ?_ (loop11 (m0 + 1) m0 0 true dr M (Nat.le_refl _) F.1 S FJ.rf (fun _ => ⟨Nat.zero_add _, rfl⟩) (fun q => by cases q) (by omega))
  rw [nI_m2 (by omega), Nat.add_sub_cancel]; rfl
theorem p_chain {w h : Nat} {mp dr hd : Nat → Nat} {wy : Nat} {vt : Nat → Nat} (F : Sf w h mp dr hd wy vt) (S : SM w h mp dr hd wy vt M)  : PC X l mX8_chain 6 [.ref 29] G0 M (fun v M' => v = some (.int ((match (cst (hnd w (w * h) dr) (hasless (w * h) dr (due hd wy (w * h - many mp 6 (w * h)))) (hasmore (w * h) dr (due hd wy (w * h - many mp 6 (w * h))))) with | none => -9 | some s => nI (dn (hnd w (w * h) dr) (hasless (w * h) dr (due hd wy (w * h - many mp 6 (w * h)))) 7 s)))) ∧ (SM w h mp dr hd wy vt M' ∧ FM M M')) := by
  refine PC.ofW okX8_chain ?_
  have hn := F.1.n
  have S0 := (S.fj (th0 M (A := []))).1
  refine PW.callV rfl trivial sX8_156 rfl rfl (by decide) rfl (m_linked F.1 S0.1 F.2.1 S0.2.1) (fun v6 M6 hq6 => ?_)
  obtain ⟨rfl, J1, hz1, hl1⟩ := hq6
  have J2 := (th0 M (A := [33, 34, 35, 36, 37, 43])).tr J1
  obtain ⟨S2, FM2⟩ := S.fj J2
  refine PW.zeq rfl trivial (fun h9 => ?_) (fun h9 => ?_)
  · skip
    rw [bo_eq] at h9
    have hs : cst (hnd w (w * h) dr) (hasless (w * h) dr (due hd wy (w * h - many mp 6 (w * h)))) (hasmore (w * h) dr (due hd wy (w * h - many mp 6 (w * h)))) = none := by simpa using h9
    refine PW.iret rfl rfl trivial ?_
    first | exact ⟨by rw [hli, hs], S2, FM2⟩ | exact ⟨by rw [hs], S2, FM2⟩
  · skip
    rw [bo_ne] at h9
    have hso : ∃ s, cst (hnd w (w * h) dr) (hasless (w * h) dr (due hd wy (w * h - many mp 6 (w * h)))) (hasmore (w * h) dr (due hd wy (w * h - many mp 6 (w * h)))) = some s := Option.isSome_iff_exists.mp h9
    obtain ⟨s, hs⟩ := hso
    obtain ⟨hli, hch⟩ := hl1 s hs
    have hcs := cst_ism (hnd w (w * h) dr) (hasless (w * h) dr (due hd wy (w * h - many mp 6 (w * h)))) (hasmore (w * h) dr (due hd wy (w * h - many mp 6 (w * h))))
    rw [hs] at hcs
    have hs6 := hcs.2.1
    have hsd : dn (hnd w (w * h) dr) (hasless (w * h) dr (due hd wy (w * h - many mp 6 (w * h)))) 7 s ≤ 6 := by have := hcs.2.2.1; simp at this; exact this.2
    have hpos := dn_pos (h := hnd w (w * h) dr) (T := hasless (w * h) dr (due hd wy (w * h - many mp 6 (w * h)))) (F := 7) (a := s) (by decide)
    refine PW.goto rfl trivial ?_
    refine PW.iret rfl rfl trivial ?_
    first | exact ⟨by rw [hli, hs], S2, FM2⟩ | exact ⟨by rw [hs], S2, FM2⟩
theorem inc0 {x : Int32} {n : Nat} (h : n < 2 ^ 31) (h0 : 0 < n := by omega) : decide ((0 : Int64) ≤ x.toInt64 ∧ x.toInt64 ≤ (nI (n - 1)).toInt64) = okc n x := by
  refine (in_i x 0 (nI (n - 1))).trans (decide_eq_decide.mpr ?_)
  rw [nI_t (by omega), Int32.toInt_zero]
  omega
theorem p_link {w h : Nat} {mp dr hd : Nat → Nat} {wy : Nat} {vt : Nat → Nat} (F : Sf w h mp dr hd wy vt) (S : SM w h mp dr hd wy vt M) (x : Int32) : PC X l mX8_link 6 [.ref 29, .int x] G0 M (fun v M' => v = some (.int ((match (cst (hnd w (w * h) dr) (hasless (w * h) dr (due hd wy (w * h - many mp 6 (w * h)))) (hasmore (w * h) dr (due hd wy (w * h - many mp 6 (w * h))))) with | none => -9 | some s => if okc (dn (hnd w (w * h) dr) (hasless (w * h) dr (due hd wy (w * h - many mp 6 (w * h)))) 7 s) x = true then nI (chn (hnd w (w * h) dr) (hasless (w * h) dr (due hd wy (w * h - many mp 6 (w * h)))) s (tn x)) else -9))) ∧ (SM w h mp dr hd wy vt M' ∧ FM M M')) := by
  refine PC.ofW okX8_link ?_
  have hn := F.1.n
  have S0 := (S.fj (th0 M (A := []))).1
  refine PW.callV rfl trivial sX8_156 rfl rfl (by decide) rfl (m_linked F.1 S0.1 F.2.1 S0.2.1) (fun v6 M6 hq6 => ?_)
  obtain ⟨rfl, J1, hz1, hl1⟩ := hq6
  have J2 := (th0 M (A := [33, 34, 35, 36, 37, 43])).tr J1
  obtain ⟨S2, FM2⟩ := S.fj J2
  refine PW.zeq rfl trivial (fun h9 => ?_) (fun h9 => ?_)
  · skip
    rw [bo_eq] at h9
    have hs : cst (hnd w (w * h) dr) (hasless (w * h) dr (due hd wy (w * h - many mp 6 (w * h)))) (hasmore (w * h) dr (due hd wy (w * h - many mp 6 (w * h)))) = none := by simpa using h9
    refine PW.iret rfl rfl trivial ?_
    first | exact ⟨by rw [nI_clamp (by omega), hch k hk, hs]; dsimp only; rw [if_t h25, tn_nI (by omega)], S2, FM2⟩ | exact ⟨by rw [hs]; dsimp only; rw [if_f h25], S2, FM2⟩ | exact ⟨by rw [hs], S2, FM2⟩
  · skip
    rw [bo_ne] at h9
    have hso : ∃ s, cst (hnd w (w * h) dr) (hasless (w * h) dr (due hd wy (w * h - many mp 6 (w * h)))) (hasmore (w * h) dr (due hd wy (w * h - many mp 6 (w * h)))) = some s := Option.isSome_iff_exists.mp h9
    obtain ⟨s, hs⟩ := hso
    obtain ⟨hli, hch⟩ := hl1 s hs
    have hcs := cst_ism (hnd w (w * h) dr) (hasless (w * h) dr (due hd wy (w * h - many mp 6 (w * h)))) (hasmore (w * h) dr (due hd wy (w * h - many mp 6 (w * h))))
    rw [hs] at hcs
    have hs6 := hcs.2.1
    have hsd : dn (hnd w (w * h) dr) (hasless (w * h) dr (due hd wy (w * h - many mp 6 (w * h)))) 7 s ≤ 6 := by have := hcs.2.2.1; simp at this; exact this.2
    have hpos := dn_pos (h := hnd w (w * h) dr) (T := hasless (w * h) dr (due hd wy (w * h - many mp 6 (w * h)))) (F := 7) (a := s) (by decide)
    refine PW.funS rfl trivial sX8_81 rfl (by decide) rfl (m_in _ _ _) ?_
    refine PW.zeq rfl trivial (fun h25 => ?_) (fun h25 => ?_)
    · skip
      rw [hli, nI_m1 hpos, inc0 (by omega), bo_eq] at h25
      refine PW.iret rfl rfl trivial ?_
      first | exact ⟨by rw [nI_clamp (by omega), hch k hk, hs]; dsimp only; rw [if_t h25, tn_nI (by omega)], S2, FM2⟩ | exact ⟨by rw [hs]; dsimp only; rw [if_f h25], S2, FM2⟩ | exact ⟨by rw [hs], S2, FM2⟩
    · skip
      rw [hli, nI_m1 hpos, inc0 (by omega), bo_ne] at h25
      obtain ⟨k, hk, rfl⟩ := okc_x h25
      refine PW.goto rfl ⟨trivial, vp_in_nI (by omega) (by decide)⟩ ?_
      refine PW.iret rfl rfl trivial ?_
      first | exact ⟨by rw [nI_clamp (by omega), hch k hk, hs]; dsimp only; rw [if_t h25, tn_nI (by omega)], S2, FM2⟩ | exact ⟨by rw [hs]; dsimp only; rw [if_f h25], S2, FM2⟩ | exact ⟨by rw [hs], S2, FM2⟩
theorem p_pass {w h : Nat} {mp dr hd : Nat → Nat} {wy : Nat} {vt : Nat → Nat} (F : Sf w h mp dr hd wy vt) (S : SM w h mp dr hd wy vt M)  : PC X l mX8_pass 6 [.ref 29] G0 M (fun v M' => v = some (.int ((match (cst (hnd w (w * h) dr) (hasless (w * h) dr (due hd wy (w * h - many mp 6 (w * h)))) (hasmore (w * h) dr (due hd wy (w * h - many mp 6 (w * h))))) with | none => -3 | some s => nI (pas w (w * h) (chn (hnd w (w * h) dr) (hasless (w * h) dr (due hd wy (w * h - many mp 6 (w * h)))) s) (dn (hnd w (w * h) dr) (hasless (w * h) dr (due hd wy (w * h - many mp 6 (w * h)))) 7 s - 1) dr).1))) ∧ (SM w h mp (match (cst (hnd w (w * h) dr) (hasless (w * h) dr (due hd wy (w * h - many mp 6 (w * h)))) (hasmore (w * h) dr (due hd wy (w * h - many mp 6 (w * h))))) with | none => dr | some s => (pas w (w * h) (chn (hnd w (w * h) dr) (hasless (w * h) dr (due hd wy (w * h - many mp 6 (w * h)))) s) (dn (hnd w (w * h) dr) (hasless (w * h) dr (due hd wy (w * h - many mp 6 (w * h)))) 7 s - 1) dr).2) hd wy vt M' ∧ FM M M')) := by
  refine PC.ofW okX8_pass ?_
  have hn := F.1.n
  have S0 := (S.fj (th0 M (A := []))).1
  refine PW.callV rfl trivial sX8_156 rfl rfl (by decide) rfl (m_linked F.1 S0.1 F.2.1 S0.2.1) (fun v6 M6 hq6 => ?_)
  obtain ⟨rfl, J1, hz1, hl1⟩ := hq6
  have J2 := (th0 M (A := [33, 34, 35, 36, 37, 43])).tr J1
  obtain ⟨S2, FM2⟩ := S.fj J2
  refine PW.zeq rfl trivial (fun h9 => ?_) (fun h9 => ?_)
  · skip
    rw [bo_eq] at h9
    have hs : cst (hnd w (w * h) dr) (hasless (w * h) dr (due hd wy (w * h - many mp 6 (w * h)))) (hasmore (w * h) dr (due hd wy (w * h - many mp 6 (w * h)))) = none := by simpa using h9
    refine PW.iret rfl rfl trivial ?_
    first | exact ⟨by rw [hs], by rw [hs]; exact S3, FM2.tr FM3⟩ | exact ⟨by rw [hs], by rw [hs]; exact S2, FM2⟩
  · skip
    rw [bo_ne] at h9
    have hso : ∃ s, cst (hnd w (w * h) dr) (hasless (w * h) dr (due hd wy (w * h - many mp 6 (w * h)))) (hasmore (w * h) dr (due hd wy (w * h - many mp 6 (w * h)))) = some s := Option.isSome_iff_exists.mp h9
    obtain ⟨s, hs⟩ := hso
    obtain ⟨hli, hch⟩ := hl1 s hs
    have hcs := cst_ism (hnd w (w * h) dr) (hasless (w * h) dr (due hd wy (w * h - many mp 6 (w * h)))) (hasmore (w * h) dr (due hd wy (w * h - many mp 6 (w * h))))
    rw [hs] at hcs
    have hs6 := hcs.2.1
    have hsd : dn (hnd w (w * h) dr) (hasless (w * h) dr (due hd wy (w * h - many mp 6 (w * h)))) 7 s ≤ 6 := by have := hcs.2.2.1; simp at this; exact this.2
    have hpos := dn_pos (h := hnd w (w * h) dr) (T := hasless (w * h) dr (due hd wy (w * h - many mp 6 (w * h)))) (F := 7) (a := s) (by decide)
    refine PW.callV rfl trivial sX8_160 rfl rfl (by decide) rfl (m_passOn F S2 (dn (hnd w (w * h) dr) (hasless (w * h) dr (due hd wy (w * h - many mp 6 (w * h)))) 7 s - 1) (chn (hnd w (w * h) dr) (hasless (w * h) dr (due hd wy (w * h - many mp 6 (w * h)))) s) (by omega) (fun i hi => (chn_ok hs6 hsd i (by omega)).1) (by rw [hli]; congr 1; omega) (fun i hi => hch i (by omega))) (fun v13 M13 hq13 => ?_)
    obtain ⟨rfl, S3, FM3⟩ := hq13
    refine PW.goto rfl trivial ?_
    refine PW.iret rfl rfl trivial ?_
    first | exact ⟨by rw [hs], by rw [hs]; exact S3, FM2.tr FM3⟩ | exact ⟨by rw [hs], by rw [hs]; exact S2, FM2⟩
theorem pas_wf2 {w h : Nat} {mp : Nat → Nat} {ch : Nat → Nat} : ∀ {m : Nat} {dr : Nat → Nat}, Wf w h mp dr → (∀ i, i ≤ m → ch i < 6) → Wf w h mp (pas w (w * h) ch m dr).2
  | 0, _, H, _ => H
  | m + 1, dr, H, hc => by
    simp only [pas]
    split
    · exact H
    · rename_i c e
      exact pas_wf2 (wf_set1 H (fnd_some.mp e).1 (by have := hc (m + 1) (Nat.le_refl _); omega)) (fun i hi => hc i (by omega))
theorem p_settle {w h : Nat} {mp dr hd : Nat → Nat} {wy : Nat} {vt : Nat → Nat} (F : Sf w h mp dr hd wy vt) (S : SM w h mp dr hd wy vt M)  : PC X l mX8_settle 6 [.ref 29] G0 M (fun v M' => v = some (.int (nI (stl w (w * h) (due hd wy (w * h - many mp 6 (w * h))) 40 dr).1)) ∧ (SM w h mp (stl w (w * h) (due hd wy (w * h - many mp 6 (w * h))) 40 dr).2 hd wy vt M' ∧ FM M M')) := by
  refine PC.ofW okX8_settle ?_
  have hn := F.1.n
  have S0 := (S.fj (th0 M (A := []))).1
  obtain ⟨tot, et⟩ : ∃ tot, tot = stl w (w * h) (due hd wy (w * h - many mp 6 (w * h))) 40 dr := ⟨_, rfl⟩
  rw [← et]
  have loop7 : ∀ k : Nat, ∀ (p : Nat) (d2 : Nat → Nat) (M2 : Mem), p ≤ 40 → Wf w h mp d2 → SM w h mp d2 hd wy vt M2 → FM M M2 → p + (stl w (w * h) (due hd wy (w * h - many mp 6 (w * h))) (40 - p) d2).1 = tot.1 → (stl w (w * h) (due hd wy (w * h - many mp 6 (w * h))) (40 - p) d2).2 = tot.2 → 40 - p < k → PW X l mX8_settle 6 (fun v M' => v = some (.int (nI tot.1)) ∧ (SM w h mp tot.2 hd wy vt M' ∧ FM M M')) 7 [.ref 29, .int (nI p)] [] G0 M2 := by
    intro k
    induction k with
    | zero => intro p d2 M2 hp Hw2 S2 hF ht1 ht2 hk; exact absurd hk (Nat.not_lt_zero _)
    | succ k ih =>
      intro p d2 M2 hp Hw2 S2 hF ht1 ht2 hk
      have F2 : Sf w h mp d2 hd wy vt := ⟨Hw2, F.2.1, F.2.2⟩
      refine PW.ige rfl trivial (fun h10 => ?_) (fun h10 => ?_)
      · skip
        rw [show (40 : Int32) = nI 40 from rfl, nI_leI (by omega) (by omega)] at h10
        have e9 : p = 40 := by omega
        subst e9
        have hend : 40 = tot.1 ∧ d2 = tot.2 := ⟨ht1, ht2⟩
        refine PW.iret rfl rfl trivial ?_
        obtain ⟨e1, e2⟩ := hend
        exact ⟨by rw [← e1], by rw [← e2]; exact S2, hF⟩
      · skip
        rw [show (40 : Int32) = nI 40 from rfl, nI_leI (by omega) (by omega)] at h10
        obtain ⟨q, eq⟩ : ∃ q, 40 - p = q + 1 := ⟨39 - p, by omega⟩
        rw [eq] at ht1 ht2
        refine PW.callV rfl trivial sX8_156 rfl rfl (by decide) rfl (m_linked Hw2 S2.1 F.2.1 S2.2.1) (fun v14 M14 hq14 => ?_)
        obtain ⟨rfl, J1, hz1, hl1⟩ := hq14
        obtain ⟨S3, FM3⟩ := S2.fj J1
        refine PW.zeq rfl trivial (fun h17 => ?_) (fun h17 => ?_)
        · skip
          rw [bo_eq] at h17
          have hs : cst (hnd w (w * h) d2) (hasless (w * h) d2 (due hd wy (w * h - many mp 6 (w * h)))) (hasmore (w * h) d2 (due hd wy (w * h - many mp 6 (w * h)))) = none := by simpa using h17
          have hend : p = tot.1 ∧ d2 = tot.2 := by simp only [stl, hs] at ht1 ht2; exact ⟨by simpa using ht1, ht2⟩
          have S2 := S3
          have hF := hF.tr FM3
          refine PW.iret rfl rfl trivial ?_
          obtain ⟨e1, e2⟩ := hend
          exact ⟨by rw [← e1], by rw [← e2]; exact S2, hF⟩
        · skip
          rw [bo_ne] at h17
          have hso : ∃ s, cst (hnd w (w * h) d2) (hasless (w * h) d2 (due hd wy (w * h - many mp 6 (w * h)))) (hasmore (w * h) d2 (due hd wy (w * h - many mp 6 (w * h)))) = some s := Option.isSome_iff_exists.mp h17
          obtain ⟨s, hs⟩ := hso
          obtain ⟨hli, hch⟩ := hl1 s hs
          have hcs := cst_ism (hnd w (w * h) d2) (hasless (w * h) d2 (due hd wy (w * h - many mp 6 (w * h)))) (hasmore (w * h) d2 (due hd wy (w * h - many mp 6 (w * h))))
          rw [hs] at hcs
          have hs6 := hcs.2.1
          have hsd : dn (hnd w (w * h) d2) (hasless (w * h) d2 (due hd wy (w * h - many mp 6 (w * h)))) 7 s ≤ 6 := by have := hcs.2.2.1; simp at this; exact this.2
          have hpos := dn_pos (h := hnd w (w * h) d2) (T := hasless (w * h) d2 (due hd wy (w * h - many mp 6 (w * h)))) (F := 7) (a := s) (by decide)
          simp only [stl, hs] at ht1 ht2
          refine PW.callV rfl trivial sX8_160 rfl rfl (by decide) rfl (m_passOn F2 S3 (dn (hnd w (w * h) d2) (hasless (w * h) d2 (due hd wy (w * h - many mp 6 (w * h)))) 7 s - 1) (chn (hnd w (w * h) d2) (hasless (w * h) d2 (due hd wy (w * h - many mp 6 (w * h)))) s) (by omega) (fun i hi => (chn_ok hs6 hsd i (by omega)).1) (by rw [hli]; congr 1; omega) (fun i hi => hch i (by omega))) (fun v21 M21 hq21 => ?_)
          obtain ⟨rfl, S4, FM4⟩ := hq21
          refine PW.goto rfl trivial ?_
          rw [nI_1]
          refine ih (p + 1) _ _ (by omega) (pas_wf2 Hw2 (fun i hi => (chn_ok hs6 hsd i (by omega)).1)) S4 ((hF.tr FM3).tr FM4) ?_ ?_ (by omega)
          · rw [show 40 - (p + 1) = q by omega]; omega
          · rw [show 40 - (p + 1) = q by omega]; exact ht2
  refine PW.to 7 rfl trivial ?_
  exact loop7 41 0 dr (va_up M.1 29 (upd (M.1 29) 0 0), M.2) (by omega) F.1 S0 (th0 M (A := [])).fm (by rw [et, Nat.zero_add]) (by rw [et]) (by omega)
end M11
end
section
/-! how few votes turn it -/
def whoN (x y z : Nat) : Nat := if y < x ∧ z < x then 0 else if x < y ∧ z < y then 1 else if x < z ∧ y < z then 2 else 3
theorem whoN_le (x y z : Nat) : whoN x y z ≤ 3 := by unfold whoN; split <;> (try split) <;> (try split) <;> decide
theorem mos_who (x y z : Nat) : mos x y z = if whoN x y z = 3 then -9 else nI (whoN x y z) := by
  unfold mos whoN
  split
  · rfl
  · split
    · rfl
    · split <;> rfl
/-- the least number of votes for each end -/
def prc (vt : Nat → Nat) (a s t l e : Nat) : Option Nat := fnd (fun k => decide (whoN (vt (3 * l + a) - k) (vt (3 * l + s) + k) (vt (3 * l + t)) = e)) (vt (3 * l + a) + 1)
def tc (pr : Nat → Nat → Option Nat) (e : Nat → Nat) : Nat → Option Nat
  | 0 => some 0
  | k + 1 => match tc pr e k, pr k (e k) with
    | some a, some b => some (a + b)
    | _, _ => none
def xs (sz e : Nat → Nat) (v k : Nat) : Nat := fb_sm (fun l => if e l = v then sz l else 0) k
def cd (i l : Nat) : Nat := i / 4 ^ l % 4
def bst (pr : Nat → Nat → Option Nat) (sz : Nat → Nat) : Nat → Option Nat
  | 0 => none
  | i + 1 => match tc pr (cd i) 6 with
    | none => bst pr sz i
    | some c => if xs sz (cd i) 0 6 < xs sz (cd i) 1 6 ∧ xs sz (cd i) 2 6 < xs sz (cd i) 1 6 ∧ (match bst pr sz i with
      | none => true
      | some b => decide (c < b)) = true then some c else bst pr sz i
def op (o : Option Nat) : Int32 := match o with
  | none => nI 1000000000
  | some k => nI k
def IsG (p : Nat → Bool) (N lo : Nat) (o : Option Nat) : Prop := match o with
  | none => ∀ j, lo ≤ j → j < N → p j = false
  | some b => lo ≤ b ∧ b < N ∧ p b = true ∧ ∀ j, lo ≤ j → j < b → p j = false
theorem IsG.step {p : Nat → Bool} {N lo : Nat} {o : Option Nat} (h : IsG p N (lo + 1) o) (hl : lo < N) : IsG p N lo (if p lo = true then some lo else o) := by
  split
  · rename_i q
    exact ⟨Nat.le_refl _, hl, q, fun j h1 h2 => by omega⟩
  · rename_i q
    cases o with
    | none =>
      intro j h1 h2
      rcases Nat.eq_or_lt_of_le h1 with z | z
      · subst z; simpa using q
      · exact h j (by omega) h2
    | some b =>
      refine ⟨by have := h.1; omega, h.2.1, h.2.2.1, fun j h1 h2 => ?_⟩
      rcases Nat.eq_or_lt_of_le h1 with z | z
      · subst z; simpa using q
      · exact h.2.2.2 j (by omega) h2
theorem IsG.fnd {p : Nat → Bool} {N : Nat} {o : Option Nat} (h : IsG p N 0 o) : fnd p N = o := by
  cases o with
  | none => exact fnd_none.mpr (fun j hj => h j (Nat.zero_le _) hj)
  | some b => exact fnd_some.mpr ⟨h.2.1, h.2.2.1, fun j hj => h.2.2.2 j (Nat.zero_le _) hj⟩
theorem cd_lt (i l : Nat) : cd i l < 4 := Nat.mod_lt _ (by decide)
theorem cd_num {i l : Nat} (hi : i < 4096) (hl : l < 6) : (nI i >>> ((2 : Int32) * nI l &&& 31)) &&& 3 = nI (cd i l) := by
  have h1 : ∀ l, l < 6 → (((2 : Int32) * nI l &&& 31).toBitVec.smod 32).toNat = 2 * l := by decide +kernel
  rw [pk_shrN (by omega) _ (2 * l) (h1 l hl), pk_andN (Nat.lt_of_le_of_lt (Nat.div_le_self _ _) (by omega)) 2 (by decide)]
  unfold cd
  rw [show (4 : Nat) ^ l = 2 ^ (2 * l) from by rw [Nat.pow_mul]]
theorem tc_le {pr : Nat → Nat → Option Nat} {e : Nat → Nat} (hp : ∀ l x k, pr l x = some k → k ≤ 999) : ∀ {k c : Nat}, tc pr e k = some c → c ≤ 999 * k
  | 0, c, h => by simp [tc] at h; omega
  | k + 1, c, h => by
    simp only [tc] at h
    cases e1 : tc pr e k with
    | none => rw [e1] at h; simp at h
    | some a =>
      cases e2 : pr k (e k) with
      | none => rw [e1, e2] at h; simp at h
      | some b =>
        rw [e1, e2] at h
        simp at h
        have := tc_le hp e1
        have := hp _ _ _ e2
        omega
theorem bst_le {pr : Nat → Nat → Option Nat} {sz : Nat → Nat} (hp : ∀ l x k, pr l x = some k → k ≤ 999) : ∀ {i c : Nat}, bst pr sz i = some c → c ≤ 5994
  | 0, c, h => by simp [bst] at h
  | i + 1, c, h => by
    simp only [bst] at h
    cases e1 : tc pr (cd i) 6 with
    | none => rw [e1] at h; exact bst_le hp h
    | some a =>
      rw [e1] at h
      dsimp only at h
      have key : ∀ (P : Prop) (_ : Decidable P), (if P then some a else bst pr sz i) = some c → c ≤ 5994 := fun P _ h => by
        by_cases q : P
        · rw [if_pos q] at h; cases h; exact tc_le hp e1
        · rw [if_neg q] at h; exact bst_le hp h
      exact key _ _ h
theorem prc_le {vt : Nat → Nat} (hv : ∀ k, vt k ≤ 999) {a s t l e k : Nat} (h : prc vt a s t l e = some k) : k ≤ 999 := by
  have := (fnd_some.mp h).1
  have := hv (3 * l + a)
  omega
theorem xs_le {n : Nat} {f e : Nat → Nat} {v : Nat} (hn : n ≤ 36) : ∀ k, xs (fun l => many f l n) e v k ≤ 36 * k
  | 0 => Nat.le_refl _
  | k + 1 => by
    have ih := xs_le (f := f) (e := e) (v := v) hn k
    have := many_le f k n
    simp only [xs, fb_sm] at ih ⊢
    split <;> omega
theorem op_eq {o : Option Nat} (h : ∀ k, o = some k → k < 1000000000) : op o = 1000000000 ↔ o = none := by
  cases o with
  | none => simp [op]; rfl
  | some k =>
    have := h k rfl
    simp only [op, reduceCtorEq, iff_false]
    rw [show (1000000000 : Int32) = nI 1000000000 from rfl, nI_eq (by omega) (by omega)]
    omega
end
section
-- made by wip/whole/mk_m12.py
section M12
variable {X : Cx} {l : Launch} {M : Mem}
theorem nn9 {n : Nat} (h : n < 2 ^ 31) : ¬ nI n = -9 := fun e => by
  have e2 := congrArg Int32.toInt e
  rw [nI_t h] at e2
  simp at e2
theorem mos_x {x y z : Nat} (h : ¬ mos x y z = -9) : ∃ a, a < 3 ∧ mos x y z = nI a := by
  rw [mos_who] at h ⊢
  by_cases q : whoN x y z = 3
  · rw [if_pos q] at h; exact absurd rfl h
  · rw [if_neg q]
    have := whoN_le x y z
    exact ⟨_, by omega, rfl⟩
theorem ldr_x (n : Nat) (mp dr vt : Nat → Nat) (b : Nat) (h : ¬ ldr n mp dr vt b = -9) : ∃ a, a < 3 ∧ ldr n mp dr vt b = nI a := mos_x h
theorem bst_no {pr : Nat → Nat → Option Nat} {sz : Nat → Nat} {i : Nat} (h : ¬ (xs sz (cd i) 0 6 < xs sz (cd i) 1 6 ∧ xs sz (cd i) 2 6 < xs sz (cd i) 1 6 ∧ ∃ c, tc pr (cd i) 6 = some c ∧ ∀ b, bst pr sz i = some b → c < b)) : bst pr sz (i + 1) = bst pr sz i := by
  rw [bst]
  cases e1 : tc pr (cd i) 6 with
  | none => rfl
  | some c =>
    dsimp only
    refine if_neg (fun q => h ⟨q.1, q.2.1, c, e1, fun b hb => ?_⟩)
    have := q.2.2
    rw [hb] at this
    simpa using this
theorem bst_yes {pr : Nat → Nat → Option Nat} {sz : Nat → Nat} {i : Nat} (h : xs sz (cd i) 0 6 < xs sz (cd i) 1 6 ∧ xs sz (cd i) 2 6 < xs sz (cd i) 1 6 ∧ ∃ c, tc pr (cd i) 6 = some c ∧ ∀ b, bst pr sz i = some b → c < b) : bst pr sz (i + 1) = tc pr (cd i) 6 := by
  obtain ⟨h1, h2, c, e1, h3⟩ := h
  rw [bst, e1]
  dsimp only
  refine if_pos ⟨h1, h2, ?_⟩
  cases e2 : bst pr sz i with
  | none => rfl
  | some b => simpa using h3 b e2
theorem op_lt {o p : Option Nat} (h1 : ∀ k, o = some k → k < 1000000000) (h2 : ∀ k, p = some k → k < 1000000000) : op o < op p ↔ ∃ c, o = some c ∧ ∀ b, p = some b → c < b := by
  cases o with
  | none =>
    cases p with
    | none => simp [op]
    | some b =>
      have := h2 b rfl
      simp only [op, reduceCtorEq, false_and, exists_false, iff_false]
      rw [nI_ltI (by omega) (by omega)]
      omega
  | some c =>
    have := h1 c rfl
    cases p with
    | none =>
      simp only [op, Option.some.injEq, reduceCtorEq, false_implies, implies_true, and_true, exists_eq', iff_true]
      rw [nI_ltI (by omega) (by omega)]
      omega
    | some b =>
      have := h2 b rfl
      simp only [op, Option.some.injEq, forall_eq', exists_eq_left']
      rw [nI_ltI (by omega) (by omega)]
theorem p_turn {w h : Nat} {mp dr hd : Nat → Nat} {wy : Nat} {vt : Nat → Nat} (F : Sf w h mp dr hd wy vt) (S : SM w h mp dr hd wy vt M) (sd : Int32) : PC X l mX8_turn 4 [.ref 29, .int sd] G0 M (fun v M' => v = some (.int (if okl 2 sd = true then (if ldr (w * h) mp dr vt 1 = -9 ∨ ldr (w * h) mp dr vt 1 = sd then -3 else ob (bst (prc vt (tn (ldr (w * h) mp dr vt 1)) (tn sd) (3 - tn (ldr (w * h) mp dr vt 1) - tn sd)) (fun x => many dr x (w * h)) 4096)) else -1)) ∧ (SM w h mp dr hd wy vt M' ∧ FM M M')) := by
  refine PC.ofW okX8_turn ?_
  have hn := F.1.n
  have S0 := (S.fj (th0 M (A := []))).1
  have loop192 : ∀ k : Nat, ∀ (i a s t : Nat) (bx : Option Nat) (M2 : Mem), a < 3 → s < 3 → t < 3 → bx = (bst (prc vt a s t) (fun x => many dr x (w * h)) 4096) → i ≤ 4096 → FJ [49] M M2 → (∀ l x, l < 6 → x < 4 → M2.1 49 (4 * l + x) = op (prc vt a s t l x)) → 4096 - i < k → PW X l mX8_turn 4 (fun v M' => v = some (.int (ob bx)) ∧ (SM w h mp dr hd wy vt M' ∧ FM M M')) 192 [.ref 29, .int (nI s), .int (nI a), .int (nI t), .int (op (bst (prc vt a s t) (fun x => many dr x (w * h)) (i))), .int (nI i), .null, .null, .null, .null, .null, .null, .null] [] G0 M2 := by
    intro k
    induction k with
    | zero => intro i a s t bx M2 ha hs2 ht2 eb hi J hp hk; exact absurd hk (Nat.not_lt_zero _)
    | succ k ih =>
      intro i a s t bx M2 ha hs2 ht2 eb hi J hp hk
      obtain ⟨S2, FM2⟩ := S.fj J
      have hb9 : ∀ i c, bst (prc vt a s t) (fun x => many dr x (w * h)) i = some c → c ≤ 5994 := fun i c q => bst_le (fun l x k => prc_le F.2.2) q
      have hc9 : ∀ j c, j ≤ 6 → tc (prc vt a s t) (cd i) j = some c → c ≤ 5994 := fun j c hj q => Nat.le_trans (tc_le (fun l x k => prc_le F.2.2) q) (by omega)
      have hx9 : ∀ v j, j ≤ 6 → xs (fun x => many dr x (w * h)) (cd i) v j ≤ 216 := fun v j hj => Nat.le_trans (xs_le hn j) (by omega)
      have join372 : ∀ j : Nat, i < 4096 → PW X l mX8_turn 4 (fun v M' => v = some (.int (ob bx)) ∧ (SM w h mp dr hd wy vt M' ∧ FM M M')) 372 [.ref 29, .int (nI s), .int (nI a), .int (nI t), .int (op (bst (prc vt a s t) (fun x => many dr x (w * h)) (i))), .int (nI i), .int (op (tc (prc vt a s t) (cd i) (6))), .int (nI (xs (fun x => many dr x (w * h)) (cd i) 0 (6))), .int (nI (xs (fun x => many dr x (w * h)) (cd i) 1 (6))), .int (nI (xs (fun x => many dr x (w * h)) (cd i) 2 (6))), .int (nI j), .null, .null] [.int (op (bst (prc vt a s t) (fun x => many dr x (w * h)) (i + 1)))] G0 M2 := by
        intro j hi6
        refine PW.goto rfl trivial ?_
        refine PW.nl [6, 7, 8, 9, 10] ?_
        rw [nI_1]
        exact ih (i + 1) a s t bx M2 ha hs2 ht2 eb (by omega) J hp (by omega)
      have loop215 : ∀ k215 : Nat, ∀ (j : Nat), i < 4096 → j ≤ 6 → 6 - j < k215 → PW X l mX8_turn 4 (fun v M' => v = some (.int (ob bx)) ∧ (SM w h mp dr hd wy vt M' ∧ FM M M')) 215 [.ref 29, .int (nI s), .int (nI a), .int (nI t), .int (op (bst (prc vt a s t) (fun x => many dr x (w * h)) (i))), .int (nI i), .int (op (tc (prc vt a s t) (cd i) (j))), .int (nI (xs (fun x => many dr x (w * h)) (cd i) 0 (j))), .int (nI (xs (fun x => many dr x (w * h)) (cd i) 1 (j))), .int (nI (xs (fun x => many dr x (w * h)) (cd i) 2 (j))), .int (nI j), .null, .null] [] G0 M2 := by
        intro k215
        induction k215 with
        | zero => intro j hi6 hj hk2; exact absurd hk2 (Nat.not_lt_zero _)
        | succ k215 ih215 =>
          intro j hi6 hj hk2
          have join335 : ∀ (j : Nat), i < 4096 → j < 6 → 6 - j < k215 + 1 → PW X l mX8_turn 4 (fun v M' => v = some (.int (ob bx)) ∧ (SM w h mp dr hd wy vt M' ∧ FM M M')) 335 [.ref 29, .int (nI s), .int (nI a), .int (nI t), .int (op (bst (prc vt a s t) (fun x => many dr x (w * h)) (i))), .int (nI i), .int (op (tc (prc vt a s t) (cd i) (j + 1))), .int (nI (xs (fun x => many dr x (w * h)) (cd i) 0 (j + 1))), .int (nI (xs (fun x => many dr x (w * h)) (cd i) 1 (j + 1))), .int (nI (xs (fun x => many dr x (w * h)) (cd i) 2 (j))), .int (nI j), .int (nI (cd i j)), .int (nI (many dr j (w * h)))] [.int (nI (if cd i j = 2 then many dr j (w * h) else 0)), .int (nI (xs (fun x => many dr x (w * h)) (cd i) 2 (j)))] G0 M2 := by
            intro j hi6 hj hk2
            refine PW.goto rfl trivial ?_
            refine PW.nl [11, 12] ?_
            refine PW.lc ?_ (ih215 (j + 1) hi6 (by omega) (by omega))
            rw [nI_add, nI_1]; rfl
          have join318 : ∀ (j : Nat), i < 4096 → j < 6 → 6 - j < k215 + 1 → PW X l mX8_turn 4 (fun v M' => v = some (.int (ob bx)) ∧ (SM w h mp dr hd wy vt M' ∧ FM M M')) 318 [.ref 29, .int (nI s), .int (nI a), .int (nI t), .int (op (bst (prc vt a s t) (fun x => many dr x (w * h)) (i))), .int (nI i), .int (op (tc (prc vt a s t) (cd i) (j + 1))), .int (nI (xs (fun x => many dr x (w * h)) (cd i) 0 (j + 1))), .int (nI (xs (fun x => many dr x (w * h)) (cd i) 1 (j))), .int (nI (xs (fun x => many dr x (w * h)) (cd i) 2 (j))), .int (nI j), .int (nI (cd i j)), .int (nI (many dr j (w * h)))] [.int (nI (if cd i j = 1 then many dr j (w * h) else 0)), .int (nI (xs (fun x => many dr x (w * h)) (cd i) 1 (j)))] G0 M2 := by
            intro j hi6 hj hk2
            refine PW.ine rfl trivial (fun h326 => ?_) (fun h326 => ?_)
            · skip
              rw [show (2 : Int32) = nI 2 from rfl, nI_eq (by have := cd_lt i j; omega) (by omega)] at h326
              refine PW.to 335 rfl trivial ?_
              refine PW.lcs ?_ ?_ (join335 j hi6 hj hk2)
              · rw [nI_add]; rfl
              · rw [if_neg h326]; rfl
            · skip
              rw [show (2 : Int32) = nI 2 from rfl, nI_eq (by have := cd_lt i j; omega) (by omega)] at h326
              refine PW.goto rfl trivial ?_
              refine PW.lcs ?_ ?_ (join335 j hi6 hj hk2)
              · rw [nI_add]; rfl
              · rw [if_pos h326]
          have join301 : ∀ (j : Nat), i < 4096 → j < 6 → 6 - j < k215 + 1 → PW X l mX8_turn 4 (fun v M' => v = some (.int (ob bx)) ∧ (SM w h mp dr hd wy vt M' ∧ FM M M')) 301 [.ref 29, .int (nI s), .int (nI a), .int (nI t), .int (op (bst (prc vt a s t) (fun x => many dr x (w * h)) (i))), .int (nI i), .int (op (tc (prc vt a s t) (cd i) (j + 1))), .int (nI (xs (fun x => many dr x (w * h)) (cd i) 0 (j))), .int (nI (xs (fun x => many dr x (w * h)) (cd i) 1 (j))), .int (nI (xs (fun x => many dr x (w * h)) (cd i) 2 (j))), .int (nI j), .int (nI (cd i j)), .int (nI (many dr j (w * h)))] [.int (nI (if cd i j = 0 then many dr j (w * h) else 0)), .int (nI (xs (fun x => many dr x (w * h)) (cd i) 0 (j)))] G0 M2 := by
            intro j hi6 hj hk2
            skip
            refine PW.ine rfl trivial (fun h309 => ?_) (fun h309 => ?_)
            · skip
              rw [show (1 : Int32) = nI 1 from rfl, nI_eq (by have := cd_lt i j; omega) (by omega)] at h309
              refine PW.to 318 rfl trivial ?_
              refine PW.lcs ?_ ?_ (join318 j hi6 hj hk2)
              · rw [nI_add]; rfl
              · rw [if_neg h309]; rfl
            · skip
              rw [show (1 : Int32) = nI 1 from rfl, nI_eq (by have := cd_lt i j; omega) (by omega)] at h309
              refine PW.goto rfl trivial ?_
              refine PW.lcs ?_ ?_ (join318 j hi6 hj hk2)
              · rw [nI_add]; rfl
              · rw [if_pos h309]
          have join286 : ∀ (j : Nat), i < 4096 → j < 6 → 6 - j < k215 + 1 → PW X l mX8_turn 4 (fun v M' => v = some (.int (ob bx)) ∧ (SM w h mp dr hd wy vt M' ∧ FM M M')) 286 [.ref 29, .int (nI s), .int (nI a), .int (nI t), .int (op (bst (prc vt a s t) (fun x => many dr x (w * h)) (i))), .int (nI i), .int (op (tc (prc vt a s t) (cd i) (j))), .int (nI (xs (fun x => many dr x (w * h)) (cd i) 0 (j))), .int (nI (xs (fun x => many dr x (w * h)) (cd i) 1 (j))), .int (nI (xs (fun x => many dr x (w * h)) (cd i) 2 (j))), .int (nI j), .int (nI (cd i j)), .int (nI (many dr j (w * h)))] [.int (op (tc (prc vt a s t) (cd i) (j + 1)))] G0 M2 := by
            intro j hi6 hj hk2
            refine PW.zne rfl trivial (fun h292 => ?_) (fun h292 => ?_)
            · skip
              rw [show (0 : Int32) = nI 0 from rfl, nI_eq (by have := cd_lt i j; omega) (by omega)] at h292
              refine PW.to 301 rfl trivial ?_
              refine PW.lcs ?_ ?_ (join301 j hi6 hj hk2)
              · rfl
              · rw [if_neg h292]; rfl
            · skip
              rw [show (0 : Int32) = nI 0 from rfl, nI_eq (by have := cd_lt i j; omega) (by omega)] at h292
              refine PW.goto rfl trivial ?_
              refine PW.lcs ?_ ?_ (join301 j hi6 hj hk2)
              · rfl
              · rw [if_pos h292]
          refine PW.ige rfl trivial (fun h219 => ?_) (fun h219 => ?_)
          · skip
            rw [i6 (by omega)] at h219
            have e9 : j = 6 := by omega
            subst e9
            refine PW.ile rfl trivial (fun h348 => ?_) (fun h348 => ?_)
            · skip
              rw [nI_leI (by have := hx9 1 6 (by omega); omega) (by have := hx9 0 6 (by omega); omega)] at h348
              have hB : bst (prc vt a s t) (fun x => many dr x (w * h)) (i + 1) = bst (prc vt a s t) (fun x => many dr x (w * h)) i := bst_no (fun q => absurd q.1 (by omega))
              refine PW.to 372 rfl trivial ?_
              refine PW.lcs ?_ ?_ (join372 6 hi6)
              · rfl
              · rw [hB]
            · skip
              rw [nI_leI (by have := hx9 1 6 (by omega); omega) (by have := hx9 0 6 (by omega); omega)] at h348
              refine PW.ile rfl trivial (fun h355 => ?_) (fun h355 => ?_)
              · skip
                rw [nI_leI (by have := hx9 1 6 (by omega); omega) (by have := hx9 2 6 (by omega); omega)] at h355
                have hB : bst (prc vt a s t) (fun x => many dr x (w * h)) (i + 1) = bst (prc vt a s t) (fun x => many dr x (w * h)) i := bst_no (fun q => absurd q.2.1 (by omega))
                refine PW.to 372 rfl trivial ?_
                refine PW.lcs ?_ ?_ (join372 6 hi6)
                · rfl
                · rw [hB]
              · skip
                rw [nI_leI (by have := hx9 1 6 (by omega); omega) (by have := hx9 2 6 (by omega); omega)] at h355
                refine PW.ige rfl trivial (fun h362 => ?_) (fun h362 => ?_)
                · skip
                  have hB : bst (prc vt a s t) (fun x => many dr x (w * h)) (i + 1) = bst (prc vt a s t) (fun x => many dr x (w * h)) i := bst_no (fun q => absurd ((op_lt (fun k q => by have := hc9 6 k (by omega) q; omega) (fun k q => by have := hb9 i k q; omega)).mpr q.2.2) (Int32.not_lt.mpr h362))
                  refine PW.to 372 rfl trivial ?_
                  refine PW.lcs ?_ ?_ (join372 6 hi6)
                  · rfl
                  · rw [hB]
                · skip
                  have hB : bst (prc vt a s t) (fun x => many dr x (w * h)) (i + 1) = tc (prc vt a s t) (cd i) 6 := bst_yes ⟨by omega, by omega, (op_lt (fun k q => by have := hc9 6 k (by omega) q; omega) (fun k q => by have := hb9 i k q; omega)).mp (Int32.not_le.mp h362)⟩
                  refine PW.goto rfl trivial ?_
                  refine PW.lcs ?_ ?_ (join372 6 hi6)
                  · rfl
                  · rw [hB]
          · skip
            rw [i6 (by omega)] at h219
            refine PW.funV rfl trivial sX8_106 rfl rfl (by decide) rfl (m_manyOf 1 j (by omega) F.1 S2.1) ?_
            rw [show sl 1 mp dr = dr from rfl, cd_num (by omega) (by omega)]
            have hcd := cd_lt i j
            have e4 : (4 : Int32) * nI j + nI (cd i j) = nI (4 * j + cd i j) := by rw [show (4 : Int32) = nI 4 from rfl, pk_mul, nI_add]
            have ep : M2.1 49 (4 * j + cd i j) = op (prc vt a s t j (cd i j)) := hp j (cd i j) (by omega) hcd
            refine PW.ieq rfl trivial (fun h246 => ?_) (fun h246 => ?_)
            · skip
              rw [op_eq (fun k q => by have := hc9 j k hj q; omega)] at h246
              have hN : tc (prc vt a s t) (cd i) (j + 1) = none := by simp only [tc, h246]
              refine PW.goto rfl trivial ?_
              refine PW.lcs ?_ ?_ (join286 j hi6 (by omega) hk2)
              · rfl
              · rw [hN]; rfl
            · skip
              rw [op_eq (fun k q => by have := hc9 j k hj q; omega)] at h246
              obtain ⟨c1, ec1⟩ := Option.ne_none_iff_exists'.mp h246
              refine PW.ine rfl ⟨trivial, (by rw [e4]; exact vp_in_nI (by omega) (by decide))⟩ (fun h263 => ?_) (fun h263 => ?_)
              · skip
                rw [e4, nI_clamp (by omega), ep, op_eq (fun k q => by have := prc_le F.2.2 q; omega)] at h263
                obtain ⟨c2, ec2⟩ := Option.ne_none_iff_exists'.mp h263
                have hN : tc (prc vt a s t) (cd i) (j + 1) = some (c1 + c2) := by simp only [tc, ec1, ec2]
                refine PW.to 286 rfl ⟨trivial, (by rw [e4]; exact vp_in_nI (by omega) (by decide))⟩ ?_
                rw [e4, nI_clamp (by omega), ep]
                exact PW.lcs rfl (by rw [hN, ec1, ec2]; show [Value.int (nI c1 + nI c2)] = _; rw [nI_add]; rfl) (join286 j hi6 (by omega) hk2)
              · skip
                rw [e4, nI_clamp (by omega), ep, op_eq (fun k q => by have := prc_le F.2.2 q; omega)] at h263
                have hN : tc (prc vt a s t) (cd i) (j + 1) = none := by simp only [tc, ec1, h263]
                refine PW.goto rfl trivial ?_
                refine PW.lcs ?_ ?_ (join286 j hi6 (by omega) hk2)
                · rfl
                · rw [hN]; rfl
      refine PW.ige rfl trivial (fun h197 => ?_) (fun h197 => ?_)
      · skip
        rw [show (4096 : Int32) = nI 4096 from rfl, nI_leI (by omega) (by omega)] at h197
        have e9 : i = 4096 := by omega
        rw [e9, ← eb]
        have hb9 : ∀ k, bx = some k → k ≤ 5994 := fun k q => hb9 4096 k (by rw [← eb]; exact q)
        refine PW.ine rfl trivial (fun h384 => ?_) (fun h384 => ?_)
        · skip
          rw [op_eq (fun k q => by have := hb9 k q; omega)] at h384
          obtain ⟨c, ec⟩ := Option.ne_none_iff_exists'.mp h384
          refine PW.iret rfl rfl trivial ?_
          first | exact ⟨by rw [ec]; rfl, S2, FM2⟩ | exact ⟨by rw [h384]; rfl, S2, FM2⟩
        · skip
          rw [op_eq (fun k q => by have := hb9 k q; omega)] at h384
          refine PW.goto rfl trivial ?_
          refine PW.iret rfl rfl trivial ?_
          first | exact ⟨by rw [ec]; rfl, S2, FM2⟩ | exact ⟨by rw [h384]; rfl, S2, FM2⟩
      · skip
        rw [show (4096 : Int32) = nI 4096 from rfl, nI_leI (by omega) (by omega)] at h197
        refine PW.to 215 rfl trivial ?_
        exact loop215 7 0 (by omega) (by omega) (by omega)
  have loop43 : ∀ k : Nat, ∀ (i a s t : Nat) (bx : Option Nat) (M2 : Mem), a < 3 → s < 3 → t < 3 → bx = (bst (prc vt a s t) (fun x => many dr x (w * h)) 4096) → i ≤ 6 → FJ [49] M M2 → (∀ l x, l < i → x < 4 → M2.1 49 (4 * l + x) = op (prc vt a s t l x)) → 6 - i < k → PW X l mX8_turn 4 (fun v M' => v = some (.int (ob bx)) ∧ (SM w h mp dr hd wy vt M' ∧ FM M M')) 43 [.ref 29, .int (nI s), .int (nI a), .int (nI t), .int (nI i), .null, .null, .null, .null, .null, .null, .null, .null] [] G0 M2 := by
    intro k
    induction k with
    | zero => intro i a s t bx M2 ha hs2 ht2 eb hi J hp hk; exact absurd hk (Nat.not_lt_zero _)
    | succ k ih =>
      intro i a s t bx M2 ha hs2 ht2 eb hi J hp hk
      obtain ⟨S2, FM2⟩ := S.fj J
      have va := F.2.2 (3 * i + a)
      have loop96 : ∀ k96 : Nat, ∀ (k : Nat) (o : Nat → Option Nat) (M3 : Mem), i < 6 → k ≤ vt (3 * i + a) + 1 → FJ [49] M M3 → (∀ l x, l < i → x < 4 → M3.1 49 (4 * l + x) = op (prc vt a s t l x)) → (∀ y, y < 4 → M3.1 49 (4 * i + y) = op (o y)) → (∀ y, y < 4 → IsG (fun k => decide (whoN (vt (3 * i + a) - k) (vt (3 * i + s) + k) (vt (3 * i + t)) = y)) (vt (3 * i + a) + 1) k (o y)) → k < k96 → PW X l mX8_turn 4 (fun v M' => v = some (.int (ob bx)) ∧ (SM w h mp dr hd wy vt M' ∧ FM M M')) 96 [.ref 29, .int (nI s), .int (nI a), .int (nI t), .int (nI i), .int (nI (vt (3 * i + a))), .int (nI k - 1), .null, .null, .null, .null, .null, .null] [] G0 M3 := by
        intro k96
        induction k96 with
        | zero => intro k o M3 hi6 hkm J3 hp3 hy hG hk3; exact absurd hk3 (Nat.not_lt_zero _)
        | succ k96 ih96 =>
          intro k o M3 hi6 hkm J3 hp3 hy hG hk3
          obtain ⟨S3, FM3⟩ := S.fj J3
          have vs := F.2.2 (3 * i + s)
          have vtt := F.2.2 (3 * i + t)
          have e1 : (3 : Int32) * nI i + nI s = nI (3 * i + s) := by rw [show (3 : Int32) = nI 3 from rfl, pk_mul, nI_add]
          have e2 : (3 : Int32) * nI i + nI t = nI (3 * i + t) := by rw [show (3 : Int32) = nI 3 from rfl, pk_mul, nI_add]
          refine PW.zlt rfl trivial (fun h98 => ?_) (fun h98 => ?_)
          · skip
            have e0 : k = 0 := by
              rcases Nat.eq_zero_or_pos k with z | z
              · exact z
              · rw [nI_m1 z] at h98; exact absurd h98 (nI_pos (by omega))
            subst e0
            refine PW.goto rfl trivial ?_
            rw [nI_1]
            refine PW.nl [5, 6] ?_
            refine ih (i + 1) a s t bx M3 ha hs2 ht2 eb (by omega) J3 (fun l x h1 h2 => ?_) (by omega)
            by_cases q : l = i
            · subst q; rw [hy x h2]; congr 1; exact ((hG x h2).fnd).symm
            · exact hp3 l x (by omega) h2
          · skip
            have hk0 : 0 < k := by
              rcases Nat.eq_zero_or_pos k with z | z
              · subst z; exact absurd (by decide) h98
              · exact z
            obtain ⟨k, rfl⟩ : ∃ j, k = j + 1 := ⟨k - 1, by omega⟩
            rw [nI_m1 (by omega), Nat.add_sub_cancel]
            refine PW.funS rfl ⟨⟨trivial, (by rw [e1]; exact vp_in_nI (by omega) (by decide))⟩, (by rw [e2]; exact vp_in_nI (by omega) (by decide))⟩ sX8_184 rfl (by decide) rfl (show PF X l mX8_most 0 [.int (nI (vt (3 * i + a)) - nI k), .int (M3.1 48 ((3 : Int32) * nI i + nI s).toNatClampNeg + nI k), .int (M3.1 48 ((3 : Int32) * nI i + nI t).toNatClampNeg)] G0 M3 (.int (mos (vt (3 * i + a) - k) (vt (3 * i + s) + k) (vt (3 * i + t)))) from by rw [e1, e2, nI_clamp (by omega), nI_clamp (by omega), S3.2.2 _ (by omega), S3.2.2 _ (by omega), pk_sub (by omega), nI_add]; exact m_most _ _ _ (by omega) (by omega) (by omega)) ?_
            obtain ⟨wn, ewn⟩ : ∃ wn, wn = whoN (vt (3 * i + a) - k) (vt (3 * i + s) + k) (vt (3 * i + t)) := ⟨_, rfl⟩
            have hw3 : wn ≤ 3 := by rw [ewn]; exact whoN_le _ _ _
            rw [mos_who, ← ewn]
            refine PW.ine rfl trivial (fun h160 => ?_) (fun h160 => ?_)
            · skip
              have hw9 : ¬ wn = 3 := fun q => h160 (if_pos q)
              rw [if_neg hw9]
              have e6 : (4 : Int32) * nI i + nI wn = nI (4 * i + wn) := by rw [show (4 : Int32) = nI 4 from rfl, pk_mul, nI_add]
              refine PW.goto rfl ⟨trivial, (by rw [e6]; exact vp_in_nI (by omega) (by decide))⟩ ?_
              rw [e6, nI_clamp (by omega), ← Int32.sub_eq_add_neg]
              refine PW.nl [7, 8, 9, 10] ?_
              refine ih96 k (fun y => if y = wn then some k else o y) _ hi6 (by omega) (J3.put (by decide)) (fun l y h1 h2 => (up_n (by omega)).trans (hp3 l y h1 h2)) (fun y h1 => ?_) (fun y h1 => ?_) (by omega)
              · by_cases q : y = wn
                · subst q; rw [up_s, if_pos rfl]; rfl
                · rw [if_neg q]; exact (up_n (by omega)).trans (hy y h1)
              · have := (hG y h1).step (by omega)
                by_cases q : y = wn
                · rw [if_pos (by rw [← ewn]; simp [q])] at this; rw [if_pos q]; exact this
                · rw [if_neg (by rw [← ewn]; simp; exact fun z => q z.symm)] at this; rw [if_neg q]; exact this
            · skip
              have hw9 : wn = 3 := by
                by_cases q : wn = 3
                · exact q
                · rw [if_neg q] at h160; exact absurd h160 (nn9 (by omega))
              have e6 : (4 : Int32) * nI i + 3 = nI (4 * i + wn) := by rw [hw9, show (4 : Int32) = nI 4 from rfl, show (3 : Int32) = nI 3 from rfl, pk_mul, nI_add]
              refine PW.goto rfl trivial ?_
              refine PW.goto rfl ⟨trivial, (by rw [e6]; exact vp_in_nI (by omega) (by decide))⟩ ?_
              rw [e6, nI_clamp (by omega), ← Int32.sub_eq_add_neg]
              refine PW.nl [7, 8, 9, 10] ?_
              refine ih96 k (fun y => if y = wn then some k else o y) _ hi6 (by omega) (J3.put (by decide)) (fun l y h1 h2 => (up_n (by omega)).trans (hp3 l y h1 h2)) (fun y h1 => ?_) (fun y h1 => ?_) (by omega)
              · by_cases q : y = wn
                · subst q; rw [up_s, if_pos rfl]; rfl
                · rw [if_neg q]; exact (up_n (by omega)).trans (hy y h1)
              · have := (hG y h1).step (by omega)
                by_cases q : y = wn
                · rw [if_pos (by rw [← ewn]; simp [q])] at this; rw [if_pos q]; exact this
                · rw [if_neg (by rw [← ewn]; simp; exact fun z => q z.symm)] at this; rw [if_neg q]; exact this
      have loop53 : ∀ k53 : Nat, ∀ (x : Nat) (M3 : Mem), i < 6 → x ≤ 4 → FJ [49] M M3 → (∀ l x, l < i → x < 4 → M3.1 49 (4 * l + x) = op (prc vt a s t l x)) → (∀ y, y < x → M3.1 49 (4 * i + y) = op none) → 4 - x < k53 → PW X l mX8_turn 4 (fun v M' => v = some (.int (ob bx)) ∧ (SM w h mp dr hd wy vt M' ∧ FM M M')) 53 [.ref 29, .int (nI s), .int (nI a), .int (nI t), .int (nI i), .int (nI x), .null, .null, .null, .null, .null, .null, .null] [] G0 M3 := by
        intro k53
        induction k53 with
        | zero => intro x M3 hi6 hx J3 hp3 hy hk3; exact absurd hk3 (Nat.not_lt_zero _)
        | succ k53 ih53 =>
          intro x M3 hi6 hx J3 hp3 hy hk3
          obtain ⟨S3, FM3⟩ := S.fj J3
          have e3 : (3 : Int32) * nI i + nI a = nI (3 * i + a) := by rw [show (3 : Int32) = nI 3 from rfl, pk_mul, nI_add]
          refine PW.ige rfl trivial (fun h56 => ?_) (fun h56 => ?_)
          · skip
            rw [show (4 : Int32) = nI 4 from rfl, nI_leI (by omega) (by omega)] at h56
            have e9 : x = 4 := by omega
            subst e9
            refine PW.to 96 rfl ⟨trivial, (by rw [e3]; exact vp_in_nI (by omega) (by decide))⟩ ?_
            rw [e3, nI_clamp (by omega), S3.2.2 _ (by omega)]
            refine PW.lc ?_ (loop96 (vt (3 * i + a) + 2) (vt (3 * i + a) + 1) (fun _ => none) M3 hi6 (Nat.le_refl _) J3 hp3 hy (fun x _ j h1 h2 => absurd h2 (by omega)) (by omega))
            rw [nI_m1 (by omega), Nat.add_sub_cancel]
          · skip
            rw [show (4 : Int32) = nI 4 from rfl, nI_leI (by omega) (by omega)] at h56
            have e4 : (4 : Int32) * nI i + nI x = nI (4 * i + x) := by rw [show (4 : Int32) = nI 4 from rfl, pk_mul, nI_add]
            refine PW.goto rfl ⟨trivial, (by rw [e4]; exact vp_in_nI (by omega) (by decide))⟩ ?_
            rw [e4, nI_clamp (by omega), nI_1]
            refine ih53 (x + 1) _ hi6 (by omega) (J3.put (by decide)) (fun l y h1 h2 => (up_n (by omega)).trans (hp3 l y h1 h2)) (fun y h1 => ?_) (by omega)
            by_cases q : y = x
            · subst q; exact up_s
            · exact (up_n (by omega)).trans (hy y (by omega))
      refine PW.ige rfl trivial (fun h47 => ?_) (fun h47 => ?_)
      · skip
        rw [i6 (by omega)] at h47
        have e9 : i = 6 := by omega
        subst e9
        refine PW.to 192 rfl trivial ?_
        refine PW.nl [6, 7, 8, 9, 10, 11, 12] ?_
        exact loop192 4097 0 a s t bx M2 ha hs2 ht2 eb (by omega) J (fun l x h1 h2 => hp l x h1 h2) (by omega)
      · skip
        rw [i6 (by omega)] at h47
        refine PW.to 53 rfl trivial ?_
        exact loop53 5 0 M2 (by omega) (by omega) J hp (fun x hx => absurd hx (Nat.not_lt_zero x)) (by omega)
  refine PW.funS rfl trivial sX8_181 rfl (by decide) rfl (m_noSide _) ?_
  refine PW.zeq rfl trivial (fun h9 => ?_) (fun h9 => ?_)
  · skip
    rw [bn_eq] at h9
    change okl 2 sd = true at h9
    obtain ⟨s, hs, rfl⟩ := okl_x (m := 2) h9
    refine PW.funV rfl trivial sX8_194 rfl rfl (by decide) rfl (m_leader F S0 1 (by omega)) ?_
    refine PW.ieq rfl trivial (fun h23 => ?_) (fun h23 => ?_)
    · skip
      skip
      refine PW.iret rfl rfl trivial ?_
      first | exact ⟨by rw [if_t h9, if_pos (Or.inl h23)], S.fj (th0 M (A := []))⟩ | exact ⟨by rw [if_t h9, if_pos (Or.inr h28)], S.fj (th0 M (A := []))⟩
    · skip
      refine PW.ine rfl trivial (fun h28 => ?_) (fun h28 => ?_)
      · skip
        refine PW.to 43 rfl trivial ?_
        obtain ⟨a, ha, ea⟩ := ldr_x (w * h) mp dr vt 1 h23
        rw [ea] at h28
        have hne : ¬ a = s := fun q => h28 (by rw [q])
        refine PW.post (Q' := (fun v M' => v = some (.int (ob (bst (prc vt a s (3 - a - s)) (fun x => many dr x (w * h)) 4096))) ∧ (SM w h mp dr hd wy vt M' ∧ FM M M'))) (fun v M2 q => ?_) ?_
        · rw [if_t h9, ea, tn_nI (by omega), tn_nI (by omega), if_neg (fun z => z.elim (fun z => absurd z (nn9 (by omega))) h28)]; exact q
        · obtain ⟨bx, eb⟩ : ∃ b, b = bst (prc vt a s (3 - a - s)) (fun x => many dr x (w * h)) 4096 := ⟨_, rfl⟩
          rw [← eb]
          refine PW.lc ?_ (loop43 7 0 a s (3 - a - s) bx (va_up M.1 29 (upd (M.1 29) 0 0), M.2) ha (by omega) (by omega) eb (by omega) (th0 M) (fun l x h1 => absurd h1 (Nat.not_lt_zero l)) (by omega))
          rw [ea, show (3 : Int32) = nI 3 from rfl, pk_sub (by omega), pk_sub (by omega)]; rfl
      · skip
        refine PW.iret rfl rfl trivial ?_
        first | exact ⟨by rw [if_t h9, if_pos (Or.inl h23)], S.fj (th0 M (A := []))⟩ | exact ⟨by rw [if_t h9, if_pos (Or.inr h28)], S.fj (th0 M (A := []))⟩
  · skip
    rw [bn_ne] at h9
    change okl 2 sd = false at h9
    refine PW.iret rfl rfl trivial ?_
    exact ⟨by rw [if_f h9], S.fj (th0 M (A := []))⟩
end M12
end
section
/-! the cheapest placing: what prices keep, for both sides -/
def Tr (c : Nat → Nat → Int) (m R : Nat) (u v : Nat → Int) (p : Nat → Nat) : Prop :=
  p 0 = R ∧ 1 ≤ R ∧ R ≤ m ∧ (∀ j, 1 ≤ j → j ≤ m → p j < R) ∧ (∀ j k, j ≤ m → k ≤ m → p j = p k → p j ≠ 0 → j = k) ∧ (∀ i, 1 ≤ i → i ≤ R → ∃ j, j ≤ m ∧ p j = i) ∧ (∀ i j, 1 ≤ i → i ≤ R → 1 ≤ j → j ≤ m → u i + v j ≤ c i j) ∧ (∀ j, 1 ≤ j → j ≤ m → p j ≠ 0 → u (p j) + v j = c (p j) j) ∧ (∀ j, 1 ≤ j → j ≤ m → v j ≤ 0) ∧ (∀ j, 1 ≤ j → j ≤ m → p j = 0 → v j = 0) ∧ (∀ i, 0 ≤ u i) ∧ ∀ i, R < i → u i = 0
def Hg (c : Nat → Nat → Int) (m R : Nat) (u v : Nat → Int) (p : Nat → Nat) : Prop :=
  (∀ j, 1 ≤ j → j ≤ m → p j ≤ R) ∧ (∀ j k, 1 ≤ j → j ≤ m → 1 ≤ k → k ≤ m → p j = p k → p j ≠ 0 → j = k) ∧ (∀ i, 1 ≤ i → i ≤ R → ∃ j, 1 ≤ j ∧ j ≤ m ∧ p j = i) ∧ (∀ i j, 1 ≤ i → i ≤ R → 1 ≤ j → j ≤ m → u i + v j ≤ c i j) ∧ (∀ j, 1 ≤ j → j ≤ m → p j ≠ 0 → u (p j) + v j = c (p j) j) ∧ (∀ j, 1 ≤ j → j ≤ m → v j ≤ 0) ∧ (∀ j, 1 ≤ j → j ≤ m → p j = 0 → v j = 0) ∧ (∀ i, 0 ≤ u i) ∧ ∀ i, R < i → u i = 0
theorem Hg.start {c : Nat → Nat → Int} {m : Nat} {u v : Nat → Int} {p : Nat → Nat} (hu : ∀ i, u i = 0) (hv : ∀ j, 1 ≤ j → j ≤ m → v j = 0) (hp : ∀ j, 1 ≤ j → j ≤ m → p j = 0) : Hg c m 0 u v p := by
  refine ⟨fun j a b => by rw [hp j a b]; exact Nat.le_refl _, fun j k a b _ _ _ q => absurd (hp j a b) q, fun i a b => by omega, fun i j a b => by omega, fun j a b q => absurd (hp j a b) q, fun j a b => by rw [hv j a b]; exact Int.le_refl _, fun j a b _ => hv j a b, fun i => by rw [hu i]; exact Int.le_refl _, fun i _ => hu i⟩
theorem Hg.tr {c : Nat → Nat → Int} {m R : Nat} {u v : Nat → Int} {p p2 : Nat → Nat} (h : Hg c m R u v p) (hc : ∀ i j, 0 ≤ c i j) (hR : R < m) (h0 : p2 0 = R + 1) (hp : ∀ j, 1 ≤ j → j ≤ m → p2 j = p j) : Tr c m (R + 1) u v p2 := by
  obtain ⟨h1, h2, h3, h4, h5, h6, h7, h8, h9⟩ := h
  refine ⟨h0, by omega, hR, fun j a b => by rw [hp j a b]; have := h1 j a b; omega, fun j k a b e q => ?_, fun i a b => ?_, fun i j a b d e => ?_, fun j a b q => ?_, h6, fun j a b q => h7 j a b (by rw [← hp j a b]; exact q), h8, fun i hi => h9 i (by omega)⟩
  · rcases Nat.eq_zero_or_pos j with z | z
    · rcases Nat.eq_zero_or_pos k with y | y
      · omega
      · rw [z, h0, hp k y b] at e; have := h1 k y b; omega
    · rcases Nat.eq_zero_or_pos k with y | y
      · rw [y, h0, hp j z a] at e; have := h1 j z a; omega
      · rw [hp j z a, hp k y b] at e; rw [hp j z a] at q; exact h2 j k z a y b e q
  · by_cases e : i = R + 1
    · exact ⟨0, by omega, by rw [h0, e]⟩
    · obtain ⟨j, d, f, g⟩ := h3 i a (by omega)
      exact ⟨j, f, by rw [hp j d f]; exact g⟩
  · by_cases f : i = R + 1
    · rw [h9 i (by omega)]; have := h6 j d e; have := hc i j; omega
    · exact h4 i j a (by omega) d e
  · rw [hp j a b] at q ⊢; exact h5 j a b q
/-- there is a free column -/
theorem Tr.free {c : Nat → Nat → Int} {m R : Nat} {u v : Nat → Int} {p : Nat → Nat} (h : Tr c m R u v p) : ∃ j, 1 ≤ j ∧ j ≤ m ∧ p j = 0 := by
  obtain ⟨h0, h1, h2, h3, h4, _⟩ := h
  apply Classical.byContradiction
  intro hn
  have hne : ∀ j, 1 ≤ j → j ≤ m → p j ≠ 0 := fun j a b q => hn ⟨j, a, b, q⟩
  have := fb_holes (R - 1) m (fun k => p (k + 1) - 1) (fun i hi => by have := h3 (i + 1) (by omega) (by omega); have := hne (i + 1) (by omega) (by omega); omega) (fun i j a b e => by
    have q1 := hne (i + 1) (by omega) (by omega)
    have q2 := hne (j + 1) (by omega) (by omega)
    have := h4 (i + 1) (j + 1) (by omega) (by omega) (by omega) q1
    omega)
  omega
theorem Tr.u_le {c : Nat → Nat → Int} {m R : Nat} {u v : Nat → Int} {p : Nat → Nat} {K : Int} (h : Tr c m R u v p) (hK : ∀ i j, c i j ≤ K) (h0 : 0 ≤ K) {i : Nat} (hi : 1 ≤ i) : u i ≤ K := by
  obtain ⟨j, a, b, e⟩ := h.free
  obtain ⟨_, _, _, _, _, _, h6, _, _, h9, _, h11⟩ := h
  by_cases q : R < i
  · rw [h11 i q]; exact h0
  · have := h6 i j hi (by omega) a b
    rw [h9 j a b e] at this
    have := hK i j
    omega
theorem Tr.v_ge {c : Nat → Nat → Int} {m R : Nat} {u v : Nat → Int} {p : Nat → Nat} {K : Int} (h : Tr c m R u v p) (hc : ∀ i j, 0 ≤ c i j) (hK : ∀ i j, c i j ≤ K) (h0 : 0 ≤ K) {j : Nat} (a : 1 ≤ j) (b : j ≤ m) : -K ≤ v j := by
  by_cases e : p j = 0
  · rw [h.2.2.2.2.2.2.2.2.2.1 j a b e]; omega
  · have h1 := h.u_le hK h0 (i := p j) (by omega)
    have h2 := h.2.2.2.2.2.2.2.1 j a b e
    have := hc (p j) j
    omega
/-- the columns reached: each by a tight way -/
def Sd (c : Nat → Nat → Int) (m : Nat) (u v : Nat → Int) (p : Nat → Nat) (us : Nat → Bool) (bf tm : Nat → Nat) (s : Nat) : Prop :=
  (∀ j, us j = true → j ≤ m ∧ p j ≠ 0 ∧ tm j < s) ∧ ∀ j, us j = true → j ≠ 0 → us (bf j) = true ∧ tm (bf j) < tm j ∧ u (p (bf j)) + v j = c (p (bf j)) j
def Hd (c : Nat → Nat → Int) (m : Nat) (u v : Nat → Int) (p : Nat → Nat) (us : Nat → Bool) (bf : Nat → Nat) (a : Nat) : Prop :=
  a ≤ m ∧ us a = false ∧ (a = 0 → ∀ j, us j = false) ∧ (a ≠ 0 → us 0 = true ∧ us (bf a) = true ∧ u (p (bf a)) + v a = c (p (bf a)) a)
def Sp (c : Nat → Nat → Int) (u v : Nat → Int) (p : Nat → Nat) (us : Nat → Bool) (bf : Nat → Nat) (sl : Nat → Int) (F : Int) (j : Nat) : Prop :=
  (∀ k, us k = true → sl j ≤ c (p k) j - u (p k) - v j) ∧ ((∃ k, us k = true) → us (bf j) = true ∧ sl j = c (p (bf j)) j - u (p (bf j)) - v j) ∧ ((∀ k, us k = false) → sl j = F)
def on1 (us : Nat → Bool) (a : Nat) : Nat → Bool := fun k => if k = a then true else us k
theorem on1_s (us : Nat → Bool) (a : Nat) : on1 us a a = true := if_pos rfl
theorem on1_n {us : Nat → Bool} {a k : Nat} (h : k ≠ a) : on1 us a k = us k := if_neg h
theorem on1_u {us : Nat → Bool} {a k : Nat} (h : us k = true) : on1 us a k = true := by unfold on1; split <;> trivial
theorem Sd.mark {c : Nat → Nat → Int} {m : Nat} {u v : Nat → Int} {p : Nat → Nat} {us : Nat → Bool} {bf tm : Nat → Nat} {s a : Nat} (h : Sd c m u v p us bf tm s) (H : Hd c m u v p us bf a) (hp : p a ≠ 0) : Sd c m u v p (on1 us a) bf (fun k => if k = a then s else tm k) (s + 1) := by
  have key : ∀ k, us k = true → k ≠ a := fun k hk e => by rw [e, H.2.1] at hk; cases hk
  refine ⟨fun j hj => ?_, fun j hj h0 => ?_⟩
  · by_cases e : j = a
    · subst e; exact ⟨H.1, hp, by simp⟩
    · rw [on1_n e] at hj
      have := h.1 j hj
      exact ⟨this.1, this.2.1, by dsimp only; rw [if_neg e]; omega⟩
  · by_cases e : j = a
    · subst e
      obtain ⟨q1, q2, q3⟩ := H.2.2.2 h0
      exact ⟨on1_u q2, by dsimp only; rw [if_pos rfl, if_neg (key _ q2)]; exact (h.1 _ q2).2.2, q3⟩
    · rw [on1_n e] at hj
      obtain ⟨q1, q2, q3⟩ := h.2 j hj h0
      exact ⟨on1_u q1, by dsimp only; rw [if_neg e, if_neg (key _ q1)]; exact q2, q3⟩
theorem Sp.look {c : Nat → Nat → Int} {u v : Nat → Int} {p : Nat → Nat} {us : Nat → Bool} {bf bf2 : Nat → Nat} {sl sl2 : Nat → Int} {F : Int} {j a : Nat} (h : Sp c u v p us bf sl F j) (h1 : c (p a) j - u (p a) - v j < F) (h2 : sl2 j = if c (p a) j - u (p a) - v j < sl j then c (p a) j - u (p a) - v j else sl j) (h3 : bf2 j = if c (p a) j - u (p a) - v j < sl j then a else bf j) : Sp c u v p (on1 us a) bf2 sl2 F j := by
  by_cases q : c (p a) j - u (p a) - v j < sl j
  · rw [if_pos q] at h2 h3
    refine ⟨fun k hk => ?_, fun _ => ⟨by rw [h3]; exact on1_s us a, by rw [h2, h3]⟩, fun hn => absurd (hn a) (by rw [on1_s]; simp)⟩
    by_cases e : k = a
    · rw [e, h2]; exact Int.le_refl _
    · rw [on1_n e] at hk; have := h.1 k hk; omega
  · rw [if_neg q] at h2 h3
    have hne : ∃ k, us k = true := by
      apply Classical.byContradiction
      intro hn
      have := h.2.2 (fun k => by cases e : us k with
        | true => exact absurd ⟨k, e⟩ hn
        | false => rfl)
      omega
    obtain ⟨q1, q2⟩ := h.2.1 hne
    refine ⟨fun k hk => ?_, fun _ => ⟨by rw [h3]; exact on1_u q1, by rw [h2, h3]; exact q2⟩, fun hn => absurd (hn a) (by rw [on1_s]; simp)⟩
    by_cases e : k = a
    · rw [e, h2]; omega
    · rw [on1_n e] at hk; have := h.1 k hk; omega
theorem Sp.cong {c : Nat → Nat → Int} {u v : Nat → Int} {p : Nat → Nat} {us : Nat → Bool} {bf bf2 : Nat → Nat} {sl sl2 : Nat → Int} {F : Int} {j : Nat} (h : Sp c u v p us bf sl F j) (h2 : sl2 j = sl j) (h3 : bf2 j = bf j) : Sp c u v p us bf2 sl2 F j := by
  unfold Sp at h ⊢; rw [h2, h3]; exact h
theorem Sd.cong {c : Nat → Nat → Int} {m : Nat} {u v : Nat → Int} {p : Nat → Nat} {us : Nat → Bool} {bf bf2 tm : Nat → Nat} {s : Nat} (h : Sd c m u v p us bf tm s) (h3 : ∀ j, us j = true → bf2 j = bf j) : Sd c m u v p us bf2 tm s :=
  ⟨h.1, fun j hj h0 => by rw [h3 j hj]; exact h.2 j hj h0⟩
/-- prices move -/
theorem Tr.move {c : Nat → Nat → Int} {m R : Nat} {u v u2 v2 : Nat → Int} {p : Nat → Nat} {us : Nat → Bool} {bf tm : Nat → Nat} {sl sl2 : Nat → Int} {s nx : Nat} {F by2 : Int} (h : Tr c m R u v p) (D : Sd c m u v p us bf tm s) (h0 : us 0 = true)
    (S : ∀ j, 1 ≤ j → j ≤ m → us j = false → Sp c u v p us bf sl F j) (n1 : 1 ≤ nx) (n2 : nx ≤ m) (n3 : us nx = false) (n4 : by2 = sl nx) (n5 : ∀ j, 1 ≤ j → j ≤ m → us j = false → by2 ≤ sl j)
    (k1 : ∀ k, us k = true → u2 (p k) = u (p k) + by2) (k2 : ∀ r, (∀ k, us k = true → p k ≠ r) → u2 r = u r) (k3 : ∀ j, 1 ≤ j → j ≤ m → v2 j = if us j = true then v j - by2 else v j) (k4 : ∀ j, 1 ≤ j → j ≤ m → us j = false → sl2 j = sl j - by2) :
    0 ≤ by2 ∧ Tr c m R u2 v2 p ∧ Sd c m u2 v2 p us bf tm s ∧ Hd c m u2 v2 p us bf nx ∧ ∀ j, 1 ≤ j → j ≤ m → us j = false → Sp c u2 v2 p us bf sl2 F j := by
  obtain ⟨t0, t1, t2, t3, t4, t5, t6, t7, t8, t9, t10, t11⟩ := h
  have row : ∀ k, us k = true → 1 ≤ p k ∧ p k ≤ R := fun k hk => by
    have := D.1 k hk
    rcases Nat.eq_zero_or_pos k with z | z
    · rw [z, t0]; omega
    · have := t3 k z this.1; omega
  have hb : 0 ≤ by2 := by
    obtain ⟨q1, q2⟩ := (S nx n1 n2 n3).2.1 ⟨0, h0⟩
    have := t6 _ nx (row _ q1).1 (row _ q1).2 n1 n2
    omega
  have cas : ∀ r, (∃ k, us k = true ∧ p k = r ∧ u2 r = u r + by2) ∨ ((∀ k, us k = true → p k ≠ r) ∧ u2 r = u r) := fun r => by
    by_cases q : ∃ k, us k = true ∧ p k = r
    · obtain ⟨k, a, b⟩ := q
      exact Or.inl ⟨k, a, b, by rw [← b]; exact k1 k a⟩
    · have : ∀ k, us k = true → p k ≠ r := fun k a b => q ⟨k, a, b⟩
      exact Or.inr ⟨this, k2 r this⟩
  have sp2 : ∀ j, 1 ≤ j → j ≤ m → us j = false → Sp c u2 v2 p us bf sl2 F j := fun j a b d => by
    have S1 := S j a b d
    have e3 := k3 j a b
    rw [if_neg (by rw [d]; simp)] at e3
    have e4 := k4 j a b d
    refine ⟨fun k hk => ?_, fun hk => ?_, fun hn => absurd h0 (by rw [hn 0]; simp)⟩
    · have := S1.1 k hk; have := k1 k hk; omega
    · obtain ⟨q1, q2⟩ := S1.2.1 hk
      have := k1 _ q1
      exact ⟨q1, by omega⟩
  refine ⟨hb, ⟨t0, t1, t2, t3, t4, t5, fun i j a b d e => ?_, fun j a b q => ?_, fun j a b => ?_, fun j a b q => ?_, fun i => ?_, fun i hi => ?_⟩, ⟨D.1, fun j hj hj0 => ?_⟩, ⟨n2, n3, fun z => by omega, fun _ => ?_⟩, sp2⟩
  · have f := t6 i j a b d e
    have e3 := k3 j d e
    rcases cas i with ⟨k, g1, g2, g3⟩ | ⟨g1, g2⟩
    · by_cases q : us j = true
      · rw [if_pos q] at e3; omega
      · rw [if_neg q] at e3
        have q : us j = false := by simpa using q
        have x1 := (S j d e q).1 k g1
        have x2 := n5 j d e q
        rw [g2] at x1
        omega
    · by_cases q : us j = true
      · rw [if_pos q] at e3; omega
      · rw [if_neg q] at e3; omega
  · have f := t7 j a b q
    have e3 := k3 j a b
    by_cases w : us j = true
    · rw [if_pos w] at e3; have := k1 j w; omega
    · rw [if_neg w] at e3
      have : u2 (p j) = u (p j) := k2 _ (fun k hk e => by
        have := t4 k j (D.1 k hk).1 b e (by rw [e]; exact q)
        rw [this] at hk; exact w hk)
      omega
  · have e3 := k3 j a b
    have := t8 j a b
    split at e3 <;> omega
  · have e3 := k3 j a b
    rw [if_neg (fun w => (D.1 j w).2.1 q)] at e3
    rw [e3]; exact t9 j a b q
  · rcases cas i with ⟨k, g1, g2, g3⟩ | ⟨g1, g2⟩
    · have := t10 i; omega
    · have := t10 i; omega
  · rw [k2 i (fun k hk e => by have := (row k hk).2; omega)]; exact t11 i hi
  · obtain ⟨q1, q2, q3⟩ := D.2 j hj hj0
    have e3 := k3 j (by omega) (D.1 j hj).1
    rw [if_pos hj] at e3
    have := k1 _ q1
    exact ⟨q1, q2, by omega⟩
  · obtain ⟨q1, q2⟩ := (sp2 nx n1 n2 n3).2.1 ⟨0, h0⟩
    have := k4 nx n1 n2 n3
    exact ⟨h0, q1, by omega⟩
/-- the way back -/
def Au (c : Nat → Nat → Int) (m R : Nat) (u v : Nat → Int) (p : Nat → Nat) (us : Nat → Bool) (bf tm : Nat → Nat) (a : Nat) : Prop :=
  a ≤ m ∧ (∀ j, j ≤ m → p j ≤ R) ∧ (∀ j k, j ≤ m → k ≤ m → j ≠ a → k ≠ a → p j = p k → p j ≠ 0 → j = k) ∧ (∀ i, 1 ≤ i → i ≤ R → ∃ j, j ≤ m ∧ j ≠ a ∧ p j = i) ∧ (∀ i j, 1 ≤ i → i ≤ R → 1 ≤ j → j ≤ m → u i + v j ≤ c i j) ∧ (∀ j, 1 ≤ j → j ≤ m → j ≠ a → p j ≠ 0 → u (p j) + v j = c (p j) j) ∧ (∀ j, 1 ≤ j → j ≤ m → v j ≤ 0) ∧ (∀ j, 1 ≤ j → j ≤ m → j ≠ a → p j = 0 → v j = 0) ∧ (∀ i, 0 ≤ u i) ∧ (∀ i, R < i → u i = 0) ∧
  (∀ j, us j = true → j ≤ m ∧ p j ≠ 0) ∧ ∀ j, (us j = true ∨ j = a) → j ≠ 0 → tm j ≤ tm a → us (bf j) = true ∧ tm (bf j) < tm j ∧ u (p (bf j)) + v j = c (p (bf j)) j
theorem Au.start {c : Nat → Nat → Int} {m R : Nat} {u v : Nat → Int} {p : Nat → Nat} {us : Nat → Bool} {bf tm : Nat → Nat} {s a : Nat} (h : Tr c m R u v p) (D : Sd c m u v p us bf tm s) (H : Hd c m u v p us bf a) (ha : a ≠ 0) (hp : p a = 0) : Au c m R u v p us bf (fun k => if k = a then s else tm k) a := by
  obtain ⟨t0, t1, t2, t3, t4, t5, t6, t7, t8, t9, t10, t11⟩ := h
  have key : ∀ k, us k = true → k ≠ a := fun k hk e => by rw [e, H.2.1] at hk; cases hk
  refine ⟨H.1, fun j hj => ?_, fun j k a1 b1 _ _ e q => t4 j k a1 b1 e q, fun i a1 b1 => ?_, t6, fun j a1 b1 _ q => t7 j a1 b1 q, t8, fun j a1 b1 _ q => t9 j a1 b1 q, t10, t11, fun j hj => ⟨(D.1 j hj).1, (D.1 j hj).2.1⟩, fun j hj h0 ht => ?_⟩
  · rcases Nat.eq_zero_or_pos j with z | z
    · rw [z, t0]; exact Nat.le_refl _
    · have := t3 j z hj; omega
  · obtain ⟨j, q1, q2⟩ := t5 i a1 b1
    exact ⟨j, q1, fun e => by rw [e, hp] at q2; omega, q2⟩
  · by_cases e : j = a
    · subst e
      obtain ⟨_, q2, q3⟩ := H.2.2.2 h0
      exact ⟨q2, by dsimp only; rw [if_pos rfl, if_neg (key _ q2)]; exact (D.1 _ q2).2.2, q3⟩
    · obtain ⟨q1, q2, q3⟩ := D.2 j (hj.resolve_right e) h0
      exact ⟨q1, by dsimp only; rw [if_neg e, if_neg (key _ q1)]; exact q2, q3⟩
theorem Au.step {c : Nat → Nat → Int} {m R : Nat} {u v : Nat → Int} {p : Nat → Nat} {us : Nat → Bool} {bf tm : Nat → Nat} {a : Nat} (h : Au c m R u v p us bf tm a) (ha : a ≠ 0) : Au c m R u v (fun k => if k = a then p (bf a) else p k) us bf tm (bf a) ∧ tm (bf a) < tm a ∧ bf a ≤ m := by
  obtain ⟨h1, h2, h3, h4, h5, h6, h7, h8, h9, h10, h11, h12⟩ := h
  obtain ⟨q1, q2, q3⟩ := h12 a (Or.inr rfl) ha (Nat.le_refl _)
  obtain ⟨r1, r2⟩ := h11 _ q1
  have hne : bf a ≠ a := fun e => by rw [e] at q2; omega
  refine ⟨⟨r1, fun j hj => ?_, fun j k a1 b1 d e f q => ?_, fun i a1 b1 => ?_, h5, fun j a1 b1 d q => ?_, h7, fun j a1 b1 d q => ?_, h9, h10, fun j hj => ⟨(h11 j hj).1, ?_⟩, fun j hj h0 ht => ?_⟩, q2, r1⟩
  · dsimp only
    split
    · exact h2 _ r1
    · exact h2 j hj
  · dsimp only at f q
    by_cases x : j = a
    · rw [if_pos x] at f q
      by_cases y : k = a
      · omega
      · rw [if_neg y] at f
        exact absurd (h3 (bf a) k r1 b1 hne y f q) (fun z => e z.symm)
    · rw [if_neg x] at f q
      by_cases y : k = a
      · rw [if_pos y] at f
        exact absurd (h3 j (bf a) a1 r1 x hne f q) d
      · rw [if_neg y] at f
        exact h3 j k a1 b1 x y f q
  · obtain ⟨j, x, y, z⟩ := h4 i a1 b1
    by_cases e : j = bf a
    · exact ⟨a, h1, fun z => hne z.symm, by dsimp only; rw [if_pos rfl, ← e]; exact z⟩
    · exact ⟨j, x, e, by dsimp only; rw [if_neg y]; exact z⟩
  · dsimp only at q ⊢
    by_cases x : j = a
    · rw [if_pos x, x]; exact q3
    · rw [if_neg x] at q ⊢; exact h6 j a1 b1 x q
  · dsimp only at q
    by_cases x : j = a
    · rw [if_pos x] at q; exact absurd q r2
    · rw [if_neg x] at q; exact h8 j a1 b1 x q
  · dsimp only
    split
    · exact r2
    · exact (h11 j hj).2
  · have hj2 : us j = true := hj.elim id (fun e => by rw [e]; exact q1)
    obtain ⟨x, y, z⟩ := h12 j (Or.inl hj2) h0 (by omega)
    exact ⟨x, y, by
      dsimp only
      rw [if_neg (fun e => by rw [e] at y; omega)]
      exact z⟩
theorem Au.done {c : Nat → Nat → Int} {m R : Nat} {u v : Nat → Int} {p : Nat → Nat} {us : Nat → Bool} {bf tm : Nat → Nat} (h : Au c m R u v p us bf tm 0) : Hg c m R u v p := by
  obtain ⟨h1, h2, h3, h4, h5, h6, h7, h8, h9, h10, h11, h12⟩ := h
  refine ⟨fun j _ b => h2 j b, fun j k a b d e f q => h3 j k b e (by omega) (by omega) f q, fun i a b => ?_, h5, fun j a b q => h6 j a b (by omega) q, h7, fun j a b q => h8 j a b (by omega) q, h9, h10⟩
  obtain ⟨j, x, y, z⟩ := h4 i a b
  exact ⟨j, by omega, x, z⟩
end
section
/-! sums over lines and columns; how far all is carried -/
theorem si_none {f : Nat → Int} : ∀ {n : Nat}, (∀ k, k < n → f k = 0) → fb_si f n = 0
  | 0, _ => rfl
  | n + 1, h => by rw [fb_si_succ, si_none (fun k hk => h k (by omega)), h n (by omega)]; rfl
theorem si_le {f g : Nat → Int} : ∀ {n : Nat}, (∀ k, k < n → f k ≤ g k) → fb_si f n ≤ fb_si g n
  | 0, _ => Int.le_refl _
  | n + 1, h => by
    rw [fb_si_succ, fb_si_succ]
    have := si_le (f := f) (g := g) (n := n) (fun k hk => h k (by omega))
    have := h n (by omega)
    omega
theorem si_ex {f : Nat → Int} {n : Nat} (h : fb_si f n ≠ 0) : ∃ k, k < n ∧ f k ≠ 0 := by
  apply Classical.byContradiction
  intro hn
  exact h (si_none (fun k hk => Classical.byContradiction (fun q => hn ⟨k, hk, q⟩)))
theorem si_one {n : Nat} {P : Nat → Prop} [DecidablePred P] {x : Int} {a : Nat} (ha : a < n) (hp : P a) (h1 : ∀ k, k < n → P k → k = a) : fb_si (fun k => if P k then x else 0) n = x := by
  have e : fb_si (fun k => if P k then x else 0) n = fb_si (fun k => if k = a then x else (fun _ => (0 : Int)) k) n := fb_si_cong (fun k hk => by
    by_cases q : k = a
    · subst q; rw [if_pos hp, if_pos rfl]
    · rw [if_neg (fun z => q (h1 k hk z)), if_neg q])
  rw [e, fb_si_upd (fun _ => (0 : Int)) x ha, si_none (fun _ _ => rfl)]
  omega
theorem si_swap (f : Nat → Nat → Int) (m : Nat) : ∀ n, fb_si (fun i => fb_si (f i) m) n = fb_si (fun j => fb_si (fun i => f i j) n) m
  | 0 => (si_none (fun k _ => rfl)).symm
  | n + 1 => by
    rw [fb_si_succ, si_swap f m n, ← fb_si_add]
    exact fb_si_cong (fun k _ => rfl)
theorem si_full {f : Nat → Int} : ∀ {n : Nat}, (∀ k, k < n → f k ≤ 1) → fb_si f n = n → ∀ k, k < n → f k = 1
  | 0, _, _ => fun k hk => by omega
  | n + 1, h, e => by
    rw [fb_si_succ] at e
    have h1 := h n (by omega)
    have h2 : fb_si f n ≤ n := by
      have := si_le (f := f) (g := fun _ => 1) (n := n) (fun k hk => h k (by omega))
      have e2 : fb_si (fun _ => (1 : Int)) n = n := by
        have := fb_si_nat (fun _ => 1) n
        rw [fb_sm_const] at this
        simpa using this
      omega
    intro k hk
    by_cases q : k = n
    · subst q; omega
    · exact si_full (n := n) (fun k hk => h k (by omega)) (by omega) k (by omega)
theorem Hg.re {c : Nat → Nat → Int} {m R : Nat} {u v : Nat → Int} {p : Nat → Nat} (h : Hg c m R u v p) (g : Nat → Int) : fb_si (fun j => if p (j + 1) = 0 then 0 else g (p (j + 1))) m = fb_si (fun i => g (i + 1)) R := by
  have e1 : fb_si (fun j => if p (j + 1) = 0 then 0 else g (p (j + 1))) m = fb_si (fun j => fb_si (fun i => if p (j + 1) = i + 1 then g (i + 1) else 0) R) m := fb_si_cong (fun j hj => by
    by_cases q : p (j + 1) = 0
    · rw [if_pos q, si_none (fun i _ => if_neg (by omega))]
    · rw [if_neg q]
      have hR := h.1 (j + 1) (by omega) (by omega)
      have := si_one (n := R) (P := fun i => p (j + 1) = i + 1) (x := g (p (j + 1))) (a := p (j + 1) - 1) (by omega) (by omega) (fun k _ e => by omega)
      rw [← this]
      exact fb_si_cong (fun i _ => by
        by_cases z : p (j + 1) = i + 1
        · rw [if_pos z, if_pos z, z]
        · rw [if_neg z, if_neg z]))
  rw [e1, si_swap]
  refine fb_si_cong (fun i hi => ?_)
  obtain ⟨j, a, b, e⟩ := h.2.2.1 (i + 1) (by omega) (by omega)
  exact si_one (n := m) (P := fun j => p (j + 1) = i + 1) (a := j - 1) (by omega) (by rw [Nat.sub_add_cancel a]; exact e) (fun k hk q => by
    have := h.2.1 (k + 1) j (by omega) (by omega) a b (by rw [q, e]) (by omega)
    omega)
theorem Hg.all {c : Nat → Nat → Int} {m : Nat} {u v : Nat → Int} {p : Nat → Nat} (h : Hg c m m u v p) {j : Nat} (hj : j < m) : p (j + 1) ≠ 0 := by
  have e := h.re (fun _ => 1)
  have e2 : fb_si (fun _ => (1 : Int)) m = m := by
    have := fb_si_nat (fun _ => 1) m
    rw [fb_sm_const] at this
    simpa using this
  rw [e2] at e
  have := si_full (fun k _ => by split <;> omega) e j hj
  intro q
  rw [if_pos q] at this
  omega
/-- what the placing costs is what rows and columns pay -/
theorem Hg.sum {c : Nat → Nat → Int} {m R : Nat} {u v : Nat → Int} {p : Nat → Nat} (h : Hg c m R u v p) : fb_si (fun j => if p (j + 1) = 0 then 0 else c (p (j + 1)) (j + 1)) m = fb_si (fun i => u (i + 1)) R + fb_si (fun j => v (j + 1)) m := by
  rw [← h.re u, ← fb_si_add]
  refine fb_si_cong (fun j hj => ?_)
  by_cases q : p (j + 1) = 0
  · rw [if_pos q, if_pos q, h.2.2.2.2.2.2.1 _ (by omega) (by omega) q]; rfl
  · rw [if_neg q, if_neg q, h.2.2.2.2.1 _ (by omega) (by omega) q]
def Dua (n : Nat) (d : Nat → Nat → Int) (A B : Nat → Bool) (U V : Nat → Int) : Prop := ∀ a b, a < n → b < n → A a = true → B b = true → U a + V b ≤ d a b
def dsm (n : Nat) (A : Nat → Bool) (U : Nat → Int) : Int := fb_si (fun x => if A x = true then U x else 0) n
def IsX (n : Nat) (d : Nat → Nat → Int) (A B : Nat → Bool) (x : Int) : Prop := (∃ U V, Dua n d A B U V ∧ dsm n A U + dsm n B V = x) ∧ ∀ U V, Dua n d A B U V → dsm n A U + dsm n B V ≤ x
theorem IsX.one {n : Nat} {d : Nat → Nat → Int} {A B : Nat → Bool} {x y : Int} (h : IsX n d A B x) (k : IsX n d A B y) : x = y := by
  obtain ⟨⟨U, V, a, b⟩, h2⟩ := h
  obtain ⟨⟨U2, V2, a2, b2⟩, k2⟩ := k
  have := h2 U2 V2 a2
  have := k2 U V a
  omega
noncomputable def carV (n : Nat) (d : Nat → Nat → Int) (A B : Nat → Bool) : Int := @dite Int (∃ x, IsX n d A B x) (Classical.propDecidable _) (fun h => Classical.choose h) (fun _ => 0)
theorem IsX.eq {n : Nat} {d : Nat → Nat → Int} {A B : Nat → Bool} {x : Int} (h : IsX n d A B x) : carV n d A B = x := by
  unfold carV
  rw [dif_pos ⟨x, h⟩]
  exact IsX.one (Classical.choose_spec (⟨x, h⟩ : ∃ x, IsX n d A B x)) h
/-- the cells of A below t, told one by one -/
def En (A : Nat → Bool) (fr : Nat → Nat) (t n : Nat) : Prop := (∀ g : Nat → Int, fb_si (fun k => g (fr (k + 1))) n = dsm t A g) ∧ (∀ k, k < n → fr (k + 1) < t ∧ A (fr (k + 1)) = true) ∧ ∀ k j, k < n → j < n → fr (k + 1) = fr (j + 1) → k = j
theorem En.zero {A : Nat → Bool} {fr : Nat → Nat} : En A fr 0 0 := ⟨fun _ => rfl, fun k h => by omega, fun k j h => by omega⟩
theorem En.skip {A : Nat → Bool} {fr : Nat → Nat} {t n : Nat} (h : En A fr t n) (ha : A t = false) : En A fr (t + 1) n :=
  ⟨fun g => by rw [h.1 g, dsm, dsm, fb_si_succ, if_neg (by rw [ha]; simp)]; omega, fun k hk => ⟨by have := (h.2.1 k hk).1; omega, (h.2.1 k hk).2⟩, h.2.2⟩
theorem En.add {A : Nat → Bool} {fr fr2 : Nat → Nat} {t n : Nat} (h : En A fr t n) (ha : A t = true) (h1 : fr2 (n + 1) = t) (h2 : ∀ k, k < n → fr2 (k + 1) = fr (k + 1)) : En A fr2 (t + 1) (n + 1) := by
  refine ⟨fun g => ?_, fun k hk => ?_, fun k j hk hj e => ?_⟩
  · rw [fb_si_succ, h1, dsm, fb_si_succ, if_pos ha]
    have := h.1 g
    rw [dsm] at this
    rw [← this]
    congr 1
    exact fb_si_cong (fun k hk => by rw [h2 k hk])
  · by_cases q : k = n
    · subst q; rw [h1]; exact ⟨by omega, ha⟩
    · rw [h2 k (by omega)]; have := h.2.1 k (by omega); exact ⟨by omega, this.2⟩
  · by_cases q : k = n
    · by_cases r : j = n
      · omega
      · subst q; rw [h1, h2 j (by omega)] at e; have := (h.2.1 j (by omega)).1; omega
    · by_cases r : j = n
      · subst r; rw [h1, h2 k (by omega)] at e; have := (h.2.1 k (by omega)).1; omega
      · rw [h2 k (by omega), h2 j (by omega)] at e; exact h.2.2 k j (by omega) (by omega) e
theorem En.cong {A : Nat → Bool} {fr fr2 : Nat → Nat} {t n : Nat} (h : En A fr t n) (h2 : ∀ k, k < n → fr2 (k + 1) = fr (k + 1)) : En A fr2 t n :=
  ⟨fun g => by rw [← h.1 g]; exact fb_si_cong (fun k hk => by rw [h2 k hk]), fun k hk => by rw [h2 k hk]; exact h.2.1 k hk, fun k j a b e => h.2.2 k j a b (by rw [h2 k a, h2 j b] at e; exact e)⟩
theorem En.idx {A : Nat → Bool} {fr : Nat → Nat} {t n a : Nat} (h : En A fr t n) (ha : a < t) (hA : A a = true) : ∃ k, k < n ∧ fr (k + 1) = a := by
  have e := h.1 (fun x => if x = a then 1 else 0)
  have e2 : dsm t A (fun x => if x = a then 1 else 0) = 1 := by
    have := si_one (n := t) (P := fun x => A x = true ∧ x = a) (x := 1) ha ⟨hA, rfl⟩ (fun k _ q => q.2)
    refine Eq.trans ?_ this
    unfold dsm
    refine fb_si_cong (fun k _ => ?_)
    by_cases q1 : A k = true
    · by_cases q2 : k = a
      · rw [if_pos q1, if_pos ⟨q1, q2⟩]; exact if_pos q2
      · rw [if_pos q1, if_neg (fun z => q2 z.2)]; exact if_neg q2
    · rw [if_neg q1, if_neg (fun z => q1 z.1)]
  rw [e2] at e
  obtain ⟨k, hk, q⟩ := si_ex (f := fun k => (fun x => if x = a then (1 : Int) else 0) (fr (k + 1))) (n := n) (by rw [e]; omega)
  refine ⟨k, hk, ?_⟩
  apply Classical.byContradiction
  intro z
  exact q (if_neg z)
/-- prices told by lines, told by cells -/
theorem En.lift {A : Nat → Bool} {fr : Nat → Nat} {t n : Nat} (h : En A fr t n) (u : Nat → Int) : ∃ U : Nat → Int, dsm t A U = fb_si (fun k => u (k + 1)) n ∧ ∀ k, k < n → U (fr (k + 1)) = u (k + 1) := by
  have key : ∀ k, k < n → fb_si (fun j => if fr (j + 1) = fr (k + 1) then u (j + 1) else 0) n = u (k + 1) := fun k hk => by
    rw [← si_one (n := n) (P := fun j => fr (j + 1) = fr (k + 1)) (x := u (k + 1)) hk rfl (fun j hj e => h.2.2 j k hj hk e)]
    refine fb_si_cong (fun j hj => ?_)
    by_cases q : fr (j + 1) = fr (k + 1)
    · rw [if_pos q, if_pos q, h.2.2 j k hj hk q]
    · rw [if_neg q, if_neg q]
  refine ⟨fun a => fb_si (fun j => if fr (j + 1) = a then u (j + 1) else 0) n, ?_, key⟩
  rw [← h.1]
  exact fb_si_cong (fun k hk => key k hk)
theorem Hg.isx {d : Nat → Nat → Int} {N n : Nat} {A B : Nat → Bool} {fr to : Nat → Nat} {u v : Nat → Int} {p : Nat → Nat} (h : Hg (fun i j => d (fr i) (to j)) n n u v p) (EA : En A fr N n) (EB : En B to N n) : IsX N d A B (fb_si (fun j => d (fr (p (j + 1))) (to (j + 1))) n) := by
  have hs : fb_si (fun j => d (fr (p (j + 1))) (to (j + 1))) n = fb_si (fun i => u (i + 1)) n + fb_si (fun j => v (j + 1)) n := by
    rw [← h.sum]
    exact fb_si_cong (fun j hj => by rw [if_neg (h.all hj)])
  refine ⟨?_, fun U V hD => ?_⟩
  · obtain ⟨U, eU, kU⟩ := EA.lift u
    obtain ⟨V, eV, kV⟩ := EB.lift v
    refine ⟨U, V, fun a b ha hb hA hB => ?_, by rw [eU, eV, hs]⟩
    obtain ⟨i, hi, ei⟩ := EA.idx ha hA
    obtain ⟨j, hj, ej⟩ := EB.idx hb hB
    rw [← ei, ← ej, kU i hi, kV j hj]
    exact h.2.2.2.1 (i + 1) (j + 1) (by omega) (by omega) (by omega) (by omega)
  · rw [← EA.1, ← EB.1, ← h.re (fun i => U (fr i)), ← fb_si_add]
    refine si_le (fun j hj => ?_)
    have hp := h.all hj
    have hR := h.1 (j + 1) (by omega) (by omega)
    rw [if_neg hp]
    obtain ⟨i, ei⟩ : ∃ i, p (j + 1) = i + 1 := ⟨p (j + 1) - 1, by omega⟩
    rw [ei]
    have m1 := EA.2.1 i (by omega)
    have m2 := EB.2.1 j hj
    exact hD _ _ m1.1 m2.1 m1.2 m2.2
/-- a cell of both stays where it is -/
theorem ex_low {N : Nat} {P : Nat → Prop} (f : Nat → Int) (h : ∃ b, b < N ∧ P b) : ∃ b, b < N ∧ P b ∧ ∀ k, k < N → P k → f b ≤ f k := by
  induction N with
  | zero => obtain ⟨b, hb, _⟩ := h; omega
  | succ N ih =>
    by_cases q : ∃ b, b < N ∧ P b
    · obtain ⟨b, h1, h2, h3⟩ := ih q
      by_cases z : P N ∧ f N < f b
      · refine ⟨N, by omega, z.1, fun k hk hp => ?_⟩
        by_cases e : k = N
        · rw [e]; exact Int.le_refl _
        · have := h3 k (by omega) hp; omega
      · refine ⟨b, by omega, h2, fun k hk hp => ?_⟩
        by_cases e : k = N
        · subst e
          have : ¬ f k < f b := fun y => z ⟨hp, y⟩
          omega
        · exact h3 k (by omega) hp
    · obtain ⟨b, hb, hp⟩ := h
      have e : b = N := by
        apply Classical.byContradiction
        intro e
        exact q ⟨b, by omega, hp⟩
      subst e
      refine ⟨b, hb, hp, fun k hk hk2 => ?_⟩
      by_cases e : k = b
      · rw [e]; exact Int.le_refl _
      · exact absurd ⟨k, by omega, hk2⟩ q
def mns (A B : Nat → Bool) : Nat → Bool := fun x => A x && !B x
theorem dsm_part (n : Nat) (A B : Nat → Bool) (U : Nat → Int) : dsm n A U = dsm n (mns A B) U + dsm n (fun x => A x && B x) U := by
  unfold dsm
  rw [← fb_si_add]
  refine fb_si_cong (fun k _ => ?_)
  show (if A k = true then U k else 0) = (if (A k && !B k) = true then U k else 0) + (if (A k && B k) = true then U k else 0)
  cases A k <;> cases B k <;> simp
theorem dsm_both (n : Nat) (A B : Nat → Bool) (U : Nat → Int) : dsm n (fun x => A x && B x) U = dsm n (fun x => B x && A x) U := by
  unfold dsm
  exact fb_si_cong (fun k _ => by show (if (A k && B k) = true then U k else 0) = (if (B k && A k) = true then U k else 0); rw [Bool.and_comm])
theorem dsm_neg (n : Nat) (A : Nat → Bool) (U : Nat → Int) : dsm n A (fun x => - U x) = - dsm n A U := by
  unfold dsm
  have := fb_si_sub (fun _ => 0) (fun x => if A x = true then U x else 0) n
  rw [si_none (f := fun _ => (0 : Int)) (fun _ _ => rfl)] at this
  rw [Int.zero_sub] at this
  rw [← this]
  refine fb_si_cong (fun k _ => ?_)
  show (if A k = true then - U k else 0) = 0 - (if A k = true then U k else 0)
  split <;> omega
theorem dsm_le {n : Nat} {A : Nat → Bool} {U V : Nat → Int} (h : ∀ k, k < n → A k = true → U k ≤ V k) : dsm n A U ≤ dsm n A V := by
  unfold dsm
  refine si_le (fun k hk => ?_)
  split
  · rename_i q; exact h k hk q
  · exact Int.le_refl _
theorem dsm_add (n : Nat) (A : Nat → Bool) (U V : Nat → Int) : dsm n A (fun x => U x + V x) = dsm n A U + dsm n A V := by
  unfold dsm
  rw [← fb_si_add]
  refine fb_si_cong (fun k _ => ?_)
  show (if A k = true then U k + V k else 0) = (if A k = true then U k else 0) + (if A k = true then V k else 0)
  split <;> omega
theorem dsm_zero {n : Nat} {A : Nat → Bool} {U : Nat → Int} (h : ∀ k, k < n → A k = true → U k = 0) : dsm n A U = 0 := by
  unfold dsm
  refine si_none (fun k hk => ?_)
  split
  · rename_i q; exact h k hk q
  · rfl
theorem IsX.both {n : Nat} {d : Nat → Nat → Int} {A B : Nat → Bool} {x : Int} (h : IsX n d (mns A B) (mns B A) x) (d0 : ∀ a, d a a = 0) (dp : ∀ a b, 0 ≤ d a b) (dt : ∀ a b c, d a c ≤ d a b + d b c) : IsX n d A B x := by
  have hA : ∀ {a}, mns A B a = true → A a = true := fun {a} q => by unfold mns at q; simp at q; exact q.1
  have hB : ∀ {a}, mns B A a = true → B a = true := fun {a} q => by unfold mns at q; simp at q; exact q.1
  have low : ∀ U V, Dua n d A B U V → dsm n A U + dsm n B V ≤ x := fun U V hD => by
    have e := h.2 U V (fun a b ha hb qa qb => hD a b ha hb (hA qa) (hB qb))
    rw [dsm_part n A B, dsm_part n B A, dsm_both n B A]
    have e2 : dsm n (fun x => A x && B x) U + dsm n (fun x => A x && B x) V ≤ 0 := by
      rw [← dsm_add, ← dsm_zero (n := n) (A := fun x => A x && B x) (U := fun _ => 0) (fun _ _ _ => rfl)]
      refine dsm_le (fun k hk q => ?_)
      have q : A k = true ∧ B k = true := by simpa using q
      have := hD k k hk hk q.1 q.2
      rw [d0 k] at this
      exact this
    omega
  refine ⟨?_, low⟩
  obtain ⟨⟨u, v, hD, e⟩, h2⟩ := h
  by_cases q : ∃ b, b < n ∧ mns B A b = true
  · have hg : ∀ y, ∃ g : Int, (∀ b, b < n → mns B A b = true → g ≤ d y b - v b) ∧ ∃ b, b < n ∧ mns B A b = true ∧ g = d y b - v b := fun y => by
      obtain ⟨b, h1, h2, h3⟩ := ex_low (fun b => d y b - v b) q
      exact ⟨d y b - v b, h3, b, h1, h2, rfl⟩
    obtain ⟨g, hg⟩ := Classical.skolem.mp hg
    have lip : ∀ a b, g a - g b ≤ d a b := fun a b => by
      obtain ⟨_, c, c1, c2, c3⟩ := hg b
      have := (hg a).1 c c1 c2
      have := dt a b c
      omega
    have hF : Dua n d A B g (fun y => - g y) := fun a b _ _ _ _ => by have := lip a b; show g a + - g b ≤ _; omega
    refine ⟨g, fun y => - g y, hF, ?_⟩
    have up := low g _ hF
    have lo : x ≤ dsm n A g + dsm n B (fun y => - g y) := by
      rw [dsm_part n A B, dsm_part n B A, dsm_both n B A]
      have z : dsm n (fun x => A x && B x) g + dsm n (fun x => A x && B x) (fun y => - g y) = 0 := by rw [dsm_neg]; omega
      have z1 : dsm n (mns A B) u ≤ dsm n (mns A B) g := dsm_le (fun k hk qk => by
        obtain ⟨_, c, c1, c2, c3⟩ := hg k
        have := hD k c hk c1 qk c2
        omega)
      have z2 : dsm n (mns B A) v ≤ dsm n (mns B A) (fun y => - g y) := dsm_le (fun k hk qk => by
        have := (hg k).1 k hk qk
        rw [d0] at this
        omega)
      omega
    omega
  · have q2 : ¬ ∃ a, a < n ∧ mns A B a = true := fun ⟨a, ha, hm⟩ => by
      have := h2 (fun y => if y = a then x + 1 else 0) v (fun a b _ hb _ hB2 => absurd ⟨b, hb, hB2⟩ q)
      have e1 : dsm n (mns A B) (fun y => if y = a then x + 1 else 0) = x + 1 := by
        have := si_one (n := n) (P := fun y => mns A B y = true ∧ y = a) (x := x + 1) ha ⟨hm, rfl⟩ (fun k _ q => q.2)
        refine Eq.trans ?_ this
        unfold dsm
        refine fb_si_cong (fun k _ => ?_)
        by_cases q1 : mns A B k = true
        · by_cases q2 : k = a
          · rw [if_pos q1, if_pos ⟨q1, q2⟩]; exact if_pos q2
          · rw [if_pos q1, if_neg (fun z => q2 z.2)]; exact if_neg q2
        · rw [if_neg q1, if_neg (fun z => q1 z.1)]
      have e2 : dsm n (mns B A) v = 0 := dsm_zero (fun k hk qk => absurd ⟨k, hk, qk⟩ q)
      omega
    have e1 : dsm n (mns A B) u = 0 := dsm_zero (fun k hk qk => absurd ⟨k, hk, qk⟩ q2)
    have e2 : dsm n (mns B A) v = 0 := dsm_zero (fun k hk qk => absurd ⟨k, hk, qk⟩ q)
    refine ⟨fun _ => 0, fun _ => 0, fun a b _ _ _ _ => by have := dp a b; show (0 : Int) + 0 ≤ _; omega, ?_⟩
    rw [dsm_zero (fun _ _ _ => rfl), dsm_zero (fun _ _ _ => rfl)]
    omega
def stp (w a b : Nat) : Int := ((ad (a % w) (b % w) + ad (a / w) (b / w) : Nat) : Int)
theorem stp_0 (w a : Nat) : stp w a a = 0 := by unfold stp ad; omega
theorem stp_p (w a b : Nat) : 0 ≤ stp w a b := by unfold stp; omega
theorem stp_t (w a b c : Nat) : stp w a c ≤ stp w a b + stp w b c := by unfold stp ad; omega
theorem stp_le {w h a b : Nat} (hw : w ≤ 6) (h6 : h ≤ 6) (w2 : 2 ≤ w) (ha : a < w * h) (hb : b < w * h) : stp w a b ≤ 10 := by
  have h1 : a % w < w := Nat.mod_lt _ (by omega)
  have h2 : b % w < w := Nat.mod_lt _ (by omega)
  have h3 : a / w < h := Nat.div_lt_of_lt_mul ha
  have h4 : b / w < h := Nat.div_lt_of_lt_mul hb
  unfold stp ad
  generalize a % w = x1 at *
  generalize b % w = x2 at *
  generalize a / w = x3 at *
  generalize b / w = x4 at *
  omega
end
section
-- made by wip/whole/mk_m13.py
section M13
variable {X : Cx} {l : Launch} {M : Mem}
theorem up_o {f : Nat → Nat → Int32} {g : Nat → Nat → Int64} {a b : Nat} {h : Nat → Int32} (hb : b ≠ a) : ((va_up f a h, g) : Mem).1 b = f b := by simp [va_up, hb]
def MA (n : Nat) (u v : Nat → Int) (p : Nat → Nat) (M : Mem) : Prop := (∀ r, 1 ≤ r → r ≤ n → (M.1 40 r).toInt = u r) ∧ (∀ j, 1 ≤ j → j ≤ n → (M.1 41 j).toInt = v j) ∧ ∀ j, j ≤ n → M.1 42 j = nI (p j)
theorem MA.o {n : Nat} {u v : Nat → Int} {p : Nat → Nat} {M : Mem} {a : Nat} {f : Nat → Int32} (h : MA n u v p M) (h1 : 40 ≠ a ∧ 41 ≠ a ∧ 42 ≠ a := by decide) : MA n u v p (va_up M.1 a f, M.2) := ⟨fun r a b => by rw [up_o h1.1]; exact h.1 r a b, fun r a b => by rw [up_o h1.2.1]; exact h.2.1 r a b, fun r a => by rw [up_o h1.2.2]; exact h.2.2 r a⟩
theorem MA.pp {n : Nat} {u v : Nat → Int} {p : Nat → Nat} {M : Mem} {a b : Nat} (h : MA n u v p M) : MA n u v (fun k => if k = a then b else p k) (va_up M.1 42 (upd (M.1 42) a (nI b)), M.2) := ⟨fun r q1 q2 => by rw [up_o (by decide)]; exact h.1 r q1 q2, fun r q1 q2 => by rw [up_o (by decide)]; exact h.2.1 r q1 q2, fun r q1 => by
  by_cases q : r = a
  · subst q; rw [up_s]; simp
  · rw [up_n q]; simp only [if_neg q]; exact h.2.2 r q1⟩
theorem MA.pu {n : Nat} {u v : Nat → Int} {p : Nat → Nat} {M : Mem} {a : Nat} {x : Int32} (h : MA n u v p M) : MA n (fun k => if k = a then x.toInt else u k) v p (va_up M.1 40 (upd (M.1 40) a x), M.2) := ⟨fun r q1 q2 => by
  by_cases q : r = a
  · subst q; rw [up_s]; simp
  · rw [up_n q]; simp only [if_neg q]; exact h.1 r q1 q2, fun r q1 q2 => by rw [up_o (by decide)]; exact h.2.1 r q1 q2, fun r q1 => by rw [up_o (by decide)]; exact h.2.2 r q1⟩
theorem MA.pv {n : Nat} {u v : Nat → Int} {p : Nat → Nat} {M : Mem} {a : Nat} {x : Int32} (h : MA n u v p M) : MA n u (fun k => if k = a then x.toInt else v k) p (va_up M.1 41 (upd (M.1 41) a x), M.2) := ⟨fun r q1 q2 => by rw [up_o (by decide)]; exact h.1 r q1 q2, fun r q1 q2 => by
  by_cases q : r = a
  · subst q; rw [up_s]; simp
  · rw [up_n q]; simp only [if_neg q]; exact h.2.1 r q1 q2, fun r q1 => by rw [up_o (by decide)]; exact h.2.2 r q1⟩
/-- how prices stand while they are moved, up to column j -/
def Mv (p : Nat → Nat) (us : Nat → Bool) (u v sl u2 v2 sl2 : Nat → Int) (b : Int) (j : Nat) : Prop :=
  (∀ k, k < j → us k = true → u2 (p k) = u (p k) + b) ∧ (∀ r, (∀ k, k < j → us k = true → p k ≠ r) → u2 r = u r) ∧ (∀ k, 1 ≤ k → v2 k = if k < j ∧ us k = true then v k - b else v k) ∧ ∀ k, sl2 k = if k < j ∧ us k = false then sl k - b else sl k
theorem Mv.start {p : Nat → Nat} {us : Nat → Bool} {u v sl : Nat → Int} {b : Int} : Mv p us u v sl u v sl b 0 := ⟨fun k h => by omega, fun _ _ => rfl, fun k _ => by rw [if_neg (fun q => by omega)], fun k => by rw [if_neg (fun q => by omega)]⟩
theorem Mv.used {p : Nat → Nat} {us : Nat → Bool} {u v sl u2 v2 sl2 : Nat → Int} {b : Int} {j m : Nat} (h : Mv p us u v sl u2 v2 sl2 b j) (hu : us j = true) (hj : j ≤ m) (hp : p j ≠ 0) (inj : ∀ j k, j ≤ m → k ≤ m → p j = p k → p j ≠ 0 → j = k) {x y : Int} (hx : x = u2 (p j) + b) (hy : 1 ≤ j → y = v2 j - b) : Mv p us u v sl (fun k => if k = p j then x else u2 k) (fun k => if k = j then y else v2 k) sl2 b (j + 1) := by
  have hn : u2 (p j) = u (p j) := h.2.1 _ (fun k hk _ e => by have := inj k j (by omega) hj e (by rw [e]; exact hp); omega)
  refine ⟨fun k hk q => ?_, fun r hr => ?_, fun k h1 => ?_, fun k => ?_⟩
  · by_cases e : k = j
    · subst e; dsimp only; rw [if_pos rfl, hx, hn]
    · dsimp only
      rw [if_neg (fun z => e (inj j k hj (by omega) z.symm hp).symm)]
      exact h.1 k (by omega) q
  · dsimp only
    rw [if_neg (fun z => hr j (by omega) hu z.symm)]
    exact h.2.1 r (fun k hk q => hr k (by omega) q)
  · dsimp only
    by_cases e : k = j
    · subst e
      rw [if_pos rfl, if_pos ⟨by omega, hu⟩, hy h1, h.2.2.1 k h1, if_neg (fun z => by omega)]
    · rw [if_neg e, h.2.2.1 k h1]
      by_cases z : k < j ∧ us k = true
      · rw [if_pos z, if_pos ⟨by omega, z.2⟩]
      · rw [if_neg z, if_neg (fun y => z ⟨by omega, y.2⟩)]
  · rw [h.2.2.2 k]
    by_cases z : k < j ∧ us k = false
    · rw [if_pos z, if_pos ⟨by omega, z.2⟩]
    · rw [if_neg z, if_neg (fun y => z ⟨by
        have : k ≠ j := fun e => by rw [e, hu] at y; cases y.2
        omega, y.2⟩)]
theorem Mv.skip {p : Nat → Nat} {us : Nat → Bool} {u v sl u2 v2 sl2 : Nat → Int} {b : Int} {j : Nat} (h : Mv p us u v sl u2 v2 sl2 b j) (hu : us j = false) {y : Int} (hy : y = sl2 j - b) : Mv p us u v sl u2 v2 (fun k => if k = j then y else sl2 k) b (j + 1) := by
  have ne : ∀ k, us k = true → k ≠ j := fun k q e => by rw [e, hu] at q; cases q
  refine ⟨fun k hk q => h.1 k (by have := ne k q; omega) q, fun r hr => h.2.1 r (fun k hk q => hr k (by omega) q), fun k h1 => ?_, fun k => ?_⟩
  · rw [h.2.2.1 k h1]
    by_cases z : k < j ∧ us k = true
    · rw [if_pos z, if_pos ⟨by omega, z.2⟩]
    · rw [if_neg z, if_neg (fun y => z ⟨by have := ne k y.2; omega, y.2⟩)]
  · dsimp only
    by_cases e : k = j
    · subst e
      rw [if_pos rfl, if_pos ⟨by omega, hu⟩, hy, h.2.2.2 k, if_neg (fun z => by omega)]
    · rw [if_neg e, h.2.2.2 k]
      by_cases z : k < j ∧ us k = false
      · rw [if_pos z, if_pos ⟨by omega, z.2⟩]
      · rw [if_neg z, if_neg (fun y => z ⟨by omega, y.2⟩)]
theorem Sd.ct {c : Nat → Nat → Int} {m : Nat} {u v : Nat → Int} {p : Nat → Nat} {us : Nat → Bool} {bf : Nat → Nat} {a : Nat} (H : Hd c m u v p us bf a) : fb_ct (on1 us a) (m + 1) = fb_ct us (m + 1) + 1 := by
  have := fb_ct_upd us true (i := a) (n := m + 1) (by have := H.1; omega)
  rw [H.2.1] at this
  simp only [if_true, Bool.false_eq_true, if_false, Nat.add_zero] at this
  exact this
set_option maxHeartbeats 2000000 in
theorem m_assign {w h : Nat} {mp dr : Nat → Nat} (Hw : Wf w h mp dr) (H : WM w h mp dr M) (n : Nat) (hn : n ≤ 36) (fr to : Nat → Nat) (c : Nat → Nat → Int) (ec : ∀ i j, c i j = stp w (fr i) (to j)) (hfr : ∀ k, fr k < w * h) (hto : ∀ k, to k < w * h) (h38 : ∀ k, 1 ≤ k → k ≤ n → M.1 38 k = nI (fr k)) (h39 : ∀ k, 1 ≤ k → k ≤ n → M.1 39 k = nI (to k)) : PC X l mX8_assign 2 [.ref 29, .int (nI n)] G0 M (fun v M' => (∃ (u v2 : Nat → Int) (p : Nat → Nat), Hg c n n u v2 p ∧ v = some (.int (Int32.ofInt (fb_si (fun j => c (p (j + 1)) (j + 1)) n)))) ∧ FI [40, 41, 42, 43, 44, 45] M M') := by
  refine PC.ofW okX8_assign ?_
  have hN := Hw.n
  have hK : ∀ i j, c i j ≤ 10 := fun i j => by rw [ec]; exact stp_le Hw.2.1 Hw.2.2.2.1 Hw.1 (hfr i) (hto j)
  have h0 : ∀ i j, 0 ≤ c i j := fun i j => by rw [ec]; exact stp_p _ _ _
  have loop341 : ∀ k : Nat, ∀ (j : Nat) (u v : Nat → Int) (p : Nat → Nat) (M2 : Mem), j ≤ n → FI [40, 41, 42, 43, 44, 45] M M2 → MA n u v p M2 → Hg c n n u v p → n - j < k → PW X l mX8_assign 2 (fun v M' => (∃ (u v2 : Nat → Int) (p : Nat → Nat), Hg c n n u v2 p ∧ v = some (.int (Int32.ofInt (fb_si (fun j => c (p (j + 1)) (j + 1)) n)))) ∧ FI [40, 41, 42, 43, 44, 45] M M') 341 [.ref 29, .int (nI n), .int (Int32.ofInt (fb_si (fun j => c (p (j + 1)) (j + 1)) j)), .int (nI (j + 1)), .null, .null, .null, .null, .null] [] G0 M2 := by
    intro k
    induction k with
    | zero => intro j u v p M2 hj hF hM hH hk; exact absurd hk (Nat.not_lt_zero _)
    | succ k ih =>
      intro j u v p M2 hj hF hM hH hk
      refine PW.igt rfl trivial (fun h343 => ?_) (fun h343 => ?_)
      · skip
        rw [nI_ltI (by omega) (by omega)] at h343
        have e9 : j = n := by omega
        subst e9
        refine PW.iret rfl rfl trivial ?_
        exact ⟨⟨u, v, p, hH, rfl⟩, hF⟩
      · skip
        rw [nI_ltI (by omega) (by omega)] at h343
        have hjn : j < n := by omega
        have hp0 := hH.all hjn
        have hpn := hH.1 (j + 1) (by omega) (by omega)
        have e42 := hM.2.2 (j + 1) (by omega)
        have e38 : M2.1 38 (p (j + 1)) = nI (fr (p (j + 1))) := by rw [hF.1 38 (by decide)]; exact h38 _ (by omega) hpn
        have e39 : M2.1 39 (j + 1) = nI (to (j + 1)) := by rw [hF.1 39 (by decide)]; exact h39 _ (by omega) (by omega)
        have hfp := hfr (p (j + 1))
        have htp := hto (j + 1)
        have e40 : (nI (j + 1)).toNatClampNeg = j + 1 := nI_clamp (by omega)
        refine PW.funV rfl ⟨⟨⟨trivial, (vp_in_nI (by omega) (by decide))⟩, (by rw [e40, e42]; exact vp_in_nI (by omega) (by decide))⟩, (vp_in_nI (by omega) (by decide))⟩ sX8_163 rfl rfl (by decide) rfl (show PF X l mX8_steps 1 [.ref 29, .int (M2.1 38 (M2.1 42 (nI (j + 1)).toNatClampNeg).toNatClampNeg), .int (M2.1 39 (nI (j + 1)).toNatClampNeg)] G0 M2 (.int (nI (ad (fr (p (j + 1)) % w) (to (j + 1) % w) + ad (fr (p (j + 1)) / w) (to (j + 1) / w)))) from by rw [e40, e42, nI_clamp (by omega), e38, e39]; exact m_steps _ _ (by omega) (by omega) Hw (H.fi hF)) ?_
        refine PW.goto rfl trivial ?_
        refine PW.lc ?_ (ih (j + 1) u v p M2 (by omega) hF hM hH (by omega))
        rw [nI_1, fb_si_succ, Int32.ofInt_add, ec]
        rfl
  have loop36 : ∀ k : Nat, ∀ (R : Nat) (u v : Nat → Int) (p : Nat → Nat) (M2 : Mem), R ≤ n → FI [40, 41, 42, 43, 44, 45] M M2 → MA n u v p M2 → Hg c n R u v p → n - R < k → PW X l mX8_assign 2 (fun v M' => (∃ (u v2 : Nat → Int) (p : Nat → Nat), Hg c n n u v2 p ∧ v = some (.int (Int32.ofInt (fb_si (fun j => c (p (j + 1)) (j + 1)) n)))) ∧ FI [40, 41, 42, 43, 44, 45] M M') 36 [.ref 29, .int (nI n), .int (nI (R + 1)), .null, .null, .null, .null, .null, .null] [] G0 M2 := by
    intro k
    induction k with
    | zero => intro R u v p M2 hR hF hM hH hk; exact absurd hk (Nat.not_lt_zero _)
    | succ k ih =>
      intro R u v p M2 hR hF hM hH hk
      have loop300 : ∀ k300 : Nat, ∀ (a : Nat) (u v : Nat → Int) (p : Nat → Nat) (us : Nat → Bool) (bf tm : Nat → Nat) (M4 : Mem), R + 1 ≤ n → Au c n (R + 1) u v p us bf tm a → FI [40, 41, 42, 43, 44, 45] M M4 → MA n u v p M4 → (∀ k, 1 ≤ k → k ≤ n → M4.1 44 k = nI (bf k)) → tm a < k300 → PW X l mX8_assign 2 (fun v M' => (∃ (u v2 : Nat → Int) (p : Nat → Nat), Hg c n n u v2 p ∧ v = some (.int (Int32.ofInt (fb_si (fun j => c (p (j + 1)) (j + 1)) n)))) ∧ FI [40, 41, 42, 43, 44, 45] M M') 300 [.ref 29, .int (nI n), .int (nI (R + 1)), .int (nI a), .null, .null, .null, .null, .null] [] G0 M4 := by
        intro k300
        induction k300 with
        | zero => intro a u v p us bf tm M4 hRn9 hA hF4 hM4 g44 hk4; exact absurd hk4 (Nat.not_lt_zero _)
        | succ k300 ih300 =>
          intro a u v p us bf tm M4 hRn9 hA hF4 hM4 g44 hk4
          have han := hA.1
          refine PW.zeq rfl trivial (fun h301 => ?_) (fun h301 => ?_)
          · skip
            have ea : a = 0 := by
              rw [show (0 : Int32) = nI 0 from rfl, nI_eq (by omega) (by omega)] at h301; exact h301
            subst ea
            refine PW.goto rfl trivial ?_
            rw [nI_1]
            refine PW.nl [3] ?_
            exact ih (R + 1) u v p M4 hRn9 hF4 hM4 hA.done (by omega)
          · skip
            have ea : a ≠ 0 := fun z => h301 (by rw [z]; rfl)
            obtain ⟨hA2, ht, hb⟩ := hA.step ea
            have e44 := g44 a (by omega) han
            have e42 := hM4.2.2 _ hb
            refine PW.goto rfl ⟨⟨⟨⟨trivial, (vp_in_nI (by omega) (by decide))⟩, (by rw [nI_clamp (by omega), e44]; exact vp_in_nI (by omega) (by decide))⟩, (vp_in_nI (by omega) (by decide))⟩, (vp_in_nI (by omega) (by decide))⟩ ?_
            rw [nI_clamp (by omega), e44, nI_clamp (by omega), e42, show ((va_up M4.1 42 (upd (M4.1 42) a (nI (p (bf a)))), M4.2) : Mem).1 44 a = nI (bf a) from by rw [up_o (by decide)]; exact e44]
            exact ih300 (bf a) u v _ us bf tm _ hRn9 hA2 (hF4.put (by decide)) hM4.pp (fun k q1 q2 => by rw [up_o (by decide)]; exact g44 k q1 q2) (by omega)
      have loop82 : ∀ k82 : Nat, ∀ (a s : Nat) (u v : Nat → Int) (p : Nat → Nat) (us : Nat → Bool) (bf tm : Nat → Nat) (sl : Nat → Int) (M3 : Mem), Tr c n (R + 1) u v p → Sd c n u v p us bf tm s → Hd c n u v p us bf a → (∀ j, 1 ≤ j → j ≤ n → us j = false → Sp c u v p us bf sl 1000000000 j) → p a ≠ 0 → FI [40, 41, 42, 43, 44, 45] M M3 → MA n u v p M3 → (∀ j, 1 ≤ j → j ≤ n → (M3.1 43 j).toInt = sl j) → (us 0 = true → ∀ j, 1 ≤ j → j ≤ n → M3.1 44 j = nI (bf j)) → (∀ j, j ≤ n → M3.1 45 j = bo (us j)) → n + 1 - fb_ct us (n + 1) < k82 → PW X l mX8_assign 2 (fun v M' => (∃ (u v2 : Nat → Int) (p : Nat → Nat), Hg c n n u v2 p ∧ v = some (.int (Int32.ofInt (fb_si (fun j => c (p (j + 1)) (j + 1)) n)))) ∧ FI [40, 41, 42, 43, 44, 45] M M') 82 [.ref 29, .int (nI n), .int (nI (R + 1)), .int (nI a), .null, .null, .null, .null, .null] [] G0 M3 := by
        intro k82
        induction k82 with
        | zero => intro a s u v p us bf tm sl M3 T D E hS hpa hF3 hM3 h43 h44 h45 hk3; exact absurd hk3 (Nat.not_lt_zero _)
        | succ k82 ih82 =>
          intro a s u v p us bf tm sl M3 T D E hS hpa hF3 hM3 h43 h44 h45 hk3
          have hRn := T.2.2.1
          have han := E.1
          have hpn : ∀ j, j ≤ n → p j ≤ n := fun j hj => by
            rcases Nat.eq_zero_or_pos j with z | z
            · rw [z, T.1]; exact hRn
            · have := T.2.2.2.1 j z hj; omega
          have hct := Sd.ct E
          have hctl := fb_ct_le (on1 us a) (n + 1)
          have D1 := D.mark E hpa
          have hv : ∀ j, 1 ≤ j → j ≤ n → v j ≤ 0 ∧ -10 ≤ v j := fun j a b => ⟨T.2.2.2.2.2.2.2.2.1 j a b, T.v_ge h0 hK (by omega) a b⟩
          have hu : ∀ i, 1 ≤ i → 0 ≤ u i ∧ u i ≤ 10 := fun i hi => ⟨T.2.2.2.2.2.2.2.2.2.2.1 i, T.u_le hK (by omega) hi⟩
          have ha0 : on1 us a 0 = true := by
            by_cases q : a = 0
            · rw [q]; exact on1_s us 0
            · exact on1_u (E.2.2.2 q).1
          have hcs : ∀ j, 1 ≤ j → j ≤ n → c (p a) j - u (p a) - v j < 1000000000 := fun j a1 b1 => by
            have := hK (p a) j; have := hv j a1 b1; have := hu (p a) (by omega); omega
          have loop222 : ∀ k222 : Nat, ∀ (j : Nat) (b : Int32) (nx : Nat) (bf2 : Nat → Nat) (sl2 u2 v2 sl3 : Nat → Int) (M4 : Mem), j ≤ n + 1 → Sd c n u v p (on1 us a) bf2 (fun k => if k = a then s else tm k) (s + 1) → (∀ k, 1 ≤ k → k ≤ n → on1 us a k = false → Sp c u v p (on1 us a) bf2 sl2 1000000000 k) → 1 ≤ nx → nx ≤ n → on1 us a nx = false → b.toInt = sl2 nx → (∀ k, 1 ≤ k → k ≤ n → on1 us a k = false → b.toInt ≤ sl2 k) → Mv p (on1 us a) u v sl2 u2 v2 sl3 b.toInt j → FI [40, 41, 42, 43, 44, 45] M M4 → MA n u2 v2 p M4 → (∀ j, 1 ≤ j → j ≤ n → (M4.1 43 j).toInt = sl3 j) → (∀ k, 1 ≤ k → k ≤ n → M4.1 44 k = nI (bf2 k)) → (∀ j, j ≤ n → M4.1 45 j = bo (on1 us a j)) → n + 1 - j < k222 → PW X l mX8_assign 2 (fun v M' => (∃ (u v2 : Nat → Int) (p : Nat → Nat), Hg c n n u v2 p ∧ v = some (.int (Int32.ofInt (fb_si (fun j => c (p (j + 1)) (j + 1)) n)))) ∧ FI [40, 41, 42, 43, 44, 45] M M') 222 [.ref 29, .int (nI n), .int (nI (R + 1)), .int (nI a), .null, .int b, .int (nI nx), .int (nI j), .null] [] G0 M4 := by
            intro k222
            induction k222 with
            | zero => intro j b nx bf2 sl2 u2 v2 sl3 M4 hj D2 hP nx1 nx2 nx3 hb hbm hV hF4 hM4 g43 g44 g45 hk4; exact absurd hk4 (Nat.not_lt_zero _)
            | succ k222 ih222 =>
              intro j b nx bf2 sl2 u2 v2 sl3 M4 hj D2 hP nx1 nx2 nx3 hb hbm hV hF4 hM4 g43 g44 g45 hk4
              have hbb : 0 ≤ b.toInt ∧ b.toInt ≤ 30 := by
                have z := (hP nx nx1 nx2 nx3).2.1 ⟨0, ha0⟩
                have y := D2.1 _ z.1
                have r1 : 1 ≤ p (bf2 nx) := by have := y.2.1; omega
                have := hK (p (bf2 nx)) nx
                have := hv nx nx1 nx2
                have := hu _ r1
                have r2 : p (bf2 nx) ≤ R + 1 := by
                  rcases Nat.eq_zero_or_pos (bf2 nx) with e | e
                  · rw [e, T.1]; exact Nat.le_refl _
                  · have := T.2.2.2.1 _ e y.1; omega
                have := T.2.2.2.2.2.2.1 _ nx r1 r2 nx1 nx2
                omega
              have join282 : ∀ (j : Nat) (b : Int32) (nx : Nat) (bf2 : Nat → Nat) (sl2 u2 v2 sl3 : Nat → Int) (M4 : Mem), j ≤ n → Sd c n u v p (on1 us a) bf2 (fun k => if k = a then s else tm k) (s + 1) → (∀ k, 1 ≤ k → k ≤ n → on1 us a k = false → Sp c u v p (on1 us a) bf2 sl2 1000000000 k) → 1 ≤ nx → nx ≤ n → on1 us a nx = false → b.toInt = sl2 nx → (∀ k, 1 ≤ k → k ≤ n → on1 us a k = false → b.toInt ≤ sl2 k) → Mv p (on1 us a) u v sl2 u2 v2 sl3 b.toInt (j + 1) → FI [40, 41, 42, 43, 44, 45] M M4 → MA n u2 v2 p M4 → (∀ j, 1 ≤ j → j ≤ n → (M4.1 43 j).toInt = sl3 j) → (∀ k, 1 ≤ k → k ≤ n → M4.1 44 k = nI (bf2 k)) → (∀ j, j ≤ n → M4.1 45 j = bo (on1 us a j)) → n + 1 - j < k222 + 1 → PW X l mX8_assign 2 (fun v M' => (∃ (u v2 : Nat → Int) (p : Nat → Nat), Hg c n n u v2 p ∧ v = some (.int (Int32.ofInt (fb_si (fun j => c (p (j + 1)) (j + 1)) n)))) ∧ FI [40, 41, 42, 43, 44, 45] M M') 282 [.ref 29, .int (nI n), .int (nI (R + 1)), .int (nI a), .null, .int b, .int (nI nx), .int (nI j), .null] [] G0 M4 := by
                intro j b nx bf2 sl2 u2 v2 sl3 M4 hjn D2 hP nx1 nx2 nx3 hb hbm hV hF4 hM4 g43 g44 g45 hk4
                refine PW.goto rfl trivial ?_
                rw [nI_1]
                exact ih222 (j + 1) b nx bf2 sl2 u2 v2 sl3 M4 (by omega) D2 hP nx1 nx2 nx3 hb hbm hV hF4 hM4 g43 g44 g45 (by omega)
              refine PW.igt rfl trivial (fun h225 => ?_) (fun h225 => ?_)
              · skip
                rw [nI_ltI (by omega) (by omega)] at h225
                have e9 : j = n + 1 := by omega
                subst e9
                refine PW.zne rfl ⟨trivial, vp_in_nI (by omega) (by decide)⟩ (fun h297 => ?_) (fun h297 => ?_)
                · skip
                  rw [nI_clamp (by omega)] at h297
                  obtain ⟨_, T2, D3, E2, S2⟩ := T.move (F := 1000000000) (by2 := b.toInt) (u2 := u2) (v2 := v2) (sl2 := sl3) D2 ha0 hP nx1 nx2 nx3 hb hbm (fun k q => hV.1 k (by have := (D2.1 k q).1; omega) q) (fun r q => hV.2.1 r (fun k _ z => q k z)) (fun k q1 q2 => by
                    rw [hV.2.2.1 k q1]
                    by_cases z : on1 us a k = true
                    · rw [if_pos z, if_pos ⟨by omega, z⟩]
                    · rw [if_neg z, if_neg (fun y => z y.2)]) (fun k q1 q2 q3 => by rw [hV.2.2.2 k, if_pos ⟨by omega, q3⟩])
                  rw [hM4.2.2 nx nx2] at h297
                  refine PW.nl [5, 6, 7] ?_
                  exact ih82 nx (s + 1) u2 v2 p (on1 us a) bf2 _ sl3 M4 T2 D3 E2 S2 (fun z => h297 (by rw [z]; rfl)) hF4 hM4 g43 (fun _ => g44) g45 (by omega)
                · skip
                  rw [nI_clamp (by omega)] at h297
                  obtain ⟨_, T2, D3, E2, S2⟩ := T.move (F := 1000000000) (by2 := b.toInt) (u2 := u2) (v2 := v2) (sl2 := sl3) D2 ha0 hP nx1 nx2 nx3 hb hbm (fun k q => hV.1 k (by have := (D2.1 k q).1; omega) q) (fun r q => hV.2.1 r (fun k _ z => q k z)) (fun k q1 q2 => by
                    rw [hV.2.2.1 k q1]
                    by_cases z : on1 us a k = true
                    · rw [if_pos z, if_pos ⟨by omega, z⟩]
                    · rw [if_neg z, if_neg (fun y => z y.2)]) (fun k q1 q2 q3 => by rw [hV.2.2.2 k, if_pos ⟨by omega, q3⟩])
                  rw [hM4.2.2 nx nx2] at h297
                  refine PW.nl [5, 6, 7] ?_
                  have hz : p nx = 0 := by
                    have := hpn nx nx2
                    rw [show (0 : Int32) = nI 0 from rfl, nI_eq (by omega) (by omega)] at h297; exact h297
                  exact loop300 (s + 2) nx u2 v2 p (on1 us a) bf2 _ M4 hRn (Au.start T2 D3 E2 (by omega) hz) hF4 hM4 g44 (by rw [if_pos rfl]; omega)
              · skip
                rw [nI_ltI (by omega) (by omega)] at h225
                have hjn : j ≤ n := by omega
                have hju := g45 j hjn
                refine PW.zeq rfl ⟨trivial, vp_in_nI (by omega) (by decide)⟩ (fun h235 => ?_) (fun h235 => ?_)
                · skip
                  rw [nI_clamp (by omega), hju, bo_eq] at h235
                  have hj1 : 1 ≤ j := by
                    rcases Nat.eq_zero_or_pos j with z | z
                    · rw [z, ha0] at h235; cases h235
                    · exact z
                  have e43 := g43 j hj1 hjn
                  have es : sl3 j = sl2 j := by rw [hV.2.2.2 j, if_neg (fun z => by omega)]
                  have z0 := (hP j hj1 hjn h235).2.1 ⟨0, ha0⟩
                  have y0 := D2.1 _ z0.1
                  have hvj := hv j hj1 hjn
                  have huj := hu (p (bf2 j)) (by have := y0.2.1; omega)
                  have hKj := hK (p (bf2 j)) j
                  have h0j := h0 (p (bf2 j)) j
                  refine PW.to 282 rfl ⟨⟨trivial, (vp_in_nI (by omega) (by decide))⟩, (vp_in_nI (by omega) (by decide))⟩ ?_
                  rw [nI_clamp (by omega)]
                  refine join282 j b nx bf2 sl2 u2 v2 _ _ hjn D2 hP nx1 nx2 nx3 hb hbm (hV.skip h235 (y := (M4.1 43 j - b).toInt) (by rw [fb_subI (by omega) (by omega), e43])) (hF4.put (by decide)) (hM4.o) (fun k q1 q2 => ?_) (fun k q1 q2 => by simp [va_up, upd]; exact g44 k q1 q2) (fun k q => by simp [va_up, upd]; exact g45 k q) hk4
                  by_cases e : k = j
                  · subst e; rw [up_s, if_pos rfl]
                  · rw [up_n e, if_neg e]; exact g43 k q1 q2
                · skip
                  rw [nI_clamp (by omega), hju, bo_ne] at h235
                  have hD := D2.1 j h235
                  have hpj := hpn j hjn
                  have e42 := hM4.2.2 j hjn
                  have eu : u2 (p j) = u (p j) := hV.2.1 _ (fun k hk _ e => by have := T.2.2.2.2.1 k j (by omega) hjn e (by rw [e]; exact hD.2.1); omega)
                  have e40 := hM4.1 (p j) (by omega) hpj
                  have huj := hu (p j) (by omega)
                  refine PW.goto rfl ⟨⟨⟨⟨⟨trivial, (vp_in_nI (by omega) (by decide))⟩, (by rw [nI_clamp (by omega), e42]; exact vp_in_nI (by omega) (by decide))⟩, (by rw [nI_clamp (by omega), e42]; exact vp_in_nI (by omega) (by decide))⟩, (vp_in_nI (by omega) (by decide))⟩, (vp_in_nI (by omega) (by decide))⟩ ?_
                  rw [nI_clamp (by omega), e42, nI_clamp (by omega)]
                  refine join282 j b nx bf2 sl2 _ _ sl3 _ hjn D2 hP nx1 nx2 nx3 hb hbm (hV.used h235 hjn hD.2.1 T.2.2.2.2.1 (x := (M4.1 40 (p j) + b).toInt) (y := (M4.1 41 j - b).toInt) (by rw [fb_addI (by omega) (by omega), e40]) (fun h1 => ?_)) ((hF4.put (by decide)).put (by decide)) (hM4.pu.pv) (fun k q1 q2 => by simp [va_up, upd]; exact g43 k q1 q2) (fun k q1 q2 => by simp [va_up, upd]; exact g44 k q1 q2) (fun k q => by simp [va_up, upd]; exact g45 k q) hk4
                  have e41 := hM4.2.1 j h1 hjn
                  have ev : v2 j = v j := by rw [hV.2.2.1 j h1, if_neg (fun z => by omega)]
                  have := hv j h1 hjn
                  rw [fb_subI (by omega) (by omega), e41]
          have loop107 : ∀ k107 : Nat, ∀ (j : Nat) (b : Int32) (nx : Nat) (bf2 : Nat → Nat) (sl2 : Nat → Int) (M4 : Mem), 1 ≤ j → j ≤ n + 1 → (∀ k, 1 ≤ k → k < j → on1 us a k = false → Sp c u v p (on1 us a) bf2 sl2 1000000000 k) → (∀ k, j ≤ k → k ≤ n → on1 us a k = false → Sp c u v p us bf2 sl2 1000000000 k) → (∀ k, on1 us a k = true → bf2 k = bf k) → FI [40, 41, 42, 43, 44, 45] M M4 → MA n u v p M4 → (∀ j, 1 ≤ j → j ≤ n → (M4.1 43 j).toInt = sl2 j) → (∀ k, 1 ≤ k → k ≤ n → (k < j ∨ us 0 = true) → M4.1 44 k = nI (bf2 k)) → (∀ j, j ≤ n → M4.1 45 j = bo (on1 us a j)) → (nx = 0 → b.toInt = 1000000000 ∧ ∀ k, 1 ≤ k → k < j → on1 us a k = true) → (nx ≠ 0 → nx < j ∧ on1 us a nx = false ∧ b.toInt = sl2 nx ∧ ∀ k, 1 ≤ k → k < j → on1 us a k = false → sl2 nx ≤ sl2 k) → n + 1 - j < k107 → PW X l mX8_assign 2 (fun v M' => (∃ (u v2 : Nat → Int) (p : Nat → Nat), Hg c n n u v2 p ∧ v = some (.int (Int32.ofInt (fb_si (fun j => c (p (j + 1)) (j + 1)) n)))) ∧ FI [40, 41, 42, 43, 44, 45] M M') 107 [.ref 29, .int (nI n), .int (nI (R + 1)), .int (nI a), .int (nI (p a)), .int b, .int (nI nx), .int (nI j), .null] [] G0 M4 := by
            intro k107
            induction k107 with
            | zero => intro j b nx bf2 sl2 M4 hj1 hj hP1 hP2 hbf hF4 hM4 g43 g44 g45 hx1 hx2 hk4; exact absurd hk4 (Nat.not_lt_zero _)
            | succ k107 ih107 =>
              intro j b nx bf2 sl2 M4 hj1 hj hP1 hP2 hbf hF4 hM4 g43 g44 g45 hx1 hx2 hk4
              have join213 : ∀ (j : Nat) (b : Int32) (nx : Nat) (bf2 : Nat → Nat) (sl2 : Nat → Int) (M4 : Mem), 1 ≤ j → j ≤ n → (∀ k, 1 ≤ k → k < j + 1 → on1 us a k = false → Sp c u v p (on1 us a) bf2 sl2 1000000000 k) → (∀ k, j + 1 ≤ k → k ≤ n → on1 us a k = false → Sp c u v p us bf2 sl2 1000000000 k) → (∀ k, on1 us a k = true → bf2 k = bf k) → FI [40, 41, 42, 43, 44, 45] M M4 → MA n u v p M4 → (∀ j, 1 ≤ j → j ≤ n → (M4.1 43 j).toInt = sl2 j) → (∀ k, 1 ≤ k → k ≤ n → (k < j + 1 ∨ us 0 = true) → M4.1 44 k = nI (bf2 k)) → (∀ j, j ≤ n → M4.1 45 j = bo (on1 us a j)) → (nx = 0 → b.toInt = 1000000000 ∧ ∀ k, 1 ≤ k → k < j + 1 → on1 us a k = true) → (nx ≠ 0 → nx < j + 1 ∧ on1 us a nx = false ∧ b.toInt = sl2 nx ∧ ∀ k, 1 ≤ k → k < j + 1 → on1 us a k = false → sl2 nx ≤ sl2 k) → n + 1 - j < k107 + 1 → PW X l mX8_assign 2 (fun v M' => (∃ (u v2 : Nat → Int) (p : Nat → Nat), Hg c n n u v2 p ∧ v = some (.int (Int32.ofInt (fb_si (fun j => c (p (j + 1)) (j + 1)) n)))) ∧ FI [40, 41, 42, 43, 44, 45] M M') 213 [.ref 29, .int (nI n), .int (nI (R + 1)), .int (nI a), .int (nI (p a)), .int b, .int (nI nx), .int (nI j), .null] [] G0 M4 := by
                intro j b nx bf2 sl2 M4 hj1 hjn hP1 hP2 hbf hF4 hM4 g43 g44 g45 hx1 hx2 hk4
                refine PW.goto rfl trivial ?_
                rw [nI_1]
                exact ih107 (j + 1) b nx bf2 sl2 M4 (by omega) (by omega) hP1 hP2 hbf hF4 hM4 g43 g44 g45 hx1 hx2 (by omega)
              have join188 : ∀ (j : Nat) (b : Int32) (nx : Nat) (x : Int32) (bf2 : Nat → Nat) (sl2 : Nat → Int) (M4 : Mem), 1 ≤ j → j ≤ n → on1 us a j = false → (∀ k, 1 ≤ k → k < j + 1 → on1 us a k = false → Sp c u v p (on1 us a) bf2 sl2 1000000000 k) → (∀ k, j + 1 ≤ k → k ≤ n → on1 us a k = false → Sp c u v p us bf2 sl2 1000000000 k) → (∀ k, on1 us a k = true → bf2 k = bf k) → FI [40, 41, 42, 43, 44, 45] M M4 → MA n u v p M4 → (∀ j, 1 ≤ j → j ≤ n → (M4.1 43 j).toInt = sl2 j) → (∀ k, 1 ≤ k → k ≤ n → (k < j + 1 ∨ us 0 = true) → M4.1 44 k = nI (bf2 k)) → (∀ j, j ≤ n → M4.1 45 j = bo (on1 us a j)) → (nx = 0 → b.toInt = 1000000000 ∧ ∀ k, 1 ≤ k → k < j → on1 us a k = true) → (nx ≠ 0 → nx < j ∧ on1 us a nx = false ∧ b.toInt = sl2 nx ∧ ∀ k, 1 ≤ k → k < j → on1 us a k = false → sl2 nx ≤ sl2 k) → n + 1 - j < k107 + 1 → PW X l mX8_assign 2 (fun v M' => (∃ (u v2 : Nat → Int) (p : Nat → Nat), Hg c n n u v2 p ∧ v = some (.int (Int32.ofInt (fb_si (fun j => c (p (j + 1)) (j + 1)) n)))) ∧ FI [40, 41, 42, 43, 44, 45] M M') 188 [.ref 29, .int (nI n), .int (nI (R + 1)), .int (nI a), .int (nI (p a)), .int b, .int (nI nx), .int (nI j), .int x] [] G0 M4 := by
                intro j b nx x bf2 sl2 M4 hj1 hjn hju hP1 hP2 hbf hF4 hM4 g43 g44 g45 hx1 hx2 hk4
                have e43 := g43 j hj1 hjn
                have hq := (hP1 j hj1 (by omega) hju).1 0 ha0
                have hlt : sl2 j < 1000000000 := by
                  have := hK (p 0) j; have := hv j hj1 hjn; have := hu (p 0) (by rw [T.1]; omega); omega
                refine PW.ige rfl ⟨trivial, vp_in_nI (by omega) (by decide)⟩ (fun h197 => ?_) (fun h197 => ?_)
                · skip
                  rw [nI_clamp (by omega), Int32.le_iff_toInt_le, e43] at h197
                  refine PW.nl [8] ?_
                  refine PW.lc rfl (join213 j b nx bf2 sl2 M4 hj1 hjn hP1 hP2 hbf hF4 hM4 g43 g44 g45 (fun q => ?_) (fun q => ?_) hk4)
                  · have := (hx1 q).1; omega
                  · have t := hx2 q
                    refine ⟨by omega, t.2.1, t.2.2.1, fun k q1 q2 q3 => ?_⟩
                    by_cases e : k = j
                    · subst e; have := t.2.2.1; omega
                    · exact t.2.2.2 k q1 (by omega) q3
                · skip
                  rw [nI_clamp (by omega), Int32.le_iff_toInt_le, e43] at h197
                  refine PW.to 213 rfl ⟨trivial, vp_in_nI (by omega) (by decide)⟩ ?_
                  rw [nI_clamp (by omega)]
                  refine PW.nl [8] ?_
                  refine PW.lc rfl (join213 j _ j bf2 sl2 M4 hj1 hjn hP1 hP2 hbf hF4 hM4 g43 g44 g45 (fun q => by omega) (fun _ => ⟨by omega, hju, e43, fun k q1 q2 q3 => ?_⟩) hk4)
                  by_cases e : k = j
                  · rw [e]; exact Int.le_refl _
                  · by_cases z : nx = 0
                    · rw [(hx1 z).2 k q1 (by omega)] at q3; cases q3
                    · have t := hx2 z
                      have := t.2.2.2 k q1 (by omega) q3
                      have := t.2.2.1
                      omega
              refine PW.igt rfl trivial (fun h110 => ?_) (fun h110 => ?_)
              · skip
                rw [nI_ltI (by omega) (by omega)] at h110
                have e9 : j = n + 1 := by omega
                subst e9
                refine PW.to 222 rfl trivial ?_
                refine PW.nl [4, 8] ?_
                have hnx : nx ≠ 0 := fun q => by
                  obtain ⟨f, f1, f2, f3⟩ := T.free
                  have z := (hx1 q).2 f f1 (by omega)
                  exact (D1.1 f z).2.1 f3
                have t := hx2 hnx
                have D2 := D1.cong hbf
                exact loop222 (n + 2) 0 b nx bf2 sl2 u v sl2 M4 (by omega) D2 (fun k q1 q2 q3 => hP1 k q1 (by omega) q3) (by omega) (by omega) t.2.1 t.2.2.1 (fun k q1 q2 q3 => by rw [t.2.2.1]; exact t.2.2.2 k q1 (by omega) q3) Mv.start hF4 hM4 g43 (fun k q1 q2 => g44 k q1 q2 (Or.inl (by omega))) g45 (by omega)
              · skip
                rw [nI_ltI (by omega) (by omega)] at h110
                have hjn : j ≤ n := by omega
                have hju := g45 j hjn
                refine PW.zne rfl ⟨trivial, vp_in_nI (by omega) (by decide)⟩ (fun h120 => ?_) (fun h120 => ?_)
                · skip
                  rw [nI_clamp (by omega), hju, bo_ne] at h120
                  refine PW.lc rfl (join213 j b nx bf2 sl2 M4 hj1 hjn (fun k q1 q2 q3 => hP1 k q1 (by
                    have : k ≠ j := fun e => by rw [e, h120] at q3; cases q3
                    omega) q3) (fun k q1 q2 q3 => hP2 k (by omega) q2 q3) hbf hF4 hM4 g43 (fun k q1 q2 q3 => ?_) g45 (fun q => ⟨(hx1 q).1, fun k q1 q2 => ?_⟩) (fun q => ?_) hk4)
                  · rcases q3 with z | z
                    · by_cases e : k = j
                      · subst e
                        refine g44 k q1 q2 (Or.inr ?_)
                        by_cases ea : a = 0
                        · rw [on1_n (by omega), E.2.2.1 ea k] at h120; cases h120
                        · exact (E.2.2.2 ea).1
                      · exact g44 k q1 q2 (Or.inl (by omega))
                    · exact g44 k q1 q2 (Or.inr z)
                  · by_cases e : k = j
                    · rw [e]; exact h120
                    · exact (hx1 q).2 k q1 (by omega)
                  · have := hx2 q
                    exact ⟨by omega, this.2.1, this.2.2.1, fun k q1 q2 q3 => this.2.2.2 k q1 (by
                      have : k ≠ j := fun e => by rw [e, h120] at q3; cases q3
                      omega) q3⟩
                · skip
                  rw [nI_clamp (by omega), hju, bo_eq] at h120
                  have hpr := hpn a han
                  have hPj := hP2 j (Nat.le_refl _) hjn h120
                  have e38 : M4.1 38 (p a) = nI (fr (p a)) := by rw [hF4.1 38 (by decide)]; exact h38 _ (by omega) hpr
                  have e39 : M4.1 39 j = nI (to j) := by rw [hF4.1 39 (by decide)]; exact h39 _ hj1 hjn
                  have hfp := hfr (p a)
                  have htp := hto j
                  have hvj := hv j hj1 hjn
                  have hua := hu (p a) (by omega)
                  have hKj := hK (p a) j
                  have h0j := h0 (p a) j
                  have hcj := hcs j hj1 hjn
                  have e40 := hM4.1 (p a) (by omega) hpr
                  have e41 := hM4.2.1 j hj1 hjn
                  have e43 := g43 j hj1 hjn
                  refine PW.funV rfl ⟨⟨trivial, (vp_in_nI (by omega) (by decide))⟩, (vp_in_nI (by omega) (by decide))⟩ sX8_163 rfl rfl (by decide) rfl (show PF X l mX8_steps 1 [.ref 29, .int (M4.1 38 (nI (p a)).toNatClampNeg), .int (M4.1 39 (nI j).toNatClampNeg)] G0 M4 (.int (nI (ad (fr (p a) % w) (to j % w) + ad (fr (p a) / w) (to j / w)))) from by rw [nI_clamp (by omega), nI_clamp (by omega), e38, e39]; exact m_steps _ _ (by omega) (by omega) Hw (H.fi hF4)) ?_
                  obtain ⟨x0, ex0⟩ : ∃ x0 : Int32, x0 = nI (ad (fr (p a) % w) (to j % w) + ad (fr (p a) / w) (to j / w)) := ⟨_, rfl⟩
                  have ex1 : x0.toInt = c (p a) j := by
                    rw [ec] at hKj ⊢
                    rw [ex0]; unfold stp at hKj ⊢
                    exact nI_toInt (by omega)
                  rw [← ex0]
                  refine PW.ige rfl ⟨⟨⟨trivial, (vp_in_nI (by omega) (by decide))⟩, (vp_in_nI (by omega) (by decide))⟩, (vp_in_nI (by omega) (by decide))⟩ (fun h168 => ?_) (fun h168 => ?_)
                  · skip
                    rw [nI_clamp (by omega), nI_clamp (by omega)]
                    rw [nI_clamp (by omega), nI_clamp (by omega)] at h168
                    obtain ⟨x, ex⟩ : ∃ x : Int32, x = x0 - M4.1 40 (p a) - M4.1 41 j := ⟨_, rfl⟩
                    have hx9 : x.toInt = c (p a) j - u (p a) - v j := by
                      have q1 : (x0 - M4.1 40 (p a)).toInt = x0.toInt - (M4.1 40 (p a)).toInt := fb_subI (by omega) (by omega)
                      rw [ex, fb_subI (by omega) (by omega), q1, ex1, e40, e41]
                    rw [← ex] at h168
                    rw [← ex]
                    rw [Int32.le_iff_toInt_le, e43, hx9] at h168
                    refine join188 j b nx x bf2 sl2 M4 hj1 hjn h120 (fun k q1 q2 q3 => ?_) (fun k q1 q2 q3 => hP2 k (by omega) q2 q3) hbf hF4 hM4 g43 (fun k q1 q2 q3 => ?_) g45 hx1 hx2 hk4
                    · by_cases e : k = j
                      · subst e; exact hPj.look (hcs k hj1 hjn) (by rw [if_neg (by omega)]) (by rw [if_neg (by omega)])
                      · exact hP1 k q1 (by omega) q3
                    · rcases q3 with z | z
                      · by_cases e : k = j
                        · subst e
                          refine g44 k q1 q2 (Or.inr ?_)
                          by_cases ea : a = 0
                          · have := hPj.2.2 (E.2.2.1 ea); omega
                          · exact (E.2.2.2 ea).1
                        · exact g44 k q1 q2 (Or.inl (by omega))
                      · exact g44 k q1 q2 (Or.inr z)
                  · skip
                    rw [nI_clamp (by omega), nI_clamp (by omega)]
                    rw [nI_clamp (by omega), nI_clamp (by omega)] at h168
                    obtain ⟨x, ex⟩ : ∃ x : Int32, x = x0 - M4.1 40 (p a) - M4.1 41 j := ⟨_, rfl⟩
                    have hx9 : x.toInt = c (p a) j - u (p a) - v j := by
                      have q1 : (x0 - M4.1 40 (p a)).toInt = x0.toInt - (M4.1 40 (p a)).toInt := fb_subI (by omega) (by omega)
                      rw [ex, fb_subI (by omega) (by omega), q1, ex1, e40, e41]
                    rw [← ex] at h168
                    rw [← ex]
                    rw [Int32.le_iff_toInt_le, e43, hx9] at h168
                    refine PW.to 188 rfl ⟨⟨trivial, (vp_in_nI (by omega) (by decide))⟩, (vp_in_nI (by omega) (by decide))⟩ ?_
                    rw [nI_clamp (by omega)]
                    refine join188 j b nx x (fun k => if k = j then a else bf2 k) (fun k => if k = j then x.toInt else sl2 k) _ hj1 hjn h120 (fun k q1 q2 q3 => ?_) (fun k q1 q2 q3 => ?_) (fun k q => ?_) ((hF4.put (by decide)).put (by decide)) (hM4.o.o) (fun k q1 q2 => ?_) (fun k q1 q2 q3 => ?_) (fun k q => ?_) hx1 (fun q => ?_) hk4
                    · by_cases e : k = j
                      · subst e; exact hPj.look (hcs k hj1 hjn) (by rw [if_pos rfl, if_pos (by omega)]; exact hx9) (by rw [if_pos rfl, if_pos (by omega)])
                      · exact (hP1 k q1 (by omega) q3).cong (if_neg e) (if_neg e)
                    · exact (hP2 k (by omega) q2 q3).cong (if_neg (by omega)) (if_neg (by omega))
                    · rw [if_neg (fun e => by rw [e, h120] at q; cases q)]; exact hbf k q
                    · by_cases e : k = j
                      · subst e; simp [va_up, upd]
                      · simp [va_up, upd, e]; exact g43 k q1 q2
                    · by_cases e : k = j
                      · subst e; simp [va_up, upd]
                      · simp [va_up, upd, e]; exact g44 k q1 q2 (q3.elim (fun z => Or.inl (by omega)) Or.inr)
                    · simp [va_up, upd]; exact g45 k q
                    · have := hx2 q
                      rw [if_neg (by omega)]
                      exact ⟨this.1, this.2.1, this.2.2.1, fun k q1 q2 q3 => by rw [if_neg (by omega)]; exact this.2.2.2 k q1 q2 q3⟩
          refine PW.to 107 rfl ⟨⟨trivial, vp_in_nI (by omega) (by decide)⟩, vp_in_nI (by omega) (by decide)⟩ ?_
          rw [nI_clamp (by omega), show ((va_up M3.1 45 (upd (M3.1 45) a (vp_nar .boolean 1)), M3.2) : Mem).1 42 a = nI (p a) from by rw [up_o (by decide)]; exact hM3.2.2 a han]
          refine loop107 (n + 2) 1 (nI 1000000000) 0 bf sl _ (by omega) (by omega) (fun k a b => by omega) (fun k a1 b q => hS k (by omega) b (by
            by_cases e : k = a
            · subst e; rw [on1_s] at q; cases q
            · rw [on1_n e] at q; exact q)) (fun _ _ => rfl) (hF3.put (by decide)) hM3.o (fun j a b => by rw [up_o (by decide)]; exact h43 j a b) (fun j a b q => by rw [up_o (by decide)]; exact h44 (q.resolve_left (by omega)) j a b) (fun j b => ?_) (fun _ => ⟨rfl, fun k a b => by omega⟩) (fun q => absurd rfl q) (by omega)
          by_cases e : j = a
          · subst e; rw [up_s, on1_s]; rfl
          · rw [up_n e, on1_n e]; exact h45 j b
      have loop53 : ∀ k53 : Nat, ∀ (j : Nat) (M3 : Mem), R < n → j ≤ n + 1 → FI [40, 41, 42, 43, 44, 45] M M3 → MA n u v (fun k => if k = 0 then R + 1 else p k) M3 → (∀ k, k < j → M3.1 43 k = nI 1000000000 ∧ M3.1 45 k = 0) → n + 1 - j < k53 → PW X l mX8_assign 2 (fun v M' => (∃ (u v2 : Nat → Int) (p : Nat → Nat), Hg c n n u v2 p ∧ v = some (.int (Int32.ofInt (fb_si (fun j => c (p (j + 1)) (j + 1)) n)))) ∧ FI [40, 41, 42, 43, 44, 45] M M') 53 [.ref 29, .int (nI n), .int (nI (R + 1)), .int (nI 0), .int (nI j), .null, .null, .null, .null] [] G0 M3 := by
        intro k53
        induction k53 with
        | zero => intro j M3 hRn hj hF3 hM3 hz hk3; exact absurd hk3 (Nat.not_lt_zero _)
        | succ k53 ih53 =>
          intro j M3 hRn hj hF3 hM3 hz hk3
          refine PW.igt rfl trivial (fun h56 => ?_) (fun h56 => ?_)
          · skip
            rw [nI_ltI (by omega) (by omega)] at h56
            have e9 : j = n + 1 := by omega
            subst e9
            refine PW.nl [4] ?_
            have T0 : Tr c n (R + 1) u v (fun k => if k = 0 then R + 1 else p k) := hH.tr h0 hRn rfl (fun j a b => if_neg (by omega))
            exact loop82 (n + 2) 0 0 u v (fun k => if k = 0 then R + 1 else p k) (fun _ => false) (fun _ => 0) (fun _ => 0) (fun _ => 1000000000) M3 T0 ⟨fun j q => absurd q (by simp), fun j q => absurd q (by simp)⟩ ⟨by omega, rfl, fun _ _ => rfl, fun q => absurd rfl q⟩ (fun j a b _ => ⟨fun k q => absurd q (by simp), fun ⟨k, q⟩ => absurd q (by simp), fun _ => rfl⟩) (by rw [if_pos rfl]; omega) hF3 hM3 (fun j a b => by rw [(hz j (by omega)).1]; rfl) (fun q => absurd q (by simp)) (fun j b => (hz j (by omega)).2) (by omega)
          · skip
            rw [nI_ltI (by omega) (by omega)] at h56
            refine PW.goto rfl ⟨⟨trivial, vp_in_nI (by omega) (by decide)⟩, vp_in_nI (by omega) (by decide)⟩ ?_
            rw [nI_clamp (by omega), nI_1]
            refine ih53 (j + 1) _ hRn (by omega) ((hF3.put (by decide)).put (by decide)) (hM3.o.o) (fun k hk => ?_) (by omega)
            by_cases q : k = j
            · subst q; simp [va_up, upd]; exact ⟨rfl, rfl⟩
            · have := hz k (by omega); simp [va_up, upd, q]; exact this
      refine PW.igt rfl trivial (fun h38 => ?_) (fun h38 => ?_)
      · skip
        rw [nI_ltI (by omega) (by omega)] at h38
        have e9 : R = n := by omega
        subst e9
        refine PW.to 341 rfl trivial ?_
        exact PW.lc rfl (loop341 (R + 1) 0 u v p M2 (by omega) hF hM hH (by omega))
      · skip
        rw [nI_ltI (by omega) (by omega)] at h38
        have hRn : R < n := by omega
        refine PW.to 53 rfl ⟨trivial, vp_in_nI (n := 0) (by decide) (by decide)⟩ ?_
        refine loop53 (n + 2) 0 _ (by omega) (by omega) (hF.put (by decide)) (hM.pp (a := 0)) (fun k hk => by omega) (by omega)
  have loop2 : ∀ k : Nat, ∀ (j : Nat) (M2 : Mem), j ≤ n + 1 → FI [40, 41, 42, 43, 44, 45] M M2 → (∀ k, k < j → M2.1 40 k = 0 ∧ M2.1 41 k = 0 ∧ M2.1 42 k = 0) → n + 1 - j < k → PW X l mX8_assign 2 (fun v M' => (∃ (u v2 : Nat → Int) (p : Nat → Nat), Hg c n n u v2 p ∧ v = some (.int (Int32.ofInt (fb_si (fun j => c (p (j + 1)) (j + 1)) n)))) ∧ FI [40, 41, 42, 43, 44, 45] M M') 2 [.ref 29, .int (nI n), .int (nI j), .null, .null, .null, .null, .null, .null] [] G0 M2 := by
    intro k
    induction k with
    | zero => intro j M2 hj hF hz hk; exact absurd hk (Nat.not_lt_zero _)
    | succ k ih =>
      intro j M2 hj hF hz hk
      refine PW.igt rfl trivial (fun h4 => ?_) (fun h4 => ?_)
      · skip
        rw [nI_ltI (by omega) (by omega)] at h4
        have e9 : j = n + 1 := by omega
        subst e9
        refine PW.to 36 rfl trivial ?_
        exact loop36 (n + 1) 0 (fun _ => 0) (fun _ => 0) (fun _ => 0) M2 (Nat.zero_le _) hF ⟨fun r _ b => by rw [(hz r (by omega)).1]; rfl, fun r _ b => by rw [(hz r (by omega)).2.1]; rfl, fun r b => (hz r (by omega)).2.2⟩ (Hg.start (fun _ => rfl) (fun _ _ _ => rfl) (fun _ _ _ => rfl)) (by omega)
      · skip
        rw [nI_ltI (by omega) (by omega)] at h4
        refine PW.goto rfl ⟨⟨⟨trivial, vp_in_nI (by omega) (by decide)⟩, vp_in_nI (by omega) (by decide)⟩, vp_in_nI (by omega) (by decide)⟩ ?_
        rw [nI_clamp (by omega), nI_1]
        refine ih (j + 1) _ (by omega) (((hF.put (by decide)).put (by decide)).put (by decide)) (fun k hk => ?_) (by omega)
        by_cases q : k = j
        · subst q; simp [va_up, upd]
        · have := hz k (by omega); simp [va_up, upd, q]; exact this
  refine PW.to 2 rfl trivial ?_
  exact loop2 (n + 2) 0 M (by omega) FI.rf (fun k hk => by omega) (by omega)
end M13
end
section
-- made by wip/whole/mk_m14.py
section M14
variable {X : Cx} {l : Launch} {M : Mem}
theorem p_carried {w h : Nat} {mp dr hd : Nat → Nat} {wy : Nat} {vt : Nat → Nat} (F : Sf w h mp dr hd wy vt) (S : SM w h mp dr hd wy vt M) (lv : Int32) : PC X l mX8_carried 4 [.ref 29, .int lv] G0 M (fun v M' => v = some (.int (if okl 5 lv = true then (if many mp (tn lv) (w * h) = many dr (tn lv) (w * h) then (Int32.ofInt (carV (w * h) (stp w) (fun x => decide (mp x = tn lv)) (fun x => decide (dr x = tn lv)))) else -3) else -1)) ∧ (SM w h mp dr hd wy vt M' ∧ FM M M')) := by
  refine PC.ofW okX8_carried ?_
  have hn := F.1.n
  have S0 := (S.fj (th0 M (A := []))).1
  have hw0 : 0 < w * h := Nat.mul_pos (by have := F.1.1; omega) (by have := F.1.2.2.1; omega)
  have loop42 : ∀ k : Nat, ∀ (j i : Nat) (fr to : Nat → Nat) (M2 : Mem), j ≤ 5 → many mp j (w * h) = many dr j (w * h) → i ≤ w * h → FJ [38, 39] M M2 → (∀ k, fr k < w * h) → (∀ k, to k < w * h) → En (fun x => decide (mp x = j)) fr i (many mp j (i)) → En (fun x => decide (dr x = j)) to i (many dr j (i)) → (∀ k, 1 ≤ k → k ≤ many mp j (i) → M2.1 38 k = nI (fr k)) → (∀ k, 1 ≤ k → k ≤ many dr j (i) → M2.1 39 k = nI (to k)) → w * h - i < k → PW X l mX8_carried 4 (fun v M' => v = some (.int (Int32.ofInt (carV (w * h) (stp w) (fun x => decide (mp x = j)) (fun x => decide (dr x = j))))) ∧ (SM w h mp dr hd wy vt M' ∧ FM M M')) 42 [.ref 29, .int (nI j), .int (nI (many mp j (w * h))), .int (nI (many mp j (i))), .int (nI (many dr j (i))), .int (nI i)] [] G0 M2 := by
    intro k
    induction k with
    | zero => intro j i fr to M2 hj hmm hi J hf1 hf2 EA EB g38 g39 hk; exact absurd hk (Nat.not_lt_zero _)
    | succ k ih =>
      intro j i fr to M2 hj hmm hi J hf1 hf2 EA EB g38 g39 hk
      obtain ⟨S2, FM2⟩ := S.fj J
      have hml := many_le mp j i
      have hdl := many_le dr j i
      have hm6 := F.1.2.2.2.2.1 i
      have hd6 := F.1.2.2.2.2.2.1 i
      have join101 : ∀ (i : Nat) (fr to : Nat → Nat) (M2 : Mem), j ≤ 5 → many mp j (w * h) = many dr j (w * h) → i < w * h → FJ [38, 39] M M2 → (∀ k, fr k < w * h) → (∀ k, to k < w * h) → En (fun x => decide (mp x = j)) fr (i + 1) (many mp j ((i + 1))) → En (fun x => decide (dr x = j)) to (i + 1) (many dr j ((i + 1))) → (∀ k, 1 ≤ k → k ≤ many mp j ((i + 1)) → M2.1 38 k = nI (fr k)) → (∀ k, 1 ≤ k → k ≤ many dr j ((i + 1)) → M2.1 39 k = nI (to k)) → w * h - i < k + 1 → PW X l mX8_carried 4 (fun v M' => v = some (.int (Int32.ofInt (carV (w * h) (stp w) (fun x => decide (mp x = j)) (fun x => decide (dr x = j))))) ∧ (SM w h mp dr hd wy vt M' ∧ FM M M')) 101 [.ref 29, .int (nI j), .int (nI (many mp j (w * h))), .int (nI (many mp j (i + 1))), .int (nI (many dr j (i + 1))), .int (nI i)] [] G0 M2 := by
        intro i fr to M2 hj hmm hin J hf1 hf2 EA EB g38 g39 hk
        refine PW.goto rfl trivial ?_
        rw [nI_1]
        exact ih j (i + 1) fr to M2 hj hmm (by omega) J hf1 hf2 EA EB g38 g39 (by omega)
      have join78 : ∀ (i : Nat) (fr to : Nat → Nat) (M2 : Mem), j ≤ 5 → many mp j (w * h) = many dr j (w * h) → i < w * h → FJ [38, 39] M M2 → (∀ k, fr k < w * h) → (∀ k, to k < w * h) → En (fun x => decide (mp x = j)) fr (i + 1) (many mp j (i + 1)) → En (fun x => decide (dr x = j)) to i (many dr j (i)) → (∀ k, 1 ≤ k → k ≤ many mp j (i + 1) → M2.1 38 k = nI (fr k)) → (∀ k, 1 ≤ k → k ≤ many dr j (i) → M2.1 39 k = nI (to k)) → w * h - i < k + 1 → PW X l mX8_carried 4 (fun v M' => v = some (.int (Int32.ofInt (carV (w * h) (stp w) (fun x => decide (mp x = j)) (fun x => decide (dr x = j))))) ∧ (SM w h mp dr hd wy vt M' ∧ FM M M')) 78 [.ref 29, .int (nI j), .int (nI (many mp j (w * h))), .int (nI (many mp j (i + 1))), .int (nI (many dr j (i))), .int (nI i)] [] G0 M2 := by
        intro i fr to M2 hj hmm hin J hf1 hf2 EA EB g38 g39 hk
        obtain ⟨S2, FM2⟩ := S.fj J
        have hml := many_le mp j i
        have hdl := many_le dr j i
        have hm6 := F.1.2.2.2.2.1 i
        have hd6 := F.1.2.2.2.2.2.1 i
        have hml1 := many_le mp j (i + 1)
        refine PW.ine rfl ⟨trivial, vp_in_nI (by omega) (by decide)⟩ (fun h86 => ?_) (fun h86 => ?_)
        · skip
          rw [nI_clamp (by omega), S2.1.2.2.2 i (by omega), nI_eq (by omega) (by omega)] at h86
          have em : many dr j (i + 1) = many dr j i := by unfold many; rw [fb_ct_succ, if_neg (by simpa using h86), Nat.add_zero]
          refine PW.lc (by rw [← em]) (join101 i fr to M2 hj hmm hin J hf1 hf2 EA (by rw [em]; exact EB.skip (by simpa using h86)) g38 (by rw [em]; exact g39) hk)
        · skip
          rw [nI_clamp (by omega), S2.1.2.2.2 i (by omega), nI_eq (by omega) (by omega)] at h86
          have em : many dr j (i + 1) = many dr j i + 1 := by unfold many; rw [fb_ct_succ, if_pos (by simpa using h86)]
          refine PW.to 101 rfl ⟨trivial, (by rw [nI_1]; exact vp_in_nI (by omega) (by decide))⟩ ?_
          rw [nI_1, nI_clamp (by omega)]
          refine PW.lc (by rw [← em]) (join101 i fr (fun k => if k = many dr j i + 1 then i else to k) _ hj hmm hin (J.put (by decide)) hf1 (fun k => ?_) EA ?_ (fun k q1 q2 => ?_) (fun k q1 q2 => ?_) hk)
          · split
            · exact hin
            · exact hf2 k
          · rw [em]; exact EB.add (by simpa using h86) (if_pos rfl) (fun k hk => if_neg (by omega))
          · rw [up_o (by decide)]; exact g38 k q1 q2
          · by_cases e : k = many dr j i + 1
            · subst e; rw [up_s, if_pos rfl]
            · rw [up_n e, if_neg e]; exact g39 k q1 (by omega)
      refine PW.ige rfl trivial (fun h53 => ?_) (fun h53 => ?_)
      · skip
        rw [S2.1.wh, nI_leI (by omega) (by omega)] at h53
        have e9 : i = w * h := by omega
        subst e9
        refine PW.callV rfl trivial sX8_166 rfl rfl (by decide) rfl (m_assign F.1 S2.1 (many mp j (w * h)) (by omega) fr to (fun a b => stp w (fr a) (to b)) (fun _ _ => rfl) hf1 hf2 g38 (by rw [hmm]; exact g39)) (fun v109 M109 hq109 => ?_)
        obtain ⟨⟨u, v2, p, hH, rfl⟩, hF9⟩ := hq109
        have J9 := J.mono (B := [38, 39, 40, 41, 42, 43, 44, 45]) (by decide)
        obtain ⟨S9, FM9⟩ := S.fj (J9.tr (hF9.fj (by decide)))
        have ex := (hH.isx EA (by rw [hmm]; exact EB)).eq
        refine PW.iret rfl rfl trivial ?_
        exact ⟨by rw [ex], S9, FM9⟩
      · skip
        rw [S2.1.wh, nI_leI (by omega) (by omega)] at h53
        have hin : i < w * h := by omega
        refine PW.ine rfl ⟨trivial, vp_in_nI (by omega) (by decide)⟩ (fun h64 => ?_) (fun h64 => ?_)
        · skip
          rw [nI_clamp (by omega), S2.1.2.2.1 i (by omega), nI_eq (by omega) (by omega)] at h64
          have em : many mp j (i + 1) = many mp j i := by unfold many; rw [fb_ct_succ, if_neg (by simpa using h64), Nat.add_zero]
          refine PW.lc (by rw [← em]) (join78 i fr to M2 hj hmm hin J hf1 hf2 (by rw [em]; exact EA.skip (by simpa using h64)) EB (by rw [em]; exact g38) g39 hk)
        · skip
          rw [nI_clamp (by omega), S2.1.2.2.1 i (by omega), nI_eq (by omega) (by omega)] at h64
          have em : many mp j (i + 1) = many mp j i + 1 := by unfold many; rw [fb_ct_succ, if_pos (by simpa using h64)]
          refine PW.to 78 rfl ⟨trivial, (by rw [nI_1]; exact vp_in_nI (by omega) (by decide))⟩ ?_
          rw [nI_1, nI_clamp (by omega)]
          refine PW.lc (by rw [← em]) (join78 i (fun k => if k = many mp j i + 1 then i else fr k) to _ hj hmm hin (J.put (by decide)) (fun k => ?_) hf2 ?_ EB (fun k q1 q2 => ?_) (fun k q1 q2 => ?_) hk)
          · split
            · exact hin
            · exact hf1 k
          · rw [em]; exact EA.add (by simpa using h64) (if_pos rfl) (fun k hk => if_neg (by omega))
          · by_cases e : k = many mp j i + 1
            · subst e; rw [up_s, if_pos rfl]
            · rw [up_n e, if_neg e]; exact g38 k q1 (by omega)
          · rw [up_o (by decide)]; exact g39 k q1 q2
  refine PW.funS rfl trivial sX8_103 rfl (by decide) rfl (m_noLand _) ?_
  refine PW.zeq rfl trivial (fun h9 => ?_) (fun h9 => ?_)
  · skip
    rw [bn_eq] at h9
    change okl 5 lv = true at h9
    obtain ⟨j, hj, rfl⟩ := okl_x (m := 5) h9
    refine PW.funV rfl trivial sX8_106 rfl rfl (by decide) rfl (m_manyOf 0 j (by omega) F.1 S0.1) ?_
    refine PW.funV rfl trivial sX8_106 rfl rfl (by decide) rfl (m_manyOf 1 j (by omega) F.1 S0.1) ?_
    rw [show sl 1 mp dr = dr from rfl, show sl 0 mp dr = mp from rfl]
    have h1m := many_le mp j (w * h)
    have h1d := many_le dr j (w * h)
    refine PW.ieq rfl trivial (fun h28 => ?_) (fun h28 => ?_)
    · skip
      rw [nI_eq (by omega) (by omega)] at h28
      refine PW.to 42 rfl trivial ?_
      refine PW.post (fun v M2 q => ?_) (loop42 (w * h + 1) j 0 (fun _ => 0) (fun _ => 0) (va_up M.1 29 (upd (M.1 29) 0 0), M.2) (by omega) h28 (Nat.zero_le _) (th0 M) (fun _ => hw0) (fun _ => hw0) En.zero En.zero (fun k a b => absurd b (by have : many mp j 0 = 0 := rfl; omega)) (fun k a b => absurd b (by have : many dr j 0 = 0 := rfl; omega)) (by omega))
      rw [if_t h9, tn_nI (by omega), if_pos h28]; exact q
    · skip
      rw [nI_eq (by omega) (by omega)] at h28
      refine PW.iret rfl rfl trivial ?_
      exact ⟨by rw [if_t h9, tn_nI (by omega), if_neg h28], S.fj (th0 M (A := []))⟩
  · skip
    rw [bn_ne] at h9
    change okl 5 lv = false at h9
    refine PW.iret rfl rfl trivial ?_
    exact ⟨by rw [if_f h9], S.fj (th0 M (A := []))⟩
end M14
end
section
/-! the best tiles -/
def msm (g : Nat → Nat) (P : Nat → Bool) (n : Nat) : Nat := fb_sm (fun c => if P c = true then g c else 0) n
/-- how far a land's cells lie off a cell -/
def ofo (w n : Nat) (mp : Nat → Nat) (l c : Nat) : Nat :=
  ad (many mp l n * (c % w)) (msm (fun c => c % w) (fun c => decide (mp c = l)) n) * ad (many mp l n * (c % w)) (msm (fun c => c % w) (fun c => decide (mp c = l)) n)
  + ad (many mp l n * (c / w)) (msm (fun c => c / w) (fun c => decide (mp c = l)) n) * ad (many mp l n * (c / w)) (msm (fun c => c / w) (fun c => decide (mp c = l)) n)
def Tl (mp : Nat → Nat) (n l : Nat) : Bool := decide (0 < many mp l n)
def Pl (T : Nat → Bool) (n : Nat) (f : Nat → Nat) : Prop := (∀ l, l < 6 → T l = true → f l < n) ∧ ∀ l m, l < 6 → m < 6 → T l = true → T m = true → f l = f m → l = m
def Co (T : Nat → Bool) (o : Nat → Nat → Nat) (f : Nat → Nat) : Nat := fb_sm (fun l => if T l = true then o l (f l) else 0) 6
def dig (T : Nat → Bool) (f : Nat → Nat) : Nat := fb_sm (fun l => if T l = true then f l * 36 ^ (5 - l) else 0) 6
def Best (T : Nat → Bool) (n : Nat) (o : Nat → Nat → Nat) (f : Nat → Nat) : Prop := Pl T n f ∧ ∀ g, Pl T n g → Co T o f * 2176782336 + dig T f ≤ Co T o g * 2176782336 + dig T g
theorem dig_six (T : Nat → Bool) (f : Nat → Nat) : dig T f = (if T 0 = true then f 0 else 0) * 60466176 + (if T 1 = true then f 1 else 0) * 1679616 + (if T 2 = true then f 2 else 0) * 46656 + (if T 3 = true then f 3 else 0) * 1296 + (if T 4 = true then f 4 else 0) * 36 + (if T 5 = true then f 5 else 0) := by
  have e : ∀ l, (if T l = true then f l * 36 ^ (5 - l) else 0) = (if T l = true then f l else 0) * 36 ^ (5 - l) := fun l => by split <;> simp
  unfold dig
  simp only [fb_sm, e]
  omega
theorem Pl.le {T : Nat → Bool} {n : Nat} {f : Nat → Nat} (h : Pl T n f) (hn : n ≤ 36) {l : Nat} (hl : l < 6) : (if T l = true then f l else 0) ≤ 35 := by
  split
  · rename_i q; have := h.1 l hl q; omega
  · omega
theorem Pl.dig {T : Nat → Bool} {n : Nat} {f : Nat → Nat} (h : Pl T n f) (hn : n ≤ 36) : dig T f < 2176782336 := by
  rw [dig_six]
  have := h.le hn (l := 0) (by omega)
  have := h.le hn (l := 1) (by omega)
  have := h.le hn (l := 2) (by omega)
  have := h.le hn (l := 3) (by omega)
  have := h.le hn (l := 4) (by omega)
  have := h.le hn (l := 5) (by omega)
  omega
theorem Best.co {T : Nat → Bool} {n : Nat} {o : Nat → Nat → Nat} {f g : Nat → Nat} (h : Best T n o f) (hn : n ≤ 36) (hg : Pl T n g) : Co T o f ≤ Co T o g := by
  have h1 := h.2 g hg
  have h2 := hg.dig hn
  apply Classical.byContradiction
  intro q
  have : (Co T o g + 1) * 2176782336 ≤ Co T o f * 2176782336 := Nat.mul_le_mul_right _ (by omega)
  omega
theorem Best.lex {T : Nat → Bool} {n : Nat} {o : Nat → Nat → Nat} {f g : Nat → Nat} (h : Best T n o f) (hn : n ≤ 36) (hg : Pl T n g) (e : Co T o g = Co T o f) {l : Nat} (hl : l < 6) (hT : T l = true) (hm : ∀ m, m < l → T m = true → g m = f m) : f l ≤ g l := by
  have h1 := h.2 g hg
  rw [e] at h1
  have h2 : dig T f ≤ dig T g := by omega
  rw [dig_six, dig_six] at h2
  have hx : ∀ m, m < l → (if T m = true then f m else 0) = (if T m = true then g m else 0) := fun m q => by
    split
    · rename_i z; exact (hm m q z).symm
    · rfl
  have hf : (if T l = true then f l else 0) = f l := if_pos hT
  have hgl : (if T l = true then g l else 0) = g l := if_pos hT
  have b0 := hg.le hn (l := 0) (by omega)
  have b1 := hg.le hn (l := 1) (by omega)
  have b2 := hg.le hn (l := 2) (by omega)
  have b3 := hg.le hn (l := 3) (by omega)
  have b4 := hg.le hn (l := 4) (by omega)
  have b5 := hg.le hn (l := 5) (by omega)
  have l6 : l = 0 ∨ l = 1 ∨ l = 2 ∨ l = 3 ∨ l = 4 ∨ l = 5 := by omega
  rcases l6 with rfl | rfl | rfl | rfl | rfl | rfl
  · omega
  · have := hx 0 (by omega); omega
  · have := hx 0 (by omega); have := hx 1 (by omega); omega
  · have := hx 0 (by omega); have := hx 1 (by omega); have := hx 2 (by omega); omega
  · have := hx 0 (by omega); have := hx 1 (by omega); have := hx 2 (by omega); have := hx 3 (by omega); omega
  · have := hx 0 (by omega); have := hx 1 (by omega); have := hx 2 (by omega); have := hx 3 (by omega); have := hx 4 (by omega); omega
theorem Best.one {T : Nat → Bool} {n : Nat} {o : Nat → Nat → Nat} {f g : Nat → Nat} (h : Best T n o f) (k : Best T n o g) (hn : n ≤ 36) : Co T o f = Co T o g ∧ ∀ l, l < 6 → T l = true → f l = g l := by
  have e : Co T o f = Co T o g := Nat.le_antisymm (h.co hn k.1) (k.co hn h.1)
  refine ⟨e, fun l => ?_⟩
  induction l using Nat.strongRecOn with
  | _ l ih =>
    intro hl hT
    have a := h.lex hn k.1 e.symm hl hT (fun m hm hTm => (ih m hm (by omega) hTm).symm)
    have b := k.lex hn h.1 e hl hT (fun m hm hTm => ih m hm (by omega) hTm)
    omega
theorem ex_least (P : Nat → Prop) (h : ∃ x, P x) : ∃ x, P x ∧ ∀ y, P y → x ≤ y := by
  obtain ⟨x, hx⟩ := h
  induction x using Nat.strongRecOn with
  | _ x ih =>
    by_cases q : ∃ y, y < x ∧ P y
    · obtain ⟨y, h1, h2⟩ := q; exact ih y h1 h2
    · exact ⟨x, hx, fun y hy => Nat.le_of_not_lt (fun z => q ⟨y, z, hy⟩)⟩
theorem best_ex {T : Nat → Bool} {n : Nat} (o : Nat → Nat → Nat) (h : ∃ f, Pl T n f) : ∃ f, Best T n o f := by
  obtain ⟨f, hf⟩ := h
  obtain ⟨x, ⟨g, hg, e⟩, h2⟩ := ex_least (fun x => ∃ g, Pl T n g ∧ Co T o g * 2176782336 + dig T g = x) ⟨_, f, hf, rfl⟩
  exact ⟨g, hg, fun k hk => by rw [e]; exact h2 _ ⟨k, hk, rfl⟩⟩
theorem pl_ex (mp : Nat → Nat) (n : Nat) : ∃ f, Pl (Tl mp n) n f := by
  have hx : ∀ l, ∃ c, Tl mp n l = true → c < n ∧ mp c = l := fun l => by
    by_cases q : Tl mp n l = true
    · have : 0 < fb_ct (fun c => decide (mp c = l)) n := of_decide_eq_true (show decide (0 < many mp l n) = true from q)
      obtain ⟨c, h1, h2⟩ := fb_ct_pos.mp this
      exact ⟨c, fun _ => ⟨h1, by simpa using h2⟩⟩
    · exact ⟨0, fun z => absurd z q⟩
  obtain ⟨f, hf⟩ := Classical.skolem.mp hx
  exact ⟨f, fun l _ q => (hf l q).1, fun l m _ _ q1 q2 e => by rw [← (hf l q1).2, ← (hf m q2).2, e]⟩
theorem bt_ex (w n : Nat) (mp : Nat → Nat) : ∃ f, Best (Tl mp n) n (ofo w n mp) f := best_ex _ (pl_ex mp n)
noncomputable def bt (w n : Nat) (mp : Nat → Nat) : Nat → Nat := Classical.choose (bt_ex w n mp)
theorem bt_best (w n : Nat) (mp : Nat → Nat) : Best (Tl mp n) n (ofo w n mp) (bt w n mp) := Classical.choose_spec (bt_ex w n mp)
/-! the least sum, by sets of lands -/
def clr (S l : Nat) : Nat := S &&& (63 ^^^ 2 ^ l)
theorem clr_bit : ∀ S, S < 64 → ∀ l, l < 6 → ∀ k, k < 6 → (clr S l).testBit k = (S.testBit k && !decide (k = l)) := by decide +kernel
theorem clr_lt : ∀ S, S < 64 → ∀ l, l < 6 → clr S l < 64 := by decide +kernel
theorem clr_less : ∀ S, S < 64 → ∀ l, l < 6 → S.testBit l = true → clr S l < S := by decide +kernel
theorem zero_bit : ∀ S, S < 64 → (∀ l, l < 6 → S.testBit l = false) → S = 0 := by decide +kernel
def omin (a b : Option Nat) : Option Nat := match a, b with
  | none, b => b
  | some a, none => some a
  | some a, some b => if b < a then some b else some a
def dq (o : Nat → Nat → Nat) (ot : Nat) (c : Nat) (prev : Nat → Option Nat) (S : Nat) : Nat → Option Nat
  | 0 => prev S
  | l + 1 => omin (dq o ot c prev S l) (if S.testBit l = true ∧ ot.testBit l = true then (prev (clr S l)).map (fun m => m + o l c) else none)
def dp (o : Nat → Nat → Nat) (ot : Nat) (fre : Nat → Bool) : Nat → Nat → Option Nat
  | 0 => fun S => if S = 0 then some 0 else none
  | c + 1 => fun S => if fre c = true then dq o ot c (dp o ot fre c) S 6 else dp o ot fre c S
theorem dp_t {o : Nat → Nat → Nat} {ot : Nat} {fre : Nat → Bool} {c S : Nat} (h : fre c = true) : dp o ot fre (c + 1) S = dq o ot c (dp o ot fre c) S 6 := if_pos h
theorem dp_f {o : Nat → Nat → Nat} {ot : Nat} {fre : Nat → Bool} {c S : Nat} (h : ¬ fre c = true) : dp o ot fre (c + 1) S = dp o ot fre c S := if_neg h
theorem dp_z {o : Nat → Nat → Nat} {ot : Nat} {fre : Nat → Bool} : dp o ot fre 0 0 = some 0 := rfl
theorem dp_n {o : Nat → Nat → Nat} {ot : Nat} {fre : Nat → Bool} {S : Nat} (h : ¬ S = 0) : dp o ot fre 0 S = none := if_neg h
theorem omin_l {a b : Option Nat} {x : Nat} (h : a = some x) : ∃ m, omin a b = some m ∧ m ≤ x := by
  subst h
  cases b with
  | none => exact ⟨x, rfl, Nat.le_refl _⟩
  | some y =>
    by_cases q : y < x
    · exact ⟨y, if_pos q, by omega⟩
    · exact ⟨x, if_neg q, Nat.le_refl _⟩
theorem omin_r {a b : Option Nat} {x : Nat} (h : b = some x) : ∃ m, omin a b = some m ∧ m ≤ x := by
  subst h
  cases a with
  | none => exact ⟨x, rfl, Nat.le_refl _⟩
  | some y =>
    by_cases q : x < y
    · exact ⟨x, if_pos q, Nat.le_refl _⟩
    · exact ⟨y, if_neg q, by omega⟩
theorem omin_o {a b : Option Nat} {x : Nat} (h : omin a b = some x) : a = some x ∨ b = some x := by
  cases a with
  | none => exact Or.inr h
  | some y =>
    cases b with
    | none => exact Or.inl h
    | some z =>
      by_cases q : z < y
      · rw [omin, if_pos q] at h; exact Or.inr h
      · rw [omin, if_neg q] at h; exact Or.inl h
theorem dq_prev {o : Nat → Nat → Nat} {ot c : Nat} {prev : Nat → Option Nat} {S x : Nat} (h : prev S = some x) : ∀ k, ∃ m, dq o ot c prev S k = some m ∧ m ≤ x
  | 0 => ⟨x, h, Nat.le_refl _⟩
  | k + 1 => by
    obtain ⟨m, h1, h2⟩ := dq_prev h k
    obtain ⟨m2, h3, h4⟩ := omin_l (b := if S.testBit k = true ∧ ot.testBit k = true then (prev (clr S k)).map (fun m => m + o k c) else none) h1
    exact ⟨m2, h3, by omega⟩
theorem dq_new {o : Nat → Nat → Nat} {ot c : Nat} {prev : Nat → Option Nat} {S x l : Nat} (h : prev (clr S l) = some x) (h1 : S.testBit l = true) (h2 : ot.testBit l = true) : ∀ k, l < k → ∃ m, dq o ot c prev S k = some m ∧ m ≤ x + o l c
  | 0, q => by omega
  | k + 1, q => by
    by_cases e : l = k
    · subst e
      obtain ⟨m, h3, h4⟩ := omin_r (a := dq o ot c prev S l) (b := if S.testBit l = true ∧ ot.testBit l = true then (prev (clr S l)).map (fun m => m + o l c) else none) (x := x + o l c) (by rw [if_pos ⟨h1, h2⟩, h]; rfl)
      exact ⟨m, h3, h4⟩
    · obtain ⟨m, h3, h4⟩ := dq_new h h1 h2 k (by omega)
      obtain ⟨m2, h5, h6⟩ := omin_l (b := if S.testBit k = true ∧ ot.testBit k = true then (prev (clr S k)).map (fun m => m + o k c) else none) h3
      exact ⟨m2, h5, by omega⟩
theorem dq_some {o : Nat → Nat → Nat} {ot c : Nat} {prev : Nat → Option Nat} {S x : Nat} : ∀ {k}, dq o ot c prev S k = some x → prev S = some x ∨ ∃ l m, l < k ∧ S.testBit l = true ∧ ot.testBit l = true ∧ prev (clr S l) = some m ∧ x = m + o l c
  | 0, h => Or.inl h
  | k + 1, h => by
    rcases omin_o h with q | q
    · rcases dq_some q with z | ⟨l, m, z1, z⟩
      · exact Or.inl z
      · exact Or.inr ⟨l, m, by omega, z⟩
    · by_cases z : S.testBit k = true ∧ ot.testBit k = true
      · rw [if_pos z] at q
        cases e : prev (clr S k) with
        | none => rw [e] at q; cases q
        | some m =>
          rw [e] at q
          exact Or.inr ⟨k, m, by omega, z.1, z.2, e, (Option.some.inj q).symm⟩
      · rw [if_neg z] at q; cases q
def Va (ot : Nat) (fre : Nat → Bool) (S c : Nat) (f : Nat → Nat) : Prop := (∀ l, l < 6 → S.testBit l = true → ot.testBit l = true ∧ f l < c ∧ fre (f l) = true) ∧ ∀ l m, l < 6 → m < 6 → S.testBit l = true → S.testBit m = true → f l = f m → l = m
def cso (o : Nat → Nat → Nat) (S : Nat) (f : Nat → Nat) : Nat := fb_sm (fun l => if S.testBit l = true then o l (f l) else 0) 6
theorem cso_clr {o : Nat → Nat → Nat} {S l : Nat} (hS : S < 64) (hl : l < 6) (hb : S.testBit l = true) (f : Nat → Nat) : cso o S f = cso o (clr S l) f + o l (f l) := by
  have e := fb_sm_upd (fun k => if S.testBit k = true then o k (f k) else 0) 0 (i := l) (n := 6) hl
  rw [if_pos hb] at e
  have e2 : cso o (clr S l) f = fb_sm (fun k => if k = l then 0 else (fun k => if S.testBit k = true then o k (f k) else 0) k) 6 := fb_sm_cong (fun k hk => by
    rw [clr_bit S hS l hl k hk]
    by_cases q : k = l
    · simp [q]
    · simp [q])
  have e3 : fb_sm (fun k => if k = l then 0 else (fun k => if S.testBit k = true then o k (f k) else 0) k) 6 + o l (f l) = cso o S f := e
  omega
theorem clr_t {S l k : Nat} (hS : S < 64) (hl : l < 6) (hk : k < 6) (h : (clr S l).testBit k = true) : S.testBit k = true ∧ k ≠ l := by
  rw [clr_bit S hS l hl k hk] at h
  simpa using h
theorem dp_low {o : Nat → Nat → Nat} {ot : Nat} {fre : Nat → Bool} {f : Nat → Nat} : ∀ {c S : Nat}, S < 64 → Va ot fre S c f → ∃ m, dp o ot fre c S = some m ∧ m ≤ cso o S f
  | 0, S, hS, h => by
    have : S = 0 := zero_bit S hS (fun l hl => by
      cases e : S.testBit l with
      | false => rfl
      | true => have := (h.1 l hl e).2.1; omega)
    exact ⟨0, if_pos this, Nat.zero_le _⟩
  | c + 1, S, hS, h => by
    by_cases q : ∃ l, l < 6 ∧ S.testBit l = true ∧ f l = c
    · obtain ⟨l, hl, hb, e⟩ := q
      obtain ⟨h1, h2, h3⟩ := h.1 l hl hb
      rw [e] at h3
      have hV : Va ot fre (clr S l) c f := by
        refine ⟨fun k hk z => ?_, fun k m hk hm z1 z2 => h.2 k m hk hm (clr_t hS hl hk z1).1 (clr_t hS hl hm z2).1⟩
        obtain ⟨z1, z2⟩ := clr_t hS hl hk z
        obtain ⟨y1, y2, y3⟩ := h.1 k hk z1
        have : f k ≠ c := fun x => z2 (h.2 k l hk hl z1 hb (by rw [x, e]))
        exact ⟨y1, by omega, y3⟩
      obtain ⟨m, g1, g2⟩ := dp_low (o := o) (clr_lt S hS l hl) hV
      obtain ⟨m2, g3, g4⟩ := dq_new (o := o) (c := c) g1 hb h1 6 hl
      refine ⟨m2, by rw [dp_t h3]; exact g3, ?_⟩
      rw [cso_clr hS hl hb f, e]
      omega
    · have hV : Va ot fre S c f := ⟨fun l hl hb => by
        obtain ⟨y1, y2, y3⟩ := h.1 l hl hb
        have : f l ≠ c := fun x => q ⟨l, hl, hb, x⟩
        exact ⟨y1, by omega, y3⟩, h.2⟩
      obtain ⟨m, g1, g2⟩ := dp_low (o := o) hS hV
      by_cases z : fre c = true
      · obtain ⟨m2, g3, g4⟩ := dq_prev (o := o) (ot := ot) (c := c) g1 6
        exact ⟨m2, by rw [dp_t z]; exact g3, by omega⟩
      · exact ⟨m, by rw [dp_f z]; exact g1, g2⟩
theorem dp_att {o : Nat → Nat → Nat} {ot : Nat} {fre : Nat → Bool} : ∀ {c S m : Nat}, S < 64 → dp o ot fre c S = some m → ∃ f, Va ot fre S c f ∧ cso o S f = m
  | 0, S, m, hS, h => by
    by_cases q : S = 0
    · subst q
      rw [dp_z] at h
      refine ⟨fun _ => 0, ⟨fun l _ z => by simp at z, fun l _ _ _ z => by simp at z⟩, ?_⟩
      cases h
      unfold cso
      simp [fb_sm]
    · rw [dp_n q] at h; cases h
  | c + 1, S, m, hS, h => by
    have up : ∀ f, Va ot fre S c f → Va ot fre S (c + 1) f := fun f hf => ⟨fun l hl hb => by obtain ⟨y1, y2, y3⟩ := hf.1 l hl hb; exact ⟨y1, by omega, y3⟩, hf.2⟩
    by_cases q : fre c = true
    · rw [dp_t q] at h
      rcases dq_some h with z | ⟨l, m2, hl, hb, ho, z1, z2⟩
      · obtain ⟨f, g1, g2⟩ := dp_att hS z
        exact ⟨f, up f g1, g2⟩
      · obtain ⟨f, g1, g2⟩ := dp_att (clr_lt S hS l hl) z1
        have hc : ∀ k, k < 6 → S.testBit k = true → k ≠ l → (clr S l).testBit k = true := fun k hk hb2 e => by rw [clr_bit S hS l hl k hk, hb2]; simpa using e
        refine ⟨fun k => if k = l then c else f k, ⟨fun k hk hb2 => ?_, fun k j hk hj b1 b2 e => ?_⟩, ?_⟩
        · by_cases e : k = l
          · subst e; dsimp only; rw [if_pos rfl]; exact ⟨ho, by omega, q⟩
          · obtain ⟨y1, y2, y3⟩ := g1.1 k hk (hc k hk hb2 e)
            dsimp only; rw [if_neg e]; exact ⟨y1, by omega, y3⟩
        · dsimp only at e
          by_cases e1 : k = l
          · by_cases e2 : j = l
            · omega
            · rw [if_pos e1, if_neg e2] at e
              have := (g1.1 j hj (hc j hj b2 e2)).2.1; omega
          · by_cases e2 : j = l
            · rw [if_neg e1, if_pos e2] at e
              have := (g1.1 k hk (hc k hk b1 e1)).2.1; omega
            · rw [if_neg e1, if_neg e2] at e
              exact g1.2 k j hk hj (hc k hk b1 e1) (hc j hj b2 e2) e
        · rw [cso_clr hS hl hb, if_pos rfl, z2, ← g2]
          congr 1
          refine fb_sm_cong (fun k hk => ?_)
          by_cases y : (clr S l).testBit k = true
          · rw [if_pos y, if_pos y]; exact congrArg (o k) (if_neg (clr_t hS hl hk y).2)
          · rw [if_neg y, if_neg y]
    · rw [dp_f q] at h
      obtain ⟨f, g1, g2⟩ := dp_att hS h
      exact ⟨f, up f g1, g2⟩
/-- lands from k on stand in the mask -/
def otm (T : Nat → Bool) (k : Nat) : Nat → Nat
  | 0 => 0
  | l + 1 => otm T k l ||| (if k ≤ l ∧ T l = true then 2 ^ l else 0)
theorem or64 : ∀ m, m < 64 → ∀ b, b < 6 → m ||| 2 ^ b < 64 ∧ ∀ i, i < 6 → (m ||| 2 ^ b).testBit i = (m.testBit i || decide (i = b)) := by decide +kernel
theorem otm_lt (T : Nat → Bool) (k : Nat) : ∀ l, l ≤ 6 → otm T k l < 64
  | 0, _ => by simp [otm]
  | l + 1, h => by
    have := otm_lt T k l (by omega)
    rw [otm]
    split
    · exact (or64 _ this l (by omega)).1
    · rw [Nat.or_zero]; exact this
theorem otm_bit (T : Nat → Bool) (k i : Nat) (hi : i < 6) : ∀ l, l ≤ 6 → (otm T k l).testBit i = (decide (i < l) && decide (k ≤ i) && T i)
  | 0, _ => by simp [otm]
  | l + 1, h => by
    have ih := otm_bit T k i hi l (by omega)
    have hl := otm_lt T k l (by omega)
    rw [otm]
    by_cases q : k ≤ l ∧ T l = true
    · rw [if_pos q, (or64 _ hl l (by omega)).2 i hi, ih]
      by_cases e : i = l
      · subst e; simp [q.1, q.2]
      · have : decide (i < l + 1) = decide (i < l) := decide_eq_decide.mpr (by omega)
        rw [this]; simp [e]
    · rw [if_neg q, Nat.or_zero, ih]
      by_cases e : i = l
      · subst e
        have : (decide (k ≤ i) && T i) = false := by
          cases hT : T i with
          | false => simp
          | true => simp; exact Nat.lt_of_not_le (fun z => q ⟨z, hT⟩)
        rw [Bool.and_assoc, Bool.and_assoc, this]; simp
      · have : decide (i < l + 1) = decide (i < l) := decide_eq_decide.mpr (by omega)
        rw [this]
/-- what the lands below k cost -/
def lsm (T : Nat → Bool) (o : Nat → Nat → Nat) (t : Nat → Nat) (k n : Nat) : Nat := fb_sm (fun l => if l < k ∧ T l = true then o l (t l) else 0) n
def frk (T : Nat → Bool) (t : Nat → Nat) (k c : Nat) : Bool := !bex (fun l => T l && decide (t l = c)) k
/-- the least sum with the lands below k laid -/
def lof (T : Nat → Bool) (n : Nat) (o : Nat → Nat → Nat) (t : Nat → Nat) (k : Nat) : Option Nat := (dp o (otm T k 6) (frk T t k) n (otm T k 6)).map (fun m => lsm T o t k 6 + m)
theorem frk_t {T : Nat → Bool} {t : Nat → Nat} {k c : Nat} : frk T t k c = true ↔ ∀ l, l < k → T l = true → t l ≠ c := by
  unfold frk
  rw [Bool.not_eq_true', ← Bool.not_eq_true, bex_iff]
  constructor
  · intro h l hl hT e
    exact h ⟨l, hl, by simp [hT, e]⟩
  · rintro h ⟨l, hl, e⟩
    simp at e
    exact h l hl e.1 e.2
theorem co_part {T : Nat → Bool} {o : Nat → Nat → Nat} {t f : Nat → Nat} {k : Nat} (h : ∀ l, l < k → T l = true → f l = t l) : Co T o f = lsm T o t k 6 + cso o (otm T k 6) f := by
  unfold Co lsm cso
  rw [← fb_sm_add]
  refine fb_sm_cong (fun l hl => ?_)
  rw [otm_bit T k l hl 6 (by omega)]
  cases hT : T l with
  | false => simp
  | true =>
    by_cases q : l < k
    · have : ¬ k ≤ l := by omega
      simp [q, this, h l q hT]
    · have : k ≤ l := by omega
      simp [q, this, hl]
theorem lof_low {T : Nat → Bool} {n : Nat} {o : Nat → Nat → Nat} {t f : Nat → Nat} {k : Nat} (hk : k ≤ 6) (hf : Pl T n f) (ha : ∀ l, l < k → T l = true → f l = t l) : ∃ m, lof T n o t k = some m ∧ m ≤ Co T o f := by
  have hV : Va (otm T k 6) (frk T t k) (otm T k 6) n f := by
    have hb : ∀ l, l < 6 → (otm T k 6).testBit l = true → k ≤ l ∧ T l = true := fun l hl h => by
      rw [otm_bit T k l hl 6 (by omega)] at h
      simp at h
      exact ⟨h.1.2, h.2⟩
    refine ⟨fun l hl h => ⟨h, hf.1 l hl (hb l hl h).2, frk_t.mpr (fun m hm hT e => ?_)⟩, fun l m hl hm h1 h2 e => hf.2 l m hl hm (hb l hl h1).2 (hb m hm h2).2 e⟩
    have := hf.2 m l (by omega) hl hT (hb l hl h).2 (by rw [ha m hm hT, e])
    have := (hb l hl h).1
    omega
  obtain ⟨m, h1, h2⟩ := dp_low (o := o) (otm_lt T k 6 (by omega)) hV
  exact ⟨lsm T o t k 6 + m, by unfold lof; rw [h1]; rfl, by rw [co_part ha]; omega⟩
theorem lof_att {T : Nat → Bool} {n : Nat} {o : Nat → Nat → Nat} {t : Nat → Nat} {k m : Nat} (hk : k ≤ 6) (ht : ∀ l, l < k → T l = true → t l < n) (hi : ∀ l j, l < k → j < k → T l = true → T j = true → t l = t j → l = j) (h : lof T n o t k = some m) : ∃ f, Pl T n f ∧ (∀ l, l < k → T l = true → f l = t l) ∧ Co T o f = m := by
  unfold lof at h
  cases e : dp o (otm T k 6) (frk T t k) n (otm T k 6) with
  | none => rw [e] at h; cases h
  | some m2 =>
    rw [e] at h
    obtain ⟨f, g1, g2⟩ := dp_att (otm_lt T k 6 (by omega)) e
    have hb : ∀ l, l < 6 → k ≤ l → T l = true → (otm T k 6).testBit l = true := fun l hl q hT => by rw [otm_bit T k l hl 6 (by omega)]; simp [hl, q, hT]
    have hag : ∀ l, l < k → T l = true → (fun l => if l < k then t l else f l) l = t l := fun l hl _ => if_pos hl
    refine ⟨fun l => if l < k then t l else f l, ⟨fun l hl hT => ?_, fun l j hl hj h1 h2 q => ?_⟩, hag, ?_⟩
    · by_cases q : l < k
      · dsimp only; rw [if_pos q]; exact ht l q hT
      · dsimp only; rw [if_neg q]; exact (g1.1 l hl (hb l hl (by omega) hT)).2.1
    · dsimp only at q
      by_cases z1 : l < k
      · by_cases z2 : j < k
        · rw [if_pos z1, if_pos z2] at q; exact hi l j z1 z2 h1 h2 q
        · rw [if_pos z1, if_neg z2] at q
          exact absurd q (frk_t.mp (g1.1 j hj (hb j hj (by omega) h2)).2.2 l z1 h1)
      · by_cases z2 : j < k
        · rw [if_neg z1, if_pos z2] at q
          exact absurd q.symm (frk_t.mp (g1.1 l hl (hb l hl (by omega) h1)).2.2 j z2 h2)
        · rw [if_neg z1, if_neg z2] at q
          exact g1.2 l j hl hj (hb l hl (by omega) h1) (hb j hj (by omega) h2) q
    · rw [co_part hag]
      have : m = lsm T o t k 6 + m2 := (Option.some.inj h).symm
      rw [this, ← g2]
      congr 1
      refine fb_sm_cong (fun l hl => ?_)
      by_cases q : (otm T k 6).testBit l = true
      · rw [if_pos q, if_pos q]
        rw [otm_bit T k l hl 6 (by omega)] at q
        simp at q
        have := q.1.2
        exact congrArg (o l) (if_neg (by omega))
      · rw [if_neg q, if_neg q]
end
