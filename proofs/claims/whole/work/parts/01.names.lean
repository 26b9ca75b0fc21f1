-- ===== PART A: goes FIRST, ahead of the names: the tables' words, and 'selects' of the private methods out of them =====
/-- a private method of a class that the tables say can be made, by its rows of tables_1 -/
def lw_okq (q : MethodName × Nat) : Prop := (q.1.cls ≠ "java/lang/invoke/MethodHandle" ∧ q.1.cls ≠ "java/lang/invoke/VarHandle") ∧ Cond.instantiable q.1.cls q.2 ∈ tables_1 ∧ Cond.privateMethod q.1 ∈ tables_1 ∧ Cond.instanceMethod q.1 ∈ tables_1
theorem lw_p0 : lw_okq (⟨"OldRoads", "addBytes", "(I)V"⟩, 20) := ⟨⟨by decide +kernel, by decide +kernel⟩, List.mem_of_getElem? (i := 27) (by decide +kernel), List.mem_of_getElem? (i := 417) (by decide +kernel), List.mem_of_getElem? (i := 418) (by decide +kernel)⟩
theorem lw_p1 : lw_okq (⟨"OldRoads$GoerReader", "skipBlanks", "()V"⟩, 3) := ⟨⟨by decide +kernel, by decide +kernel⟩, List.mem_of_getElem? (i := 73) (by decide +kernel), List.mem_of_getElem? (i := 437) (by decide +kernel), List.mem_of_getElem? (i := 438) (by decide +kernel)⟩
theorem lw_p2 : lw_okq (⟨"OldRoads$GoerReader", "clause", "()Z"⟩, 3) := ⟨⟨by decide +kernel, by decide +kernel⟩, List.mem_of_getElem? (i := 73) (by decide +kernel), List.mem_of_getElem? (i := 441) (by decide +kernel), List.mem_of_getElem? (i := 442) (by decide +kernel)⟩
theorem lw_p3 : lw_okq (⟨"OldRoads$GoerReader", "takes", "(I)Z"⟩, 3) := ⟨⟨by decide +kernel, by decide +kernel⟩, List.mem_of_getElem? (i := 73) (by decide +kernel), List.mem_of_getElem? (i := 445) (by decide +kernel), List.mem_of_getElem? (i := 446) (by decide +kernel)⟩
theorem lw_p4 : lw_okq (⟨"OldRoads$GoerReader", "sum", "(I)Z"⟩, 3) := ⟨⟨by decide +kernel, by decide +kernel⟩, List.mem_of_getElem? (i := 73) (by decide +kernel), List.mem_of_getElem? (i := 453) (by decide +kernel), List.mem_of_getElem? (i := 454) (by decide +kernel)⟩
theorem lw_p5 : lw_okq (⟨"OldRoads$GoerReader", "term", "(I)Z"⟩, 3) := ⟨⟨by decide +kernel, by decide +kernel⟩, List.mem_of_getElem? (i := 73) (by decide +kernel), List.mem_of_getElem? (i := 457) (by decide +kernel), List.mem_of_getElem? (i := 458) (by decide +kernel)⟩
theorem lw_p6 : lw_okq (⟨"OldRoads$GoerReader", "atom", "(I)Z"⟩, 3) := ⟨⟨by decide +kernel, by decide +kernel⟩, List.mem_of_getElem? (i := 73) (by decide +kernel), List.mem_of_getElem? (i := 461) (by decide +kernel), List.mem_of_getElem? (i := 462) (by decide +kernel)⟩
theorem lw_p7 : lw_okq (⟨"OldRoads$GoerReader", "number", "()I"⟩, 3) := ⟨⟨by decide +kernel, by decide +kernel⟩, List.mem_of_getElem? (i := 73) (by decide +kernel), List.mem_of_getElem? (i := 465) (by decide +kernel), List.mem_of_getElem? (i := 466) (by decide +kernel)⟩
theorem lw_p8 : lw_okq (⟨"OldRoads$GoerReader", "condition", "(IZ)Z"⟩, 3) := ⟨⟨by decide +kernel, by decide +kernel⟩, List.mem_of_getElem? (i := 73) (by decide +kernel), List.mem_of_getElem? (i := 480) (by decide +kernel), List.mem_of_getElem? (i := 481) (by decide +kernel)⟩
theorem lw_p9 : lw_okq (⟨"OldRoads$GoerReader", "truth", "(IZ)Z"⟩, 3) := ⟨⟨by decide +kernel, by decide +kernel⟩, List.mem_of_getElem? (i := 73) (by decide +kernel), List.mem_of_getElem? (i := 484) (by decide +kernel), List.mem_of_getElem? (i := 485) (by decide +kernel)⟩
theorem lw_p10 : lw_okq (⟨"OldRoads$GoerReader", "unit", "(IZ)Z"⟩, 3) := ⟨⟨by decide +kernel, by decide +kernel⟩, List.mem_of_getElem? (i := 73) (by decide +kernel), List.mem_of_getElem? (i := 488) (by decide +kernel), List.mem_of_getElem? (i := 489) (by decide +kernel)⟩
theorem lw_p11 : lw_okq (⟨"OldRoads$Book", "skipBlanks", "(LOldRoads$Row;)V"⟩, 3) := ⟨⟨by decide +kernel, by decide +kernel⟩, List.mem_of_getElem? (i := 294) (by decide +kernel), List.mem_of_getElem? (i := 501) (by decide +kernel), List.mem_of_getElem? (i := 502) (by decide +kernel)⟩
theorem lw_p12 : lw_okq (⟨"OldRoads$Book", "readsTown", "(LOldRoads$Row;I)Z"⟩, 3) := ⟨⟨by decide +kernel, by decide +kernel⟩, List.mem_of_getElem? (i := 294) (by decide +kernel), List.mem_of_getElem? (i := 506) (by decide +kernel), List.mem_of_getElem? (i := 507) (by decide +kernel)⟩
theorem lw_p13 : lw_okq (⟨"OldRoads$Book", "readsMiles", "(LOldRoads$Row;)Z"⟩, 3) := ⟨⟨by decide +kernel, by decide +kernel⟩, List.mem_of_getElem? (i := 294) (by decide +kernel), List.mem_of_getElem? (i := 511) (by decide +kernel), List.mem_of_getElem? (i := 512) (by decide +kernel)⟩
theorem lw_p14 : lw_okq (⟨"OldRoads$Book", "isDigit", "(LOldRoads$Row;)Z"⟩, 3) := ⟨⟨by decide +kernel, by decide +kernel⟩, List.mem_of_getElem? (i := 294) (by decide +kernel), List.mem_of_getElem? (i := 515) (by decide +kernel), List.mem_of_getElem? (i := 516) (by decide +kernel)⟩
theorem lw_p15 : lw_okq (⟨"OldRoads", "goes", "(LOldRoads$Land;IIZII)Z"⟩, 20) := ⟨⟨by decide +kernel, by decide +kernel⟩, List.mem_of_getElem? (i := 27) (by decide +kernel), List.mem_of_getElem? (i := 534) (by decide +kernel), List.mem_of_getElem? (i := 535) (by decide +kernel)⟩
def lw_privs_1 : List (MethodName × Nat) := [(⟨"OldRoads", "addBytes", "(I)V"⟩, 20), (⟨"OldRoads$GoerReader", "skipBlanks", "()V"⟩, 3), (⟨"OldRoads$GoerReader", "clause", "()Z"⟩, 3), (⟨"OldRoads$GoerReader", "takes", "(I)Z"⟩, 3), (⟨"OldRoads$GoerReader", "sum", "(I)Z"⟩, 3), (⟨"OldRoads$GoerReader", "term", "(I)Z"⟩, 3), (⟨"OldRoads$GoerReader", "atom", "(I)Z"⟩, 3), (⟨"OldRoads$GoerReader", "number", "()I"⟩, 3), (⟨"OldRoads$GoerReader", "condition", "(IZ)Z"⟩, 3), (⟨"OldRoads$GoerReader", "truth", "(IZ)Z"⟩, 3), (⟨"OldRoads$GoerReader", "unit", "(IZ)Z"⟩, 3), (⟨"OldRoads$Book", "skipBlanks", "(LOldRoads$Row;)V"⟩, 3), (⟨"OldRoads$Book", "readsTown", "(LOldRoads$Row;I)Z"⟩, 3), (⟨"OldRoads$Book", "readsMiles", "(LOldRoads$Row;)Z"⟩, 3), (⟨"OldRoads$Book", "isDigit", "(LOldRoads$Row;)Z"⟩, 3), (⟨"OldRoads", "goes", "(LOldRoads$Land;IIZII)Z"⟩, 20)]
theorem lw_r1 : ∀ q ∈ lw_privs_1, lw_okq q := List.forall_mem_cons.mpr ⟨lw_p0, List.forall_mem_cons.mpr ⟨lw_p1, List.forall_mem_cons.mpr ⟨lw_p2, List.forall_mem_cons.mpr ⟨lw_p3, List.forall_mem_cons.mpr ⟨lw_p4, List.forall_mem_cons.mpr ⟨lw_p5, List.forall_mem_cons.mpr ⟨lw_p6, List.forall_mem_cons.mpr ⟨lw_p7, List.forall_mem_cons.mpr ⟨lw_p8, List.forall_mem_cons.mpr ⟨lw_p9, List.forall_mem_cons.mpr ⟨lw_p10, List.forall_mem_cons.mpr ⟨lw_p11, List.forall_mem_cons.mpr ⟨lw_p12, List.forall_mem_cons.mpr ⟨lw_p13, List.forall_mem_cons.mpr ⟨lw_p14, List.forall_mem_cons.mpr ⟨lw_p15, fun _ h => absurd h List.not_mem_nil⟩⟩⟩⟩⟩⟩⟩⟩⟩⟩⟩⟩⟩⟩⟩⟩
theorem lw_p16 : lw_okq (⟨"OldRoads", "isManner", "(II)Z"⟩, 20) := ⟨⟨by decide +kernel, by decide +kernel⟩, List.mem_of_getElem? (i := 27) (by decide +kernel), List.mem_of_getElem? (i := 538) (by decide +kernel), List.mem_of_getElem? (i := 539) (by decide +kernel)⟩
theorem lw_p17 : lw_okq (⟨"OldRoads$Ways", "painOf", "(I)I"⟩, 15) := ⟨⟨by decide +kernel, by decide +kernel⟩, List.mem_of_getElem? (i := 123) (by decide +kernel), List.mem_of_getElem? (i := 550) (by decide +kernel), List.mem_of_getElem? (i := 551) (by decide +kernel)⟩
theorem lw_p18 : lw_okq (⟨"OldRoads$Ways", "spread", "(IZ[I)V"⟩, 15) := ⟨⟨by decide +kernel, by decide +kernel⟩, List.mem_of_getElem? (i := 123) (by decide +kernel), List.mem_of_getElem? (i := 583) (by decide +kernel), List.mem_of_getElem? (i := 584) (by decide +kernel)⟩
theorem lw_p19 : lw_okq (⟨"OldRoads$Ways", "takeLeast", "([I)I"⟩, 15) := ⟨⟨by decide +kernel, by decide +kernel⟩, List.mem_of_getElem? (i := 123) (by decide +kernel), List.mem_of_getElem? (i := 589) (by decide +kernel), List.mem_of_getElem? (i := 590) (by decide +kernel)⟩
theorem lw_p20 : lw_okq (⟨"OldRoads$Ways", "reach", "(II[I)V"⟩, 15) := ⟨⟨by decide +kernel, by decide +kernel⟩, List.mem_of_getElem? (i := 123) (by decide +kernel), List.mem_of_getElem? (i := 593) (by decide +kernel), List.mem_of_getElem? (i := 594) (by decide +kernel)⟩
theorem lw_p21 : lw_okq (⟨"OldRoads$Ways", "nextOn", "(I)I"⟩, 15) := ⟨⟨by decide +kernel, by decide +kernel⟩, List.mem_of_getElem? (i := 123) (by decide +kernel), List.mem_of_getElem? (i := 603) (by decide +kernel), List.mem_of_getElem? (i := 604) (by decide +kernel)⟩
theorem lw_p22 : lw_okq (⟨"OldRoads", "looks", "(III)Z"⟩, 20) := ⟨⟨by decide +kernel, by decide +kernel⟩, List.mem_of_getElem? (i := 27) (by decide +kernel), List.mem_of_getElem? (i := 657) (by decide +kernel), List.mem_of_getElem? (i := 658) (by decide +kernel)⟩
theorem lw_p23 : lw_okq (⟨"OldRoads$Sight", "isHop", "(LOldRoads$Land;III)Z"⟩, 4) := ⟨⟨by decide +kernel, by decide +kernel⟩, List.mem_of_getElem? (i := 193) (by decide +kernel), List.mem_of_getElem? (i := 666) (by decide +kernel), List.mem_of_getElem? (i := 667) (by decide +kernel)⟩
theorem lw_p24 : lw_okq (⟨"OldRoads$Sight", "nextHop", "(LOldRoads$Land;II)I"⟩, 4) := ⟨⟨by decide +kernel, by decide +kernel⟩, List.mem_of_getElem? (i := 193) (by decide +kernel), List.mem_of_getElem? (i := 677) (by decide +kernel), List.mem_of_getElem? (i := 678) (by decide +kernel)⟩
theorem lw_p25 : lw_okq (⟨"OldRoads", "keepLine", "(LOldRoads$Row;)I"⟩, 20) := ⟨⟨by decide +kernel, by decide +kernel⟩, List.mem_of_getElem? (i := 27) (by decide +kernel), List.mem_of_getElem? (i := 685) (by decide +kernel), List.mem_of_getElem? (i := 686) (by decide +kernel)⟩
theorem lw_p26 : lw_okq (⟨"OldRoads", "isLine", "(I)Z"⟩, 20) := ⟨⟨by decide +kernel, by decide +kernel⟩, List.mem_of_getElem? (i := 27) (by decide +kernel), List.mem_of_getElem? (i := 716) (by decide +kernel), List.mem_of_getElem? (i := 717) (by decide +kernel)⟩
theorem lw_p27 : lw_okq (⟨"OldRoads$Row", "turnsAt", "(I)Z"⟩, 2) := ⟨⟨by decide +kernel, by decide +kernel⟩, List.mem_of_getElem? (i := 49) (by decide +kernel), List.mem_of_getElem? (i := 742) (by decide +kernel), List.mem_of_getElem? (i := 743) (by decide +kernel)⟩
theorem lw_p28 : lw_okq (⟨"OldRoads", "isSearch", "(III)Z"⟩, 20) := ⟨⟨by decide +kernel, by decide +kernel⟩, List.mem_of_getElem? (i := 27) (by decide +kernel), List.mem_of_getElem? (i := 763) (by decide +kernel), List.mem_of_getElem? (i := 764) (by decide +kernel)⟩
theorem lw_p29 : lw_okq (⟨"OldRoads", "missOf", "(I)I"⟩, 20) := ⟨⟨by decide +kernel, by decide +kernel⟩, List.mem_of_getElem? (i := 27) (by decide +kernel), List.mem_of_getElem? (i := 798) (by decide +kernel), List.mem_of_getElem? (i := 799) (by decide +kernel)⟩
theorem lw_p30 : lw_okq (⟨"OldRoads", "fillMisses", "(IZ)V"⟩, 20) := ⟨⟨by decide +kernel, by decide +kernel⟩, List.mem_of_getElem? (i := 27) (by decide +kernel), List.mem_of_getElem? (i := 807) (by decide +kernel), List.mem_of_getElem? (i := 808) (by decide +kernel)⟩
theorem lw_p31 : lw_okq (⟨"OldRoads", "bestBut", "(I)I"⟩, 20) := ⟨⟨by decide +kernel, by decide +kernel⟩, List.mem_of_getElem? (i := 27) (by decide +kernel), List.mem_of_getElem? (i := 811) (by decide +kernel), List.mem_of_getElem? (i := 812) (by decide +kernel)⟩
def lw_privs_2 : List (MethodName × Nat) := [(⟨"OldRoads", "isManner", "(II)Z"⟩, 20), (⟨"OldRoads$Ways", "painOf", "(I)I"⟩, 15), (⟨"OldRoads$Ways", "spread", "(IZ[I)V"⟩, 15), (⟨"OldRoads$Ways", "takeLeast", "([I)I"⟩, 15), (⟨"OldRoads$Ways", "reach", "(II[I)V"⟩, 15), (⟨"OldRoads$Ways", "nextOn", "(I)I"⟩, 15), (⟨"OldRoads", "looks", "(III)Z"⟩, 20), (⟨"OldRoads$Sight", "isHop", "(LOldRoads$Land;III)Z"⟩, 4), (⟨"OldRoads$Sight", "nextHop", "(LOldRoads$Land;II)I"⟩, 4), (⟨"OldRoads", "keepLine", "(LOldRoads$Row;)I"⟩, 20), (⟨"OldRoads", "isLine", "(I)Z"⟩, 20), (⟨"OldRoads$Row", "turnsAt", "(I)Z"⟩, 2), (⟨"OldRoads", "isSearch", "(III)Z"⟩, 20), (⟨"OldRoads", "missOf", "(I)I"⟩, 20), (⟨"OldRoads", "fillMisses", "(IZ)V"⟩, 20), (⟨"OldRoads", "bestBut", "(I)I"⟩, 20)]
theorem lw_r2 : ∀ q ∈ lw_privs_2, lw_okq q := List.forall_mem_cons.mpr ⟨lw_p16, List.forall_mem_cons.mpr ⟨lw_p17, List.forall_mem_cons.mpr ⟨lw_p18, List.forall_mem_cons.mpr ⟨lw_p19, List.forall_mem_cons.mpr ⟨lw_p20, List.forall_mem_cons.mpr ⟨lw_p21, List.forall_mem_cons.mpr ⟨lw_p22, List.forall_mem_cons.mpr ⟨lw_p23, List.forall_mem_cons.mpr ⟨lw_p24, List.forall_mem_cons.mpr ⟨lw_p25, List.forall_mem_cons.mpr ⟨lw_p26, List.forall_mem_cons.mpr ⟨lw_p27, List.forall_mem_cons.mpr ⟨lw_p28, List.forall_mem_cons.mpr ⟨lw_p29, List.forall_mem_cons.mpr ⟨lw_p30, List.forall_mem_cons.mpr ⟨lw_p31, fun _ h => absurd h List.not_mem_nil⟩⟩⟩⟩⟩⟩⟩⟩⟩⟩⟩⟩⟩⟩⟩⟩
theorem lw_p32 : lw_okq (⟨"OldRoads", "fitBut", "(II)I"⟩, 20) := ⟨⟨by decide +kernel, by decide +kernel⟩, List.mem_of_getElem? (i := 27) (by decide +kernel), List.mem_of_getElem? (i := 815) (by decide +kernel), List.mem_of_getElem? (i := 816) (by decide +kernel)⟩
theorem lw_p33 : lw_okq (⟨"OldRoads", "isStage", "(II)Z"⟩, 20) := ⟨⟨by decide +kernel, by decide +kernel⟩, List.mem_of_getElem? (i := 27) (by decide +kernel), List.mem_of_getElem? (i := 827) (by decide +kernel), List.mem_of_getElem? (i := 828) (by decide +kernel)⟩
theorem lw_p34 : lw_okq (⟨"OldRoads", "milesOfStage", "(LOldRoads$Book;I)I"⟩, 20) := ⟨⟨by decide +kernel, by decide +kernel⟩, List.mem_of_getElem? (i := 27) (by decide +kernel), List.mem_of_getElem? (i := 840) (by decide +kernel), List.mem_of_getElem? (i := 841) (by decide +kernel)⟩
theorem lw_p35 : lw_okq (⟨"OldRoads", "holdsInto", "(LOldRoads$Book;II)I"⟩, 20) := ⟨⟨by decide +kernel, by decide +kernel⟩, List.mem_of_getElem? (i := 27) (by decide +kernel), List.mem_of_getElem? (i := 862) (by decide +kernel), List.mem_of_getElem? (i := 863) (by decide +kernel)⟩
theorem lw_p36 : lw_okq (⟨"OldRoads", "areTwoTowns", "(II)Z"⟩, 20) := ⟨⟨by decide +kernel, by decide +kernel⟩, List.mem_of_getElem? (i := 27) (by decide +kernel), List.mem_of_getElem? (i := 876) (by decide +kernel), List.mem_of_getElem? (i := 877) (by decide +kernel)⟩
theorem lw_p37 : lw_okq (⟨"OldRoads", "evidenceOf", "(III)I"⟩, 20) := ⟨⟨by decide +kernel, by decide +kernel⟩, List.mem_of_getElem? (i := 27) (by decide +kernel), List.mem_of_getElem? (i := 880) (by decide +kernel), List.mem_of_getElem? (i := 881) (by decide +kernel)⟩
theorem lw_p38 : lw_okq (⟨"OldRoads$Pits", "parted", "(I)I"⟩, 3) := ⟨⟨by decide +kernel, by decide +kernel⟩, List.mem_of_getElem? (i := 235) (by decide +kernel), List.mem_of_getElem? (i := 916) (by decide +kernel), List.mem_of_getElem? (i := 917) (by decide +kernel)⟩
theorem lw_p39 : lw_okq (⟨"OldRoads$Pits", "isFirstToShow", "(II)Z"⟩, 3) := ⟨⟨by decide +kernel, by decide +kernel⟩, List.mem_of_getElem? (i := 235) (by decide +kernel), List.mem_of_getElem? (i := 920) (by decide +kernel), List.mem_of_getElem? (i := 921) (by decide +kernel)⟩
theorem lw_p40 : lw_okq (⟨"OldRoads$Pits", "showAlike", "(III)Z"⟩, 3) := ⟨⟨by decide +kernel, by decide +kernel⟩, List.mem_of_getElem? (i := 235) (by decide +kernel), List.mem_of_getElem? (i := 924) (by decide +kernel), List.mem_of_getElem? (i := 925) (by decide +kernel)⟩
theorem lw_p41 : lw_okq (⟨"OldRoads$Pits", "evidenceAlike", "(II)I"⟩, 3) := ⟨⟨by decide +kernel, by decide +kernel⟩, List.mem_of_getElem? (i := 235) (by decide +kernel), List.mem_of_getElem? (i := 928) (by decide +kernel), List.mem_of_getElem? (i := 929) (by decide +kernel)⟩
theorem lw_p42 : lw_okq (⟨"OldRoads", "meeting", "(LOldRoads$Row;I)I"⟩, 20) := ⟨⟨by decide +kernel, by decide +kernel⟩, List.mem_of_getElem? (i := 27) (by decide +kernel), List.mem_of_getElem? (i := 949) (by decide +kernel), List.mem_of_getElem? (i := 950) (by decide +kernel)⟩
theorem lw_p43 : lw_okq (⟨"OldRoads", "placeIn", "(II)I"⟩, 20) := ⟨⟨by decide +kernel, by decide +kernel⟩, List.mem_of_getElem? (i := 27) (by decide +kernel), List.mem_of_getElem? (i := 953) (by decide +kernel), List.mem_of_getElem? (i := 954) (by decide +kernel)⟩
theorem lw_p44 : lw_okq (⟨"OldRoads$Net", "costTo", "(II)I"⟩, 2) := ⟨⟨by decide +kernel, by decide +kernel⟩, List.mem_of_getElem? (i := 280) (by decide +kernel), List.mem_of_getElem? (i := 987) (by decide +kernel), List.mem_of_getElem? (i := 988) (by decide +kernel)⟩
theorem lw_p45 : lw_okq (⟨"OldRoads$Net", "reached", "(III)I"⟩, 2) := ⟨⟨by decide +kernel, by decide +kernel⟩, List.mem_of_getElem? (i := 280) (by decide +kernel), List.mem_of_getElem? (i := 995) (by decide +kernel), List.mem_of_getElem? (i := 996) (by decide +kernel)⟩
theorem lw_p46 : lw_okq (⟨"OldRoads$Feet", "oneOf", "(I)I"⟩, 5) := ⟨⟨by decide +kernel, by decide +kernel⟩, List.mem_of_getElem? (i := 254) (by decide +kernel), List.mem_of_getElem? (i := 1012) (by decide +kernel), List.mem_of_getElem? (i := 1013) (by decide +kernel)⟩
theorem lw_p47 : lw_okq (⟨"OldRoads$Feet", "tread", "(LOldRoads$Ways;I)Z"⟩, 5) := ⟨⟨by decide +kernel, by decide +kernel⟩, List.mem_of_getElem? (i := 254) (by decide +kernel), List.mem_of_getElem? (i := 1020) (by decide +kernel), List.mem_of_getElem? (i := 1021) (by decide +kernel)⟩
def lw_privs_3 : List (MethodName × Nat) := [(⟨"OldRoads", "fitBut", "(II)I"⟩, 20), (⟨"OldRoads", "isStage", "(II)Z"⟩, 20), (⟨"OldRoads", "milesOfStage", "(LOldRoads$Book;I)I"⟩, 20), (⟨"OldRoads", "holdsInto", "(LOldRoads$Book;II)I"⟩, 20), (⟨"OldRoads", "areTwoTowns", "(II)Z"⟩, 20), (⟨"OldRoads", "evidenceOf", "(III)I"⟩, 20), (⟨"OldRoads$Pits", "parted", "(I)I"⟩, 3), (⟨"OldRoads$Pits", "isFirstToShow", "(II)Z"⟩, 3), (⟨"OldRoads$Pits", "showAlike", "(III)Z"⟩, 3), (⟨"OldRoads$Pits", "evidenceAlike", "(II)I"⟩, 3), (⟨"OldRoads", "meeting", "(LOldRoads$Row;I)I"⟩, 20), (⟨"OldRoads", "placeIn", "(II)I"⟩, 20), (⟨"OldRoads$Net", "costTo", "(II)I"⟩, 2), (⟨"OldRoads$Net", "reached", "(III)I"⟩, 2), (⟨"OldRoads$Feet", "oneOf", "(I)I"⟩, 5), (⟨"OldRoads$Feet", "tread", "(LOldRoads$Ways;I)Z"⟩, 5)]
theorem lw_r3 : ∀ q ∈ lw_privs_3, lw_okq q := List.forall_mem_cons.mpr ⟨lw_p32, List.forall_mem_cons.mpr ⟨lw_p33, List.forall_mem_cons.mpr ⟨lw_p34, List.forall_mem_cons.mpr ⟨lw_p35, List.forall_mem_cons.mpr ⟨lw_p36, List.forall_mem_cons.mpr ⟨lw_p37, List.forall_mem_cons.mpr ⟨lw_p38, List.forall_mem_cons.mpr ⟨lw_p39, List.forall_mem_cons.mpr ⟨lw_p40, List.forall_mem_cons.mpr ⟨lw_p41, List.forall_mem_cons.mpr ⟨lw_p42, List.forall_mem_cons.mpr ⟨lw_p43, List.forall_mem_cons.mpr ⟨lw_p44, List.forall_mem_cons.mpr ⟨lw_p45, List.forall_mem_cons.mpr ⟨lw_p46, List.forall_mem_cons.mpr ⟨lw_p47, fun _ h => absurd h List.not_mem_nil⟩⟩⟩⟩⟩⟩⟩⟩⟩⟩⟩⟩⟩⟩⟩⟩
theorem lw_p48 : lw_okq (⟨"OldRoads", "isEra", "(I)Z"⟩, 20) := ⟨⟨by decide +kernel, by decide +kernel⟩, List.mem_of_getElem? (i := 27) (by decide +kernel), List.mem_of_getElem? (i := 1065) (by decide +kernel), List.mem_of_getElem? (i := 1066) (by decide +kernel)⟩
theorem lw_p49 : lw_okq (⟨"OldRoads$Land", "isUnlike", "(LOldRoads$Land;I)Z"⟩, 1) := ⟨⟨by decide +kernel, by decide +kernel⟩, List.mem_of_getElem? (i := 35) (by decide +kernel), List.mem_of_getElem? (i := 1073) (by decide +kernel), List.mem_of_getElem? (i := 1074) (by decide +kernel)⟩
theorem lw_p50 : lw_okq (⟨"java/lang/Throwable", "fillInStackTrace", "(I)Ljava/lang/Throwable;"⟩, 6) := ⟨⟨by decide +kernel, by decide +kernel⟩, List.mem_of_getElem? (i := 1143) (by decide +kernel), List.mem_of_getElem? (i := 1141) (by decide +kernel), List.mem_of_getElem? (i := 1142) (by decide +kernel)⟩
theorem lw_p51 : lw_okq (⟨"OldRoadsModel", "put", "(I)V"⟩, 69) := ⟨⟨by decide +kernel, by decide +kernel⟩, List.mem_of_getElem? (i := 1179) (by decide +kernel), List.mem_of_getElem? (i := 1429) (by decide +kernel), List.mem_of_getElem? (i := 1430) (by decide +kernel)⟩
theorem lw_p52 : lw_okq (⟨"OldRoadsModel", "goThrough", "([BII)V"⟩, 69) := ⟨⟨by decide +kernel, by decide +kernel⟩, List.mem_of_getElem? (i := 1179) (by decide +kernel), List.mem_of_getElem? (i := 1441) (by decide +kernel), List.mem_of_getElem? (i := 1442) (by decide +kernel)⟩
theorem lw_p53 : lw_okq (⟨"OldRoadsModel", "begin", "([BII)V"⟩, 69) := ⟨⟨by decide +kernel, by decide +kernel⟩, List.mem_of_getElem? (i := 1179) (by decide +kernel), List.mem_of_getElem? (i := 1445) (by decide +kernel), List.mem_of_getElem? (i := 1446) (by decide +kernel)⟩
theorem lw_p54 : lw_okq (⟨"OldRoadsModel", "clause", "()V"⟩, 69) := ⟨⟨by decide +kernel, by decide +kernel⟩, List.mem_of_getElem? (i := 1179) (by decide +kernel), List.mem_of_getElem? (i := 1449) (by decide +kernel), List.mem_of_getElem? (i := 1450) (by decide +kernel)⟩
theorem lw_p55 : lw_okq (⟨"OldRoadsModel", "look", "()I"⟩, 69) := ⟨⟨by decide +kernel, by decide +kernel⟩, List.mem_of_getElem? (i := 1179) (by decide +kernel), List.mem_of_getElem? (i := 1453) (by decide +kernel), List.mem_of_getElem? (i := 1454) (by decide +kernel)⟩
theorem lw_p56 : lw_okq (⟨"OldRoadsModel", "fails", "()Z"⟩, 69) := ⟨⟨by decide +kernel, by decide +kernel⟩, List.mem_of_getElem? (i := 1179) (by decide +kernel), List.mem_of_getElem? (i := 1508) (by decide +kernel), List.mem_of_getElem? (i := 1509) (by decide +kernel)⟩
theorem lw_p57 : lw_okq (⟨"OldRoadsModel", "takes", "(I)Z"⟩, 69) := ⟨⟨by decide +kernel, by decide +kernel⟩, List.mem_of_getElem? (i := 1179) (by decide +kernel), List.mem_of_getElem? (i := 1512) (by decide +kernel), List.mem_of_getElem? (i := 1513) (by decide +kernel)⟩
theorem lw_p58 : lw_okq (⟨"OldRoadsModel", "condition", "(ZI)Z"⟩, 69) := ⟨⟨by decide +kernel, by decide +kernel⟩, List.mem_of_getElem? (i := 1179) (by decide +kernel), List.mem_of_getElem? (i := 1516) (by decide +kernel), List.mem_of_getElem? (i := 1517) (by decide +kernel)⟩
theorem lw_p59 : lw_okq (⟨"OldRoadsModel", "part", "(ZI)Z"⟩, 69) := ⟨⟨by decide +kernel, by decide +kernel⟩, List.mem_of_getElem? (i := 1179) (by decide +kernel), List.mem_of_getElem? (i := 1520) (by decide +kernel), List.mem_of_getElem? (i := 1521) (by decide +kernel)⟩
theorem lw_p60 : lw_okq (⟨"OldRoadsModel", "compares", "(ZI)Z"⟩, 69) := ⟨⟨by decide +kernel, by decide +kernel⟩, List.mem_of_getElem? (i := 1179) (by decide +kernel), List.mem_of_getElem? (i := 1524) (by decide +kernel), List.mem_of_getElem? (i := 1525) (by decide +kernel)⟩
theorem lw_p61 : lw_okq (⟨"OldRoadsModel", "sum", "()I"⟩, 69) := ⟨⟨by decide +kernel, by decide +kernel⟩, List.mem_of_getElem? (i := 1179) (by decide +kernel), List.mem_of_getElem? (i := 1528) (by decide +kernel), List.mem_of_getElem? (i := 1529) (by decide +kernel)⟩
theorem lw_p62 : lw_okq (⟨"OldRoadsModel", "term", "()I"⟩, 69) := ⟨⟨by decide +kernel, by decide +kernel⟩, List.mem_of_getElem? (i := 1179) (by decide +kernel), List.mem_of_getElem? (i := 1532) (by decide +kernel), List.mem_of_getElem? (i := 1533) (by decide +kernel)⟩
theorem lw_p63 : lw_okq (⟨"OldRoadsModel", "atom", "()I"⟩, 69) := ⟨⟨by decide +kernel, by decide +kernel⟩, List.mem_of_getElem? (i := 1179) (by decide +kernel), List.mem_of_getElem? (i := 1536) (by decide +kernel), List.mem_of_getElem? (i := 1537) (by decide +kernel)⟩
def lw_privs_4 : List (MethodName × Nat) := [(⟨"OldRoads", "isEra", "(I)Z"⟩, 20), (⟨"OldRoads$Land", "isUnlike", "(LOldRoads$Land;I)Z"⟩, 1), (⟨"java/lang/Throwable", "fillInStackTrace", "(I)Ljava/lang/Throwable;"⟩, 6), (⟨"OldRoadsModel", "put", "(I)V"⟩, 69), (⟨"OldRoadsModel", "goThrough", "([BII)V"⟩, 69), (⟨"OldRoadsModel", "begin", "([BII)V"⟩, 69), (⟨"OldRoadsModel", "clause", "()V"⟩, 69), (⟨"OldRoadsModel", "look", "()I"⟩, 69), (⟨"OldRoadsModel", "fails", "()Z"⟩, 69), (⟨"OldRoadsModel", "takes", "(I)Z"⟩, 69), (⟨"OldRoadsModel", "condition", "(ZI)Z"⟩, 69), (⟨"OldRoadsModel", "part", "(ZI)Z"⟩, 69), (⟨"OldRoadsModel", "compares", "(ZI)Z"⟩, 69), (⟨"OldRoadsModel", "sum", "()I"⟩, 69), (⟨"OldRoadsModel", "term", "()I"⟩, 69), (⟨"OldRoadsModel", "atom", "()I"⟩, 69)]
theorem lw_r4 : ∀ q ∈ lw_privs_4, lw_okq q := List.forall_mem_cons.mpr ⟨lw_p48, List.forall_mem_cons.mpr ⟨lw_p49, List.forall_mem_cons.mpr ⟨lw_p50, List.forall_mem_cons.mpr ⟨lw_p51, List.forall_mem_cons.mpr ⟨lw_p52, List.forall_mem_cons.mpr ⟨lw_p53, List.forall_mem_cons.mpr ⟨lw_p54, List.forall_mem_cons.mpr ⟨lw_p55, List.forall_mem_cons.mpr ⟨lw_p56, List.forall_mem_cons.mpr ⟨lw_p57, List.forall_mem_cons.mpr ⟨lw_p58, List.forall_mem_cons.mpr ⟨lw_p59, List.forall_mem_cons.mpr ⟨lw_p60, List.forall_mem_cons.mpr ⟨lw_p61, List.forall_mem_cons.mpr ⟨lw_p62, List.forall_mem_cons.mpr ⟨lw_p63, fun _ h => absurd h List.not_mem_nil⟩⟩⟩⟩⟩⟩⟩⟩⟩⟩⟩⟩⟩⟩⟩⟩
theorem lw_p64 : lw_okq (⟨"OldRoadsModel", "goesIn", "()Z"⟩, 69) := ⟨⟨by decide +kernel, by decide +kernel⟩, List.mem_of_getElem? (i := 1179) (by decide +kernel), List.mem_of_getElem? (i := 1540) (by decide +kernel), List.mem_of_getElem? (i := 1541) (by decide +kernel)⟩
theorem lw_p65 : lw_okq (⟨"OldRoadsModel", "isDigit", "()Z"⟩, 69) := ⟨⟨by decide +kernel, by decide +kernel⟩, List.mem_of_getElem? (i := 1179) (by decide +kernel), List.mem_of_getElem? (i := 1544) (by decide +kernel), List.mem_of_getElem? (i := 1545) (by decide +kernel)⟩
theorem lw_p66 : lw_okq (⟨"OldRoadsModel", "unit", "()Z"⟩, 69) := ⟨⟨by decide +kernel, by decide +kernel⟩, List.mem_of_getElem? (i := 1179) (by decide +kernel), List.mem_of_getElem? (i := 1558) (by decide +kernel), List.mem_of_getElem? (i := 1559) (by decide +kernel)⟩
theorem lw_p67 : lw_okq (⟨"OldRoadsModel", "readBook", "()V"⟩, 69) := ⟨⟨by decide +kernel, by decide +kernel⟩, List.mem_of_getElem? (i := 1179) (by decide +kernel), List.mem_of_getElem? (i := 1562) (by decide +kernel), List.mem_of_getElem? (i := 1563) (by decide +kernel)⟩
theorem lw_p68 : lw_okq (⟨"OldRoadsModel", "readTown", "()I"⟩, 69) := ⟨⟨by decide +kernel, by decide +kernel⟩, List.mem_of_getElem? (i := 1179) (by decide +kernel), List.mem_of_getElem? (i := 1566) (by decide +kernel), List.mem_of_getElem? (i := 1567) (by decide +kernel)⟩
theorem lw_p69 : lw_okq (⟨"OldRoadsModel", "isManner", "(II)Z"⟩, 69) := ⟨⟨by decide +kernel, by decide +kernel⟩, List.mem_of_getElem? (i := 1179) (by decide +kernel), List.mem_of_getElem? (i := 1579) (by decide +kernel), List.mem_of_getElem? (i := 1580) (by decide +kernel)⟩
theorem lw_p70 : lw_okq (⟨"OldRoadsModel", "isGoer", "(I)Z"⟩, 69) := ⟨⟨by decide +kernel, by decide +kernel⟩, List.mem_of_getElem? (i := 1179) (by decide +kernel), List.mem_of_getElem? (i := 1583) (by decide +kernel), List.mem_of_getElem? (i := 1584) (by decide +kernel)⟩
theorem lw_p71 : lw_okq (⟨"OldRoadsModel", "painOf", "(IIZII)I"⟩, 69) := ⟨⟨by decide +kernel, by decide +kernel⟩, List.mem_of_getElem? (i := 1179) (by decide +kernel), List.mem_of_getElem? (i := 1596) (by decide +kernel), List.mem_of_getElem? (i := 1597) (by decide +kernel)⟩
theorem lw_p72 : lw_okq (⟨"OldRoadsModel", "isWay", "(IIII)Z"⟩, 69) := ⟨⟨by decide +kernel, by decide +kernel⟩, List.mem_of_getElem? (i := 1179) (by decide +kernel), List.mem_of_getElem? (i := 1606) (by decide +kernel), List.mem_of_getElem? (i := 1607) (by decide +kernel)⟩
theorem lw_p73 : lw_okq (⟨"OldRoadsModel", "layWay", "(IIZII)V"⟩, 69) := ⟨⟨by decide +kernel, by decide +kernel⟩, List.mem_of_getElem? (i := 1179) (by decide +kernel), List.mem_of_getElem? (i := 1610) (by decide +kernel), List.mem_of_getElem? (i := 1611) (by decide +kernel)⟩
theorem lw_p74 : lw_okq (⟨"OldRoadsModel", "layPains", "(IIZ)V"⟩, 69) := ⟨⟨by decide +kernel, by decide +kernel⟩, List.mem_of_getElem? (i := 1179) (by decide +kernel), List.mem_of_getElem? (i := 1614) (by decide +kernel), List.mem_of_getElem? (i := 1615) (by decide +kernel)⟩
theorem lw_p75 : lw_okq (⟨"OldRoadsModel", "goWay", "(II)V"⟩, 69) := ⟨⟨by decide +kernel, by decide +kernel⟩, List.mem_of_getElem? (i := 1179) (by decide +kernel), List.mem_of_getElem? (i := 1618) (by decide +kernel), List.mem_of_getElem? (i := 1619) (by decide +kernel)⟩
theorem lw_p76 : lw_okq (⟨"OldRoadsModel", "layLeft", "(I)V"⟩, 69) := ⟨⟨by decide +kernel, by decide +kernel⟩, List.mem_of_getElem? (i := 1179) (by decide +kernel), List.mem_of_getElem? (i := 1622) (by decide +kernel), List.mem_of_getElem? (i := 1623) (by decide +kernel)⟩
theorem lw_p77 : lw_okq (⟨"OldRoadsModel", "layFrom", "(I)V"⟩, 69) := ⟨⟨by decide +kernel, by decide +kernel⟩, List.mem_of_getElem? (i := 1179) (by decide +kernel), List.mem_of_getElem? (i := 1635) (by decide +kernel), List.mem_of_getElem? (i := 1636) (by decide +kernel)⟩
theorem lw_p78 : lw_okq (⟨"OldRoadsModel", "seesIt", "(II)Z"⟩, 69) := ⟨⟨by decide +kernel, by decide +kernel⟩, List.mem_of_getElem? (i := 1179) (by decide +kernel), List.mem_of_getElem? (i := 1643) (by decide +kernel), List.mem_of_getElem? (i := 1644) (by decide +kernel)⟩
theorem lw_p79 : lw_okq (⟨"OldRoadsModel", "layHops", "(II)V"⟩, 69) := ⟨⟨by decide +kernel, by decide +kernel⟩, List.mem_of_getElem? (i := 1179) (by decide +kernel), List.mem_of_getElem? (i := 1659) (by decide +kernel), List.mem_of_getElem? (i := 1660) (by decide +kernel)⟩
def lw_privs_5 : List (MethodName × Nat) := [(⟨"OldRoadsModel", "goesIn", "()Z"⟩, 69), (⟨"OldRoadsModel", "isDigit", "()Z"⟩, 69), (⟨"OldRoadsModel", "unit", "()Z"⟩, 69), (⟨"OldRoadsModel", "readBook", "()V"⟩, 69), (⟨"OldRoadsModel", "readTown", "()I"⟩, 69), (⟨"OldRoadsModel", "isManner", "(II)Z"⟩, 69), (⟨"OldRoadsModel", "isGoer", "(I)Z"⟩, 69), (⟨"OldRoadsModel", "painOf", "(IIZII)I"⟩, 69), (⟨"OldRoadsModel", "isWay", "(IIII)Z"⟩, 69), (⟨"OldRoadsModel", "layWay", "(IIZII)V"⟩, 69), (⟨"OldRoadsModel", "layPains", "(IIZ)V"⟩, 69), (⟨"OldRoadsModel", "goWay", "(II)V"⟩, 69), (⟨"OldRoadsModel", "layLeft", "(I)V"⟩, 69), (⟨"OldRoadsModel", "layFrom", "(I)V"⟩, 69), (⟨"OldRoadsModel", "seesIt", "(II)Z"⟩, 69), (⟨"OldRoadsModel", "layHops", "(II)V"⟩, 69)]
theorem lw_r5 : ∀ q ∈ lw_privs_5, lw_okq q := List.forall_mem_cons.mpr ⟨lw_p64, List.forall_mem_cons.mpr ⟨lw_p65, List.forall_mem_cons.mpr ⟨lw_p66, List.forall_mem_cons.mpr ⟨lw_p67, List.forall_mem_cons.mpr ⟨lw_p68, List.forall_mem_cons.mpr ⟨lw_p69, List.forall_mem_cons.mpr ⟨lw_p70, List.forall_mem_cons.mpr ⟨lw_p71, List.forall_mem_cons.mpr ⟨lw_p72, List.forall_mem_cons.mpr ⟨lw_p73, List.forall_mem_cons.mpr ⟨lw_p74, List.forall_mem_cons.mpr ⟨lw_p75, List.forall_mem_cons.mpr ⟨lw_p76, List.forall_mem_cons.mpr ⟨lw_p77, List.forall_mem_cons.mpr ⟨lw_p78, List.forall_mem_cons.mpr ⟨lw_p79, fun _ h => absurd h List.not_mem_nil⟩⟩⟩⟩⟩⟩⟩⟩⟩⟩⟩⟩⟩⟩⟩⟩
theorem lw_p80 : lw_okq (⟨"OldRoadsModel", "nextHop", "(II)I"⟩, 69) := ⟨⟨by decide +kernel, by decide +kernel⟩, List.mem_of_getElem? (i := 1179) (by decide +kernel), List.mem_of_getElem? (i := 1663) (by decide +kernel), List.mem_of_getElem? (i := 1664) (by decide +kernel)⟩
theorem lw_p81 : lw_okq (⟨"OldRoadsModel", "addCell", "(I)V"⟩, 69) := ⟨⟨by decide +kernel, by decide +kernel⟩, List.mem_of_getElem? (i := 1179) (by decide +kernel), List.mem_of_getElem? (i := 1671) (by decide +kernel), List.mem_of_getElem? (i := 1672) (by decide +kernel)⟩
theorem lw_p82 : lw_okq (⟨"OldRoadsModel", "added", "()I"⟩, 69) := ⟨⟨by decide +kernel, by decide +kernel⟩, List.mem_of_getElem? (i := 1179) (by decide +kernel), List.mem_of_getElem? (i := 1675) (by decide +kernel), List.mem_of_getElem? (i := 1676) (by decide +kernel)⟩
theorem lw_p83 : lw_okq (⟨"OldRoadsModel", "addHop", "(II)V"⟩, 69) := ⟨⟨by decide +kernel, by decide +kernel⟩, List.mem_of_getElem? (i := 1179) (by decide +kernel), List.mem_of_getElem? (i := 1683) (by decide +kernel), List.mem_of_getElem? (i := 1684) (by decide +kernel)⟩
theorem lw_p84 : lw_okq (⟨"OldRoadsModel", "isLine", "(I)Z"⟩, 69) := ⟨⟨by decide +kernel, by decide +kernel⟩, List.mem_of_getElem? (i := 1179) (by decide +kernel), List.mem_of_getElem? (i := 1699) (by decide +kernel), List.mem_of_getElem? (i := 1700) (by decide +kernel)⟩
theorem lw_p85 : lw_okq (⟨"OldRoadsModel", "cellOf", "(II)I"⟩, 69) := ⟨⟨by decide +kernel, by decide +kernel⟩, List.mem_of_getElem? (i := 1179) (by decide +kernel), List.mem_of_getElem? (i := 1703) (by decide +kernel), List.mem_of_getElem? (i := 1704) (by decide +kernel)⟩
theorem lw_p86 : lw_okq (⟨"OldRoadsModel", "milesOfRow", "([III)I"⟩, 69) := ⟨⟨by decide +kernel, by decide +kernel⟩, List.mem_of_getElem? (i := 1179) (by decide +kernel), List.mem_of_getElem? (i := 1711) (by decide +kernel), List.mem_of_getElem? (i := 1712) (by decide +kernel)⟩
theorem lw_p87 : lw_okq (⟨"OldRoadsModel", "turnsOf", "(IZ)I"⟩, 69) := ⟨⟨by decide +kernel, by decide +kernel⟩, List.mem_of_getElem? (i := 1179) (by decide +kernel), List.mem_of_getElem? (i := 1718) (by decide +kernel), List.mem_of_getElem? (i := 1719) (by decide +kernel)⟩
theorem lw_p88 : lw_okq (⟨"OldRoadsModel", "isNear", "(III)Z"⟩, 69) := ⟨⟨by decide +kernel, by decide +kernel⟩, List.mem_of_getElem? (i := 1179) (by decide +kernel), List.mem_of_getElem? (i := 1730) (by decide +kernel), List.mem_of_getElem? (i := 1731) (by decide +kernel)⟩
theorem lw_p89 : lw_okq (⟨"OldRoadsModel", "nearOf", "(IIIII)I"⟩, 69) := ⟨⟨by decide +kernel, by decide +kernel⟩, List.mem_of_getElem? (i := 1179) (by decide +kernel), List.mem_of_getElem? (i := 1734) (by decide +kernel), List.mem_of_getElem? (i := 1735) (by decide +kernel)⟩
theorem lw_p90 : lw_okq (⟨"OldRoadsModel", "farFrom", "(IIII)I"⟩, 69) := ⟨⟨by decide +kernel, by decide +kernel⟩, List.mem_of_getElem? (i := 1179) (by decide +kernel), List.mem_of_getElem? (i := 1741) (by decide +kernel), List.mem_of_getElem? (i := 1742) (by decide +kernel)⟩
theorem lw_p91 : lw_okq (⟨"OldRoadsModel", "isInLand", "(III)Z"⟩, 69) := ⟨⟨by decide +kernel, by decide +kernel⟩, List.mem_of_getElem? (i := 1179) (by decide +kernel), List.mem_of_getElem? (i := 1749) (by decide +kernel), List.mem_of_getElem? (i := 1750) (by decide +kernel)⟩
theorem lw_p92 : lw_okq (⟨"OldRoadsModel", "missOf", "(I)I"⟩, 69) := ⟨⟨by decide +kernel, by decide +kernel⟩, List.mem_of_getElem? (i := 1179) (by decide +kernel), List.mem_of_getElem? (i := 1761) (by decide +kernel), List.mem_of_getElem? (i := 1762) (by decide +kernel)⟩
theorem lw_p93 : lw_okq (⟨"OldRoadsModel", "layMisses", "(IZ)V"⟩, 69) := ⟨⟨by decide +kernel, by decide +kernel⟩, List.mem_of_getElem? (i := 1179) (by decide +kernel), List.mem_of_getElem? (i := 1769) (by decide +kernel), List.mem_of_getElem? (i := 1770) (by decide +kernel)⟩
theorem lw_p94 : lw_okq (⟨"OldRoadsModel", "bestOf", "(I)I"⟩, 69) := ⟨⟨by decide +kernel, by decide +kernel⟩, List.mem_of_getElem? (i := 1179) (by decide +kernel), List.mem_of_getElem? (i := 1773) (by decide +kernel), List.mem_of_getElem? (i := 1774) (by decide +kernel)⟩
theorem lw_p95 : lw_okq (⟨"OldRoadsModel", "fitOf", "(II)I"⟩, 69) := ⟨⟨by decide +kernel, by decide +kernel⟩, List.mem_of_getElem? (i := 1179) (by decide +kernel), List.mem_of_getElem? (i := 1777) (by decide +kernel), List.mem_of_getElem? (i := 1778) (by decide +kernel)⟩
def lw_privs_6 : List (MethodName × Nat) := [(⟨"OldRoadsModel", "nextHop", "(II)I"⟩, 69), (⟨"OldRoadsModel", "addCell", "(I)V"⟩, 69), (⟨"OldRoadsModel", "added", "()I"⟩, 69), (⟨"OldRoadsModel", "addHop", "(II)V"⟩, 69), (⟨"OldRoadsModel", "isLine", "(I)Z"⟩, 69), (⟨"OldRoadsModel", "cellOf", "(II)I"⟩, 69), (⟨"OldRoadsModel", "milesOfRow", "([III)I"⟩, 69), (⟨"OldRoadsModel", "turnsOf", "(IZ)I"⟩, 69), (⟨"OldRoadsModel", "isNear", "(III)Z"⟩, 69), (⟨"OldRoadsModel", "nearOf", "(IIIII)I"⟩, 69), (⟨"OldRoadsModel", "farFrom", "(IIII)I"⟩, 69), (⟨"OldRoadsModel", "isInLand", "(III)Z"⟩, 69), (⟨"OldRoadsModel", "missOf", "(I)I"⟩, 69), (⟨"OldRoadsModel", "layMisses", "(IZ)V"⟩, 69), (⟨"OldRoadsModel", "bestOf", "(I)I"⟩, 69), (⟨"OldRoadsModel", "fitOf", "(II)I"⟩, 69)]
theorem lw_r6 : ∀ q ∈ lw_privs_6, lw_okq q := List.forall_mem_cons.mpr ⟨lw_p80, List.forall_mem_cons.mpr ⟨lw_p81, List.forall_mem_cons.mpr ⟨lw_p82, List.forall_mem_cons.mpr ⟨lw_p83, List.forall_mem_cons.mpr ⟨lw_p84, List.forall_mem_cons.mpr ⟨lw_p85, List.forall_mem_cons.mpr ⟨lw_p86, List.forall_mem_cons.mpr ⟨lw_p87, List.forall_mem_cons.mpr ⟨lw_p88, List.forall_mem_cons.mpr ⟨lw_p89, List.forall_mem_cons.mpr ⟨lw_p90, List.forall_mem_cons.mpr ⟨lw_p91, List.forall_mem_cons.mpr ⟨lw_p92, List.forall_mem_cons.mpr ⟨lw_p93, List.forall_mem_cons.mpr ⟨lw_p94, List.forall_mem_cons.mpr ⟨lw_p95, fun _ h => absurd h List.not_mem_nil⟩⟩⟩⟩⟩⟩⟩⟩⟩⟩⟩⟩⟩⟩⟩⟩
theorem lw_p96 : lw_okq (⟨"OldRoadsModel", "isStage", "(II)Z"⟩, 69) := ⟨⟨by decide +kernel, by decide +kernel⟩, List.mem_of_getElem? (i := 1179) (by decide +kernel), List.mem_of_getElem? (i := 1789) (by decide +kernel), List.mem_of_getElem? (i := 1790) (by decide +kernel)⟩
theorem lw_p97 : lw_okq (⟨"OldRoadsModel", "trueMiles", "(II)I"⟩, 69) := ⟨⟨by decide +kernel, by decide +kernel⟩, List.mem_of_getElem? (i := 1179) (by decide +kernel), List.mem_of_getElem? (i := 1798) (by decide +kernel), List.mem_of_getElem? (i := 1799) (by decide +kernel)⟩
theorem lw_p98 : lw_okq (⟨"OldRoadsModel", "slipOf", "(III)I"⟩, 69) := ⟨⟨by decide +kernel, by decide +kernel⟩, List.mem_of_getElem? (i := 1179) (by decide +kernel), List.mem_of_getElem? (i := 1806) (by decide +kernel), List.mem_of_getElem? (i := 1807) (by decide +kernel)⟩
theorem lw_p99 : lw_okq (⟨"OldRoadsModel", "areTowns", "(II)Z"⟩, 69) := ⟨⟨by decide +kernel, by decide +kernel⟩, List.mem_of_getElem? (i := 1179) (by decide +kernel), List.mem_of_getElem? (i := 1822) (by decide +kernel), List.mem_of_getElem? (i := 1823) (by decide +kernel)⟩
theorem lw_p100 : lw_okq (⟨"OldRoadsModel", "isTown", "(I)Z"⟩, 69) := ⟨⟨by decide +kernel, by decide +kernel⟩, List.mem_of_getElem? (i := 1179) (by decide +kernel), List.mem_of_getElem? (i := 1826) (by decide +kernel), List.mem_of_getElem? (i := 1827) (by decide +kernel)⟩
theorem lw_p101 : lw_okq (⟨"OldRoadsModel", "layWorld", "(III)V"⟩, 69) := ⟨⟨by decide +kernel, by decide +kernel⟩, List.mem_of_getElem? (i := 1179) (by decide +kernel), List.mem_of_getElem? (i := 1830) (by decide +kernel), List.mem_of_getElem? (i := 1831) (by decide +kernel)⟩
theorem lw_p102 : lw_okq (⟨"OldRoadsModel", "isByWay", "(II)Z"⟩, 69) := ⟨⟨by decide +kernel, by decide +kernel⟩, List.mem_of_getElem? (i := 1179) (by decide +kernel), List.mem_of_getElem? (i := 1834) (by decide +kernel), List.mem_of_getElem? (i := 1835) (by decide +kernel)⟩
theorem lw_p103 : lw_okq (⟨"OldRoadsModel", "layWorlds", "(II)V"⟩, 69) := ⟨⟨by decide +kernel, by decide +kernel⟩, List.mem_of_getElem? (i := 1179) (by decide +kernel), List.mem_of_getElem? (i := 1842) (by decide +kernel), List.mem_of_getElem? (i := 1843) (by decide +kernel)⟩
theorem lw_p104 : lw_okq (⟨"OldRoadsModel", "isOnWay", "(II)Z"⟩, 69) := ⟨⟨by decide +kernel, by decide +kernel⟩, List.mem_of_getElem? (i := 1179) (by decide +kernel), List.mem_of_getElem? (i := 1846) (by decide +kernel), List.mem_of_getElem? (i := 1847) (by decide +kernel)⟩
theorem lw_p105 : lw_okq (⟨"OldRoadsModel", "partedBy", "(I)I"⟩, 69) := ⟨⟨by decide +kernel, by decide +kernel⟩, List.mem_of_getElem? (i := 1179) (by decide +kernel), List.mem_of_getElem? (i := 1858) (by decide +kernel), List.mem_of_getElem? (i := 1859) (by decide +kernel)⟩
theorem lw_p106 : lw_okq (⟨"OldRoadsModel", "meetsOf", "(II)I"⟩, 69) := ⟨⟨by decide +kernel, by decide +kernel⟩, List.mem_of_getElem? (i := 1179) (by decide +kernel), List.mem_of_getElem? (i := 1874) (by decide +kernel), List.mem_of_getElem? (i := 1875) (by decide +kernel)⟩
theorem lw_p107 : lw_okq (⟨"OldRoadsModel", "lies", "(II)I"⟩, 69) := ⟨⟨by decide +kernel, by decide +kernel⟩, List.mem_of_getElem? (i := 1179) (by decide +kernel), List.mem_of_getElem? (i := 1878) (by decide +kernel), List.mem_of_getElem? (i := 1879) (by decide +kernel)⟩
theorem lw_p108 : lw_okq (⟨"OldRoadsModel", "layRoads", "(IIZ)V"⟩, 69) := ⟨⟨by decide +kernel, by decide +kernel⟩, List.mem_of_getElem? (i := 1179) (by decide +kernel), List.mem_of_getElem? (i := 1894) (by decide +kernel), List.mem_of_getElem? (i := 1895) (by decide +kernel)⟩
theorem lw_p109 : lw_okq (⟨"OldRoadsModel", "costOfNet", "()I"⟩, 69) := ⟨⟨by decide +kernel, by decide +kernel⟩, List.mem_of_getElem? (i := 1179) (by decide +kernel), List.mem_of_getElem? (i := 1898) (by decide +kernel), List.mem_of_getElem? (i := 1899) (by decide +kernel)⟩
theorem lw_p110 : lw_okq (⟨"OldRoadsModel", "reached", "(III)I"⟩, 69) := ⟨⟨by decide +kernel, by decide +kernel⟩, List.mem_of_getElem? (i := 1179) (by decide +kernel), List.mem_of_getElem? (i := 1902) (by decide +kernel), List.mem_of_getElem? (i := 1903) (by decide +kernel)⟩
theorem lw_p111 : lw_okq (⟨"OldRoadsModel", "goTrip", "(I)Z"⟩, 69) := ⟨⟨by decide +kernel, by decide +kernel⟩, List.mem_of_getElem? (i := 1179) (by decide +kernel), List.mem_of_getElem? (i := 1910) (by decide +kernel), List.mem_of_getElem? (i := 1911) (by decide +kernel)⟩
def lw_privs_7 : List (MethodName × Nat) := [(⟨"OldRoadsModel", "isStage", "(II)Z"⟩, 69), (⟨"OldRoadsModel", "trueMiles", "(II)I"⟩, 69), (⟨"OldRoadsModel", "slipOf", "(III)I"⟩, 69), (⟨"OldRoadsModel", "areTowns", "(II)Z"⟩, 69), (⟨"OldRoadsModel", "isTown", "(I)Z"⟩, 69), (⟨"OldRoadsModel", "layWorld", "(III)V"⟩, 69), (⟨"OldRoadsModel", "isByWay", "(II)Z"⟩, 69), (⟨"OldRoadsModel", "layWorlds", "(II)V"⟩, 69), (⟨"OldRoadsModel", "isOnWay", "(II)Z"⟩, 69), (⟨"OldRoadsModel", "partedBy", "(I)I"⟩, 69), (⟨"OldRoadsModel", "meetsOf", "(II)I"⟩, 69), (⟨"OldRoadsModel", "lies", "(II)I"⟩, 69), (⟨"OldRoadsModel", "layRoads", "(IIZ)V"⟩, 69), (⟨"OldRoadsModel", "costOfNet", "()I"⟩, 69), (⟨"OldRoadsModel", "reached", "(III)I"⟩, 69), (⟨"OldRoadsModel", "goTrip", "(I)Z"⟩, 69)]
theorem lw_r7 : ∀ q ∈ lw_privs_7, lw_okq q := List.forall_mem_cons.mpr ⟨lw_p96, List.forall_mem_cons.mpr ⟨lw_p97, List.forall_mem_cons.mpr ⟨lw_p98, List.forall_mem_cons.mpr ⟨lw_p99, List.forall_mem_cons.mpr ⟨lw_p100, List.forall_mem_cons.mpr ⟨lw_p101, List.forall_mem_cons.mpr ⟨lw_p102, List.forall_mem_cons.mpr ⟨lw_p103, List.forall_mem_cons.mpr ⟨lw_p104, List.forall_mem_cons.mpr ⟨lw_p105, List.forall_mem_cons.mpr ⟨lw_p106, List.forall_mem_cons.mpr ⟨lw_p107, List.forall_mem_cons.mpr ⟨lw_p108, List.forall_mem_cons.mpr ⟨lw_p109, List.forall_mem_cons.mpr ⟨lw_p110, List.forall_mem_cons.mpr ⟨lw_p111, fun _ h => absurd h List.not_mem_nil⟩⟩⟩⟩⟩⟩⟩⟩⟩⟩⟩⟩⟩⟩⟩⟩
theorem lw_p112 : lw_okq (⟨"OldRoadsModel", "draw", "(I)I"⟩, 69) := ⟨⟨by decide +kernel, by decide +kernel⟩, List.mem_of_getElem? (i := 1179) (by decide +kernel), List.mem_of_getElem? (i := 1914) (by decide +kernel), List.mem_of_getElem? (i := 1915) (by decide +kernel)⟩
theorem lw_p113 : lw_okq (⟨"OldRoadsModel", "easePains", "(I)V"⟩, 69) := ⟨⟨by decide +kernel, by decide +kernel⟩, List.mem_of_getElem? (i := 1179) (by decide +kernel), List.mem_of_getElem? (i := 1920) (by decide +kernel), List.mem_of_getElem? (i := 1921) (by decide +kernel)⟩
theorem lw_p114 : lw_okq (⟨"OldRoadsModel", "troddenMany", "(I)I"⟩, 69) := ⟨⟨by decide +kernel, by decide +kernel⟩, List.mem_of_getElem? (i := 1179) (by decide +kernel), List.mem_of_getElem? (i := 1924) (by decide +kernel), List.mem_of_getElem? (i := 1925) (by decide +kernel)⟩
theorem lw_p115 : lw_okq (⟨"OldRoadsModel", "isEra", "(I)Z"⟩, 69) := ⟨⟨by decide +kernel, by decide +kernel⟩, List.mem_of_getElem? (i := 1179) (by decide +kernel), List.mem_of_getElem? (i := 1952) (by decide +kernel), List.mem_of_getElem? (i := 1953) (by decide +kernel)⟩
theorem lw_p116 : lw_okq (⟨"OldRoadsModel", "changedOf", "(I)I"⟩, 69) := ⟨⟨by decide +kernel, by decide +kernel⟩, List.mem_of_getElem? (i := 1179) (by decide +kernel), List.mem_of_getElem? (i := 1956) (by decide +kernel), List.mem_of_getElem? (i := 1957) (by decide +kernel)⟩
theorem lw_p117 : lw_okq (⟨"OldRoadsModel", "goTo", "(I)V"⟩, 69) := ⟨⟨by decide +kernel, by decide +kernel⟩, List.mem_of_getElem? (i := 1179) (by decide +kernel), List.mem_of_getElem? (i := 1960) (by decide +kernel), List.mem_of_getElem? (i := 1961) (by decide +kernel)⟩
theorem lw_p118 : lw_okq (⟨"OldRoadsModel", "leaveNow", "()V"⟩, 69) := ⟨⟨by decide +kernel, by decide +kernel⟩, List.mem_of_getElem? (i := 1179) (by decide +kernel), List.mem_of_getElem? (i := 1972) (by decide +kernel), List.mem_of_getElem? (i := 1973) (by decide +kernel)⟩
theorem lw_p119 : lw_okq (⟨"OldRoadsModel", "comeBack", "()V"⟩, 69) := ⟨⟨by decide +kernel, by decide +kernel⟩, List.mem_of_getElem? (i := 1179) (by decide +kernel), List.mem_of_getElem? (i := 1976) (by decide +kernel), List.mem_of_getElem? (i := 1977) (by decide +kernel)⟩
def lw_privs_8 : List (MethodName × Nat) := [(⟨"OldRoadsModel", "draw", "(I)I"⟩, 69), (⟨"OldRoadsModel", "easePains", "(I)V"⟩, 69), (⟨"OldRoadsModel", "troddenMany", "(I)I"⟩, 69), (⟨"OldRoadsModel", "isEra", "(I)Z"⟩, 69), (⟨"OldRoadsModel", "changedOf", "(I)I"⟩, 69), (⟨"OldRoadsModel", "goTo", "(I)V"⟩, 69), (⟨"OldRoadsModel", "leaveNow", "()V"⟩, 69), (⟨"OldRoadsModel", "comeBack", "()V"⟩, 69)]
theorem lw_r8 : ∀ q ∈ lw_privs_8, lw_okq q := List.forall_mem_cons.mpr ⟨lw_p112, List.forall_mem_cons.mpr ⟨lw_p113, List.forall_mem_cons.mpr ⟨lw_p114, List.forall_mem_cons.mpr ⟨lw_p115, List.forall_mem_cons.mpr ⟨lw_p116, List.forall_mem_cons.mpr ⟨lw_p117, List.forall_mem_cons.mpr ⟨lw_p118, List.forall_mem_cons.mpr ⟨lw_p119, fun _ h => absurd h List.not_mem_nil⟩⟩⟩⟩⟩⟩⟩⟩
def lw_privs : List (MethodName × Nat) := lw_privs_1 ++ (lw_privs_2 ++ (lw_privs_3 ++ (lw_privs_4 ++ (lw_privs_5 ++ (lw_privs_6 ++ (lw_privs_7 ++ (lw_privs_8)))))))
def lw_tbl : List Cond := k2_sels lw_privs ++ tables_1
theorem lw_privs_ok : ∀ q ∈ lw_privs, lw_okq q := by
  show ∀ q ∈ lw_privs_1 ++ (lw_privs_2 ++ (lw_privs_3 ++ (lw_privs_4 ++ (lw_privs_5 ++ (lw_privs_6 ++ (lw_privs_7 ++ (lw_privs_8))))))), lw_okq q
  exact List.forall_mem_append.mpr ⟨lw_r1, List.forall_mem_append.mpr ⟨lw_r2, List.forall_mem_append.mpr ⟨lw_r3, List.forall_mem_append.mpr ⟨lw_r4, List.forall_mem_append.mpr ⟨lw_r5, List.forall_mem_append.mpr ⟨lw_r6, List.forall_mem_append.mpr ⟨lw_r7, lw_r8⟩⟩⟩⟩⟩⟩⟩
def RX0 : String := "OldRoads$Book"
def TX0 : u_T := fun k => match k with
  | 0 => ("OldRoads$Book", "stops", "LOldRoads$Row;", true)
  | 1 => ("OldRoads$Book", "told", "LOldRoads$Row;", true)
  | _ => ("OldRoads$Book", "at", "I", false)
def tyX0 : Nat → FieldType := fun k => match k with
  | 0 => .object "OldRoads$Row"
  | 1 => .object "OldRoads$Row"
  | _ => .int
theorem nmX0 : ∀ a, a < 3 → ∀ b, b < 3 → a ≠ b → (TX0 a).2.1 ≠ (TX0 b).2.1 := by decide +kernel
theorem tyX0_ok : ∀ k, k < 3 → parseFieldDescriptor (TX0 k).2.2.1 = some (tyX0 k) := by decide +kernel
def RX1 : String := "OldRoads$Feet"
def TX1 : u_T := fun k => match k with
  | 0 => ("OldRoads$Feet", "trod", "[I", true)
  | 1 => ("OldRoads$Feet", "chance", "J", false)
  | 2 => ("OldRoads$Feet", "fresh", "I", false)
  | 3 => ("OldRoads$Feet", "settled", "I", false)
  | _ => ("OldRoads$Feet", "walked", "Z", false)
def tyX1 : Nat → FieldType := fun k => match k with
  | 0 => .array .int
  | 1 => .long
  | 2 => .int
  | 3 => .int
  | _ => .boolean
theorem nmX1 : ∀ a, a < 5 → ∀ b, b < 5 → a ≠ b → (TX1 a).2.1 ≠ (TX1 b).2.1 := by decide +kernel
theorem tyX1_ok : ∀ k, k < 5 → parseFieldDescriptor (TX1 k).2.2.1 = some (tyX1 k) := by decide +kernel
def RX2 : String := "OldRoads$Finds"
def TX2 : u_T := fun k => match k with
  | 0 => ("OldRoads$Finds", "cells", "LOldRoads$Row;", true)
  | 1 => ("OldRoads$Finds", "sorts", "LOldRoads$Row;", true)
  | _ => ("OldRoads$Finds", "weights", "LOldRoads$Row;", true)
def tyX2 : Nat → FieldType := fun k => match k with
  | 0 => .object "OldRoads$Row"
  | 1 => .object "OldRoads$Row"
  | _ => .object "OldRoads$Row"
theorem nmX2 : ∀ a, a < 3 → ∀ b, b < 3 → a ≠ b → (TX2 a).2.1 ≠ (TX2 b).2.1 := by decide +kernel
theorem tyX2_ok : ∀ k, k < 3 → parseFieldDescriptor (TX2 k).2.2.1 = some (tyX2 k) := by decide +kernel
def RX3 : String := "OldRoads$Goer"
def TX3 : u_T := fun k => match k with
  | 0 => ("OldRoads$Goer", "orders", "[I", true)
  | 1 => ("OldRoads$Goer", "stack", "[I", true)
  | 2 => ("OldRoads$Goer", "size", "I", false)
  | 3 => ("OldRoads$Goer", "weight", "I", false)
  | _ => ("OldRoads$Goer", "misses", "[I", true)
def tyX3 : Nat → FieldType := fun k => match k with
  | 0 => .array .int
  | 1 => .array .int
  | 2 => .int
  | 3 => .int
  | _ => .array .int
theorem nmX3 : ∀ a, a < 5 → ∀ b, b < 5 → a ≠ b → (TX3 a).2.1 ≠ (TX3 b).2.1 := by decide +kernel
theorem tyX3_ok : ∀ k, k < 5 → parseFieldDescriptor (TX3 k).2.2.1 = some (tyX3 k) := by decide +kernel
def RX4 : String := "OldRoads$GoerReader"
def TX4 : u_T := fun k => match k with
  | 0 => ("OldRoads$GoerReader", "draft", "LOldRoads$Goer;", true)
  | 1 => ("OldRoads$GoerReader", "tape", "LOldRoads$Row;", false)
  | _ => ("OldRoads$GoerReader", "at", "I", false)
def tyX4 : Nat → FieldType := fun k => match k with
  | 0 => .object "OldRoads$Goer"
  | 1 => .object "OldRoads$Row"
  | _ => .int
theorem nmX4 : ∀ a, a < 3 → ∀ b, b < 3 → a ≠ b → (TX4 a).2.1 ≠ (TX4 b).2.1 := by decide +kernel
theorem tyX4_ok : ∀ k, k < 3 → parseFieldDescriptor (TX4 k).2.2.1 = some (tyX4 k) := by decide +kernel
def RX5 : String := "OldRoads$Land"
def TX5 : u_T := fun k => match k with
  | _ => ("OldRoads$Land", "layers", "[[I", true)
def tyX5 : Nat → FieldType := fun k => match k with
  | _ => .array (.array .int)
theorem nmX5 : ∀ a, a < 1 → ∀ b, b < 1 → a ≠ b → (TX5 a).2.1 ≠ (TX5 b).2.1 := by decide +kernel
theorem tyX5_ok : ∀ k, k < 1 → parseFieldDescriptor (TX5 k).2.2.1 = some (tyX5 k) := by decide +kernel
def RX6 : String := "OldRoads$Net"
def TX6 : u_T := fun k => match k with
  | 0 => ("OldRoads$Net", "costs", "[[I", true)
  | _ => ("OldRoads$Net", "towns", "I", false)
def tyX6 : Nat → FieldType := fun k => match k with
  | 0 => .array (.array .int)
  | _ => .int
theorem nmX6 : ∀ a, a < 2 → ∀ b, b < 2 → a ≠ b → (TX6 a).2.1 ≠ (TX6 b).2.1 := by decide +kernel
theorem tyX6_ok : ∀ k, k < 2 → parseFieldDescriptor (TX6 k).2.2.1 = some (tyX6 k) := by decide +kernel
def RX7 : String := "OldRoads$Pits"
def TX7 : u_T := fun k => match k with
  | 0 => ("OldRoads$Pits", "cells", "LOldRoads$Row;", true)
  | 1 => ("OldRoads$Pits", "shown", "LOldRoads$Row;", true)
  | _ => ("OldRoads$Pits", "evidences", "LOldRoads$Row;", true)
def tyX7 : Nat → FieldType := fun k => match k with
  | 0 => .object "OldRoads$Row"
  | 1 => .object "OldRoads$Row"
  | _ => .object "OldRoads$Row"
theorem nmX7 : ∀ a, a < 3 → ∀ b, b < 3 → a ≠ b → (TX7 a).2.1 ≠ (TX7 b).2.1 := by decide +kernel
theorem tyX7_ok : ∀ k, k < 3 → parseFieldDescriptor (TX7 k).2.2.1 = some (tyX7 k) := by decide +kernel
def RX8 : String := "OldRoads$Row"
def TX8 : u_T := fun k => match k with
  | 0 => ("OldRoads$Row", "items", "[I", true)
  | _ => ("OldRoads$Row", "size", "I", false)
def tyX8 : Nat → FieldType := fun k => match k with
  | 0 => .array .int
  | _ => .int
theorem nmX8 : ∀ a, a < 2 → ∀ b, b < 2 → a ≠ b → (TX8 a).2.1 ≠ (TX8 b).2.1 := by decide +kernel
theorem tyX8_ok : ∀ k, k < 2 → parseFieldDescriptor (TX8 k).2.2.1 = some (tyX8 k) := by decide +kernel
def RX9 : String := "OldRoads$Sight"
def TX9 : u_T := fun k => match k with
  | 0 => ("OldRoads$Sight", "hops", "[I", true)
  | 1 => ("OldRoads$Sight", "queue", "[I", true)
  | 2 => ("OldRoads$Sight", "row", "LOldRoads$Row;", true)
  | _ => ("OldRoads$Sight", "traced", "LOldRoads$Row;", true)
def tyX9 : Nat → FieldType := fun k => match k with
  | 0 => .array .int
  | 1 => .array .int
  | 2 => .object "OldRoads$Row"
  | _ => .object "OldRoads$Row"
theorem nmX9 : ∀ a, a < 4 → ∀ b, b < 4 → a ≠ b → (TX9 a).2.1 ≠ (TX9 b).2.1 := by decide +kernel
theorem tyX9_ok : ∀ k, k < 4 → parseFieldDescriptor (TX9 k).2.2.1 = some (tyX9 k) := by decide +kernel
def RX10 : String := "OldRoads$Ways"
def TX10 : u_T := fun k => match k with
  | 0 => ("OldRoads$Ways", "beside", "[I", true)
  | 1 => ("OldRoads$Ways", "tolls", "[I", true)
  | 2 => ("OldRoads$Ways", "sumsTo", "[I", true)
  | 3 => ("OldRoads$Ways", "sumsFrom", "[I", true)
  | 4 => ("OldRoads$Ways", "open", "[I", true)
  | 5 => ("OldRoads$Ways", "openSize", "I", false)
  | 6 => ("OldRoads$Ways", "heights", "[I", true)
  | 7 => ("OldRoads$Ways", "grounds", "[I", true)
  | 8 => ("OldRoads$Ways", "letters", "[I", true)
  | 9 => ("OldRoads$Ways", "painOfKind", "[I", true)
  | 10 => ("OldRoads$Ways", "goer", "LOldRoads$Goer;", false)
  | 11 => ("OldRoads$Ways", "load", "I", false)
  | 12 => ("OldRoads$Ways", "wet", "Z", false)
  | 13 => ("OldRoads$Ways", "row", "LOldRoads$Row;", true)
  | _ => ("OldRoads$Ways", "kept", "LOldRoads$Row;", true)
def tyX10 : Nat → FieldType := fun k => match k with
  | 0 => .array .int
  | 1 => .array .int
  | 2 => .array .int
  | 3 => .array .int
  | 4 => .array .int
  | 5 => .int
  | 6 => .array .int
  | 7 => .array .int
  | 8 => .array .int
  | 9 => .array .int
  | 10 => .object "OldRoads$Goer"
  | 11 => .int
  | 12 => .boolean
  | 13 => .object "OldRoads$Row"
  | _ => .object "OldRoads$Row"
theorem nmX10 : ∀ a, a < 15 → ∀ b, b < 15 → a ≠ b → (TX10 a).2.1 ≠ (TX10 b).2.1 := by decide +kernel
theorem tyX10_ok : ∀ k, k < 15 → parseFieldDescriptor (TX10 k).2.2.1 = some (tyX10 k) := by decide +kernel
def RX11 : String := "OldRoads"
def TX11 : u_T := fun k => match k with
  | 0 => ("OldRoads", "land", "LOldRoads$Land;", true)
  | 1 => ("OldRoads", "eras", "[LOldRoads$Land;", true)
  | 2 => ("OldRoads", "eraCount", "I", false)
  | 3 => ("OldRoads", "tape", "LOldRoads$Row;", true)
  | 4 => ("OldRoads", "reader", "LOldRoads$GoerReader;", true)
  | 5 => ("OldRoads", "goers", "[LOldRoads$Goer;", true)
  | 6 => ("OldRoads", "goerCount", "I", false)
  | 7 => ("OldRoads", "books", "[LOldRoads$Book;", true)
  | 8 => ("OldRoads", "bookCount", "I", false)
  | 9 => ("OldRoads", "towns", "LOldRoads$Row;", true)
  | 10 => ("OldRoads", "lines", "[LOldRoads$Row;", true)
  | 11 => ("OldRoads", "lineCount", "I", false)
  | 12 => ("OldRoads", "knownLines", "LOldRoads$Row;", true)
  | 13 => ("OldRoads", "fieldSides", "LOldRoads$Row;", true)
  | 14 => ("OldRoads", "ways", "LOldRoads$Ways;", true)
  | 15 => ("OldRoads", "sight", "LOldRoads$Sight;", true)
  | 16 => ("OldRoads", "finds", "LOldRoads$Finds;", true)
  | 17 => ("OldRoads", "pits", "LOldRoads$Pits;", true)
  | 18 => ("OldRoads", "walkers", "LOldRoads$Feet;", true)
  | _ => ("OldRoads", "roads", "LOldRoads$Net;", true)
def tyX11 : Nat → FieldType := fun k => match k with
  | 0 => .object "OldRoads$Land"
  | 1 => .array (.object "OldRoads$Land")
  | 2 => .int
  | 3 => .object "OldRoads$Row"
  | 4 => .object "OldRoads$GoerReader"
  | 5 => .array (.object "OldRoads$Goer")
  | 6 => .int
  | 7 => .array (.object "OldRoads$Book")
  | 8 => .int
  | 9 => .object "OldRoads$Row"
  | 10 => .array (.object "OldRoads$Row")
  | 11 => .int
  | 12 => .object "OldRoads$Row"
  | 13 => .object "OldRoads$Row"
  | 14 => .object "OldRoads$Ways"
  | 15 => .object "OldRoads$Sight"
  | 16 => .object "OldRoads$Finds"
  | 17 => .object "OldRoads$Pits"
  | 18 => .object "OldRoads$Feet"
  | _ => .object "OldRoads$Net"
theorem nmX11 : ∀ a, a < 20 → ∀ b, b < 20 → a ≠ b → (TX11 a).2.1 ≠ (TX11 b).2.1 := by decide +kernel
theorem tyX11_ok : ∀ k, k < 20 → parseFieldDescriptor (TX11 k).2.2.1 = some (tyX11 k) := by decide +kernel
def RX12 : String := "OldRoadsModel"
def TX12 : u_T := fun k => match k with
  | 0 => ("OldRoadsModel", "thrown", "I", false)
  | 1 => ("OldRoadsModel", "land", "[I", true)
  | 2 => ("OldRoadsModel", "townCell", "[I", true)
  | 3 => ("OldRoadsModel", "towns", "I", false)
  | 4 => ("OldRoadsModel", "tape", "[B", true)
  | 5 => ("OldRoadsModel", "texts", "[B", true)
  | 6 => ("OldRoadsModel", "textLong", "[I", true)
  | 7 => ("OldRoadsModel", "letters", "[I", true)
  | 8 => ("OldRoadsModel", "stages", "[I", true)
  | 9 => ("OldRoadsModel", "stageFrom", "[I", true)
  | 10 => ("OldRoadsModel", "stageTo", "[I", true)
  | 11 => ("OldRoadsModel", "stageMiles", "[I", true)
  | 12 => ("OldRoadsModel", "text", "[B", false)
  | 13 => ("OldRoadsModel", "length", "I", false)
  | 14 => ("OldRoadsModel", "goers", "I", false)
  | 15 => ("OldRoadsModel", "books", "I", false)
  | 16 => ("OldRoadsModel", "begins", "I", false)
  | 17 => ("OldRoadsModel", "ends", "I", false)
  | 18 => ("OldRoadsModel", "at", "I", false)
  | 19 => ("OldRoadsModel", "fault", "I", false)
  | 20 => ("OldRoadsModel", "deep", "I", false)
  | 21 => ("OldRoadsModel", "label", "I", false)
  | 22 => ("OldRoadsModel", "found", "I", false)
  | 23 => ("OldRoadsModel", "labels", "Ljava/lang/String;", true)
  | 24 => ("OldRoadsModel", "allowed", "Ljava/lang/String;", true)
  | 25 => ("OldRoadsModel", "hasFound", "Z", false)
  | 26 => ("OldRoadsModel", "pains", "[I", true)
  | 27 => ("OldRoadsModel", "left", "[I", true)
  | 28 => ("OldRoadsModel", "from", "[I", true)
  | 29 => ("OldRoadsModel", "row", "[I", true)
  | 30 => ("OldRoadsModel", "rowMany", "I", false)
  | 31 => ("OldRoadsModel", "hops", "[I", true)
  | 32 => ("OldRoadsModel", "lineMany", "[I", true)
  | 33 => ("OldRoadsModel", "lineCells", "[I", true)
  | 34 => ("OldRoadsModel", "lines", "I", false)
  | 35 => ("OldRoadsModel", "findCell", "[I", true)
  | 36 => ("OldRoadsModel", "findSort", "[I", true)
  | 37 => ("OldRoadsModel", "findWeight", "[I", true)
  | 38 => ("OldRoadsModel", "finds", "I", false)
  | 39 => ("OldRoadsModel", "known", "[I", true)
  | 40 => ("OldRoadsModel", "misses", "[I", true)
  | 41 => ("OldRoadsModel", "knownMany", "I", false)
  | 42 => ("OldRoadsModel", "weights", "[I", true)
  | 43 => ("OldRoadsModel", "wayMany", "[I", true)
  | 44 => ("OldRoadsModel", "wayCells", "[I", true)
  | 45 => ("OldRoadsModel", "evidences", "[I", true)
  | 46 => ("OldRoadsModel", "shown", "[I", true)
  | 47 => ("OldRoadsModel", "pitCell", "[I", true)
  | 48 => ("OldRoadsModel", "pitsOn", "[I", true)
  | 49 => ("OldRoadsModel", "pits", "I", false)
  | 50 => ("OldRoadsModel", "fieldX", "[I", true)
  | 51 => ("OldRoadsModel", "fieldY", "[I", true)
  | 52 => ("OldRoadsModel", "fieldX2", "[I", true)
  | 53 => ("OldRoadsModel", "fieldY2", "[I", true)
  | 54 => ("OldRoadsModel", "fields", "I", false)
  | 55 => ("OldRoadsModel", "costs", "[I", true)
  | 56 => ("OldRoadsModel", "roadOne", "[I", true)
  | 57 => ("OldRoadsModel", "roadOther", "[I", true)
  | 58 => ("OldRoadsModel", "roads", "I", false)
  | 59 => ("OldRoadsModel", "trodden", "[I", true)
  | 60 => ("OldRoadsModel", "plain", "[I", true)
  | 61 => ("OldRoadsModel", "fresh", "I", false)
  | 62 => ("OldRoadsModel", "settled", "I", false)
  | 63 => ("OldRoadsModel", "isWalked", "Z", false)
  | 64 => ("OldRoadsModel", "x", "J", false)
  | 65 => ("OldRoadsModel", "eraLand", "[I", true)
  | 66 => ("OldRoadsModel", "landNow", "[I", true)
  | 67 => ("OldRoadsModel", "isLasting", "[Z", true)
  | _ => ("OldRoadsModel", "eras", "I", false)
def tyX12 : Nat → FieldType := fun k => match k with
  | 0 => .int
  | 1 => .array .int
  | 2 => .array .int
  | 3 => .int
  | 4 => .array .byte
  | 5 => .array .byte
  | 6 => .array .int
  | 7 => .array .int
  | 8 => .array .int
  | 9 => .array .int
  | 10 => .array .int
  | 11 => .array .int
  | 12 => .array .byte
  | 13 => .int
  | 14 => .int
  | 15 => .int
  | 16 => .int
  | 17 => .int
  | 18 => .int
  | 19 => .int
  | 20 => .int
  | 21 => .int
  | 22 => .int
  | 23 => .object "java/lang/String"
  | 24 => .object "java/lang/String"
  | 25 => .boolean
  | 26 => .array .int
  | 27 => .array .int
  | 28 => .array .int
  | 29 => .array .int
  | 30 => .int
  | 31 => .array .int
  | 32 => .array .int
  | 33 => .array .int
  | 34 => .int
  | 35 => .array .int
  | 36 => .array .int
  | 37 => .array .int
  | 38 => .int
  | 39 => .array .int
  | 40 => .array .int
  | 41 => .int
  | 42 => .array .int
  | 43 => .array .int
  | 44 => .array .int
  | 45 => .array .int
  | 46 => .array .int
  | 47 => .array .int
  | 48 => .array .int
  | 49 => .int
  | 50 => .array .int
  | 51 => .array .int
  | 52 => .array .int
  | 53 => .array .int
  | 54 => .int
  | 55 => .array .int
  | 56 => .array .int
  | 57 => .array .int
  | 58 => .int
  | 59 => .array .int
  | 60 => .array .int
  | 61 => .int
  | 62 => .int
  | 63 => .boolean
  | 64 => .long
  | 65 => .array .int
  | 66 => .array .int
  | 67 => .array .boolean
  | _ => .int
theorem nmX12 : ∀ a, a < 69 → ∀ b, b < 69 → a ≠ b → (TX12 a).2.1 ≠ (TX12 b).2.1 := by decide +kernel
theorem tyX12_ok : ∀ k, k < 69 → parseFieldDescriptor (TX12 k).2.2.1 = some (tyX12 k) := by decide +kernel
