section
-- ===== PART A: goes FIRST, ahead of the names: the tables' words, and 'selects' of the private methods out of them =====
/-- a private method of a class that the tables say can be made, by its rows of tables_1 -/
def lw_okq (q : MethodName × Nat) : Prop := (q.1.cls ≠ "java/lang/invoke/MethodHandle" ∧ q.1.cls ≠ "java/lang/invoke/VarHandle") ∧ Cond.instantiable q.1.cls q.2 ∈ tables_1 ∧ Cond.privateMethod q.1 ∈ tables_1 ∧ Cond.instanceMethod q.1 ∈ tables_1
theorem lw_p0 : lw_okq (⟨"NumberArena$Cells", "lowestRunFrom", "(I)I"⟩, 7) := ⟨⟨by decide +kernel, by decide +kernel⟩, List.mem_of_getElem? (i := 32) (by decide +kernel), List.mem_of_getElem? (i := 281) (by decide +kernel), List.mem_of_getElem? (i := 282) (by decide +kernel)⟩
theorem lw_p1 : lw_okq (⟨"NumberArena", "isLiveOrNone", "(I)Z"⟩, 10) := ⟨⟨by decide +kernel, by decide +kernel⟩, List.mem_of_getElem? (i := 15) (by decide +kernel), List.mem_of_getElem? (i := 430) (by decide +kernel), List.mem_of_getElem? (i := 431) (by decide +kernel)⟩
theorem lw_p2 : lw_okq (⟨"NumberArena$Calculator", "guessDigit", "(I)I"⟩, 7) := ⟨⟨by decide +kernel, by decide +kernel⟩, List.mem_of_getElem? (i := 67) (by decide +kernel), List.mem_of_getElem? (i := 449) (by decide +kernel), List.mem_of_getElem? (i := 450) (by decide +kernel)⟩
theorem lw_p3 : lw_okq (⟨"NumberArena$Calculator", "subtractMultiple", "(II)Z"⟩, 7) := ⟨⟨by decide +kernel, by decide +kernel⟩, List.mem_of_getElem? (i := 67) (by decide +kernel), List.mem_of_getElem? (i := 453) (by decide +kernel), List.mem_of_getElem? (i := 454) (by decide +kernel)⟩
theorem lw_p4 : lw_okq (⟨"NumberArena$Calculator", "addBack", "(I)V"⟩, 7) := ⟨⟨by decide +kernel, by decide +kernel⟩, List.mem_of_getElem? (i := 67) (by decide +kernel), List.mem_of_getElem? (i := 457) (by decide +kernel), List.mem_of_getElem? (i := 458) (by decide +kernel)⟩
theorem lw_p5 : lw_okq (⟨"NumberArena", "bringBoth", "(II)I"⟩, 10) := ⟨⟨by decide +kernel, by decide +kernel⟩, List.mem_of_getElem? (i := 15) (by decide +kernel), List.mem_of_getElem? (i := 464) (by decide +kernel), List.mem_of_getElem? (i := 465) (by decide +kernel)⟩
theorem lw_p6 : lw_okq (⟨"NumberArena$Certificate", "endOfNode", "(II)I"⟩, 11) := ⟨⟨by decide +kernel, by decide +kernel⟩, List.mem_of_getElem? (i := 150) (by decide +kernel), List.mem_of_getElem? (i := 632) (by decide +kernel), List.mem_of_getElem? (i := 633) (by decide +kernel)⟩
theorem lw_p7 : lw_okq (⟨"NumberArena$Certificate", "endOfNumber", "(I)I"⟩, 11) := ⟨⟨by decide +kernel, by decide +kernel⟩, List.mem_of_getElem? (i := 150) (by decide +kernel), List.mem_of_getElem? (i := 636) (by decide +kernel), List.mem_of_getElem? (i := 637) (by decide +kernel)⟩
theorem lw_p8 : lw_okq (⟨"NumberArena$Certificate", "isTwo", "(I)Z"⟩, 11) := ⟨⟨by decide +kernel, by decide +kernel⟩, List.mem_of_getElem? (i := 150) (by decide +kernel), List.mem_of_getElem? (i := 641) (by decide +kernel), List.mem_of_getElem? (i := 642) (by decide +kernel)⟩
theorem lw_p9 : lw_okq (⟨"NumberArena$Certificate", "endOfFactors", "(II)I"⟩, 11) := ⟨⟨by decide +kernel, by decide +kernel⟩, List.mem_of_getElem? (i := 150) (by decide +kernel), List.mem_of_getElem? (i := 645) (by decide +kernel), List.mem_of_getElem? (i := 646) (by decide +kernel)⟩
theorem lw_p10 : lw_okq (⟨"NumberArena$Certificate", "readNumber", "(ILNumberArena$Row;)I"⟩, 11) := ⟨⟨by decide +kernel, by decide +kernel⟩, List.mem_of_getElem? (i := 150) (by decide +kernel), List.mem_of_getElem? (i := 655) (by decide +kernel), List.mem_of_getElem? (i := 656) (by decide +kernel)⟩
theorem lw_p11 : lw_okq (⟨"NumberArena$Certificate", "factorsFit", "(I)Z"⟩, 11) := ⟨⟨by decide +kernel, by decide +kernel⟩, List.mem_of_getElem? (i := 150) (by decide +kernel), List.mem_of_getElem? (i := 662) (by decide +kernel), List.mem_of_getElem? (i := 663) (by decide +kernel)⟩
theorem lw_p12 : lw_okq (⟨"NumberArena$Certificate", "multiplyTotal", "(I)Z"⟩, 11) := ⟨⟨by decide +kernel, by decide +kernel⟩, List.mem_of_getElem? (i := 150) (by decide +kernel), List.mem_of_getElem? (i := 668) (by decide +kernel), List.mem_of_getElem? (i := 669) (by decide +kernel)⟩
theorem lw_p13 : lw_okq (⟨"NumberArena$Certificate", "witnessHolds", "(ILNumberArena$Calculator;)Z"⟩, 11) := ⟨⟨by decide +kernel, by decide +kernel⟩, List.mem_of_getElem? (i := 150) (by decide +kernel), List.mem_of_getElem? (i := 675) (by decide +kernel), List.mem_of_getElem? (i := 676) (by decide +kernel)⟩
theorem lw_p14 : lw_okq (⟨"NumberArena$Prover", "writeNode", "(II)Z"⟩, 3) := ⟨⟨by decide +kernel, by decide +kernel⟩, List.mem_of_getElem? (i := 194) (by decide +kernel), List.mem_of_getElem? (i := 698) (by decide +kernel), List.mem_of_getElem? (i := 699) (by decide +kernel)⟩
theorem lw_p15 : lw_okq (⟨"NumberArena$Prover", "putNumber", "(I)Z"⟩, 3) := ⟨⟨by decide +kernel, by decide +kernel⟩, List.mem_of_getElem? (i := 194) (by decide +kernel), List.mem_of_getElem? (i := 702) (by decide +kernel), List.mem_of_getElem? (i := 703) (by decide +kernel)⟩
def lw_privs_1 : List (MethodName × Nat) := [(⟨"NumberArena$Cells", "lowestRunFrom", "(I)I"⟩, 7), (⟨"NumberArena", "isLiveOrNone", "(I)Z"⟩, 10), (⟨"NumberArena$Calculator", "guessDigit", "(I)I"⟩, 7), (⟨"NumberArena$Calculator", "subtractMultiple", "(II)Z"⟩, 7), (⟨"NumberArena$Calculator", "addBack", "(I)V"⟩, 7), (⟨"NumberArena", "bringBoth", "(II)I"⟩, 10), (⟨"NumberArena$Certificate", "endOfNode", "(II)I"⟩, 11), (⟨"NumberArena$Certificate", "endOfNumber", "(I)I"⟩, 11), (⟨"NumberArena$Certificate", "isTwo", "(I)Z"⟩, 11), (⟨"NumberArena$Certificate", "endOfFactors", "(II)I"⟩, 11), (⟨"NumberArena$Certificate", "readNumber", "(ILNumberArena$Row;)I"⟩, 11), (⟨"NumberArena$Certificate", "factorsFit", "(I)Z"⟩, 11), (⟨"NumberArena$Certificate", "multiplyTotal", "(I)Z"⟩, 11), (⟨"NumberArena$Certificate", "witnessHolds", "(ILNumberArena$Calculator;)Z"⟩, 11), (⟨"NumberArena$Prover", "writeNode", "(II)Z"⟩, 3), (⟨"NumberArena$Prover", "putNumber", "(I)Z"⟩, 3)]
theorem lw_r1 : ∀ q ∈ lw_privs_1, lw_okq q := List.forall_mem_cons.mpr ⟨lw_p0, List.forall_mem_cons.mpr ⟨lw_p1, List.forall_mem_cons.mpr ⟨lw_p2, List.forall_mem_cons.mpr ⟨lw_p3, List.forall_mem_cons.mpr ⟨lw_p4, List.forall_mem_cons.mpr ⟨lw_p5, List.forall_mem_cons.mpr ⟨lw_p6, List.forall_mem_cons.mpr ⟨lw_p7, List.forall_mem_cons.mpr ⟨lw_p8, List.forall_mem_cons.mpr ⟨lw_p9, List.forall_mem_cons.mpr ⟨lw_p10, List.forall_mem_cons.mpr ⟨lw_p11, List.forall_mem_cons.mpr ⟨lw_p12, List.forall_mem_cons.mpr ⟨lw_p13, List.forall_mem_cons.mpr ⟨lw_p14, List.forall_mem_cons.mpr ⟨lw_p15, fun _ h => absurd h List.not_mem_nil⟩⟩⟩⟩⟩⟩⟩⟩⟩⟩⟩⟩⟩⟩⟩⟩
theorem lw_p16 : lw_okq (⟨"NumberArena$Prover", "put", "(I)Z"⟩, 3) := ⟨⟨by decide +kernel, by decide +kernel⟩, List.mem_of_getElem? (i := 194) (by decide +kernel), List.mem_of_getElem? (i := 706) (by decide +kernel), List.mem_of_getElem? (i := 707) (by decide +kernel)⟩
theorem lw_p17 : lw_okq (⟨"NumberArena$Prover", "writeFactors", "(II)Z"⟩, 3) := ⟨⟨by decide +kernel, by decide +kernel⟩, List.mem_of_getElem? (i := 194) (by decide +kernel), List.mem_of_getElem? (i := 710) (by decide +kernel), List.mem_of_getElem? (i := 711) (by decide +kernel)⟩
theorem lw_p18 : lw_okq (⟨"NumberArena$Prover", "findFactors", "(II)I"⟩, 3) := ⟨⟨by decide +kernel, by decide +kernel⟩, List.mem_of_getElem? (i := 194) (by decide +kernel), List.mem_of_getElem? (i := 714) (by decide +kernel), List.mem_of_getElem? (i := 715) (by decide +kernel)⟩
theorem lw_p19 : lw_okq (⟨"NumberArena$Prover", "leastWitness", "(III)I"⟩, 3) := ⟨⟨by decide +kernel, by decide +kernel⟩, List.mem_of_getElem? (i := 194) (by decide +kernel), List.mem_of_getElem? (i := 721) (by decide +kernel), List.mem_of_getElem? (i := 722) (by decide +kernel)⟩
theorem lw_p20 : lw_okq (⟨"NumberArena$Prover", "isWitness", "(IIII)Z"⟩, 3) := ⟨⟨by decide +kernel, by decide +kernel⟩, List.mem_of_getElem? (i := 194) (by decide +kernel), List.mem_of_getElem? (i := 725) (by decide +kernel), List.mem_of_getElem? (i := 726) (by decide +kernel)⟩
theorem lw_p21 : lw_okq (⟨"NumberArenaModel", "take", "(I)Z"⟩, 29) := ⟨⟨by decide +kernel, by decide +kernel⟩, List.mem_of_getElem? (i := 740) (by decide +kernel), List.mem_of_getElem? (i := 845) (by decide +kernel), List.mem_of_getElem? (i := 846) (by decide +kernel)⟩
theorem lw_p22 : lw_okq (⟨"NumberArenaModel", "end", "()I"⟩, 29) := ⟨⟨by decide +kernel, by decide +kernel⟩, List.mem_of_getElem? (i := 740) (by decide +kernel), List.mem_of_getElem? (i := 849) (by decide +kernel), List.mem_of_getElem? (i := 850) (by decide +kernel)⟩
theorem lw_p23 : lw_okq (⟨"NumberArenaModel", "slide", "()V"⟩, 29) := ⟨⟨by decide +kernel, by decide +kernel⟩, List.mem_of_getElem? (i := 740) (by decide +kernel), List.mem_of_getElem? (i := 853) (by decide +kernel), List.mem_of_getElem? (i := 854) (by decide +kernel)⟩
theorem lw_p24 : lw_okq (⟨"NumberArenaModel", "isLive", "(I)Z"⟩, 29) := ⟨⟨by decide +kernel, by decide +kernel⟩, List.mem_of_getElem? (i := 740) (by decide +kernel), List.mem_of_getElem? (i := 861) (by decide +kernel), List.mem_of_getElem? (i := 862) (by decide +kernel)⟩
theorem lw_p25 : lw_okq (⟨"NumberArenaModel", "put", "(III)V"⟩, 29) := ⟨⟨by decide +kernel, by decide +kernel⟩, List.mem_of_getElem? (i := 740) (by decide +kernel), List.mem_of_getElem? (i := 873) (by decide +kernel), List.mem_of_getElem? (i := 874) (by decide +kernel)⟩
theorem lw_p26 : lw_okq (⟨"NumberArenaModel", "fix", "(II)V"⟩, 29) := ⟨⟨by decide +kernel, by decide +kernel⟩, List.mem_of_getElem? (i := 740) (by decide +kernel), List.mem_of_getElem? (i := 877) (by decide +kernel), List.mem_of_getElem? (i := 878) (by decide +kernel)⟩
theorem lw_p27 : lw_okq (⟨"NumberArenaModel", "at", "(II)I"⟩, 29) := ⟨⟨by decide +kernel, by decide +kernel⟩, List.mem_of_getElem? (i := 740) (by decide +kernel), List.mem_of_getElem? (i := 885) (by decide +kernel), List.mem_of_getElem? (i := 886) (by decide +kernel)⟩
theorem lw_p28 : lw_okq (⟨"NumberArenaModel", "bits", "(I)I"⟩, 29) := ⟨⟨by decide +kernel, by decide +kernel⟩, List.mem_of_getElem? (i := 740) (by decide +kernel), List.mem_of_getElem? (i := 893) (by decide +kernel), List.mem_of_getElem? (i := 894) (by decide +kernel)⟩
theorem lw_p29 : lw_okq (⟨"NumberArenaModel", "allRooms", "()I"⟩, 29) := ⟨⟨by decide +kernel, by decide +kernel⟩, List.mem_of_getElem? (i := 740) (by decide +kernel), List.mem_of_getElem? (i := 901) (by decide +kernel), List.mem_of_getElem? (i := 902) (by decide +kernel)⟩
theorem lw_p30 : lw_okq (⟨"NumberArenaModel", "sum", "(III)V"⟩, 29) := ⟨⟨by decide +kernel, by decide +kernel⟩, List.mem_of_getElem? (i := 740) (by decide +kernel), List.mem_of_getElem? (i := 913) (by decide +kernel), List.mem_of_getElem? (i := 914) (by decide +kernel)⟩
theorem lw_p31 : lw_okq (⟨"NumberArenaModel", "comes", "(II)I"⟩, 29) := ⟨⟨by decide +kernel, by decide +kernel⟩, List.mem_of_getElem? (i := 740) (by decide +kernel), List.mem_of_getElem? (i := 918) (by decide +kernel), List.mem_of_getElem? (i := 919) (by decide +kernel)⟩
def lw_privs_2 : List (MethodName × Nat) := [(⟨"NumberArena$Prover", "put", "(I)Z"⟩, 3), (⟨"NumberArena$Prover", "writeFactors", "(II)Z"⟩, 3), (⟨"NumberArena$Prover", "findFactors", "(II)I"⟩, 3), (⟨"NumberArena$Prover", "leastWitness", "(III)I"⟩, 3), (⟨"NumberArena$Prover", "isWitness", "(IIII)Z"⟩, 3), (⟨"NumberArenaModel", "take", "(I)Z"⟩, 29), (⟨"NumberArenaModel", "end", "()I"⟩, 29), (⟨"NumberArenaModel", "slide", "()V"⟩, 29), (⟨"NumberArenaModel", "isLive", "(I)Z"⟩, 29), (⟨"NumberArenaModel", "put", "(III)V"⟩, 29), (⟨"NumberArenaModel", "fix", "(II)V"⟩, 29), (⟨"NumberArenaModel", "at", "(II)I"⟩, 29), (⟨"NumberArenaModel", "bits", "(I)I"⟩, 29), (⟨"NumberArenaModel", "allRooms", "()I"⟩, 29), (⟨"NumberArenaModel", "sum", "(III)V"⟩, 29), (⟨"NumberArenaModel", "comes", "(II)I"⟩, 29)]
theorem lw_r2 : ∀ q ∈ lw_privs_2, lw_okq q := List.forall_mem_cons.mpr ⟨lw_p16, List.forall_mem_cons.mpr ⟨lw_p17, List.forall_mem_cons.mpr ⟨lw_p18, List.forall_mem_cons.mpr ⟨lw_p19, List.forall_mem_cons.mpr ⟨lw_p20, List.forall_mem_cons.mpr ⟨lw_p21, List.forall_mem_cons.mpr ⟨lw_p22, List.forall_mem_cons.mpr ⟨lw_p23, List.forall_mem_cons.mpr ⟨lw_p24, List.forall_mem_cons.mpr ⟨lw_p25, List.forall_mem_cons.mpr ⟨lw_p26, List.forall_mem_cons.mpr ⟨lw_p27, List.forall_mem_cons.mpr ⟨lw_p28, List.forall_mem_cons.mpr ⟨lw_p29, List.forall_mem_cons.mpr ⟨lw_p30, List.forall_mem_cons.mpr ⟨lw_p31, fun _ h => absurd h List.not_mem_nil⟩⟩⟩⟩⟩⟩⟩⟩⟩⟩⟩⟩⟩⟩⟩⟩
theorem lw_p32 : lw_okq (⟨"NumberArenaModel", "gets", "(III)V"⟩, 29) := ⟨⟨by decide +kernel, by decide +kernel⟩, List.mem_of_getElem? (i := 740) (by decide +kernel), List.mem_of_getElem? (i := 922) (by decide +kernel), List.mem_of_getElem? (i := 923) (by decide +kernel)⟩
theorem lw_p33 : lw_okq (⟨"NumberArenaModel", "copy", "(II)V"⟩, 29) := ⟨⟨by decide +kernel, by decide +kernel⟩, List.mem_of_getElem? (i := 740) (by decide +kernel), List.mem_of_getElem? (i := 926) (by decide +kernel), List.mem_of_getElem? (i := 927) (by decide +kernel)⟩
theorem lw_p34 : lw_okq (⟨"NumberArenaModel", "compared", "(II)I"⟩, 29) := ⟨⟨by decide +kernel, by decide +kernel⟩, List.mem_of_getElem? (i := 740) (by decide +kernel), List.mem_of_getElem? (i := 934) (by decide +kernel), List.mem_of_getElem? (i := 935) (by decide +kernel)⟩
theorem lw_p35 : lw_okq (⟨"NumberArenaModel", "difference", "(III)V"⟩, 29) := ⟨⟨by decide +kernel, by decide +kernel⟩, List.mem_of_getElem? (i := 740) (by decide +kernel), List.mem_of_getElem? (i := 938) (by decide +kernel), List.mem_of_getElem? (i := 939) (by decide +kernel)⟩
theorem lw_p36 : lw_okq (⟨"NumberArenaModel", "product", "(III)V"⟩, 29) := ⟨⟨by decide +kernel, by decide +kernel⟩, List.mem_of_getElem? (i := 740) (by decide +kernel), List.mem_of_getElem? (i := 946) (by decide +kernel), List.mem_of_getElem? (i := 947) (by decide +kernel)⟩
theorem lw_p37 : lw_okq (⟨"NumberArenaModel", "divide", "(IIII)V"⟩, 29) := ⟨⟨by decide +kernel, by decide +kernel⟩, List.mem_of_getElem? (i := 740) (by decide +kernel), List.mem_of_getElem? (i := 955) (by decide +kernel), List.mem_of_getElem? (i := 956) (by decide +kernel)⟩
theorem lw_p38 : lw_okq (⟨"NumberArenaModel", "power", "(IIII)V"⟩, 29) := ⟨⟨by decide +kernel, by decide +kernel⟩, List.mem_of_getElem? (i := 740) (by decide +kernel), List.mem_of_getElem? (i := 963) (by decide +kernel), List.mem_of_getElem? (i := 964) (by decide +kernel)⟩
theorem lw_p39 : lw_okq (⟨"NumberArenaModel", "small", "(II)V"⟩, 29) := ⟨⟨by decide +kernel, by decide +kernel⟩, List.mem_of_getElem? (i := 740) (by decide +kernel), List.mem_of_getElem? (i := 967) (by decide +kernel), List.mem_of_getElem? (i := 968) (by decide +kernel)⟩
theorem lw_p40 : lw_okq (⟨"NumberArenaModel", "bit", "(II)I"⟩, 29) := ⟨⟨by decide +kernel, by decide +kernel⟩, List.mem_of_getElem? (i := 740) (by decide +kernel), List.mem_of_getElem? (i := 971) (by decide +kernel), List.mem_of_getElem? (i := 972) (by decide +kernel)⟩
theorem lw_p41 : lw_okq (⟨"NumberArenaModel", "shifted", "(III)V"⟩, 29) := ⟨⟨by decide +kernel, by decide +kernel⟩, List.mem_of_getElem? (i := 740) (by decide +kernel), List.mem_of_getElem? (i := 987) (by decide +kernel), List.mem_of_getElem? (i := 988) (by decide +kernel)⟩
theorem lw_p42 : lw_okq (⟨"NumberArenaModel", "isOne", "(I)Z"⟩, 29) := ⟨⟨by decide +kernel, by decide +kernel⟩, List.mem_of_getElem? (i := 740) (by decide +kernel), List.mem_of_getElem? (i := 999) (by decide +kernel), List.mem_of_getElem? (i := 1000) (by decide +kernel)⟩
theorem lw_p43 : lw_okq (⟨"NumberArenaModel", "isRow", "()Z"⟩, 29) := ⟨⟨by decide +kernel, by decide +kernel⟩, List.mem_of_getElem? (i := 740) (by decide +kernel), List.mem_of_getElem? (i := 1046) (by decide +kernel), List.mem_of_getElem? (i := 1047) (by decide +kernel)⟩
theorem lw_p44 : lw_okq (⟨"NumberArenaModel", "opens", "(II)Z"⟩, 29) := ⟨⟨by decide +kernel, by decide +kernel⟩, List.mem_of_getElem? (i := 740) (by decide +kernel), List.mem_of_getElem? (i := 1050) (by decide +kernel), List.mem_of_getElem? (i := 1051) (by decide +kernel)⟩
theorem lw_p45 : lw_okq (⟨"NumberArenaModel", "passes", "()Z"⟩, 29) := ⟨⟨by decide +kernel, by decide +kernel⟩, List.mem_of_getElem? (i := 740) (by decide +kernel), List.mem_of_getElem? (i := 1054) (by decide +kernel), List.mem_of_getElem? (i := 1055) (by decide +kernel)⟩
theorem lw_p46 : lw_okq (⟨"NumberArenaModel", "isTwo", "(I)Z"⟩, 29) := ⟨⟨by decide +kernel, by decide +kernel⟩, List.mem_of_getElem? (i := 740) (by decide +kernel), List.mem_of_getElem? (i := 1058) (by decide +kernel), List.mem_of_getElem? (i := 1059) (by decide +kernel)⟩
theorem lw_p47 : lw_okq (⟨"NumberArenaModel", "load", "(II)V"⟩, 29) := ⟨⟨by decide +kernel, by decide +kernel⟩, List.mem_of_getElem? (i := 740) (by decide +kernel), List.mem_of_getElem? (i := 1062) (by decide +kernel), List.mem_of_getElem? (i := 1063) (by decide +kernel)⟩
def lw_privs_3 : List (MethodName × Nat) := [(⟨"NumberArenaModel", "gets", "(III)V"⟩, 29), (⟨"NumberArenaModel", "copy", "(II)V"⟩, 29), (⟨"NumberArenaModel", "compared", "(II)I"⟩, 29), (⟨"NumberArenaModel", "difference", "(III)V"⟩, 29), (⟨"NumberArenaModel", "product", "(III)V"⟩, 29), (⟨"NumberArenaModel", "divide", "(IIII)V"⟩, 29), (⟨"NumberArenaModel", "power", "(IIII)V"⟩, 29), (⟨"NumberArenaModel", "small", "(II)V"⟩, 29), (⟨"NumberArenaModel", "bit", "(II)I"⟩, 29), (⟨"NumberArenaModel", "shifted", "(III)V"⟩, 29), (⟨"NumberArenaModel", "isOne", "(I)Z"⟩, 29), (⟨"NumberArenaModel", "isRow", "()Z"⟩, 29), (⟨"NumberArenaModel", "opens", "(II)Z"⟩, 29), (⟨"NumberArenaModel", "passes", "()Z"⟩, 29), (⟨"NumberArenaModel", "isTwo", "(I)Z"⟩, 29), (⟨"NumberArenaModel", "load", "(II)V"⟩, 29)]
theorem lw_r3 : ∀ q ∈ lw_privs_3, lw_okq q := List.forall_mem_cons.mpr ⟨lw_p32, List.forall_mem_cons.mpr ⟨lw_p33, List.forall_mem_cons.mpr ⟨lw_p34, List.forall_mem_cons.mpr ⟨lw_p35, List.forall_mem_cons.mpr ⟨lw_p36, List.forall_mem_cons.mpr ⟨lw_p37, List.forall_mem_cons.mpr ⟨lw_p38, List.forall_mem_cons.mpr ⟨lw_p39, List.forall_mem_cons.mpr ⟨lw_p40, List.forall_mem_cons.mpr ⟨lw_p41, List.forall_mem_cons.mpr ⟨lw_p42, List.forall_mem_cons.mpr ⟨lw_p43, List.forall_mem_cons.mpr ⟨lw_p44, List.forall_mem_cons.mpr ⟨lw_p45, List.forall_mem_cons.mpr ⟨lw_p46, List.forall_mem_cons.mpr ⟨lw_p47, fun _ h => absurd h List.not_mem_nil⟩⟩⟩⟩⟩⟩⟩⟩⟩⟩⟩⟩⟩⟩⟩⟩
theorem lw_p48 : lw_okq (⟨"NumberArenaModel", "isGood", "(I)Z"⟩, 29) := ⟨⟨by decide +kernel, by decide +kernel⟩, List.mem_of_getElem? (i := 740) (by decide +kernel), List.mem_of_getElem? (i := 1066) (by decide +kernel), List.mem_of_getElem? (i := 1067) (by decide +kernel)⟩
theorem lw_p49 : lw_okq (⟨"NumberArenaModel", "certificate", "(II)V"⟩, 29) := ⟨⟨by decide +kernel, by decide +kernel⟩, List.mem_of_getElem? (i := 740) (by decide +kernel), List.mem_of_getElem? (i := 1077) (by decide +kernel), List.mem_of_getElem? (i := 1078) (by decide +kernel)⟩
theorem lw_p50 : lw_okq (⟨"NumberArenaModel", "writesNumber", "(I)V"⟩, 29) := ⟨⟨by decide +kernel, by decide +kernel⟩, List.mem_of_getElem? (i := 740) (by decide +kernel), List.mem_of_getElem? (i := 1081) (by decide +kernel), List.mem_of_getElem? (i := 1082) (by decide +kernel)⟩
theorem lw_p51 : lw_okq (⟨"NumberArenaModel", "writes", "(I)V"⟩, 29) := ⟨⟨by decide +kernel, by decide +kernel⟩, List.mem_of_getElem? (i := 740) (by decide +kernel), List.mem_of_getElem? (i := 1085) (by decide +kernel), List.mem_of_getElem? (i := 1086) (by decide +kernel)⟩
def lw_privs_4 : List (MethodName × Nat) := [(⟨"NumberArenaModel", "isGood", "(I)Z"⟩, 29), (⟨"NumberArenaModel", "certificate", "(II)V"⟩, 29), (⟨"NumberArenaModel", "writesNumber", "(I)V"⟩, 29), (⟨"NumberArenaModel", "writes", "(I)V"⟩, 29)]
theorem lw_r4 : ∀ q ∈ lw_privs_4, lw_okq q := List.forall_mem_cons.mpr ⟨lw_p48, List.forall_mem_cons.mpr ⟨lw_p49, List.forall_mem_cons.mpr ⟨lw_p50, List.forall_mem_cons.mpr ⟨lw_p51, fun _ h => absurd h List.not_mem_nil⟩⟩⟩⟩
def lw_privs : List (MethodName × Nat) := lw_privs_1 ++ (lw_privs_2 ++ (lw_privs_3 ++ (lw_privs_4)))
def lw_tbl : List Cond := k2_sels lw_privs ++ tables_1
theorem lw_privs_ok : ∀ q ∈ lw_privs, lw_okq q := by
  show ∀ q ∈ lw_privs_1 ++ (lw_privs_2 ++ (lw_privs_3 ++ (lw_privs_4))), lw_okq q
  exact List.forall_mem_append.mpr ⟨lw_r1, List.forall_mem_append.mpr ⟨lw_r2, List.forall_mem_append.mpr ⟨lw_r3, lw_r4⟩⟩⟩
end
section
/-! ===== BEGIN printed: names, fields, word lists, decode rows ===== -/
def RX0 : String := "NumberArena$Calculator"
def TX0 : u_T := fun k => match k with
  | 0 => ("NumberArena$Calculator", "quotient", "LNumberArena$Row;", true)
  | 1 => ("NumberArena$Calculator", "rest", "LNumberArena$Row;", true)
  | 2 => ("NumberArena$Calculator", "result", "LNumberArena$Row;", true)
  | 3 => ("NumberArena$Calculator", "dividend", "LNumberArena$Row;", true)
  | 4 => ("NumberArena$Calculator", "divisor", "LNumberArena$Row;", true)
  | 5 => ("NumberArena$Calculator", "wide", "LNumberArena$Row;", true)
  | _ => ("NumberArena$Calculator", "other", "LNumberArena$Row;", true)
def tyX0 : Nat → FieldType := fun k => match k with
  | 0 => .object "NumberArena$Row"
  | 1 => .object "NumberArena$Row"
  | 2 => .object "NumberArena$Row"
  | 3 => .object "NumberArena$Row"
  | 4 => .object "NumberArena$Row"
  | 5 => .object "NumberArena$Row"
  | _ => .object "NumberArena$Row"
abbrev wsX00 : List Cond := u_ws RX0 TX0 7
theorem nmX0 : ∀ a, a < 7 → ∀ b, b < 7 → a ≠ b → (TX0 a).2.1 ≠ (TX0 b).2.1 := by decide +kernel
theorem tyX0_ok : ∀ k, k < 7 → parseFieldDescriptor (TX0 k).2.2.1 = some (tyX0 k) := by decide +kernel
abbrev cX0_init : ByteArray := prog_2_method_1_code
def yX0_init : MethodName := ⟨RX0, "<init>", "()V"⟩
abbrev cX0_order : ByteArray := prog_2_method_2_code
def yX0_order : MethodName := ⟨RX0, "order", "(LNumberArena$Row;LNumberArena$Row;)I"⟩
abbrev cX0_sum : ByteArray := prog_2_method_3_code
def yX0_sum : MethodName := ⟨RX0, "sum", "(LNumberArena$Row;LNumberArena$Row;LNumberArena$Row;)V"⟩
abbrev cX0_difference : ByteArray := prog_2_method_4_code
def yX0_difference : MethodName := ⟨RX0, "difference", "(LNumberArena$Row;LNumberArena$Row;LNumberArena$Row;)V"⟩
abbrev cX0_product : ByteArray := prog_2_method_5_code
def yX0_product : MethodName := ⟨RX0, "product", "(LNumberArena$Row;LNumberArena$Row;LNumberArena$Row;)V"⟩
abbrev cX0_shiftUp : ByteArray := prog_2_method_6_code
def yX0_shiftUp : MethodName := ⟨RX0, "shiftUp", "(LNumberArena$Row;LNumberArena$Row;I)V"⟩
abbrev cX0_shiftDown : ByteArray := prog_2_method_7_code
def yX0_shiftDown : MethodName := ⟨RX0, "shiftDown", "(LNumberArena$Row;LNumberArena$Row;I)V"⟩
abbrev cX0_divide : ByteArray := prog_2_method_8_code
def yX0_divide : MethodName := ⟨RX0, "divide", "(LNumberArena$Row;LNumberArena$Row;)V"⟩
abbrev cX0_guessDigit : ByteArray := prog_2_method_9_code
def yX0_guessDigit : MethodName := ⟨RX0, "guessDigit", "(I)I"⟩
abbrev cX0_subtractMultiple : ByteArray := prog_2_method_10_code
def yX0_subtractMultiple : MethodName := ⟨RX0, "subtractMultiple", "(II)Z"⟩
abbrev cX0_addBack : ByteArray := prog_2_method_11_code
def yX0_addBack : MethodName := ⟨RX0, "addBack", "(I)V"⟩
abbrev cX0_raise : ByteArray := prog_2_method_12_code
def yX0_raise : MethodName := ⟨RX0, "raise", "(LNumberArena$Row;LNumberArena$Row;LNumberArena$Row;)V"⟩
abbrev cX0_commonDivisor : ByteArray := prog_2_method_13_code
def yX0_commonDivisor : MethodName := ⟨RX0, "commonDivisor", "(LNumberArena$Row;LNumberArena$Row;)V"⟩
abbrev cX0_squareRoot : ByteArray := prog_2_method_14_code
def yX0_squareRoot : MethodName := ⟨RX0, "squareRoot", "(LNumberArena$Row;)V"⟩
abbrev cX0_jacobiSymbol : ByteArray := prog_2_method_15_code
def yX0_jacobiSymbol : MethodName := ⟨RX0, "jacobiSymbol", "(LNumberArena$Row;LNumberArena$Row;)I"⟩
def RX1 : String := "NumberArena$Cells"
def TX1 : u_T := fun k => match k with
  | 0 => ("NumberArena$Cells", "handles", "I", true)
  | 1 => ("NumberArena$Cells", "limbs", "[I", true)
  | 2 => ("NumberArena$Cells", "places", "[I", true)
  | 3 => ("NumberArena$Cells", "rooms", "[I", true)
  | 4 => ("NumberArena$Cells", "lengths", "[I", true)
  | 5 => ("NumberArena$Cells", "taken", "I", false)
  | _ => ("NumberArena$Cells", "slides", "I", false)
def tyX1 : Nat → FieldType := fun k => match k with
  | 0 => .int
  | 1 => .array .int
  | 2 => .array .int
  | 3 => .array .int
  | 4 => .array .int
  | 5 => .int
  | _ => .int
abbrev wsX10 : List Cond := u_ws RX1 TX1 7
theorem nmX1 : ∀ a, a < 7 → ∀ b, b < 7 → a ≠ b → (TX1 a).2.1 ≠ (TX1 b).2.1 := by decide +kernel
theorem tyX1_ok : ∀ k, k < 7 → parseFieldDescriptor (TX1 k).2.2.1 = some (tyX1 k) := by decide +kernel
abbrev cX1_init : ByteArray := prog_3_method_1_code
def yX1_init : MethodName := ⟨RX1, "<init>", "(II)V"⟩
abbrev cX1_isLive : ByteArray := prog_3_method_2_code
def yX1_isLive : MethodName := ⟨RX1, "isLive", "(I)Z"⟩
abbrev cX1_areLive : ByteArray := prog_3_method_3_code
def yX1_areLive : MethodName := ⟨RX1, "areLive", "(III)Z"⟩
abbrev cX1_leastFree : ByteArray := prog_3_method_4_code
def yX1_leastFree : MethodName := ⟨RX1, "leastFree", "()I"⟩
abbrev cX1_liveHandles : ByteArray := prog_3_method_5_code
def yX1_liveHandles : MethodName := ⟨RX1, "liveHandles", "()I"⟩
abbrev cX1_free : ByteArray := prog_3_method_6_code
def yX1_free : MethodName := ⟨RX1, "free", "(I)V"⟩
abbrev cX1_usedCells : ByteArray := prog_3_method_7_code
def yX1_usedCells : MethodName := ⟨RX1, "usedCells", "()I"⟩
abbrev cX1_highestEnd : ByteArray := prog_3_method_8_code
def yX1_highestEnd : MethodName := ⟨RX1, "highestEnd", "()I"⟩
abbrev cX1_hasSpace : ByteArray := prog_3_method_9_code
def yX1_hasSpace : MethodName := ⟨RX1, "hasSpace", "(I)Z"⟩
abbrev cX1_limbIn : ByteArray := prog_3_method_10_code
def yX1_limbIn : MethodName := ⟨RX1, "limbIn", "(I)I"⟩
abbrev cX1_limbOf : ByteArray := prog_3_method_11_code
def yX1_limbOf : MethodName := ⟨RX1, "limbOf", "(II)I"⟩
abbrev cX1_writeLimb : ByteArray := prog_3_method_12_code
def yX1_writeLimb : MethodName := ⟨RX1, "writeLimb", "(III)I"⟩
abbrev cX1_read : ByteArray := prog_3_method_13_code
def yX1_read : MethodName := ⟨RX1, "read", "(ILNumberArena$Row;)V"⟩
abbrev cX1_takeAhead : ByteArray := prog_3_method_14_code
def yX1_takeAhead : MethodName := ⟨RX1, "takeAhead", "(I)Z"⟩
abbrev cX1_take : ByteArray := prog_3_method_15_code
def yX1_take : MethodName := ⟨RX1, "take", "(I)I"⟩
abbrev cX1_dropTaken : ByteArray := prog_3_method_16_code
def yX1_dropTaken : MethodName := ⟨RX1, "dropTaken", "()V"⟩
abbrev cX1_slideTogether : ByteArray := prog_3_method_17_code
def yX1_slideTogether : MethodName := ⟨RX1, "slideTogether", "()V"⟩
abbrev cX1_lowestRunFrom : ByteArray := prog_3_method_18_code
def yX1_lowestRunFrom : MethodName := ⟨RX1, "lowestRunFrom", "(I)I"⟩
abbrev cX1_giveRun : ByteArray := prog_3_method_19_code
def yX1_giveRun : MethodName := ⟨RX1, "giveRun", "(IILNumberArena$Row;)Z"⟩
abbrev cX1_come : ByteArray := prog_3_method_20_code
def yX1_come : MethodName := ⟨RX1, "come", "(ILNumberArena$Row;)I"⟩
abbrev cX1_runFor : ByteArray := prog_3_method_21_code
def yX1_runFor : MethodName := ⟨RX1, "runFor", "(II)I"⟩
abbrev cX1_settle : ByteArray := prog_3_method_22_code
def yX1_settle : MethodName := ⟨RX1, "settle", "(IILNumberArena$Row;)V"⟩
def RX2 : String := "NumberArena$Certificate"
def TX2 : u_T := fun k => match k with
  | 0 => ("NumberArena$Certificate", "words", "[I", true)
  | 1 => ("NumberArena$Certificate", "count", "I", false)
  | 2 => ("NumberArena$Certificate", "starts", "[I", true)
  | 3 => ("NumberArena$Certificate", "ends", "[I", true)
  | 4 => ("NumberArena$Certificate", "nodes", "I", false)
  | 5 => ("NumberArena$Certificate", "p", "LNumberArena$Row;", true)
  | 6 => ("NumberArena$Certificate", "witness", "LNumberArena$Row;", true)
  | 7 => ("NumberArena$Certificate", "q", "LNumberArena$Row;", true)
  | 8 => ("NumberArena$Certificate", "previous", "LNumberArena$Row;", true)
  | 9 => ("NumberArena$Certificate", "total", "LNumberArena$Row;", true)
  | _ => ("NumberArena$Certificate", "spare", "LNumberArena$Row;", true)
def tyX2 : Nat → FieldType := fun k => match k with
  | 0 => .array .int
  | 1 => .int
  | 2 => .array .int
  | 3 => .array .int
  | 4 => .int
  | 5 => .object "NumberArena$Row"
  | 6 => .object "NumberArena$Row"
  | 7 => .object "NumberArena$Row"
  | 8 => .object "NumberArena$Row"
  | 9 => .object "NumberArena$Row"
  | _ => .object "NumberArena$Row"
abbrev wsX20 : List Cond := u_ws RX2 TX2 11
theorem nmX2 : ∀ a, a < 11 → ∀ b, b < 11 → a ≠ b → (TX2 a).2.1 ≠ (TX2 b).2.1 := by decide +kernel
theorem tyX2_ok : ∀ k, k < 11 → parseFieldDescriptor (TX2 k).2.2.1 = some (tyX2 k) := by decide +kernel
abbrev cX2_init : ByteArray := prog_4_method_1_code
def yX2_init : MethodName := ⟨RX2, "<init>", "(I)V"⟩
abbrev cX2_append : ByteArray := prog_4_method_2_code
def yX2_append : MethodName := ⟨RX2, "append", "(I)Z"⟩
abbrev cX2_wordAt : ByteArray := prog_4_method_3_code
def yX2_wordAt : MethodName := ⟨RX2, "wordAt", "(I)I"⟩
abbrev cX2_copyWords : ByteArray := prog_4_method_4_code
def yX2_copyWords : MethodName := ⟨RX2, "copyWords", "([II)V"⟩
abbrev cX2_isOneNode : ByteArray := prog_4_method_5_code
def yX2_isOneNode : MethodName := ⟨RX2, "isOneNode", "()Z"⟩
abbrev cX2_endOfNode : ByteArray := prog_4_method_6_code
def yX2_endOfNode : MethodName := ⟨RX2, "endOfNode", "(II)I"⟩
abbrev cX2_endOfFactors : ByteArray := prog_4_method_7_code
def yX2_endOfFactors : MethodName := ⟨RX2, "endOfFactors", "(II)I"⟩
abbrev cX2_endOfNumber : ByteArray := prog_4_method_8_code
def yX2_endOfNumber : MethodName := ⟨RX2, "endOfNumber", "(I)I"⟩
abbrev cX2_isTwo : ByteArray := prog_4_method_9_code
def yX2_isTwo : MethodName := ⟨RX2, "isTwo", "(I)Z"⟩
abbrev cX2_readNumber : ByteArray := prog_4_method_10_code
def yX2_readNumber : MethodName := ⟨RX2, "readNumber", "(ILNumberArena$Row;)I"⟩
abbrev cX2_isGoodFor : ByteArray := prog_4_method_11_code
def yX2_isGoodFor : MethodName := ⟨RX2, "isGoodFor", "(LNumberArena$Row;LNumberArena$Calculator;)Z"⟩
abbrev cX2_factorsFit : ByteArray := prog_4_method_12_code
def yX2_factorsFit : MethodName := ⟨RX2, "factorsFit", "(I)Z"⟩
abbrev cX2_multiplyTotal : ByteArray := prog_4_method_13_code
def yX2_multiplyTotal : MethodName := ⟨RX2, "multiplyTotal", "(I)Z"⟩
abbrev cX2_witnessHolds : ByteArray := prog_4_method_14_code
def yX2_witnessHolds : MethodName := ⟨RX2, "witnessHolds", "(ILNumberArena$Calculator;)Z"⟩
def RX3 : String := "NumberArena$Digits"
def TX3 : u_T := fun k => match k with
  | 0 => ("NumberArena$Digits", "bytes", "[I", true)
  | _ => ("NumberArena$Digits", "count", "I", false)
def tyX3 : Nat → FieldType := fun k => match k with
  | 0 => .array .int
  | _ => .int
abbrev wsX30 : List Cond := u_ws RX3 TX3 2
theorem nmX3 : ∀ a, a < 2 → ∀ b, b < 2 → a ≠ b → (TX3 a).2.1 ≠ (TX3 b).2.1 := by decide +kernel
theorem tyX3_ok : ∀ k, k < 2 → parseFieldDescriptor (TX3 k).2.2.1 = some (tyX3 k) := by decide +kernel
abbrev cX3_init : ByteArray := prog_5_method_1_code
def yX3_init : MethodName := ⟨RX3, "<init>", "()V"⟩
abbrev cX3_write : ByteArray := prog_5_method_2_code
def yX3_write : MethodName := ⟨RX3, "write", "(LNumberArena$Row;I)V"⟩
abbrev cX3_byteAt : ByteArray := prog_5_method_3_code
def yX3_byteAt : MethodName := ⟨RX3, "byteAt", "(I)I"⟩
abbrev cX3_characterOf : ByteArray := prog_5_method_4_code
def yX3_characterOf : MethodName := ⟨RX3, "characterOf", "(I)I"⟩
def RX4 : String := "NumberArena$Prover"
def TX4 : u_T := fun k => match k with
  | 0 => ("NumberArena$Prover", "draft", "[I", true)
  | 1 => ("NumberArena$Prover", "count", "I", false)
  | _ => ("NumberArena$Prover", "factors", "[I", true)
def tyX4 : Nat → FieldType := fun k => match k with
  | 0 => .array .int
  | 1 => .int
  | _ => .array .int
abbrev wsX40 : List Cond := u_ws RX4 TX4 3
theorem nmX4 : ∀ a, a < 3 → ∀ b, b < 3 → a ≠ b → (TX4 a).2.1 ≠ (TX4 b).2.1 := by decide +kernel
theorem tyX4_ok : ∀ k, k < 3 → parseFieldDescriptor (TX4 k).2.2.1 = some (tyX4 k) := by decide +kernel
abbrev cX4_init : ByteArray := prog_6_method_1_code
def yX4_init : MethodName := ⟨RX4, "<init>", "(I)V"⟩
abbrev cX4_isPrime : ByteArray := prog_6_method_2_code
def yX4_isPrime : MethodName := ⟨RX4, "isPrime", "(I)Z"⟩
abbrev cX4_leastFactor : ByteArray := prog_6_method_3_code
def yX4_leastFactor : MethodName := ⟨RX4, "leastFactor", "(II)I"⟩
abbrev cX4_exponentOf : ByteArray := prog_6_method_4_code
def yX4_exponentOf : MethodName := ⟨RX4, "exponentOf", "(II)I"⟩
abbrev cX4_write : ByteArray := prog_6_method_5_code
def yX4_write : MethodName := ⟨RX4, "write", "(I)Z"⟩
abbrev cX4_writeNode : ByteArray := prog_6_method_6_code
def yX4_writeNode : MethodName := ⟨RX4, "writeNode", "(II)Z"⟩
abbrev cX4_writeFactors : ByteArray := prog_6_method_7_code
def yX4_writeFactors : MethodName := ⟨RX4, "writeFactors", "(II)Z"⟩
abbrev cX4_findFactors : ByteArray := prog_6_method_8_code
def yX4_findFactors : MethodName := ⟨RX4, "findFactors", "(II)I"⟩
abbrev cX4_leastWitness : ByteArray := prog_6_method_9_code
def yX4_leastWitness : MethodName := ⟨RX4, "leastWitness", "(III)I"⟩
abbrev cX4_isWitness : ByteArray := prog_6_method_10_code
def yX4_isWitness : MethodName := ⟨RX4, "isWitness", "(IIII)Z"⟩
abbrev cX4_powerModulo : ByteArray := prog_6_method_11_code
def yX4_powerModulo : MethodName := ⟨RX4, "powerModulo", "(III)I"⟩
abbrev cX4_putNumber : ByteArray := prog_6_method_12_code
def yX4_putNumber : MethodName := ⟨RX4, "putNumber", "(I)Z"⟩
abbrev cX4_put : ByteArray := prog_6_method_13_code
def yX4_put : MethodName := ⟨RX4, "put", "(I)Z"⟩
def RX5 : String := "NumberArena$Row"
def TX5 : u_T := fun k => match k with
  | 0 => ("NumberArena$Row", "limbs", "[I", true)
  | _ => ("NumberArena$Row", "length", "I", false)
def tyX5 : Nat → FieldType := fun k => match k with
  | 0 => .array .int
  | _ => .int
abbrev wsX50 : List Cond := u_ws RX5 TX5 2
theorem nmX5 : ∀ a, a < 2 → ∀ b, b < 2 → a ≠ b → (TX5 a).2.1 ≠ (TX5 b).2.1 := by decide +kernel
theorem tyX5_ok : ∀ k, k < 2 → parseFieldDescriptor (TX5 k).2.2.1 = some (tyX5 k) := by decide +kernel
abbrev cX5_init : ByteArray := prog_7_method_1_code
def yX5_init : MethodName := ⟨RX5, "<init>", "()V"⟩
abbrev cX5_limbAt : ByteArray := prog_7_method_2_code
def yX5_limbAt : MethodName := ⟨RX5, "limbAt", "(I)I"⟩
abbrev cX5_trim : ByteArray := prog_7_method_3_code
def yX5_trim : MethodName := ⟨RX5, "trim", "(I)V"⟩
abbrev cX5_copy : ByteArray := prog_7_method_4_code
def yX5_copy : MethodName := ⟨RX5, "copy", "(LNumberArena$Row;)V"⟩
abbrev cX5_become : ByteArray := prog_7_method_5_code
def yX5_become : MethodName := ⟨RX5, "become", "(I)V"⟩
abbrev cX5_isOne : ByteArray := prog_7_method_6_code
def yX5_isOne : MethodName := ⟨RX5, "isOne", "()Z"⟩
abbrev cX5_bits : ByteArray := prog_7_method_7_code
def yX5_bits : MethodName := ⟨RX5, "bits", "()I"⟩
abbrev cX5_hasBit : ByteArray := prog_7_method_8_code
def yX5_hasBit : MethodName := ⟨RX5, "hasBit", "(I)Z"⟩
abbrev cX5_trailingZeros : ByteArray := prog_7_method_9_code
def yX5_trailingZeros : MethodName := ⟨RX5, "trailingZeros", "()I"⟩
abbrev cX5_bitsOf : ByteArray := prog_7_method_10_code
def yX5_bitsOf : MethodName := ⟨RX5, "bitsOf", "(I)I"⟩
abbrev cX5_timesPlus : ByteArray := prog_7_method_11_code
def yX5_timesPlus : MethodName := ⟨RX5, "timesPlus", "(II)V"⟩
abbrev cX5_divideBy : ByteArray := prog_7_method_12_code
def yX5_divideBy : MethodName := ⟨RX5, "divideBy", "(I)I"⟩
def RX6 : String := "NumberArena$Tape"
def TX6 : u_T := fun k => match k with
  | 0 => ("NumberArena$Tape", "bytes", "[I", true)
  | _ => ("NumberArena$Tape", "count", "I", false)
def tyX6 : Nat → FieldType := fun k => match k with
  | 0 => .array .int
  | _ => .int
abbrev wsX60 : List Cond := u_ws RX6 TX6 2
theorem nmX6 : ∀ a, a < 2 → ∀ b, b < 2 → a ≠ b → (TX6 a).2.1 ≠ (TX6 b).2.1 := by decide +kernel
theorem tyX6_ok : ∀ k, k < 2 → parseFieldDescriptor (TX6 k).2.2.1 = some (tyX6 k) := by decide +kernel
abbrev cX6_init : ByteArray := prog_8_method_1_code
def yX6_init : MethodName := ⟨RX6, "<init>", "()V"⟩
abbrev cX6_hasSpace : ByteArray := prog_8_method_2_code
def yX6_hasSpace : MethodName := ⟨RX6, "hasSpace", "(I)Z"⟩
abbrev cX6_putBytesOf : ByteArray := prog_8_method_3_code
def yX6_putBytesOf : MethodName := ⟨RX6, "putBytesOf", "(I)V"⟩
abbrev cX6_digitsAhead : ByteArray := prog_8_method_4_code
def yX6_digitsAhead : MethodName := ⟨RX6, "digitsAhead", "(I)I"⟩
abbrev cX6_readNumber : ByteArray := prog_8_method_5_code
def yX6_readNumber : MethodName := ⟨RX6, "readNumber", "(LNumberArena$Row;I)V"⟩
abbrev cX6_digitOf : ByteArray := prog_8_method_6_code
def yX6_digitOf : MethodName := ⟨RX6, "digitOf", "(I)I"⟩
def RX7 : String := "NumberArena"
def TX7 : u_T := fun k => match k with
  | 0 => ("NumberArena", "cells", "LNumberArena$Cells;", true)
  | 1 => ("NumberArena", "calculator", "LNumberArena$Calculator;", true)
  | 2 => ("NumberArena", "tape", "LNumberArena$Tape;", true)
  | 3 => ("NumberArena", "digits", "LNumberArena$Digits;", true)
  | 4 => ("NumberArena", "certificate", "LNumberArena$Certificate;", true)
  | 5 => ("NumberArena", "prover", "LNumberArena$Prover;", true)
  | 6 => ("NumberArena", "first", "LNumberArena$Row;", true)
  | 7 => ("NumberArena", "second", "LNumberArena$Row;", true)
  | 8 => ("NumberArena", "third", "LNumberArena$Row;", true)
  | _ => ("NumberArena", "faultPlace", "I", false)
def tyX7 : Nat → FieldType := fun k => match k with
  | 0 => .object "NumberArena$Cells"
  | 1 => .object "NumberArena$Calculator"
  | 2 => .object "NumberArena$Tape"
  | 3 => .object "NumberArena$Digits"
  | 4 => .object "NumberArena$Certificate"
  | 5 => .object "NumberArena$Prover"
  | 6 => .object "NumberArena$Row"
  | 7 => .object "NumberArena$Row"
  | 8 => .object "NumberArena$Row"
  | _ => .int
abbrev wsX70 : List Cond := u_ws RX7 TX7 10
theorem nmX7 : ∀ a, a < 10 → ∀ b, b < 10 → a ≠ b → (TX7 a).2.1 ≠ (TX7 b).2.1 := by decide +kernel
theorem tyX7_ok : ∀ k, k < 10 → parseFieldDescriptor (TX7 k).2.2.1 = some (tyX7 k) := by decide +kernel
abbrev cX7_init : ByteArray := prog_1_method_1_code
def yX7_init : MethodName := ⟨RX7, "<init>", "(III)V"⟩
abbrev cX7_nearest : ByteArray := prog_1_method_2_code
def yX7_nearest : MethodName := ⟨RX7, "nearest", "(III)I"⟩
abbrev cX7_isRoom : ByteArray := prog_1_method_3_code
def yX7_isRoom : MethodName := ⟨RX7, "isRoom", "(I)Z"⟩
abbrev cX7_isLimb : ByteArray := prog_1_method_4_code
def yX7_isLimb : MethodName := ⟨RX7, "isLimb", "(I)Z"⟩
abbrev cX7_isBase : ByteArray := prog_1_method_5_code
def yX7_isBase : MethodName := ⟨RX7, "isBase", "(I)Z"⟩
abbrev cX7_alloc : ByteArray := prog_1_method_6_code
def yX7_alloc : MethodName := ⟨RX7, "alloc", "(I)I"⟩
abbrev cX7_release : ByteArray := prog_1_method_7_code
def yX7_release : MethodName := ⟨RX7, "release", "(I)I"⟩
abbrev cX7_resize : ByteArray := prog_1_method_8_code
def yX7_resize : MethodName := ⟨RX7, "resize", "(II)I"⟩
abbrev cX7_setLimb : ByteArray := prog_1_method_9_code
def yX7_setLimb : MethodName := ⟨RX7, "setLimb", "(III)I"⟩
abbrev cX7_limb : ByteArray := prog_1_method_10_code
def yX7_limb : MethodName := ⟨RX7, "limb", "(II)I"⟩
abbrev cX7_look : ByteArray := prog_1_method_11_code
def yX7_look : MethodName := ⟨RX7, "look", "(II)I"⟩
abbrev cX7_about : ByteArray := prog_1_method_12_code
def yX7_about : MethodName := ⟨RX7, "about", "(I)I"⟩
abbrev cX7_cell : ByteArray := prog_1_method_13_code
def yX7_cell : MethodName := ⟨RX7, "cell", "(I)I"⟩
abbrev cX7_add : ByteArray := prog_1_method_14_code
def yX7_add : MethodName := ⟨RX7, "add", "(III)I"⟩
abbrev cX7_sub : ByteArray := prog_1_method_15_code
def yX7_sub : MethodName := ⟨RX7, "sub", "(III)I"⟩
abbrev cX7_mul : ByteArray := prog_1_method_16_code
def yX7_mul : MethodName := ⟨RX7, "mul", "(III)I"⟩
abbrev cX7_divmod : ByteArray := prog_1_method_17_code
def yX7_divmod : MethodName := ⟨RX7, "divmod", "(IIII)I"⟩
abbrev cX7_isLiveOrNone : ByteArray := prog_1_method_18_code
def yX7_isLiveOrNone : MethodName := ⟨RX7, "isLiveOrNone", "(I)Z"⟩
abbrev cX7_bringBoth : ByteArray := prog_1_method_19_code
def yX7_bringBoth : MethodName := ⟨RX7, "bringBoth", "(II)I"⟩
abbrev cX7_powmod : ByteArray := prog_1_method_20_code
def yX7_powmod : MethodName := ⟨RX7, "powmod", "(IIII)I"⟩
abbrev cX7_gcd : ByteArray := prog_1_method_21_code
def yX7_gcd : MethodName := ⟨RX7, "gcd", "(III)I"⟩
abbrev cX7_root : ByteArray := prog_1_method_22_code
def yX7_root : MethodName := ⟨RX7, "root", "(II)I"⟩
abbrev cX7_shift : ByteArray := prog_1_method_23_code
def yX7_shift : MethodName := ⟨RX7, "shift", "(III)I"⟩
abbrev cX7_compare : ByteArray := prog_1_method_24_code
def yX7_compare : MethodName := ⟨RX7, "compare", "(II)I"⟩
abbrev cX7_jacobi : ByteArray := prog_1_method_25_code
def yX7_jacobi : MethodName := ⟨RX7, "jacobi", "(II)I"⟩
abbrev cX7_feed : ByteArray := prog_1_method_26_code
def yX7_feed : MethodName := ⟨RX7, "feed", "(IIIII)I"⟩
abbrev cX7_end : ByteArray := prog_1_method_27_code
def yX7_end : MethodName := ⟨RX7, "end", "(I)Z"⟩
abbrev cX7_number : ByteArray := prog_1_method_28_code
def yX7_number : MethodName := ⟨RX7, "number", "(II)I"⟩
abbrev cX7_fault : ByteArray := prog_1_method_29_code
def yX7_fault : MethodName := ⟨RX7, "fault", "()I"⟩
abbrev cX7_text : ByteArray := prog_1_method_30_code
def yX7_text : MethodName := ⟨RX7, "text", "(II)I"⟩
abbrev cX7_out : ByteArray := prog_1_method_31_code
def yX7_out : MethodName := ⟨RX7, "out", "(I)I"⟩
abbrev cX7_word : ByteArray := prog_1_method_32_code
def yX7_word : MethodName := ⟨RX7, "word", "(I)I"⟩
abbrev cX7_told : ByteArray := prog_1_method_33_code
def yX7_told : MethodName := ⟨RX7, "told", "(I)I"⟩
abbrev cX7_clear : ByteArray := prog_1_method_34_code
def yX7_clear : MethodName := ⟨RX7, "clear", "()I"⟩
abbrev cX7_check : ByteArray := prog_1_method_35_code
def yX7_check : MethodName := ⟨RX7, "check", "(I)I"⟩
abbrev cX7_prove : ByteArray := prog_1_method_36_code
def yX7_prove : MethodName := ⟨RX7, "prove", "(I)I"⟩
def RX8 : String := "NumberArenaModel"
def TX8 : u_T := fun k => match k with
  | 0 => ("NumberArenaModel", "handles", "I", true)
  | 1 => ("NumberArenaModel", "cells", "I", true)
  | 2 => ("NumberArenaModel", "wordMost", "I", true)
  | 3 => ("NumberArenaModel", "big", "[I", true)
  | 4 => ("NumberArenaModel", "len", "[I", true)
  | 5 => ("NumberArenaModel", "live", "[Z", true)
  | 6 => ("NumberArenaModel", "room", "[I", true)
  | 7 => ("NumberArenaModel", "place", "[I", true)
  | 8 => ("NumberArenaModel", "tPlace", "[I", true)
  | 9 => ("NumberArenaModel", "tRoom", "[I", true)
  | 10 => ("NumberArenaModel", "taken", "I", false)
  | 11 => ("NumberArenaModel", "slides", "I", false)
  | 12 => ("NumberArenaModel", "tape", "[I", true)
  | 13 => ("NumberArenaModel", "out", "[I", true)
  | 14 => ("NumberArenaModel", "taped", "I", false)
  | 15 => ("NumberArenaModel", "outs", "I", false)
  | 16 => ("NumberArenaModel", "faultAt", "I", false)
  | 17 => ("NumberArenaModel", "word", "[I", true)
  | 18 => ("NumberArenaModel", "words", "I", false)
  | 19 => ("NumberArenaModel", "nodes", "I", false)
  | 20 => ("NumberArenaModel", "next", "I", false)
  | 21 => ("NumberArenaModel", "nP", "[I", true)
  | 22 => ("NumberArenaModel", "nW", "[I", true)
  | 23 => ("NumberArenaModel", "nParent", "[I", true)
  | 24 => ("NumberArenaModel", "nTimes", "[I", true)
  | 25 => ("NumberArenaModel", "nLeft", "[I", true)
  | 26 => ("NumberArenaModel", "made", "[I", true)
  | 27 => ("NumberArenaModel", "makes", "I", false)
  | _ => ("NumberArenaModel", "isDeep", "Z", false)
def tyX8 : Nat → FieldType := fun k => match k with
  | 0 => .int
  | 1 => .int
  | 2 => .int
  | 3 => .array .int
  | 4 => .array .int
  | 5 => .array .boolean
  | 6 => .array .int
  | 7 => .array .int
  | 8 => .array .int
  | 9 => .array .int
  | 10 => .int
  | 11 => .int
  | 12 => .array .int
  | 13 => .array .int
  | 14 => .int
  | 15 => .int
  | 16 => .int
  | 17 => .array .int
  | 18 => .int
  | 19 => .int
  | 20 => .int
  | 21 => .array .int
  | 22 => .array .int
  | 23 => .array .int
  | 24 => .array .int
  | 25 => .array .int
  | 26 => .array .int
  | 27 => .int
  | _ => .boolean
abbrev wsX80 : List Cond := u_ws RX8 TX8 29
theorem nmX8 : ∀ a, a < 29 → ∀ b, b < 29 → a ≠ b → (TX8 a).2.1 ≠ (TX8 b).2.1 := by decide +kernel
theorem tyX8_ok : ∀ k, k < 29 → parseFieldDescriptor (TX8 k).2.2.1 = some (tyX8 k) := by decide +kernel
abbrev cX8_init : ByteArray := prog_10_method_1_code
def yX8_init : MethodName := ⟨RX8, "<init>", "(III)V"⟩
abbrev cX8_near : ByteArray := prog_10_method_2_code
def yX8_near : MethodName := ⟨RX8, "near", "(III)I"⟩
abbrev cX8_isIn : ByteArray := prog_10_method_3_code
def yX8_isIn : MethodName := ⟨RX8, "isIn", "(III)Z"⟩
abbrev cX8_at : ByteArray := prog_10_method_4_code
def yX8_at : MethodName := ⟨RX8, "at", "(II)I"⟩
abbrev cX8_put : ByteArray := prog_10_method_5_code
def yX8_put : MethodName := ⟨RX8, "put", "(III)V"⟩
abbrev cX8_fix : ByteArray := prog_10_method_6_code
def yX8_fix : MethodName := ⟨RX8, "fix", "(II)V"⟩
abbrev cX8_copy : ByteArray := prog_10_method_7_code
def yX8_copy : MethodName := ⟨RX8, "copy", "(II)V"⟩
abbrev cX8_small : ByteArray := prog_10_method_8_code
def yX8_small : MethodName := ⟨RX8, "small", "(II)V"⟩
abbrev cX8_compared : ByteArray := prog_10_method_9_code
def yX8_compared : MethodName := ⟨RX8, "compared", "(II)I"⟩
abbrev cX8_isOne : ByteArray := prog_10_method_10_code
def yX8_isOne : MethodName := ⟨RX8, "isOne", "(I)Z"⟩
abbrev cX8_sum : ByteArray := prog_10_method_11_code
def yX8_sum : MethodName := ⟨RX8, "sum", "(III)V"⟩
abbrev cX8_difference : ByteArray := prog_10_method_12_code
def yX8_difference : MethodName := ⟨RX8, "difference", "(III)V"⟩
abbrev cX8_product : ByteArray := prog_10_method_13_code
def yX8_product : MethodName := ⟨RX8, "product", "(III)V"⟩
abbrev cX8_divide : ByteArray := prog_10_method_14_code
def yX8_divide : MethodName := ⟨RX8, "divide", "(IIII)V"⟩
abbrev cX8_bits : ByteArray := prog_10_method_15_code
def yX8_bits : MethodName := ⟨RX8, "bits", "(I)I"⟩
abbrev cX8_bit : ByteArray := prog_10_method_16_code
def yX8_bit : MethodName := ⟨RX8, "bit", "(II)I"⟩
abbrev cX8_power : ByteArray := prog_10_method_17_code
def yX8_power : MethodName := ⟨RX8, "power", "(IIII)V"⟩
abbrev cX8_end : ByteArray := prog_10_method_18_code
def yX8_end : MethodName := ⟨RX8, "end", "()I"⟩
abbrev cX8_slide : ByteArray := prog_10_method_19_code
def yX8_slide : MethodName := ⟨RX8, "slide", "()V"⟩
abbrev cX8_take : ByteArray := prog_10_method_20_code
def yX8_take : MethodName := ⟨RX8, "take", "(I)Z"⟩
abbrev cX8_gets : ByteArray := prog_10_method_21_code
def yX8_gets : MethodName := ⟨RX8, "gets", "(III)V"⟩
abbrev cX8_isLive : ByteArray := prog_10_method_22_code
def yX8_isLive : MethodName := ⟨RX8, "isLive", "(I)Z"⟩
abbrev cX8_comes : ByteArray := prog_10_method_23_code
def yX8_comes : MethodName := ⟨RX8, "comes", "(II)I"⟩
abbrev cX8_alloc : ByteArray := prog_10_method_24_code
def yX8_alloc : MethodName := ⟨RX8, "alloc", "(I)I"⟩
abbrev cX8_release : ByteArray := prog_10_method_25_code
def yX8_release : MethodName := ⟨RX8, "release", "(I)I"⟩
abbrev cX8_resize : ByteArray := prog_10_method_26_code
def yX8_resize : MethodName := ⟨RX8, "resize", "(II)I"⟩
abbrev cX8_setLimb : ByteArray := prog_10_method_27_code
def yX8_setLimb : MethodName := ⟨RX8, "setLimb", "(III)I"⟩
abbrev cX8_limb : ByteArray := prog_10_method_28_code
def yX8_limb : MethodName := ⟨RX8, "limb", "(II)I"⟩
abbrev cX8_look : ByteArray := prog_10_method_29_code
def yX8_look : MethodName := ⟨RX8, "look", "(II)I"⟩
abbrev cX8_allRooms : ByteArray := prog_10_method_30_code
def yX8_allRooms : MethodName := ⟨RX8, "allRooms", "()I"⟩
abbrev cX8_about : ByteArray := prog_10_method_31_code
def yX8_about : MethodName := ⟨RX8, "about", "(I)I"⟩
abbrev cX8_cell : ByteArray := prog_10_method_32_code
def yX8_cell : MethodName := ⟨RX8, "cell", "(I)I"⟩
abbrev cX8_add : ByteArray := prog_10_method_33_code
def yX8_add : MethodName := ⟨RX8, "add", "(III)I"⟩
abbrev cX8_sub : ByteArray := prog_10_method_34_code
def yX8_sub : MethodName := ⟨RX8, "sub", "(III)I"⟩
abbrev cX8_mul : ByteArray := prog_10_method_35_code
def yX8_mul : MethodName := ⟨RX8, "mul", "(III)I"⟩
abbrev cX8_divmod : ByteArray := prog_10_method_36_code
def yX8_divmod : MethodName := ⟨RX8, "divmod", "(IIII)I"⟩
abbrev cX8_powmod : ByteArray := prog_10_method_37_code
def yX8_powmod : MethodName := ⟨RX8, "powmod", "(IIII)I"⟩
abbrev cX8_gcd : ByteArray := prog_10_method_38_code
def yX8_gcd : MethodName := ⟨RX8, "gcd", "(III)I"⟩
abbrev cX8_root : ByteArray := prog_10_method_39_code
def yX8_root : MethodName := ⟨RX8, "root", "(II)I"⟩
abbrev cX8_shifted : ByteArray := prog_10_method_40_code
def yX8_shifted : MethodName := ⟨RX8, "shifted", "(III)V"⟩
abbrev cX8_shift : ByteArray := prog_10_method_41_code
def yX8_shift : MethodName := ⟨RX8, "shift", "(III)I"⟩
abbrev cX8_compare : ByteArray := prog_10_method_42_code
def yX8_compare : MethodName := ⟨RX8, "compare", "(II)I"⟩
abbrev cX8_jacobi : ByteArray := prog_10_method_43_code
def yX8_jacobi : MethodName := ⟨RX8, "jacobi", "(II)I"⟩
abbrev cX8_feed : ByteArray := prog_10_method_44_code
def yX8_feed : MethodName := ⟨RX8, "feed", "(IIIII)I"⟩
abbrev cX8_end_ : ByteArray := prog_10_method_45_code
def yX8_end_ : MethodName := ⟨RX8, "end", "(I)Z"⟩
abbrev cX8_digit : ByteArray := prog_10_method_46_code
def yX8_digit : MethodName := ⟨RX8, "digit", "(I)I"⟩
abbrev cX8_number : ByteArray := prog_10_method_47_code
def yX8_number : MethodName := ⟨RX8, "number", "(II)I"⟩
abbrev cX8_fault : ByteArray := prog_10_method_48_code
def yX8_fault : MethodName := ⟨RX8, "fault", "()I"⟩
abbrev cX8_text : ByteArray := prog_10_method_49_code
def yX8_text : MethodName := ⟨RX8, "text", "(II)I"⟩
abbrev cX8_out : ByteArray := prog_10_method_50_code
def yX8_out : MethodName := ⟨RX8, "out", "(I)I"⟩
abbrev cX8_word : ByteArray := prog_10_method_51_code
def yX8_word : MethodName := ⟨RX8, "word", "(I)I"⟩
abbrev cX8_told : ByteArray := prog_10_method_52_code
def yX8_told : MethodName := ⟨RX8, "told", "(I)I"⟩
abbrev cX8_clear : ByteArray := prog_10_method_53_code
def yX8_clear : MethodName := ⟨RX8, "clear", "()I"⟩
abbrev cX8_passes : ByteArray := prog_10_method_54_code
def yX8_passes : MethodName := ⟨RX8, "passes", "()Z"⟩
abbrev cX8_isTwo : ByteArray := prog_10_method_55_code
def yX8_isTwo : MethodName := ⟨RX8, "isTwo", "(I)Z"⟩
abbrev cX8_opens : ByteArray := prog_10_method_56_code
def yX8_opens : MethodName := ⟨RX8, "opens", "(II)Z"⟩
abbrev cX8_isRow : ByteArray := prog_10_method_57_code
def yX8_isRow : MethodName := ⟨RX8, "isRow", "()Z"⟩
abbrev cX8_load : ByteArray := prog_10_method_58_code
def yX8_load : MethodName := ⟨RX8, "load", "(II)V"⟩
abbrev cX8_isGood : ByteArray := prog_10_method_59_code
def yX8_isGood : MethodName := ⟨RX8, "isGood", "(I)Z"⟩
abbrev cX8_check : ByteArray := prog_10_method_60_code
def yX8_check : MethodName := ⟨RX8, "check", "(I)I"⟩
abbrev cX8_isPrime : ByteArray := prog_10_method_61_code
def yX8_isPrime : MethodName := ⟨RX8, "isPrime", "(I)Z"⟩
abbrev cX8_powers : ByteArray := prog_10_method_62_code
def yX8_powers : MethodName := ⟨RX8, "powers", "(III)I"⟩
abbrev cX8_writes : ByteArray := prog_10_method_63_code
def yX8_writes : MethodName := ⟨RX8, "writes", "(I)V"⟩
abbrev cX8_writesNumber : ByteArray := prog_10_method_64_code
def yX8_writesNumber : MethodName := ⟨RX8, "writesNumber", "(I)V"⟩
abbrev cX8_does : ByteArray := prog_10_method_65_code
def yX8_does : MethodName := ⟨RX8, "does", "(II)Z"⟩
abbrev cX8_certificate : ByteArray := prog_10_method_66_code
def yX8_certificate : MethodName := ⟨RX8, "certificate", "(II)V"⟩
abbrev cX8_prove : ByteArray := prog_10_method_67_code
def yX8_prove : MethodName := ⟨RX8, "prove", "(I)I"⟩
def RJ6 : String := "java/lang/Integer"
def TJ6 : u_T := fun k => match k with
  | _ => ("", "", "", false)
def tyJ6 : Nat → FieldType := fun k => match k with
  | _ => .int
abbrev wsJ60 : List Cond := u_ws RJ6 TJ6 0
theorem nmJ6 : ∀ a, a < 0 → ∀ b, b < 0 → a ≠ b → (TJ6 a).2.1 ≠ (TJ6 b).2.1 := by decide +kernel
theorem tyJ6_ok : ∀ k, k < 0 → parseFieldDescriptor (TJ6 k).2.2.1 = some (tyJ6 k) := by decide +kernel
abbrev cJ6_numberOfLeadingZeros_0f7a4 : ByteArray := prog_11_method_47_code
def yJ6_numberOfLeadingZeros_0f7a4 : MethodName := ⟨RJ6, "numberOfLeadingZeros", "(I)I"⟩
abbrev cJ6_numberOfTrailingZeros_0f7a4 : ByteArray := prog_11_method_48_code
def yJ6_numberOfTrailingZeros_0f7a4 : MethodName := ⟨RJ6, "numberOfTrailingZeros", "(I)I"⟩
def RJ9 : String := "java/lang/Math"
def TJ9 : u_T := fun k => match k with
  | _ => ("", "", "", false)
def tyJ9 : Nat → FieldType := fun k => match k with
  | _ => .int
abbrev wsJ90 : List Cond := u_ws RJ9 TJ9 0
theorem nmJ9 : ∀ a, a < 0 → ∀ b, b < 0 → a ≠ b → (TJ9 a).2.1 ≠ (TJ9 b).2.1 := by decide +kernel
theorem tyJ9_ok : ∀ k, k < 0 → parseFieldDescriptor (TJ9 k).2.2.1 = some (tyJ9 k) := by decide +kernel
abbrev cJ9_max_7cf53 : ByteArray := prog_12_method_65_code
def yJ9_max_7cf53 : MethodName := ⟨RJ9, "max", "(II)I"⟩
abbrev cJ9_min_7cf53 : ByteArray := prog_12_method_69_code
def yJ9_min_7cf53 : MethodName := ⟨RJ9, "min", "(II)I"⟩
def RJ10 : String := "java/lang/System"
def TJ10 : u_T := fun k => match k with
  | _ => ("", "", "", false)
def tyJ10 : Nat → FieldType := fun k => match k with
  | _ => .int
abbrev wsJ100 : List Cond := u_ws RJ10 TJ10 0
theorem nmJ10 : ∀ a, a < 0 → ∀ b, b < 0 → a ≠ b → (TJ10 a).2.1 ≠ (TJ10 b).2.1 := by decide +kernel
theorem tyJ10_ok : ∀ k, k < 0 → parseFieldDescriptor (TJ10 k).2.2.1 = some (tyJ10 k) := by decide +kernel
def RJ7 : String := "java/util/Arrays"
def TJ7 : u_T := fun k => match k with
  | _ => ("", "", "", false)
def tyJ7 : Nat → FieldType := fun k => match k with
  | _ => .int
abbrev wsJ70 : List Cond := u_ws RJ7 TJ7 0
theorem nmJ7 : ∀ a, a < 0 → ∀ b, b < 0 → a ≠ b → (TJ7 a).2.1 ≠ (TJ7 b).2.1 := by decide +kernel
theorem tyJ7_ok : ∀ k, k < 0 → parseFieldDescriptor (TJ7 k).2.2.1 = some (tyJ7 k) := by decide +kernel
abbrev cJ7_rangeCheck_23922 : ByteArray := prog_14_method_30_code
def yJ7_rangeCheck_23922 : MethodName := ⟨RJ7, "rangeCheck", "(III)V"⟩
abbrev cJ7_fill_fda19 : ByteArray := prog_14_method_104_code
def yJ7_fill_fda19 : MethodName := ⟨RJ7, "fill", "([IIII)V"⟩
def RL : String := "NumberArenaLaw"
abbrev cL_cell : ByteArray := method_2_code
def yL_cell : MethodName := ⟨RL, "cell", "([II)I"⟩
abbrev cL_law : ByteArray := code
def yL_law : MethodName := ⟨RL, "law", "([I)Z"⟩
abbrev vwCl : List vw_C := [(RX0, TX0, 7), (RX1, TX1, 7), (RX2, TX2, 11), (RX3, TX3, 2), (RX4, TX4, 3), (RX5, TX5, 2), (RX6, TX6, 2), (RX7, TX7, 10), (RX8, TX8, 29)]
end
section
/-! ===== the good words of the tables, and where each stands ===== -/
def BIG : List Jvm.Cond := lw_tbl.filter goodWord
theorem big_in : ∀ w ∈ BIG, w ∈ lw_tbl := fun w h => (List.mem_filter.mp h).1
theorem big_gd : ∀ w ∈ BIG, goodWord w = true := fun w h => (List.mem_filter.mp h).2
theorem bigAt {w : Jvm.Cond} (i : Nat) (h : lw_tbl[i]? = some w) (hg : goodWord w = true) : w ∈ BIG := List.mem_filter.mpr ⟨List.mem_of_getElem? h, hg⟩
theorem bigAll (ws : List Jvm.Cond) (ps : List Nat) (h : ws.map some = ps.map (fun i => lw_tbl[i]?)) (hg : ws.all goodWord = true) : ∀ w ∈ ws, w ∈ BIG := by
  intro w hw
  obtain ⟨j, hj⟩ := List.getElem?_of_mem hw
  have h1 : (ws.map some)[j]? = some (some w) := by rw [List.getElem?_map, hj]; rfl
  rw [h, List.getElem?_map] at h1
  cases hp : ps[j]? with
  | none => rw [hp] at h1; cases h1
  | some i =>
    rw [hp] at h1
    exact bigAt i (Option.some.inj h1) (List.all_eq_true.mp hg w hw)
theorem big_same : GoodIn BIG BIG := fun w h => ⟨h, good_of_word (big_gd w h)⟩
theorem bigU0 : ∀ w ∈ wsX00, w ∈ BIG := bigAll _ [158, 160, 162, 164, 166, 168, 170] (by decide +kernel) (by decide +kernel)
theorem bigU1 : ∀ w ∈ wsX10, w ∈ BIG := bigAll _ [102, 104, 106, 108, 110, 112, 114] (by decide +kernel) (by decide +kernel)
theorem bigU2 : ∀ w ∈ wsX20, w ∈ BIG := bigAll _ [222, 224, 226, 228, 230, 232, 234, 236, 238, 240, 242] (by decide +kernel) (by decide +kernel)
theorem bigU3 : ∀ w ∈ wsX30, w ∈ BIG := bigAll _ [196, 198] (by decide +kernel) (by decide +kernel)
theorem bigU4 : ∀ w ∈ wsX40, w ∈ BIG := bigAll _ [256, 258, 260] (by decide +kernel) (by decide +kernel)
theorem bigU5 : ∀ w ∈ wsX50, w ∈ BIG := bigAll _ [141, 143] (by decide +kernel) (by decide +kernel)
theorem bigU6 : ∀ w ∈ wsX60, w ∈ BIG := bigAll _ [182, 184] (by decide +kernel) (by decide +kernel)
theorem bigU7 : ∀ w ∈ wsX70, w ∈ BIG := bigAll _ [275, 277, 279, 281, 283, 285, 287, 289, 291, 293] (by decide +kernel) (by decide +kernel)
theorem bigU8 : ∀ w ∈ wsX80, w ∈ BIG := bigAll _ [829, 831, 833, 835, 837, 839, 841, 843, 845, 847, 849, 851, 853, 855, 857, 859, 861, 863, 865, 867, 869, 871, 873, 875, 877, 879, 881, 883, 885] (by decide +kernel) (by decide +kernel)
def fdX0 : List (Nat × Nat × Nat × Nat × Nat) := [(40, 5, 0, 2, 0), (36, 5, 1, 0, 0), (12, 0, 0, 4, 7), (18, 0, 1, 4, 9), (21, 0, 2, 4, 11), (24, 0, 3, 4, 13), (27, 0, 4, 4, 15), (30, 0, 5, 4, 17), (33, 0, 6, 4, 19)]
def icX0 : List (Nat × Int) := []
def lcX0 : List (Nat × Int) := []
def fpX0 : List Nat := [131, 134, 146, 149, 151, 154, 155, 156, 157]
def ipX0 : List Nat := []
def lpX0 : List Nat := []
theorem mlX0_44 : Jvm.Cond.methodLink RX0 44 yJ9_max_7cf53 ∈ BIG := bigAt 441 (by decide +kernel) (by decide +kernel)
theorem mlX0_50 : Jvm.Cond.methodLink RX0 50 yX5_limbAt ∈ BIG := bigAt 442 (by decide +kernel) (by decide +kernel)
theorem mlX0_54 : Jvm.Cond.methodLink RX0 54 yX5_trim ∈ BIG := bigAt 446 (by decide +kernel) (by decide +kernel)
theorem mlX0_58 : Jvm.Cond.methodLink RX0 58 yJ9_min_7cf53 ∈ BIG := bigAt 476 (by decide +kernel) (by decide +kernel)
theorem mlX0_67 : Jvm.Cond.methodLink RX0 67 yX0_order ∈ BIG := bigAt 489 (by decide +kernel) (by decide +kernel)
theorem mlX0_71 : Jvm.Cond.methodLink RX0 71 yX5_copy ∈ BIG := bigAt 490 (by decide +kernel) (by decide +kernel)
theorem mlX0_75 : Jvm.Cond.methodLink RX0 75 yX5_bitsOf ∈ BIG := bigAt 495 (by decide +kernel) (by decide +kernel)
theorem mlX0_78 : Jvm.Cond.methodLink RX0 78 yX0_shiftUp ∈ BIG := bigAt 496 (by decide +kernel) (by decide +kernel)
theorem mlX0_61 : Jvm.Cond.methodLink RX0 61 yJ7_fill_fda19 ∈ BIG := bigAt 499 (by decide +kernel) (by decide +kernel)
theorem mlX0_82 : Jvm.Cond.methodLink RX0 82 yX0_guessDigit ∈ BIG := bigAt 500 (by decide +kernel) (by decide +kernel)
theorem mlX0_85 : Jvm.Cond.methodLink RX0 85 yX0_subtractMultiple ∈ BIG := bigAt 504 (by decide +kernel) (by decide +kernel)
theorem mlX0_89 : Jvm.Cond.methodLink RX0 89 yX0_addBack ∈ BIG := bigAt 508 (by decide +kernel) (by decide +kernel)
theorem mlX0_92 : Jvm.Cond.methodLink RX0 92 yX0_shiftDown ∈ BIG := bigAt 512 (by decide +kernel) (by decide +kernel)
theorem mlX0_95 : Jvm.Cond.methodLink RX0 95 yX0_divide ∈ BIG := bigAt 530 (by decide +kernel) (by decide +kernel)
theorem mlX0_99 : Jvm.Cond.methodLink RX0 99 yX5_become ∈ BIG := bigAt 531 (by decide +kernel) (by decide +kernel)
theorem mlX0_102 : Jvm.Cond.methodLink RX0 102 yX5_bits ∈ BIG := bigAt 536 (by decide +kernel) (by decide +kernel)
theorem mlX0_106 : Jvm.Cond.methodLink RX0 106 yX5_hasBit ∈ BIG := bigAt 537 (by decide +kernel) (by decide +kernel)
theorem mlX0_110 : Jvm.Cond.methodLink RX0 110 yX0_product ∈ BIG := bigAt 542 (by decide +kernel) (by decide +kernel)
theorem mlX0_114 : Jvm.Cond.methodLink RX0 114 yX0_sum ∈ BIG := bigAt 559 (by decide +kernel) (by decide +kernel)
theorem mlX0_117 : Jvm.Cond.methodLink RX0 117 yX5_trailingZeros ∈ BIG := bigAt 578 (by decide +kernel) (by decide +kernel)
theorem mlX0_120 : Jvm.Cond.methodLink RX0 120 yX5_isOne ∈ BIG := bigAt 585 (by decide +kernel) (by decide +kernel)
def fdX1 : List (Nat × Nat × Nat × Nat × Nat) := [(9, 1, 0, 3, 0), (15, 1, 1, 4, 2), (19, 1, 2, 4, 3), (22, 1, 3, 4, 4), (25, 1, 4, 4, 5), (58, 1, 5, 0, 0), (70, 1, 6, 0, 0), (42, 5, 0, 2, 0), (51, 5, 1, 0, 0)]
def icX1 : List (Nat × Int) := []
def lcX1 : List (Nat × Int) := []
def fpX1 : List Nat := [89, 91, 93, 95, 97, 99, 101, 133, 139]
def ipX1 : List Nat := []
def lpX1 : List Nat := []
theorem mlX1_54 : Jvm.Cond.methodLink RX1 54 yX1_take ∈ BIG := bigAt 315 (by decide +kernel) (by decide +kernel)
theorem mlX1_61 : Jvm.Cond.methodLink RX1 61 yX1_hasSpace ∈ BIG := bigAt 319 (by decide +kernel) (by decide +kernel)
theorem mlX1_38 : Jvm.Cond.methodLink RX1 38 yX1_highestEnd ∈ BIG := bigAt 323 (by decide +kernel) (by decide +kernel)
theorem mlX1_32 : Jvm.Cond.methodLink RX1 32 yJ9_max_7cf53 ∈ BIG := bigAt 327 (by decide +kernel) (by decide +kernel)
theorem mlX1_64 : Jvm.Cond.methodLink RX1 64 yX1_slideTogether ∈ BIG := bigAt 328 (by decide +kernel) (by decide +kernel)
theorem mlX1_73 : Jvm.Cond.methodLink RX1 73 yX1_lowestRunFrom ∈ BIG := bigAt 332 (by decide +kernel) (by decide +kernel)
theorem mlX1_45 : Jvm.Cond.methodLink RX1 45 arraycopyName ∈ BIG := bigAt 336 (by decide +kernel) (by decide +kernel)
theorem mlX1_67 : Jvm.Cond.methodLink RX1 67 yX1_dropTaken ∈ BIG := bigAt 339 (by decide +kernel) (by decide +kernel)
theorem mlX1_76 : Jvm.Cond.methodLink RX1 76 yX1_settle ∈ BIG := bigAt 343 (by decide +kernel) (by decide +kernel)
theorem mlX1_83 : Jvm.Cond.methodLink RX1 83 yJ9_min_7cf53 ∈ BIG := bigAt 347 (by decide +kernel) (by decide +kernel)
theorem mlX1_86 : Jvm.Cond.methodLink RX1 86 yJ7_fill_fda19 ∈ BIG := bigAt 348 (by decide +kernel) (by decide +kernel)
theorem mlX1_28 : Jvm.Cond.methodLink RX1 28 yX1_isLive ∈ BIG := bigAt 437 (by decide +kernel) (by decide +kernel)
theorem mlX1_80 : Jvm.Cond.methodLink RX1 80 yX1_runFor ∈ BIG := bigAt 451 (by decide +kernel) (by decide +kernel)
def fdX2 : List (Nat × Nat × Nat × Nat × Nat) := [(85, 5, 0, 2, 0), (82, 5, 1, 0, 0), (143, 0, 0, 4, 7), (132, 0, 2, 4, 11), (33, 2, 0, 4, 44), (43, 2, 1, 0, 0), (37, 2, 2, 4, 45), (40, 2, 3, 4, 46), (59, 2, 4, 0, 0), (12, 2, 5, 4, 27), (18, 2, 6, 4, 29), (21, 2, 7, 4, 31), (24, 2, 8, 4, 33), (27, 2, 9, 4, 35), (30, 2, 10, 4, 37)]
def icX2 : List (Nat × Int) := []
def lcX2 : List (Nat × Int) := []
def fpX2 : List Nat := [132, 138, 147, 152, 209, 211, 213, 214, 215, 216, 217, 218, 219, 220, 221]
def ipX2 : List Nat := []
def lpX2 : List Nat := []
theorem mlX2_62 : Jvm.Cond.methodLink RX2 62 yX2_endOfNode ∈ BIG := bigAt 683 (by decide +kernel) (by decide +kernel)
theorem mlX2_65 : Jvm.Cond.methodLink RX2 65 yX2_endOfNumber ∈ BIG := bigAt 687 (by decide +kernel) (by decide +kernel)
theorem mlX2_76 : Jvm.Cond.methodLink RX2 76 yX2_wordAt ∈ BIG := bigAt 691 (by decide +kernel) (by decide +kernel)
theorem mlX2_69 : Jvm.Cond.methodLink RX2 69 yX2_isTwo ∈ BIG := bigAt 692 (by decide +kernel) (by decide +kernel)
theorem mlX2_73 : Jvm.Cond.methodLink RX2 73 yX2_endOfFactors ∈ BIG := bigAt 696 (by decide +kernel) (by decide +kernel)
theorem mlX2_88 : Jvm.Cond.methodLink RX2 88 yX2_readNumber ∈ BIG := bigAt 706 (by decide +kernel) (by decide +kernel)
theorem mlX2_47 : Jvm.Cond.methodLink RX2 47 yJ9_min_7cf53 ∈ BIG := bigAt 710 (by decide +kernel) (by decide +kernel)
theorem mlX2_79 : Jvm.Cond.methodLink RX2 79 yJ9_max_7cf53 ∈ BIG := bigAt 711 (by decide +kernel) (by decide +kernel)
theorem mlX2_92 : Jvm.Cond.methodLink RX2 92 yX0_order ∈ BIG := bigAt 712 (by decide +kernel) (by decide +kernel)
theorem mlX2_98 : Jvm.Cond.methodLink RX2 98 yX2_factorsFit ∈ BIG := bigAt 713 (by decide +kernel) (by decide +kernel)
theorem mlX2_105 : Jvm.Cond.methodLink RX2 105 yX5_become ∈ BIG := bigAt 717 (by decide +kernel) (by decide +kernel)
theorem mlX2_109 : Jvm.Cond.methodLink RX2 109 yX5_trim ∈ BIG := bigAt 718 (by decide +kernel) (by decide +kernel)
theorem mlX2_112 : Jvm.Cond.methodLink RX2 112 yX2_multiplyTotal ∈ BIG := bigAt 719 (by decide +kernel) (by decide +kernel)
theorem mlX2_123 : Jvm.Cond.methodLink RX2 123 yX0_product ∈ BIG := bigAt 723 (by decide +kernel) (by decide +kernel)
theorem mlX2_115 : Jvm.Cond.methodLink RX2 115 yX5_copy ∈ BIG := bigAt 724 (by decide +kernel) (by decide +kernel)
theorem mlX2_119 : Jvm.Cond.methodLink RX2 119 yX0_sum ∈ BIG := bigAt 725 (by decide +kernel) (by decide +kernel)
theorem mlX2_101 : Jvm.Cond.methodLink RX2 101 yX2_witnessHolds ∈ BIG := bigAt 726 (by decide +kernel) (by decide +kernel)
theorem mlX2_126 : Jvm.Cond.methodLink RX2 126 yX0_difference ∈ BIG := bigAt 730 (by decide +kernel) (by decide +kernel)
theorem mlX2_129 : Jvm.Cond.methodLink RX2 129 yX0_raise ∈ BIG := bigAt 731 (by decide +kernel) (by decide +kernel)
theorem mlX2_135 : Jvm.Cond.methodLink RX2 135 yX5_isOne ∈ BIG := bigAt 732 (by decide +kernel) (by decide +kernel)
theorem mlX2_139 : Jvm.Cond.methodLink RX2 139 yX0_divide ∈ BIG := bigAt 733 (by decide +kernel) (by decide +kernel)
theorem mlX2_53 : Jvm.Cond.methodLink RX2 53 arraycopyName ∈ BIG := bigAt 787 (by decide +kernel) (by decide +kernel)
def fdX3 : List (Nat × Nat × Nat × Nat × Nat) := [(28, 5, 1, 0, 0), (9, 3, 0, 4, 42), (15, 3, 1, 0, 0)]
def icX3 : List (Nat × Int) := []
def lcX3 : List (Nat × Int) := []
def fpX3 : List Nat := [136, 193, 194]
def ipX3 : List Nat := []
def lpX3 : List Nat := []
theorem mlX3_19 : Jvm.Cond.methodLink RX3 19 yX5_divideBy ∈ BIG := bigAt 640 (by decide +kernel) (by decide +kernel)
theorem mlX3_25 : Jvm.Cond.methodLink RX3 25 yX3_characterOf ∈ BIG := bigAt 644 (by decide +kernel) (by decide +kernel)
def fdX4 : List (Nat × Nat × Nat × Nat × Nat) := [(15, 4, 0, 4, 48), (27, 4, 1, 0, 0), (11, 4, 2, 4, 49)]
def icX4 : List (Nat × Int) := []
def lcX4 : List (Nat × Int) := []
def fpX4 : List Nat := [251, 253, 255]
def ipX4 : List Nat := []
def lpX4 : List Nat := []
theorem mlX4_18 : Jvm.Cond.methodLink RX4 18 yX4_leastFactor ∈ BIG := bigAt 741 (by decide +kernel) (by decide +kernel)
theorem mlX4_22 : Jvm.Cond.methodLink RX4 22 yJ9_max_7cf53 ∈ BIG := bigAt 744 (by decide +kernel) (by decide +kernel)
theorem mlX4_31 : Jvm.Cond.methodLink RX4 31 yX4_writeNode ∈ BIG := bigAt 749 (by decide +kernel) (by decide +kernel)
theorem mlX4_35 : Jvm.Cond.methodLink RX4 35 yX4_putNumber ∈ BIG := bigAt 753 (by decide +kernel) (by decide +kernel)
theorem mlX4_49 : Jvm.Cond.methodLink RX4 49 yX4_put ∈ BIG := bigAt 757 (by decide +kernel) (by decide +kernel)
theorem mlX4_39 : Jvm.Cond.methodLink RX4 39 yX4_writeFactors ∈ BIG := bigAt 761 (by decide +kernel) (by decide +kernel)
theorem mlX4_42 : Jvm.Cond.methodLink RX4 42 yX4_findFactors ∈ BIG := bigAt 765 (by decide +kernel) (by decide +kernel)
theorem mlX4_52 : Jvm.Cond.methodLink RX4 52 yX4_exponentOf ∈ BIG := bigAt 769 (by decide +kernel) (by decide +kernel)
theorem mlX4_45 : Jvm.Cond.methodLink RX4 45 yX4_leastWitness ∈ BIG := bigAt 772 (by decide +kernel) (by decide +kernel)
theorem mlX4_55 : Jvm.Cond.methodLink RX4 55 yX4_isWitness ∈ BIG := bigAt 776 (by decide +kernel) (by decide +kernel)
theorem mlX4_59 : Jvm.Cond.methodLink RX4 59 yX4_powerModulo ∈ BIG := bigAt 780 (by decide +kernel) (by decide +kernel)
def fdX5 : List (Nat × Nat × Nat × Nat × Nat) := [(9, 5, 0, 2, 0), (15, 5, 1, 0, 0)]
def icX5 : List (Nat × Int) := []
def lcX5 : List (Nat × Int) := []
def fpX5 : List Nat := [130, 135]
def ipX5 : List Nat := []
def lpX5 : List Nat := []
theorem mlX5_29 : Jvm.Cond.methodLink RX5 29 yX5_bitsOf ∈ BIG := bigAt 401 (by decide +kernel) (by decide +kernel)
theorem mlX5_41 : Jvm.Cond.methodLink RX5 41 yJ6_numberOfLeadingZeros_0f7a4 ∈ BIG := bigAt 404 (by decide +kernel) (by decide +kernel)
theorem mlX5_19 : Jvm.Cond.methodLink RX5 19 arraycopyName ∈ BIG := bigAt 494 (by decide +kernel) (by decide +kernel)
theorem mlX5_25 : Jvm.Cond.methodLink RX5 25 yX5_trim ∈ BIG := bigAt 535 (by decide +kernel) (by decide +kernel)
theorem mlX5_33 : Jvm.Cond.methodLink RX5 33 yX5_limbAt ∈ BIG := bigAt 541 (by decide +kernel) (by decide +kernel)
theorem mlX5_36 : Jvm.Cond.methodLink RX5 36 yJ6_numberOfTrailingZeros_0f7a4 ∈ BIG := bigAt 582 (by decide +kernel) (by decide +kernel)
def fdX6 : List (Nat × Nat × Nat × Nat × Nat) := [(29, 5, 1, 0, 0), (9, 6, 0, 4, 40), (15, 6, 1, 0, 0)]
def icX6 : List (Nat × Int) := []
def lcX6 : List (Nat × Int) := []
def fpX6 : List Nat := [137, 179, 180]
def ipX6 : List Nat := []
def lpX6 : List Nat := []
theorem mlX6_19 : Jvm.Cond.methodLink RX6 19 yX6_digitOf ∈ BIG := bigAt 616 (by decide +kernel) (by decide +kernel)
theorem mlX6_23 : Jvm.Cond.methodLink RX6 23 yX5_trim ∈ BIG := bigAt 623 (by decide +kernel) (by decide +kernel)
theorem mlX6_32 : Jvm.Cond.methodLink RX6 32 yX5_timesPlus ∈ BIG := bigAt 624 (by decide +kernel) (by decide +kernel)
def fdX7 : List (Nat × Nat × Nat × Nat × Nat) := [(147, 1, 0, 3, 0), (150, 1, 1, 4, 2), (126, 1, 2, 4, 3), (110, 1, 3, 4, 4), (106, 1, 4, 4, 5), (138, 1, 6, 0, 0), (202, 5, 1, 0, 0), (196, 0, 0, 4, 7), (199, 0, 1, 4, 9), (218, 0, 2, 4, 11), (156, 6, 1, 0, 0), (257, 3, 1, 0, 0), (153, 2, 0, 4, 44), (144, 2, 1, 0, 0), (284, 4, 0, 4, 48), (287, 4, 1, 0, 0), (18, 7, 0, 4, 1), (25, 7, 1, 4, 6), (32, 7, 2, 4, 39), (39, 7, 3, 4, 41), (48, 7, 4, 4, 43), (55, 7, 5, 4, 47), (62, 7, 6, 4, 21), (66, 7, 7, 4, 23), (69, 7, 8, 4, 25), (72, 7, 9, 0, 0)]
def icX7 : List (Nat × Int) := []
def lcX7 : List (Nat × Int) := []
def fpX7 : List Nat := [90, 92, 94, 96, 98, 100, 140, 148, 150, 153, 181, 195, 210, 212, 252, 254, 265, 266, 267, 268, 269, 270, 271, 272, 273, 274]
def ipX7 : List Nat := []
def lpX7 : List Nat := []
theorem mlX7_7 : Jvm.Cond.methodLink RX7 7 yX7_nearest ∈ BIG := bigAt 74 (by decide +kernel) (by decide +kernel)
theorem mlX7_76 : Jvm.Cond.methodLink RX7 76 yJ9_min_7cf53 ∈ BIG := bigAt 77 (by decide +kernel) (by decide +kernel)
theorem mlX7_82 : Jvm.Cond.methodLink RX7 82 yJ9_max_7cf53 ∈ BIG := bigAt 80 (by decide +kernel) (by decide +kernel)
theorem mlX7_15 : Jvm.Cond.methodLink RX7 15 yX1_init ∈ BIG := bigAt 85 (by decide +kernel) (by decide +kernel)
theorem mlX7_45 : Jvm.Cond.methodLink RX7 45 yX2_init ∈ BIG := bigAt 203 (by decide +kernel) (by decide +kernel)
theorem mlX7_54 : Jvm.Cond.methodLink RX7 54 yX4_init ∈ BIG := bigAt 247 (by decide +kernel) (by decide +kernel)
theorem mlX7_85 : Jvm.Cond.methodLink RX7 85 yX7_isRoom ∈ BIG := bigAt 300 (by decide +kernel) (by decide +kernel)
theorem mlX7_89 : Jvm.Cond.methodLink RX7 89 yX1_leastFree ∈ BIG := bigAt 303 (by decide +kernel) (by decide +kernel)
theorem mlX7_93 : Jvm.Cond.methodLink RX7 93 yX5_trim ∈ BIG := bigAt 307 (by decide +kernel) (by decide +kernel)
theorem mlX7_96 : Jvm.Cond.methodLink RX7 96 yX1_giveRun ∈ BIG := bigAt 311 (by decide +kernel) (by decide +kernel)
theorem mlX7_100 : Jvm.Cond.methodLink RX7 100 yX1_isLive ∈ BIG := bigAt 358 (by decide +kernel) (by decide +kernel)
theorem mlX7_103 : Jvm.Cond.methodLink RX7 103 yX1_free ∈ BIG := bigAt 362 (by decide +kernel) (by decide +kernel)
theorem mlX7_113 : Jvm.Cond.methodLink RX7 113 yX1_read ∈ BIG := bigAt 370 (by decide +kernel) (by decide +kernel)
theorem mlX7_117 : Jvm.Cond.methodLink RX7 117 yX7_isLimb ∈ BIG := bigAt 378 (by decide +kernel) (by decide +kernel)
theorem mlX7_120 : Jvm.Cond.methodLink RX7 120 yX1_writeLimb ∈ BIG := bigAt 381 (by decide +kernel) (by decide +kernel)
theorem mlX7_123 : Jvm.Cond.methodLink RX7 123 yX1_limbOf ∈ BIG := bigAt 389 (by decide +kernel) (by decide +kernel)
theorem mlX7_129 : Jvm.Cond.methodLink RX7 129 yX5_bits ∈ BIG := bigAt 397 (by decide +kernel) (by decide +kernel)
theorem mlX7_132 : Jvm.Cond.methodLink RX7 132 yX1_usedCells ∈ BIG := bigAt 412 (by decide +kernel) (by decide +kernel)
theorem mlX7_135 : Jvm.Cond.methodLink RX7 135 yX1_highestEnd ∈ BIG := bigAt 416 (by decide +kernel) (by decide +kernel)
theorem mlX7_141 : Jvm.Cond.methodLink RX7 141 yX1_liveHandles ∈ BIG := bigAt 417 (by decide +kernel) (by decide +kernel)
theorem mlX7_157 : Jvm.Cond.methodLink RX7 157 yX1_limbIn ∈ BIG := bigAt 425 (by decide +kernel) (by decide +kernel)
theorem mlX7_161 : Jvm.Cond.methodLink RX7 161 yX1_areLive ∈ BIG := bigAt 433 (by decide +kernel) (by decide +kernel)
theorem mlX7_165 : Jvm.Cond.methodLink RX7 165 yX0_sum ∈ BIG := bigAt 438 (by decide +kernel) (by decide +kernel)
theorem mlX7_169 : Jvm.Cond.methodLink RX7 169 yX1_come ∈ BIG := bigAt 447 (by decide +kernel) (by decide +kernel)
theorem mlX7_173 : Jvm.Cond.methodLink RX7 173 yX0_order ∈ BIG := bigAt 459 (by decide +kernel) (by decide +kernel)
theorem mlX7_177 : Jvm.Cond.methodLink RX7 177 yX0_difference ∈ BIG := bigAt 462 (by decide +kernel) (by decide +kernel)
theorem mlX7_180 : Jvm.Cond.methodLink RX7 180 yX1_takeAhead ∈ BIG := bigAt 469 (by decide +kernel) (by decide +kernel)
theorem mlX7_183 : Jvm.Cond.methodLink RX7 183 yX0_product ∈ BIG := bigAt 473 (by decide +kernel) (by decide +kernel)
theorem mlX7_186 : Jvm.Cond.methodLink RX7 186 yX7_isLiveOrNone ∈ BIG := bigAt 481 (by decide +kernel) (by decide +kernel)
theorem mlX7_189 : Jvm.Cond.methodLink RX7 189 yX0_divide ∈ BIG := bigAt 485 (by decide +kernel) (by decide +kernel)
theorem mlX7_193 : Jvm.Cond.methodLink RX7 193 yX7_bringBoth ∈ BIG := bigAt 515 (by decide +kernel) (by decide +kernel)
theorem mlX7_205 : Jvm.Cond.methodLink RX7 205 yX1_runFor ∈ BIG := bigAt 519 (by decide +kernel) (by decide +kernel)
theorem mlX7_208 : Jvm.Cond.methodLink RX7 208 yX1_settle ∈ BIG := bigAt 520 (by decide +kernel) (by decide +kernel)
theorem mlX7_212 : Jvm.Cond.methodLink RX7 212 yX1_dropTaken ∈ BIG := bigAt 521 (by decide +kernel) (by decide +kernel)
theorem mlX7_215 : Jvm.Cond.methodLink RX7 215 yX0_raise ∈ BIG := bigAt 526 (by decide +kernel) (by decide +kernel)
theorem mlX7_221 : Jvm.Cond.methodLink RX7 221 yX0_commonDivisor ∈ BIG := bigAt 547 (by decide +kernel) (by decide +kernel)
theorem mlX7_224 : Jvm.Cond.methodLink RX7 224 yX0_squareRoot ∈ BIG := bigAt 555 (by decide +kernel) (by decide +kernel)
theorem mlX7_228 : Jvm.Cond.methodLink RX7 228 yX0_shiftDown ∈ BIG := bigAt 564 (by decide +kernel) (by decide +kernel)
theorem mlX7_232 : Jvm.Cond.methodLink RX7 232 yX0_shiftUp ∈ BIG := bigAt 565 (by decide +kernel) (by decide +kernel)
theorem mlX7_235 : Jvm.Cond.methodLink RX7 235 yX0_jacobiSymbol ∈ BIG := bigAt 574 (by decide +kernel) (by decide +kernel)
theorem mlX7_238 : Jvm.Cond.methodLink RX7 238 yX6_hasSpace ∈ BIG := bigAt 593 (by decide +kernel) (by decide +kernel)
theorem mlX7_241 : Jvm.Cond.methodLink RX7 241 yX6_putBytesOf ∈ BIG := bigAt 597 (by decide +kernel) (by decide +kernel)
theorem mlX7_244 : Jvm.Cond.methodLink RX7 244 yX7_isBase ∈ BIG := bigAt 609 (by decide +kernel) (by decide +kernel)
theorem mlX7_247 : Jvm.Cond.methodLink RX7 247 yX6_digitsAhead ∈ BIG := bigAt 612 (by decide +kernel) (by decide +kernel)
theorem mlX7_250 : Jvm.Cond.methodLink RX7 250 yX6_readNumber ∈ BIG := bigAt 619 (by decide +kernel) (by decide +kernel)
theorem mlX7_254 : Jvm.Cond.methodLink RX7 254 yX3_write ∈ BIG := bigAt 636 (by decide +kernel) (by decide +kernel)
theorem mlX7_258 : Jvm.Cond.methodLink RX7 258 yX3_byteAt ∈ BIG := bigAt 651 (by decide +kernel) (by decide +kernel)
theorem mlX7_261 : Jvm.Cond.methodLink RX7 261 yX2_append ∈ BIG := bigAt 659 (by decide +kernel) (by decide +kernel)
theorem mlX7_264 : Jvm.Cond.methodLink RX7 264 yX2_wordAt ∈ BIG := bigAt 667 (by decide +kernel) (by decide +kernel)
theorem mlX7_267 : Jvm.Cond.methodLink RX7 267 yX2_isOneNode ∈ BIG := bigAt 679 (by decide +kernel) (by decide +kernel)
theorem mlX7_271 : Jvm.Cond.methodLink RX7 271 yX1_slideTogether ∈ BIG := bigAt 700 (by decide +kernel) (by decide +kernel)
theorem mlX7_274 : Jvm.Cond.methodLink RX7 274 yX1_hasSpace ∈ BIG := bigAt 701 (by decide +kernel) (by decide +kernel)
theorem mlX7_275 : Jvm.Cond.methodLink RX7 275 yX2_isGoodFor ∈ BIG := bigAt 702 (by decide +kernel) (by decide +kernel)
theorem mlX7_279 : Jvm.Cond.methodLink RX7 279 yX4_isPrime ∈ BIG := bigAt 738 (by decide +kernel) (by decide +kernel)
theorem mlX7_282 : Jvm.Cond.methodLink RX7 282 yX4_write ∈ BIG := bigAt 745 (by decide +kernel) (by decide +kernel)
theorem mlX7_288 : Jvm.Cond.methodLink RX7 288 yX2_copyWords ∈ BIG := bigAt 783 (by decide +kernel) (by decide +kernel)
def fdX8 : List (Nat × Nat × Nat × Nat × Nat) := [(67, 8, 0, 3, 0), (70, 8, 1, 3, 0), (73, 8, 2, 3, 0), (7, 8, 3, 4, 51), (13, 8, 4, 4, 52), (16, 8, 5, 4, 53), (20, 8, 6, 4, 54), (23, 8, 7, 4, 55), (26, 8, 8, 4, 56), (29, 8, 9, 4, 57), (114, 8, 10, 0, 0), (117, 8, 11, 0, 0), (32, 8, 12, 4, 58), (35, 8, 13, 4, 59), (147, 8, 14, 0, 0), (171, 8, 15, 0, 0), (38, 8, 16, 0, 0), (42, 8, 17, 4, 60), (144, 8, 18, 0, 0), (177, 8, 19, 0, 0), (174, 8, 20, 0, 0), (45, 8, 21, 4, 61), (48, 8, 22, 4, 62), (51, 8, 23, 4, 63), (54, 8, 24, 4, 64), (57, 8, 25, 4, 65), (60, 8, 26, 4, 66), (200, 8, 27, 0, 0), (210, 8, 28, 1, 0)]
def icX8 : List (Nat × Int) := [(84, 32768)]
def lcX8 : List (Nat × Int) := [(89, 32768)]
def fpX8 : List Nat := [800, 801, 802, 803, 804, 805, 806, 807, 808, 809, 810, 811, 812, 813, 814, 815, 816, 817, 818, 819, 820, 821, 822, 823, 824, 825, 826, 827, 828]
def ipX8 : List Nat := [968]
def lpX8 : List Nat := [1001]
theorem mlX8_63 : Jvm.Cond.methodLink RX8 63 yX8_near ∈ BIG := bigAt 797 (by decide +kernel) (by decide +kernel)
theorem mlX8_127 : Jvm.Cond.methodLink RX8 127 yX8_isIn ∈ BIG := bigAt 893 (by decide +kernel) (by decide +kernel)
theorem mlX8_131 : Jvm.Cond.methodLink RX8 131 yX8_take ∈ BIG := bigAt 896 (by decide +kernel) (by decide +kernel)
theorem mlX8_120 : Jvm.Cond.methodLink RX8 120 yX8_end ∈ BIG := bigAt 900 (by decide +kernel) (by decide +kernel)
theorem mlX8_124 : Jvm.Cond.methodLink RX8 124 yX8_slide ∈ BIG := bigAt 904 (by decide +kernel) (by decide +kernel)
theorem mlX8_138 : Jvm.Cond.methodLink RX8 138 yX8_isLive ∈ BIG := bigAt 912 (by decide +kernel) (by decide +kernel)
theorem mlX8_80 : Jvm.Cond.methodLink RX8 80 yX8_put ∈ BIG := bigAt 924 (by decide +kernel) (by decide +kernel)
theorem mlX8_85 : Jvm.Cond.methodLink RX8 85 yX8_fix ∈ BIG := bigAt 928 (by decide +kernel) (by decide +kernel)
theorem mlX8_76 : Jvm.Cond.methodLink RX8 76 yX8_at ∈ BIG := bigAt 936 (by decide +kernel) (by decide +kernel)
theorem mlX8_104 : Jvm.Cond.methodLink RX8 104 yX8_bits ∈ BIG := bigAt 944 (by decide +kernel) (by decide +kernel)
theorem mlX8_141 : Jvm.Cond.methodLink RX8 141 yX8_allRooms ∈ BIG := bigAt 952 (by decide +kernel) (by decide +kernel)
theorem mlX8_150 : Jvm.Cond.methodLink RX8 150 yX8_sum ∈ BIG := bigAt 964 (by decide +kernel) (by decide +kernel)
theorem mlX8_153 : Jvm.Cond.methodLink RX8 153 yX8_comes ∈ BIG := bigAt 969 (by decide +kernel) (by decide +kernel)
theorem mlX8_135 : Jvm.Cond.methodLink RX8 135 yX8_gets ∈ BIG := bigAt 973 (by decide +kernel) (by decide +kernel)
theorem mlX8_101 : Jvm.Cond.methodLink RX8 101 yX8_copy ∈ BIG := bigAt 977 (by decide +kernel) (by decide +kernel)
theorem mlX8_91 : Jvm.Cond.methodLink RX8 91 yX8_compared ∈ BIG := bigAt 985 (by decide +kernel) (by decide +kernel)
theorem mlX8_156 : Jvm.Cond.methodLink RX8 156 yX8_difference ∈ BIG := bigAt 989 (by decide +kernel) (by decide +kernel)
theorem mlX8_108 : Jvm.Cond.methodLink RX8 108 yX8_product ∈ BIG := bigAt 997 (by decide +kernel) (by decide +kernel)
theorem mlX8_97 : Jvm.Cond.methodLink RX8 97 yX8_divide ∈ BIG := bigAt 1006 (by decide +kernel) (by decide +kernel)
theorem mlX8_159 : Jvm.Cond.methodLink RX8 159 yX8_power ∈ BIG := bigAt 1014 (by decide +kernel) (by decide +kernel)
theorem mlX8_94 : Jvm.Cond.methodLink RX8 94 yX8_small ∈ BIG := bigAt 1018 (by decide +kernel) (by decide +kernel)
theorem mlX8_111 : Jvm.Cond.methodLink RX8 111 yX8_bit ∈ BIG := bigAt 1022 (by decide +kernel) (by decide +kernel)
theorem mlX8_162 : Jvm.Cond.methodLink RX8 162 yX8_shifted ∈ BIG := bigAt 1038 (by decide +kernel) (by decide +kernel)
theorem mlX8_165 : Jvm.Cond.methodLink RX8 165 yX8_isOne ∈ BIG := bigAt 1050 (by decide +kernel) (by decide +kernel)
theorem mlX8_168 : Jvm.Cond.methodLink RX8 168 yX8_digit ∈ BIG := bigAt 1066 (by decide +kernel) (by decide +kernel)
theorem mlX8_194 : Jvm.Cond.methodLink RX8 194 yX8_isRow ∈ BIG := bigAt 1097 (by decide +kernel) (by decide +kernel)
theorem mlX8_187 : Jvm.Cond.methodLink RX8 187 yX8_opens ∈ BIG := bigAt 1101 (by decide +kernel) (by decide +kernel)
theorem mlX8_180 : Jvm.Cond.methodLink RX8 180 yX8_passes ∈ BIG := bigAt 1105 (by decide +kernel) (by decide +kernel)
theorem mlX8_184 : Jvm.Cond.methodLink RX8 184 yX8_isTwo ∈ BIG := bigAt 1109 (by decide +kernel) (by decide +kernel)
theorem mlX8_191 : Jvm.Cond.methodLink RX8 191 yX8_load ∈ BIG := bigAt 1113 (by decide +kernel) (by decide +kernel)
theorem mlX8_197 : Jvm.Cond.methodLink RX8 197 yX8_isGood ∈ BIG := bigAt 1117 (by decide +kernel) (by decide +kernel)
theorem mlX8_223 : Jvm.Cond.methodLink RX8 223 yX8_isPrime ∈ BIG := bigAt 1125 (by decide +kernel) (by decide +kernel)
theorem mlX8_220 : Jvm.Cond.methodLink RX8 220 yX8_certificate ∈ BIG := bigAt 1128 (by decide +kernel) (by decide +kernel)
theorem mlX8_214 : Jvm.Cond.methodLink RX8 214 yX8_writesNumber ∈ BIG := bigAt 1132 (by decide +kernel) (by decide +kernel)
theorem mlX8_203 : Jvm.Cond.methodLink RX8 203 yX8_writes ∈ BIG := bigAt 1136 (by decide +kernel) (by decide +kernel)
theorem mlX8_217 : Jvm.Cond.methodLink RX8 217 yX8_does ∈ BIG := bigAt 1140 (by decide +kernel) (by decide +kernel)
theorem mlX8_207 : Jvm.Cond.methodLink RX8 207 yX8_powers ∈ BIG := bigAt 1143 (by decide +kernel) (by decide +kernel)
def fdL : List (Nat × Nat × Nat × Nat × Nat) := []
def icL : List (Nat × Int) := []
def lcL : List (Nat × Int) := []
def fpL : List Nat := []
def ipL : List Nat := []
def lpL : List Nat := []
theorem mlL_15 : Jvm.Cond.methodLink RL 15 yX7_init ∈ BIG := bigAt 68 (by decide +kernel) (by decide +kernel)
theorem mlL_21 : Jvm.Cond.methodLink RL 21 yX7_alloc ∈ BIG := bigAt 296 (by decide +kernel) (by decide +kernel)
theorem mlL_26 : Jvm.Cond.methodLink RL 26 yX7_release ∈ BIG := bigAt 354 (by decide +kernel) (by decide +kernel)
theorem mlL_30 : Jvm.Cond.methodLink RL 30 yX7_resize ∈ BIG := bigAt 366 (by decide +kernel) (by decide +kernel)
theorem mlL_35 : Jvm.Cond.methodLink RL 35 yX7_setLimb ∈ BIG := bigAt 374 (by decide +kernel) (by decide +kernel)
theorem mlL_40 : Jvm.Cond.methodLink RL 40 yX7_limb ∈ BIG := bigAt 385 (by decide +kernel) (by decide +kernel)
theorem mlL_44 : Jvm.Cond.methodLink RL 44 yX7_look ∈ BIG := bigAt 393 (by decide +kernel) (by decide +kernel)
theorem mlL_48 : Jvm.Cond.methodLink RL 48 yX7_about ∈ BIG := bigAt 408 (by decide +kernel) (by decide +kernel)
theorem mlL_52 : Jvm.Cond.methodLink RL 52 yX7_cell ∈ BIG := bigAt 421 (by decide +kernel) (by decide +kernel)
theorem mlL_55 : Jvm.Cond.methodLink RL 55 yX7_add ∈ BIG := bigAt 429 (by decide +kernel) (by decide +kernel)
theorem mlL_59 : Jvm.Cond.methodLink RL 59 yX7_sub ∈ BIG := bigAt 455 (by decide +kernel) (by decide +kernel)
theorem mlL_63 : Jvm.Cond.methodLink RL 63 yX7_mul ∈ BIG := bigAt 465 (by decide +kernel) (by decide +kernel)
theorem mlL_67 : Jvm.Cond.methodLink RL 67 yX7_divmod ∈ BIG := bigAt 477 (by decide +kernel) (by decide +kernel)
theorem mlL_72 : Jvm.Cond.methodLink RL 72 yX7_powmod ∈ BIG := bigAt 522 (by decide +kernel) (by decide +kernel)
theorem mlL_76 : Jvm.Cond.methodLink RL 76 yX7_gcd ∈ BIG := bigAt 543 (by decide +kernel) (by decide +kernel)
theorem mlL_80 : Jvm.Cond.methodLink RL 80 yX7_root ∈ BIG := bigAt 551 (by decide +kernel) (by decide +kernel)
theorem mlL_84 : Jvm.Cond.methodLink RL 84 yX7_shift ∈ BIG := bigAt 560 (by decide +kernel) (by decide +kernel)
theorem mlL_88 : Jvm.Cond.methodLink RL 88 yX7_compare ∈ BIG := bigAt 566 (by decide +kernel) (by decide +kernel)
theorem mlL_92 : Jvm.Cond.methodLink RL 92 yX7_jacobi ∈ BIG := bigAt 570 (by decide +kernel) (by decide +kernel)
theorem mlL_96 : Jvm.Cond.methodLink RL 96 yX7_feed ∈ BIG := bigAt 589 (by decide +kernel) (by decide +kernel)
theorem mlL_101 : Jvm.Cond.methodLink RL 101 yX7_end ∈ BIG := bigAt 601 (by decide +kernel) (by decide +kernel)
theorem mlL_106 : Jvm.Cond.methodLink RL 106 yX7_number ∈ BIG := bigAt 605 (by decide +kernel) (by decide +kernel)
theorem mlL_110 : Jvm.Cond.methodLink RL 110 yX7_fault ∈ BIG := bigAt 628 (by decide +kernel) (by decide +kernel)
theorem mlL_115 : Jvm.Cond.methodLink RL 115 yX7_text ∈ BIG := bigAt 632 (by decide +kernel) (by decide +kernel)
theorem mlL_119 : Jvm.Cond.methodLink RL 119 yX7_out ∈ BIG := bigAt 647 (by decide +kernel) (by decide +kernel)
theorem mlL_123 : Jvm.Cond.methodLink RL 123 yX7_word ∈ BIG := bigAt 655 (by decide +kernel) (by decide +kernel)
theorem mlL_127 : Jvm.Cond.methodLink RL 127 yX7_told ∈ BIG := bigAt 663 (by decide +kernel) (by decide +kernel)
theorem mlL_131 : Jvm.Cond.methodLink RL 131 yX7_clear ∈ BIG := bigAt 671 (by decide +kernel) (by decide +kernel)
theorem mlL_135 : Jvm.Cond.methodLink RL 135 yX7_check ∈ BIG := bigAt 675 (by decide +kernel) (by decide +kernel)
theorem mlL_139 : Jvm.Cond.methodLink RL 139 yX7_prove ∈ BIG := bigAt 734 (by decide +kernel) (by decide +kernel)
theorem mlL_9 : Jvm.Cond.methodLink RL 9 yL_cell ∈ BIG := bigAt 788 (by decide +kernel) (by decide +kernel)
theorem mlL_20 : Jvm.Cond.methodLink RL 20 yX8_init ∈ BIG := bigAt 793 (by decide +kernel) (by decide +kernel)
theorem mlL_25 : Jvm.Cond.methodLink RL 25 yX8_alloc ∈ BIG := bigAt 889 (by decide +kernel) (by decide +kernel)
theorem mlL_29 : Jvm.Cond.methodLink RL 29 yX8_release ∈ BIG := bigAt 908 (by decide +kernel) (by decide +kernel)
theorem mlL_34 : Jvm.Cond.methodLink RL 34 yX8_resize ∈ BIG := bigAt 916 (by decide +kernel) (by decide +kernel)
theorem mlL_39 : Jvm.Cond.methodLink RL 39 yX8_setLimb ∈ BIG := bigAt 920 (by decide +kernel) (by decide +kernel)
theorem mlL_43 : Jvm.Cond.methodLink RL 43 yX8_limb ∈ BIG := bigAt 932 (by decide +kernel) (by decide +kernel)
theorem mlL_47 : Jvm.Cond.methodLink RL 47 yX8_look ∈ BIG := bigAt 940 (by decide +kernel) (by decide +kernel)
theorem mlL_51 : Jvm.Cond.methodLink RL 51 yX8_about ∈ BIG := bigAt 948 (by decide +kernel) (by decide +kernel)
theorem mlL_54 : Jvm.Cond.methodLink RL 54 yX8_cell ∈ BIG := bigAt 956 (by decide +kernel) (by decide +kernel)
theorem mlL_58 : Jvm.Cond.methodLink RL 58 yX8_add ∈ BIG := bigAt 960 (by decide +kernel) (by decide +kernel)
theorem mlL_62 : Jvm.Cond.methodLink RL 62 yX8_sub ∈ BIG := bigAt 981 (by decide +kernel) (by decide +kernel)
theorem mlL_66 : Jvm.Cond.methodLink RL 66 yX8_mul ∈ BIG := bigAt 993 (by decide +kernel) (by decide +kernel)
theorem mlL_71 : Jvm.Cond.methodLink RL 71 yX8_divmod ∈ BIG := bigAt 1002 (by decide +kernel) (by decide +kernel)
theorem mlL_75 : Jvm.Cond.methodLink RL 75 yX8_powmod ∈ BIG := bigAt 1010 (by decide +kernel) (by decide +kernel)
theorem mlL_79 : Jvm.Cond.methodLink RL 79 yX8_gcd ∈ BIG := bigAt 1026 (by decide +kernel) (by decide +kernel)
theorem mlL_83 : Jvm.Cond.methodLink RL 83 yX8_root ∈ BIG := bigAt 1030 (by decide +kernel) (by decide +kernel)
theorem mlL_87 : Jvm.Cond.methodLink RL 87 yX8_shift ∈ BIG := bigAt 1034 (by decide +kernel) (by decide +kernel)
theorem mlL_91 : Jvm.Cond.methodLink RL 91 yX8_compare ∈ BIG := bigAt 1042 (by decide +kernel) (by decide +kernel)
theorem mlL_95 : Jvm.Cond.methodLink RL 95 yX8_jacobi ∈ BIG := bigAt 1046 (by decide +kernel) (by decide +kernel)
theorem mlL_100 : Jvm.Cond.methodLink RL 100 yX8_feed ∈ BIG := bigAt 1054 (by decide +kernel) (by decide +kernel)
theorem mlL_105 : Jvm.Cond.methodLink RL 105 yX8_end_ ∈ BIG := bigAt 1058 (by decide +kernel) (by decide +kernel)
theorem mlL_109 : Jvm.Cond.methodLink RL 109 yX8_number ∈ BIG := bigAt 1062 (by decide +kernel) (by decide +kernel)
theorem mlL_114 : Jvm.Cond.methodLink RL 114 yX8_fault ∈ BIG := bigAt 1069 (by decide +kernel) (by decide +kernel)
theorem mlL_118 : Jvm.Cond.methodLink RL 118 yX8_text ∈ BIG := bigAt 1073 (by decide +kernel) (by decide +kernel)
theorem mlL_122 : Jvm.Cond.methodLink RL 122 yX8_out ∈ BIG := bigAt 1077 (by decide +kernel) (by decide +kernel)
theorem mlL_126 : Jvm.Cond.methodLink RL 126 yX8_word ∈ BIG := bigAt 1081 (by decide +kernel) (by decide +kernel)
theorem mlL_130 : Jvm.Cond.methodLink RL 130 yX8_told ∈ BIG := bigAt 1085 (by decide +kernel) (by decide +kernel)
theorem mlL_134 : Jvm.Cond.methodLink RL 134 yX8_clear ∈ BIG := bigAt 1089 (by decide +kernel) (by decide +kernel)
theorem mlL_138 : Jvm.Cond.methodLink RL 138 yX8_check ∈ BIG := bigAt 1093 (by decide +kernel) (by decide +kernel)
theorem mlL_142 : Jvm.Cond.methodLink RL 142 yX8_prove ∈ BIG := bigAt 1121 (by decide +kernel) (by decide +kernel)
def fdJ6 : List (Nat × Nat × Nat × Nat × Nat) := []
def icJ6 : List (Nat × Int) := [(264, 65536)]
def lcJ6 : List (Nat × Int) := []
def fpJ6 : List Nat := []
def ipJ6 : List Nat := [407]
def lpJ6 : List Nat := []
def fdJ9 : List (Nat × Nat × Nat × Nat × Nat) := []
def icJ9 : List (Nat × Int) := []
def lcJ9 : List (Nat × Int) := []
def fpJ9 : List Nat := []
def ipJ9 : List Nat := []
def lpJ9 : List Nat := []
def fdJ10 : List (Nat × Nat × Nat × Nat × Nat) := []
def icJ10 : List (Nat × Int) := []
def lcJ10 : List (Nat × Int) := []
def fpJ10 : List Nat := []
def ipJ10 : List Nat := []
def lpJ10 : List Nat := []
def fdJ7 : List (Nat × Nat × Nat × Nat × Nat) := []
def icJ7 : List (Nat × Int) := []
def lcJ7 : List (Nat × Int) := []
def fpJ7 : List Nat := []
def ipJ7 : List Nat := []
def lpJ7 : List Nat := []
theorem mlJ7_13 : Jvm.Cond.methodLink RJ7 13 yJ7_rangeCheck_23922 ∈ BIG := bigAt 351 (by decide +kernel) (by decide +kernel)
theorem cw_yX0_init : Jvm.Cond.code yX0_init cX0_init 1 none ∈ BIG := bigAt 122 (by decide +kernel) (by decide +kernel)
theorem iw_yX0_init : Jvm.Cond.instanceMethod yX0_init ∈ BIG := bigAt 121 (by decide +kernel) (by decide +kernel)
theorem cw_yX0_order : Jvm.Cond.code yX0_order cX0_order 3 (some .int) ∈ BIG := bigAt 461 (by decide +kernel) (by decide +kernel)
theorem sw_yX0_order : Jvm.Cond.static yX0_order ∈ BIG := bigAt 460 (by decide +kernel) (by decide +kernel)
theorem cw_yX0_sum : Jvm.Cond.code yX0_sum cX0_sum 7 none ∈ BIG := bigAt 440 (by decide +kernel) (by decide +kernel)
theorem sw_yX0_sum : Jvm.Cond.static yX0_sum ∈ BIG := bigAt 439 (by decide +kernel) (by decide +kernel)
theorem cw_yX0_difference : Jvm.Cond.code yX0_difference cX0_difference 7 none ∈ BIG := bigAt 464 (by decide +kernel) (by decide +kernel)
theorem sw_yX0_difference : Jvm.Cond.static yX0_difference ∈ BIG := bigAt 463 (by decide +kernel) (by decide +kernel)
theorem cw_yX0_product : Jvm.Cond.code yX0_product cX0_product 11 none ∈ BIG := bigAt 475 (by decide +kernel) (by decide +kernel)
theorem sw_yX0_product : Jvm.Cond.static yX0_product ∈ BIG := bigAt 474 (by decide +kernel) (by decide +kernel)
theorem cw_yX0_shiftUp : Jvm.Cond.code yX0_shiftUp cX0_shiftUp 8 none ∈ BIG := bigAt 498 (by decide +kernel) (by decide +kernel)
theorem sw_yX0_shiftUp : Jvm.Cond.static yX0_shiftUp ∈ BIG := bigAt 497 (by decide +kernel) (by decide +kernel)
theorem cw_yX0_shiftDown : Jvm.Cond.code yX0_shiftDown cX0_shiftDown 8 none ∈ BIG := bigAt 514 (by decide +kernel) (by decide +kernel)
theorem sw_yX0_shiftDown : Jvm.Cond.static yX0_shiftDown ∈ BIG := bigAt 513 (by decide +kernel) (by decide +kernel)
theorem cw_yX0_divide : Jvm.Cond.code yX0_divide cX0_divide 8 none ∈ BIG := bigAt 488 (by decide +kernel) (by decide +kernel)
theorem iw_yX0_divide : Jvm.Cond.instanceMethod yX0_divide ∈ BIG := bigAt 486 (by decide +kernel) (by decide +kernel)
theorem vw_yX0_divide : Jvm.Cond.selects RX0 yX0_divide yX0_divide ∈ BIG := bigAt 487 (by decide +kernel) (by decide +kernel)
theorem cw_yX0_guessDigit : Jvm.Cond.code yX0_guessDigit cX0_guessDigit 10 (some .int) ∈ BIG := bigAt 503 (by decide +kernel) (by decide +kernel)
theorem iw_yX0_guessDigit : Jvm.Cond.instanceMethod yX0_guessDigit ∈ BIG := bigAt 502 (by decide +kernel) (by decide +kernel)
theorem vw_yX0_guessDigit : Jvm.Cond.selects RX0 yX0_guessDigit yX0_guessDigit ∈ BIG := bigAt 2 (by decide +kernel) (by decide +kernel)
theorem cw_yX0_subtractMultiple : Jvm.Cond.code yX0_subtractMultiple cX0_subtractMultiple 9 (some .boolean) ∈ BIG := bigAt 507 (by decide +kernel) (by decide +kernel)
theorem iw_yX0_subtractMultiple : Jvm.Cond.instanceMethod yX0_subtractMultiple ∈ BIG := bigAt 506 (by decide +kernel) (by decide +kernel)
theorem vw_yX0_subtractMultiple : Jvm.Cond.selects RX0 yX0_subtractMultiple yX0_subtractMultiple ∈ BIG := bigAt 3 (by decide +kernel) (by decide +kernel)
theorem cw_yX0_addBack : Jvm.Cond.code yX0_addBack cX0_addBack 6 none ∈ BIG := bigAt 511 (by decide +kernel) (by decide +kernel)
theorem iw_yX0_addBack : Jvm.Cond.instanceMethod yX0_addBack ∈ BIG := bigAt 510 (by decide +kernel) (by decide +kernel)
theorem vw_yX0_addBack : Jvm.Cond.selects RX0 yX0_addBack yX0_addBack ∈ BIG := bigAt 4 (by decide +kernel) (by decide +kernel)
theorem cw_yX0_raise : Jvm.Cond.code yX0_raise cX0_raise 7 none ∈ BIG := bigAt 529 (by decide +kernel) (by decide +kernel)
theorem iw_yX0_raise : Jvm.Cond.instanceMethod yX0_raise ∈ BIG := bigAt 527 (by decide +kernel) (by decide +kernel)
theorem vw_yX0_raise : Jvm.Cond.selects RX0 yX0_raise yX0_raise ∈ BIG := bigAt 528 (by decide +kernel) (by decide +kernel)
theorem cw_yX0_commonDivisor : Jvm.Cond.code yX0_commonDivisor cX0_commonDivisor 4 none ∈ BIG := bigAt 550 (by decide +kernel) (by decide +kernel)
theorem iw_yX0_commonDivisor : Jvm.Cond.instanceMethod yX0_commonDivisor ∈ BIG := bigAt 548 (by decide +kernel) (by decide +kernel)
theorem vw_yX0_commonDivisor : Jvm.Cond.selects RX0 yX0_commonDivisor yX0_commonDivisor ∈ BIG := bigAt 549 (by decide +kernel) (by decide +kernel)
theorem cw_yX0_squareRoot : Jvm.Cond.code yX0_squareRoot cX0_squareRoot 3 none ∈ BIG := bigAt 558 (by decide +kernel) (by decide +kernel)
theorem iw_yX0_squareRoot : Jvm.Cond.instanceMethod yX0_squareRoot ∈ BIG := bigAt 556 (by decide +kernel) (by decide +kernel)
theorem vw_yX0_squareRoot : Jvm.Cond.selects RX0 yX0_squareRoot yX0_squareRoot ∈ BIG := bigAt 557 (by decide +kernel) (by decide +kernel)
theorem cw_yX0_jacobiSymbol : Jvm.Cond.code yX0_jacobiSymbol cX0_jacobiSymbol 7 (some .int) ∈ BIG := bigAt 577 (by decide +kernel) (by decide +kernel)
theorem iw_yX0_jacobiSymbol : Jvm.Cond.instanceMethod yX0_jacobiSymbol ∈ BIG := bigAt 575 (by decide +kernel) (by decide +kernel)
theorem vw_yX0_jacobiSymbol : Jvm.Cond.selects RX0 yX0_jacobiSymbol yX0_jacobiSymbol ∈ BIG := bigAt 576 (by decide +kernel) (by decide +kernel)
theorem cw_yX1_init : Jvm.Cond.code yX1_init cX1_init 3 none ∈ BIG := bigAt 87 (by decide +kernel) (by decide +kernel)
theorem iw_yX1_init : Jvm.Cond.instanceMethod yX1_init ∈ BIG := bigAt 86 (by decide +kernel) (by decide +kernel)
theorem cw_yX1_isLive : Jvm.Cond.code yX1_isLive cX1_isLive 2 (some .boolean) ∈ BIG := bigAt 361 (by decide +kernel) (by decide +kernel)
theorem iw_yX1_isLive : Jvm.Cond.instanceMethod yX1_isLive ∈ BIG := bigAt 359 (by decide +kernel) (by decide +kernel)
theorem vw_yX1_isLive : Jvm.Cond.selects RX1 yX1_isLive yX1_isLive ∈ BIG := bigAt 360 (by decide +kernel) (by decide +kernel)
theorem cw_yX1_areLive : Jvm.Cond.code yX1_areLive cX1_areLive 4 (some .boolean) ∈ BIG := bigAt 436 (by decide +kernel) (by decide +kernel)
theorem iw_yX1_areLive : Jvm.Cond.instanceMethod yX1_areLive ∈ BIG := bigAt 434 (by decide +kernel) (by decide +kernel)
theorem vw_yX1_areLive : Jvm.Cond.selects RX1 yX1_areLive yX1_areLive ∈ BIG := bigAt 435 (by decide +kernel) (by decide +kernel)
theorem cw_yX1_leastFree : Jvm.Cond.code yX1_leastFree cX1_leastFree 2 (some .int) ∈ BIG := bigAt 306 (by decide +kernel) (by decide +kernel)
theorem iw_yX1_leastFree : Jvm.Cond.instanceMethod yX1_leastFree ∈ BIG := bigAt 304 (by decide +kernel) (by decide +kernel)
theorem vw_yX1_leastFree : Jvm.Cond.selects RX1 yX1_leastFree yX1_leastFree ∈ BIG := bigAt 305 (by decide +kernel) (by decide +kernel)
theorem cw_yX1_liveHandles : Jvm.Cond.code yX1_liveHandles cX1_liveHandles 3 (some .int) ∈ BIG := bigAt 420 (by decide +kernel) (by decide +kernel)
theorem iw_yX1_liveHandles : Jvm.Cond.instanceMethod yX1_liveHandles ∈ BIG := bigAt 418 (by decide +kernel) (by decide +kernel)
theorem vw_yX1_liveHandles : Jvm.Cond.selects RX1 yX1_liveHandles yX1_liveHandles ∈ BIG := bigAt 419 (by decide +kernel) (by decide +kernel)
theorem cw_yX1_free : Jvm.Cond.code yX1_free cX1_free 2 none ∈ BIG := bigAt 365 (by decide +kernel) (by decide +kernel)
theorem iw_yX1_free : Jvm.Cond.instanceMethod yX1_free ∈ BIG := bigAt 363 (by decide +kernel) (by decide +kernel)
theorem vw_yX1_free : Jvm.Cond.selects RX1 yX1_free yX1_free ∈ BIG := bigAt 364 (by decide +kernel) (by decide +kernel)
theorem cw_yX1_usedCells : Jvm.Cond.code yX1_usedCells cX1_usedCells 3 (some .int) ∈ BIG := bigAt 415 (by decide +kernel) (by decide +kernel)
theorem iw_yX1_usedCells : Jvm.Cond.instanceMethod yX1_usedCells ∈ BIG := bigAt 413 (by decide +kernel) (by decide +kernel)
theorem vw_yX1_usedCells : Jvm.Cond.selects RX1 yX1_usedCells yX1_usedCells ∈ BIG := bigAt 414 (by decide +kernel) (by decide +kernel)
theorem cw_yX1_highestEnd : Jvm.Cond.code yX1_highestEnd cX1_highestEnd 3 (some .int) ∈ BIG := bigAt 326 (by decide +kernel) (by decide +kernel)
theorem iw_yX1_highestEnd : Jvm.Cond.instanceMethod yX1_highestEnd ∈ BIG := bigAt 324 (by decide +kernel) (by decide +kernel)
theorem vw_yX1_highestEnd : Jvm.Cond.selects RX1 yX1_highestEnd yX1_highestEnd ∈ BIG := bigAt 325 (by decide +kernel) (by decide +kernel)
theorem cw_yX1_hasSpace : Jvm.Cond.code yX1_hasSpace cX1_hasSpace 2 (some .boolean) ∈ BIG := bigAt 322 (by decide +kernel) (by decide +kernel)
theorem iw_yX1_hasSpace : Jvm.Cond.instanceMethod yX1_hasSpace ∈ BIG := bigAt 320 (by decide +kernel) (by decide +kernel)
theorem vw_yX1_hasSpace : Jvm.Cond.selects RX1 yX1_hasSpace yX1_hasSpace ∈ BIG := bigAt 321 (by decide +kernel) (by decide +kernel)
theorem cw_yX1_limbIn : Jvm.Cond.code yX1_limbIn cX1_limbIn 3 (some .int) ∈ BIG := bigAt 428 (by decide +kernel) (by decide +kernel)
theorem iw_yX1_limbIn : Jvm.Cond.instanceMethod yX1_limbIn ∈ BIG := bigAt 426 (by decide +kernel) (by decide +kernel)
theorem vw_yX1_limbIn : Jvm.Cond.selects RX1 yX1_limbIn yX1_limbIn ∈ BIG := bigAt 427 (by decide +kernel) (by decide +kernel)
theorem cw_yX1_limbOf : Jvm.Cond.code yX1_limbOf cX1_limbOf 3 (some .int) ∈ BIG := bigAt 392 (by decide +kernel) (by decide +kernel)
theorem iw_yX1_limbOf : Jvm.Cond.instanceMethod yX1_limbOf ∈ BIG := bigAt 390 (by decide +kernel) (by decide +kernel)
theorem vw_yX1_limbOf : Jvm.Cond.selects RX1 yX1_limbOf yX1_limbOf ∈ BIG := bigAt 391 (by decide +kernel) (by decide +kernel)
theorem cw_yX1_writeLimb : Jvm.Cond.code yX1_writeLimb cX1_writeLimb 5 (some .int) ∈ BIG := bigAt 384 (by decide +kernel) (by decide +kernel)
theorem iw_yX1_writeLimb : Jvm.Cond.instanceMethod yX1_writeLimb ∈ BIG := bigAt 382 (by decide +kernel) (by decide +kernel)
theorem vw_yX1_writeLimb : Jvm.Cond.selects RX1 yX1_writeLimb yX1_writeLimb ∈ BIG := bigAt 383 (by decide +kernel) (by decide +kernel)
theorem cw_yX1_read : Jvm.Cond.code yX1_read cX1_read 3 none ∈ BIG := bigAt 373 (by decide +kernel) (by decide +kernel)
theorem iw_yX1_read : Jvm.Cond.instanceMethod yX1_read ∈ BIG := bigAt 371 (by decide +kernel) (by decide +kernel)
theorem vw_yX1_read : Jvm.Cond.selects RX1 yX1_read yX1_read ∈ BIG := bigAt 372 (by decide +kernel) (by decide +kernel)
theorem cw_yX1_takeAhead : Jvm.Cond.code yX1_takeAhead cX1_takeAhead 2 (some .boolean) ∈ BIG := bigAt 472 (by decide +kernel) (by decide +kernel)
theorem iw_yX1_takeAhead : Jvm.Cond.instanceMethod yX1_takeAhead ∈ BIG := bigAt 470 (by decide +kernel) (by decide +kernel)
theorem vw_yX1_takeAhead : Jvm.Cond.selects RX1 yX1_takeAhead yX1_takeAhead ∈ BIG := bigAt 471 (by decide +kernel) (by decide +kernel)
theorem cw_yX1_take : Jvm.Cond.code yX1_take cX1_take 3 (some .int) ∈ BIG := bigAt 318 (by decide +kernel) (by decide +kernel)
theorem iw_yX1_take : Jvm.Cond.instanceMethod yX1_take ∈ BIG := bigAt 316 (by decide +kernel) (by decide +kernel)
theorem vw_yX1_take : Jvm.Cond.selects RX1 yX1_take yX1_take ∈ BIG := bigAt 317 (by decide +kernel) (by decide +kernel)
theorem cw_yX1_dropTaken : Jvm.Cond.code yX1_dropTaken cX1_dropTaken 2 none ∈ BIG := bigAt 342 (by decide +kernel) (by decide +kernel)
theorem iw_yX1_dropTaken : Jvm.Cond.instanceMethod yX1_dropTaken ∈ BIG := bigAt 340 (by decide +kernel) (by decide +kernel)
theorem vw_yX1_dropTaken : Jvm.Cond.selects RX1 yX1_dropTaken yX1_dropTaken ∈ BIG := bigAt 341 (by decide +kernel) (by decide +kernel)
theorem cw_yX1_slideTogether : Jvm.Cond.code yX1_slideTogether cX1_slideTogether 4 none ∈ BIG := bigAt 331 (by decide +kernel) (by decide +kernel)
theorem iw_yX1_slideTogether : Jvm.Cond.instanceMethod yX1_slideTogether ∈ BIG := bigAt 329 (by decide +kernel) (by decide +kernel)
theorem vw_yX1_slideTogether : Jvm.Cond.selects RX1 yX1_slideTogether yX1_slideTogether ∈ BIG := bigAt 330 (by decide +kernel) (by decide +kernel)
theorem cw_yX1_lowestRunFrom : Jvm.Cond.code yX1_lowestRunFrom cX1_lowestRunFrom 5 (some .int) ∈ BIG := bigAt 335 (by decide +kernel) (by decide +kernel)
theorem iw_yX1_lowestRunFrom : Jvm.Cond.instanceMethod yX1_lowestRunFrom ∈ BIG := bigAt 334 (by decide +kernel) (by decide +kernel)
theorem vw_yX1_lowestRunFrom : Jvm.Cond.selects RX1 yX1_lowestRunFrom yX1_lowestRunFrom ∈ BIG := bigAt 0 (by decide +kernel) (by decide +kernel)
theorem cw_yX1_giveRun : Jvm.Cond.code yX1_giveRun cX1_giveRun 5 (some .boolean) ∈ BIG := bigAt 314 (by decide +kernel) (by decide +kernel)
theorem iw_yX1_giveRun : Jvm.Cond.instanceMethod yX1_giveRun ∈ BIG := bigAt 312 (by decide +kernel) (by decide +kernel)
theorem vw_yX1_giveRun : Jvm.Cond.selects RX1 yX1_giveRun yX1_giveRun ∈ BIG := bigAt 313 (by decide +kernel) (by decide +kernel)
theorem cw_yX1_come : Jvm.Cond.code yX1_come cX1_come 4 (some .int) ∈ BIG := bigAt 450 (by decide +kernel) (by decide +kernel)
theorem iw_yX1_come : Jvm.Cond.instanceMethod yX1_come ∈ BIG := bigAt 448 (by decide +kernel) (by decide +kernel)
theorem vw_yX1_come : Jvm.Cond.selects RX1 yX1_come yX1_come ∈ BIG := bigAt 449 (by decide +kernel) (by decide +kernel)
theorem cw_yX1_runFor : Jvm.Cond.code yX1_runFor cX1_runFor 3 (some .int) ∈ BIG := bigAt 454 (by decide +kernel) (by decide +kernel)
theorem iw_yX1_runFor : Jvm.Cond.instanceMethod yX1_runFor ∈ BIG := bigAt 452 (by decide +kernel) (by decide +kernel)
theorem vw_yX1_runFor : Jvm.Cond.selects RX1 yX1_runFor yX1_runFor ∈ BIG := bigAt 453 (by decide +kernel) (by decide +kernel)
theorem cw_yX1_settle : Jvm.Cond.code yX1_settle cX1_settle 5 none ∈ BIG := bigAt 346 (by decide +kernel) (by decide +kernel)
theorem iw_yX1_settle : Jvm.Cond.instanceMethod yX1_settle ∈ BIG := bigAt 344 (by decide +kernel) (by decide +kernel)
theorem vw_yX1_settle : Jvm.Cond.selects RX1 yX1_settle yX1_settle ∈ BIG := bigAt 345 (by decide +kernel) (by decide +kernel)
theorem cw_yX2_init : Jvm.Cond.code yX2_init cX2_init 2 none ∈ BIG := bigAt 205 (by decide +kernel) (by decide +kernel)
theorem iw_yX2_init : Jvm.Cond.instanceMethod yX2_init ∈ BIG := bigAt 204 (by decide +kernel) (by decide +kernel)
theorem cw_yX2_append : Jvm.Cond.code yX2_append cX2_append 2 (some .boolean) ∈ BIG := bigAt 662 (by decide +kernel) (by decide +kernel)
theorem iw_yX2_append : Jvm.Cond.instanceMethod yX2_append ∈ BIG := bigAt 660 (by decide +kernel) (by decide +kernel)
theorem vw_yX2_append : Jvm.Cond.selects RX2 yX2_append yX2_append ∈ BIG := bigAt 661 (by decide +kernel) (by decide +kernel)
theorem cw_yX2_wordAt : Jvm.Cond.code yX2_wordAt cX2_wordAt 2 (some .int) ∈ BIG := bigAt 670 (by decide +kernel) (by decide +kernel)
theorem iw_yX2_wordAt : Jvm.Cond.instanceMethod yX2_wordAt ∈ BIG := bigAt 668 (by decide +kernel) (by decide +kernel)
theorem vw_yX2_wordAt : Jvm.Cond.selects RX2 yX2_wordAt yX2_wordAt ∈ BIG := bigAt 669 (by decide +kernel) (by decide +kernel)
theorem cw_yX2_copyWords : Jvm.Cond.code yX2_copyWords cX2_copyWords 3 none ∈ BIG := bigAt 786 (by decide +kernel) (by decide +kernel)
theorem iw_yX2_copyWords : Jvm.Cond.instanceMethod yX2_copyWords ∈ BIG := bigAt 784 (by decide +kernel) (by decide +kernel)
theorem vw_yX2_copyWords : Jvm.Cond.selects RX2 yX2_copyWords yX2_copyWords ∈ BIG := bigAt 785 (by decide +kernel) (by decide +kernel)
theorem cw_yX2_isOneNode : Jvm.Cond.code yX2_isOneNode cX2_isOneNode 2 (some .boolean) ∈ BIG := bigAt 682 (by decide +kernel) (by decide +kernel)
theorem iw_yX2_isOneNode : Jvm.Cond.instanceMethod yX2_isOneNode ∈ BIG := bigAt 680 (by decide +kernel) (by decide +kernel)
theorem vw_yX2_isOneNode : Jvm.Cond.selects RX2 yX2_isOneNode yX2_isOneNode ∈ BIG := bigAt 681 (by decide +kernel) (by decide +kernel)
theorem cw_yX2_endOfNode : Jvm.Cond.code yX2_endOfNode cX2_endOfNode 4 (some .int) ∈ BIG := bigAt 686 (by decide +kernel) (by decide +kernel)
theorem iw_yX2_endOfNode : Jvm.Cond.instanceMethod yX2_endOfNode ∈ BIG := bigAt 685 (by decide +kernel) (by decide +kernel)
theorem vw_yX2_endOfNode : Jvm.Cond.selects RX2 yX2_endOfNode yX2_endOfNode ∈ BIG := bigAt 6 (by decide +kernel) (by decide +kernel)
theorem cw_yX2_endOfFactors : Jvm.Cond.code yX2_endOfFactors cX2_endOfFactors 8 (some .int) ∈ BIG := bigAt 699 (by decide +kernel) (by decide +kernel)
theorem iw_yX2_endOfFactors : Jvm.Cond.instanceMethod yX2_endOfFactors ∈ BIG := bigAt 698 (by decide +kernel) (by decide +kernel)
theorem vw_yX2_endOfFactors : Jvm.Cond.selects RX2 yX2_endOfFactors yX2_endOfFactors ∈ BIG := bigAt 9 (by decide +kernel) (by decide +kernel)
theorem cw_yX2_endOfNumber : Jvm.Cond.code yX2_endOfNumber cX2_endOfNumber 3 (some .int) ∈ BIG := bigAt 690 (by decide +kernel) (by decide +kernel)
theorem iw_yX2_endOfNumber : Jvm.Cond.instanceMethod yX2_endOfNumber ∈ BIG := bigAt 689 (by decide +kernel) (by decide +kernel)
theorem vw_yX2_endOfNumber : Jvm.Cond.selects RX2 yX2_endOfNumber yX2_endOfNumber ∈ BIG := bigAt 7 (by decide +kernel) (by decide +kernel)
theorem cw_yX2_isTwo : Jvm.Cond.code yX2_isTwo cX2_isTwo 2 (some .boolean) ∈ BIG := bigAt 695 (by decide +kernel) (by decide +kernel)
theorem iw_yX2_isTwo : Jvm.Cond.instanceMethod yX2_isTwo ∈ BIG := bigAt 694 (by decide +kernel) (by decide +kernel)
theorem vw_yX2_isTwo : Jvm.Cond.selects RX2 yX2_isTwo yX2_isTwo ∈ BIG := bigAt 8 (by decide +kernel) (by decide +kernel)
theorem cw_yX2_readNumber : Jvm.Cond.code yX2_readNumber cX2_readNumber 4 (some .int) ∈ BIG := bigAt 709 (by decide +kernel) (by decide +kernel)
theorem iw_yX2_readNumber : Jvm.Cond.instanceMethod yX2_readNumber ∈ BIG := bigAt 708 (by decide +kernel) (by decide +kernel)
theorem vw_yX2_readNumber : Jvm.Cond.selects RX2 yX2_readNumber yX2_readNumber ∈ BIG := bigAt 10 (by decide +kernel) (by decide +kernel)
theorem cw_yX2_isGoodFor : Jvm.Cond.code yX2_isGoodFor cX2_isGoodFor 4 (some .boolean) ∈ BIG := bigAt 705 (by decide +kernel) (by decide +kernel)
theorem iw_yX2_isGoodFor : Jvm.Cond.instanceMethod yX2_isGoodFor ∈ BIG := bigAt 703 (by decide +kernel) (by decide +kernel)
theorem vw_yX2_isGoodFor : Jvm.Cond.selects RX2 yX2_isGoodFor yX2_isGoodFor ∈ BIG := bigAt 704 (by decide +kernel) (by decide +kernel)
theorem cw_yX2_factorsFit : Jvm.Cond.code yX2_factorsFit cX2_factorsFit 7 (some .boolean) ∈ BIG := bigAt 716 (by decide +kernel) (by decide +kernel)
theorem iw_yX2_factorsFit : Jvm.Cond.instanceMethod yX2_factorsFit ∈ BIG := bigAt 715 (by decide +kernel) (by decide +kernel)
theorem vw_yX2_factorsFit : Jvm.Cond.selects RX2 yX2_factorsFit yX2_factorsFit ∈ BIG := bigAt 11 (by decide +kernel) (by decide +kernel)
theorem cw_yX2_multiplyTotal : Jvm.Cond.code yX2_multiplyTotal cX2_multiplyTotal 3 (some .boolean) ∈ BIG := bigAt 722 (by decide +kernel) (by decide +kernel)
theorem iw_yX2_multiplyTotal : Jvm.Cond.instanceMethod yX2_multiplyTotal ∈ BIG := bigAt 721 (by decide +kernel) (by decide +kernel)
theorem vw_yX2_multiplyTotal : Jvm.Cond.selects RX2 yX2_multiplyTotal yX2_multiplyTotal ∈ BIG := bigAt 12 (by decide +kernel) (by decide +kernel)
theorem cw_yX2_witnessHolds : Jvm.Cond.code yX2_witnessHolds cX2_witnessHolds 7 (some .boolean) ∈ BIG := bigAt 729 (by decide +kernel) (by decide +kernel)
theorem iw_yX2_witnessHolds : Jvm.Cond.instanceMethod yX2_witnessHolds ∈ BIG := bigAt 728 (by decide +kernel) (by decide +kernel)
theorem vw_yX2_witnessHolds : Jvm.Cond.selects RX2 yX2_witnessHolds yX2_witnessHolds ∈ BIG := bigAt 13 (by decide +kernel) (by decide +kernel)
theorem cw_yX3_init : Jvm.Cond.code yX3_init cX3_init 1 none ∈ BIG := bigAt 191 (by decide +kernel) (by decide +kernel)
theorem iw_yX3_init : Jvm.Cond.instanceMethod yX3_init ∈ BIG := bigAt 190 (by decide +kernel) (by decide +kernel)
theorem cw_yX3_write : Jvm.Cond.code yX3_write cX3_write 3 none ∈ BIG := bigAt 639 (by decide +kernel) (by decide +kernel)
theorem iw_yX3_write : Jvm.Cond.instanceMethod yX3_write ∈ BIG := bigAt 637 (by decide +kernel) (by decide +kernel)
theorem vw_yX3_write : Jvm.Cond.selects RX3 yX3_write yX3_write ∈ BIG := bigAt 638 (by decide +kernel) (by decide +kernel)
theorem cw_yX3_byteAt : Jvm.Cond.code yX3_byteAt cX3_byteAt 2 (some .int) ∈ BIG := bigAt 654 (by decide +kernel) (by decide +kernel)
theorem iw_yX3_byteAt : Jvm.Cond.instanceMethod yX3_byteAt ∈ BIG := bigAt 652 (by decide +kernel) (by decide +kernel)
theorem vw_yX3_byteAt : Jvm.Cond.selects RX3 yX3_byteAt yX3_byteAt ∈ BIG := bigAt 653 (by decide +kernel) (by decide +kernel)
theorem cw_yX3_characterOf : Jvm.Cond.code yX3_characterOf cX3_characterOf 1 (some .int) ∈ BIG := bigAt 646 (by decide +kernel) (by decide +kernel)
theorem sw_yX3_characterOf : Jvm.Cond.static yX3_characterOf ∈ BIG := bigAt 645 (by decide +kernel) (by decide +kernel)
theorem cw_yX4_init : Jvm.Cond.code yX4_init cX4_init 2 none ∈ BIG := bigAt 249 (by decide +kernel) (by decide +kernel)
theorem iw_yX4_init : Jvm.Cond.instanceMethod yX4_init ∈ BIG := bigAt 248 (by decide +kernel) (by decide +kernel)
theorem cw_yX4_isPrime : Jvm.Cond.code yX4_isPrime cX4_isPrime 1 (some .boolean) ∈ BIG := bigAt 740 (by decide +kernel) (by decide +kernel)
theorem sw_yX4_isPrime : Jvm.Cond.static yX4_isPrime ∈ BIG := bigAt 739 (by decide +kernel) (by decide +kernel)
theorem cw_yX4_leastFactor : Jvm.Cond.code yX4_leastFactor cX4_leastFactor 3 (some .int) ∈ BIG := bigAt 743 (by decide +kernel) (by decide +kernel)
theorem sw_yX4_leastFactor : Jvm.Cond.static yX4_leastFactor ∈ BIG := bigAt 742 (by decide +kernel) (by decide +kernel)
theorem cw_yX4_exponentOf : Jvm.Cond.code yX4_exponentOf cX4_exponentOf 4 (some .int) ∈ BIG := bigAt 771 (by decide +kernel) (by decide +kernel)
theorem sw_yX4_exponentOf : Jvm.Cond.static yX4_exponentOf ∈ BIG := bigAt 770 (by decide +kernel) (by decide +kernel)
theorem cw_yX4_write : Jvm.Cond.code yX4_write cX4_write 2 (some .boolean) ∈ BIG := bigAt 748 (by decide +kernel) (by decide +kernel)
theorem iw_yX4_write : Jvm.Cond.instanceMethod yX4_write ∈ BIG := bigAt 746 (by decide +kernel) (by decide +kernel)
theorem vw_yX4_write : Jvm.Cond.selects RX4 yX4_write yX4_write ∈ BIG := bigAt 747 (by decide +kernel) (by decide +kernel)
theorem cw_yX4_writeNode : Jvm.Cond.code yX4_writeNode cX4_writeNode 3 (some .boolean) ∈ BIG := bigAt 752 (by decide +kernel) (by decide +kernel)
theorem iw_yX4_writeNode : Jvm.Cond.instanceMethod yX4_writeNode ∈ BIG := bigAt 751 (by decide +kernel) (by decide +kernel)
theorem vw_yX4_writeNode : Jvm.Cond.selects RX4 yX4_writeNode yX4_writeNode ∈ BIG := bigAt 14 (by decide +kernel) (by decide +kernel)
theorem cw_yX4_writeFactors : Jvm.Cond.code yX4_writeFactors cX4_writeFactors 6 (some .boolean) ∈ BIG := bigAt 764 (by decide +kernel) (by decide +kernel)
theorem iw_yX4_writeFactors : Jvm.Cond.instanceMethod yX4_writeFactors ∈ BIG := bigAt 763 (by decide +kernel) (by decide +kernel)
theorem vw_yX4_writeFactors : Jvm.Cond.selects RX4 yX4_writeFactors yX4_writeFactors ∈ BIG := bigAt 17 (by decide +kernel) (by decide +kernel)
theorem cw_yX4_findFactors : Jvm.Cond.code yX4_findFactors cX4_findFactors 7 (some .int) ∈ BIG := bigAt 768 (by decide +kernel) (by decide +kernel)
theorem iw_yX4_findFactors : Jvm.Cond.instanceMethod yX4_findFactors ∈ BIG := bigAt 767 (by decide +kernel) (by decide +kernel)
theorem vw_yX4_findFactors : Jvm.Cond.selects RX4 yX4_findFactors yX4_findFactors ∈ BIG := bigAt 18 (by decide +kernel) (by decide +kernel)
theorem cw_yX4_leastWitness : Jvm.Cond.code yX4_leastWitness cX4_leastWitness 5 (some .int) ∈ BIG := bigAt 775 (by decide +kernel) (by decide +kernel)
theorem iw_yX4_leastWitness : Jvm.Cond.instanceMethod yX4_leastWitness ∈ BIG := bigAt 774 (by decide +kernel) (by decide +kernel)
theorem vw_yX4_leastWitness : Jvm.Cond.selects RX4 yX4_leastWitness yX4_leastWitness ∈ BIG := bigAt 19 (by decide +kernel) (by decide +kernel)
theorem cw_yX4_isWitness : Jvm.Cond.code yX4_isWitness cX4_isWitness 6 (some .boolean) ∈ BIG := bigAt 779 (by decide +kernel) (by decide +kernel)
theorem iw_yX4_isWitness : Jvm.Cond.instanceMethod yX4_isWitness ∈ BIG := bigAt 778 (by decide +kernel) (by decide +kernel)
theorem vw_yX4_isWitness : Jvm.Cond.selects RX4 yX4_isWitness yX4_isWitness ∈ BIG := bigAt 20 (by decide +kernel) (by decide +kernel)
theorem cw_yX4_powerModulo : Jvm.Cond.code yX4_powerModulo cX4_powerModulo 8 (some .int) ∈ BIG := bigAt 782 (by decide +kernel) (by decide +kernel)
theorem sw_yX4_powerModulo : Jvm.Cond.static yX4_powerModulo ∈ BIG := bigAt 781 (by decide +kernel) (by decide +kernel)
theorem cw_yX4_putNumber : Jvm.Cond.code yX4_putNumber cX4_putNumber 4 (some .boolean) ∈ BIG := bigAt 756 (by decide +kernel) (by decide +kernel)
theorem iw_yX4_putNumber : Jvm.Cond.instanceMethod yX4_putNumber ∈ BIG := bigAt 755 (by decide +kernel) (by decide +kernel)
theorem vw_yX4_putNumber : Jvm.Cond.selects RX4 yX4_putNumber yX4_putNumber ∈ BIG := bigAt 15 (by decide +kernel) (by decide +kernel)
theorem cw_yX4_put : Jvm.Cond.code yX4_put cX4_put 2 (some .boolean) ∈ BIG := bigAt 760 (by decide +kernel) (by decide +kernel)
theorem iw_yX4_put : Jvm.Cond.instanceMethod yX4_put ∈ BIG := bigAt 759 (by decide +kernel) (by decide +kernel)
theorem vw_yX4_put : Jvm.Cond.selects RX4 yX4_put yX4_put ∈ BIG := bigAt 16 (by decide +kernel) (by decide +kernel)
theorem cw_yX5_init : Jvm.Cond.code yX5_init cX5_init 1 none ∈ BIG := bigAt 128 (by decide +kernel) (by decide +kernel)
theorem iw_yX5_init : Jvm.Cond.instanceMethod yX5_init ∈ BIG := bigAt 127 (by decide +kernel) (by decide +kernel)
theorem cw_yX5_limbAt : Jvm.Cond.code yX5_limbAt cX5_limbAt 2 (some .int) ∈ BIG := bigAt 445 (by decide +kernel) (by decide +kernel)
theorem iw_yX5_limbAt : Jvm.Cond.instanceMethod yX5_limbAt ∈ BIG := bigAt 443 (by decide +kernel) (by decide +kernel)
theorem vw_yX5_limbAt : Jvm.Cond.selects RX5 yX5_limbAt yX5_limbAt ∈ BIG := bigAt 444 (by decide +kernel) (by decide +kernel)
theorem cw_yX5_trim : Jvm.Cond.code yX5_trim cX5_trim 2 none ∈ BIG := bigAt 310 (by decide +kernel) (by decide +kernel)
theorem iw_yX5_trim : Jvm.Cond.instanceMethod yX5_trim ∈ BIG := bigAt 308 (by decide +kernel) (by decide +kernel)
theorem vw_yX5_trim : Jvm.Cond.selects RX5 yX5_trim yX5_trim ∈ BIG := bigAt 309 (by decide +kernel) (by decide +kernel)
theorem cw_yX5_copy : Jvm.Cond.code yX5_copy cX5_copy 2 none ∈ BIG := bigAt 493 (by decide +kernel) (by decide +kernel)
theorem iw_yX5_copy : Jvm.Cond.instanceMethod yX5_copy ∈ BIG := bigAt 491 (by decide +kernel) (by decide +kernel)
theorem vw_yX5_copy : Jvm.Cond.selects RX5 yX5_copy yX5_copy ∈ BIG := bigAt 492 (by decide +kernel) (by decide +kernel)
theorem cw_yX5_become : Jvm.Cond.code yX5_become cX5_become 2 none ∈ BIG := bigAt 534 (by decide +kernel) (by decide +kernel)
theorem iw_yX5_become : Jvm.Cond.instanceMethod yX5_become ∈ BIG := bigAt 532 (by decide +kernel) (by decide +kernel)
theorem vw_yX5_become : Jvm.Cond.selects RX5 yX5_become yX5_become ∈ BIG := bigAt 533 (by decide +kernel) (by decide +kernel)
theorem cw_yX5_isOne : Jvm.Cond.code yX5_isOne cX5_isOne 1 (some .boolean) ∈ BIG := bigAt 588 (by decide +kernel) (by decide +kernel)
theorem iw_yX5_isOne : Jvm.Cond.instanceMethod yX5_isOne ∈ BIG := bigAt 586 (by decide +kernel) (by decide +kernel)
theorem vw_yX5_isOne : Jvm.Cond.selects RX5 yX5_isOne yX5_isOne ∈ BIG := bigAt 587 (by decide +kernel) (by decide +kernel)
theorem cw_yX5_bits : Jvm.Cond.code yX5_bits cX5_bits 1 (some .int) ∈ BIG := bigAt 400 (by decide +kernel) (by decide +kernel)
theorem iw_yX5_bits : Jvm.Cond.instanceMethod yX5_bits ∈ BIG := bigAt 398 (by decide +kernel) (by decide +kernel)
theorem vw_yX5_bits : Jvm.Cond.selects RX5 yX5_bits yX5_bits ∈ BIG := bigAt 399 (by decide +kernel) (by decide +kernel)
theorem cw_yX5_hasBit : Jvm.Cond.code yX5_hasBit cX5_hasBit 2 (some .boolean) ∈ BIG := bigAt 540 (by decide +kernel) (by decide +kernel)
theorem iw_yX5_hasBit : Jvm.Cond.instanceMethod yX5_hasBit ∈ BIG := bigAt 538 (by decide +kernel) (by decide +kernel)
theorem vw_yX5_hasBit : Jvm.Cond.selects RX5 yX5_hasBit yX5_hasBit ∈ BIG := bigAt 539 (by decide +kernel) (by decide +kernel)
theorem cw_yX5_trailingZeros : Jvm.Cond.code yX5_trailingZeros cX5_trailingZeros 2 (some .int) ∈ BIG := bigAt 581 (by decide +kernel) (by decide +kernel)
theorem iw_yX5_trailingZeros : Jvm.Cond.instanceMethod yX5_trailingZeros ∈ BIG := bigAt 579 (by decide +kernel) (by decide +kernel)
theorem vw_yX5_trailingZeros : Jvm.Cond.selects RX5 yX5_trailingZeros yX5_trailingZeros ∈ BIG := bigAt 580 (by decide +kernel) (by decide +kernel)
theorem cw_yX5_bitsOf : Jvm.Cond.code yX5_bitsOf cX5_bitsOf 1 (some .int) ∈ BIG := bigAt 403 (by decide +kernel) (by decide +kernel)
theorem sw_yX5_bitsOf : Jvm.Cond.static yX5_bitsOf ∈ BIG := bigAt 402 (by decide +kernel) (by decide +kernel)
theorem cw_yX5_timesPlus : Jvm.Cond.code yX5_timesPlus cX5_timesPlus 6 none ∈ BIG := bigAt 627 (by decide +kernel) (by decide +kernel)
theorem iw_yX5_timesPlus : Jvm.Cond.instanceMethod yX5_timesPlus ∈ BIG := bigAt 625 (by decide +kernel) (by decide +kernel)
theorem vw_yX5_timesPlus : Jvm.Cond.selects RX5 yX5_timesPlus yX5_timesPlus ∈ BIG := bigAt 626 (by decide +kernel) (by decide +kernel)
theorem cw_yX5_divideBy : Jvm.Cond.code yX5_divideBy cX5_divideBy 5 (some .int) ∈ BIG := bigAt 643 (by decide +kernel) (by decide +kernel)
theorem iw_yX5_divideBy : Jvm.Cond.instanceMethod yX5_divideBy ∈ BIG := bigAt 641 (by decide +kernel) (by decide +kernel)
theorem vw_yX5_divideBy : Jvm.Cond.selects RX5 yX5_divideBy yX5_divideBy ∈ BIG := bigAt 642 (by decide +kernel) (by decide +kernel)
theorem cw_yX6_init : Jvm.Cond.code yX6_init cX6_init 1 none ∈ BIG := bigAt 177 (by decide +kernel) (by decide +kernel)
theorem iw_yX6_init : Jvm.Cond.instanceMethod yX6_init ∈ BIG := bigAt 176 (by decide +kernel) (by decide +kernel)
theorem cw_yX6_hasSpace : Jvm.Cond.code yX6_hasSpace cX6_hasSpace 2 (some .boolean) ∈ BIG := bigAt 596 (by decide +kernel) (by decide +kernel)
theorem iw_yX6_hasSpace : Jvm.Cond.instanceMethod yX6_hasSpace ∈ BIG := bigAt 594 (by decide +kernel) (by decide +kernel)
theorem vw_yX6_hasSpace : Jvm.Cond.selects RX6 yX6_hasSpace yX6_hasSpace ∈ BIG := bigAt 595 (by decide +kernel) (by decide +kernel)
theorem cw_yX6_putBytesOf : Jvm.Cond.code yX6_putBytesOf cX6_putBytesOf 3 none ∈ BIG := bigAt 600 (by decide +kernel) (by decide +kernel)
theorem iw_yX6_putBytesOf : Jvm.Cond.instanceMethod yX6_putBytesOf ∈ BIG := bigAt 598 (by decide +kernel) (by decide +kernel)
theorem vw_yX6_putBytesOf : Jvm.Cond.selects RX6 yX6_putBytesOf yX6_putBytesOf ∈ BIG := bigAt 599 (by decide +kernel) (by decide +kernel)
theorem cw_yX6_digitsAhead : Jvm.Cond.code yX6_digitsAhead cX6_digitsAhead 3 (some .int) ∈ BIG := bigAt 615 (by decide +kernel) (by decide +kernel)
theorem iw_yX6_digitsAhead : Jvm.Cond.instanceMethod yX6_digitsAhead ∈ BIG := bigAt 613 (by decide +kernel) (by decide +kernel)
theorem vw_yX6_digitsAhead : Jvm.Cond.selects RX6 yX6_digitsAhead yX6_digitsAhead ∈ BIG := bigAt 614 (by decide +kernel) (by decide +kernel)
theorem cw_yX6_readNumber : Jvm.Cond.code yX6_readNumber cX6_readNumber 4 none ∈ BIG := bigAt 622 (by decide +kernel) (by decide +kernel)
theorem iw_yX6_readNumber : Jvm.Cond.instanceMethod yX6_readNumber ∈ BIG := bigAt 620 (by decide +kernel) (by decide +kernel)
theorem vw_yX6_readNumber : Jvm.Cond.selects RX6 yX6_readNumber yX6_readNumber ∈ BIG := bigAt 621 (by decide +kernel) (by decide +kernel)
theorem cw_yX6_digitOf : Jvm.Cond.code yX6_digitOf cX6_digitOf 1 (some .int) ∈ BIG := bigAt 618 (by decide +kernel) (by decide +kernel)
theorem sw_yX6_digitOf : Jvm.Cond.static yX6_digitOf ∈ BIG := bigAt 617 (by decide +kernel) (by decide +kernel)
theorem cw_yX7_init : Jvm.Cond.code yX7_init cX7_init 5 none ∈ BIG := bigAt 70 (by decide +kernel) (by decide +kernel)
theorem iw_yX7_init : Jvm.Cond.instanceMethod yX7_init ∈ BIG := bigAt 69 (by decide +kernel) (by decide +kernel)
theorem cw_yX7_nearest : Jvm.Cond.code yX7_nearest cX7_nearest 3 (some .int) ∈ BIG := bigAt 76 (by decide +kernel) (by decide +kernel)
theorem sw_yX7_nearest : Jvm.Cond.static yX7_nearest ∈ BIG := bigAt 75 (by decide +kernel) (by decide +kernel)
theorem cw_yX7_isRoom : Jvm.Cond.code yX7_isRoom cX7_isRoom 1 (some .boolean) ∈ BIG := bigAt 302 (by decide +kernel) (by decide +kernel)
theorem sw_yX7_isRoom : Jvm.Cond.static yX7_isRoom ∈ BIG := bigAt 301 (by decide +kernel) (by decide +kernel)
theorem cw_yX7_isLimb : Jvm.Cond.code yX7_isLimb cX7_isLimb 1 (some .boolean) ∈ BIG := bigAt 380 (by decide +kernel) (by decide +kernel)
theorem sw_yX7_isLimb : Jvm.Cond.static yX7_isLimb ∈ BIG := bigAt 379 (by decide +kernel) (by decide +kernel)
theorem cw_yX7_isBase : Jvm.Cond.code yX7_isBase cX7_isBase 1 (some .boolean) ∈ BIG := bigAt 611 (by decide +kernel) (by decide +kernel)
theorem sw_yX7_isBase : Jvm.Cond.static yX7_isBase ∈ BIG := bigAt 610 (by decide +kernel) (by decide +kernel)
theorem cw_yX7_alloc : Jvm.Cond.code yX7_alloc cX7_alloc 3 (some .int) ∈ BIG := bigAt 299 (by decide +kernel) (by decide +kernel)
theorem iw_yX7_alloc : Jvm.Cond.instanceMethod yX7_alloc ∈ BIG := bigAt 297 (by decide +kernel) (by decide +kernel)
theorem vw_yX7_alloc : Jvm.Cond.selects RX7 yX7_alloc yX7_alloc ∈ BIG := bigAt 298 (by decide +kernel) (by decide +kernel)
theorem cw_yX7_release : Jvm.Cond.code yX7_release cX7_release 2 (some .int) ∈ BIG := bigAt 357 (by decide +kernel) (by decide +kernel)
theorem iw_yX7_release : Jvm.Cond.instanceMethod yX7_release ∈ BIG := bigAt 355 (by decide +kernel) (by decide +kernel)
theorem vw_yX7_release : Jvm.Cond.selects RX7 yX7_release yX7_release ∈ BIG := bigAt 356 (by decide +kernel) (by decide +kernel)
theorem cw_yX7_resize : Jvm.Cond.code yX7_resize cX7_resize 3 (some .int) ∈ BIG := bigAt 369 (by decide +kernel) (by decide +kernel)
theorem iw_yX7_resize : Jvm.Cond.instanceMethod yX7_resize ∈ BIG := bigAt 367 (by decide +kernel) (by decide +kernel)
theorem vw_yX7_resize : Jvm.Cond.selects RX7 yX7_resize yX7_resize ∈ BIG := bigAt 368 (by decide +kernel) (by decide +kernel)
theorem cw_yX7_setLimb : Jvm.Cond.code yX7_setLimb cX7_setLimb 4 (some .int) ∈ BIG := bigAt 377 (by decide +kernel) (by decide +kernel)
theorem iw_yX7_setLimb : Jvm.Cond.instanceMethod yX7_setLimb ∈ BIG := bigAt 375 (by decide +kernel) (by decide +kernel)
theorem vw_yX7_setLimb : Jvm.Cond.selects RX7 yX7_setLimb yX7_setLimb ∈ BIG := bigAt 376 (by decide +kernel) (by decide +kernel)
theorem cw_yX7_limb : Jvm.Cond.code yX7_limb cX7_limb 3 (some .int) ∈ BIG := bigAt 388 (by decide +kernel) (by decide +kernel)
theorem iw_yX7_limb : Jvm.Cond.instanceMethod yX7_limb ∈ BIG := bigAt 386 (by decide +kernel) (by decide +kernel)
theorem vw_yX7_limb : Jvm.Cond.selects RX7 yX7_limb yX7_limb ∈ BIG := bigAt 387 (by decide +kernel) (by decide +kernel)
theorem cw_yX7_look : Jvm.Cond.code yX7_look cX7_look 3 (some .int) ∈ BIG := bigAt 396 (by decide +kernel) (by decide +kernel)
theorem iw_yX7_look : Jvm.Cond.instanceMethod yX7_look ∈ BIG := bigAt 394 (by decide +kernel) (by decide +kernel)
theorem vw_yX7_look : Jvm.Cond.selects RX7 yX7_look yX7_look ∈ BIG := bigAt 395 (by decide +kernel) (by decide +kernel)
theorem cw_yX7_about : Jvm.Cond.code yX7_about cX7_about 2 (some .int) ∈ BIG := bigAt 411 (by decide +kernel) (by decide +kernel)
theorem iw_yX7_about : Jvm.Cond.instanceMethod yX7_about ∈ BIG := bigAt 409 (by decide +kernel) (by decide +kernel)
theorem vw_yX7_about : Jvm.Cond.selects RX7 yX7_about yX7_about ∈ BIG := bigAt 410 (by decide +kernel) (by decide +kernel)
theorem cw_yX7_cell : Jvm.Cond.code yX7_cell cX7_cell 2 (some .int) ∈ BIG := bigAt 424 (by decide +kernel) (by decide +kernel)
theorem iw_yX7_cell : Jvm.Cond.instanceMethod yX7_cell ∈ BIG := bigAt 422 (by decide +kernel) (by decide +kernel)
theorem vw_yX7_cell : Jvm.Cond.selects RX7 yX7_cell yX7_cell ∈ BIG := bigAt 423 (by decide +kernel) (by decide +kernel)
theorem cw_yX7_add : Jvm.Cond.code yX7_add cX7_add 4 (some .int) ∈ BIG := bigAt 432 (by decide +kernel) (by decide +kernel)
theorem iw_yX7_add : Jvm.Cond.instanceMethod yX7_add ∈ BIG := bigAt 430 (by decide +kernel) (by decide +kernel)
theorem vw_yX7_add : Jvm.Cond.selects RX7 yX7_add yX7_add ∈ BIG := bigAt 431 (by decide +kernel) (by decide +kernel)
theorem cw_yX7_sub : Jvm.Cond.code yX7_sub cX7_sub 4 (some .int) ∈ BIG := bigAt 458 (by decide +kernel) (by decide +kernel)
theorem iw_yX7_sub : Jvm.Cond.instanceMethod yX7_sub ∈ BIG := bigAt 456 (by decide +kernel) (by decide +kernel)
theorem vw_yX7_sub : Jvm.Cond.selects RX7 yX7_sub yX7_sub ∈ BIG := bigAt 457 (by decide +kernel) (by decide +kernel)
theorem cw_yX7_mul : Jvm.Cond.code yX7_mul cX7_mul 6 (some .int) ∈ BIG := bigAt 468 (by decide +kernel) (by decide +kernel)
theorem iw_yX7_mul : Jvm.Cond.instanceMethod yX7_mul ∈ BIG := bigAt 466 (by decide +kernel) (by decide +kernel)
theorem vw_yX7_mul : Jvm.Cond.selects RX7 yX7_mul yX7_mul ∈ BIG := bigAt 467 (by decide +kernel) (by decide +kernel)
theorem cw_yX7_divmod : Jvm.Cond.code yX7_divmod cX7_divmod 7 (some .int) ∈ BIG := bigAt 480 (by decide +kernel) (by decide +kernel)
theorem iw_yX7_divmod : Jvm.Cond.instanceMethod yX7_divmod ∈ BIG := bigAt 478 (by decide +kernel) (by decide +kernel)
theorem vw_yX7_divmod : Jvm.Cond.selects RX7 yX7_divmod yX7_divmod ∈ BIG := bigAt 479 (by decide +kernel) (by decide +kernel)
theorem cw_yX7_isLiveOrNone : Jvm.Cond.code yX7_isLiveOrNone cX7_isLiveOrNone 2 (some .boolean) ∈ BIG := bigAt 484 (by decide +kernel) (by decide +kernel)
theorem iw_yX7_isLiveOrNone : Jvm.Cond.instanceMethod yX7_isLiveOrNone ∈ BIG := bigAt 483 (by decide +kernel) (by decide +kernel)
theorem vw_yX7_isLiveOrNone : Jvm.Cond.selects RX7 yX7_isLiveOrNone yX7_isLiveOrNone ∈ BIG := bigAt 1 (by decide +kernel) (by decide +kernel)
theorem cw_yX7_bringBoth : Jvm.Cond.code yX7_bringBoth cX7_bringBoth 7 (some .int) ∈ BIG := bigAt 518 (by decide +kernel) (by decide +kernel)
theorem iw_yX7_bringBoth : Jvm.Cond.instanceMethod yX7_bringBoth ∈ BIG := bigAt 517 (by decide +kernel) (by decide +kernel)
theorem vw_yX7_bringBoth : Jvm.Cond.selects RX7 yX7_bringBoth yX7_bringBoth ∈ BIG := bigAt 5 (by decide +kernel) (by decide +kernel)
theorem cw_yX7_powmod : Jvm.Cond.code yX7_powmod cX7_powmod 8 (some .int) ∈ BIG := bigAt 525 (by decide +kernel) (by decide +kernel)
theorem iw_yX7_powmod : Jvm.Cond.instanceMethod yX7_powmod ∈ BIG := bigAt 523 (by decide +kernel) (by decide +kernel)
theorem vw_yX7_powmod : Jvm.Cond.selects RX7 yX7_powmod yX7_powmod ∈ BIG := bigAt 524 (by decide +kernel) (by decide +kernel)
theorem cw_yX7_gcd : Jvm.Cond.code yX7_gcd cX7_gcd 4 (some .int) ∈ BIG := bigAt 546 (by decide +kernel) (by decide +kernel)
theorem iw_yX7_gcd : Jvm.Cond.instanceMethod yX7_gcd ∈ BIG := bigAt 544 (by decide +kernel) (by decide +kernel)
theorem vw_yX7_gcd : Jvm.Cond.selects RX7 yX7_gcd yX7_gcd ∈ BIG := bigAt 545 (by decide +kernel) (by decide +kernel)
theorem cw_yX7_root : Jvm.Cond.code yX7_root cX7_root 3 (some .int) ∈ BIG := bigAt 554 (by decide +kernel) (by decide +kernel)
theorem iw_yX7_root : Jvm.Cond.instanceMethod yX7_root ∈ BIG := bigAt 552 (by decide +kernel) (by decide +kernel)
theorem vw_yX7_root : Jvm.Cond.selects RX7 yX7_root yX7_root ∈ BIG := bigAt 553 (by decide +kernel) (by decide +kernel)
theorem cw_yX7_shift : Jvm.Cond.code yX7_shift cX7_shift 4 (some .int) ∈ BIG := bigAt 563 (by decide +kernel) (by decide +kernel)
theorem iw_yX7_shift : Jvm.Cond.instanceMethod yX7_shift ∈ BIG := bigAt 561 (by decide +kernel) (by decide +kernel)
theorem vw_yX7_shift : Jvm.Cond.selects RX7 yX7_shift yX7_shift ∈ BIG := bigAt 562 (by decide +kernel) (by decide +kernel)
theorem cw_yX7_compare : Jvm.Cond.code yX7_compare cX7_compare 3 (some .int) ∈ BIG := bigAt 569 (by decide +kernel) (by decide +kernel)
theorem iw_yX7_compare : Jvm.Cond.instanceMethod yX7_compare ∈ BIG := bigAt 567 (by decide +kernel) (by decide +kernel)
theorem vw_yX7_compare : Jvm.Cond.selects RX7 yX7_compare yX7_compare ∈ BIG := bigAt 568 (by decide +kernel) (by decide +kernel)
theorem cw_yX7_jacobi : Jvm.Cond.code yX7_jacobi cX7_jacobi 3 (some .int) ∈ BIG := bigAt 573 (by decide +kernel) (by decide +kernel)
theorem iw_yX7_jacobi : Jvm.Cond.instanceMethod yX7_jacobi ∈ BIG := bigAt 571 (by decide +kernel) (by decide +kernel)
theorem vw_yX7_jacobi : Jvm.Cond.selects RX7 yX7_jacobi yX7_jacobi ∈ BIG := bigAt 572 (by decide +kernel) (by decide +kernel)
theorem cw_yX7_feed : Jvm.Cond.code yX7_feed cX7_feed 6 (some .int) ∈ BIG := bigAt 592 (by decide +kernel) (by decide +kernel)
theorem iw_yX7_feed : Jvm.Cond.instanceMethod yX7_feed ∈ BIG := bigAt 590 (by decide +kernel) (by decide +kernel)
theorem vw_yX7_feed : Jvm.Cond.selects RX7 yX7_feed yX7_feed ∈ BIG := bigAt 591 (by decide +kernel) (by decide +kernel)
theorem cw_yX7_end : Jvm.Cond.code yX7_end cX7_end 2 (some .boolean) ∈ BIG := bigAt 604 (by decide +kernel) (by decide +kernel)
theorem iw_yX7_end : Jvm.Cond.instanceMethod yX7_end ∈ BIG := bigAt 602 (by decide +kernel) (by decide +kernel)
theorem vw_yX7_end : Jvm.Cond.selects RX7 yX7_end yX7_end ∈ BIG := bigAt 603 (by decide +kernel) (by decide +kernel)
theorem cw_yX7_number : Jvm.Cond.code yX7_number cX7_number 4 (some .int) ∈ BIG := bigAt 608 (by decide +kernel) (by decide +kernel)
theorem iw_yX7_number : Jvm.Cond.instanceMethod yX7_number ∈ BIG := bigAt 606 (by decide +kernel) (by decide +kernel)
theorem vw_yX7_number : Jvm.Cond.selects RX7 yX7_number yX7_number ∈ BIG := bigAt 607 (by decide +kernel) (by decide +kernel)
theorem cw_yX7_fault : Jvm.Cond.code yX7_fault cX7_fault 1 (some .int) ∈ BIG := bigAt 631 (by decide +kernel) (by decide +kernel)
theorem iw_yX7_fault : Jvm.Cond.instanceMethod yX7_fault ∈ BIG := bigAt 629 (by decide +kernel) (by decide +kernel)
theorem vw_yX7_fault : Jvm.Cond.selects RX7 yX7_fault yX7_fault ∈ BIG := bigAt 630 (by decide +kernel) (by decide +kernel)
theorem cw_yX7_text : Jvm.Cond.code yX7_text cX7_text 3 (some .int) ∈ BIG := bigAt 635 (by decide +kernel) (by decide +kernel)
theorem iw_yX7_text : Jvm.Cond.instanceMethod yX7_text ∈ BIG := bigAt 633 (by decide +kernel) (by decide +kernel)
theorem vw_yX7_text : Jvm.Cond.selects RX7 yX7_text yX7_text ∈ BIG := bigAt 634 (by decide +kernel) (by decide +kernel)
theorem cw_yX7_out : Jvm.Cond.code yX7_out cX7_out 2 (some .int) ∈ BIG := bigAt 650 (by decide +kernel) (by decide +kernel)
theorem iw_yX7_out : Jvm.Cond.instanceMethod yX7_out ∈ BIG := bigAt 648 (by decide +kernel) (by decide +kernel)
theorem vw_yX7_out : Jvm.Cond.selects RX7 yX7_out yX7_out ∈ BIG := bigAt 649 (by decide +kernel) (by decide +kernel)
theorem cw_yX7_word : Jvm.Cond.code yX7_word cX7_word 2 (some .int) ∈ BIG := bigAt 658 (by decide +kernel) (by decide +kernel)
theorem iw_yX7_word : Jvm.Cond.instanceMethod yX7_word ∈ BIG := bigAt 656 (by decide +kernel) (by decide +kernel)
theorem vw_yX7_word : Jvm.Cond.selects RX7 yX7_word yX7_word ∈ BIG := bigAt 657 (by decide +kernel) (by decide +kernel)
theorem cw_yX7_told : Jvm.Cond.code yX7_told cX7_told 2 (some .int) ∈ BIG := bigAt 666 (by decide +kernel) (by decide +kernel)
theorem iw_yX7_told : Jvm.Cond.instanceMethod yX7_told ∈ BIG := bigAt 664 (by decide +kernel) (by decide +kernel)
theorem vw_yX7_told : Jvm.Cond.selects RX7 yX7_told yX7_told ∈ BIG := bigAt 665 (by decide +kernel) (by decide +kernel)
theorem cw_yX7_clear : Jvm.Cond.code yX7_clear cX7_clear 2 (some .int) ∈ BIG := bigAt 674 (by decide +kernel) (by decide +kernel)
theorem iw_yX7_clear : Jvm.Cond.instanceMethod yX7_clear ∈ BIG := bigAt 672 (by decide +kernel) (by decide +kernel)
theorem vw_yX7_clear : Jvm.Cond.selects RX7 yX7_clear yX7_clear ∈ BIG := bigAt 673 (by decide +kernel) (by decide +kernel)
theorem cw_yX7_check : Jvm.Cond.code yX7_check cX7_check 3 (some .int) ∈ BIG := bigAt 678 (by decide +kernel) (by decide +kernel)
theorem iw_yX7_check : Jvm.Cond.instanceMethod yX7_check ∈ BIG := bigAt 676 (by decide +kernel) (by decide +kernel)
theorem vw_yX7_check : Jvm.Cond.selects RX7 yX7_check yX7_check ∈ BIG := bigAt 677 (by decide +kernel) (by decide +kernel)
theorem cw_yX7_prove : Jvm.Cond.code yX7_prove cX7_prove 3 (some .int) ∈ BIG := bigAt 737 (by decide +kernel) (by decide +kernel)
theorem iw_yX7_prove : Jvm.Cond.instanceMethod yX7_prove ∈ BIG := bigAt 735 (by decide +kernel) (by decide +kernel)
theorem vw_yX7_prove : Jvm.Cond.selects RX7 yX7_prove yX7_prove ∈ BIG := bigAt 736 (by decide +kernel) (by decide +kernel)
theorem cw_yX8_init : Jvm.Cond.code yX8_init cX8_init 4 none ∈ BIG := bigAt 795 (by decide +kernel) (by decide +kernel)
theorem iw_yX8_init : Jvm.Cond.instanceMethod yX8_init ∈ BIG := bigAt 794 (by decide +kernel) (by decide +kernel)
theorem cw_yX8_near : Jvm.Cond.code yX8_near cX8_near 3 (some .int) ∈ BIG := bigAt 799 (by decide +kernel) (by decide +kernel)
theorem sw_yX8_near : Jvm.Cond.static yX8_near ∈ BIG := bigAt 798 (by decide +kernel) (by decide +kernel)
theorem cw_yX8_isIn : Jvm.Cond.code yX8_isIn cX8_isIn 3 (some .boolean) ∈ BIG := bigAt 895 (by decide +kernel) (by decide +kernel)
theorem sw_yX8_isIn : Jvm.Cond.static yX8_isIn ∈ BIG := bigAt 894 (by decide +kernel) (by decide +kernel)
theorem cw_yX8_at : Jvm.Cond.code yX8_at cX8_at 3 (some .int) ∈ BIG := bigAt 939 (by decide +kernel) (by decide +kernel)
theorem iw_yX8_at : Jvm.Cond.instanceMethod yX8_at ∈ BIG := bigAt 938 (by decide +kernel) (by decide +kernel)
theorem vw_yX8_at : Jvm.Cond.selects RX8 yX8_at yX8_at ∈ BIG := bigAt 27 (by decide +kernel) (by decide +kernel)
theorem cw_yX8_put : Jvm.Cond.code yX8_put cX8_put 4 none ∈ BIG := bigAt 927 (by decide +kernel) (by decide +kernel)
theorem iw_yX8_put : Jvm.Cond.instanceMethod yX8_put ∈ BIG := bigAt 926 (by decide +kernel) (by decide +kernel)
theorem vw_yX8_put : Jvm.Cond.selects RX8 yX8_put yX8_put ∈ BIG := bigAt 25 (by decide +kernel) (by decide +kernel)
theorem cw_yX8_fix : Jvm.Cond.code yX8_fix cX8_fix 4 none ∈ BIG := bigAt 931 (by decide +kernel) (by decide +kernel)
theorem iw_yX8_fix : Jvm.Cond.instanceMethod yX8_fix ∈ BIG := bigAt 930 (by decide +kernel) (by decide +kernel)
theorem vw_yX8_fix : Jvm.Cond.selects RX8 yX8_fix yX8_fix ∈ BIG := bigAt 26 (by decide +kernel) (by decide +kernel)
theorem cw_yX8_copy : Jvm.Cond.code yX8_copy cX8_copy 4 none ∈ BIG := bigAt 980 (by decide +kernel) (by decide +kernel)
theorem iw_yX8_copy : Jvm.Cond.instanceMethod yX8_copy ∈ BIG := bigAt 979 (by decide +kernel) (by decide +kernel)
theorem vw_yX8_copy : Jvm.Cond.selects RX8 yX8_copy yX8_copy ∈ BIG := bigAt 33 (by decide +kernel) (by decide +kernel)
theorem cw_yX8_small : Jvm.Cond.code yX8_small cX8_small 3 none ∈ BIG := bigAt 1021 (by decide +kernel) (by decide +kernel)
theorem iw_yX8_small : Jvm.Cond.instanceMethod yX8_small ∈ BIG := bigAt 1020 (by decide +kernel) (by decide +kernel)
theorem vw_yX8_small : Jvm.Cond.selects RX8 yX8_small yX8_small ∈ BIG := bigAt 39 (by decide +kernel) (by decide +kernel)
theorem cw_yX8_compared : Jvm.Cond.code yX8_compared cX8_compared 4 (some .int) ∈ BIG := bigAt 988 (by decide +kernel) (by decide +kernel)
theorem iw_yX8_compared : Jvm.Cond.instanceMethod yX8_compared ∈ BIG := bigAt 987 (by decide +kernel) (by decide +kernel)
theorem vw_yX8_compared : Jvm.Cond.selects RX8 yX8_compared yX8_compared ∈ BIG := bigAt 34 (by decide +kernel) (by decide +kernel)
theorem cw_yX8_isOne : Jvm.Cond.code yX8_isOne cX8_isOne 2 (some .boolean) ∈ BIG := bigAt 1053 (by decide +kernel) (by decide +kernel)
theorem iw_yX8_isOne : Jvm.Cond.instanceMethod yX8_isOne ∈ BIG := bigAt 1052 (by decide +kernel) (by decide +kernel)
theorem vw_yX8_isOne : Jvm.Cond.selects RX8 yX8_isOne yX8_isOne ∈ BIG := bigAt 42 (by decide +kernel) (by decide +kernel)
theorem cw_yX8_sum : Jvm.Cond.code yX8_sum cX8_sum 8 none ∈ BIG := bigAt 967 (by decide +kernel) (by decide +kernel)
theorem iw_yX8_sum : Jvm.Cond.instanceMethod yX8_sum ∈ BIG := bigAt 966 (by decide +kernel) (by decide +kernel)
theorem vw_yX8_sum : Jvm.Cond.selects RX8 yX8_sum yX8_sum ∈ BIG := bigAt 30 (by decide +kernel) (by decide +kernel)
theorem cw_yX8_difference : Jvm.Cond.code yX8_difference cX8_difference 8 none ∈ BIG := bigAt 992 (by decide +kernel) (by decide +kernel)
theorem iw_yX8_difference : Jvm.Cond.instanceMethod yX8_difference ∈ BIG := bigAt 991 (by decide +kernel) (by decide +kernel)
theorem vw_yX8_difference : Jvm.Cond.selects RX8 yX8_difference yX8_difference ∈ BIG := bigAt 35 (by decide +kernel) (by decide +kernel)
theorem cw_yX8_product : Jvm.Cond.code yX8_product cX8_product 10 none ∈ BIG := bigAt 1000 (by decide +kernel) (by decide +kernel)
theorem iw_yX8_product : Jvm.Cond.instanceMethod yX8_product ∈ BIG := bigAt 999 (by decide +kernel) (by decide +kernel)
theorem vw_yX8_product : Jvm.Cond.selects RX8 yX8_product yX8_product ∈ BIG := bigAt 36 (by decide +kernel) (by decide +kernel)
theorem cw_yX8_divide : Jvm.Cond.code yX8_divide cX8_divide 20 none ∈ BIG := bigAt 1009 (by decide +kernel) (by decide +kernel)
theorem iw_yX8_divide : Jvm.Cond.instanceMethod yX8_divide ∈ BIG := bigAt 1008 (by decide +kernel) (by decide +kernel)
theorem vw_yX8_divide : Jvm.Cond.selects RX8 yX8_divide yX8_divide ∈ BIG := bigAt 37 (by decide +kernel) (by decide +kernel)
theorem cw_yX8_bits : Jvm.Cond.code yX8_bits cX8_bits 4 (some .int) ∈ BIG := bigAt 947 (by decide +kernel) (by decide +kernel)
theorem iw_yX8_bits : Jvm.Cond.instanceMethod yX8_bits ∈ BIG := bigAt 946 (by decide +kernel) (by decide +kernel)
theorem vw_yX8_bits : Jvm.Cond.selects RX8 yX8_bits yX8_bits ∈ BIG := bigAt 28 (by decide +kernel) (by decide +kernel)
theorem cw_yX8_bit : Jvm.Cond.code yX8_bit cX8_bit 3 (some .int) ∈ BIG := bigAt 1025 (by decide +kernel) (by decide +kernel)
theorem iw_yX8_bit : Jvm.Cond.instanceMethod yX8_bit ∈ BIG := bigAt 1024 (by decide +kernel) (by decide +kernel)
theorem vw_yX8_bit : Jvm.Cond.selects RX8 yX8_bit yX8_bit ∈ BIG := bigAt 40 (by decide +kernel) (by decide +kernel)
theorem cw_yX8_power : Jvm.Cond.code yX8_power cX8_power 6 none ∈ BIG := bigAt 1017 (by decide +kernel) (by decide +kernel)
theorem iw_yX8_power : Jvm.Cond.instanceMethod yX8_power ∈ BIG := bigAt 1016 (by decide +kernel) (by decide +kernel)
theorem vw_yX8_power : Jvm.Cond.selects RX8 yX8_power yX8_power ∈ BIG := bigAt 38 (by decide +kernel) (by decide +kernel)
theorem cw_yX8_end : Jvm.Cond.code yX8_end cX8_end 3 (some .int) ∈ BIG := bigAt 903 (by decide +kernel) (by decide +kernel)
theorem iw_yX8_end : Jvm.Cond.instanceMethod yX8_end ∈ BIG := bigAt 902 (by decide +kernel) (by decide +kernel)
theorem vw_yX8_end : Jvm.Cond.selects RX8 yX8_end yX8_end ∈ BIG := bigAt 22 (by decide +kernel) (by decide +kernel)
theorem cw_yX8_slide : Jvm.Cond.code yX8_slide cX8_slide 5 none ∈ BIG := bigAt 907 (by decide +kernel) (by decide +kernel)
theorem iw_yX8_slide : Jvm.Cond.instanceMethod yX8_slide ∈ BIG := bigAt 906 (by decide +kernel) (by decide +kernel)
theorem vw_yX8_slide : Jvm.Cond.selects RX8 yX8_slide yX8_slide ∈ BIG := bigAt 23 (by decide +kernel) (by decide +kernel)
theorem cw_yX8_take : Jvm.Cond.code yX8_take cX8_take 2 (some .boolean) ∈ BIG := bigAt 899 (by decide +kernel) (by decide +kernel)
theorem iw_yX8_take : Jvm.Cond.instanceMethod yX8_take ∈ BIG := bigAt 898 (by decide +kernel) (by decide +kernel)
theorem vw_yX8_take : Jvm.Cond.selects RX8 yX8_take yX8_take ∈ BIG := bigAt 21 (by decide +kernel) (by decide +kernel)
theorem cw_yX8_gets : Jvm.Cond.code yX8_gets cX8_gets 4 none ∈ BIG := bigAt 976 (by decide +kernel) (by decide +kernel)
theorem iw_yX8_gets : Jvm.Cond.instanceMethod yX8_gets ∈ BIG := bigAt 975 (by decide +kernel) (by decide +kernel)
theorem vw_yX8_gets : Jvm.Cond.selects RX8 yX8_gets yX8_gets ∈ BIG := bigAt 32 (by decide +kernel) (by decide +kernel)
theorem cw_yX8_isLive : Jvm.Cond.code yX8_isLive cX8_isLive 2 (some .boolean) ∈ BIG := bigAt 915 (by decide +kernel) (by decide +kernel)
theorem iw_yX8_isLive : Jvm.Cond.instanceMethod yX8_isLive ∈ BIG := bigAt 914 (by decide +kernel) (by decide +kernel)
theorem vw_yX8_isLive : Jvm.Cond.selects RX8 yX8_isLive yX8_isLive ∈ BIG := bigAt 24 (by decide +kernel) (by decide +kernel)
theorem cw_yX8_comes : Jvm.Cond.code yX8_comes cX8_comes 4 (some .int) ∈ BIG := bigAt 972 (by decide +kernel) (by decide +kernel)
theorem iw_yX8_comes : Jvm.Cond.instanceMethod yX8_comes ∈ BIG := bigAt 971 (by decide +kernel) (by decide +kernel)
theorem vw_yX8_comes : Jvm.Cond.selects RX8 yX8_comes yX8_comes ∈ BIG := bigAt 31 (by decide +kernel) (by decide +kernel)
theorem cw_yX8_alloc : Jvm.Cond.code yX8_alloc cX8_alloc 3 (some .int) ∈ BIG := bigAt 892 (by decide +kernel) (by decide +kernel)
theorem iw_yX8_alloc : Jvm.Cond.instanceMethod yX8_alloc ∈ BIG := bigAt 890 (by decide +kernel) (by decide +kernel)
theorem vw_yX8_alloc : Jvm.Cond.selects RX8 yX8_alloc yX8_alloc ∈ BIG := bigAt 891 (by decide +kernel) (by decide +kernel)
theorem cw_yX8_release : Jvm.Cond.code yX8_release cX8_release 2 (some .int) ∈ BIG := bigAt 911 (by decide +kernel) (by decide +kernel)
theorem iw_yX8_release : Jvm.Cond.instanceMethod yX8_release ∈ BIG := bigAt 909 (by decide +kernel) (by decide +kernel)
theorem vw_yX8_release : Jvm.Cond.selects RX8 yX8_release yX8_release ∈ BIG := bigAt 910 (by decide +kernel) (by decide +kernel)
theorem cw_yX8_resize : Jvm.Cond.code yX8_resize cX8_resize 3 (some .int) ∈ BIG := bigAt 919 (by decide +kernel) (by decide +kernel)
theorem iw_yX8_resize : Jvm.Cond.instanceMethod yX8_resize ∈ BIG := bigAt 917 (by decide +kernel) (by decide +kernel)
theorem vw_yX8_resize : Jvm.Cond.selects RX8 yX8_resize yX8_resize ∈ BIG := bigAt 918 (by decide +kernel) (by decide +kernel)
theorem cw_yX8_setLimb : Jvm.Cond.code yX8_setLimb cX8_setLimb 5 (some .int) ∈ BIG := bigAt 923 (by decide +kernel) (by decide +kernel)
theorem iw_yX8_setLimb : Jvm.Cond.instanceMethod yX8_setLimb ∈ BIG := bigAt 921 (by decide +kernel) (by decide +kernel)
theorem vw_yX8_setLimb : Jvm.Cond.selects RX8 yX8_setLimb yX8_setLimb ∈ BIG := bigAt 922 (by decide +kernel) (by decide +kernel)
theorem cw_yX8_limb : Jvm.Cond.code yX8_limb cX8_limb 3 (some .int) ∈ BIG := bigAt 935 (by decide +kernel) (by decide +kernel)
theorem iw_yX8_limb : Jvm.Cond.instanceMethod yX8_limb ∈ BIG := bigAt 933 (by decide +kernel) (by decide +kernel)
theorem vw_yX8_limb : Jvm.Cond.selects RX8 yX8_limb yX8_limb ∈ BIG := bigAt 934 (by decide +kernel) (by decide +kernel)
theorem cw_yX8_look : Jvm.Cond.code yX8_look cX8_look 3 (some .int) ∈ BIG := bigAt 943 (by decide +kernel) (by decide +kernel)
theorem iw_yX8_look : Jvm.Cond.instanceMethod yX8_look ∈ BIG := bigAt 941 (by decide +kernel) (by decide +kernel)
theorem vw_yX8_look : Jvm.Cond.selects RX8 yX8_look yX8_look ∈ BIG := bigAt 942 (by decide +kernel) (by decide +kernel)
theorem cw_yX8_allRooms : Jvm.Cond.code yX8_allRooms cX8_allRooms 3 (some .int) ∈ BIG := bigAt 955 (by decide +kernel) (by decide +kernel)
theorem iw_yX8_allRooms : Jvm.Cond.instanceMethod yX8_allRooms ∈ BIG := bigAt 954 (by decide +kernel) (by decide +kernel)
theorem vw_yX8_allRooms : Jvm.Cond.selects RX8 yX8_allRooms yX8_allRooms ∈ BIG := bigAt 29 (by decide +kernel) (by decide +kernel)
theorem cw_yX8_about : Jvm.Cond.code yX8_about cX8_about 4 (some .int) ∈ BIG := bigAt 951 (by decide +kernel) (by decide +kernel)
theorem iw_yX8_about : Jvm.Cond.instanceMethod yX8_about ∈ BIG := bigAt 949 (by decide +kernel) (by decide +kernel)
theorem vw_yX8_about : Jvm.Cond.selects RX8 yX8_about yX8_about ∈ BIG := bigAt 950 (by decide +kernel) (by decide +kernel)
theorem cw_yX8_cell : Jvm.Cond.code yX8_cell cX8_cell 3 (some .int) ∈ BIG := bigAt 959 (by decide +kernel) (by decide +kernel)
theorem iw_yX8_cell : Jvm.Cond.instanceMethod yX8_cell ∈ BIG := bigAt 957 (by decide +kernel) (by decide +kernel)
theorem vw_yX8_cell : Jvm.Cond.selects RX8 yX8_cell yX8_cell ∈ BIG := bigAt 958 (by decide +kernel) (by decide +kernel)
theorem cw_yX8_add : Jvm.Cond.code yX8_add cX8_add 4 (some .int) ∈ BIG := bigAt 963 (by decide +kernel) (by decide +kernel)
theorem iw_yX8_add : Jvm.Cond.instanceMethod yX8_add ∈ BIG := bigAt 961 (by decide +kernel) (by decide +kernel)
theorem vw_yX8_add : Jvm.Cond.selects RX8 yX8_add yX8_add ∈ BIG := bigAt 962 (by decide +kernel) (by decide +kernel)
theorem cw_yX8_sub : Jvm.Cond.code yX8_sub cX8_sub 4 (some .int) ∈ BIG := bigAt 984 (by decide +kernel) (by decide +kernel)
theorem iw_yX8_sub : Jvm.Cond.instanceMethod yX8_sub ∈ BIG := bigAt 982 (by decide +kernel) (by decide +kernel)
theorem vw_yX8_sub : Jvm.Cond.selects RX8 yX8_sub yX8_sub ∈ BIG := bigAt 983 (by decide +kernel) (by decide +kernel)
theorem cw_yX8_mul : Jvm.Cond.code yX8_mul cX8_mul 4 (some .int) ∈ BIG := bigAt 996 (by decide +kernel) (by decide +kernel)
theorem iw_yX8_mul : Jvm.Cond.instanceMethod yX8_mul ∈ BIG := bigAt 994 (by decide +kernel) (by decide +kernel)
theorem vw_yX8_mul : Jvm.Cond.selects RX8 yX8_mul yX8_mul ∈ BIG := bigAt 995 (by decide +kernel) (by decide +kernel)
theorem cw_yX8_divmod : Jvm.Cond.code yX8_divmod cX8_divmod 7 (some .int) ∈ BIG := bigAt 1005 (by decide +kernel) (by decide +kernel)
theorem iw_yX8_divmod : Jvm.Cond.instanceMethod yX8_divmod ∈ BIG := bigAt 1003 (by decide +kernel) (by decide +kernel)
theorem vw_yX8_divmod : Jvm.Cond.selects RX8 yX8_divmod yX8_divmod ∈ BIG := bigAt 1004 (by decide +kernel) (by decide +kernel)
theorem cw_yX8_powmod : Jvm.Cond.code yX8_powmod cX8_powmod 7 (some .int) ∈ BIG := bigAt 1013 (by decide +kernel) (by decide +kernel)
theorem iw_yX8_powmod : Jvm.Cond.instanceMethod yX8_powmod ∈ BIG := bigAt 1011 (by decide +kernel) (by decide +kernel)
theorem vw_yX8_powmod : Jvm.Cond.selects RX8 yX8_powmod yX8_powmod ∈ BIG := bigAt 1012 (by decide +kernel) (by decide +kernel)
theorem cw_yX8_gcd : Jvm.Cond.code yX8_gcd cX8_gcd 4 (some .int) ∈ BIG := bigAt 1029 (by decide +kernel) (by decide +kernel)
theorem iw_yX8_gcd : Jvm.Cond.instanceMethod yX8_gcd ∈ BIG := bigAt 1027 (by decide +kernel) (by decide +kernel)
theorem vw_yX8_gcd : Jvm.Cond.selects RX8 yX8_gcd yX8_gcd ∈ BIG := bigAt 1028 (by decide +kernel) (by decide +kernel)
theorem cw_yX8_root : Jvm.Cond.code yX8_root cX8_root 5 (some .int) ∈ BIG := bigAt 1033 (by decide +kernel) (by decide +kernel)
theorem iw_yX8_root : Jvm.Cond.instanceMethod yX8_root ∈ BIG := bigAt 1031 (by decide +kernel) (by decide +kernel)
theorem vw_yX8_root : Jvm.Cond.selects RX8 yX8_root yX8_root ∈ BIG := bigAt 1032 (by decide +kernel) (by decide +kernel)
theorem cw_yX8_shifted : Jvm.Cond.code yX8_shifted cX8_shifted 9 none ∈ BIG := bigAt 1041 (by decide +kernel) (by decide +kernel)
theorem iw_yX8_shifted : Jvm.Cond.instanceMethod yX8_shifted ∈ BIG := bigAt 1040 (by decide +kernel) (by decide +kernel)
theorem vw_yX8_shifted : Jvm.Cond.selects RX8 yX8_shifted yX8_shifted ∈ BIG := bigAt 41 (by decide +kernel) (by decide +kernel)
theorem cw_yX8_shift : Jvm.Cond.code yX8_shift cX8_shift 4 (some .int) ∈ BIG := bigAt 1037 (by decide +kernel) (by decide +kernel)
theorem iw_yX8_shift : Jvm.Cond.instanceMethod yX8_shift ∈ BIG := bigAt 1035 (by decide +kernel) (by decide +kernel)
theorem vw_yX8_shift : Jvm.Cond.selects RX8 yX8_shift yX8_shift ∈ BIG := bigAt 1036 (by decide +kernel) (by decide +kernel)
theorem cw_yX8_compare : Jvm.Cond.code yX8_compare cX8_compare 3 (some .int) ∈ BIG := bigAt 1045 (by decide +kernel) (by decide +kernel)
theorem iw_yX8_compare : Jvm.Cond.instanceMethod yX8_compare ∈ BIG := bigAt 1043 (by decide +kernel) (by decide +kernel)
theorem vw_yX8_compare : Jvm.Cond.selects RX8 yX8_compare yX8_compare ∈ BIG := bigAt 1044 (by decide +kernel) (by decide +kernel)
theorem cw_yX8_jacobi : Jvm.Cond.code yX8_jacobi cX8_jacobi 5 (some .int) ∈ BIG := bigAt 1049 (by decide +kernel) (by decide +kernel)
theorem iw_yX8_jacobi : Jvm.Cond.instanceMethod yX8_jacobi ∈ BIG := bigAt 1047 (by decide +kernel) (by decide +kernel)
theorem vw_yX8_jacobi : Jvm.Cond.selects RX8 yX8_jacobi yX8_jacobi ∈ BIG := bigAt 1048 (by decide +kernel) (by decide +kernel)
theorem cw_yX8_feed : Jvm.Cond.code yX8_feed cX8_feed 8 (some .int) ∈ BIG := bigAt 1057 (by decide +kernel) (by decide +kernel)
theorem iw_yX8_feed : Jvm.Cond.instanceMethod yX8_feed ∈ BIG := bigAt 1055 (by decide +kernel) (by decide +kernel)
theorem vw_yX8_feed : Jvm.Cond.selects RX8 yX8_feed yX8_feed ∈ BIG := bigAt 1056 (by decide +kernel) (by decide +kernel)
theorem cw_yX8_end_ : Jvm.Cond.code yX8_end_ cX8_end_ 2 (some .boolean) ∈ BIG := bigAt 1061 (by decide +kernel) (by decide +kernel)
theorem iw_yX8_end_ : Jvm.Cond.instanceMethod yX8_end_ ∈ BIG := bigAt 1059 (by decide +kernel) (by decide +kernel)
theorem vw_yX8_end_ : Jvm.Cond.selects RX8 yX8_end_ yX8_end_ ∈ BIG := bigAt 1060 (by decide +kernel) (by decide +kernel)
theorem cw_yX8_digit : Jvm.Cond.code yX8_digit cX8_digit 1 (some .int) ∈ BIG := bigAt 1068 (by decide +kernel) (by decide +kernel)
theorem sw_yX8_digit : Jvm.Cond.static yX8_digit ∈ BIG := bigAt 1067 (by decide +kernel) (by decide +kernel)
theorem cw_yX8_number : Jvm.Cond.code yX8_number cX8_number 10 (some .int) ∈ BIG := bigAt 1065 (by decide +kernel) (by decide +kernel)
theorem iw_yX8_number : Jvm.Cond.instanceMethod yX8_number ∈ BIG := bigAt 1063 (by decide +kernel) (by decide +kernel)
theorem vw_yX8_number : Jvm.Cond.selects RX8 yX8_number yX8_number ∈ BIG := bigAt 1064 (by decide +kernel) (by decide +kernel)
theorem cw_yX8_fault : Jvm.Cond.code yX8_fault cX8_fault 1 (some .int) ∈ BIG := bigAt 1072 (by decide +kernel) (by decide +kernel)
theorem iw_yX8_fault : Jvm.Cond.instanceMethod yX8_fault ∈ BIG := bigAt 1070 (by decide +kernel) (by decide +kernel)
theorem vw_yX8_fault : Jvm.Cond.selects RX8 yX8_fault yX8_fault ∈ BIG := bigAt 1071 (by decide +kernel) (by decide +kernel)
theorem cw_yX8_text : Jvm.Cond.code yX8_text cX8_text 7 (some .int) ∈ BIG := bigAt 1076 (by decide +kernel) (by decide +kernel)
theorem iw_yX8_text : Jvm.Cond.instanceMethod yX8_text ∈ BIG := bigAt 1074 (by decide +kernel) (by decide +kernel)
theorem vw_yX8_text : Jvm.Cond.selects RX8 yX8_text yX8_text ∈ BIG := bigAt 1075 (by decide +kernel) (by decide +kernel)
theorem cw_yX8_out : Jvm.Cond.code yX8_out cX8_out 2 (some .int) ∈ BIG := bigAt 1080 (by decide +kernel) (by decide +kernel)
theorem iw_yX8_out : Jvm.Cond.instanceMethod yX8_out ∈ BIG := bigAt 1078 (by decide +kernel) (by decide +kernel)
theorem vw_yX8_out : Jvm.Cond.selects RX8 yX8_out yX8_out ∈ BIG := bigAt 1079 (by decide +kernel) (by decide +kernel)
theorem cw_yX8_word : Jvm.Cond.code yX8_word cX8_word 2 (some .int) ∈ BIG := bigAt 1084 (by decide +kernel) (by decide +kernel)
theorem iw_yX8_word : Jvm.Cond.instanceMethod yX8_word ∈ BIG := bigAt 1082 (by decide +kernel) (by decide +kernel)
theorem vw_yX8_word : Jvm.Cond.selects RX8 yX8_word yX8_word ∈ BIG := bigAt 1083 (by decide +kernel) (by decide +kernel)
theorem cw_yX8_told : Jvm.Cond.code yX8_told cX8_told 2 (some .int) ∈ BIG := bigAt 1088 (by decide +kernel) (by decide +kernel)
theorem iw_yX8_told : Jvm.Cond.instanceMethod yX8_told ∈ BIG := bigAt 1086 (by decide +kernel) (by decide +kernel)
theorem vw_yX8_told : Jvm.Cond.selects RX8 yX8_told yX8_told ∈ BIG := bigAt 1087 (by decide +kernel) (by decide +kernel)
theorem cw_yX8_clear : Jvm.Cond.code yX8_clear cX8_clear 2 (some .int) ∈ BIG := bigAt 1092 (by decide +kernel) (by decide +kernel)
theorem iw_yX8_clear : Jvm.Cond.instanceMethod yX8_clear ∈ BIG := bigAt 1090 (by decide +kernel) (by decide +kernel)
theorem vw_yX8_clear : Jvm.Cond.selects RX8 yX8_clear yX8_clear ∈ BIG := bigAt 1091 (by decide +kernel) (by decide +kernel)
theorem cw_yX8_passes : Jvm.Cond.code yX8_passes cX8_passes 1 (some .boolean) ∈ BIG := bigAt 1108 (by decide +kernel) (by decide +kernel)
theorem iw_yX8_passes : Jvm.Cond.instanceMethod yX8_passes ∈ BIG := bigAt 1107 (by decide +kernel) (by decide +kernel)
theorem vw_yX8_passes : Jvm.Cond.selects RX8 yX8_passes yX8_passes ∈ BIG := bigAt 45 (by decide +kernel) (by decide +kernel)
theorem cw_yX8_isTwo : Jvm.Cond.code yX8_isTwo cX8_isTwo 2 (some .boolean) ∈ BIG := bigAt 1112 (by decide +kernel) (by decide +kernel)
theorem iw_yX8_isTwo : Jvm.Cond.instanceMethod yX8_isTwo ∈ BIG := bigAt 1111 (by decide +kernel) (by decide +kernel)
theorem vw_yX8_isTwo : Jvm.Cond.selects RX8 yX8_isTwo yX8_isTwo ∈ BIG := bigAt 46 (by decide +kernel) (by decide +kernel)
theorem cw_yX8_opens : Jvm.Cond.code yX8_opens cX8_opens 4 (some .boolean) ∈ BIG := bigAt 1104 (by decide +kernel) (by decide +kernel)
theorem iw_yX8_opens : Jvm.Cond.instanceMethod yX8_opens ∈ BIG := bigAt 1103 (by decide +kernel) (by decide +kernel)
theorem vw_yX8_opens : Jvm.Cond.selects RX8 yX8_opens yX8_opens ∈ BIG := bigAt 44 (by decide +kernel) (by decide +kernel)
theorem cw_yX8_isRow : Jvm.Cond.code yX8_isRow cX8_isRow 5 (some .boolean) ∈ BIG := bigAt 1100 (by decide +kernel) (by decide +kernel)
theorem iw_yX8_isRow : Jvm.Cond.instanceMethod yX8_isRow ∈ BIG := bigAt 1099 (by decide +kernel) (by decide +kernel)
theorem vw_yX8_isRow : Jvm.Cond.selects RX8 yX8_isRow yX8_isRow ∈ BIG := bigAt 43 (by decide +kernel) (by decide +kernel)
theorem cw_yX8_load : Jvm.Cond.code yX8_load cX8_load 4 none ∈ BIG := bigAt 1116 (by decide +kernel) (by decide +kernel)
theorem iw_yX8_load : Jvm.Cond.instanceMethod yX8_load ∈ BIG := bigAt 1115 (by decide +kernel) (by decide +kernel)
theorem vw_yX8_load : Jvm.Cond.selects RX8 yX8_load yX8_load ∈ BIG := bigAt 47 (by decide +kernel) (by decide +kernel)
theorem cw_yX8_isGood : Jvm.Cond.code yX8_isGood cX8_isGood 4 (some .boolean) ∈ BIG := bigAt 1120 (by decide +kernel) (by decide +kernel)
theorem iw_yX8_isGood : Jvm.Cond.instanceMethod yX8_isGood ∈ BIG := bigAt 1119 (by decide +kernel) (by decide +kernel)
theorem vw_yX8_isGood : Jvm.Cond.selects RX8 yX8_isGood yX8_isGood ∈ BIG := bigAt 48 (by decide +kernel) (by decide +kernel)
theorem cw_yX8_check : Jvm.Cond.code yX8_check cX8_check 7 (some .int) ∈ BIG := bigAt 1096 (by decide +kernel) (by decide +kernel)
theorem iw_yX8_check : Jvm.Cond.instanceMethod yX8_check ∈ BIG := bigAt 1094 (by decide +kernel) (by decide +kernel)
theorem vw_yX8_check : Jvm.Cond.selects RX8 yX8_check yX8_check ∈ BIG := bigAt 1095 (by decide +kernel) (by decide +kernel)
theorem cw_yX8_isPrime : Jvm.Cond.code yX8_isPrime cX8_isPrime 3 (some .boolean) ∈ BIG := bigAt 1127 (by decide +kernel) (by decide +kernel)
theorem sw_yX8_isPrime : Jvm.Cond.static yX8_isPrime ∈ BIG := bigAt 1126 (by decide +kernel) (by decide +kernel)
theorem cw_yX8_powers : Jvm.Cond.code yX8_powers cX8_powers 8 (some .int) ∈ BIG := bigAt 1145 (by decide +kernel) (by decide +kernel)
theorem sw_yX8_powers : Jvm.Cond.static yX8_powers ∈ BIG := bigAt 1144 (by decide +kernel) (by decide +kernel)
theorem cw_yX8_writes : Jvm.Cond.code yX8_writes cX8_writes 2 none ∈ BIG := bigAt 1139 (by decide +kernel) (by decide +kernel)
theorem iw_yX8_writes : Jvm.Cond.instanceMethod yX8_writes ∈ BIG := bigAt 1138 (by decide +kernel) (by decide +kernel)
theorem vw_yX8_writes : Jvm.Cond.selects RX8 yX8_writes yX8_writes ∈ BIG := bigAt 51 (by decide +kernel) (by decide +kernel)
theorem cw_yX8_writesNumber : Jvm.Cond.code yX8_writesNumber cX8_writesNumber 2 none ∈ BIG := bigAt 1135 (by decide +kernel) (by decide +kernel)
theorem iw_yX8_writesNumber : Jvm.Cond.instanceMethod yX8_writesNumber ∈ BIG := bigAt 1134 (by decide +kernel) (by decide +kernel)
theorem vw_yX8_writesNumber : Jvm.Cond.selects RX8 yX8_writesNumber yX8_writesNumber ∈ BIG := bigAt 50 (by decide +kernel) (by decide +kernel)
theorem cw_yX8_does : Jvm.Cond.code yX8_does cX8_does 4 (some .boolean) ∈ BIG := bigAt 1142 (by decide +kernel) (by decide +kernel)
theorem sw_yX8_does : Jvm.Cond.static yX8_does ∈ BIG := bigAt 1141 (by decide +kernel) (by decide +kernel)
theorem cw_yX8_certificate : Jvm.Cond.code yX8_certificate cX8_certificate 8 none ∈ BIG := bigAt 1131 (by decide +kernel) (by decide +kernel)
theorem iw_yX8_certificate : Jvm.Cond.instanceMethod yX8_certificate ∈ BIG := bigAt 1130 (by decide +kernel) (by decide +kernel)
theorem vw_yX8_certificate : Jvm.Cond.selects RX8 yX8_certificate yX8_certificate ∈ BIG := bigAt 49 (by decide +kernel) (by decide +kernel)
theorem cw_yX8_prove : Jvm.Cond.code yX8_prove cX8_prove 4 (some .int) ∈ BIG := bigAt 1124 (by decide +kernel) (by decide +kernel)
theorem iw_yX8_prove : Jvm.Cond.instanceMethod yX8_prove ∈ BIG := bigAt 1122 (by decide +kernel) (by decide +kernel)
theorem vw_yX8_prove : Jvm.Cond.selects RX8 yX8_prove yX8_prove ∈ BIG := bigAt 1123 (by decide +kernel) (by decide +kernel)
theorem cw_yJ6_numberOfLeadingZeros_0f7a4 : Jvm.Cond.code yJ6_numberOfLeadingZeros_0f7a4 cJ6_numberOfLeadingZeros_0f7a4 2 (some .int) ∈ BIG := bigAt 406 (by decide +kernel) (by decide +kernel)
theorem sw_yJ6_numberOfLeadingZeros_0f7a4 : Jvm.Cond.static yJ6_numberOfLeadingZeros_0f7a4 ∈ BIG := bigAt 405 (by decide +kernel) (by decide +kernel)
theorem cw_yJ6_numberOfTrailingZeros_0f7a4 : Jvm.Cond.code yJ6_numberOfTrailingZeros_0f7a4 cJ6_numberOfTrailingZeros_0f7a4 2 (some .int) ∈ BIG := bigAt 584 (by decide +kernel) (by decide +kernel)
theorem sw_yJ6_numberOfTrailingZeros_0f7a4 : Jvm.Cond.static yJ6_numberOfTrailingZeros_0f7a4 ∈ BIG := bigAt 583 (by decide +kernel) (by decide +kernel)
theorem cw_yJ9_max_7cf53 : Jvm.Cond.code yJ9_max_7cf53 cJ9_max_7cf53 2 (some .int) ∈ BIG := bigAt 82 (by decide +kernel) (by decide +kernel)
theorem sw_yJ9_max_7cf53 : Jvm.Cond.static yJ9_max_7cf53 ∈ BIG := bigAt 81 (by decide +kernel) (by decide +kernel)
theorem cw_yJ9_min_7cf53 : Jvm.Cond.code yJ9_min_7cf53 cJ9_min_7cf53 2 (some .int) ∈ BIG := bigAt 79 (by decide +kernel) (by decide +kernel)
theorem sw_yJ9_min_7cf53 : Jvm.Cond.static yJ9_min_7cf53 ∈ BIG := bigAt 78 (by decide +kernel) (by decide +kernel)
theorem cw_yJ7_rangeCheck_23922 : Jvm.Cond.code yJ7_rangeCheck_23922 cJ7_rangeCheck_23922 3 none ∈ BIG := bigAt 353 (by decide +kernel) (by decide +kernel)
theorem sw_yJ7_rangeCheck_23922 : Jvm.Cond.static yJ7_rangeCheck_23922 ∈ BIG := bigAt 352 (by decide +kernel) (by decide +kernel)
theorem cw_yJ7_fill_fda19 : Jvm.Cond.code yJ7_fill_fda19 cJ7_fill_fda19 5 none ∈ BIG := bigAt 350 (by decide +kernel) (by decide +kernel)
theorem sw_yJ7_fill_fda19 : Jvm.Cond.static yJ7_fill_fda19 ∈ BIG := bigAt 349 (by decide +kernel) (by decide +kernel)
theorem cw_yL_cell : Jvm.Cond.code yL_cell cL_cell 2 (some .int) ∈ BIG := bigAt 790 (by decide +kernel) (by decide +kernel)
theorem sw_yL_cell : Jvm.Cond.static yL_cell ∈ BIG := bigAt 789 (by decide +kernel) (by decide +kernel)
theorem nw_RX0 : Jvm.Cond.initialized RX0 ∈ BIG := bigAt 56 (by decide +kernel) (by decide +kernel)
theorem nw_RX1 : Jvm.Cond.initialized RX1 ∈ BIG := bigAt 55 (by decide +kernel) (by decide +kernel)
theorem nw_RX2 : Jvm.Cond.initialized RX2 ∈ BIG := bigAt 60 (by decide +kernel) (by decide +kernel)
theorem nw_RX3 : Jvm.Cond.initialized RX3 ∈ BIG := bigAt 59 (by decide +kernel) (by decide +kernel)
theorem nw_RX4 : Jvm.Cond.initialized RX4 ∈ BIG := bigAt 61 (by decide +kernel) (by decide +kernel)
theorem nw_RX5 : Jvm.Cond.initialized RX5 ∈ BIG := bigAt 57 (by decide +kernel) (by decide +kernel)
theorem nw_RX6 : Jvm.Cond.initialized RX6 ∈ BIG := bigAt 58 (by decide +kernel) (by decide +kernel)
theorem nw_RX7 : Jvm.Cond.initialized RX7 ∈ BIG := bigAt 53 (by decide +kernel) (by decide +kernel)
theorem nw_RX8 : Jvm.Cond.initialized RX8 ∈ BIG := bigAt 62 (by decide +kernel) (by decide +kernel)
theorem nw_RJ6 : Jvm.Cond.initialized RJ6 ∈ BIG := bigAt 65 (by decide +kernel) (by decide +kernel)
theorem nw_RJ9 : Jvm.Cond.initialized RJ9 ∈ BIG := bigAt 54 (by decide +kernel) (by decide +kernel)
theorem nw_RJ10 : Jvm.Cond.initialized RJ10 ∈ BIG := bigAt 63 (by decide +kernel) (by decide +kernel)
theorem nw_RJ7 : Jvm.Cond.initialized RJ7 ∈ BIG := bigAt 64 (by decide +kernel) (by decide +kernel)
theorem nw_RL : Jvm.Cond.initialized RL ∈ BIG := bigAt 52 (by decide +kernel) (by decide +kernel)
theorem ac_native : Jvm.Cond.native arraycopyName ∈ BIG := bigAt 338 (by decide +kernel) (by decide +kernel)
theorem ac_static : Jvm.Cond.static arraycopyName ∈ BIG := bigAt 337 (by decide +kernel) (by decide +kernel)
theorem ac_init : Jvm.Cond.initialized "java/lang/System" ∈ BIG := bigAt 63 (by decide +kernel) (by decide +kernel)
end
section
/-! ===== the state as one memory of ints: what stands in each object and row that the system ever has ===== -/
abbrev AV : Type := Int ⊕ Int ⊕ Nat
abbrev Mem : Type := Nat → Nat → Int
abbrev Lc : Type := List (Option AV)
abbrev Kt : Type := Nat → Lc → List AV → Mem → Prop
/-- kind and references of each of the 67 cells: kinds 0 .. 8 as in vwCl, 100 a row of ints, 101 a row of booleans -/
def shT : List (Nat × List Nat) := [
  (7, [1, 6, 39, 41, 43, 47, 21, 23, 25, 0]),
  (1, [0, 2, 3, 4, 5, 0, 0]), (100, []), (100, []), (100, []), (100, []),
  (0, [7, 9, 11, 13, 15, 17, 19]),
  (5, [8, 0]), (100, []), (5, [10, 0]), (100, []), (5, [12, 0]), (100, []), (5, [14, 0]), (100, []), (5, [16, 0]), (100, []), (5, [18, 0]), (100, []), (5, [20, 0]), (100, []),
  (5, [22, 0]), (100, []), (5, [24, 0]), (100, []), (5, [26, 0]), (100, []),
  (5, [28, 0]), (100, []), (5, [30, 0]), (100, []), (5, [32, 0]), (100, []), (5, [34, 0]), (100, []), (5, [36, 0]), (100, []), (5, [38, 0]), (100, []),
  (6, [40, 0]), (100, []),
  (3, [42, 0]), (100, []),
  (2, [44, 0, 45, 46, 0, 27, 29, 31, 33, 35, 37]), (100, []), (100, []), (100, []),
  (4, [48, 0, 49]), (100, []), (100, []),
  (8, [0, 0, 0, 51, 52, 53, 54, 55, 56, 57, 0, 0, 58, 59, 0, 0, 0, 60, 0, 0, 0, 61, 62, 63, 64, 65, 66, 0, 0]),
  (100, []), (100, []), (101, []), (100, []), (100, []), (100, []), (100, []), (100, []), (100, []), (100, []), (100, []), (100, []), (100, []), (100, []), (100, []), (100, [])]
def kdF (i : Nat) : Nat := match shT[i]? with
  | some q => q.1
  | none => 200
def rfF (i k : Nat) : Nat := match shT[i]? with
  | some q => q.2.getD k 0
  | none => 0
abbrev Nn : Type := Nat × Nat × Nat
/-- the lengths of the rows: n = (handles, cells, words) -/
def lnF (n : Nn) (i : Nat) : Nat := match i with
  | 2 => n.2.1
  | 3 => n.1 + 5
  | 4 => n.1 + 5
  | 5 => n.1
  | 40 => 1000
  | 42 => 960
  | 44 => n.2.2
  | 45 => n.2.2
  | 46 => n.2.2
  | 48 => n.2.2
  | 49 => 108
  | 51 => 15540
  | 52 => 37
  | 53 => 24
  | 54 => 24
  | 55 => 24
  | 56 => 8
  | 57 => 8
  | 58 => 1000
  | 59 => 970
  | 60 => 400
  | 61 => 220
  | 62 => 220
  | 63 => 220
  | 64 => 220
  | 65 => 220
  | 66 => 4000
  | _ => 130
def nfF (c : Nat) : Nat := match c with
  | 0 => 7
  | 1 => 7
  | 2 => 11
  | 3 => 2
  | 4 => 3
  | 5 => 2
  | 6 => 2
  | 7 => 10
  | 8 => 29
  | _ => 0
def tnF (c : Nat) : String := match c with
  | 0 => RX0
  | 1 => RX1
  | 2 => RX2
  | 3 => RX3
  | 4 => RX4
  | 5 => RX5
  | 6 => RX6
  | 7 => RX7
  | _ => RX8
def ttF (c : Nat) : u_T := match c with
  | 0 => TX0
  | 1 => TX1
  | 2 => TX2
  | 3 => TX3
  | 4 => TX4
  | 5 => TX5
  | 6 => TX6
  | 7 => TX7
  | _ => TX8
def tyF (c : Nat) : Nat → FieldType := match c with
  | 0 => tyX0
  | 1 => tyX1
  | 2 => tyX2
  | 3 => tyX3
  | 4 => tyX4
  | 5 => tyX5
  | 6 => tyX6
  | 7 => tyX7
  | _ => tyX8
def isRefT (t : FieldType) : Bool := match t with
  | .int => false
  | .boolean => false
  | _ => true
theorem shT_len : shT.length = 67 := rfl
theorem kdF_lt {i : Nat} (h : kdF i < 150) : i < 67 := by
  unfold kdF at h
  cases hq : shT[i]? with
  | none => rw [hq] at h; simp at h
  | some q =>
    have := (List.getElem?_eq_some_iff.mp hq).1
    rw [shT_len] at this
    exact this
/-- D, the classes of int and boolean rows, addresses, base, lengths -/
abbrev ZT : Type := va_G × ClassId × ClassId × (Nat → Nat) × Nat × Nn
def zA (Z : ZT) : Nat → Nat := Z.2.2.2.1
def zB (Z : ZT) : Nat → Prop := fun q => Z.2.2.2.2.1 ≤ q
def zN (Z : ZT) : Nn := Z.2.2.2.2.2
abbrev zT (Z : ZT) : List (ClassId × FieldType) := [(Z.2.1, .int), (Z.2.2.1, .boolean)]
def cvF (Z : ZT) (v : AV) : Value := match v with
  | .inl x => .int (Int32.ofInt x)
  | .inr (.inl x) => .long (Int64.ofInt x)
  | .inr (.inr o) => .ref (zA Z o)
def fldF (Z : ZT) (M : Mem) (i k : Nat) : Value := if isRefT (tyF (kdF i) k) then .ref (zA Z (rfF i k)) else .int (Int32.ofInt (M i k))
def cellF (Z : ZT) (M : Mem) (i : Nat) : va_E :=
  if kdF i = 100 then .inl (Z.2.1, lnF (zN Z) i, .inl (fun j => Int32.ofInt (M i j)))
  else if kdF i = 101 then .inl (Z.2.2.1, lnF (zN Z) i, .inl (fun j => Int32.ofInt (M i j)))
  else .inr (kdF i, (List.range (nfF (kdF i))).map (fldF Z M i))
def wldF (Z : ZT) (M : Mem) : va_W := (List.range 67).map (fun i => (zA Z i, cellF Z M i))
def up2 (M : Mem) (o k : Nat) (x : Int) : Mem := va_up M o (va_up (M o) k x)
theorem up2_o {M : Mem} {o k : Nat} {x : Int} : up2 M o k x o = va_up (M o) k x := by unfold up2 va_up; rw [if_pos rfl]
theorem up2_i {M : Mem} {o k i : Nat} {x : Int} (h : i ≠ o) : up2 M o k x i = M i := by unfold up2 va_up; rw [if_neg h]
theorem up2_s {M : Mem} {o k : Nat} {x : Int} : up2 M o k x o k = x := by rw [up2_o]; unfold va_up; rw [if_pos rfl]
theorem up2_k {M : Mem} {o k j : Nat} {x : Int} (h : j ≠ k) : up2 M o k x o j = M o j := by rw [up2_o]; unfold va_up; rw [if_neg h]
theorem wldF_at (Z : ZT) (M : Mem) {i : Nat} (h : i < 67) : (wldF Z M)[i]? = some (zA Z i, cellF Z M i) := by
  unfold wldF
  rw [List.getElem?_map, List.getElem?_range h]
  rfl
theorem cellF_i (Z : ZT) (M : Mem) {i : Nat} (h : kdF i = 100) : cellF Z M i = .inl (Z.2.1, lnF (zN Z) i, .inl (fun j => Int32.ofInt (M i j))) := by unfold cellF; rw [if_pos h]
theorem cellF_z (Z : ZT) (M : Mem) {i : Nat} (h : kdF i = 101) : cellF Z M i = .inl (Z.2.2.1, lnF (zN Z) i, .inl (fun j => Int32.ofInt (M i j))) := by unfold cellF; rw [if_neg (by omega), if_pos h]
theorem cellF_o (Z : ZT) (M : Mem) {i : Nat} (h : kdF i < 100) : cellF Z M i = .inr (kdF i, (List.range (nfF (kdF i))).map (fldF Z M i)) := by unfold cellF; rw [if_neg (by omega), if_neg (by omega)]
theorem wldF_set (Z : ZT) (M M' : Mem) {o : Nat} {e : va_E} (h : o < 67) (he : e = cellF Z M' o) (hM : ∀ i, i < 67 → i ≠ o → cellF Z M' i = cellF Z M i) : (wldF Z M).set o (zA Z o, e) = wldF Z M' := by
  apply List.ext_getElem?
  intro i
  rw [List.getElem?_set]
  by_cases hi : o = i
  · subst hi
    rw [if_pos rfl, wldF_at Z M' h]
    have : o < (wldF Z M).length := by unfold wldF; simpa using h
    rw [if_pos this, he]
  · rw [if_neg hi]
    by_cases h6 : i < 67
    · rw [wldF_at Z M h6, wldF_at Z M' h6, hM i h6 (fun e => hi e.symm)]
    · have a1 : (wldF Z M)[i]? = none := by unfold wldF; simpa using h6
      have a2 : (wldF Z M')[i]? = none := by unfold wldF; simpa using h6
      rw [a1, a2]
theorem cellF_congr (Z : ZT) {M M' : Mem} {i : Nat} (h : M' i = M i) : cellF Z M' i = cellF Z M i := by
  unfold cellF fldF
  rw [h]
theorem cellF_fld (Z : ZT) (M : Mem) {o k : Nat} (x : Int) (ho : kdF o < 100) (hk : k < nfF (kdF o)) (hr : isRefT (tyF (kdF o) k) = false) :
    (.inr (kdF o, ((List.range (nfF (kdF o))).map (fldF Z M o)).set k (.int (Int32.ofInt x))) : va_E) = cellF Z (up2 M o k x) o := by
  rw [cellF_o Z _ ho]
  congr 2
  apply List.ext_getElem?
  intro j
  rw [List.getElem?_set]
  by_cases hj : k = j
  · subst hj
    rw [if_pos rfl, if_pos (by simpa using hk), List.getElem?_map, List.getElem?_range hk]
    simp [fldF, hr, up2_s]
  · rw [if_neg hj, List.getElem?_map, List.getElem?_map]
    by_cases h6 : j < nfF (kdF o)
    · rw [List.getElem?_range h6]
      simp only [Option.map_some]
      congr 1
      unfold fldF
      rw [up2_k (fun e => hj e.symm)]
    · have a1 : (List.range (nfF (kdF o)))[j]? = none := by simpa using h6
      rw [a1]
      rfl
theorem cellF_row (Z : ZT) (M : Mem) {o k : Nat} (x : Int) (ho : kdF o = 100) :
    (.inl (Z.2.1, lnF (zN Z) o, .inl (upd (fun j => Int32.ofInt (M o j)) k (Int32.ofInt x))) : va_E) = cellF Z (up2 M o k x) o := by
  rw [cellF_i Z _ ho]
  congr 4
  funext j
  by_cases hj : j = k
  · subst hj
    simp [upd, up2_s]
  · rw [up2_k hj]
    simp [upd, hj]
theorem cellF_rowZ (Z : ZT) (M : Mem) {o k : Nat} (x : Int) (ho : kdF o = 101) :
    (.inl (Z.2.2.1, lnF (zN Z) o, .inl (upd (fun j => Int32.ofInt (M o j)) k (Int32.ofInt x))) : va_E) = cellF Z (up2 M o k x) o := by
  rw [cellF_z Z _ ho]
  congr 4
  funext j
  by_cases hj : j = k
  · subst hj
    simp [upd, up2_s]
  · rw [up2_k hj]
    simp [upd, hj]
/-- the addresses are apart, and new -/
def adOk (Z : ZT) : Prop := (∀ i j : Nat, i < 67 → j < 67 → zA Z i = zA Z j → i = j) ∧ ∀ i : Nat, i < 67 → zB Z (zA Z i)
theorem adOk.D {Z : ZT} (h : adOk Z) (M : Mem) : va_D (zB Z) (wldF Z M) := by
  have key : ∀ (i : Nat) (q : Nat × va_E), (wldF Z M)[i]? = some q → i < 67 ∧ q.1 = zA Z i := by
    intro i q hq
    by_cases h6 : i < 67
    · rw [wldF_at Z M h6] at hq
      cases hq
      exact ⟨h6, rfl⟩
    · have a1 : (wldF Z M)[i]? = none := by unfold wldF; simpa using h6
      rw [a1] at hq
      cases hq
  refine ⟨fun i j p q hi hj e => ?_, fun k q hk => ?_⟩
  · obtain ⟨a1, a2⟩ := key i p hi
    obtain ⟨b1, b2⟩ := key j q hj
    exact h.1 i j a1 b1 (by rw [← a2, ← b2]; exact e)
  · obtain ⟨a1, a2⟩ := key k q hk
    rw [a2]
    exact h.2 k a1
/-- what the tables know of the nine kinds of object -/
theorem kindF (c : Nat) (h : c < 9) : vwCl[c]? = some (tnF c, ttF c, nfF c) ∧ (∀ w ∈ u_ws (tnF c) (ttF c) (nfF c), w ∈ BIG) ∧ (∀ k, k < nfF c → parseFieldDescriptor (ttF c k).2.2.1 = some (tyF c k)) ∧ (∀ a, a < nfF c → ∀ b, b < nfF c → a ≠ b → (ttF c a).2.1 ≠ (ttF c b).2.1) := by
  match c, h with
  | 0, _ => exact ⟨rfl, bigU0, tyX0_ok, nmX0⟩
  | 1, _ => exact ⟨rfl, bigU1, tyX1_ok, nmX1⟩
  | 2, _ => exact ⟨rfl, bigU2, tyX2_ok, nmX2⟩
  | 3, _ => exact ⟨rfl, bigU3, tyX3_ok, nmX3⟩
  | 4, _ => exact ⟨rfl, bigU4, tyX4_ok, nmX4⟩
  | 5, _ => exact ⟨rfl, bigU5, tyX5_ok, nmX5⟩
  | 6, _ => exact ⟨rfl, bigU6, tyX6_ok, nmX6⟩
  | 7, _ => exact ⟨rfl, bigU7, tyX7_ok, nmX7⟩
  | 8, _ => exact ⟨rfl, bigU8, tyX8_ok, nmX8⟩
end
section
/-! ===== one instruction over the memory: what must hold for it to go on, and where it goes on ===== -/
def inR (x : Int) : Prop := -2147483648 ≤ x ∧ x < 2147483648
def inL (x : Int) : Prop := -9223372036854775808 ≤ x ∧ x < 9223372036854775808
def fLs {α : Type} (l : List α) (k : List α → Prop) : Prop := match l with
  | [] => k []
  | a :: r => fLs r (fun r2 => k (a :: r2))
def lkN {α : Type _} (l : List (Nat × α)) (n : Nat) : Option α := match l with
  | [] => none
  | (a, b) :: r => cond (Nat.beq n a) (some b) (lkN r n)
def isLng (a : Option AV) : Bool := match a with
  | some (.inr (.inl _)) => true
  | _ => false
def sv1 (l : Lc) (k : Nat) (v : AV) : Lc := match l, k with
  | [], _ => []
  | _ :: r, 0 => some v :: r
  | some (.inr (.inl _)) :: r, 1 => none :: sv1 r 0 v
  | a :: r, 1 => a :: sv1 r 0 v
  | a :: r, k + 2 => a :: sv1 r (k + 1) v
def sv2 (l : Lc) (k : Nat) (v : AV) : Lc := match l, k with
  | [], _ => []
  | [_], 0 => [some v]
  | _ :: _ :: r, 0 => some v :: none :: r
  | some (.inr (.inl _)) :: r, 1 => none :: sv2 r 0 v
  | a :: r, 1 => a :: sv2 r 0 v
  | a :: r, k + 2 => a :: sv2 r (k + 1) v
def bAnd (x y : Int) : Int := (Int32.ofInt x &&& Int32.ofInt y).toInt
def bOr (x y : Int) : Int := (Int32.ofInt x ||| Int32.ofInt y).toInt
def bXor (x y : Int) : Int := (Int32.ofInt x ^^^ Int32.ofInt y).toInt
def lc3 (x y : Int) : Int := if y < x then 1 else if x = y then 0 else -1
abbrev Tt : Type := Nat → Option (Instr × Nat × List Nat)
/-- a contract: the type of its ghost, how many arguments, what must hold, what holds behind it (no answer, or an int) -/
abbrev Call : Type 1 := (G : Type) × (Nat × (G → List AV → Mem → Prop) × ((G → List AV → Mem → Mem → Prop) ⊕ (G → List AV → Mem → Int → Mem → Prop)))
/-- fields (pool number: kind of object, slot, what: 0 an int, 1 a boolean, 2 a reference to the next cell, 4 a reference, 3 an int that is only read; the cell referred to), ints, longs, calls (receiver's kind; none: static) -/
abbrev Pool : Type 1 := List (Nat × Nat × Nat × Nat × Nat) × List (Nat × Int) × List (Nat × Int) × List (Nat × Option Nat × Call)
abbrev Rets : Type := Nat × (Mem → Prop) × (Int → Mem → Prop)
def s_load (K : Kt) (nx k : Nat) (lc : Lc) (st : List AV) (M : Mem) : Prop := match lc[k]? with
  | some (some v) => K nx lc (v :: st) M
  | _ => False
def s_iload (K : Kt) (nx k : Nat) (lc : Lc) (st : List AV) (M : Mem) : Prop := match lc[k]? with
  | some (some (.inl x)) => K nx lc (.inl x :: st) M
  | _ => False
def s_lload (K : Kt) (nx k : Nat) (lc : Lc) (st : List AV) (M : Mem) : Prop := match lc[k]? with
  | some (some (.inr (.inl x))) => K nx lc (.inr (.inl x) :: st) M
  | _ => False
def s_aload (K : Kt) (nx k : Nat) (lc : Lc) (st : List AV) (M : Mem) : Prop := match lc[k]? with
  | some (some (.inr (.inr x))) => K nx lc (.inr (.inr x) :: st) M
  | _ => False
def s_istore (K : Kt) (nx k : Nat) (lc : Lc) (st : List AV) (M : Mem) : Prop := match st with
  | .inl x :: r => fLs (sv1 lc k (.inl x)) (fun l2 => K nx l2 r M)
  | _ => False
def s_astore (K : Kt) (nx k : Nat) (lc : Lc) (st : List AV) (M : Mem) : Prop := match st with
  | .inr (.inr x) :: r => fLs (sv1 lc k (.inr (.inr x))) (fun l2 => K nx l2 r M)
  | _ => False
def s_lstore (K : Kt) (nx k : Nat) (lc : Lc) (st : List AV) (M : Mem) : Prop := match st with
  | .inr (.inl x) :: r => fLs (sv2 lc k (.inr (.inl x))) (fun l2 => K nx l2 r M)
  | _ => False
def s_iinc (K : Kt) (nx k : Nat) (n : Int) (lc : Lc) (st : List AV) (M : Mem) : Prop := match lc[k]? with
  | some (some (.inl x)) => fLs (sv1 lc k (.inl (x + n))) (fun l2 => K nx l2 st M)
  | _ => False
def s_iadd (K : Kt) (nx : Nat) (lc : Lc) (st : List AV) (M : Mem) : Prop := match st with
  | .inl y :: .inl x :: r => K nx lc (.inl (x + y) :: r) M
  | _ => False
def s_isub (K : Kt) (nx : Nat) (lc : Lc) (st : List AV) (M : Mem) : Prop := match st with
  | .inl y :: .inl x :: r => K nx lc (.inl (x - y) :: r) M
  | _ => False
def s_imul (K : Kt) (nx : Nat) (lc : Lc) (st : List AV) (M : Mem) : Prop := match st with
  | .inl y :: .inl x :: r => K nx lc (.inl (x * y) :: r) M
  | _ => False
def s_iand (K : Kt) (nx : Nat) (lc : Lc) (st : List AV) (M : Mem) : Prop := match st with
  | .inl y :: .inl x :: r => K nx lc (.inl (bAnd x y) :: r) M
  | _ => False
def s_ior (K : Kt) (nx : Nat) (lc : Lc) (st : List AV) (M : Mem) : Prop := match st with
  | .inl y :: .inl x :: r => K nx lc (.inl (bOr x y) :: r) M
  | _ => False
def s_ixor (K : Kt) (nx : Nat) (lc : Lc) (st : List AV) (M : Mem) : Prop := match st with
  | .inl y :: .inl x :: r => K nx lc (.inl (bXor x y) :: r) M
  | _ => False
def s_idiv (K : Kt) (nx : Nat) (lc : Lc) (st : List AV) (M : Mem) : Prop := match st with
  | .inl y :: .inl x :: r => And (0 ≤ x ∧ 0 < y ∧ inR x ∧ inR y) (K nx lc (.inl (x / y) :: r) M)
  | _ => False
def s_irem (K : Kt) (nx : Nat) (lc : Lc) (st : List AV) (M : Mem) : Prop := match st with
  | .inl y :: .inl x :: r => And (0 ≤ x ∧ 0 < y ∧ inR x ∧ inR y) (K nx lc (.inl (x % y) :: r) M)
  | _ => False
def s_ishl (K : Kt) (nx : Nat) (lc : Lc) (st : List AV) (M : Mem) : Prop := match st with
  | .inl y :: .inl x :: r => And (0 ≤ y ∧ y < 32) (K nx lc (.inl (x * 2 ^ y.toNat) :: r) M)
  | _ => False
def s_ishr (K : Kt) (nx : Nat) (lc : Lc) (st : List AV) (M : Mem) : Prop := match st with
  | .inl y :: .inl x :: r => And (inR x ∧ 0 ≤ y ∧ y < 32) (K nx lc (.inl (x / 2 ^ y.toNat) :: r) M)
  | _ => False
def s_iushr (K : Kt) (nx : Nat) (lc : Lc) (st : List AV) (M : Mem) : Prop := match st with
  | .inl y :: .inl x :: r => And (inR x ∧ 0 ≤ x ∧ 0 ≤ y ∧ y < 32) (K nx lc (.inl (x / 2 ^ y.toNat) :: r) M)
  | _ => False
def s_ladd (K : Kt) (nx : Nat) (lc : Lc) (st : List AV) (M : Mem) : Prop := match st with
  | .inr (.inl y) :: .inr (.inl x) :: r => K nx lc (.inr (.inl (x + y)) :: r) M
  | _ => False
def s_lsub (K : Kt) (nx : Nat) (lc : Lc) (st : List AV) (M : Mem) : Prop := match st with
  | .inr (.inl y) :: .inr (.inl x) :: r => K nx lc (.inr (.inl (x - y)) :: r) M
  | _ => False
def s_lmul (K : Kt) (nx : Nat) (lc : Lc) (st : List AV) (M : Mem) : Prop := match st with
  | .inr (.inl y) :: .inr (.inl x) :: r => K nx lc (.inr (.inl (x * y)) :: r) M
  | _ => False
def s_ldiv (K : Kt) (nx : Nat) (lc : Lc) (st : List AV) (M : Mem) : Prop := match st with
  | .inr (.inl y) :: .inr (.inl x) :: r => And (0 ≤ x ∧ 0 < y ∧ inL x ∧ inL y) (K nx lc (.inr (.inl (x / y)) :: r) M)
  | _ => False
def s_lrem (K : Kt) (nx : Nat) (lc : Lc) (st : List AV) (M : Mem) : Prop := match st with
  | .inr (.inl y) :: .inr (.inl x) :: r => And (0 ≤ x ∧ 0 < y ∧ inL x ∧ inL y) (K nx lc (.inr (.inl (x % y)) :: r) M)
  | _ => False
def s_lcmp (K : Kt) (nx : Nat) (lc : Lc) (st : List AV) (M : Mem) : Prop := match st with
  | .inr (.inl y) :: .inr (.inl x) :: r => And (inL x ∧ inL y) (K nx lc (.inl (lc3 x y) :: r) M)
  | _ => False
def s_lshr (K : Kt) (nx : Nat) (lc : Lc) (st : List AV) (M : Mem) : Prop := match st with
  | .inl y :: .inr (.inl x) :: r => And (inL x ∧ 0 ≤ y ∧ y < 64) (K nx lc (.inr (.inl (x / 2 ^ y.toNat)) :: r) M)
  | _ => False
def s_ineg (K : Kt) (nx : Nat) (lc : Lc) (st : List AV) (M : Mem) : Prop := match st with
  | .inl x :: r => K nx lc (.inl (-x) :: r) M
  | _ => False
def s_lneg (K : Kt) (nx : Nat) (lc : Lc) (st : List AV) (M : Mem) : Prop := match st with
  | .inr (.inl x) :: r => K nx lc (.inr (.inl (-x)) :: r) M
  | _ => False
def s_i2l (K : Kt) (nx : Nat) (lc : Lc) (st : List AV) (M : Mem) : Prop := match st with
  | .inl x :: r => And (inR x) (K nx lc (.inr (.inl x) :: r) M)
  | _ => False
def s_l2i (K : Kt) (nx : Nat) (lc : Lc) (st : List AV) (M : Mem) : Prop := match st with
  | .inr (.inl x) :: r => K nx lc (.inl x :: r) M
  | _ => False
def s_dup (K : Kt) (nx : Nat) (lc : Lc) (st : List AV) (M : Mem) : Prop := match st with
  | .inl x :: r => K nx lc (.inl x :: .inl x :: r) M
  | .inr (.inr x) :: r => K nx lc (.inr (.inr x) :: .inr (.inr x) :: r) M
  | _ => False
def s_pop (K : Kt) (nx : Nat) (lc : Lc) (st : List AV) (M : Mem) : Prop := match st with
  | .inl _ :: r => K nx lc r M
  | .inr (.inr _) :: r => K nx lc r M
  | _ => False
def s_dup2 (K : Kt) (nx : Nat) (lc : Lc) (st : List AV) (M : Mem) : Prop := match st with
  | .inl y :: .inr (.inr x) :: r => K nx lc (.inl y :: .inr (.inr x) :: .inl y :: .inr (.inr x) :: r) M
  | _ => False
/-- a comparison of x and y: to the target, or on -/
def s_br (c : ClassFile.Cond) (x y : Int) (A B : Prop) : Prop := match c with
  | .eq => And (inR x ∧ inR y) (And (x = y → A) (x ≠ y → B))
  | .ne => And (inR x ∧ inR y) (And (x ≠ y → A) (x = y → B))
  | .lt => And (inR x ∧ inR y) (And (x < y → A) (y ≤ x → B))
  | .ge => And (inR x ∧ inR y) (And (y ≤ x → A) (x < y → B))
  | .gt => And (inR x ∧ inR y) (And (y < x → A) (x ≤ y → B))
  | .le => And (inR x ∧ inR y) (And (x ≤ y → A) (y < x → B))
def s_if (c : ClassFile.Cond) (K : Kt) (nx : Nat) (tg : List Nat) (lc : Lc) (st : List AV) (M : Mem) : Prop := match st, tg with
  | .inl x :: r, [t] => s_br c x 0 (K t lc r M) (K nx lc r M)
  | _, _ => False
def s_icmp (c : ClassFile.Cond) (K : Kt) (nx : Nat) (tg : List Nat) (lc : Lc) (st : List AV) (M : Mem) : Prop := match st, tg with
  | .inl y :: .inl x :: r, [t] => s_br c x y (K t lc r M) (K nx lc r M)
  | _, _ => False
def s_goto (K : Kt) (tg : List Nat) (lc : Lc) (st : List AV) (M : Mem) : Prop := match tg with
  | [t] => K t lc st M
  | _ => False
/-- a switch: lo, lo + 1 .. go to the targets, all else to the default -/
def s_sws (K : Nat → Prop) (x : Int) (lo : Int) (ts : List Nat) : Prop := match ts with
  | [] => True
  | t :: r => And (x = lo → K t) (s_sws K x (lo + 1) r)
def s_sw (lo hi : Int) (K : Kt) (tg : List Nat) (lc : Lc) (st : List AV) (M : Mem) : Prop := match st, tg with
  | .inl x :: r, d :: ts => And (inR x) (And ((x < lo ∨ hi < x) → K d lc r M) (s_sws (fun t => K t lc r M) x lo ts))
  | _, _ => False
def s_getf (P : Pool) (ix : Nat) (K : Kt) (nx : Nat) (lc : Lc) (st : List AV) (M : Mem) : Prop := match lkN P.1 ix, st with
  | some (c, _, 4, t), .inr (.inr o) :: r => And (kdF o = c) (K nx lc (.inr (.inr t) :: r) M)
  | some (c, _, 2, _), .inr (.inr o) :: r => And (kdF o = c) (K nx lc (.inr (.inr (o + 1)) :: r) M)
  | some (c, k, _, _), .inr (.inr o) :: r => And (kdF o = c) (K nx lc (.inl (M o k) :: r) M)
  | _, _ => False
def s_putf (P : Pool) (ix : Nat) (K : Kt) (nx : Nat) (lc : Lc) (st : List AV) (M : Mem) : Prop := match lkN P.1 ix, st with
  | some (c, k, 0, _), .inl x :: .inr (.inr o) :: r => And (kdF o = c) (K nx lc r (up2 M o k x))
  | some (c, k, 1, _), .inl x :: .inr (.inr o) :: r => And (kdF o = c ∧ (x = 0 ∨ x = 1)) (K nx lc r (up2 M o k x))
  | _, _ => False
def s_ald (kd : Nat) (n : Nn) (K : Kt) (nx : Nat) (lc : Lc) (st : List AV) (M : Mem) : Prop := match st with
  | .inl i :: .inr (.inr a) :: r => And (kdF a = kd ∧ 0 ≤ i ∧ i < (lnF n a : Int)) (K nx lc (.inl (M a i.toNat) :: r) M)
  | _ => False
def s_iast (n : Nn) (K : Kt) (nx : Nat) (lc : Lc) (st : List AV) (M : Mem) : Prop := match st with
  | .inl x :: .inl i :: .inr (.inr a) :: r => And (kdF a = 100 ∧ 0 ≤ i ∧ i < (lnF n a : Int)) (K nx lc r (up2 M a i.toNat x))
  | _ => False
def s_bast (n : Nn) (K : Kt) (nx : Nat) (lc : Lc) (st : List AV) (M : Mem) : Prop := match st with
  | .inl x :: .inl i :: .inr (.inr a) :: r => And (kdF a = 101 ∧ 0 ≤ i ∧ i < (lnF n a : Int) ∧ (x = 0 ∨ x = 1)) (K nx lc r (up2 M a i.toNat x))
  | _ => False
def s_alen (n : Nn) (K : Kt) (nx : Nat) (lc : Lc) (st : List AV) (M : Mem) : Prop := match st with
  | .inr (.inr a) :: r => And (kdF a = 100) (K nx lc (.inl (lnF n a : Int) :: r) M)
  | _ => False
def splA (n : Nat) (acc st : List AV) (k : List AV → List AV → Prop) : Prop := match n, st with
  | 0, st => k acc st
  | m + 1, v :: r => splA m (v :: acc) r k
  | _ + 1, [] => False
def catA (l : List AV) : Nat := match l with
  | [] => 0
  | .inr (.inl _) :: r => catA r + 2
  | _ :: r => catA r + 1
def s_go (c : Call) (vs rest : List AV) (K : Kt) (nx : Nat) (lc : Lc) (M : Mem) : Prop := match c.2.2.2 with
  | .inl pv => ∃ g : c.1, And (c.2.2.1 g vs M) (∀ M' : Mem, pv g vs M M' → K nx lc rest M')
  | .inr pi => ∃ g : c.1, And (c.2.2.1 g vs M) (∀ (x : Int) (M' : Mem), pi g vs M x M' → K nx lc (.inl x :: rest) M')
def s_rcv (c : Nat) (vs : List AV) (A : Prop) : Prop := match vs with
  | .inr (.inr o) :: _ => And (kdF o = c) A
  | _ => False
def noLng (l : List AV) : Bool := match l with
  | [] => true
  | .inr (.inl _) :: _ => false
  | _ :: r => noLng r
def okA (vs rest : List AV) : Bool := cond (Nat.ble (catA rest) 8) (noLng vs) false
def s_inv (P : Pool) (st? : Bool) (ix : Nat) (K : Kt) (nx : Nat) (lc : Lc) (st : List AV) (M : Mem) : Prop := match lkN P.2.2.2 ix, st? with
  | some (none, c), true => splA c.2.1 [] st (fun vs rest => cond (okA vs rest) (s_go c vs rest K nx lc M) False)
  | some (some kd, c), false => splA c.2.1 [] st (fun vs rest => cond (okA vs rest) (s_rcv kd vs (s_go c vs rest K nx lc M)) False)
  | _, _ => False
def s_iret (R : Rets) (st : List AV) (M : Mem) : Prop := match R.1, st with
  | 1, [.inl x] => And (R.2.2 x M) True
  | 2, [.inl x] => And (x = 0 ∨ x = 1) (R.2.2 x M)
  | _, _ => False
def s_ret (R : Rets) (st : List AV) (M : Mem) : Prop := match R.1, st with
  | 0, [] => And (R.2.1 M) True
  | _, _ => False
def s_ldi (l : List (Nat × Int)) (ix : Nat) (K : Kt) (nx : Nat) (lc : Lc) (st : List AV) (M : Mem) : Prop := match lkN l ix with
  | some v => K nx lc (.inl v :: st) M
  | none => False
def s_ldl (l : List (Nat × Int)) (ix : Nat) (K : Kt) (nx : Nat) (lc : Lc) (st : List AV) (M : Mem) : Prop := match lkN l ix with
  | some v => K nx lc (.inr (.inl v) :: st) M
  | none => False
def s_ins (P : Pool) (R : Rets) (n : Nn) (K : Kt) (i : Instr) (nx : Nat) (tg : List Nat) (lc : Lc) (st : List AV) (M : Mem) : Prop := match i with
  | .iconst v => K nx lc (.inl v :: st) M
  | .bipush v => K nx lc (.inl v :: st) M
  | .sipush v => K nx lc (.inl v :: st) M
  | .ldc ix => s_ldi P.2.1 ix K nx lc st M
  | .ldc_w ix => s_ldi P.2.1 ix K nx lc st M
  | .ldc2_w ix => s_ldl P.2.2.1 ix K nx lc st M
  | .lconst v => K nx lc (.inr (.inl (v.val : Int)) :: st) M
  | .iload k => s_iload K nx k lc st M
  | .iload_n k => s_iload K nx k.val lc st M
  | .lload k => s_lload K nx k lc st M
  | .lload_n k => s_lload K nx k.val lc st M
  | .aload k => s_aload K nx k lc st M
  | .aload_n k => s_aload K nx k.val lc st M
  | .istore k => s_istore K nx k lc st M
  | .istore_n k => s_istore K nx k.val lc st M
  | .lstore k => s_lstore K nx k lc st M
  | .lstore_n k => s_lstore K nx k.val lc st M
  | .astore k => s_astore K nx k lc st M
  | .astore_n k => s_astore K nx k.val lc st M
  | .iinc k v => s_iinc K nx k v lc st M
  | .iadd => s_iadd K nx lc st M
  | .isub => s_isub K nx lc st M
  | .imul => s_imul K nx lc st M
  | .iand => s_iand K nx lc st M
  | .ior => s_ior K nx lc st M
  | .ixor => s_ixor K nx lc st M
  | .idiv => s_idiv K nx lc st M
  | .irem => s_irem K nx lc st M
  | .ishl => s_ishl K nx lc st M
  | .ishr => s_ishr K nx lc st M
  | .iushr => s_iushr K nx lc st M
  | .ineg => s_ineg K nx lc st M
  | .ladd => s_ladd K nx lc st M
  | .lsub => s_lsub K nx lc st M
  | .lmul => s_lmul K nx lc st M
  | .ldiv => s_ldiv K nx lc st M
  | .lrem => s_lrem K nx lc st M
  | .lneg => s_lneg K nx lc st M
  | .lshr => s_lshr K nx lc st M
  | .lcmp => s_lcmp K nx lc st M
  | .i2l => s_i2l K nx lc st M
  | .l2i => s_l2i K nx lc st M
  | .dup => s_dup K nx lc st M
  | .dup2 => s_dup2 K nx lc st M
  | .pop => s_pop K nx lc st M
  | .ifCond c _ => s_if c K nx tg lc st M
  | .if_icmp c _ => s_icmp c K nx tg lc st M
  | .goto _ => s_goto K tg lc st M
  | .tableswitch _ lo hi _ => s_sw lo hi K tg lc st M
  | .getfield ix => s_getf P ix K nx lc st M
  | .putfield ix => s_putf P ix K nx lc st M
  | .iaload => s_ald 100 n K nx lc st M
  | .baload => s_ald 101 n K nx lc st M
  | .iastore => s_iast n K nx lc st M
  | .bastore => s_bast n K nx lc st M
  | .arraylength => s_alen n K nx lc st M
  | .invokevirtual ix => s_inv P false ix K nx lc st M
  | .invokestatic ix => s_inv P true ix K nx lc st M
  | .ireturn => s_iret R st M
  | .return_ => s_ret R st M
  | _ => False
def s_one (T : Tt) (P : Pool) (R : Rets) (n : Nn) (K : Kt) (pc : Nat) (lc : Lc) (st : List AV) (M : Mem) : Prop := match T pc with
  | some (i, nx, tg) => s_ins P R n K i nx tg lc st M
  | none => False
def elN (l : List Nat) (n : Nat) : Bool := match l with
  | [] => false
  | a :: r => cond (Nat.beq n a) true (elN r n)
/-- k instructions, or up to a stop: there (and when they are used up) 'aw' is wanted -/
def s_run (T : Tt) (P : Pool) (R : Rets) (n : Nn) (aw : Kt) (stops : List Nat) (k : Nat) : Kt := match k with
  | 0 => aw
  | k + 1 => s_one T P R n (fun pc lc st M => cond (elN stops pc) (And (aw pc lc st M) True) (s_run T P R n aw stops k pc lc st M))
def entL (vs : List AV) (nL : Nat) : Lc := vs.map some ++ List.replicate (nL - vs.length) none
def rvF (c : Call) (g : c.1) (vs : List AV) (M0 : Mem) (rt : Nat) : Rets := (rt, (fun M => match c.2.2.2 with
  | .inl pv => pv g vs M0 M
  | .inr _ => False), (fun x M => match c.2.2.2 with
  | .inl _ => False
  | .inr pi => pi g vs M0 x M))
/-- the method keeps its contract, by its own instructions and its callees' contracts -/
def Ver (T : Tt) (P : Pool) (rt nL : Nat) (n : Nn) (c : Call) : Prop := ∀ (g : c.1) (vs : List AV) (M0 : Mem), c.2.2.1 g vs M0 → ∀ aw : Kt, (∀ (k : Nat) (stops : List Nat) (pc : Nat) (lc : Lc) (st : List AV) (M : Mem), s_run T P (rvF c g vs M0 rt) n aw stops k pc lc st M → aw pc lc st M) → aw 0 (entL vs nL) [] M0
end
section
/-! ===== the machine does what the steps say ===== -/
theorem fLs_iff {α : Type} (l : List α) : ∀ k : List α → Prop, fLs l k ↔ k l := by
  induction l with
  | nil => intro k; exact Iff.rfl
  | cons a r ih => intro k; unfold fLs; exact ih _
theorem lkN_mem {α : Type _} {l : List (Nat × α)} {n : Nat} {b : α} (h : lkN l n = some b) : (n, b) ∈ l := by
  induction l with
  | nil => cases h
  | cons q r ih =>
    obtain ⟨a, v⟩ := q
    unfold lkN at h
    cases hb : Nat.beq n a with
    | true =>
      rw [hb] at h
      have : n = a := Nat.eq_of_beq_eq_true hb
      cases h
      rw [this]
      exact List.mem_cons_self
    | false =>
      rw [hb] at h
      exact List.mem_cons_of_mem _ (ih h)
theorem sv1_len (lc : Lc) : ∀ (k : Nat) (v : AV), (sv1 lc k v).length = lc.length := by
  induction lc with
  | nil => intro k v; unfold sv1; rfl
  | cons a r ih =>
    intro k v
    match k with
    | 0 => simp [sv1]
    | 1 => rcases a with _ | (x | x | x) <;> simp [sv1, ih]
    | k + 2 => simp [sv1, ih]
theorem sv1_at (lc : Lc) : ∀ (k j : Nat) (v w : AV), (sv1 lc k v)[j]? = some (some w) → (j = k ∧ w = v) ∨ (j ≠ k ∧ lc[j]? = some (some w) ∧ (j + 1 = k → isLng (some w) = false)) := by
  induction lc with
  | nil => intro k j v w h; simp [sv1] at h
  | cons a r ih =>
    intro k j v w h
    match k, j with
    | 0, 0 => simp [sv1] at h; exact Or.inl ⟨rfl, h.symm⟩
    | 0, j + 1 => simp [sv1] at h; exact Or.inr ⟨by omega, by simpa using h, fun e => by omega⟩
    | 1, 0 =>
      rcases a with _ | (x | x | x)
      · simp [sv1] at h
      · simp [sv1] at h; subst h; exact Or.inr ⟨by omega, by simp, fun _ => rfl⟩
      · simp [sv1] at h
      · simp [sv1] at h; subst h; exact Or.inr ⟨by omega, by simp, fun _ => rfl⟩
    | 1, j + 1 =>
      have h : (sv1 r 0 v)[j]? = some (some w) := by rcases a with _ | (x | x | x) <;> simpa [sv1] using h
      rcases ih 0 j v w h with ⟨h1, h2⟩ | ⟨h1, h2, h3⟩
      · exact Or.inl ⟨by omega, h2⟩
      · exact Or.inr ⟨by omega, by simpa using h2, fun e => h3 (by omega)⟩
    | k + 2, 0 =>
      simp [sv1] at h
      subst h
      exact Or.inr ⟨by omega, by simp, fun e => by omega⟩
    | k + 2, j + 1 =>
      simp only [sv1, List.getElem?_cons_succ] at h
      rcases ih (k + 1) j v w h with ⟨h1, h2⟩ | ⟨h1, h2, h3⟩
      · exact Or.inl ⟨by omega, h2⟩
      · exact Or.inr ⟨by omega, by simpa using h2, fun e => h3 (by omega)⟩
theorem sv2_len (lc : Lc) : ∀ (k : Nat) (v : AV), (sv2 lc k v).length = lc.length := by
  induction lc with
  | nil => intro k v; unfold sv2; rfl
  | cons a r ih =>
    intro k v
    match k with
    | 0 => cases r <;> simp [sv2]
    | 1 => rcases a with _ | (x | x | x) <;> simp [sv2, ih]
    | k + 2 => simp [sv2, ih]
theorem sv2_at (lc : Lc) : ∀ (k j : Nat) (v w : AV), (sv2 lc k v)[j]? = some (some w) → (j = k ∧ w = v) ∨ (j ≠ k ∧ j ≠ k + 1 ∧ lc[j]? = some (some w) ∧ (j + 1 = k → isLng (some w) = false)) := by
  induction lc with
  | nil => intro k j v w h; simp [sv2] at h
  | cons a r ih =>
    intro k j v w h
    match k, j with
    | 0, 0 => cases r <;> (simp [sv2] at h; exact Or.inl ⟨rfl, h.symm⟩)
    | 0, 1 => cases r <;> simp [sv2] at h
    | 0, j + 2 =>
      cases r with
      | nil => simp [sv2] at h
      | cons b r => simp [sv2] at h; exact Or.inr ⟨by omega, by omega, by simpa using h, fun e => by omega⟩
    | 1, 0 =>
      rcases a with _ | (x | x | x)
      · simp [sv2] at h
      · simp [sv2] at h; subst h; exact Or.inr ⟨by omega, by omega, by simp, fun _ => rfl⟩
      · simp [sv2] at h
      · simp [sv2] at h; subst h; exact Or.inr ⟨by omega, by omega, by simp, fun _ => rfl⟩
    | 1, j + 1 =>
      have h : (sv2 r 0 v)[j]? = some (some w) := by rcases a with _ | (x | x | x) <;> simpa [sv2] using h
      rcases ih 0 j v w h with ⟨h1, h2⟩ | ⟨h1, h2, h3, h4⟩
      · exact Or.inl ⟨by omega, h2⟩
      · exact Or.inr ⟨by omega, by omega, by simpa using h3, fun e => h4 (by omega)⟩
    | k + 2, 0 =>
      simp [sv2] at h
      subst h
      exact Or.inr ⟨by omega, by omega, by simp, fun e => by omega⟩
    | k + 2, j + 1 =>
      simp only [sv2, List.getElem?_cons_succ] at h
      rcases ih (k + 1) j v w h with ⟨h1, h2⟩ | ⟨h1, h2, h3, h4⟩
      · exact Or.inl ⟨by omega, h2⟩
      · exact Or.inr ⟨by omega, by omega, by simpa using h3, fun e => h4 (by omega)⟩
theorem cvF_cat {Z : ZT} {w : AV} (h : isLng (some w) = false) : (cvF Z w).category = 1 := by
  match w, h with
  | .inl x, _ => rfl
  | .inr (.inr o), _ => rfl
/-- the machine's variables hold the listed ones -/
def LH (Z : ZT) (ls : Array Slot) (nL : Nat) (lc : Lc) : Prop := lc.length = nL ∧ ∃ lv : List (Nat × Value), lv_has ls nL lv ∧ ∀ (j : Nat) (w : AV), lc[j]? = some (some w) → (j, cvF Z w) ∈ lv
theorem LH.get {Z : ZT} {ls : Array Slot} {nL : Nat} {lc : Lc} (h : LH Z ls nL lc) {j : Nat} {w : AV} (hj : lc[j]? = some (some w)) : ls[j]? = some (.val (cvF Z w)) := by
  obtain ⟨-, lv, h1, h2⟩ := h
  exact h1.2.2 _ (h2 j w hj)
theorem LH.one {Z : ZT} {ls' : Array Slot} {nL : Nat} {lc : Lc} {k : Nat} {v : AV} {lv : List (Nat × Value)} (hlen : lc.length = nL) (h2 : ∀ (j : Nat) (w : AV), lc[j]? = some (some w) → (j, cvF Z w) ∈ lv)
    (h : lv_has ls' nL ((k, cvF Z v) :: lv.filter (fun q => !(q.1 == k) && !(q.1 + 1 == k && q.2.category == 2)))) : LH Z ls' nL (sv1 lc k v) := by
  refine ⟨by rw [sv1_len]; exact hlen, _, h, fun j w hj => ?_⟩
  rcases sv1_at lc k j v w hj with ⟨a1, a2⟩ | ⟨a1, a2, a3⟩
  · subst a1; subst a2
    exact List.mem_cons_self
  · refine List.mem_cons_of_mem _ (List.mem_filter.mpr ⟨h2 j w a2, ?_⟩)
    by_cases hk : j + 1 = k
    · have := cvF_cat (Z := Z) (a3 hk)
      simp [a1, this]
    · simp [a1, hk]
theorem LH.two {Z : ZT} {ls' : Array Slot} {nL : Nat} {lc : Lc} {k : Nat} {v : AV} {lv : List (Nat × Value)} (hlen : lc.length = nL) (h2 : ∀ (j : Nat) (w : AV), lc[j]? = some (some w) → (j, cvF Z w) ∈ lv)
    (h : lv_has ls' nL ((k, cvF Z v) :: lv.filter (fun q => !(q.1 == k) && (!(q.1 == k + 1) && !(q.1 + 1 == k && q.2.category == 2))))) : LH Z ls' nL (sv2 lc k v) := by
  refine ⟨by rw [sv2_len]; exact hlen, _, h, fun j w hj => ?_⟩
  rcases sv2_at lc k j v w hj with ⟨a1, a2⟩ | ⟨a1, a4, a2, a3⟩
  · subst a1; subst a2
    exact List.mem_cons_self
  · refine List.mem_cons_of_mem _ (List.mem_filter.mpr ⟨h2 j w a2, ?_⟩)
    by_cases hk : j + 1 = k
    · have := cvF_cat (Z := Z) (a3 hk)
      simp [a1, a4, this]
    · simp [a1, a4, hk]
/-! numbers -/
theorem inR_to {x : Int} (h : inR x) : (Int32.ofInt x).toInt = x := Int32.toInt_ofInt_of_le (by have := h.1; omega) (by have := h.2; omega)
theorem inL_to {x : Int} (h : inL x) : (Int64.ofInt x).toInt = x := Int64.toInt_ofInt_of_le (by have := h.1; omega) (by have := h.2; omega)
theorem inR_inj {x y : Int} (hx : inR x) (hy : inR y) : Int32.ofInt x = Int32.ofInt y ↔ x = y := by rw [← Int32.toInt_inj, inR_to hx, inR_to hy]
theorem inR_lt {x y : Int} (hx : inR x) (hy : inR y) : Int32.ofInt x < Int32.ofInt y ↔ x < y := by rw [Int32.lt_iff_toInt_lt, inR_to hx, inR_to hy]
theorem inR_le {x y : Int} (hx : inR x) (hy : inR y) : Int32.ofInt x ≤ Int32.ofInt y ↔ x ≤ y := by rw [Int32.le_iff_toInt_le, inR_to hx, inR_to hy]
theorem inR_0 : inR 0 := ⟨by omega, by omega⟩
theorem inR_div {x y : Int} (hx : inR x) (hy : inR y) (h0 : 0 ≤ x) (h1 : 0 < y) : Int32.ofInt x / Int32.ofInt y = Int32.ofInt (x / y) := by
  have h2 : 0 ≤ x / y := Int.ediv_nonneg h0 (by omega)
  have h3 : x / y ≤ x := Int.ediv_le_self _ h0
  have h4 : inR (x / y) := ⟨by omega, by have := hx.2; omega⟩
  rw [← Int32.toInt_inj, Int32.toInt_div_of_ne_right, inR_to hx, inR_to hy, inR_to h4, Int.tdiv_eq_ediv_of_nonneg h0]
  intro he
  have : y = -1 := (inR_inj hy (show inR (-1) from ⟨by omega, by omega⟩)).mp he
  omega
theorem inR_rem {x y : Int} (hx : inR x) (hy : inR y) (h0 : 0 ≤ x) (h1 : 0 < y) : Int32.ofInt x - Int32.ofInt x / Int32.ofInt y * Int32.ofInt y = Int32.ofInt (x % y) := by
  rw [inR_div hx hy h0 h1, ← Int32.ofInt_mul, ← Int32.ofInt_sub]
  congr 1
  rw [Int.emod_def, Int.mul_comm]
theorem inL_div {x y : Int} (hx : inL x) (hy : inL y) (h0 : 0 ≤ x) (h1 : 0 < y) : Int64.ofInt x / Int64.ofInt y = Int64.ofInt (x / y) := by
  have h2 : 0 ≤ x / y := Int.ediv_nonneg h0 (by omega)
  have h3 : x / y ≤ x := Int.ediv_le_self _ h0
  have h4 : inL (x / y) := ⟨by omega, by have := hx.2; omega⟩
  rw [← Int64.toInt_inj, Int64.toInt_div_of_ne_right, inL_to hx, inL_to hy, inL_to h4, Int.tdiv_eq_ediv_of_nonneg h0]
  intro he
  have : (Int64.ofInt y).toInt = (-1 : Int64).toInt := by rw [he]
  rw [inL_to hy] at this
  have h9 : (-1 : Int64).toInt = -1 := by decide
  omega
theorem inL_rem {x y : Int} (hx : inL x) (hy : inL y) (h0 : 0 ≤ x) (h1 : 0 < y) : Int64.ofInt x - Int64.ofInt x / Int64.ofInt y * Int64.ofInt y = Int64.ofInt (x % y) := by
  rw [inL_div hx hy h0 h1, ← Int64.ofInt_mul, ← Int64.ofInt_sub]
  congr 1
  rw [Int.emod_def, Int.mul_comm]
theorem sh_cnt : ∀ n : Nat, n < 32 → ((Int32.ofNat n &&& 31).toBitVec.smod 32).toNat = n := by decide +kernel
theorem sh_of {y : Int} (h0 : 0 ≤ y) : Int32.ofInt y = Int32.ofNat y.toNat := by
  rw [← Int32.ofInt_eq_ofNat]
  congr 1
  omega
theorem inR_shl {x y : Int} (h0 : 0 ≤ y) (h1 : y < 32) : Int32.ofInt x <<< (Int32.ofInt y &&& 31) = Int32.ofInt (x * 2 ^ y.toNat) := by
  have hs : ((Int32.ofInt y &&& 31).toBitVec.smod 32).toNat = y.toNat := by rw [sh_of h0]; exact sh_cnt _ (by omega)
  apply Int32.toBitVec.inj
  apply BitVec.eq_of_toNat_eq
  rw [pk_shl _ _ _ hs]
  have e1 : (Int32.ofInt (x * 2 ^ y.toNat)).toBitVec = BitVec.ofInt 32 (x * 2 ^ y.toNat) := rfl
  have e2 : (Int32.ofInt x).toBitVec = BitVec.ofInt 32 x := rfl
  rw [e1, e2, BitVec.toNat_ofInt, BitVec.toNat_ofInt]
  have hz : ∀ a : Int, ((a % ((2 ^ 32 : Nat) : Int)).toNat : Int) = a % ((2 ^ 32 : Nat) : Int) := fun a => Int.toNat_of_nonneg (Int.emod_nonneg _ (by decide))
  apply Int.ofNat.inj
  show (((x % ((2 ^ 32 : Nat) : Int)).toNat * 2 ^ y.toNat % 2 ^ 32 : Nat) : Int) = (((x * 2 ^ y.toNat) % ((2 ^ 32 : Nat) : Int)).toNat : Int)
  rw [hz, Int.natCast_emod, Int.natCast_mul, hz]
  have : ((2 ^ y.toNat : Nat) : Int) = (2 : Int) ^ y.toNat := by simp
  rw [this, Int.mul_emod (x % _), Int.emod_emod, ← Int.mul_emod]
theorem inR_shr {x y : Int} (hx : inR x) (h0 : 0 ≤ y) (h1 : y < 32) : Int32.ofInt x >>> (Int32.ofInt y &&& 31) = Int32.ofInt (x / 2 ^ y.toNat) := by
  have hs : ((Int32.ofInt y &&& 31).toBitVec.smod 32).toNat = y.toNat := by rw [sh_of h0]; exact sh_cnt _ (by omega)
  rw [← Int32.toInt_inj, pk_shr _ _ _ hs, inR_to hx, Int.shiftRight_eq_div_pow]
  have hp : (0 : Int) < 2 ^ y.toNat := Int.pow_pos (by omega)
  have h4 : inR (x / 2 ^ y.toNat) := by
    constructor
    · have : x / 2 ^ y.toNat ≥ x ∨ x / 2 ^ y.toNat ≥ 0 := by
        by_cases hn : 0 ≤ x
        · exact Or.inr (Int.ediv_nonneg hn (by omega))
        · left
          have := Int.le_ediv_of_mul_le hp (show x * 2 ^ y.toNat ≤ x from by
            have h9 : (1 : Int) ≤ 2 ^ y.toNat := hp
            have := Int.mul_le_mul_of_nonpos_left (show x ≤ 0 by omega) h9
            omega)
          exact this
      have := hx.1
      omega
    · have : x / 2 ^ y.toNat ≤ x ∨ x / 2 ^ y.toNat < 1 := by
        by_cases hn : 0 ≤ x
        · exact Or.inl (Int.ediv_le_self _ hn)
        · right
          have := Int.ediv_neg_of_neg_of_pos (show x < 0 by omega) hp
          omega
      have := hx.2
      omega
  rw [inR_to h4]
  simp
end
section
/-! ===== the machine's judgement over the memory ===== -/
def AW (p : Program) (l : Launch) (e : Env) (R : Room) (s : State) (m : MethodId) (args : Array Value) (below : List Frame) (meth : Method) (c : Code) (nL : Nat) (Z : ZT) (Q : State → Prop) : Kt := fun pc lc st M =>
  ∀ (H : Heap) (locs : List Loc) (ls : Array Slot), LH Z ls nL lc → va_P Z.1 vwCl (wldF Z M) H → va_S (zB Z) s.heap H locs → W p l e R s m args below meth c H locs 0 0 Q (F0 m pc ls (st.map (cvF Z)))
/-- what stays during a method -/
def CX (p : Program) (s : State) (m : MethodId) (args : Array Value) (c : Code) (cc : ByteArray) (nL : Nat) (own : String) (Ts : List Jvm.Cond) (Z : ZT) : Prop :=
  p.tables.exec = Jvm.exec ∧ c.code = cc ∧ c.maxLocals = nL ∧ s.vm.findClass own = some m.cls ∧ (∀ w ∈ Ts, w.before args s = true) ∧ va_K Z.1 vwCl (zT Z) s ∧ adOk Z
section SND
variable {p : Program} {l : Launch} {e : Env} {R : Room} {s : State} {m : MethodId} {args : Array Value} {below : List Frame} {meth : Method} {c : Code} {Q : State → Prop} {cc : ByteArray} {nL : Nat} {own : String} {Ts : List Jvm.Cond} {Z : ZT}
variable {pc : Nat} {lc : Lc} {st : List AV} {M : Mem}
theorem aw_iconst (X : CX p s m args c cc nL own Ts Z) {v : Int} (hd : decode cc pc = .ok (.iconst v, 1)) (h : AW p l e R s m args below meth c nL Z Q (pc + 1) lc (.inl v :: st) M) : AW p l e R s m args below meth c nL Z Q pc lc st M := by
  intro H locs ls hl hP hS
  exact lv_iconst X.1 X.2.1 hd rfl (h H locs ls hl hP hS)
theorem aw_bipush (X : CX p s m args c cc nL own Ts Z) {v : Int} (h1 : -128 ≤ v) (h2 : v < 128) (hd : decode cc pc = .ok (.bipush v, 2)) (h : AW p l e R s m args below meth c nL Z Q (pc + 2) lc (.inl v :: st) M) : AW p l e R s m args below meth c nL Z Q pc lc st M := by
  intro H locs ls hl hP hS
  refine lv_bipush X.1 X.2.1 hd (v := Int32.ofInt v) ?_ (h H locs ls hl hP hS)
  rw [← Int32.ofInt_int8ToInt, Int8.toInt_ofInt_of_le (by omega) (by omega)]
theorem aw_sipush (X : CX p s m args c cc nL own Ts Z) {v : Int} (h1 : -32768 ≤ v) (h2 : v < 32768) (hd : decode cc pc = .ok (.sipush v, 3)) (h : AW p l e R s m args below meth c nL Z Q (pc + 3) lc (.inl v :: st) M) : AW p l e R s m args below meth c nL Z Q pc lc st M := by
  intro H locs ls hl hP hS
  refine lv_sipush X.1 X.2.1 hd (v := Int32.ofInt v) ?_ (h H locs ls hl hP hS)
  rw [← Int32.ofInt_int16ToInt, Int16.toInt_ofInt_of_le (by omega) (by omega)]
theorem aw_ldc (X : CX p s m args c cc nL own Ts Z) {ix : Nat} {v : Int} (hw : Jvm.Cond.constant own ix (Int32.ofInt v) ∈ Ts) (hd : decode cc pc = .ok (.ldc ix, 2)) (h : AW p l e R s m args below meth c nL Z Q (pc + 2) lc (.inl v :: st) M) : AW p l e R s m args below meth c nL Z Q pc lc st M := by
  intro H locs ls hl hP hS
  exact lv_ldc X.1 X.2.1 X.2.2.2.1 (X.2.2.2.2.1 _ hw) hd (h H locs ls hl hP hS)
theorem aw_ldcw (X : CX p s m args c cc nL own Ts Z) {ix : Nat} {v : Int} (hw : Jvm.Cond.constant own ix (Int32.ofInt v) ∈ Ts) (hd : decode cc pc = .ok (.ldc_w ix, 3)) (h : AW p l e R s m args below meth c nL Z Q (pc + 3) lc (.inl v :: st) M) : AW p l e R s m args below meth c nL Z Q pc lc st M := by
  intro H locs ls hl hP hS
  exact lv_ldcw X.1 X.2.1 X.2.2.2.1 (X.2.2.2.2.1 _ hw) hd (h H locs ls hl hP hS)
theorem aw_ldc2 (X : CX p s m args c cc nL own Ts Z) {ix : Nat} {v : Int} (hw : Jvm.Cond.constantLong own ix (Int64.ofInt v) ∈ Ts) (hd : decode cc pc = .ok (.ldc2_w ix, 3)) (h : AW p l e R s m args below meth c nL Z Q (pc + 3) lc (.inr (.inl v) :: st) M) : AW p l e R s m args below meth c nL Z Q pc lc st M := by
  intro H locs ls hl hP hS
  exact lv_ldc2 X.1 X.2.1 X.2.2.2.1 (X.2.2.2.2.1 _ hw) hd (h H locs ls hl hP hS)
theorem aw_lconst (X : CX p s m args c cc nL own Ts Z) {v : Fin 2} (hd : decode cc pc = .ok (.lconst v, 1)) (h : AW p l e R s m args below meth c nL Z Q (pc + 1) lc (.inr (.inl (v.val : Int)) :: st) M) : AW p l e R s m args below meth c nL Z Q pc lc st M := by
  intro H locs ls hl hP hS
  exact lv_lconst X.1 X.2.1 hd Int64.ofInt_eq_ofNat.symm (h H locs ls hl hP hS)
theorem aw_iload (X : CX p s m args c cc nL own Ts Z) {k : Nat} {x : Int} (hk : lc[k]? = some (some (.inl x))) (hd : decode cc pc = .ok (.iload k, 2)) (h : AW p l e R s m args below meth c nL Z Q (pc + 2) lc (.inl x :: st) M) : AW p l e R s m args below meth c nL Z Q pc lc st M := by
  intro H locs ls hl hP hS
  exact lv_iload X.1 X.2.1 hd (hl.get hk) (h H locs ls hl hP hS)
theorem aw_iload_n (X : CX p s m args c cc nL own Ts Z) {k : Fin 4} {x : Int} (hk : lc[k.val]? = some (some (.inl x))) (hd : decode cc pc = .ok (.iload_n k, 1)) (h : AW p l e R s m args below meth c nL Z Q (pc + 1) lc (.inl x :: st) M) : AW p l e R s m args below meth c nL Z Q pc lc st M := by
  intro H locs ls hl hP hS
  exact lv_iload_n X.1 X.2.1 hd rfl (hl.get hk) (h H locs ls hl hP hS)
theorem aw_lload (X : CX p s m args c cc nL own Ts Z) {k : Nat} {x : Int} (hk : lc[k]? = some (some (.inr (.inl x)))) (hd : decode cc pc = .ok (.lload k, 2)) (h : AW p l e R s m args below meth c nL Z Q (pc + 2) lc (.inr (.inl x) :: st) M) : AW p l e R s m args below meth c nL Z Q pc lc st M := by
  intro H locs ls hl hP hS
  exact lv_lload X.1 X.2.1 hd (hl.get hk) (h H locs ls hl hP hS)
theorem aw_lload_n (X : CX p s m args c cc nL own Ts Z) {k : Fin 4} {x : Int} (hk : lc[k.val]? = some (some (.inr (.inl x)))) (hd : decode cc pc = .ok (.lload_n k, 1)) (h : AW p l e R s m args below meth c nL Z Q (pc + 1) lc (.inr (.inl x) :: st) M) : AW p l e R s m args below meth c nL Z Q pc lc st M := by
  intro H locs ls hl hP hS
  exact lv_lload_n X.1 X.2.1 hd rfl (hl.get hk) (h H locs ls hl hP hS)
theorem aw_aload (X : CX p s m args c cc nL own Ts Z) {k : Nat} {x : Nat} (hk : lc[k]? = some (some (.inr (.inr x)))) (hd : decode cc pc = .ok (.aload k, 2)) (h : AW p l e R s m args below meth c nL Z Q (pc + 2) lc (.inr (.inr x) :: st) M) : AW p l e R s m args below meth c nL Z Q pc lc st M := by
  intro H locs ls hl hP hS
  exact lv_aload X.1 X.2.1 hd (hl.get hk) (h H locs ls hl hP hS)
theorem aw_aload_n (X : CX p s m args c cc nL own Ts Z) {k : Fin 4} {x : Nat} (hk : lc[k.val]? = some (some (.inr (.inr x)))) (hd : decode cc pc = .ok (.aload_n k, 1)) (h : AW p l e R s m args below meth c nL Z Q (pc + 1) lc (.inr (.inr x) :: st) M) : AW p l e R s m args below meth c nL Z Q pc lc st M := by
  intro H locs ls hl hP hS
  exact lv_aload_n X.1 X.2.1 hd rfl (hl.get hk) (h H locs ls hl hP hS)
theorem aw_istore (X : CX p s m args c cc nL own Ts Z) {k : Nat} {x : Int} (hn : k < nL) (hd : decode cc pc = .ok (.istore k, 2)) (h : AW p l e R s m args below meth c nL Z Q (pc + 2) (sv1 lc k (.inl x)) st M) : AW p l e R s m args below meth c nL Z Q pc lc (.inl x :: st) M := by
  intro H locs ls hl hP hS
  obtain ⟨hlen, lv, h1, h2⟩ := hl
  exact lv_istore X.1 X.2.1 hd h1 hn rfl (fun ls' hl' => h H locs ls' (LH.one hlen h2 hl') hP hS)
theorem aw_istore_n (X : CX p s m args c cc nL own Ts Z) {k : Fin 4} {x : Int} (hn : k.val < nL) (hd : decode cc pc = .ok (.istore_n k, 1)) (h : AW p l e R s m args below meth c nL Z Q (pc + 1) (sv1 lc k.val (.inl x)) st M) : AW p l e R s m args below meth c nL Z Q pc lc (.inl x :: st) M := by
  intro H locs ls hl hP hS
  obtain ⟨hlen, lv, h1, h2⟩ := hl
  exact lv_istore_n X.1 X.2.1 hd rfl h1 hn rfl (fun ls' hl' => h H locs ls' (LH.one hlen h2 hl') hP hS)
theorem aw_astore (X : CX p s m args c cc nL own Ts Z) {k : Nat} {x : Nat} (hn : k < nL) (hd : decode cc pc = .ok (.astore k, 2)) (h : AW p l e R s m args below meth c nL Z Q (pc + 2) (sv1 lc k (.inr (.inr x))) st M) : AW p l e R s m args below meth c nL Z Q pc lc (.inr (.inr x) :: st) M := by
  intro H locs ls hl hP hS
  obtain ⟨hlen, lv, h1, h2⟩ := hl
  exact lv_astore X.1 X.2.1 hd h1 hn rfl (fun ls' hl' => h H locs ls' (LH.one hlen h2 hl') hP hS)
theorem aw_astore_n (X : CX p s m args c cc nL own Ts Z) {k : Fin 4} {x : Nat} (hn : k.val < nL) (hd : decode cc pc = .ok (.astore_n k, 1)) (h : AW p l e R s m args below meth c nL Z Q (pc + 1) (sv1 lc k.val (.inr (.inr x))) st M) : AW p l e R s m args below meth c nL Z Q pc lc (.inr (.inr x) :: st) M := by
  intro H locs ls hl hP hS
  obtain ⟨hlen, lv, h1, h2⟩ := hl
  exact lv_astore_n X.1 X.2.1 hd rfl h1 hn rfl (fun ls' hl' => h H locs ls' (LH.one hlen h2 hl') hP hS)
theorem aw_lstore (X : CX p s m args c cc nL own Ts Z) {k : Nat} {x : Int} (hn : k + 1 < nL) (hd : decode cc pc = .ok (.lstore k, 2)) (h : AW p l e R s m args below meth c nL Z Q (pc + 2) (sv2 lc k (.inr (.inl x))) st M) : AW p l e R s m args below meth c nL Z Q pc lc (.inr (.inl x) :: st) M := by
  intro H locs ls hl hP hS
  obtain ⟨hlen, lv, h1, h2⟩ := hl
  exact lv_lstore X.1 X.2.1 hd h1 hn rfl (fun ls' hl' => h H locs ls' (LH.two hlen h2 hl') hP hS)
theorem aw_lstore_n (X : CX p s m args c cc nL own Ts Z) {k : Fin 4} {x : Int} (hn : k.val + 1 < nL) (hd : decode cc pc = .ok (.lstore_n k, 1)) (h : AW p l e R s m args below meth c nL Z Q (pc + 1) (sv2 lc k.val (.inr (.inl x))) st M) : AW p l e R s m args below meth c nL Z Q pc lc (.inr (.inl x) :: st) M := by
  intro H locs ls hl hP hS
  obtain ⟨hlen, lv, h1, h2⟩ := hl
  exact lv_lstore_n X.1 X.2.1 hd rfl h1 hn rfl (fun ls' hl' => h H locs ls' (LH.two hlen h2 hl') hP hS)
theorem aw_iinc (X : CX p s m args c cc nL own Ts Z) {k : Nat} {x n : Int} (hk : lc[k]? = some (some (.inl x))) (hn : k < nL) (hd : decode cc pc = .ok (.iinc k n, 3)) (h : AW p l e R s m args below meth c nL Z Q (pc + 3) (sv1 lc k (.inl (x + n))) st M) : AW p l e R s m args below meth c nL Z Q pc lc st M := by
  intro H locs ls hl hP hS
  obtain ⟨hlen, lv, h1, h2⟩ := hl
  obtain ⟨q, hq⟩ := List.getElem?_of_mem (h2 k _ hk)
  exact lv_iinc (v := Int32.ofInt (x + n)) X.1 X.2.1 hd h1 hq (Int32.ofInt_add _ _).symm hn rfl (fun ls' hl' => h H locs ls' (LH.one (v := .inl (x + n)) hlen h2 hl') hP hS)
theorem aw_iadd (X : CX p s m args c cc nL own Ts Z) {x y : Int} (hd : decode cc pc = .ok (.iadd, 1)) (h : AW p l e R s m args below meth c nL Z Q (pc + 1) lc (.inl (x + y) :: st) M) : AW p l e R s m args below meth c nL Z Q pc lc (.inl y :: .inl x :: st) M := by
  intro H locs ls hl hP hS
  have h := h H locs ls hl hP hS
  rw [List.map_cons, show cvF Z (.inl (x + y)) = .int (Int32.ofInt x + Int32.ofInt y) by rw [← Int32.ofInt_add]; rfl] at h
  exact lv_iadd X.1 X.2.1 hd h
theorem aw_isub (X : CX p s m args c cc nL own Ts Z) {x y : Int} (hd : decode cc pc = .ok (.isub, 1)) (h : AW p l e R s m args below meth c nL Z Q (pc + 1) lc (.inl (x - y) :: st) M) : AW p l e R s m args below meth c nL Z Q pc lc (.inl y :: .inl x :: st) M := by
  intro H locs ls hl hP hS
  have h := h H locs ls hl hP hS
  rw [List.map_cons, show cvF Z (.inl (x - y)) = .int (Int32.ofInt x - Int32.ofInt y) by rw [← Int32.ofInt_sub]; rfl] at h
  exact lv_isub X.1 X.2.1 hd h
theorem aw_imul (X : CX p s m args c cc nL own Ts Z) {x y : Int} (hd : decode cc pc = .ok (.imul, 1)) (h : AW p l e R s m args below meth c nL Z Q (pc + 1) lc (.inl (x * y) :: st) M) : AW p l e R s m args below meth c nL Z Q pc lc (.inl y :: .inl x :: st) M := by
  intro H locs ls hl hP hS
  have h := h H locs ls hl hP hS
  rw [List.map_cons, show cvF Z (.inl (x * y)) = .int (Int32.ofInt x * Int32.ofInt y) by rw [← Int32.ofInt_mul]; rfl] at h
  exact lv_imul X.1 X.2.1 hd h
theorem aw_iand (X : CX p s m args c cc nL own Ts Z) {x y : Int} (hd : decode cc pc = .ok (.iand, 1)) (h : AW p l e R s m args below meth c nL Z Q (pc + 1) lc (.inl (bAnd x y) :: st) M) : AW p l e R s m args below meth c nL Z Q pc lc (.inl y :: .inl x :: st) M := by
  intro H locs ls hl hP hS
  have h := h H locs ls hl hP hS
  rw [List.map_cons, show cvF Z (.inl (bAnd x y)) = .int (Int32.ofInt x &&& Int32.ofInt y) from congrArg Value.int (Int32.ofInt_toInt _)] at h
  exact lv_iand X.1 X.2.1 hd h
theorem aw_ior (X : CX p s m args c cc nL own Ts Z) {x y : Int} (hd : decode cc pc = .ok (.ior, 1)) (h : AW p l e R s m args below meth c nL Z Q (pc + 1) lc (.inl (bOr x y) :: st) M) : AW p l e R s m args below meth c nL Z Q pc lc (.inl y :: .inl x :: st) M := by
  intro H locs ls hl hP hS
  have h := h H locs ls hl hP hS
  rw [List.map_cons, show cvF Z (.inl (bOr x y)) = .int (Int32.ofInt x ||| Int32.ofInt y) from congrArg Value.int (Int32.ofInt_toInt _)] at h
  exact lv_ior X.1 X.2.1 hd h
theorem aw_ixor (X : CX p s m args c cc nL own Ts Z) {x y : Int} (hd : decode cc pc = .ok (.ixor, 1)) (h : AW p l e R s m args below meth c nL Z Q (pc + 1) lc (.inl (bXor x y) :: st) M) : AW p l e R s m args below meth c nL Z Q pc lc (.inl y :: .inl x :: st) M := by
  intro H locs ls hl hP hS
  have h := h H locs ls hl hP hS
  rw [List.map_cons, show cvF Z (.inl (bXor x y)) = .int (Int32.ofInt x ^^^ Int32.ofInt y) from congrArg Value.int (Int32.ofInt_toInt _)] at h
  exact lv_ixor X.1 X.2.1 hd h
theorem nz_of {y : Int} (hy : inR y) (h1 : 0 < y) : ¬ Int32.ofInt y = 0 := by
  intro he
  have : Int32.ofInt y = Int32.ofInt 0 := he
  rw [inR_inj hy inR_0] at this
  omega
theorem nzL_of {y : Int} (hy : inL y) (h1 : 0 < y) : ¬ Int64.ofInt y = 0 := by
  intro he
  have : (Int64.ofInt y).toInt = (0 : Int64).toInt := by rw [he]
  rw [inL_to hy] at this
  have h9 : (0 : Int64).toInt = 0 := by decide
  omega
theorem aw_idiv (X : CX p s m args c cc nL own Ts Z) {x y : Int} (hc : 0 ≤ x ∧ 0 < y ∧ inR x ∧ inR y) (hd : decode cc pc = .ok (.idiv, 1)) (h : AW p l e R s m args below meth c nL Z Q (pc + 1) lc (.inl (x / y) :: st) M) : AW p l e R s m args below meth c nL Z Q pc lc (.inl y :: .inl x :: st) M := by
  intro H locs ls hl hP hS
  have h := h H locs ls hl hP hS
  rw [List.map_cons, show cvF Z (.inl (x / y)) = .int (Int32.ofInt x / Int32.ofInt y) by rw [inR_div hc.2.2.1 hc.2.2.2 hc.1 hc.2.1]; rfl] at h
  exact lv_idiv X.1 X.2.1 hd (nz_of hc.2.2.2 hc.2.1) h
theorem aw_irem (X : CX p s m args c cc nL own Ts Z) {x y : Int} (hc : 0 ≤ x ∧ 0 < y ∧ inR x ∧ inR y) (hd : decode cc pc = .ok (.irem, 1)) (h : AW p l e R s m args below meth c nL Z Q (pc + 1) lc (.inl (x % y) :: st) M) : AW p l e R s m args below meth c nL Z Q pc lc (.inl y :: .inl x :: st) M := by
  intro H locs ls hl hP hS
  have h := h H locs ls hl hP hS
  rw [List.map_cons, show cvF Z (.inl (x % y)) = .int (Int32.ofInt x - Int32.ofInt x / Int32.ofInt y * Int32.ofInt y) by rw [inR_rem hc.2.2.1 hc.2.2.2 hc.1 hc.2.1]; rfl] at h
  exact lv_irem X.1 X.2.1 hd (nz_of hc.2.2.2 hc.2.1) h
theorem aw_ishl (X : CX p s m args c cc nL own Ts Z) {x y : Int} (hc : 0 ≤ y ∧ y < 32) (hd : decode cc pc = .ok (.ishl, 1)) (h : AW p l e R s m args below meth c nL Z Q (pc + 1) lc (.inl (x * 2 ^ y.toNat) :: st) M) : AW p l e R s m args below meth c nL Z Q pc lc (.inl y :: .inl x :: st) M := by
  intro H locs ls hl hP hS
  have h := h H locs ls hl hP hS
  rw [List.map_cons, show cvF Z (.inl (x * 2 ^ y.toNat)) = .int (Int32.ofInt x <<< (Int32.ofInt y &&& 31)) by rw [inR_shl hc.1 hc.2]; rfl] at h
  exact lv_ishl X.1 X.2.1 hd h
theorem aw_ishr (X : CX p s m args c cc nL own Ts Z) {x y : Int} (hc : inR x ∧ 0 ≤ y ∧ y < 32) (hd : decode cc pc = .ok (.ishr, 1)) (h : AW p l e R s m args below meth c nL Z Q (pc + 1) lc (.inl (x / 2 ^ y.toNat) :: st) M) : AW p l e R s m args below meth c nL Z Q pc lc (.inl y :: .inl x :: st) M := by
  intro H locs ls hl hP hS
  have h := h H locs ls hl hP hS
  rw [List.map_cons, show cvF Z (.inl (x / 2 ^ y.toNat)) = .int (Int32.ofInt x >>> (Int32.ofInt y &&& 31)) by rw [inR_shr hc.1 hc.2.1 hc.2.2]; rfl] at h
  exact lv_ishr X.1 X.2.1 hd h
theorem shu_cnt : ∀ n : Nat, n < 32 → (((Int32.ofNat n).toUInt32 &&& Int32.toUInt32 31).toBitVec % 32).toNat = n := by decide +kernel
theorem aw_iushr (X : CX p s m args c cc nL own Ts Z) {x y : Int} (hc : inR x ∧ 0 ≤ x ∧ 0 ≤ y ∧ y < 32) (hd : decode cc pc = .ok (.iushr, 1)) (h : AW p l e R s m args below meth c nL Z Q (pc + 1) lc (.inl (x / 2 ^ y.toNat) :: st) M) : AW p l e R s m args below meth c nL Z Q pc lc (.inl y :: .inl x :: st) M := by
  intro H locs ls hl hP hS
  refine lv_iushr X.1 X.2.1 hd (v := Int32.ofInt (x / 2 ^ y.toNat)) ?_ (h H locs ls hl hP hS)
  have e1 : Int32.ofInt x = nI x.toNat := sh_of hc.2.1
  rw [e1, sh_of hc.2.2.1, pk_ushrN (n := x.toNat) (by have := hc.1.2; omega) _ y.toNat (shu_cnt _ (by omega))]
  have e2 : (x / 2 ^ y.toNat) = ((x.toNat / 2 ^ y.toNat : Nat) : Int) := by
    rw [Int.natCast_ediv, Int.toNat_of_nonneg hc.2.1]
    simp
  rw [e2, Int32.ofInt_eq_ofNat]
  rfl
theorem aw_ineg (X : CX p s m args c cc nL own Ts Z) {x : Int} (hd : decode cc pc = .ok (.ineg, 1)) (h : AW p l e R s m args below meth c nL Z Q (pc + 1) lc (.inl (-x) :: st) M) : AW p l e R s m args below meth c nL Z Q pc lc (.inl x :: st) M := by
  intro H locs ls hl hP hS
  have h := h H locs ls hl hP hS
  rw [List.map_cons, show cvF Z (.inl (-x)) = .int (-Int32.ofInt x) by rw [← Int32.ofInt_neg]; rfl] at h
  exact lv_ineg X.1 X.2.1 hd h
theorem aw_ladd (X : CX p s m args c cc nL own Ts Z) {x y : Int} (hd : decode cc pc = .ok (.ladd, 1)) (h : AW p l e R s m args below meth c nL Z Q (pc + 1) lc (.inr (.inl (x + y)) :: st) M) : AW p l e R s m args below meth c nL Z Q pc lc (.inr (.inl y) :: .inr (.inl x) :: st) M := by
  intro H locs ls hl hP hS
  have h := h H locs ls hl hP hS
  rw [List.map_cons, show cvF Z (.inr (.inl (x + y))) = .long (Int64.ofInt x + Int64.ofInt y) by rw [← Int64.ofInt_add]; rfl] at h
  exact lv_ladd X.1 X.2.1 hd h
theorem aw_lsub (X : CX p s m args c cc nL own Ts Z) {x y : Int} (hd : decode cc pc = .ok (.lsub, 1)) (h : AW p l e R s m args below meth c nL Z Q (pc + 1) lc (.inr (.inl (x - y)) :: st) M) : AW p l e R s m args below meth c nL Z Q pc lc (.inr (.inl y) :: .inr (.inl x) :: st) M := by
  intro H locs ls hl hP hS
  have h := h H locs ls hl hP hS
  rw [List.map_cons, show cvF Z (.inr (.inl (x - y))) = .long (Int64.ofInt x - Int64.ofInt y) by rw [← Int64.ofInt_sub]; rfl] at h
  exact lv_lsub X.1 X.2.1 hd h
theorem aw_lmul (X : CX p s m args c cc nL own Ts Z) {x y : Int} (hd : decode cc pc = .ok (.lmul, 1)) (h : AW p l e R s m args below meth c nL Z Q (pc + 1) lc (.inr (.inl (x * y)) :: st) M) : AW p l e R s m args below meth c nL Z Q pc lc (.inr (.inl y) :: .inr (.inl x) :: st) M := by
  intro H locs ls hl hP hS
  have h := h H locs ls hl hP hS
  rw [List.map_cons, show cvF Z (.inr (.inl (x * y))) = .long (Int64.ofInt x * Int64.ofInt y) by rw [← Int64.ofInt_mul]; rfl] at h
  exact lv_lmul X.1 X.2.1 hd h
theorem aw_ldiv (X : CX p s m args c cc nL own Ts Z) {x y : Int} (hc : 0 ≤ x ∧ 0 < y ∧ inL x ∧ inL y) (hd : decode cc pc = .ok (.ldiv, 1)) (h : AW p l e R s m args below meth c nL Z Q (pc + 1) lc (.inr (.inl (x / y)) :: st) M) : AW p l e R s m args below meth c nL Z Q pc lc (.inr (.inl y) :: .inr (.inl x) :: st) M := by
  intro H locs ls hl hP hS
  have h := h H locs ls hl hP hS
  rw [List.map_cons, show cvF Z (.inr (.inl (x / y))) = .long (Int64.ofInt x / Int64.ofInt y) by rw [inL_div hc.2.2.1 hc.2.2.2 hc.1 hc.2.1]; rfl] at h
  exact lv_ldiv X.1 X.2.1 hd (nzL_of hc.2.2.2 hc.2.1) h
theorem aw_lrem (X : CX p s m args c cc nL own Ts Z) {x y : Int} (hc : 0 ≤ x ∧ 0 < y ∧ inL x ∧ inL y) (hd : decode cc pc = .ok (.lrem, 1)) (h : AW p l e R s m args below meth c nL Z Q (pc + 1) lc (.inr (.inl (x % y)) :: st) M) : AW p l e R s m args below meth c nL Z Q pc lc (.inr (.inl y) :: .inr (.inl x) :: st) M := by
  intro H locs ls hl hP hS
  have h := h H locs ls hl hP hS
  rw [List.map_cons, show cvF Z (.inr (.inl (x % y))) = .long (Int64.ofInt x - Int64.ofInt x / Int64.ofInt y * Int64.ofInt y) by rw [inL_rem hc.2.2.1 hc.2.2.2 hc.1 hc.2.1]; rfl] at h
  exact lv_lrem X.1 X.2.1 hd (nzL_of hc.2.2.2 hc.2.1) h
theorem aw_lneg (X : CX p s m args c cc nL own Ts Z) {x : Int} (hd : decode cc pc = .ok (.lneg, 1)) (h : AW p l e R s m args below meth c nL Z Q (pc + 1) lc (.inr (.inl (-x)) :: st) M) : AW p l e R s m args below meth c nL Z Q pc lc (.inr (.inl x) :: st) M := by
  intro H locs ls hl hP hS
  have h := h H locs ls hl hP hS
  rw [List.map_cons, show cvF Z (.inr (.inl (-x))) = .long (-Int64.ofInt x) by rw [← Int64.ofInt_neg]; rfl] at h
  exact lv_lneg X.1 X.2.1 hd h
theorem lc3_of {x y : Int} (hx : inL x) (hy : inL y) : lg_cmp (Int64.ofInt x) (Int64.ofInt y) = Int32.ofInt (lc3 x y) := by
  unfold lg_cmp lc3
  have e1 : (Int64.ofInt x > Int64.ofInt y) ↔ y < x := by
    show Int64.ofInt y < Int64.ofInt x ↔ _
    rw [Int64.lt_iff_toInt_lt, inL_to hx, inL_to hy]
  have e2 : Int64.ofInt x = Int64.ofInt y ↔ x = y := by rw [← Int64.toInt_inj, inL_to hx, inL_to hy]
  by_cases h1 : y < x
  · rw [if_pos (e1.mpr h1), if_pos h1]; rfl
  · rw [if_neg (fun h => h1 (e1.mp h)), if_neg h1]
    by_cases h2 : x = y
    · rw [if_pos (e2.mpr h2), if_pos h2]; rfl
    · rw [if_neg (fun h => h2 (e2.mp h)), if_neg h2]; rfl
theorem aw_lcmp (X : CX p s m args c cc nL own Ts Z) {x y : Int} (hc : inL x ∧ inL y) (hd : decode cc pc = .ok (.lcmp, 1)) (h : AW p l e R s m args below meth c nL Z Q (pc + 1) lc (.inl (lc3 x y) :: st) M) : AW p l e R s m args below meth c nL Z Q pc lc (.inr (.inl y) :: .inr (.inl x) :: st) M := by
  intro H locs ls hl hP hS
  have h := h H locs ls hl hP hS
  rw [List.map_cons, show cvF Z (.inl (lc3 x y)) = .int (lg_cmp (Int64.ofInt x) (Int64.ofInt y)) by rw [lc3_of hc.1 hc.2]; rfl] at h
  exact W.lcmp X.1 X.2.1 hd h
theorem aw_i2l (X : CX p s m args c cc nL own Ts Z) {x : Int} (hc : inR x) (hd : decode cc pc = .ok (.i2l, 1)) (h : AW p l e R s m args below meth c nL Z Q (pc + 1) lc (.inr (.inl x) :: st) M) : AW p l e R s m args below meth c nL Z Q pc lc (.inl x :: st) M := by
  intro H locs ls hl hP hS
  refine lv_i2l X.1 X.2.1 hd (v := Int64.ofInt x) ?_ (h H locs ls hl hP hS)
  rw [← Int64.toInt_inj, Int32.toInt_toInt64, inR_to hc, inL_to ⟨by have := hc.1; omega, by have := hc.2; omega⟩]
theorem aw_l2i (X : CX p s m args c cc nL own Ts Z) {x : Int} (hd : decode cc pc = .ok (.l2i, 1)) (h : AW p l e R s m args below meth c nL Z Q (pc + 1) lc (.inl x :: st) M) : AW p l e R s m args below meth c nL Z Q pc lc (.inr (.inl x) :: st) M := by
  intro H locs ls hl hP hS
  exact lv_l2i X.1 X.2.1 hd (v := Int32.ofInt x) Int64.toInt32_ofInt (h H locs ls hl hP hS)
theorem shl_cnt : ∀ n : Nat, n < 64 → (((Int32.ofNat n).toInt64 &&& 63).toBitVec.smod 64).toNat = n := by decide +kernel
theorem inL_shr {x y : Int} (hx : inL x) (h0 : 0 ≤ y) (h1 : y < 64) : Int64.ofInt x >>> ((Int32.ofInt y).toInt64 &&& 63) = Int64.ofInt (x / 2 ^ y.toNat) := by
  have hs : (((Int32.ofInt y).toInt64 &&& 63).toBitVec.smod 64).toNat = y.toNat := by rw [sh_of h0]; exact shl_cnt _ (by omega)
  have hp : (0 : Int) < 2 ^ y.toNat := Int.pow_pos (by omega)
  have h4 : inL (x / 2 ^ y.toNat) := by
    constructor
    · have : x / 2 ^ y.toNat ≥ x ∨ x / 2 ^ y.toNat ≥ 0 := by
        by_cases hn : 0 ≤ x
        · exact Or.inr (Int.ediv_nonneg hn (by omega))
        · left
          have := Int.le_ediv_of_mul_le hp (show x * 2 ^ y.toNat ≤ x from by
            have h9 : (1 : Int) ≤ 2 ^ y.toNat := hp
            have := Int.mul_le_mul_of_nonpos_left (show x ≤ 0 by omega) h9
            omega)
          exact this
      have := hx.1
      omega
    · have : x / 2 ^ y.toNat ≤ x ∨ x / 2 ^ y.toNat < 1 := by
        by_cases hn : 0 ≤ x
        · exact Or.inl (Int.ediv_le_self _ hn)
        · right
          have := Int.ediv_neg_of_neg_of_pos (show x < 0 by omega) hp
          omega
      have := hx.2
      omega
  rw [← Int64.toInt_inj, inL_to h4]
  show (BitVec.sshiftRight _ _).toInt = _
  rw [BitVec.toInt_sshiftRight, hs]
  show (Int64.ofInt x).toInt >>> y.toNat = _
  rw [inL_to hx, Int.shiftRight_eq_div_pow]
  simp
theorem aw_lshr (X : CX p s m args c cc nL own Ts Z) {x y : Int} (hc : inL x ∧ 0 ≤ y ∧ y < 64) (hd : decode cc pc = .ok (.lshr, 1)) (h : AW p l e R s m args below meth c nL Z Q (pc + 1) lc (.inr (.inl (x / 2 ^ y.toNat)) :: st) M) : AW p l e R s m args below meth c nL Z Q pc lc (.inl y :: .inr (.inl x) :: st) M := by
  intro H locs ls hl hP hS
  exact lv_lshr X.1 X.2.1 hd (v := Int64.ofInt (x / 2 ^ y.toNat)) (inL_shr hc.1 hc.2.1 hc.2.2) (h H locs ls hl hP hS)
theorem aw_dup (X : CX p s m args c cc nL own Ts Z) {v : AV} (hv : isLng (some v) = false) (hd : decode cc pc = .ok (.dup, 1)) (h : AW p l e R s m args below meth c nL Z Q (pc + 1) lc (v :: v :: st) M) : AW p l e R s m args below meth c nL Z Q pc lc (v :: st) M := by
  intro H locs ls hl hP hS
  exact lv_dup X.1 X.2.1 hd (cvF_cat hv) (h H locs ls hl hP hS)
theorem aw_pop (X : CX p s m args c cc nL own Ts Z) {v : AV} (hv : isLng (some v) = false) (hd : decode cc pc = .ok (.pop, 1)) (h : AW p l e R s m args below meth c nL Z Q (pc + 1) lc st M) : AW p l e R s m args below meth c nL Z Q pc lc (v :: st) M := by
  intro H locs ls hl hP hS
  exact lv_pop X.1 X.2.1 hd (cvF_cat hv) (h H locs ls hl hP hS)
theorem aw_dup2 (X : CX p s m args c cc nL own Ts Z) {v w : AV} (hv : isLng (some v) = false) (hw : isLng (some w) = false) (hd : decode cc pc = .ok (.dup2, 1)) (h : AW p l e R s m args below meth c nL Z Q (pc + 1) lc (v :: w :: v :: w :: st) M) : AW p l e R s m args below meth c nL Z Q pc lc (v :: w :: st) M := by
  intro H locs ls hl hP hS
  exact lv_dup2_11 X.1 X.2.1 hd (cvF_cat hv) (cvF_cat hw) (h H locs ls hl hP hS)
theorem aw_goto (X : CX p s m args c cc nL own Ts Z) {o : Int} {t : Nat} (ht : (pc : Int) + o = (t : Int)) (hd : decode cc pc = .ok (.goto o, 3)) (h : AW p l e R s m args below meth c nL Z Q t lc st M) : AW p l e R s m args below meth c nL Z Q pc lc st M := by
  intro H locs ls hl hP hS
  exact lv_goto X.1 X.2.1 hd ht (h H locs ls hl hP hS)
theorem aw_if (X : CX p s m args c cc nL own Ts Z) {k : ClassFile.Cond} {o : Int} {t : Nat} {x : Int} (ht : (pc : Int) + o = (t : Int)) (hd : decode cc pc = .ok (.ifCond k o, 3)) (h : s_br k x 0 (AW p l e R s m args below meth c nL Z Q t lc st M) (AW p l e R s m args below meth c nL Z Q (pc + 3) lc st M)) : AW p l e R s m args below meth c nL Z Q pc lc (.inl x :: st) M := by
  intro H locs ls hl hP hS
  cases k with
  | eq => exact lv_if_eq X.1 X.2.1 hd ht (fun q => h.2.1 ((inR_inj h.1.1 inR_0).mp q) H locs ls hl hP hS) (fun q => h.2.2 (fun q2 => q ((inR_inj h.1.1 inR_0).mpr q2)) H locs ls hl hP hS)
  | ne => exact lv_if_ne X.1 X.2.1 hd ht (fun q => h.2.1 (fun q2 => q ((inR_inj h.1.1 inR_0).mpr q2)) H locs ls hl hP hS) (fun q => h.2.2 ((inR_inj h.1.1 inR_0).mp q) H locs ls hl hP hS)
  | lt => exact lv_if_lt X.1 X.2.1 hd ht (fun q => h.2.1 ((inR_lt h.1.1 inR_0).mp q) H locs ls hl hP hS) (fun q => h.2.2 (Int.not_lt.mp (fun q2 => q ((inR_lt h.1.1 inR_0).mpr q2))) H locs ls hl hP hS)
  | ge => exact lv_if_ge X.1 X.2.1 hd ht (fun q => h.2.1 ((inR_le inR_0 h.1.1).mp q) H locs ls hl hP hS) (fun q => h.2.2 (Int.not_le.mp (fun q2 => q ((inR_le inR_0 h.1.1).mpr q2))) H locs ls hl hP hS)
  | gt => exact lv_if_gt X.1 X.2.1 hd ht (fun q => h.2.1 ((inR_lt inR_0 h.1.1).mp q) H locs ls hl hP hS) (fun q => h.2.2 (Int.not_lt.mp (fun q2 => q ((inR_lt inR_0 h.1.1).mpr q2))) H locs ls hl hP hS)
  | le => exact lv_if_le X.1 X.2.1 hd ht (fun q => h.2.1 ((inR_le h.1.1 inR_0).mp q) H locs ls hl hP hS) (fun q => h.2.2 (Int.not_le.mp (fun q2 => q ((inR_le h.1.1 inR_0).mpr q2))) H locs ls hl hP hS)
theorem aw_icmp (X : CX p s m args c cc nL own Ts Z) {k : ClassFile.Cond} {o : Int} {t : Nat} {x y : Int} (ht : (pc : Int) + o = (t : Int)) (hd : decode cc pc = .ok (.if_icmp k o, 3)) (h : s_br k x y (AW p l e R s m args below meth c nL Z Q t lc st M) (AW p l e R s m args below meth c nL Z Q (pc + 3) lc st M)) : AW p l e R s m args below meth c nL Z Q pc lc (.inl y :: .inl x :: st) M := by
  intro H locs ls hl hP hS
  cases k with
  | eq => exact lv_icmp_eq X.1 X.2.1 hd ht (fun q => h.2.1 ((inR_inj h.1.1 h.1.2).mp q) H locs ls hl hP hS) (fun q => h.2.2 (fun q2 => q ((inR_inj h.1.1 h.1.2).mpr q2)) H locs ls hl hP hS)
  | ne => exact lv_icmp_ne X.1 X.2.1 hd ht (fun q => h.2.1 (fun q2 => q ((inR_inj h.1.1 h.1.2).mpr q2)) H locs ls hl hP hS) (fun q => h.2.2 ((inR_inj h.1.1 h.1.2).mp q) H locs ls hl hP hS)
  | lt => exact lv_icmp_lt X.1 X.2.1 hd ht (fun q => h.2.1 ((inR_lt h.1.1 h.1.2).mp q) H locs ls hl hP hS) (fun q => h.2.2 (Int.not_lt.mp (fun q2 => q ((inR_lt h.1.1 h.1.2).mpr q2))) H locs ls hl hP hS)
  | ge => exact lv_icmp_ge X.1 X.2.1 hd ht (fun q => h.2.1 ((inR_le h.1.2 h.1.1).mp q) H locs ls hl hP hS) (fun q => h.2.2 (Int.not_le.mp (fun q2 => q ((inR_le h.1.2 h.1.1).mpr q2))) H locs ls hl hP hS)
  | gt => exact lv_icmp_gt X.1 X.2.1 hd ht (fun q => h.2.1 ((inR_lt h.1.2 h.1.1).mp q) H locs ls hl hP hS) (fun q => h.2.2 (Int.not_lt.mp (fun q2 => q ((inR_lt h.1.2 h.1.1).mpr q2))) H locs ls hl hP hS)
  | le => exact lv_icmp_le X.1 X.2.1 hd ht (fun q => h.2.1 ((inR_le h.1.1 h.1.2).mp q) H locs ls hl hP hS) (fun q => h.2.2 (Int.not_le.mp (fun q2 => q ((inR_le h.1.1 h.1.2).mpr q2))) H locs ls hl hP hS)
end SND
end
section
/-! ===== fields, rows, calls ===== -/
section SNE
variable {p : Program} {l : Launch} {e : Env} {R : Room} {s : State} {m : MethodId} {args : Array Value} {below : List Frame} {meth : Method} {c : Code} {Q : State → Prop} {cc : ByteArray} {nL : Nat} {own : String} {Ts : List Jvm.Cond} {Z : ZT}
variable {pc : Nat} {lc : Lc} {st : List AV} {M : Mem}
/-- a field's words -/
def FldW (own : String) (Ts : List Jvm.Cond) (ix ci k : Nat) : Prop := ci < 9 ∧ k < nfF ci ∧ (∀ w ∈ BIG, w ∈ Ts) ∧ Jvm.Cond.fieldLink own ix (ttF ci k).1 (ttF ci k).2.1 (ttF ci k).2.2.1 ∈ Ts
theorem kd9 {o ci : Nat} (h : kdF o = ci) (h9 : ci < 9) : o < 67 := kdF_lt (by omega)
theorem aw_getr (X : CX p s m args c cc nL own Ts Z) {ix ci k o : Nat} (hf : FldW own Ts ix ci k) (hr : isRefT (tyF ci k) = true) (ho : kdF o = ci) (hd : decode cc pc = .ok (.getfield ix, 3)) (h : AW p l e R s m args below meth c nL Z Q (pc + 3) lc (.inr (.inr (rfF o k)) :: st) M) : AW p l e R s m args below meth c nL Z Q pc lc (.inr (.inr o) :: st) M := by
  intro H locs ls hl hP hS
  obtain ⟨h9, hk, hT, hw⟩ := hf
  obtain ⟨q1, q2, q3, q4⟩ := kindF ci h9
  subst ho
  refine va_get X.1 X.2.1 X.2.2.2.2.1 (fun w h => hT w (q2 w h)) X.2.2.2.1 X.2.2.2.2.2.1 hP o ((wldF_at Z M (kd9 rfl h9)).trans (by rw [cellF_o Z M (by omega)])) q1 k hk (X.2.2.2.2.1 _ hw) (fun _ h9 => h9) (v := cvF Z (.inr (.inr (rfF o k)))) ?_ hd (h H locs ls hl hP hS)
  rw [List.getElem?_map, List.getElem?_range hk]
  simp [fldF, hr, cvF]
theorem aw_geti (X : CX p s m args c cc nL own Ts Z) {ix ci k o : Nat} (hf : FldW own Ts ix ci k) (hr : isRefT (tyF ci k) = false) (ho : kdF o = ci) (hd : decode cc pc = .ok (.getfield ix, 3)) (h : AW p l e R s m args below meth c nL Z Q (pc + 3) lc (.inl (M o k) :: st) M) : AW p l e R s m args below meth c nL Z Q pc lc (.inr (.inr o) :: st) M := by
  intro H locs ls hl hP hS
  obtain ⟨h9, hk, hT, hw⟩ := hf
  obtain ⟨q1, q2, q3, q4⟩ := kindF ci h9
  subst ho
  refine va_get X.1 X.2.1 X.2.2.2.2.1 (fun w h => hT w (q2 w h)) X.2.2.2.1 X.2.2.2.2.2.1 hP o ((wldF_at Z M (kd9 rfl h9)).trans (by rw [cellF_o Z M (by omega)])) q1 k hk (X.2.2.2.2.1 _ hw) (fun _ h9 => h9) (v := cvF Z (.inl (M o k))) ?_ hd (h H locs ls hl hP hS)
  rw [List.getElem?_map, List.getElem?_range hk]
  simp [fldF, hr, cvF]
theorem nar_z {x : Int} (h : x = 0 ∨ x = 1) : narrow .boolean (.int (Int32.ofInt x)) = .int (Int32.ofInt x) ∧ fits .boolean (.int (Int32.ofInt x)) = true := by
  rcases h with rfl | rfl <;> decide
theorem aw_puti (X : CX p s m args c cc nL own Ts Z) {ix ci k o : Nat} {x : Int} (hf : FldW own Ts ix ci k) (hfin : (ttF ci k).2.2.2 = false) (hty : tyF ci k = .int ∨ (tyF ci k = .boolean ∧ (x = 0 ∨ x = 1))) (ho : kdF o = ci) (hd : decode cc pc = .ok (.putfield ix, 3)) (h : AW p l e R s m args below meth c nL Z Q (pc + 3) lc st (up2 M o k x)) : AW p l e R s m args below meth c nL Z Q pc lc (.inl x :: .inr (.inr o) :: st) M := by
  intro H locs ls hl hP hS
  obtain ⟨h9, hk, hT, hw⟩ := hf
  obtain ⟨q1, q2, q3, q4⟩ := kindF ci h9
  have hr : isRefT (tyF ci k) = false := by
    rcases hty with e | ⟨e, -⟩ <;> rw [e] <;> rfl
  have hn : narrow (tyF ci k) (.int (Int32.ofInt x)) = .int (Int32.ofInt x) ∧ fits (tyF ci k) (.int (Int32.ofInt x)) = true := by
    rcases hty with e | ⟨e, h01⟩
    · rw [e]; exact ⟨rfl, rfl⟩
    · rw [e]; exact nar_z h01
  subst ho
  have h6 := kd9 (o := o) rfl h9
  refine va_put (fs := (List.range (nfF (kdF o))).map (fldF Z M o)) X.1 X.2.1 X.2.2.2.2.1 (fun w h => hT w (q2 w h)) (tyF (kdF o)) q3 q4 X.2.2.2.1 X.2.2.2.2.2.1 hP (X.2.2.2.2.2.2.D M) hS o ((wldF_at Z M h6).trans (by rw [cellF_o Z M (by omega)])) q1 k hk (X.2.2.2.2.1 _ hw) (fun _ h9 => h9) hfin (q3 k hk) hn.1 hn.2 (by simpa using hk) hd (fun H1 locs1 a1 a2 a3 => ?_)
  have a1 : va_P Z.1 vwCl ((wldF Z M).set o (zA Z o, .inr (kdF o, ((List.range (nfF (kdF o))).map (fldF Z M o)).set k (.int (Int32.ofInt x))))) H1 := a1
  rw [wldF_set Z M (up2 M o k x) h6 (cellF_fld Z M x (by omega) hk hr) (fun i _ hi => cellF_congr Z (up2_i hi))] at a1
  exact h H1 locs1 ls hl a1 a3
theorem ix_of {i : Int} {n : Nat} (hn : n < 2147483648) (h0 : 0 ≤ i) (h1 : i < (n : Int)) : vp_in (Int32.ofInt i) n ∧ (Int32.ofInt i).toNatClampNeg = i.toNat := by
  have hi : inR i := ⟨by omega, by omega⟩
  constructor
  · rw [vp_in_iff, inR_to hi]; exact ⟨h0, h1⟩
  · rw [Int32.toNatClampNeg, inR_to hi]
theorem aw_iald (X : CX p s m args c cc nL own Ts Z) {i : Int} {a : Nat} (hn : lnF (zN Z) a < 2147483648) (hc : kdF a = 100 ∧ 0 ≤ i ∧ i < (lnF (zN Z) a : Int)) (hd : decode cc pc = .ok (.iaload, 1)) (h : AW p l e R s m args below meth c nL Z Q (pc + 1) lc (.inl (M a i.toNat) :: st) M) : AW p l e R s m args below meth c nL Z Q pc lc (.inl i :: .inr (.inr a) :: st) M := by
  intro H locs ls hl hP hS
  obtain ⟨g1, g2⟩ := ix_of hn hc.2.1 hc.2.2
  have h := h H locs ls hl hP hS
  refine va_iald X.1 X.2.1 X.2.2.2.2.2.1 hP a 0 ((wldF_at Z M (kdF_lt (by omega))).trans (by rw [cellF_i Z M hc.1])) rfl g1 hd ?_
  rw [g2]
  exact h
theorem aw_zald (X : CX p s m args c cc nL own Ts Z) {i : Int} {a : Nat} (hn : lnF (zN Z) a < 2147483648) (hc : kdF a = 101 ∧ 0 ≤ i ∧ i < (lnF (zN Z) a : Int)) (hd : decode cc pc = .ok (.baload, 1)) (h : AW p l e R s m args below meth c nL Z Q (pc + 1) lc (.inl (M a i.toNat) :: st) M) : AW p l e R s m args below meth c nL Z Q pc lc (.inl i :: .inr (.inr a) :: st) M := by
  intro H locs ls hl hP hS
  obtain ⟨g1, g2⟩ := ix_of hn hc.2.1 hc.2.2
  have h := h H locs ls hl hP hS
  refine va_zald X.1 X.2.1 X.2.2.2.2.2.1 hP a 1 ((wldF_at Z M (kdF_lt (by omega))).trans (by rw [cellF_z Z M hc.1])) rfl g1 hd ?_
  rw [g2]
  exact h
theorem aw_iast (X : CX p s m args c cc nL own Ts Z) {i x : Int} {a : Nat} (hn : lnF (zN Z) a < 2147483648) (hc : kdF a = 100 ∧ 0 ≤ i ∧ i < (lnF (zN Z) a : Int)) (hd : decode cc pc = .ok (.iastore, 1)) (h : AW p l e R s m args below meth c nL Z Q (pc + 1) lc st (up2 M a i.toNat x)) : AW p l e R s m args below meth c nL Z Q pc lc (.inl x :: .inl i :: .inr (.inr a) :: st) M := by
  intro H locs ls hl hP hS
  obtain ⟨g1, g2⟩ := ix_of hn hc.2.1 hc.2.2
  have h6 : a < 67 := kdF_lt (by omega)
  refine va_iast X.1 X.2.1 X.2.2.2.2.2.1 hP (X.2.2.2.2.2.2.D M) hS a 0 ((wldF_at Z M h6).trans (by rw [cellF_i Z M hc.1])) rfl g1 hd (fun H1 locs1 a1 a2 a3 => ?_)
  rw [g2, wldF_set Z M (up2 M a i.toNat x) h6 (cellF_row Z M x hc.1) (fun i _ hi => cellF_congr Z (up2_i hi))] at a1
  exact h H1 locs1 ls hl a1 a3
theorem vpn_z {x : Int} (h : x = 0 ∨ x = 1) : vp_nar .boolean (Int32.ofInt x) = Int32.ofInt x := by
  rcases h with rfl | rfl <;> decide
theorem aw_zast (X : CX p s m args c cc nL own Ts Z) {i x : Int} {a : Nat} (hn : lnF (zN Z) a < 2147483648) (hc : kdF a = 101 ∧ 0 ≤ i ∧ i < (lnF (zN Z) a : Int) ∧ (x = 0 ∨ x = 1)) (hd : decode cc pc = .ok (.bastore, 1)) (h : AW p l e R s m args below meth c nL Z Q (pc + 1) lc st (up2 M a i.toNat x)) : AW p l e R s m args below meth c nL Z Q pc lc (.inl x :: .inl i :: .inr (.inr a) :: st) M := by
  intro H locs ls hl hP hS
  obtain ⟨g1, g2⟩ := ix_of hn hc.2.1 hc.2.2.1
  have h6 : a < 67 := kdF_lt (by omega)
  refine va_zast X.1 X.2.1 X.2.2.2.2.2.1 hP (X.2.2.2.2.2.2.D M) hS a 1 ((wldF_at Z M h6).trans (by rw [cellF_z Z M hc.1])) rfl g1 hd (fun H1 locs1 a1 a2 a3 => ?_)
  rw [g2, vpn_z hc.2.2.2, wldF_set Z M (up2 M a i.toNat x) h6 (cellF_rowZ Z M x hc.1) (fun i _ hi => cellF_congr Z (up2_i hi))] at a1
  exact h H1 locs1 ls hl a1 a3
theorem aw_alen (X : CX p s m args c cc nL own Ts Z) {a : Nat} (hc : kdF a = 100) (hd : decode cc pc = .ok (.arraylength, 1)) (h : AW p l e R s m args below meth c nL Z Q (pc + 1) lc (.inl (lnF (zN Z) a : Int) :: st) M) : AW p l e R s m args below meth c nL Z Q pc lc (.inr (.inr a) :: st) M := by
  intro H locs ls hl hP hS
  exact va_alen (x := (lnF (zN Z) a, .inl (fun j => Int32.ofInt (M a j)))) (v := Int32.ofInt (lnF (zN Z) a : Int)) X.1 X.2.1 X.2.2.2.2.2.1 hP a 0 ((wldF_at Z M (kdF_lt (by omega))).trans (by rw [cellF_i Z M hc])) rfl Int32.ofInt_eq_ofNat.symm hd (h H locs ls hl hP hS)
/-- arraycopy between rows of ints -/
theorem aw_copy (X : CX p s m args c cc nL own Ts Z) {ix : Nat} {sp dp n : Int} {a b : Nat} (hw : Jvm.Cond.methodLink own ix arraycopyName ∈ Ts ∧ Jvm.Cond.native arraycopyName ∈ Ts ∧ Jvm.Cond.static arraycopyName ∈ Ts ∧ Jvm.Cond.initialized "java/lang/System" ∈ Ts) (hna : lnF (zN Z) a < 2147483648) (hnb : lnF (zN Z) b < 2147483648) (hR : 1 ≤ R.frames ∧ 40 ≤ R.locals) (hst : catA st ≤ 8)
    (hc : kdF a = 100 ∧ kdF b = 100 ∧ 0 ≤ sp ∧ 0 ≤ dp ∧ 0 ≤ n ∧ sp + n ≤ (lnF (zN Z) a : Int) ∧ dp + n ≤ (lnF (zN Z) b : Int)) (hd : decode cc pc = .ok (.invokestatic ix, 3)) (h : AW p l e R s m args below meth c nL Z Q (pc + 3) lc st (va_up M b (va_cpy (M a) (M b) sp.toNat dp.toNat n.toNat))) :
    AW p l e R s m args below meth c nL Z Q pc lc (.inl n :: .inl dp :: .inr (.inr b) :: .inl sp :: .inr (.inr a) :: st) M := by
  intro H locs ls hl hP hS
  obtain ⟨c1, c2, c3, c4, c5, c6, c7⟩ := hc
  have t1 : ∀ z : Int, 0 ≤ z → z < 2147483648 → (Int32.ofInt z).toNatClampNeg = z.toNat ∧ ¬ Int32.ofInt z < 0 := by
    intro z h0 h1
    have hz : inR z := ⟨by omega, h1⟩
    refine ⟨by rw [Int32.toNatClampNeg, inR_to hz], fun hlt => ?_⟩
    have := (inR_lt hz inR_0).mp hlt
    omega
  obtain ⟨s1, s2⟩ := t1 sp c3 (by omega)
  obtain ⟨d1, d2⟩ := t1 dp c4 (by omega)
  obtain ⟨n1, n2⟩ := t1 n c5 (by omega)
  have h6 : b < 67 := kdF_lt (by omega)
  have hcat : ((st.map (cvF Z)).map fun v => v.category).sum = catA st := by
    clear h hst
    induction st with
    | nil => rfl
    | cons v r ih =>
      rcases v with x | x | x
      · simp [cvF, Value.category, catA, ih] at *; omega
      · simp [cvF, Value.category, catA, ih] at *; omega
      · simp [cvF, Value.category, catA, ih] at *; omega
  have hml : c.maxLocals = ls.size := by rw [X.2.2.1]; obtain ⟨-, lv, h1, -⟩ := hl; exact h1.1.symm
  have hlo : ((st.map (cvF Z)).map fun v => v.category).sum + (nativeFrameWords "java/lang/System" "arraycopy" 5 + 11) ≤ R.locals := by
    rw [hcat]
    have h32 : nativeFrameWords "java/lang/System" "arraycopy" 5 + 11 ≤ 32 := by decide
    have := hR.2
    omega
  refine va_copyi X.1 X.2.1 hml X.2.2.2.1 (X.2.2.2.2.1 _ hw.1) (X.2.2.2.2.1 _ hw.2.1) (X.2.2.2.2.1 _ hw.2.2.1) (X.2.2.2.2.1 _ hw.2.2.2) X.2.2.2.2.2.1 hP (X.2.2.2.2.2.2.D M) hS a b 0 0 ((wldF_at Z M (kdF_lt (by omega))).trans (by rw [cellF_i Z M c1])) ((wldF_at Z M h6).trans (by rw [cellF_i Z M c2])) rfl rfl rfl s2 d2 n2 (by rw [s1, n1]; omega) (by rw [d1, n1]; omega) (fun _ _ => rfl) hR.1 hlo hd (fun H1 locs1 a1 a2 a3 => ?_)
  rw [s1, d1, n1, wldF_set Z M (va_up M b (va_cpy (M a) (M b) sp.toNat dp.toNat n.toNat)) h6 ?_ (fun i _ hi => cellF_congr Z (va_up_ne _ _ hi))] at a1
  · exact h H1 locs1 ls hl a1 a3
  · rw [cellF_i Z _ c2, va_up_self]
    congr 4
    funext j
    unfold va_cpy
    split <;> rfl
end SNE
end
section
/-! ===== the steps are the machine's: a method that keeps its contract by the steps keeps it in the machine ===== -/
def lenI (i : Instr) (d : Nat) : Nat := match i with
  | .bipush _ => 2
  | .sipush _ => 3
  | .ldc _ => 2
  | .ldc_w _ => 3
  | .ldc2_w _ => 3
  | .iload _ => 2
  | .lload _ => 2
  | .aload _ => 2
  | .istore _ => 2
  | .lstore _ => 2
  | .astore _ => 2
  | .iinc _ _ => 3
  | .ifCond _ _ => 3
  | .if_icmp _ _ => 3
  | .goto _ => 3
  | .tableswitch _ _ _ _ => d
  | .getfield _ => 3
  | .putfield _ => 3
  | .invokevirtual _ => 3
  | .invokestatic _ => 3
  | .invokespecial _ => 3
  | .new _ => 3
  | .newarray _ => 2
  | _ => 1
def offI (i : Instr) : List Int := match i with
  | .goto o => [o]
  | .ifCond _ o => [o]
  | .if_icmp _ o => [o]
  | .tableswitch d _ _ os => d :: os.toList
  | _ => []
def idxI (nL : Nat) (i : Instr) : Bool := match i with
  | .istore k => Nat.blt k nL
  | .astore k => Nat.blt k nL
  | .iinc k _ => Nat.blt k nL
  | .istore_n k => Nat.blt k.val nL
  | .astore_n k => Nat.blt k.val nL
  | .lstore k => Nat.blt (k + 1) nL
  | .lstore_n k => Nat.blt (k.val + 1) nL
  | .bipush v => decide (-128 ≤ v ∧ v < 128)
  | .sipush v => decide (-32768 ≤ v ∧ v < 32768)
  | .tableswitch _ lo hi os => decide (hi - lo + 1 = (os.toList.length : Int))
  | _ => true
def okE (cc : ByteArray) (nL pc : Nat) (e : Instr × Nat × List Nat) : Bool :=
  decide (decode cc pc = .ok (e.1, lenI e.1 (e.2.1 - pc))) && (decide (e.2.1 = pc + lenI e.1 (e.2.1 - pc)) && (decide ((offI e.1).map (fun o => (pc : Int) + o) = e.2.2.map (fun t : Nat => (t : Int))) && idxI nL e.1))
def okT (cc : ByteArray) (T : Tt) (N nL : Nat) : Bool := (List.range N).all (fun pc => match T pc with
  | none => true
  | some e => okE cc nL pc e)
def tWn (N : Nat) (t : Tt) : Tt := fun pc => cond (Nat.blt pc N) (t pc) none
theorem okT_at {cc : ByteArray} {t : Tt} {N nL pc : Nat} {e : Instr × Nat × List Nat} (h : okT cc (tWn N t) N nL = true) (he : tWn N t pc = some e) : decode cc pc = .ok (e.1, lenI e.1 (e.2.1 - pc)) ∧ e.2.1 = pc + lenI e.1 (e.2.1 - pc) ∧ (offI e.1).map (fun o => (pc : Int) + o) = e.2.2.map (fun t : Nat => (t : Int)) ∧ idxI nL e.1 = true := by
  have hN : pc < N := by
    by_cases hp : pc < N
    · exact hp
    · have : Nat.blt pc N = false := by
        cases hb : Nat.blt pc N with
        | false => rfl
        | true => exact absurd (Nat.blt_eq.mp hb) hp
      unfold tWn at he
      rw [this] at he
      cases he
  have := List.all_eq_true.mp h pc (List.mem_range.mpr hN)
  rw [he] at this
  simp only [okE, Bool.and_eq_true, decide_eq_true_eq] at this
  exact this
section RULE
variable {p : Program} {l : Launch} {e : Env} {R : Room} {s : State} {m : MethodId} {args : Array Value} {below : List Frame} {meth : Method} {c : Code} {cc : ByteArray} {nL : Nat} {own : String} {Ts : List Jvm.Cond} {Z : ZT}
/-- the pool's words -/
def PoolW (own : String) (Ts : List Jvm.Cond) (P : Pool) : Prop := (∀ w ∈ BIG, w ∈ Ts) ∧ (∀ q ∈ P.1, q.2.1 < 9 ∧ q.2.2.1 < nfF q.2.1 ∧ Jvm.Cond.fieldLink own q.1 (ttF q.2.1 q.2.2.1).1 (ttF q.2.1 q.2.2.1).2.1 (ttF q.2.1 q.2.2.1).2.2.1 ∈ Ts ∧ (match q.2.2.2.1 with
  | 0 => tyF q.2.1 q.2.2.1 = .int ∧ (ttF q.2.1 q.2.2.1).2.2.2 = false
  | 1 => tyF q.2.1 q.2.2.1 = .boolean ∧ (ttF q.2.1 q.2.2.1).2.2.2 = false
  | 2 => isRefT (tyF q.2.1 q.2.2.1) = true ∧ ∀ o, kdF o = q.2.1 → rfF o q.2.2.1 = o + 1
  | 3 => isRefT (tyF q.2.1 q.2.2.1) = false
  | 4 => isRefT (tyF q.2.1 q.2.2.1) = true ∧ ∀ o, kdF o = q.2.1 → rfF o q.2.2.1 = q.2.2.2.2
  | _ => False)) ∧ (∀ q ∈ P.2.1, Jvm.Cond.constant own q.1 (Int32.ofInt q.2) ∈ Ts) ∧ ∀ q ∈ P.2.2.1, Jvm.Cond.constantLong own q.1 (Int64.ofInt q.2) ∈ Ts
def aftC (c : Call) (g : c.1) (vs rest : List AV) (K : Kt) (nx : Nat) (lc : Lc) (M : Mem) : Prop := match c.2.2.2 with
  | .inl pv => ∀ M' : Mem, pv g vs M M' → K nx lc rest M'
  | .inr pi => ∀ (x : Int) (M' : Mem), pi g vs M x M' → K nx lc (.inl x :: rest) M'
/-- a call comes back as its contract says -/
def CallOk (aw : Kt) (cc : ByteArray) (q : Nat × Option Nat × Call) : Prop := ∀ (pc : Nat) (lc : Lc) (vs rest : List AV) (M : Mem), decode cc pc = .ok ((match q.2.1 with
    | none => .invokestatic q.1
    | some _ => .invokevirtual q.1), 3) → (match q.2.1, vs with
    | none, _ => True
    | some kd, .inr (.inr o) :: _ => kdF o = kd
    | _, _ => False) → vs.length = q.2.2.2.1 → catA rest ≤ 8 → noLng vs = true → ∀ g : q.2.2.1, q.2.2.2.2.1 g vs M → aftC q.2.2 g vs rest aw (pc + 3) lc M → aw pc lc (vs.reverse ++ rest) M
theorem okA_iff {vs rest : List AV} (h : okA vs rest = true) : catA rest ≤ 8 ∧ noLng vs = true := by
  unfold okA at h
  cases hb : Nat.ble (catA rest) 8 with
  | true => rw [hb] at h; exact ⟨Nat.le_of_ble_eq_true hb, h⟩
  | false => rw [hb] at h; cases h
theorem splA_iff {n : Nat} : ∀ {acc st : List AV} {k : List AV → List AV → Prop}, splA n acc st k → ∃ vs rest : List AV, vs.length = n ∧ st = vs ++ rest ∧ k (vs.reverse ++ acc) rest := by
  induction n with
  | zero => intro acc st k h; exact ⟨[], st, rfl, rfl, by unfold splA at h; simpa using h⟩
  | succ n ih =>
    intro acc st k h
    cases st with
    | nil => exact h.elim
    | cons v r =>
      unfold splA at h
      obtain ⟨vs, rest, h1, h2, h3⟩ := ih h
      exact ⟨v :: vs, rest, by simp [h1], by simp [h2], by simpa using h3⟩
theorem s_go_aft {c : Call} {vs rest : List AV} {K K' : Kt} {nx : Nat} {lc : Lc} {M : Mem} (hK : ∀ pc lc st M, K pc lc st M → K' pc lc st M) (h : s_go c vs rest K nx lc M) : ∃ g : c.1, c.2.2.1 g vs M ∧ aftC c g vs rest K' nx lc M := by
  obtain ⟨G, n, pre, post⟩ := c
  cases post with
  | inl pv => obtain ⟨g, h1, h2⟩ := h; exact ⟨g, h1, fun M' q => hK _ _ _ _ (h2 M' q)⟩
  | inr pi => obtain ⟨g, h1, h2⟩ := h; exact ⟨g, h1, fun x M' q => hK _ _ _ _ (h2 x M' q)⟩
theorem s_br_mono {k : ClassFile.Cond} {x y : Int} {A B A' B' : Prop} (hA : A → A') (hB : B → B') (h : s_br k x y A B) : s_br k x y A' B' := by
  cases k <;> exact ⟨h.1, fun q => hA (h.2.1 q), fun q => hB (h.2.2 q)⟩
theorem sws_at {K : Nat → Prop} {x : Int} : ∀ {ts : List Nat} {lo : Int} (i : Nat) {t : Nat}, s_sws K x lo ts → ts[i]? = some t → x = lo + i → K t := by
  intro ts
  induction ts with
  | nil => intro lo i t h ht; simp at ht
  | cons a r ih =>
    intro lo i t h ht hx
    unfold s_sws at h
    cases i with
    | zero => simp at ht; subst ht; exact h.1 (by simpa using hx)
    | succ i => exact ih i h.2 (by simpa using ht) (by rw [hx]; push_cast; omega)
theorem aw_sw {Q : State → Prop} {pc : Nat} {lc : Lc} {st : List AV} {M : Mem} (X : CX p s m args c cc nL own Ts Z) {d lo hi : Int} {os : Array Int} {len dt : Nat} {ts : List Nat} {x : Int} (hlen : hi - lo + 1 = (os.toList.length : Int)) (ht : (d :: os.toList).map (fun o => (pc : Int) + o) = (dt :: ts).map (fun t : Nat => (t : Int))) (hd : decode cc pc = .ok (.tableswitch d lo hi os, len)) (hx : inR x)
    (h1 : (x < lo ∨ hi < x) → AW p l e R s m args below meth c nL Z Q dt lc st M) (h2 : s_sws (fun t => AW p l e R s m args below meth c nL Z Q t lc st M) x lo ts) : AW p l e R s m args below meth c nL Z Q pc lc (.inl x :: st) M := by
  intro H locs ls hl hP hS
  simp only [List.map_cons, List.cons.injEq] at ht
  by_cases ho : x < lo ∨ hi < x
  · exact lv_tableOut X.1 X.2.1 hd (by rw [inR_to hx]; exact ho) ht.1 (h1 ho H locs ls hl hP hS)
  · have hi' : (x - lo).toNat < os.toList.length := by omega
    have e1 : os[(x - lo).toNat]? = some (os.toList[(x - lo).toNat]'hi') := by
      rw [← Array.getElem?_toList]
      exact List.getElem?_eq_getElem hi'
    have e2 : (os.toList.map (fun o => (pc : Int) + o))[(x - lo).toNat]? = some ((pc : Int) + os.toList[(x - lo).toNat]'hi') := by
      rw [List.getElem?_map, List.getElem?_eq_getElem hi']
      rfl
    rw [ht.2, List.getElem?_map] at e2
    cases e3 : ts[(x - lo).toNat]? with
    | none => rw [e3] at e2; cases e2
    | some t =>
      rw [e3] at e2
      have e4 : (t : Int) = (pc : Int) + os.toList[(x - lo).toNat]'hi' := Option.some.inj e2
      exact lv_tableIn X.1 X.2.1 hd (by rw [inR_to hx]; omega) (by rw [inR_to hx]; omega) (off := os.toList[(x - lo).toNat]'hi') (by rw [inR_to hx]; exact e1) e4.symm (sws_at (x - lo).toNat h2 e3 (by omega) H locs ls hl hP hS)
/-- the contract's end, as the machine's rows have it -/
def Qcall (Z : ZT) (k : Call) (g : k.1) (vs : List AV) (M : Mem) : Array Value → State → Outcome → State → Prop := match k.2.2.2 with
  | .inl pv => va_Qv (fun M' : Mem => pv g vs M M') (fun M' t => va_P Z.1 vwCl (wldF Z M') t.heap ∧ va_K Z.1 vwCl (zT Z) t) (zB Z)
  | .inr pi => va_Qi (fun (r : Int32) (u : Int × Mem) => r = Int32.ofInt u.1 ∧ pi g vs M u.1 u.2) (fun u t => va_P Z.1 vwCl (wldF Z u.2) t.heap ∧ va_K Z.1 vwCl (zT Z) t) (zB Z)
def rtOk (ret : Option FieldType) (rt : Nat) (k : Call) : Prop := match rt, ret, k.2.2.2 with
  | 0, none, .inl _ => True
  | 1, some .int, .inr _ => True
  | 2, some .boolean, .inr _ => True
  | _, _, _ => False
theorem aw_iret {pc : Nat} {lc : Lc} {M M0 : Mem} {vs : List AV} {k : Call} {g : k.1} {ret : Option FieldType} {rt : Nat} {st : List AV} (X : CX p s m args c cc nL own Ts Z) (hr : meth.sig.returnType = ret) (hlocks : meth.locks = false) (hrt : rtOk ret rt k) (hd : decode cc pc = .ok (.ireturn, 1)) (h : s_iret (rvF k g vs M0 rt) st M) :
    AW p l e R s m args below meth c nL Z (MQ below (Qcall Z k g vs M0) args s 0 0 (zB Z)) pc lc st M := by
  intro H locs ls hl hP hS
  obtain ⟨G, kn, kp, kq⟩ := k
  match rt, st, h with
  | 1, [.inl x], h =>
    match ret, kq, hrt, h with
    | some .int, .inr pi, _, h =>
      refine W.iret (v := Int32.ofInt x) X.1 X.2.1 hr (fun t ht hW => ⟨⟨Int32.ofInt x, (x, M), rfl, ⟨rfl, h.1⟩, by rw [ht]; exact hP, va_K.moved hW.alike X.2.2.2.2.2.1⟩, hS.F ht⟩) hS.2.2 hd hlocks
  | 2, [.inl x], h =>
    match ret, kq, hrt, h with
    | some .boolean, .inr pi, _, h =>
      refine W.zret (v := Int32.ofInt x) X.1 X.2.1 hr (nar_z h.1).1 (fun t ht hW => ⟨⟨Int32.ofInt x, (x, M), rfl, ⟨rfl, h.2⟩, by rw [ht]; exact hP, va_K.moved hW.alike X.2.2.2.2.2.1⟩, hS.F ht⟩) hS.2.2 hd hlocks
theorem aw_ret {pc : Nat} {lc : Lc} {M M0 : Mem} {vs : List AV} {k : Call} {g : k.1} {ret : Option FieldType} {rt : Nat} {st : List AV} (X : CX p s m args c cc nL own Ts Z) (hr : meth.sig.returnType = ret) (hlocks : meth.locks = false) (hrt : rtOk ret rt k) (hd : decode cc pc = .ok (.return_, 1)) (h : s_ret (rvF k g vs M0 rt) st M) :
    AW p l e R s m args below meth c nL Z (MQ below (Qcall Z k g vs M0) args s 0 0 (zB Z)) pc lc st M := by
  intro H locs ls hl hP hS
  obtain ⟨G, kn, kp, kq⟩ := k
  match rt, st, h with
  | 0, [], h =>
    match ret, kq, hrt, h with
    | none, .inl pv, _, h =>
      exact W.vret X.1 X.2.1 hr (fun t ht hW => ⟨⟨M, rfl, h.1, by rw [ht]; exact hP, va_K.moved hW.alike X.2.2.2.2.2.1⟩, hS.F ht⟩) hS.2.2 hd hlocks
set_option maxHeartbeats 4000000 in
/-- one step -/
theorem s_one_sound {t : Tt} {N rt : Nat} {P : Pool} {k : Call} {g : k.1} {vs : List AV} {M0 : Mem} {ret : Option FieldType} (X : CX p s m args c cc nL own Ts Z) (hr : meth.sig.returnType = ret) (hlocks : meth.locks = false) (hrt : rtOk ret rt k) (hT : okT cc (tWn N t) N nL = true) (hP : PoolW own Ts P) (hln : ∀ a, lnF (zN Z) a < 2147483648)
    (hC : ∀ q ∈ P.2.2.2, CallOk (AW p l e R s m args below meth c nL Z (MQ below (Qcall Z k g vs M0) args s 0 0 (zB Z))) cc q)
    {K : Kt} (hK : ∀ pc lc st M, K pc lc st M → AW p l e R s m args below meth c nL Z (MQ below (Qcall Z k g vs M0) args s 0 0 (zB Z)) pc lc st M) {pc : Nat} {lc : Lc} {st : List AV} {M : Mem}
    (h : s_one (tWn N t) P (rvF k g vs M0 rt) (zN Z) K pc lc st M) : AW p l e R s m args below meth c nL Z (MQ below (Qcall Z k g vs M0) args s 0 0 (zB Z)) pc lc st M := by
  unfold s_one at h
  cases hTp : tWn N t pc with
  | none => rw [hTp] at h; exact h.elim
  | some ent =>
  rw [hTp] at h
  obtain ⟨o1, o2, o3, o4⟩ := okT_at hT hTp
  obtain ⟨i, nx, tg⟩ := ent
  dsimp only at h o1 o2 o3 o4
  cases i
  case iconst v => dsimp only [lenI] at o1 o2; subst o2; exact aw_iconst X o1 (hK _ _ _ _ h)
  case bipush v => dsimp only [lenI] at o1 o2; subst o2; have o4 := of_decide_eq_true o4; exact aw_bipush X o4.1 o4.2 o1 (hK _ _ _ _ h)
  case sipush v => dsimp only [lenI] at o1 o2; subst o2; have o4 := of_decide_eq_true o4; exact aw_sipush X o4.1 o4.2 o1 (hK _ _ _ _ h)
  case lconst v => dsimp only [lenI] at o1 o2; subst o2; exact aw_lconst X o1 (hK _ _ _ _ h)
  case ldc ix =>
    dsimp only [lenI] at o1 o2; subst o2
    dsimp only [s_ins, s_ldi] at h
    split at h
    · rename_i v e; exact aw_ldc X (hP.2.2.1 _ (lkN_mem e)) o1 (hK _ _ _ _ h)
    · exact h.elim
  case ldc_w ix =>
    dsimp only [lenI] at o1 o2; subst o2
    dsimp only [s_ins, s_ldi] at h
    split at h
    · rename_i v e; exact aw_ldcw X (hP.2.2.1 _ (lkN_mem e)) o1 (hK _ _ _ _ h)
    · exact h.elim
  case ldc2_w ix =>
    dsimp only [lenI] at o1 o2; subst o2
    dsimp only [s_ins, s_ldl] at h
    split at h
    · rename_i v e; exact aw_ldc2 X (hP.2.2.2 _ (lkN_mem e)) o1 (hK _ _ _ _ h)
    · exact h.elim
  case iload j =>
    dsimp only [lenI] at o1 o2; subst o2
    dsimp only [s_ins, s_iload] at h
    split at h
    · rename_i x e; exact aw_iload X e o1 (hK _ _ _ _ h)
    · exact h.elim
  case iload_n j =>
    dsimp only [lenI] at o1 o2; subst o2
    dsimp only [s_ins, s_iload] at h
    split at h
    · rename_i x e; exact aw_iload_n X e o1 (hK _ _ _ _ h)
    · exact h.elim
  case lload j =>
    dsimp only [lenI] at o1 o2; subst o2
    dsimp only [s_ins, s_lload] at h
    split at h
    · rename_i x e; exact aw_lload X e o1 (hK _ _ _ _ h)
    · exact h.elim
  case lload_n j =>
    dsimp only [lenI] at o1 o2; subst o2
    dsimp only [s_ins, s_lload] at h
    split at h
    · rename_i x e; exact aw_lload_n X e o1 (hK _ _ _ _ h)
    · exact h.elim
  case aload j =>
    dsimp only [lenI] at o1 o2; subst o2
    dsimp only [s_ins, s_aload] at h
    split at h
    · rename_i x e; exact aw_aload X e o1 (hK _ _ _ _ h)
    · exact h.elim
  case aload_n j =>
    dsimp only [lenI] at o1 o2; subst o2
    dsimp only [s_ins, s_aload] at h
    split at h
    · rename_i x e; exact aw_aload_n X e o1 (hK _ _ _ _ h)
    · exact h.elim
  case istore j =>
    dsimp only [lenI] at o1 o2; subst o2
    dsimp only [s_ins, s_istore] at h
    split at h
    · exact aw_istore X (Nat.blt_eq.mp o4) o1 (hK _ _ _ _ ((fLs_iff _ _).mp h))
    · exact h.elim
  case istore_n j =>
    dsimp only [lenI] at o1 o2; subst o2
    dsimp only [s_ins, s_istore] at h
    split at h
    · exact aw_istore_n X (Nat.blt_eq.mp o4) o1 (hK _ _ _ _ ((fLs_iff _ _).mp h))
    · exact h.elim
  case astore j =>
    dsimp only [lenI] at o1 o2; subst o2
    dsimp only [s_ins, s_astore] at h
    split at h
    · exact aw_astore X (Nat.blt_eq.mp o4) o1 (hK _ _ _ _ ((fLs_iff _ _).mp h))
    · exact h.elim
  case astore_n j =>
    dsimp only [lenI] at o1 o2; subst o2
    dsimp only [s_ins, s_astore] at h
    split at h
    · exact aw_astore_n X (Nat.blt_eq.mp o4) o1 (hK _ _ _ _ ((fLs_iff _ _).mp h))
    · exact h.elim
  case lstore j =>
    dsimp only [lenI] at o1 o2; subst o2
    dsimp only [s_ins, s_lstore] at h
    split at h
    · exact aw_lstore X (Nat.blt_eq.mp o4) o1 (hK _ _ _ _ ((fLs_iff _ _).mp h))
    · exact h.elim
  case lstore_n j =>
    dsimp only [lenI] at o1 o2; subst o2
    dsimp only [s_ins, s_lstore] at h
    split at h
    · exact aw_lstore_n X (Nat.blt_eq.mp o4) o1 (hK _ _ _ _ ((fLs_iff _ _).mp h))
    · exact h.elim
  case iinc j v =>
    dsimp only [lenI] at o1 o2; subst o2
    dsimp only [s_ins, s_iinc] at h
    split at h
    · rename_i x e; exact aw_iinc X e (Nat.blt_eq.mp o4) o1 (hK _ _ _ _ ((fLs_iff _ _).mp h))
    · exact h.elim
  case iadd =>
    dsimp only [lenI] at o1 o2; subst o2
    dsimp only [s_ins, s_iadd] at h
    split at h
    · exact aw_iadd X o1 (hK _ _ _ _ h)
    · exact h.elim
  case isub =>
    dsimp only [lenI] at o1 o2; subst o2
    dsimp only [s_ins, s_isub] at h
    split at h
    · exact aw_isub X o1 (hK _ _ _ _ h)
    · exact h.elim
  case imul =>
    dsimp only [lenI] at o1 o2; subst o2
    dsimp only [s_ins, s_imul] at h
    split at h
    · exact aw_imul X o1 (hK _ _ _ _ h)
    · exact h.elim
  case iand =>
    dsimp only [lenI] at o1 o2; subst o2
    dsimp only [s_ins, s_iand] at h
    split at h
    · exact aw_iand X o1 (hK _ _ _ _ h)
    · exact h.elim
  case ior =>
    dsimp only [lenI] at o1 o2; subst o2
    dsimp only [s_ins, s_ior] at h
    split at h
    · exact aw_ior X o1 (hK _ _ _ _ h)
    · exact h.elim
  case ixor =>
    dsimp only [lenI] at o1 o2; subst o2
    dsimp only [s_ins, s_ixor] at h
    split at h
    · exact aw_ixor X o1 (hK _ _ _ _ h)
    · exact h.elim
  case idiv =>
    dsimp only [lenI] at o1 o2; subst o2
    dsimp only [s_ins, s_idiv] at h
    split at h
    · exact aw_idiv X h.1 o1 (hK _ _ _ _ h.2)
    · exact h.elim
  case irem =>
    dsimp only [lenI] at o1 o2; subst o2
    dsimp only [s_ins, s_irem] at h
    split at h
    · exact aw_irem X h.1 o1 (hK _ _ _ _ h.2)
    · exact h.elim
  case ishl =>
    dsimp only [lenI] at o1 o2; subst o2
    dsimp only [s_ins, s_ishl] at h
    split at h
    · exact aw_ishl X h.1 o1 (hK _ _ _ _ h.2)
    · exact h.elim
  case ishr =>
    dsimp only [lenI] at o1 o2; subst o2
    dsimp only [s_ins, s_ishr] at h
    split at h
    · exact aw_ishr X h.1 o1 (hK _ _ _ _ h.2)
    · exact h.elim
  case iushr =>
    dsimp only [lenI] at o1 o2; subst o2
    dsimp only [s_ins, s_iushr] at h
    split at h
    · exact aw_iushr X h.1 o1 (hK _ _ _ _ h.2)
    · exact h.elim
  case ineg =>
    dsimp only [lenI] at o1 o2; subst o2
    dsimp only [s_ins, s_ineg] at h
    split at h
    · exact aw_ineg X o1 (hK _ _ _ _ h)
    · exact h.elim
  case ladd =>
    dsimp only [lenI] at o1 o2; subst o2
    dsimp only [s_ins, s_ladd] at h
    split at h
    · exact aw_ladd X o1 (hK _ _ _ _ h)
    · exact h.elim
  case lsub =>
    dsimp only [lenI] at o1 o2; subst o2
    dsimp only [s_ins, s_lsub] at h
    split at h
    · exact aw_lsub X o1 (hK _ _ _ _ h)
    · exact h.elim
  case lmul =>
    dsimp only [lenI] at o1 o2; subst o2
    dsimp only [s_ins, s_lmul] at h
    split at h
    · exact aw_lmul X o1 (hK _ _ _ _ h)
    · exact h.elim
  case ldiv =>
    dsimp only [lenI] at o1 o2; subst o2
    dsimp only [s_ins, s_ldiv] at h
    split at h
    · exact aw_ldiv X h.1 o1 (hK _ _ _ _ h.2)
    · exact h.elim
  case lrem =>
    dsimp only [lenI] at o1 o2; subst o2
    dsimp only [s_ins, s_lrem] at h
    split at h
    · exact aw_lrem X h.1 o1 (hK _ _ _ _ h.2)
    · exact h.elim
  case lneg =>
    dsimp only [lenI] at o1 o2; subst o2
    dsimp only [s_ins, s_lneg] at h
    split at h
    · exact aw_lneg X o1 (hK _ _ _ _ h)
    · exact h.elim
  case lshr =>
    dsimp only [lenI] at o1 o2; subst o2
    dsimp only [s_ins, s_lshr] at h
    split at h
    · exact aw_lshr X h.1 o1 (hK _ _ _ _ h.2)
    · exact h.elim
  case lcmp =>
    dsimp only [lenI] at o1 o2; subst o2
    dsimp only [s_ins, s_lcmp] at h
    split at h
    · exact aw_lcmp X h.1 o1 (hK _ _ _ _ h.2)
    · exact h.elim
  case i2l =>
    dsimp only [lenI] at o1 o2; subst o2
    dsimp only [s_ins, s_i2l] at h
    split at h
    · exact aw_i2l X h.1 o1 (hK _ _ _ _ h.2)
    · exact h.elim
  case l2i =>
    dsimp only [lenI] at o1 o2; subst o2
    dsimp only [s_ins, s_l2i] at h
    split at h
    · exact aw_l2i X o1 (hK _ _ _ _ h)
    · exact h.elim
  case dup =>
    dsimp only [lenI] at o1 o2; subst o2
    dsimp only [s_ins, s_dup] at h
    split at h
    · exact aw_dup X rfl o1 (hK _ _ _ _ h)
    · exact aw_dup X rfl o1 (hK _ _ _ _ h)
    · exact h.elim
  case dup2 =>
    dsimp only [lenI] at o1 o2; subst o2
    dsimp only [s_ins, s_dup2] at h
    split at h
    · exact aw_dup2 X rfl rfl o1 (hK _ _ _ _ h)
    · exact h.elim
  case pop =>
    dsimp only [lenI] at o1 o2; subst o2
    dsimp only [s_ins, s_pop] at h
    split at h
    · exact aw_pop X rfl o1 (hK _ _ _ _ h)
    · exact aw_pop X rfl o1 (hK _ _ _ _ h)
    · exact h.elim
  case ifCond k o =>
    dsimp only [lenI] at o1 o2; subst o2
    dsimp only [s_ins, s_if] at h
    split at h
    · simp only [offI, List.map_cons, List.map_nil, List.cons.injEq, and_true] at o3
      exact aw_if X o3 o1 (s_br_mono (hK _ _ _ _) (hK _ _ _ _) h)
    · exact h.elim
  case if_icmp k o =>
    dsimp only [lenI] at o1 o2; subst o2
    dsimp only [s_ins, s_icmp] at h
    split at h
    · simp only [offI, List.map_cons, List.map_nil, List.cons.injEq, and_true] at o3
      exact aw_icmp X o3 o1 (s_br_mono (hK _ _ _ _) (hK _ _ _ _) h)
    · exact h.elim
  case goto o =>
    dsimp only [lenI] at o1 o2; subst o2
    dsimp only [s_ins, s_goto] at h
    split at h
    · simp only [offI, List.map_cons, List.map_nil, List.cons.injEq, and_true] at o3
      exact aw_goto X o3 o1 (hK _ _ _ _ h)
    · exact h.elim
  case tableswitch d lo hi os =>
    dsimp only [s_ins, s_sw] at h
    split at h
    · rename_i x r dt ts
      have hsw : ∀ (ts : List Nat) (lo : Int), s_sws (fun t => K t lc r M) x lo ts → s_sws (fun t => AW p l e R s m args below meth c nL Z (MQ below (Qcall Z k g vs M0) args s 0 0 (zB Z)) t lc r M) x lo ts := by
        intro ts
        induction ts with
        | nil => intro lo h; trivial
        | cons a b ih => intro lo h; exact ⟨fun q => hK _ _ _ _ (h.1 q), ih _ h.2⟩
      exact aw_sw X (of_decide_eq_true o4) o3 o1 h.1 (fun q => hK _ _ _ _ (h.2.1 q)) (hsw ts lo h.2.2)
    · exact h.elim
  case getfield ix =>
    dsimp only [lenI] at o1 o2; subst o2
    dsimp only [s_ins, s_getf] at h
    split at h
    · rename_i ci kk t o r e
      have hq := hP.2.1 _ (lkN_mem e)
      have h4 := hq.2.2.2
      dsimp only at h4
      have h5 := hK _ _ _ _ h.2
      rw [← h4.2 o h.1] at h5
      exact aw_getr X ⟨hq.1, hq.2.1, hP.1, hq.2.2.1⟩ h4.1 h.1 o1 h5
    · rename_i ci kk t o r e
      have hq := hP.2.1 _ (lkN_mem e)
      have h4 := hq.2.2.2
      dsimp only at h4
      have h5 := hK _ _ _ _ h.2
      rw [← h4.2 o h.1] at h5
      exact aw_getr X ⟨hq.1, hq.2.1, hP.1, hq.2.2.1⟩ h4.1 h.1 o1 h5
    · rename_i ci kk wh t o r hn4 hn2 e
      have hq := hP.2.1 _ (lkN_mem e)
      have hri : isRefT (tyF ci kk) = false := by
        have h4 := hq.2.2.2
        match wh, hn4, hn2, h4 with
        | 0, _, _, h4 => rw [h4.1]; rfl
        | 1, _, _, h4 => rw [h4.1]; rfl
        | 2, _, hne, _ => exact (hne rfl).elim
        | 3, _, _, h4 => exact h4
        | 4, hne, _, _ => exact (hne rfl).elim
        | n + 5, _, _, h4 => exact h4.elim
      exact aw_geti X ⟨hq.1, hq.2.1, hP.1, hq.2.2.1⟩ hri h.1 o1 (hK _ _ _ _ h.2)
    · exact h.elim
  case putfield ix =>
    dsimp only [lenI] at o1 o2; subst o2
    dsimp only [s_ins, s_putf] at h
    split at h
    · rename_i ci kk t9 x o r e
      have hq := hP.2.1 _ (lkN_mem e)
      exact aw_puti X ⟨hq.1, hq.2.1, hP.1, hq.2.2.1⟩ hq.2.2.2.2 (Or.inl hq.2.2.2.1) h.1 o1 (hK _ _ _ _ h.2)
    · rename_i ci kk t9 x o r e
      have hq := hP.2.1 _ (lkN_mem e)
      exact aw_puti X ⟨hq.1, hq.2.1, hP.1, hq.2.2.1⟩ hq.2.2.2.2 (Or.inr ⟨hq.2.2.2.1, h.1.2⟩) h.1.1 o1 (hK _ _ _ _ h.2)
    · exact h.elim
  case iaload =>
    dsimp only [lenI] at o1 o2; subst o2
    dsimp only [s_ins, s_ald] at h
    split at h
    · exact aw_iald X (hln _) h.1 o1 (hK _ _ _ _ h.2)
    · exact h.elim
  case baload =>
    dsimp only [lenI] at o1 o2; subst o2
    dsimp only [s_ins, s_ald] at h
    split at h
    · exact aw_zald X (hln _) h.1 o1 (hK _ _ _ _ h.2)
    · exact h.elim
  case iastore =>
    dsimp only [lenI] at o1 o2; subst o2
    dsimp only [s_ins, s_iast] at h
    split at h
    · exact aw_iast X (hln _) h.1 o1 (hK _ _ _ _ h.2)
    · exact h.elim
  case bastore =>
    dsimp only [lenI] at o1 o2; subst o2
    dsimp only [s_ins, s_bast] at h
    split at h
    · exact aw_zast X (hln _) h.1 o1 (hK _ _ _ _ h.2)
    · exact h.elim
  case arraylength =>
    dsimp only [lenI] at o1 o2; subst o2
    dsimp only [s_ins, s_alen] at h
    split at h
    · exact aw_alen X h.1 o1 (hK _ _ _ _ h.2)
    · exact h.elim
  case invokevirtual ix =>
    dsimp only [lenI] at o1 o2; subst o2
    dsimp only [s_ins, s_inv] at h
    split at h
    · rename_i hb; cases hb
    · rename_i kd cl e hb
      obtain ⟨vr, rest, e1, e2, h3⟩ := splA_iff h
      subst e2
      cases hcat : okA (vr.reverse ++ []) rest with
      | false => rw [hcat] at h3; exact h3.elim
      | true =>
      rw [hcat] at h3
      dsimp only [cond_true] at h3
      simp only [List.append_nil] at h3 hcat
      have hq := hC _ (lkN_mem e)
      have h3 : s_rcv kd vr.reverse (s_go cl vr.reverse rest K (pc + 3) lc M) := h3
      cases hv : vr.reverse with
      | nil => rw [hv] at h3; exact h3.elim
      | cons v0 vs0 =>
      rcases v0 with x | x | o
      · rw [hv] at h3; exact h3.elim
      · rw [hv] at h3; exact h3.elim
      · rw [hv] at h3
        obtain ⟨gg, g1, g2⟩ := s_go_aft hK h3.2
        have := hq pc lc (.inr (.inr o) :: vs0) rest M o1 h3.1 (by rw [← hv]; simpa using e1) (okA_iff hcat).1 (by rw [← hv]; exact (okA_iff hcat).2) gg g1 g2
        rw [← hv, List.reverse_reverse] at this
        exact this
    · exact h.elim
  case invokestatic ix =>
    dsimp only [lenI] at o1 o2; subst o2
    dsimp only [s_ins, s_inv] at h
    split at h
    · rename_i cl e hb
      obtain ⟨vr, rest, e1, e2, h3⟩ := splA_iff h
      subst e2
      cases hcat : okA (vr.reverse ++ []) rest with
      | false => rw [hcat] at h3; exact h3.elim
      | true =>
      rw [hcat] at h3
      dsimp only [cond_true] at h3
      simp only [List.append_nil] at h3 hcat
      have hq := hC _ (lkN_mem e)
      obtain ⟨gg, g1, g2⟩ := s_go_aft hK h3
      have := hq pc lc vr.reverse rest M o1 trivial (by simpa using e1) (okA_iff hcat).1 (okA_iff hcat).2 gg g1 g2
      rw [List.reverse_reverse] at this
      exact this
    · rename_i hb; cases hb
    · exact h.elim
  case ireturn => dsimp only [lenI] at o1 o2; exact aw_iret X hr hlocks hrt o1 h
  case return_ => dsimp only [lenI] at o1 o2; exact aw_ret X hr hlocks hrt o1 h
  all_goals exact h.elim
theorem s_run_sound {t : Tt} {N rt : Nat} {P : Pool} {k : Call} {g : k.1} {vs : List AV} {M0 : Mem} {ret : Option FieldType} (X : CX p s m args c cc nL own Ts Z) (hr : meth.sig.returnType = ret) (hlocks : meth.locks = false) (hrt : rtOk ret rt k) (hT : okT cc (tWn N t) N nL = true) (hP : PoolW own Ts P) (hln : ∀ a, lnF (zN Z) a < 2147483648)
    (hC : ∀ q ∈ P.2.2.2, CallOk (AW p l e R s m args below meth c nL Z (MQ below (Qcall Z k g vs M0) args s 0 0 (zB Z))) cc q) (stops : List Nat) :
    ∀ (n pc : Nat) (lc : Lc) (st : List AV) (M : Mem), s_run (tWn N t) P (rvF k g vs M0 rt) (zN Z) (AW p l e R s m args below meth c nL Z (MQ below (Qcall Z k g vs M0) args s 0 0 (zB Z))) stops n pc lc st M → AW p l e R s m args below meth c nL Z (MQ below (Qcall Z k g vs M0) args s 0 0 (zB Z)) pc lc st M := by
  intro n
  induction n with
  | zero => intro pc lc st M h; exact h
  | succ n ih =>
    intro pc lc st M h
    refine s_one_sound X hr hlocks hrt hT hP hln hC (fun pc lc st M h => ?_) h
    cases hs : elN stops pc with
    | true => rw [hs] at h; exact h.1
    | false => rw [hs] at h; exact ih pc lc st M h
end RULE
end
section
/-! ===== contracts of methods, and calls by them ===== -/
abbrev rmd (d : Nat) : Room := { frames := d, cells := 0, slots := 0, locals := 64 * d }
abbrev WSy (y : MethodName) (cc : ByteArray) (maxL : Nat) (ret : Option FieldType) : List Jvm.Cond := Jvm.Cond.code y cc maxL ret :: BIG
abbrev GWd (Z : ZT) (M : Mem) (U : State) : Prop := va_P Z.1 vwCl (wldF Z M) U.heap ∧ va_K Z.1 vwCl (zT Z) U
/-- method y keeps contract k within d frames -/
def Impl (l : Launch) (Z : ZT) (y : MethodName) (cc : ByteArray) (maxL : Nat) (ret : Option FieldType) (d : Nat) (k : Call) : Prop := ∀ (g : k.1) (vs : List AV) (M : Mem), vs.length = k.2.1 → noLng vs = true → k.2.2.1 g vs M →
  Met l y (WSy y cc maxL ret) (rmd d) (va_Pc (vs.map (cvF Z)) (GWd Z M)) (Qcall Z k g vs M) 0 0 (zB Z)
theorem good_big {x : Jvm.Cond} {L : List Jvm.Cond} (h : ∀ w ∈ L, w ∈ BIG) : GoodIn (x :: BIG) L := fun w hw => ⟨List.mem_cons_of_mem _ (h w hw), good_of_word (big_gd w (h w hw))⟩
theorem gw_blind {Z : ZT} {M : Mem} {av : List Value} : FrameBlind (va_Pc av (GWd Z M)) := fun a U g mk q => ⟨q.1, q.2.1, va_K.moved (u := U) (U := U.calling g mk a) (Vm.Alike.refl U.vm) q.2.2⟩
theorem cat_sum (Z : ZT) (st : List AV) : ((st.map (cvF Z)).map fun v => v.category).sum = catA st := by
  induction st with
  | nil => rfl
  | cons v r ih =>
    rcases v with x | x | x
    · simp [cvF, Value.category, catA, ih] at *; omega
    · simp [cvF, Value.category, catA, ih] at *; omega
    · simp [cvF, Value.category, catA, ih] at *; omega
section CALLS
variable {p : Program} {l : Launch} {e : Env} {s : State} {m : MethodId} {args : Array Value} {below : List Frame} {meth : Method} {c : Code} {Q : State → Prop} {cc : ByteArray} {nL : Nat} {own : String} {x0 : Jvm.Cond} {Z : ZT}
theorem callOk_V {d d' maxL kd ix : Nat} {y : MethodName} {cc' : ByteArray} {ret : Option FieldType} {k : Call} (X : CX p s m args c cc nL own (x0 :: BIG) Z) (hI : Impl l Z y cc' maxL ret d' k) (hk : kd < 9) (hyc : y.cls = tnF kd) (hml : Jvm.Cond.methodLink own ix y ∈ BIG) (hiw : Jvm.Cond.instanceMethod y ∈ BIG) (hvw : Jvm.Cond.selects y.cls y y ∈ BIG) (hnw : Jvm.Cond.initialized y.cls ∈ BIG) (hcw : Jvm.Cond.code y cc' maxL ret ∈ BIG)
    (hd : y.cls ≠ "java/lang/invoke/MethodHandle" ∧ y.cls ≠ "java/lang/invoke/VarHandle" ∧ (parseMethodDescriptor y.desc).map (fun d => d.parameters.length) = some (k.2.1 - 1)) (hlev : d' + 1 ≤ d ∧ maxL ≤ 45) :
    CallOk (AW p l e (rmd d) s m args below meth c nL Z Q) cc (ix, some kd, k) := by
  intro pc lc vs rest M hdec hrc hlen hcat hnl g hpre haft
  match vs, hrc, hlen, hnl, hpre, haft with
  | .inr (.inr o) :: vs', hrc, hlen, hnl, hpre, haft =>
  intro H locs ls hl hP hS
  have hst : (((.inr (.inr o) : AV) :: vs').reverse ++ rest).map (cvF Z) = (vs'.map (cvF Z)).reverse ++ .ref (zA Z o) :: rest.map (cvF Z) := by
    simp [cvF]
  rw [hst]
  have hM := hI g (.inr (.inr o) :: vs') M hlen hnl hpre
  have hlsz : ls.size = nL := by obtain ⟨-, lv, h1, -⟩ := hl; exact h1.1
  have hG : GoodIn (x0 :: BIG) (wsV own ix y.cls y (WSy y cc' maxL ret)) := good_big (fun w hw => by
    rcases List.mem_append.mp hw with hw | hw
    · simp only [List.mem_cons, List.not_mem_nil, or_false] at hw
      rcases hw with rfl | rfl | rfl | rfl <;> assumption
    · rcases List.mem_cons.mp hw with rfl | hw
      · exact hcw
      · exact hw)
  have hcw2 : CallW (rmd d) s args own y.cls ix y cc' maxL ret (WSy y cc' maxL ret) (rmd d') 0 0 (k.2.1 - 1) := cwV (k.2.1 - 1) X.2.2.2.2.1 hG rfl rfl rfl ⟨rfl, hd⟩ ⟨hlev.1, by have := hlev.1; have := hlev.2; show 8 + (maxL + 11) + 64 * d' ≤ 64 * d; omega⟩
  have h6 : o < 67 := kdF_lt (by have : kdF o = kd := hrc; omega)
  have hrecv : ∃ cellB : Cell, H[zA Z o]? = some cellB ∧ cellB.vm.isStatics = false ∧ s.vm.findClass y.cls = some cellB.cls := by
    have hrc : kdF o = kd := hrc
    have := va_recv X.2.2.2.2.2.1 hP (kindF kd hk).1 (q0 := o) (a := zA Z o) (fs := (List.range (nfF (kdF o))).map (fldF Z M o)) ((wldF_at Z M h6).trans (by rw [cellF_o Z M (by omega), hrc]))
    rw [hyc]
    exact this
  have hpv : PreV s H y.cls (zA Z o) (va_Pc (((.inr (.inr o) : AV) :: vs').map (cvF Z)) (GWd Z M)) (vs'.map (cvF Z)) := ⟨gw_blind, hrecv, fun U hU hW => ⟨rfl, by rw [hU]; exact hP, va_K.moved hW.alike X.2.2.2.2.2.1⟩⟩
  obtain ⟨G, kn, kp, kq⟩ := k
  have hlv : (vs'.map (cvF Z)).length = kn - 1 := by have : (vs'.length + 1) = kn := hlen; simp; omega
  have hrun := va_runV (g := F0 m pc ls ((vs'.map (cvF Z)).reverse ++ .ref (zA Z o) :: rest.map (cvF Z))) (As := vs'.map (cvF Z)) (rest := rest.map (cvF Z)) (locs := locs) (cells := 0) (slots := 0) (below := below) (e := e) (meth := meth) (H := H) ⟨X.1, X.2.1, X.2.2.1, X.2.2.2.1, X.2.2.2.2.1⟩ hM hcw2 hpv rfl hlv hlsz rfl (lv_room (by rw [cat_sum]; exact hcat)) hdec ⟨Nat.le_refl _, Nat.le_refl _⟩
  cases kq with
  | inl pv =>
    refine va_callv (a := (((.inr (.inr o) : AV) :: vs').map (cvF Z)).toArray) hrun hS (fun q _ h => h) (fun q h => h) (fun u t H1 locs1 ht hvm hw hB hz hk1 hS1 => ?_)
    rw [ht] at hB
    exact haft u hw H1 locs1 ls hl hB.1 hS1
  | inr pi =>
    refine va_calli (a := (((.inr (.inr o) : AV) :: vs').map (cvF Z)).toArray) hrun hS (fun q _ h => h) (fun q h => h) (fun r u t H1 locs1 ht hvm hw hB hz hk1 hS1 => ?_)
    rw [ht] at hB
    have := haft u.1 u.2 hw.2 H1 locs1 ls hl hB.1 hS1
    rw [hw.1]
    exact this
theorem callOk_S {d d' maxL ix : Nat} {y : MethodName} {cc' : ByteArray} {ret : Option FieldType} {k : Call} (X : CX p s m args c cc nL own (x0 :: BIG) Z) (hI : Impl l Z y cc' maxL ret d' k) (hml : Jvm.Cond.methodLink own ix y ∈ BIG) (hsw : Jvm.Cond.static y ∈ BIG) (hnw : Jvm.Cond.initialized y.cls ∈ BIG) (hcw : Jvm.Cond.code y cc' maxL ret ∈ BIG)
    (hd : y.cls ≠ "java/lang/invoke/MethodHandle" ∧ y.cls ≠ "java/lang/invoke/VarHandle" ∧ (parseMethodDescriptor y.desc).map (fun d => d.parameters.length) = some k.2.1) (hlev : d' + 1 ≤ d ∧ maxL ≤ 45) :
    CallOk (AW p l e (rmd d) s m args below meth c nL Z Q) cc (ix, none, k) := by
  intro pc lc vs rest M hdec hrc hlen hcat hnl g hpre haft
  intro H locs ls hl hP hS
  have hst : (vs.reverse ++ rest).map (cvF Z) = (vs.map (cvF Z)).reverse ++ rest.map (cvF Z) := by simp
  rw [hst]
  have hM := hI g vs M hlen hnl hpre
  have hlsz : ls.size = nL := by obtain ⟨-, lv, h1, -⟩ := hl; exact h1.1
  have hG : GoodIn (x0 :: BIG) (va_wsS own ix y (WSy y cc' maxL ret)) := good_big (fun w hw => by
    rcases List.mem_append.mp hw with hw | hw
    · simp only [List.mem_cons, List.not_mem_nil, or_false] at hw
      rcases hw with rfl | rfl | rfl <;> assumption
    · rcases List.mem_cons.mp hw with rfl | hw
      · exact hcw
      · exact hw)
  have hcw2 := va_cwS (R := rmd d) (rm := rmd d') (mc := 0) (ms := 0) k.2.1 X.2.2.2.2.1 hG rfl rfl rfl hd ⟨hlev.1, by have := hlev.1; have := hlev.2; show 8 + (maxL + 11) + 64 * d' ≤ 64 * d; omega⟩
  have hpv : PreS s H (va_Pc (vs.map (cvF Z)) (GWd Z M)) (vs.map (cvF Z)) := ⟨gw_blind, fun U hU hW => ⟨rfl, by rw [hU]; exact hP, va_K.moved hW.alike X.2.2.2.2.2.1⟩⟩
  obtain ⟨G, kn, kp, kq⟩ := k
  have hlv : (vs.map (cvF Z)).length = kn := by simpa using hlen
  have hrun := va_runS (g := F0 m pc ls ((vs.map (cvF Z)).reverse ++ rest.map (cvF Z))) (As := vs.map (cvF Z)) (rest := rest.map (cvF Z)) (locs := locs) (cells := 0) (slots := 0) (below := below) (e := e) (meth := meth) (H := H) ⟨X.1, X.2.1, X.2.2.1, X.2.2.2.1, X.2.2.2.2.1⟩ hM hcw2 hpv rfl hlv hlsz rfl (lv_room (by rw [cat_sum]; exact hcat)) hdec ⟨Nat.le_refl _, Nat.le_refl _⟩
  cases kq with
  | inl pv =>
    refine va_callv (a := (vs.map (cvF Z)).toArray) hrun hS (fun q _ h => h) (fun q h => h) (fun u t H1 locs1 ht hvm hw hB hz hk1 hS1 => ?_)
    rw [ht] at hB
    exact haft u hw H1 locs1 ls hl hB.1 hS1
  | inr pi =>
    refine va_calli (a := (vs.map (cvF Z)).toArray) hrun hS (fun q _ h => h) (fun q h => h) (fun r u t H1 locs1 ht hvm hw hB hz hk1 hS1 => ?_)
    rw [ht] at hB
    have := haft u.1 u.2 hw.2 H1 locs1 ls hl hB.1 hS1
    rw [hw.1]
    exact this
/-- arraycopy between rows of ints, as a contract -/
def cpC (n : Nn) : Call := ⟨Unit, 5, (fun _ vs _ => match vs with
  | [.inr (.inr a), .inl sp, .inr (.inr b), .inl dp, .inl k] => kdF a = 100 ∧ kdF b = 100 ∧ 0 ≤ sp ∧ 0 ≤ dp ∧ 0 ≤ k ∧ sp + k ≤ (lnF n a : Int) ∧ dp + k ≤ (lnF n b : Int)
  | _ => False), .inl (fun _ vs M M' => match vs with
  | [.inr (.inr a), .inl sp, .inr (.inr b), .inl dp, .inl k] => M' = va_up M b (va_cpy (M a) (M b) sp.toNat dp.toNat k.toNat)
  | _ => False)⟩
theorem callOk_cp {d ix : Nat} (X : CX p s m args c cc nL own (x0 :: BIG) Z) (hln : ∀ a, lnF (zN Z) a < 2147483648) (hw : Jvm.Cond.methodLink own ix arraycopyName ∈ BIG ∧ Jvm.Cond.native arraycopyName ∈ BIG ∧ Jvm.Cond.static arraycopyName ∈ BIG ∧ Jvm.Cond.initialized "java/lang/System" ∈ BIG) (hd : 1 ≤ d) :
    CallOk (AW p l e (rmd d) s m args below meth c nL Z Q) cc (ix, none, cpC (zN Z)) := by
  intro pc lc vs rest M hdec hrc hlen hcat hnl g hpre haft
  match vs, hpre, haft with
  | [.inr (.inr a), .inl sp, .inr (.inr b), .inl dp, .inl k], hpre, haft =>
  exact aw_copy X ⟨List.mem_cons_of_mem _ hw.1, List.mem_cons_of_mem _ hw.2.1, List.mem_cons_of_mem _ hw.2.2.1, List.mem_cons_of_mem _ hw.2.2.2⟩ (hln a) (hln b) ⟨hd, by show 40 ≤ 64 * d; omega⟩ hcat hpre hdec (haft _ rfl)
end CALLS
/-- a call of a method's own pool that is in order, whatever the machine's state -/
def CallI (l : Launch) (Z : ZT) (own : String) (d : Nat) (q : Nat × Option Nat × Call) : Prop := ∀ (p : Program) (e : Env) (s : State) (m : MethodId) (args : Array Value) (below : List Frame) (meth : Method) (c : Code) (Q : State → Prop) (cc : ByteArray) (nL : Nat) (x0 : Jvm.Cond), CX p s m args c cc nL own (x0 :: BIG) Z → CallOk (AW p l e (rmd d) s m args below meth c nL Z Q) cc q
theorem lv_args_mem (Z : ZT) (vs : List AV) : ∀ (i j : Nat) (w : AV), noLng vs = true → vs[j]? = some w → (i + j, cvF Z w) ∈ lv_args i (vs.map (cvF Z)) := by
  induction vs with
  | nil => intro i j w _ h; simp at h
  | cons v r ih =>
    intro i j w hn h
    have hv : (cvF Z v).category = 1 ∧ noLng r = true := by
      rcases v with x | x | x
      · exact ⟨rfl, hn⟩
      · cases hn
      · exact ⟨rfl, hn⟩
    rw [List.map_cons, lv_args]
    cases j with
    | zero => simp at h; subst h; exact List.mem_cons_self
    | succ j =>
      refine List.mem_cons_of_mem _ ?_
      rw [if_neg (by rw [hv.1]; decide)]
      have := ih (i + 1) j w hv.2 (by simpa using h)
      rw [show i + (j + 1) = i + 1 + j by omega]
      exact this
theorem lg_sl_len (Z : ZT) (vs : List AV) (h : noLng vs = true) : (lg_sl (vs.map (cvF Z))).length = vs.length := by
  induction vs with
  | nil => rfl
  | cons v r ih =>
    have hv : (cvF Z v).category = 1 ∧ noLng r = true := by
      rcases v with x | x | x
      · exact ⟨rfl, h⟩
      · cases h
      · exact ⟨rfl, h⟩
    have e : lg_sl (cvF Z v :: r.map (cvF Z)) = (if (cvF Z v).category = 2 then [Slot.val (cvF Z v), .second] else [Slot.val (cvF Z v)]) ++ lg_sl (r.map (cvF Z)) := by
      unfold lg_sl
      rw [List.flatMap_cons]
    rw [List.map_cons, e, if_neg (by rw [hv.1]; decide), List.length_append, ih hv.2]
    simp
    omega
/-- what is checked of a method's pool by computation, as a proposition -/
def FdW (own : String) (F : List (Nat × Nat × Nat × Nat × Nat)) : Prop := ∀ q ∈ F, q.2.1 < 9 ∧ q.2.2.1 < nfF q.2.1 ∧ Jvm.Cond.fieldLink own q.1 (ttF q.2.1 q.2.2.1).1 (ttF q.2.1 q.2.2.1).2.1 (ttF q.2.1 q.2.2.1).2.2.1 ∈ BIG ∧ (match q.2.2.2.1 with
  | 0 => tyF q.2.1 q.2.2.1 = .int ∧ (ttF q.2.1 q.2.2.1).2.2.2 = false
  | 1 => tyF q.2.1 q.2.2.1 = .boolean ∧ (ttF q.2.1 q.2.2.1).2.2.2 = false
  | 2 => isRefT (tyF q.2.1 q.2.2.1) = true ∧ ∀ o, kdF o = q.2.1 → rfF o q.2.2.1 = o + 1
  | 3 => isRefT (tyF q.2.1 q.2.2.1) = false
  | 4 => isRefT (tyF q.2.1 q.2.2.1) = true ∧ ∀ o, kdF o = q.2.1 → rfF o q.2.2.1 = q.2.2.2.2
  | _ => False)
def fdKB (q : Nat × Nat × Nat × Nat × Nat) : Bool := match q.2.2.2.1 with
  | 0 => decide (tyF q.2.1 q.2.2.1 = .int) && !(ttF q.2.1 q.2.2.1).2.2.2
  | 1 => decide (tyF q.2.1 q.2.2.1 = .boolean) && !(ttF q.2.1 q.2.2.1).2.2.2
  | 2 => isRefT (tyF q.2.1 q.2.2.1) && (List.range 67).all (fun o => decide (kdF o = q.2.1 → rfF o q.2.2.1 = o + 1))
  | 3 => !isRefT (tyF q.2.1 q.2.2.1)
  | 4 => isRefT (tyF q.2.1 q.2.2.1) && (List.range 67).all (fun o => decide (kdF o = q.2.1 → rfF o q.2.2.1 = q.2.2.2.2))
  | _ => false
theorem fdW_of (own : String) (F : List (Nat × Nat × Nat × Nat × Nat)) (ps : List Nat) (h1 : (F.map (fun q => Jvm.Cond.fieldLink own q.1 (ttF q.2.1 q.2.2.1).1 (ttF q.2.1 q.2.2.1).2.1 (ttF q.2.1 q.2.2.1).2.2.1)).map some = ps.map (fun i => lw_tbl[i]?)) (h2 : F.all (fun q => decide (q.2.1 < 9) && (decide (q.2.2.1 < nfF q.2.1) && fdKB q)) = true) : FdW own F := by
  have hb := bigAll (F.map (fun q => Jvm.Cond.fieldLink own q.1 (ttF q.2.1 q.2.2.1).1 (ttF q.2.1 q.2.2.1).2.1 (ttF q.2.1 q.2.2.1).2.2.1)) ps h1 (by
    rw [List.all_eq_true]
    intro w hw
    obtain ⟨q, -, rfl⟩ := List.mem_map.mp hw
    rfl)
  intro q hq
  have h3 := List.all_eq_true.mp h2 q hq
  simp only [Bool.and_eq_true, decide_eq_true_eq] at h3
  refine ⟨h3.1, h3.2.1, hb _ (List.mem_map.mpr ⟨q, hq, rfl⟩), ?_⟩
  have h4 := h3.2.2
  have h9 := h3.1
  obtain ⟨ix, ci, kk, wh, t⟩ := q
  unfold fdKB at h4
  dsimp only at h4 h9 ⊢
  match wh, h4 with
  | 0, h4 => simpa using h4
  | 1, h4 => simpa using h4
  | 2, h4 =>
    simp only [Bool.and_eq_true, List.all_eq_true] at h4
    exact ⟨h4.1, fun o ho => of_decide_eq_true (h4.2 o (List.mem_range.mpr (kd9 ho h9))) ho⟩
  | 3, h4 => simpa using h4
  | 4, h4 =>
    simp only [Bool.and_eq_true, List.all_eq_true] at h4
    exact ⟨h4.1, fun o ho => of_decide_eq_true (h4.2 o (List.mem_range.mpr (kd9 ho h9))) ho⟩
  | n + 5, h4 => cases h4
def IcW (own : String) (F : List (Nat × Int)) : Prop := ∀ q ∈ F, Jvm.Cond.constant own q.1 (Int32.ofInt q.2) ∈ BIG
def LcW (own : String) (F : List (Nat × Int)) : Prop := ∀ q ∈ F, Jvm.Cond.constantLong own q.1 (Int64.ofInt q.2) ∈ BIG
theorem icW_of (own : String) (F : List (Nat × Int)) (ps : List Nat) (h1 : (F.map (fun q => Jvm.Cond.constant own q.1 (Int32.ofInt q.2))).map some = ps.map (fun i => lw_tbl[i]?)) : IcW own F := by
  have hb := bigAll _ ps h1 (by
    rw [List.all_eq_true]
    intro w hw
    obtain ⟨q, -, rfl⟩ := List.mem_map.mp hw
    rfl)
  intro q hq
  exact hb _ (List.mem_map.mpr ⟨q, hq, rfl⟩)
theorem lcW_of (own : String) (F : List (Nat × Int)) (ps : List Nat) (h1 : (F.map (fun q => Jvm.Cond.constantLong own q.1 (Int64.ofInt q.2))).map some = ps.map (fun i => lw_tbl[i]?)) : LcW own F := by
  have hb := bigAll _ ps h1 (by
    rw [List.all_eq_true]
    intro w hw
    obtain ⟨q, -, rfl⟩ := List.mem_map.mp hw
    rfl)
  intro q hq
  exact hb _ (List.mem_map.mpr ⟨q, hq, rfl⟩)
set_option maxHeartbeats 2000000 in
/-- a method that keeps its contract by the steps keeps it in the machine -/
theorem mkImpl {l : Launch} {Z : ZT} {y : MethodName} {cc : ByteArray} {nL N rt d : Nat} {ret : Option FieldType} {k : Call} {t : Tt} {F : List (Nat × Nat × Nat × Nat × Nat)} {I J : List (Nat × Int)} {CL : List (Nat × Option Nat × Call)} (hZ : adOk Z) (hln : ∀ a, lnF (zN Z) a < 2147483648) (hy : plainName y.cls = true) (hT : okT cc (tWn N t) N nL = true) (hF : FdW y.cls F) (hI : IcW y.cls I) (hJ : LcW y.cls J) (hrt : rtOk ret rt k) (hn : k.2.1 ≤ nL)
    (hC : ∀ q ∈ CL, CallI l Z y.cls d q) (hV : Ver (tWn N t) (F, I, J, CL) rt nL (zN Z) k) : Impl l Z y cc nL ret d k := by
  intro g vs M0 hlen hnl hpre
  refine Met.ofW (cc := cc) (maxL := nL) (ret := ret) hy rfl ?_
  intro p e s m args below meth c s₁ B hml hv
  obtain ⟨rfl, hP, hK⟩ := hv
  have hts := atoms_spec (ws := WSy y cc nL ret) B.pre
  have hown : s.vm.findClass y.cls = some m.cls := findClass_of_methodNamed B.named
  have X : CX p s m ((vs.map (cvF Z)).toArray) c cc nL y.cls (WSy y cc nL ret) Z := ⟨B.exec, B.bytes, hml, hown, hts, hK, hZ⟩
  have hPW : PoolW y.cls (WSy y cc nL ret) (F, I, J, CL) := ⟨fun w h => List.mem_cons_of_mem _ h, fun q hq => ⟨(hF q hq).1, (hF q hq).2.1, List.mem_cons_of_mem _ (hF q hq).2.2.1, (hF q hq).2.2.2⟩, fun q hq => List.mem_cons_of_mem _ (hI q hq), fun q hq => List.mem_cons_of_mem _ (hJ q hq)⟩
  have key := hV g vs M0 hpre (AW p l e (rmd d) s m ((vs.map (cvF Z)).toArray) below meth c nL Z (MQ below (Qcall Z k g vs M0) ((vs.map (cvF Z)).toArray) s 0 0 (zB Z)))
    (fun n stops pc lc st M h => s_run_sound X B.returns B.notSynchronized hrt hT hPW hln (fun q hq => hC q hq p e s m _ below meth c _ cc nL _ X) stops n pc lc st M h)
  have hll := lg_sl_len Z vs hnl
  rw [lg_entry_eq]
  refine key s.heap [] _ ⟨?_, lv_args 0 (vs.map (cvF Z)), lv_entry _ (by rw [hll, hlen]; exact hn), ?_⟩ hP va_S.rf
  · simp [entL]; omega
  · intro j w hj
    unfold entL at hj
    by_cases hjl : j < vs.length
    · rw [List.getElem?_append_left (by simpa using hjl), List.getElem?_map] at hj
      cases hq : vs[j]? with
      | none => rw [hq] at hj; cases hj
      | some w' =>
        rw [hq] at hj
        cases hj
        have := lv_args_mem Z vs 0 j w hnl hq
        rwa [Nat.zero_add] at this
    · rw [List.getElem?_append_right (by simpa using hjl), List.getElem?_replicate] at hj
      split at hj <;> cases hj
end
section
theorem na_last : True := trivial
end
